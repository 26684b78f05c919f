/-! X: forgetLink and the survey -/
theorem ly_f68 {post : SX → Prop} {xbase xstrip xllen xtend xaend xlcnt xlrnd xlinked xblamed xouts xpc xsteps xran : Int32} {xops xA xB xcnt xrole xloc xglo xweak xuse xrep xunit xtgt xlong xlist xchosen xplace ximg xreg xstore xout : Nat → Int32} (H : ∀ st : Nat → Int32, (∀ i, i < 12 → st i = 0) → post (xbase, xstrip, xllen, xtend, xaend, xlcnt, xlrnd, xlinked, xblamed, xouts, xpc, xsteps, xran, xops, xA, xB, xcnt, xrole, xloc, xglo, xweak, xuse, xrep, xunit, xtgt, st, xlong, xlist, xchosen, xplace, ximg, xreg, xstore, xout)) : ∀ (d k : Nat) (st : Nat → Int32), k + d = 12 → (∀ i, i < k → st i = 0) → wX_forgetLink_68 post xbase xstrip xllen xtend xaend xlcnt xlrnd xlinked xblamed xouts xpc xsteps xran (d + 1) (nI k) xops xA xB xcnt xrole xloc xglo xweak xuse xrep xunit xtgt st xlong xlist xchosen xplace ximg xreg xstore xout := by
  intro d
  induction d with
  | zero =>
    intro k ou hd ho
    have e : k = 12 := by omega
    subst e
    exact br_t (by decide) (H ou ho)
  | succ d ih =>
    intro k ou hd ho
    refine br_f (nI_ge (b := 12) (by omega) (by omega)) ⟨vp_in_nI (by omega) (by omega), nm_r (e' := upd ou k 0) (by rw [ly_cl (i := k) (by omega), ly_nar0]) (nm_r (nI_1 k) (ih (k + 1) _ (by omega) (fun i hi => ?_)))⟩
    by_cases e : i = k
    · subst e; exact pk_us
    · rw [pk_un e]; exact ho i (by omega)
theorem ly_f32 {post : SX → Prop} {xbase xstrip xllen xtend xaend xlcnt xlrnd xlinked xblamed xouts xpc xsteps xran : Int32} {xops xA xB xcnt xrole xloc xglo xweak xuse xrep xunit xstay xlist xchosen ximg xreg xstore xout : Nat → Int32} (H : ∀ pl tg lo : Nat → Int32, (∀ i, i < 144 → pl i = -1 ∧ tg i = -1 ∧ lo i = 0) → ∃ n68, wX_forgetLink_68 post xbase xstrip xllen xtend xaend xlcnt xlrnd xlinked xblamed xouts xpc xsteps xran n68 0 xops xA xB xcnt xrole xloc xglo xweak xuse xrep xunit tg xstay lo xlist xchosen pl ximg xreg xstore xout) : ∀ (d k : Nat) (pl tg lo : Nat → Int32), k + d = 144 → (∀ i, i < k → pl i = -1 ∧ tg i = -1 ∧ lo i = 0) → wX_forgetLink_32 post xbase xstrip xllen xtend xaend xlcnt xlrnd xlinked xblamed xouts xpc xsteps xran (d + 1) (nI k) xops xA xB xcnt xrole xloc xglo xweak xuse xrep xunit tg xstay lo xlist xchosen pl ximg xreg xstore xout := by
  intro d
  induction d with
  | zero =>
    intro k pl tg lo hd ho
    have e : k = 144 := by omega
    subst e
    exact br_t (by decide) (H pl tg lo ho)
  | succ d ih =>
    intro k pl tg lo hd ho
    have ek : (nI k).toNatClampNeg = k := ly_cl (i := k) (by omega)
    refine br_f (nI_ge (b := 144) (by omega) (by omega)) ⟨vp_in_nI (by omega) (by omega), nm_r (e' := upd pl k (-1)) (by rw [ek]) ⟨vp_in_nI (by omega) (by omega), nm_r (e' := upd tg k (-1)) (by rw [ek]) ⟨vp_in_nI (by omega) (by omega), nm_r (e' := upd lo k 0) (by rw [ek, ly_nar0]) (nm_r (nI_1 k) (ih (k + 1) _ _ _ (by omega) (fun i hi => ?_)))⟩⟩⟩
    by_cases e : i = k
    · subst e; exact ⟨pk_us, pk_us, pk_us⟩
    · rw [pk_un e, pk_un e, pk_un e]; exact ho i (by omega)
theorem ly_forget {post : SX → Prop} {xbase xstrip xllen xtend xaend xlcnt xlrnd xlinked xblamed xouts xpc xsteps xran : Int32} {xops xA xB xcnt xrole xloc xglo xweak xuse xrep xunit xtgt xstay xlong xlist xchosen xplace ximg xreg xstore xout : Nat → Int32} (H : ∀ pl tg lo st : Nat → Int32, (∀ i, i < 144 → pl i = -1 ∧ tg i = -1 ∧ lo i = 0) → (∀ i, i < 12 → st i = 0) → post (xbase, xstrip, 0, xtend, xaend, 0, 0, 0, -1, xouts, xpc, xsteps, 0, xops, xA, xB, xcnt, xrole, xloc, xglo, xweak, xuse, xrep, xunit, tg, st, lo, xlist, xchosen, pl, ximg, xreg, xstore, xout)) : wpX_forgetLink post (xbase, xstrip, xllen, xtend, xaend, xlcnt, xlrnd, xlinked, xblamed, xouts, xpc, xsteps, xran, xops, xA, xB, xcnt, xrole, xloc, xglo, xweak, xuse, xrep, xunit, xtgt, xstay, xlong, xlist, xchosen, xplace, ximg, xreg, xstore, xout) :=
  ⟨145, ly_f32 (H := fun pl tg lo h => ⟨13, ly_f68 (H := fun st hst => H pl tg lo st h hst) 12 0 xstay (by omega) (fun i hi => by omega)⟩) 144 0 xplace xtgt xlong (by omega) (fun i hi => by omega)⟩
/-! bits of a mask -/
theorem ly_bb : ∀ f, f < 32 → ∀ i, i < 32 → bt ((1 : Int32) <<< (nI f &&& 31)) i = decide (i = f) := by decide +kernel
theorem ly_and0 {x : Int32} {f : Nat} (hf : f < 32) : (x &&& ((1 : Int32) <<< (nI f &&& 31))) = 0 ↔ bt x f = false := by
  constructor
  · intro h
    have e : bt (x &&& ((1 : Int32) <<< (nI f &&& 31))) f = false := by rw [h, b_0]
    rw [b_and, ly_bb f hf f hf, decide_eq_true rfl, Bool.and_true] at e
    exact e
  · intro h
    apply b_ext
    intro i hi
    rw [b_and, ly_bb f hf i hi, b_0]
    by_cases e : i = f
    · subst e; rw [h]; rfl
    · rw [decide_eq_false e, Bool.and_false]
theorem ly_orb {x : Int32} {f i : Nat} (hf : f < 32) (hi : i < 32) : bt (x ||| ((1 : Int32) <<< (nI f &&& 31))) i = (bt x i || decide (i = f)) := by
  rw [b_or, ly_bb f hf i hi]
/-- what the survey of labels knows of a module after k items -/
def ly_SL (o a b : Nat → Int32) (m k : Nat) (seen loc glo wk rp : Int32) : Prop :=
  (∀ s, s < 32 → bt seen s = ly_ex (ly_lb o a (nI s)) (24 * m) k ∧ bt loc s = ly_ex (ly_l3 o a b (nI s) 0) (24 * m) k ∧ bt glo s = ly_ex (ly_l3 o a b (nI s) 1) (24 * m) k ∧ bt wk s = ly_ex (ly_l3 o a b (nI s) 2) (24 * m) k) ∧ (rp = 0 ↔ ly_ex (ly_fp o a m) (24 * m) k = false)
theorem ly_SL0 (o a b : Nat → Int32) (m : Nat) : ly_SL o a b m 0 0 0 0 0 0 := ⟨fun s _ => ⟨b_0 s, b_0 s, b_0 s, b_0 s⟩, ⟨fun _ => rfl, fun _ => rfl⟩⟩
theorem ly_SLn {o a b : Nat → Int32} {m k : Nat} {seen loc glo wk rp : Int32} (h : ly_SL o a b m k seen loc glo wk rp) (ho : ¬ o (24 * m + k) = 0) : ly_SL o a b m (k + 1) seen loc glo wk rp := by
  have e1 : ∀ s, ly_lb o a s (24 * m + k) = false := fun s => decide_eq_false (fun z => ho z.1)
  have e3 : ∀ s t, ly_l3 o a b s t (24 * m + k) = false := fun s t => decide_eq_false (fun z => ho z.1)
  have ef : ly_fp o a m (24 * m + k) = false := by unfold ly_fp; rw [decide_eq_false ho, Bool.false_and]
  obtain ⟨h1, h2⟩ := h
  refine ⟨fun s hs => ?_, ?_⟩
  · simp only [ly_ex, e1, e3, Bool.or_false]; exact h1 s hs
  · simp only [ly_ex, ef, Bool.or_false]; exact h2
theorem ly_SLy {o a b : Nat → Int32} {m k f : Nat} {seen loc glo wk rp : Int32} (h : ly_SL o a b m k seen loc glo wk rp) (ho : o (24 * m + k) = 0) (hf : f < 16) (ha : a (24 * m + k) = nI f) {t : Int32} (hb : b (24 * m + k) = t) (ht : t = 0 ∨ t = 1 ∨ t = 2) :
    ly_SL o a b m (k + 1) (seen ||| ((1 : Int32) <<< (nI f &&& 31))) (if t = 0 then loc ||| ((1 : Int32) <<< (nI f &&& 31)) else loc) (if t = 1 then glo ||| ((1 : Int32) <<< (nI f &&& 31)) else glo) (if t = 2 then wk ||| ((1 : Int32) <<< (nI f &&& 31)) else wk) (if bt seen f = true then 1 else rp) := by
  obtain ⟨h1, h2⟩ := h
  have e1 : ∀ s, s < 32 → ly_lb o a (nI s) (24 * m + k) = decide (s = f) := by
    intro s hs
    unfold ly_lb
    rw [ho, ha]
    by_cases e : s = f
    · subst e; rw [decide_eq_true rfl, decide_eq_true ⟨rfl, rfl⟩]
    · rw [decide_eq_false e, decide_eq_false (fun z => e (ly_inj (by omega) (by omega) z.2).symm)]
  have e3 : ∀ s t', s < 32 → ly_l3 o a b (nI s) t' (24 * m + k) = (decide (s = f) && decide (t = t')) := by
    intro s t' hs
    unfold ly_l3
    rw [ho, ha, hb]
    by_cases e : s = f
    · subst e; rw [decide_eq_true rfl, Bool.true_and]
      by_cases e' : t = t'
      · rw [decide_eq_true e', decide_eq_true ⟨rfl, rfl, e'⟩]
      · rw [decide_eq_false e', decide_eq_false (fun z => e' z.2.2)]
    · rw [decide_eq_false e, Bool.false_and, decide_eq_false (fun z => e (ly_inj (by omega) (by omega) z.2.1).symm)]
  refine ⟨fun s hs => ?_, ?_⟩
  · obtain ⟨a1, a2, a3, a4⟩ := h1 s hs
    simp only [ly_ex]
    rw [e1 s hs, e3 s 0 hs, e3 s 1 hs, e3 s 2 hs, ← a1, ← a2, ← a3, ← a4, ly_orb (by omega) hs]
    refine ⟨rfl, ?_, ?_, ?_⟩
    · by_cases z : t = 0
      · rw [if_pos z, ly_orb (by omega) hs, decide_eq_true z, Bool.and_true]
      · rw [if_neg z, decide_eq_false z, Bool.and_false, Bool.or_false]
    · by_cases z : t = 1
      · rw [if_pos z, ly_orb (by omega) hs, decide_eq_true z, Bool.and_true]
      · rw [if_neg z, decide_eq_false z, Bool.and_false, Bool.or_false]
    · by_cases z : t = 2
      · rw [if_pos z, ly_orb (by omega) hs, decide_eq_true z, Bool.and_true]
      · rw [if_neg z, decide_eq_false z, Bool.and_false, Bool.or_false]
  · have ef : ly_fp o a m (24 * m + k) = bt seen f := by
      unfold ly_fp
      rw [decide_eq_true ho, Bool.true_and, ha, show 24 * m + k - 24 * m = k by omega]
      exact (h1 f (by omega)).1.symm
    simp only [ly_ex]
    rw [ef]
    cases hs : bt seen f with
    | true => rw [if_pos rfl, Bool.or_true]; exact ⟨fun z => absurd z (by decide), fun z => absurd z (by decide)⟩
    | false => rw [if_neg (by decide), Bool.or_false]; exact h2
theorem ly_s85 {post : SX → Prop} {J : Int32 → Int32 → (Nat → Int32) → (Nat → Int32) → (Nat → Int32) → (Nat → Int32) → (Nat → Int32) → (Nat → Int32) → (Nat → Int32) → (Nat → Int32) → (Nat → Int32) → (Nat → Int32) → (Nat → Int32) → (Nat → Int32) → (Nat → Int32) → (Nat → Int32) → (Nat → Int32) → (Nat → Int32) → (Nat → Int32) → (Nat → Int32) → (Nat → Int32) → (Nat → Int32) → (Nat → Int32) → Prop} {xbase xstrip xllen xtend xaend xlcnt xlrnd xlinked xblamed xouts xpc xsteps xran : Int32} {xops xA xB xcnt xrole xloc xglo xweak xuse xrep xunit xtgt xstay xlong xlist xchosen xplace ximg xreg xstore xout : Nat → Int32} {m k : Nat} (hm : m < 6) (hk : k < 24) (seen bit t : Int32) (hb : xB (24 * m + k) = t) (ht : t = 0 ∨ t = 1 ∨ t = 2)
    (H : J (seen ||| bit) (nI (k + 1)) xops xA xB xcnt xrole (if t = 0 then upd xloc m (xloc m ||| bit) else xloc) (if t = 1 then upd xglo m (xglo m ||| bit) else xglo) (if t = 2 then upd xweak m (xweak m ||| bit) else xweak) xuse xrep xunit xtgt xstay xlong xlist xchosen xplace ximg xreg xstore xout) : wX_surveyLabels_85 post J (nI m) seen (nI k) (nI (24 * m + k)) bit xbase xstrip xllen xtend xaend xlcnt xlrnd xlinked xblamed xouts xpc xsteps xran xops xA xB xcnt xrole xloc xglo xweak xuse xrep xunit xtgt xstay xlong xlist xchosen xplace ximg xreg xstore xout := by
  have em : (nI m).toNatClampNeg = m := ly_cl (by omega)
  have ei : (nI (24 * m + k)).toNatClampNeg = 24 * m + k := ly_cl (by omega)
  have eb : xB (nI (24 * m + k)).toNatClampNeg = t := by rw [ei]; exact hb
  have vm : vp_in (nI m) 6 := vp_in_nI hm (by omega)
  have vi : vp_in (nI (24 * m + k)) 144 := vp_in_nI (by omega) (by omega)
  rcases ht with rfl | rfl | rfl
  · rw [if_pos rfl, if_neg (by decide), if_neg (by decide)] at H
    exact nm_e ⟨vi, br_t eb ⟨vm, vm, nm_r (e' := upd xloc m (xloc m ||| bit)) (by rw [em]) (nm_r (nI_1 k) H)⟩⟩
  · rw [if_neg (by decide), if_pos rfl, if_neg (by decide)] at H
    exact nm_e ⟨vi, br_f (by rw [eb]; decide) ⟨vi, br_t eb ⟨vm, vm, nm_r (e' := upd xglo m (xglo m ||| bit)) (by rw [em]) (nm_r (nI_1 k) H)⟩⟩⟩
  · rw [if_neg (by decide), if_neg (by decide), if_pos rfl] at H
    exact nm_e ⟨vi, br_f (by rw [eb]; decide) ⟨vi, br_f (by rw [eb]; decide) ⟨vm, vm, nm_r (e' := upd xweak m (xweak m ||| bit)) (by rw [em]) (nm_r (nI_1 k) H)⟩⟩⟩
theorem ly_us1 {x : Nat → Int32} {m : Nat} {c : Prop} {y : Int32} (h : Decidable c) : (if c then upd x m (x m ||| y) else x) m = if c then x m ||| y else x m := by
  by_cases z : c
  · rw [if_pos z, if_pos z, pk_us]
  · rw [if_neg z, if_neg z]
theorem ly_us2 {x : Nat → Int32} {m j : Nat} {c : Prop} {y : Int32} (h : Decidable c) (hj : j ≠ m) : (if c then upd x m y else x) j = x j := by
  by_cases z : c
  · rw [if_pos z, pk_un hj]
  · rw [if_neg z]
theorem ly_s32 {post : SX → Prop} {xbase xstrip xllen xtend xaend xlcnt xlrnd xlinked xblamed xouts xpc xsteps xran : Int32} {xops xA xB xcnt xrole xuse xunit xtgt xstay xlong xlist xchosen xplace ximg xreg xstore xout : Nat → Int32} (hW : ly_W xcnt) (hF : ly_F xops xA xB) {m : Nat} (hm : m < 6) (loc0 glo0 wk0 rp0 : Nat → Int32)
    (H : ∀ loc glo wk rp : Nat → Int32, (∀ j, j ≠ m → loc j = loc0 j ∧ glo j = glo0 j ∧ wk j = wk0 j ∧ rp j = rp0 j) → (∃ seen, ly_SL xops xA xB m (ly_c xcnt m) seen (loc m) (glo m) (wk m) (rp m)) → post (xbase, xstrip, xllen, xtend, xaend, xlcnt, xlrnd, xlinked, xblamed, xouts, xpc, xsteps, xran, xops, xA, xB, xcnt, xrole, loc, glo, wk, xuse, rp, xunit, xtgt, xstay, xlong, xlist, xchosen, xplace, ximg, xreg, xstore, xout)) :
    ∀ (d k : Nat) (seen : Int32) (loc glo wk rp : Nat → Int32), k + d = ly_c xcnt m → (∀ j, j ≠ m → loc j = loc0 j ∧ glo j = glo0 j ∧ wk j = wk0 j ∧ rp j = rp0 j) → ly_SL xops xA xB m k seen (loc m) (glo m) (wk m) (rp m) → wX_surveyLabels_32 post (nI m) xbase xstrip xllen xtend xaend xlcnt xlrnd xlinked xblamed xouts xpc xsteps xran (d + 1) seen (nI k) xops xA xB xcnt xrole loc glo wk xuse rp xunit xtgt xstay xlong xlist xchosen xplace ximg xreg xstore xout := by
  have em : (nI m).toNatClampNeg = m := ly_cl (by omega)
  obtain ⟨hc, ec⟩ := hW m hm
  have ec' : xcnt (nI m).toNatClampNeg = nI (ly_c xcnt m) := by rw [em]; exact ec
  have vm : vp_in (nI m) 6 := vp_in_nI hm (by omega)
  intro d
  induction d with
  | zero =>
    intro k seen loc glo wk rp hd ho hs
    have e : k = ly_c xcnt m := by omega
    subst e
    exact ⟨vm, br_t (by rw [ec']; exact Int32.le_refl _) (H loc glo wk rp ho ⟨seen, hs⟩)⟩
  | succ d ih =>
    intro k seen loc glo wk rp hd ho hs
    have hi : 24 * m + k < 144 := by omega
    have ei : (nI (24 * m + k)).toNatClampNeg = 24 * m + k := ly_cl (by omega)
    have vi : vp_in (nI (24 * m + k)) 144 := vp_in_nI hi (by omega)
    refine ⟨vm, br_f (by rw [ec']; exact nI_ge (by omega) (by omega)) (nm_r (ly_idx m k) ⟨vi, ?_⟩)⟩
    rw [ei]
    by_cases h0 : xops (24 * m + k) = 0
    · obtain ⟨f, hf, ef⟩ := ly_ft_a (hF _ hi) h0
      have ht := ly_ft_b (hF _ hi) h0
      refine br_t h0 ⟨vi, nm_r (e' := (1 : Int32) <<< (nI f &&& 31)) (by rw [ef]) ?_⟩
      have hnew := ly_SLy hs h0 hf ef rfl ht
      cases hb : bt seen f with
      | false =>
        rw [hb, if_neg (show ¬ false = true by decide)] at hnew
        refine br_t ((ly_and0 (by omega)).mpr hb) (ly_s85 (hm := hm) (hk := by omega) (seen := seen) (bit := _) (t := _) (hb := rfl) (ht := ht) (H := ih (k + 1) _ _ _ _ _ (by omega) (fun j hj => ?_) ?_))
        · rw [ly_us2 _ hj, ly_us2 _ hj, ly_us2 _ hj]; exact ho j hj
        · rw [ly_us1, ly_us1, ly_us1]; exact hnew
      | true =>
        rw [hb, if_pos (show true = true from rfl)] at hnew
        refine br_f (fun z => by rw [(ly_and0 (by omega)).mp z] at hb; exact absurd hb (by decide)) ⟨vm, nm_r (e' := upd rp m 1) (by rw [em, ly_nar1]) (ly_s85 (hm := hm) (hk := by omega) (seen := seen) (bit := _) (t := _) (hb := rfl) (ht := ht) (H := ih (k + 1) _ _ _ _ _ (by omega) (fun j hj => ?_) ?_))⟩
        · rw [ly_us2 _ hj, ly_us2 _ hj, ly_us2 _ hj, pk_un hj]; exact ho j hj
        · rw [ly_us1, ly_us1, ly_us1, pk_us]; exact hnew
    · exact br_f h0 (nm_r (nI_1 k) (ih (k + 1) seen loc glo wk rp (by omega) ho (ly_SLn hs h0)))
theorem ly_sLab {post : SX → Prop} {xbase xstrip xllen xtend xaend xlcnt xlrnd xlinked xblamed xouts xpc xsteps xran : Int32} {xops xA xB xcnt xrole xloc xglo xweak xuse xrep xunit xtgt xstay xlong xlist xchosen xplace ximg xreg xstore xout : Nat → Int32} (hW : ly_W xcnt) (hF : ly_F xops xA xB) {m : Nat} (hm : m < 6)
    (H : ∀ loc glo wk rp : Nat → Int32, (∀ j, j ≠ m → loc j = xloc j ∧ glo j = xglo j ∧ wk j = xweak j ∧ rp j = xrep j) → (∃ seen, ly_SL xops xA xB m (ly_c xcnt m) seen (loc m) (glo m) (wk m) (rp m)) → post (xbase, xstrip, xllen, xtend, xaend, xlcnt, xlrnd, xlinked, xblamed, xouts, xpc, xsteps, xran, xops, xA, xB, xcnt, xrole, loc, glo, wk, xuse, rp, xunit, xtgt, xstay, xlong, xlist, xchosen, xplace, ximg, xreg, xstore, xout)) : wpX_surveyLabels post (xbase, xstrip, xllen, xtend, xaend, xlcnt, xlrnd, xlinked, xblamed, xouts, xpc, xsteps, xran, xops, xA, xB, xcnt, xrole, xloc, xglo, xweak, xuse, xrep, xunit, xtgt, xstay, xlong, xlist, xchosen, xplace, ximg, xreg, xstore, xout) (nI m) := by
  have em : (nI m).toNatClampNeg = m := ly_cl (by omega)
  have vm : vp_in (nI m) 6 := vp_in_nI hm (by omega)
  refine ⟨vm, nm_r (e' := upd xloc m 0) (by rw [em]) ⟨vm, nm_r (e' := upd xglo m 0) (by rw [em]) ⟨vm, nm_r (e' := upd xweak m 0) (by rw [em]) ⟨vm, nm_r (e' := upd xrep m 0) (by rw [em, ly_nar0]) ⟨ly_c xcnt m + 1, ly_s32 (hW := hW) (hF := hF) (hm := hm) (loc0 := xloc) (glo0 := xglo) (wk0 := xweak) (rp0 := xrep) (H := H) (ly_c xcnt m) 0 0 _ _ _ _ (by omega) (fun j hj => ?_) ?_⟩⟩⟩⟩⟩
  · rw [pk_un hj, pk_un hj, pk_un hj, pk_un hj]; exact ⟨rfl, rfl, rfl, rfl⟩
  · rw [pk_us, pk_us, pk_us, pk_us]; exact ly_SL0 _ _ _ _

/-! X and Y: the symbol that an item uses; X: the survey of items and of all modules -/
def ly_u (o a b : Int32) : Int32 := if ly_us o = true then ly_sy o a b else -1
theorem ly_us_t {op : Nat} (h : ly_us (nI op) = true) (hop : op ≤ 19) : op = 8 ∨ op = 9 ∨ op = 10 ∨ op = 12 ∨ op = 16 := by
  rcases of_decide_eq_true h with z | z | z | z | z
  · exact Or.inl (ly_inj (b := 8) (by omega) (by omega) z)
  · exact Or.inr (Or.inl (ly_inj (b := 9) (by omega) (by omega) z))
  · exact Or.inr (Or.inr (Or.inl (ly_inj (b := 10) (by omega) (by omega) z)))
  · exact Or.inr (Or.inr (Or.inr (Or.inl (ly_inj (b := 12) (by omega) (by omega) z))))
  · exact Or.inr (Or.inr (Or.inr (Or.inr (ly_inj (b := 16) (by omega) (by omega) z))))
theorem ly_u_f {o a b : Int32} (h : ly_us o = false) : ly_u o a b = -1 := by unfold ly_u; rw [h]; rfl
theorem ly_u_b {o a b : Int32} (h : ly_us o = true) (h16 : ¬ o = 16) : ly_u o a b = b := by unfold ly_u ly_sy; rw [h, if_pos rfl, if_neg h16]
theorem ly_u_a {o a b : Int32} (h16 : o = 16) : ly_u o a b = a := by subst h16; unfold ly_u ly_sy; rw [if_pos (by decide), if_pos rfl]
theorem ly_xused {post : Int32 → Prop} {xbase xstrip xllen xtend xaend xlcnt xlrnd xlinked xblamed xouts xpc xsteps xran : Int32} {xops xA xB xcnt xrole xloc xglo xweak xuse xrep xunit xtgt xstay xlong xlist xchosen xplace ximg xreg xstore xout : Nat → Int32} {i : Nat} (hi : i < 144) (hf : ly_ft (xops i) (xA i) (xB i)) (H : post (ly_u (xops i) (xA i) (xB i))) : wpX_usedSymbol post (xbase, xstrip, xllen, xtend, xaend, xlcnt, xlrnd, xlinked, xblamed, xouts, xpc, xsteps, xran, xops, xA, xB, xcnt, xrole, xloc, xglo, xweak, xuse, xrep, xunit, xtgt, xstay, xlong, xlist, xchosen, xplace, ximg, xreg, xstore, xout) (nI i) := by
  obtain ⟨op, hop, eo, _⟩ := hf
  have ei : (nI i).toNatClampNeg = i := ly_cl (by omega)
  have vi : vp_in (nI i) 144 := vp_in_nI hi (by omega)
  rw [eo] at H
  refine ⟨vi, nm_r (e' := nI op) (by rw [ei]; exact eo) ?_⟩
  rw [ei]
  have h : op = 0 ∨ op = 1 ∨ op = 2 ∨ op = 3 ∨ op = 4 ∨ op = 5 ∨ op = 6 ∨ op = 7 ∨ op = 8 ∨ op = 9 ∨ op = 10 ∨ op = 11 ∨ op = 12 ∨ op = 13 ∨ op = 14 ∨ op = 15 ∨ op = 16 ∨ op = 17 ∨ op = 18 ∨ op = 19 := by omega
  rcases h with rfl | rfl | rfl | rfl | rfl | rfl | rfl | rfl | rfl | rfl | rfl | rfl | rfl | rfl | rfl | rfl | rfl | rfl | rfl | rfl
  · (repeat (first | refine br_t (by decide) ?_ | refine br_f (by decide) ?_)); rw [ly_u_f (by decide)] at H; exact H
  · (repeat (first | refine br_t (by decide) ?_ | refine br_f (by decide) ?_)); rw [ly_u_f (by decide)] at H; exact H
  · (repeat (first | refine br_t (by decide) ?_ | refine br_f (by decide) ?_)); rw [ly_u_f (by decide)] at H; exact H
  · (repeat (first | refine br_t (by decide) ?_ | refine br_f (by decide) ?_)); rw [ly_u_f (by decide)] at H; exact H
  · (repeat (first | refine br_t (by decide) ?_ | refine br_f (by decide) ?_)); rw [ly_u_f (by decide)] at H; exact H
  · (repeat (first | refine br_t (by decide) ?_ | refine br_f (by decide) ?_)); rw [ly_u_f (by decide)] at H; exact H
  · (repeat (first | refine br_t (by decide) ?_ | refine br_f (by decide) ?_)); rw [ly_u_f (by decide)] at H; exact H
  · (repeat (first | refine br_t (by decide) ?_ | refine br_f (by decide) ?_)); rw [ly_u_f (by decide)] at H; exact H
  · (repeat (first | refine br_t (by decide) ?_ | refine br_f (by decide) ?_)); rw [ly_u_b (by decide) (by decide)] at H; exact ⟨vi, H⟩
  · (repeat (first | refine br_t (by decide) ?_ | refine br_f (by decide) ?_)); rw [ly_u_b (by decide) (by decide)] at H; exact ⟨vi, H⟩
  · (repeat (first | refine br_t (by decide) ?_ | refine br_f (by decide) ?_)); rw [ly_u_b (by decide) (by decide)] at H; exact ⟨vi, H⟩
  · (repeat (first | refine br_t (by decide) ?_ | refine br_f (by decide) ?_)); rw [ly_u_f (by decide)] at H; exact H
  · (repeat (first | refine br_t (by decide) ?_ | refine br_f (by decide) ?_)); rw [ly_u_b (by decide) (by decide)] at H; exact ⟨vi, H⟩
  · (repeat (first | refine br_t (by decide) ?_ | refine br_f (by decide) ?_)); rw [ly_u_f (by decide)] at H; exact H
  · (repeat (first | refine br_t (by decide) ?_ | refine br_f (by decide) ?_)); rw [ly_u_f (by decide)] at H; exact H
  · (repeat (first | refine br_t (by decide) ?_ | refine br_f (by decide) ?_)); rw [ly_u_f (by decide)] at H; exact H
  · (repeat (first | refine br_t (by decide) ?_ | refine br_f (by decide) ?_)); rw [ly_u_a (by decide)] at H; exact ⟨vi, H⟩
  · (repeat (first | refine br_t (by decide) ?_ | refine br_f (by decide) ?_)); rw [ly_u_f (by decide)] at H; exact H
  · (repeat (first | refine br_t (by decide) ?_ | refine br_f (by decide) ?_)); rw [ly_u_f (by decide)] at H; exact H
  · (repeat (first | refine br_t (by decide) ?_ | refine br_f (by decide) ?_)); rw [ly_u_f (by decide)] at H; exact H
theorem ly_yuses {post : Int32 → Prop} {op : Nat} (hop : op ≤ 19) (H : post (if ly_us (nI op) = true then 1 else 0)) : wpY_usesSymbol post (nI op) := by
  unfold wpY_usesSymbol wpY_in
  have h : op = 0 ∨ op = 1 ∨ op = 2 ∨ op = 3 ∨ op = 4 ∨ op = 5 ∨ op = 6 ∨ op = 7 ∨ op = 8 ∨ op = 9 ∨ op = 10 ∨ op = 11 ∨ op = 12 ∨ op = 13 ∨ op = 14 ∨ op = 15 ∨ op = 16 ∨ op = 17 ∨ op = 18 ∨ op = 19 := by omega
  rcases h with rfl | rfl | rfl | rfl | rfl | rfl | rfl | rfl | rfl | rfl | rfl | rfl | rfl | rfl | rfl | rfl | rfl | rfl | rfl | rfl
  · rw [if_neg (by decide)] at H; (repeat (first | refine br_t (by decide) ?_ | refine br_f (by decide) ?_)); exact H
  · rw [if_neg (by decide)] at H; (repeat (first | refine br_t (by decide) ?_ | refine br_f (by decide) ?_)); exact H
  · rw [if_neg (by decide)] at H; (repeat (first | refine br_t (by decide) ?_ | refine br_f (by decide) ?_)); exact H
  · rw [if_neg (by decide)] at H; (repeat (first | refine br_t (by decide) ?_ | refine br_f (by decide) ?_)); exact H
  · rw [if_neg (by decide)] at H; (repeat (first | refine br_t (by decide) ?_ | refine br_f (by decide) ?_)); exact H
  · rw [if_neg (by decide)] at H; (repeat (first | refine br_t (by decide) ?_ | refine br_f (by decide) ?_)); exact H
  · rw [if_neg (by decide)] at H; (repeat (first | refine br_t (by decide) ?_ | refine br_f (by decide) ?_)); exact H
  · rw [if_neg (by decide)] at H; (repeat (first | refine br_t (by decide) ?_ | refine br_f (by decide) ?_)); exact H
  · rw [if_pos (by decide)] at H; (repeat (first | refine br_t (by decide) ?_ | refine br_f (by decide) ?_)); exact H
  · rw [if_pos (by decide)] at H; (repeat (first | refine br_t (by decide) ?_ | refine br_f (by decide) ?_)); exact H
  · rw [if_pos (by decide)] at H; (repeat (first | refine br_t (by decide) ?_ | refine br_f (by decide) ?_)); exact H
  · rw [if_neg (by decide)] at H; (repeat (first | refine br_t (by decide) ?_ | refine br_f (by decide) ?_)); exact H
  · rw [if_pos (by decide)] at H; (repeat (first | refine br_t (by decide) ?_ | refine br_f (by decide) ?_)); exact H
  · rw [if_neg (by decide)] at H; (repeat (first | refine br_t (by decide) ?_ | refine br_f (by decide) ?_)); exact H
  · rw [if_neg (by decide)] at H; (repeat (first | refine br_t (by decide) ?_ | refine br_f (by decide) ?_)); exact H
  · rw [if_neg (by decide)] at H; (repeat (first | refine br_t (by decide) ?_ | refine br_f (by decide) ?_)); exact H
  · rw [if_pos (by decide)] at H; (repeat (first | refine br_t (by decide) ?_ | refine br_f (by decide) ?_)); exact H
  · rw [if_neg (by decide)] at H; (repeat (first | refine br_t (by decide) ?_ | refine br_f (by decide) ?_)); exact H
  · rw [if_neg (by decide)] at H; (repeat (first | refine br_t (by decide) ?_ | refine br_f (by decide) ?_)); exact H
  · rw [if_neg (by decide)] at H; (repeat (first | refine br_t (by decide) ?_ | refine br_f (by decide) ?_)); exact H
theorem ly_ysymOf {post : Int32 → Prop} {yorg ystrip ymany yculp ytend yend ymade yrounds yentry ylinked yran ypc ysteps youts : Int32} {yops yA yB ycnt yrole ylist yplace ysym yimg ystay ywide ymem yreg yout : Nat → Int32} {i : Nat} (hi : i < 144) (H : post (ly_sy (yops i) (yA i) (yB i))) : wpY_symbolOf post (yorg, ystrip, ymany, yculp, ytend, yend, ymade, yrounds, yentry, ylinked, yran, ypc, ysteps, youts, yops, yA, yB, ycnt, yrole, ylist, yplace, ysym, yimg, ystay, ywide, ymem, yreg, yout) (nI i) := by
  have ei : (nI i).toNatClampNeg = i := ly_cl (by omega)
  have vi : vp_in (nI i) 144 := vp_in_nI hi (by omega)
  unfold wpY_symbolOf
  dsimp only
  rw [ei]
  unfold ly_sy at H
  by_cases h : yops i = 16
  · rw [if_pos h] at H; exact ⟨vi, br_t h ⟨vi, H⟩⟩
  · rw [if_neg h] at H; exact ⟨vi, br_f h ⟨vi, H⟩⟩
theorem ly_u_ne {o a b : Int32} (hf : ly_ft o a b) : ly_u o a b = -1 ↔ ly_us o = false := by
  cases h : ly_us o with
  | false => exact ⟨fun _ => rfl, fun _ => ly_u_f h⟩
  | true =>
    obtain ⟨f, hf', e⟩ := ly_ft_s hf h
    refine ⟨fun z => ?_, fun z => absurd z (by decide)⟩
    unfold ly_u at z
    rw [if_pos h, e] at z
    exact absurd z (ly_m1 (by omega))
theorem ly_u_t {o a b : Int32} (h : ly_us o = true) : ly_u o a b = ly_sy o a b := if_pos h
/-- the survey of items: section, used symbols, units -/
theorem ly_i47 {post : SX → Prop} {J : Int32 → Int32 → Int32 → (Nat → Int32) → (Nat → Int32) → (Nat → Int32) → (Nat → Int32) → (Nat → Int32) → (Nat → Int32) → (Nat → Int32) → (Nat → Int32) → (Nat → Int32) → (Nat → Int32) → (Nat → Int32) → (Nat → Int32) → (Nat → Int32) → (Nat → Int32) → (Nat → Int32) → (Nat → Int32) → (Nat → Int32) → (Nat → Int32) → (Nat → Int32) → (Nat → Int32) → (Nat → Int32) → Prop} {xbase xstrip xllen xtend xaend xlcnt xlrnd xlinked xblamed xouts xpc xsteps xran : Int32} {xops xA xB xcnt xrole xloc xglo xweak xuse xrep xunit xtgt xstay xlong xlist xchosen xplace ximg xreg xstore xout : Nat → Int32} (hF : ly_F xops xA xB) {m k w : Nat} (hm : m < 6) (hk : k < 24) (used : Int32)
    (H : ∀ used' : Int32, (∀ s, s < 32 → bt used' s = (bt used s || ly_up xops xA xB (nI s) (24 * m + k))) → J used' (nI w) (nI (k + 1)) xops xA xB xcnt xrole xloc xglo xweak xuse xrep (upd xunit (24 * m + k) (nI (2 * m + w))) xtgt xstay xlong xlist xchosen xplace ximg xreg xstore xout) : wX_surveyItems_47 post J (nI m) used (nI w) (nI k) (nI (24 * m + k)) xbase xstrip xllen xtend xaend xlcnt xlrnd xlinked xblamed xouts xpc xsteps xran xops xA xB xcnt xrole xloc xglo xweak xuse xrep xunit xtgt xstay xlong xlist xchosen xplace ximg xreg xstore xout := by
  have ei : (nI (24 * m + k)).toNatClampNeg = 24 * m + k := ly_cl (by omega)
  have hi : 24 * m + k < 144 := by omega
  have vi : vp_in (nI (24 * m + k)) 144 := vp_in_nI hi (by omega)
  refine ⟨vi, nm_r (e' := upd xunit (24 * m + k) (nI (2 * m + w))) (by rw [ei, ly_idx2]) (ly_xused (hi := hi) (hf := hF _ hi) (H := ?_))⟩
  cases hu : ly_us (xops (24 * m + k)) with
  | false =>
    refine br_t (ly_u_f hu) (nm_r (nI_1 k) (H used (fun s hs => ?_)))
    unfold ly_up; rw [hu, Bool.false_and, Bool.or_false]
  | true =>
    obtain ⟨f, hf, ef⟩ := ly_ft_s (hF _ hi) hu
    rw [ly_u_t hu, ef]
    refine br_f (ly_m1 (by omega)) (nm_e (nm_r (nI_1 k) (H _ (fun s hs => ?_))))
    rw [ly_orb (by omega) hs]
    unfold ly_up
    rw [hu, Bool.true_and, ef]
    by_cases e : s = f
    · subst e; rw [decide_eq_true rfl, decide_eq_true rfl]
    · rw [decide_eq_false e, decide_eq_false (fun z => e (ly_inj (by omega) (by omega) z).symm)]
theorem ly_i7 {post : SX → Prop} {xbase xstrip xllen xtend xaend xlcnt xlrnd xlinked xblamed xouts xpc xsteps xran : Int32} {xops xA xB xcnt xrole xloc xglo xweak xuse xrep xtgt xstay xlong xlist xchosen xplace ximg xreg xstore xout : Nat → Int32} (hW : ly_W xcnt) (hF : ly_F xops xA xB) {m : Nat} (hm : m < 6) (un0 : Nat → Int32)
    (H : ∀ un us : Nat → Int32, (∀ i, i < 24 * m → un i = un0 i) → (∀ i, i < ly_c xcnt m → un (24 * m + i) = nI (ly_un xops xA (24 * m + i))) → (∀ j, j ≠ m → us j = xuse j) → (∀ s, s < 32 → bt (us m) s = (ly_eu xops xA xB xcnt m (nI s) && !bt (xloc m) s)) → post (xbase, xstrip, xllen, xtend, xaend, xlcnt, xlrnd, xlinked, xblamed, xouts, xpc, xsteps, xran, xops, xA, xB, xcnt, xrole, xloc, xglo, xweak, us, xrep, un, xtgt, xstay, xlong, xlist, xchosen, xplace, ximg, xreg, xstore, xout)) :
    ∀ (d k : Nat) (used : Int32) (un : Nat → Int32), k + d = ly_c xcnt m → (∀ i, i < 24 * m → un i = un0 i) → (∀ i, i < k → un (24 * m + i) = nI (ly_un xops xA (24 * m + i))) → (∀ s, s < 32 → bt used s = ly_ex (ly_up xops xA xB (nI s)) (24 * m) k) → wX_surveyItems_7 post (nI m) xbase xstrip xllen xtend xaend xlcnt xlrnd xlinked xblamed xouts xpc xsteps xran (d + 1) used (nI (ly_sn xops xA m k)) (nI k) xops xA xB xcnt xrole xloc xglo xweak xuse xrep un xtgt xstay xlong xlist xchosen xplace ximg xreg xstore xout := by
  have em : (nI m).toNatClampNeg = m := ly_cl (by omega)
  obtain ⟨hc, ec⟩ := hW m hm
  have ec' : xcnt (nI m).toNatClampNeg = nI (ly_c xcnt m) := by rw [em]; exact ec
  have vm : vp_in (nI m) 6 := vp_in_nI hm (by omega)
  intro d
  induction d with
  | zero =>
    intro k used un hd h0 h1 h2
    have e : k = ly_c xcnt m := by omega
    subst e
    refine ⟨vm, br_t (by rw [ec']; exact Int32.le_refl _) ⟨vm, vm, nm_r (e' := upd xuse m (used &&& (xloc m ^^^ (-1)))) (by rw [em]) (H un _ h0 h1 (fun j hj => pk_un hj) (fun s hs => ?_))⟩⟩
    rw [pk_us, b_and, b_xor, b_m1 s hs, h2 s hs, Bool.xor_true]; rfl
  | succ d ih =>
    intro k used un hd h0 h1 h2
    have hi : 24 * m + k < 144 := by omega
    have ei : (nI (24 * m + k)).toNatClampNeg = 24 * m + k := ly_cl (by omega)
    have vi : vp_in (nI (24 * m + k)) 144 := vp_in_nI hi (by omega)
    have go : wX_surveyItems_47 post (wX_surveyItems_7 post (nI m) xbase xstrip xllen xtend xaend xlcnt xlrnd xlinked xblamed xouts xpc xsteps xran (d + 1)) (nI m) used (nI (ly_sn xops xA m (k + 1))) (nI k) (nI (24 * m + k)) xbase xstrip xllen xtend xaend xlcnt xlrnd xlinked xblamed xouts xpc xsteps xran xops xA xB xcnt xrole xloc xglo xweak xuse xrep un xtgt xstay xlong xlist xchosen xplace ximg xreg xstore xout := by
      refine ly_i47 (hF := hF) (hm := hm) (hk := by omega) (used := used) (H := fun used' hu => ih (k + 1) used' _ (by omega) (fun i hi' => ?_) (fun i hi' => ?_) (fun s hs => ?_))
      · rw [pk_un (by omega)]; exact h0 i hi'
      · by_cases e : i = k
        · subst e; rw [pk_us, ly_un_at (by omega)]
        · rw [pk_un (by omega)]; exact h1 i (by omega)
      · rw [hu s hs, h2 s hs]; rfl
    refine ⟨vm, br_f (by rw [ec']; exact nI_ge (by omega) (by omega)) (nm_r (ly_idx m k) ⟨vi, ?_⟩)⟩
    rw [ei]
    by_cases h19 : xops (24 * m + k) = 19
    · obtain ⟨f, hf, ef⟩ := ly_ft_19 (hF _ hi) h19
      refine br_t h19 ⟨vi, nm_r (e' := nI (ly_sn xops xA m (k + 1))) ?_ go⟩
      show _ = nI (if xops (24 * m + k) = 19 then (xA (24 * m + k)).toNatClampNeg else ly_sn xops xA m k)
      rw [if_pos h19, ef, nI_clamp (by omega)]
    · have e : ly_sn xops xA m k = ly_sn xops xA m (k + 1) := (if_neg h19).symm
      rw [e]
      exact br_f h19 go
theorem ly_sItem {post : SX → Prop} {xbase xstrip xllen xtend xaend xlcnt xlrnd xlinked xblamed xouts xpc xsteps xran : Int32} {xops xA xB xcnt xrole xloc xglo xweak xuse xrep xunit xtgt xstay xlong xlist xchosen xplace ximg xreg xstore xout : Nat → Int32} (hW : ly_W xcnt) (hF : ly_F xops xA xB) {m : Nat} (hm : m < 6)
    (H : ∀ un us : Nat → Int32, (∀ i, i < 24 * m → un i = xunit i) → (∀ i, i < ly_c xcnt m → un (24 * m + i) = nI (ly_un xops xA (24 * m + i))) → (∀ j, j ≠ m → us j = xuse j) → (∀ s, s < 32 → bt (us m) s = (ly_eu xops xA xB xcnt m (nI s) && !bt (xloc m) s)) → post (xbase, xstrip, xllen, xtend, xaend, xlcnt, xlrnd, xlinked, xblamed, xouts, xpc, xsteps, xran, xops, xA, xB, xcnt, xrole, xloc, xglo, xweak, us, xrep, un, xtgt, xstay, xlong, xlist, xchosen, xplace, ximg, xreg, xstore, xout)) : wpX_surveyItems post (xbase, xstrip, xllen, xtend, xaend, xlcnt, xlrnd, xlinked, xblamed, xouts, xpc, xsteps, xran, xops, xA, xB, xcnt, xrole, xloc, xglo, xweak, xuse, xrep, xunit, xtgt, xstay, xlong, xlist, xchosen, xplace, ximg, xreg, xstore, xout) (nI m) :=
  ⟨ly_c xcnt m + 1, ly_i7 (hW := hW) (hF := hF) (hm := hm) (un0 := xunit) (H := H) (ly_c xcnt m) 0 0 xunit (by omega) (fun i hi => rfl) (fun i hi => by omega) (fun s hs => b_0 s)⟩
/-- all that the survey knows, of the modules below M -/
def ly_SV (o a b cnt loc glo wk us rp un : Nat → Int32) (M : Nat) : Prop := ∀ m, m < M → (∀ s, s < 32 → bt (loc m) s = ly_e3 o a b cnt m (nI s) 0 ∧ bt (glo m) s = ly_e3 o a b cnt m (nI s) 1 ∧ bt (wk m) s = ly_e3 o a b cnt m (nI s) 2 ∧ bt (us m) s = ly_ak o a b cnt m (nI s)) ∧ (rp m = 0 ↔ ly_fy o a cnt m = false) ∧ ∀ i, i < ly_c cnt m → un (24 * m + i) = nI (ly_un o a (24 * m + i))
theorem ly_sMod {post : SX → Prop} {xbase xstrip xllen xtend xaend xlcnt xlrnd xlinked xblamed xouts xpc xsteps xran : Int32} {xops xA xB xcnt xrole xtgt xstay xlong xlist xchosen xplace ximg xreg xstore xout : Nat → Int32} (hW : ly_W xcnt) (hF : ly_F xops xA xB)
    (H : ∀ loc glo wk us rp un : Nat → Int32, ly_SV xops xA xB xcnt loc glo wk us rp un 6 → post (xbase, xstrip, xllen, xtend, xaend, xlcnt, xlrnd, xlinked, xblamed, xouts, xpc, xsteps, xran, xops, xA, xB, xcnt, xrole, loc, glo, wk, us, rp, un, xtgt, xstay, xlong, xlist, xchosen, xplace, ximg, xreg, xstore, xout)) :
    ∀ (d m : Nat) (loc glo wk us rp un : Nat → Int32), m + d = 6 → ly_SV xops xA xB xcnt loc glo wk us rp un m → wX_surveyModules_2 post (d + 1) (nI m) xbase xstrip xllen xtend xaend xlcnt xlrnd xlinked xblamed xouts xpc xsteps xran xops xA xB xcnt xrole loc glo wk us rp un xtgt xstay xlong xlist xchosen xplace ximg xreg xstore xout := by
  intro d
  induction d with
  | zero =>
    intro m loc glo wk us rp un hd h
    have e : m = 6 := by omega
    subst e
    exact br_t (by decide) (H loc glo wk us rp un h)
  | succ d ih =>
    intro m loc glo wk us rp un hd h
    refine br_f (nI_ge (b := 6) (by omega) (by omega)) (ly_sLab (hW := hW) (hF := hF) (hm := by omega) (H := fun loc' glo' wk' rp' h1 ⟨seen, h2⟩ => ly_sItem (hW := hW) (hF := hF) (hm := by omega) (H := fun un' us' h3 h4 h5 h6 => nm_r (nI_1 m) (ih (m + 1) _ _ _ _ _ _ (by omega) (fun j hj => ?_)))))
    by_cases e : j = m
    · subst e
      refine ⟨fun s hs => ?_, h2.2, h4⟩
      obtain ⟨_, a1, a2, a3⟩ := h2.1 s hs
      refine ⟨a1, a2, a3, ?_⟩
      rw [h6 s hs, a1]; rfl
    · obtain ⟨b1, b2, b3⟩ := h j (by omega)
      obtain ⟨c1, c2, c3, c4⟩ := h1 j e
      refine ⟨fun s hs => ?_, by rw [c4]; exact b2, fun i hi => ?_⟩
      · rw [c1, c2, c3, h5 j e]; exact b1 s hs
      · have := (hW j (by omega)).1
        rw [h3 _ (by omega)]; exact b3 i hi
theorem ly_survey {post : SX → Prop} {xbase xstrip xllen xtend xaend xlcnt xlrnd xlinked xblamed xouts xpc xsteps xran : Int32} {xops xA xB xcnt xrole xloc xglo xweak xuse xrep xunit xtgt xstay xlong xlist xchosen xplace ximg xreg xstore xout : Nat → Int32} (hW : ly_W xcnt) (hF : ly_F xops xA xB)
    (H : ∀ loc glo wk us rp un : Nat → Int32, ly_SV xops xA xB xcnt loc glo wk us rp un 6 → post (xbase, xstrip, xllen, xtend, xaend, xlcnt, xlrnd, xlinked, xblamed, xouts, xpc, xsteps, xran, xops, xA, xB, xcnt, xrole, loc, glo, wk, us, rp, un, xtgt, xstay, xlong, xlist, xchosen, xplace, ximg, xreg, xstore, xout)) : wpX_surveyModules post (xbase, xstrip, xllen, xtend, xaend, xlcnt, xlrnd, xlinked, xblamed, xouts, xpc, xsteps, xran, xops, xA, xB, xcnt, xrole, xloc, xglo, xweak, xuse, xrep, xunit, xtgt, xstay, xlong, xlist, xchosen, xplace, ximg, xreg, xstore, xout) :=
  ⟨7, ly_sMod (hW := hW) (hF := hF) (H := H) 6 0 xloc xglo xweak xuse xrep xunit (by omega) (fun j hj => by omega)⟩

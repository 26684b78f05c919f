/-! making long: X and Y -/
def ly_tw (o P : Nat → Int32) (i t : Nat) : Bool := decide (((o i = 8 ∨ o i = 9 ∨ o i = 10) ∧ (P t - P i < -16 ∨ 15 < P t - P i)) ∨ (o i = 12 ∧ 63 < P t))
def ly_fr (o a b cnt : Nat → Int32) (g : Nat → Nat) (n : Nat) (P w : Nat → Int32) (i : Nat) : Bool := ((decide (¬ P i = -1) && ly_at o cnt g n i) && decide (w i = 0)) && ly_tw o P i (ly_tn o a b cnt g n i)
def ly_wd (o a b cnt : Nat → Int32) (g : Nat → Nat) (n : Nat) (P w : Nat → Int32) : Nat → Int32 := fun x => if ly_fr o a b cnt g n P w x = true then 1 else w x
theorem ly_tw_n {o P : Nat → Int32} {i t : Nat} (h8 : ¬ o i = 8) (h9 : ¬ o i = 9) (h10 : ¬ o i = 10) (h12 : ¬ o i = 12) : ly_tw o P i t = false := decide_eq_false (fun z => by
  rcases z with ⟨z | z | z, _⟩ | ⟨z, _⟩
  · exact h8 z
  · exact h9 z
  · exact h10 z
  · exact h12 z)
theorem ly_tw_j {o P : Nat → Int32} {i t : Nat} (h : o i = 8 ∨ o i = 9 ∨ o i = 10) : ly_tw o P i t = decide (P t - P i < -16 ∨ 15 < P t - P i) := by
  unfold ly_tw
  have h12 : ¬ o i = 12 := by rcases h with z | z | z <;> rw [z] <;> decide
  by_cases c : P t - P i < -16 ∨ 15 < P t - P i
  · rw [decide_eq_true c, decide_eq_true (Or.inl ⟨h, c⟩)]
  · rw [decide_eq_false c, decide_eq_false (fun z => z.elim (fun y => c y.2) (fun y => h12 y.1))]
theorem ly_tw_l {o P : Nat → Int32} {i t : Nat} (h : o i = 12) : ly_tw o P i t = decide (63 < P t) := by
  unfold ly_tw
  by_cases c : 63 < P t
  · rw [decide_eq_true c, decide_eq_true (Or.inr ⟨h, c⟩)]
  · rw [decide_eq_false c, decide_eq_false (fun z => z.elim (fun y => by
      rcases y.1 with z | z | z <;> rw [h] at z <;> exact absurd z (by decide)) (fun y => c y.2))]
theorem ly_x60 {post : Int32 → Prop} {xbase xstrip xllen xtend xaend xlcnt xlrnd xlinked xblamed xouts xpc xsteps xran : Int32} {xops xA xB xcnt xrole xloc xglo xweak xuse xrep xunit xtgt xstay xlong xlist xchosen xplace ximg xreg xstore xout : Nat → Int32} {x3 : Int32} (H : post (ly_bi (decide (x3 < -16 ∨ 15 < x3)))) : wX_isTooFar_60 post x3 xbase xstrip xllen xtend xaend xlcnt xlrnd xlinked xblamed xouts xpc xsteps xran xops xA xB xcnt xrole xloc xglo xweak xuse xrep xunit xtgt xstay xlong xlist xchosen xplace ximg xreg xstore xout := by
  by_cases h1 : x3 < -16
  · rw [decide_eq_true (Or.inl h1)] at H; exact br_t h1 H
  · by_cases h2 : x3 ≤ 15
    · rw [decide_eq_false (fun z => z.elim h1 (fun y => absurd h2 (Int32.not_le.mpr y)))] at H; exact br_f h1 (br_t h2 H)
    · rw [decide_eq_true (Or.inr (Int32.not_le.mp h2))] at H; exact br_f h1 (br_f h2 H)
theorem ly_xtf {post : Int32 → Prop} {xbase xstrip xllen xtend xaend xlcnt xlrnd xlinked xblamed xouts xpc xsteps xran : Int32} {xops xA xB xcnt xrole xloc xglo xweak xuse xrep xunit xtgt xstay xlong xlist xchosen xplace ximg xreg xstore xout : Nat → Int32} (hF : ly_F xops xA xB) {i t : Nat} (hi : i < 144) (ht : t < 144) (et : xtgt i = nI t) (H : post (ly_bi (ly_tw xops xplace i t))) : wpX_isTooFar post (xbase, xstrip, xllen, xtend, xaend, xlcnt, xlrnd, xlinked, xblamed, xouts, xpc, xsteps, xran, xops, xA, xB, xcnt, xrole, xloc, xglo, xweak, xuse, xrep, xunit, xtgt, xstay, xlong, xlist, xchosen, xplace, ximg, xreg, xstore, xout) (nI i) := by
  have vi : vp_in (nI i) 144 := vp_in_nI hi (by omega)
  obtain ⟨op, hop, eo, _⟩ := hF i hi
  unfold wpX_isTooFar
  dsimp only
  rw [ly_cl (i := i) (by omega), et, ly_cl (i := t) (by omega)]
  refine ⟨vi, vp_in_nI ht (by omega), nm_e ⟨vi, nm_e ⟨vi, nm_r eo ?_⟩⟩⟩
  have h : op = 0 ∨ op = 1 ∨ op = 2 ∨ op = 3 ∨ op = 4 ∨ op = 5 ∨ op = 6 ∨ op = 7 ∨ op = 8 ∨ op = 9 ∨ op = 10 ∨ op = 11 ∨ op = 12 ∨ op = 13 ∨ op = 14 ∨ op = 15 ∨ op = 16 ∨ op = 17 ∨ op = 18 ∨ op = 19 := by omega
  rcases h with rfl | rfl | rfl | rfl | rfl | rfl | rfl | rfl | rfl | rfl | rfl | rfl | rfl | rfl | rfl | rfl | rfl | rfl | rfl | rfl
  · rw [ly_tw_n (by rw [eo]; decide) (by rw [eo]; decide) (by rw [eo]; decide) (by rw [eo]; decide)] at H; (repeat (first | refine br_t (by decide) ?_ | refine br_f (by decide) ?_)); exact H
  · rw [ly_tw_n (by rw [eo]; decide) (by rw [eo]; decide) (by rw [eo]; decide) (by rw [eo]; decide)] at H; (repeat (first | refine br_t (by decide) ?_ | refine br_f (by decide) ?_)); exact H
  · rw [ly_tw_n (by rw [eo]; decide) (by rw [eo]; decide) (by rw [eo]; decide) (by rw [eo]; decide)] at H; (repeat (first | refine br_t (by decide) ?_ | refine br_f (by decide) ?_)); exact H
  · rw [ly_tw_n (by rw [eo]; decide) (by rw [eo]; decide) (by rw [eo]; decide) (by rw [eo]; decide)] at H; (repeat (first | refine br_t (by decide) ?_ | refine br_f (by decide) ?_)); exact H
  · rw [ly_tw_n (by rw [eo]; decide) (by rw [eo]; decide) (by rw [eo]; decide) (by rw [eo]; decide)] at H; (repeat (first | refine br_t (by decide) ?_ | refine br_f (by decide) ?_)); exact H
  · rw [ly_tw_n (by rw [eo]; decide) (by rw [eo]; decide) (by rw [eo]; decide) (by rw [eo]; decide)] at H; (repeat (first | refine br_t (by decide) ?_ | refine br_f (by decide) ?_)); exact H
  · rw [ly_tw_n (by rw [eo]; decide) (by rw [eo]; decide) (by rw [eo]; decide) (by rw [eo]; decide)] at H; (repeat (first | refine br_t (by decide) ?_ | refine br_f (by decide) ?_)); exact H
  · rw [ly_tw_n (by rw [eo]; decide) (by rw [eo]; decide) (by rw [eo]; decide) (by rw [eo]; decide)] at H; (repeat (first | refine br_t (by decide) ?_ | refine br_f (by decide) ?_)); exact H
  · rw [ly_tw_j (by rw [eo]; decide)] at H; refine br_f (by decide) (br_f (by decide) (br_t rfl ?_))
    exact ly_x60 (H := H)
  · rw [ly_tw_j (by rw [eo]; decide)] at H; refine br_f (by decide) (br_f (by decide) (br_f (by decide) (br_t rfl ?_)))
    exact ly_x60 (H := H)
  · rw [ly_tw_j (by rw [eo]; decide)] at H; refine br_f (by decide) (br_f (by decide) (br_f (by decide) (br_f (by decide) (br_t rfl ?_))))
    exact ly_x60 (H := H)
  · rw [ly_tw_n (by rw [eo]; decide) (by rw [eo]; decide) (by rw [eo]; decide) (by rw [eo]; decide)] at H; (repeat (first | refine br_t (by decide) ?_ | refine br_f (by decide) ?_)); exact H
  · rw [ly_tw_l eo] at H
    refine br_f (by decide) (br_f (by decide) (br_f (by decide) (br_f (by decide) (br_f (by decide) (br_f (by decide) (br_t rfl ?_))))))
    by_cases h2 : xplace t ≤ 63
    · rw [decide_eq_false (Int32.not_lt.mpr h2)] at H; exact br_t h2 H
    · rw [decide_eq_true (Int32.not_le.mp h2)] at H; exact br_f h2 H
  · rw [ly_tw_n (by rw [eo]; decide) (by rw [eo]; decide) (by rw [eo]; decide) (by rw [eo]; decide)] at H; (repeat (first | refine br_t (by decide) ?_ | refine br_f (by decide) ?_)); exact H
  · rw [ly_tw_n (by rw [eo]; decide) (by rw [eo]; decide) (by rw [eo]; decide) (by rw [eo]; decide)] at H; (repeat (first | refine br_t (by decide) ?_ | refine br_f (by decide) ?_)); exact H
  · rw [ly_tw_n (by rw [eo]; decide) (by rw [eo]; decide) (by rw [eo]; decide) (by rw [eo]; decide)] at H; (repeat (first | refine br_t (by decide) ?_ | refine br_f (by decide) ?_)); exact H
  · rw [ly_tw_n (by rw [eo]; decide) (by rw [eo]; decide) (by rw [eo]; decide) (by rw [eo]; decide)] at H; (repeat (first | refine br_t (by decide) ?_ | refine br_f (by decide) ?_)); exact H
  · rw [ly_tw_n (by rw [eo]; decide) (by rw [eo]; decide) (by rw [eo]; decide) (by rw [eo]; decide)] at H; (repeat (first | refine br_t (by decide) ?_ | refine br_f (by decide) ?_)); exact H
  · rw [ly_tw_n (by rw [eo]; decide) (by rw [eo]; decide) (by rw [eo]; decide) (by rw [eo]; decide)] at H; (repeat (first | refine br_t (by decide) ?_ | refine br_f (by decide) ?_)); exact H
  · rw [ly_tw_n (by rw [eo]; decide) (by rw [eo]; decide) (by rw [eo]; decide) (by rw [eo]; decide)] at H; (repeat (first | refine br_t (by decide) ?_ | refine br_f (by decide) ?_)); exact H
theorem ly_fr_f {o a b cnt : Nat → Int32} {g : Nat → Nat} {n : Nat} {P w : Nat → Int32} {i : Nat} (h : P i = -1 ∨ ly_at o cnt g n i = false ∨ ¬ w i = 0 ∨ ly_tw o P i (ly_tn o a b cnt g n i) = false) : ly_fr o a b cnt g n P w i = false := by
  unfold ly_fr
  rcases h with h | h | h | h
  · rw [decide_eq_false (fun z => z h)]; rfl
  · rw [h, Bool.and_false]; rfl
  · rw [decide_eq_false h, Bool.and_false]; rfl
  · rw [h, Bool.and_false]
theorem ly_fr_e {o a b cnt : Nat → Int32} {g : Nat → Nat} {n : Nat} {P w : Nat → Int32} {i : Nat} (h1 : ¬ P i = -1) (h2 : ly_at o cnt g n i = true) (h3 : w i = 0) : ly_fr o a b cnt g n P w i = ly_tw o P i (ly_tn o a b cnt g n i) := by
  unfold ly_fr
  rw [decide_eq_true h1, h2, decide_eq_true h3]; rfl
theorem ly_ct_y {p : Nat → Bool} {i : Nat} (h : p i = true) : ly_ct p (i + 1) = ly_ct p i + 1 := by
  show _ + (if p i = true then 1 else 0) = _
  rw [if_pos h]
theorem ly_ct_n {p : Nat → Bool} {i : Nat} (h : p i = false) : ly_ct p (i + 1) = ly_ct p i := by
  show _ + (if p i = true then 1 else 0) = _
  rw [if_neg (by rw [h]; decide)]; rfl
/-- the table so far -/
def ly_WS (o a b cnt : Nat → Int32) (g : Nat → Nat) (n : Nat) (P w : Nat → Int32) (i : Nat) (lo : Nat → Int32) : Prop := ∀ x, x < 144 → lo x = if x < i ∧ ly_fr o a b cnt g n P w x = true then 1 else w x
theorem ly_WS_n {o a b cnt : Nat → Int32} {g : Nat → Nat} {n : Nat} {P w : Nat → Int32} {i : Nat} {lo : Nat → Int32} (h : ly_WS o a b cnt g n P w i lo) (hf : ly_fr o a b cnt g n P w i = false) : ly_WS o a b cnt g n P w (i + 1) lo := by
  intro x hx
  rw [h x hx]
  by_cases e : x = i
  · subst e
    rw [if_neg (fun z => by rw [hf] at z; exact absurd z.2 (by decide)), if_neg (fun z => by rw [hf] at z; exact absurd z.2 (by decide))]
  · by_cases c : x < i ∧ ly_fr o a b cnt g n P w x = true
    · rw [if_pos c, if_pos ⟨by have := c.1; omega, c.2⟩]
    · rw [if_neg c, if_neg (fun z => c ⟨by have := z.1; omega, z.2⟩)]
theorem ly_WS_y {o a b cnt : Nat → Int32} {g : Nat → Nat} {n : Nat} {P w : Nat → Int32} {i : Nat} {lo : Nat → Int32} (h : ly_WS o a b cnt g n P w i lo) (hf : ly_fr o a b cnt g n P w i = true) : ly_WS o a b cnt g n P w (i + 1) (upd lo i 1) := by
  intro x hx
  by_cases e : x = i
  · subst e; rw [pk_us, if_pos ⟨by omega, hf⟩]
  · rw [pk_un e, h x hx]
    by_cases c : x < i ∧ ly_fr o a b cnt g n P w x = true
    · rw [if_pos c, if_pos ⟨by have := c.1; omega, c.2⟩]
    · rw [if_neg c, if_neg (fun z => c ⟨by have := z.1; omega, z.2⟩)]
theorem ly_WS_e {o a b cnt : Nat → Int32} {g : Nat → Nat} {n : Nat} {P w lo : Nat → Int32} (h : ly_WS o a b cnt g n P w 144 lo) : ly_AG 144 lo (ly_wd o a b cnt g n P w) := by
  intro x hx
  rw [h x hx]
  unfold ly_wd
  by_cases c : ly_fr o a b cnt g n P w x = true
  · rw [if_pos ⟨hx, c⟩, if_pos c]
  · rw [if_neg (fun z => c z.2), if_neg c]
theorem ly_tw_c {o P Q : Nat → Int32} {i t : Nat} (h1 : P i = Q i) (h2 : P t = Q t) : ly_tw o P i t = ly_tw o Q i t := by
  unfold ly_tw; rw [h1, h2]
theorem ly_xl4 {post : Int32 → SX → Prop} {xbase xstrip xllen xtend xaend xlcnt xlrnd xlinked xblamed xouts xpc xsteps xran : Int32} {xops xA xB xcnt xrole xloc xglo xweak xuse xrep xunit xtgt xstay xlist xchosen xplace ximg xreg xstore xout : Nat → Int32} (hW : ly_W xcnt) (hF : ly_F xops xA xB) {g : Nat → Nat} {n : Nat} (hG : ly_GD xops xA xB xcnt g n) (hT : ∀ x, x < 144 → xtgt x = if ly_at xops xcnt g n x = true then ly_tg xops xA xB xcnt g n x else -1) {P w : Nat → Int32} (hP : ly_AG 144 xplace P)
    (H : ∀ lo : Nat → Int32, ly_AG 144 lo (ly_wd xops xA xB xcnt g n P w) → post (nI (ly_ct (ly_fr xops xA xB xcnt g n P w) 144)) (xbase, xstrip, xllen, xtend, xaend, xlcnt, xlrnd, xlinked, xblamed, xouts, xpc, xsteps, xran, xops, xA, xB, xcnt, xrole, xloc, xglo, xweak, xuse, xrep, xunit, xtgt, xstay, lo, xlist, xchosen, xplace, ximg, xreg, xstore, xout)) : ∀ (d i : Nat) (lo : Nat → Int32), i + d = 144 → ly_WS xops xA xB xcnt g n P w i lo → wX_lengthen_4 post xbase xstrip xllen xtend xaend xlcnt xlrnd xlinked xblamed xouts xpc xsteps xran (d + 1) (nI (ly_ct (ly_fr xops xA xB xcnt g n P w) i)) (nI i) xops xA xB xcnt xrole xloc xglo xweak xuse xrep xunit xtgt xstay lo xlist xchosen xplace ximg xreg xstore xout := by
  intro d
  induction d with
  | zero =>
    intro i lo hd h
    have e : i = 144 := by omega
    subst e
    exact br_t (by decide) (H lo (ly_WS_e h))
  | succ d ih =>
    intro i lo hd h
    have hi : i < 144 := by omega
    have ei : (nI i).toNatClampNeg = i := ly_cl (by omega)
    have vi : vp_in (nI i) 144 := vp_in_nI hi (by omega)
    have elo : lo i = w i := by rw [h i hi, if_neg (fun z => by have := z.1; omega)]
    have next : ly_fr xops xA xB xcnt g n P w i = false → wX_lengthen_4 post xbase xstrip xllen xtend xaend xlcnt xlrnd xlinked xblamed xouts xpc xsteps xran (d + 1) (nI (ly_ct (ly_fr xops xA xB xcnt g n P w) i)) (nI (i + 1)) xops xA xB xcnt xrole xloc xglo xweak xuse xrep xunit xtgt xstay lo xlist xchosen xplace ximg xreg xstore xout := by
      intro hf
      have IH := ih (i + 1) lo (by omega) (ly_WS_n h hf)
      rw [ly_ct_n hf] at IH
      exact IH
    refine br_f (nI_ge (b := 144) hi (by omega)) ⟨vi, ?_⟩
    rw [ei]
    by_cases hp : xplace i = -1
    · exact br_t hp (nm_r (nI_1 i) (next (ly_fr_f (Or.inl ((hP i hi).symm.trans hp)))))
    · refine br_f hp ⟨vi, ?_⟩
      have hp' : ¬ P i = -1 := fun z => hp ((hP i hi).trans z)
      cases ha : ly_at xops xcnt g n i with
      | false =>
        have et : xtgt i = -1 := by rw [hT i hi, ha]; rfl
        exact br_t et (nm_r (nI_1 i) (next (ly_fr_f (Or.inr (Or.inl ha)))))
      | true =>
        obtain ⟨t1, t2⟩ := ly_tn_t hW hF hG hi ha
        have ht := t1.1
        have et : xtgt i = nI (ly_tn xops xA xB xcnt g n i) := by rw [hT i hi, ha, if_pos rfl]; exact t2
        refine br_f (by rw [et]; exact ly_m1 (by omega)) ⟨vi, ?_⟩
        by_cases hw : lo i = 0
        · have hw' : w i = 0 := elo.symm.trans hw
          have ef := ly_fr_e (a := xA) (b := xB) hp' ha hw'
          refine br_t hw (ly_xtf (hF := hF) (hi := hi) (ht := ht) (et := et) (H := ?_))
          rw [ly_tw_c (hP i hi) (hP _ ht), ← ef]
          cases hf : ly_fr xops xA xB xcnt g n P w i with
          | false => exact br_t rfl (nm_r (nI_1 i) (next hf))
          | true =>
            have IH := ih (i + 1) (upd lo i 1) (by omega) (ly_WS_y h hf)
            rw [ly_ct_y hf] at IH
            exact br_f (by decide) ⟨vi, nm_r (e' := upd lo i 1) (by rw [ly_nar1]) (nm_r (nI_1 _) (nm_r (nI_1 i) IH))⟩
        · exact br_f hw (nm_r (nI_1 i) (next (ly_fr_f (Or.inr (Or.inr (Or.inl (fun z => hw (elo.trans z))))))))
theorem ly_xlen {post : Int32 → SX → Prop} {xbase xstrip xllen xtend xaend xlcnt xlrnd xlinked xblamed xouts xpc xsteps xran : Int32} {xops xA xB xcnt xrole xloc xglo xweak xuse xrep xunit xtgt xstay xlong xlist xchosen xplace ximg xreg xstore xout : Nat → Int32} (hW : ly_W xcnt) (hF : ly_F xops xA xB) {g : Nat → Nat} {n : Nat} (hG : ly_GD xops xA xB xcnt g n) (hT : ∀ x, x < 144 → xtgt x = if ly_at xops xcnt g n x = true then ly_tg xops xA xB xcnt g n x else -1) {P w : Nat → Int32} (hP : ly_AG 144 xplace P) (hw : ly_AG 144 xlong w)
    (H : ∀ lo : Nat → Int32, ly_AG 144 lo (ly_wd xops xA xB xcnt g n P w) → post (nI (ly_ct (ly_fr xops xA xB xcnt g n P w) 144)) (xbase, xstrip, xllen, xtend, xaend, xlcnt, xlrnd, xlinked, xblamed, xouts, xpc, xsteps, xran, xops, xA, xB, xcnt, xrole, xloc, xglo, xweak, xuse, xrep, xunit, xtgt, xstay, lo, xlist, xchosen, xplace, ximg, xreg, xstore, xout)) : wpX_lengthen post (xbase, xstrip, xllen, xtend, xaend, xlcnt, xlrnd, xlinked, xblamed, xouts, xpc, xsteps, xran, xops, xA, xB, xcnt, xrole, xloc, xglo, xweak, xuse, xrep, xunit, xtgt, xstay, xlong, xlist, xchosen, xplace, ximg, xreg, xstore, xout) :=
  ⟨145, ly_xl4 (hW := hW) (hF := hF) (hG := hG) (hT := hT) (hP := hP) (H := H) 144 0 xlong (by omega) (fun x hx => by rw [if_neg (fun z => by have := z.1; omega)]; exact hw x hx)⟩
theorem ly_y115 {post : Int32 → SY → Prop} {J : Int32 → Int32 → (Nat → Int32) → (Nat → Int32) → (Nat → Int32) → (Nat → Int32) → (Nat → Int32) → (Nat → Int32) → (Nat → Int32) → (Nat → Int32) → (Nat → Int32) → (Nat → Int32) → (Nat → Int32) → (Nat → Int32) → (Nat → Int32) → (Nat → Int32) → Prop} {yorg ystrip ymany yculp ytend yend ymade yrounds yentry ylinked yran ypc ysteps youts : Int32} {yops yA yB ycnt yrole ylist yplace ysym yimg ystay ywide ymem yreg yout : Nat → Int32} {i c : Nat} (hi : i < 144) (H : J (nI (c + 1)) (nI (i + 1)) yops yA yB ycnt yrole ylist yplace ysym yimg ystay (upd ywide i 1) ymem yreg yout) : wY_widen_115 post J (nI c) (nI i) yorg ystrip ymany yculp ytend yend ymade yrounds yentry ylinked yran ypc ysteps youts yops yA yB ycnt yrole ylist yplace ysym yimg ystay ywide ymem yreg yout :=
  ⟨vp_in_nI hi (by omega), nm_r (e' := upd ywide i 1) (by rw [ly_cl (i := i) (by omega), ly_nar1]) (nm_r (nI_1 c) (nm_r (nI_1 i) H))⟩
theorem ly_y58 {post : Int32 → SY → Prop} {J : Int32 → Int32 → (Nat → Int32) → (Nat → Int32) → (Nat → Int32) → (Nat → Int32) → (Nat → Int32) → (Nat → Int32) → (Nat → Int32) → (Nat → Int32) → (Nat → Int32) → (Nat → Int32) → (Nat → Int32) → (Nat → Int32) → (Nat → Int32) → (Nat → Int32) → Prop} {yorg ystrip yculp ytend yend ymade yrounds yentry ylinked yran ypc ysteps youts : Int32} {yops yA yB ycnt yrole ylist yplace ysym yimg ystay ywide ymem yreg yout : Nat → Int32} (hW : ly_W ycnt) (hF : ly_F yops yA yB) {g : Nat → Nat} {n : Nat} (hL : ly_LS yops yA ycnt ylist g n) (hG : ly_GD yops yA yB ycnt g n) {i c : Nat} (hi : i < 144) (ha : ly_at yops ycnt g n i = true) (ho : yops i = 8 ∨ yops i = 9 ∨ yops i = 10 ∨ yops i = 12)
    (H1 : ly_tw yops yplace i (ly_tn yops yA yB ycnt g n i) = true → J (nI (c + 1)) (nI (i + 1)) yops yA yB ycnt yrole ylist yplace ysym yimg ystay (upd ywide i 1) ymem yreg yout) (H0 : ly_tw yops yplace i (ly_tn yops yA yB ycnt g n i) = false → J (nI c) (nI (i + 1)) yops yA yB ycnt yrole ylist yplace ysym yimg ystay ywide ymem yreg yout) : wY_widen_58 post J (nI c) (nI i) (yops i) 1 yorg ystrip (nI n) yculp ytend yend ymade yrounds yentry ylinked yran ypc ysteps youts yops yA yB ycnt yrole ylist yplace ysym yimg ystay ywide ymem yreg yout := by
  obtain ⟨t1, t2⟩ := ly_tn_t hW hF hG hi ha
  have ht := t1.1
  have ha' := ha
  unfold ly_at at ha'
  rw [Bool.and_eq_true, Bool.and_eq_true, decide_eq_true_eq] at ha'
  obtain ⟨f, hf', ef⟩ := ly_ft_s (hF i hi) ha'.2
  obtain ⟨j, j1, j2⟩ := ly_li_g.mp ha'.1.1
  refine br_f (by decide) (ly_ytg (hW := hW) (hF := hF) (hL := hL) (hi := hi) (hf := by rw [← j2]; exact (hG.2.1 j j1).2) (hs := by rw [ef]; exact hG.2.2.1 f hf') (H := ?_))
  rw [t2]
  refine ⟨vp_in_nI ht (by omega), ?_⟩
  rw [ly_cl (i := ly_tn yops yA yB ycnt g n i) (by omega)]
  refine nm_e ?_
  by_cases h12 : yops i = 12
  · refine br_t h12 ?_
    rw [ly_tw_l h12] at H1 H0
    by_cases h2 : yplace (ly_tn yops yA yB ycnt g n i) ≤ 63
    · exact br_t h2 (nm_r (nI_1 i) (H0 (decide_eq_false (Int32.not_lt.mpr h2))))
    · exact br_f h2 (ly_y115 (hi := hi) (H := H1 (decide_eq_true (Int32.not_le.mp h2))))
  · have hj : yops i = 8 ∨ yops i = 9 ∨ yops i = 10 := by
      rcases ho with z | z | z | z
      · exact Or.inl z
      · exact Or.inr (Or.inl z)
      · exact Or.inr (Or.inr z)
      · exact absurd z h12
    rw [ly_tw_j hj] at H1 H0
    refine br_f h12 ⟨vp_in_nI hi (by omega), ?_⟩
    rw [ly_cl (i := i) (by omega)]
    by_cases c1 : yplace (ly_tn yops yA yB ycnt g n i) - yplace i < -16
    · exact br_t c1 (br_t rfl (ly_y115 (hi := hi) (H := H1 (decide_eq_true (Or.inl c1)))))
    · by_cases c2 : 15 < yplace (ly_tn yops yA yB ycnt g n i) - yplace i
      · exact br_f c1 (br_t c2 (br_t rfl (ly_y115 (hi := hi) (H := H1 (decide_eq_true (Or.inr c2))))))
      · exact br_f c1 (br_f c2 (br_f (by decide) (nm_r (nI_1 i) (H0 (decide_eq_false (fun z => z.elim c1 c2))))))
theorem ly_yw4 {post : Int32 → SY → Prop} {yorg ystrip yculp ytend yend ymade yrounds yentry ylinked yran ypc ysteps youts : Int32} {yops yA yB ycnt yrole ylist yplace ysym yimg ystay ymem yreg yout : Nat → Int32} (hW : ly_W ycnt) (hF : ly_F yops yA yB) {g : Nat → Nat} {n : Nat} (hL : ly_LS yops yA ycnt ylist g n) (hG : ly_GD yops yA yB ycnt g n) {P w : Nat → Int32} (hP : ly_AG 144 yplace P) (hPp : ∀ i, i < 144 → P i = -1 ∨ (∃ p : Nat, p < 2 ^ 31 ∧ P i = nI p) ∧ ly_th ycnt g n i)
    (H : ∀ lo : Nat → Int32, ly_AG 144 lo (ly_wd yops yA yB ycnt g n P w) → post (nI (ly_ct (ly_fr yops yA yB ycnt g n P w) 144)) (yorg, ystrip, nI n, yculp, ytend, yend, ymade, yrounds, yentry, ylinked, yran, ypc, ysteps, youts, yops, yA, yB, ycnt, yrole, ylist, yplace, ysym, yimg, ystay, lo, ymem, yreg, yout)) : ∀ (d i : Nat) (lo : Nat → Int32), i + d = 144 → ly_WS yops yA yB ycnt g n P w i lo → wY_widen_4 post yorg ystrip (nI n) yculp ytend yend ymade yrounds yentry ylinked yran ypc ysteps youts (d + 1) (nI (ly_ct (ly_fr yops yA yB ycnt g n P w) i)) (nI i) yops yA yB ycnt yrole ylist yplace ysym yimg ystay lo ymem yreg yout := by
  intro d
  induction d with
  | zero =>
    intro i lo hd h
    have e : i = 144 := by omega
    subst e
    exact br_t (by decide) (H lo (ly_WS_e h))
  | succ d ih =>
    intro i lo hd h
    have hi : i < 144 := by omega
    have ei : (nI i).toNatClampNeg = i := ly_cl (by omega)
    have vi : vp_in (nI i) 144 := vp_in_nI hi (by omega)
    have elo : lo i = w i := by rw [h i hi, if_neg (fun z => by have := z.1; omega)]
    have next : ly_fr yops yA yB ycnt g n P w i = false → wY_widen_4 post yorg ystrip (nI n) yculp ytend yend ymade yrounds yentry ylinked yran ypc ysteps youts (d + 1) (nI (ly_ct (ly_fr yops yA yB ycnt g n P w) i)) (nI (i + 1)) yops yA yB ycnt yrole ylist yplace ysym yimg ystay lo ymem yreg yout := by
      intro hf
      have IH := ih (i + 1) lo (by omega) (ly_WS_n h hf)
      rw [ly_ct_n hf] at IH
      exact IH
    refine br_f (nI_ge (b := 144) hi (by omega)) ⟨vi, ?_⟩
    rw [ei]
    refine nm_e ⟨vi, ?_⟩
    rw [hP i hi]
    rcases hPp i hi with hp | ⟨⟨p, hpb, hp⟩, hth⟩
    · rw [hp]
      exact br_t (by decide) (br_t rfl (nm_r (nI_1 i) (next (ly_fr_f (Or.inl hp)))))
    · rw [hp]
      refine br_f (nI_pos hpb) ⟨vi, ?_⟩
      by_cases hw : lo i = 0
      · refine br_t hw ?_
        have hw' : w i = 0 := elo.symm.trans hw
        have hp1 : ¬ P i = -1 := by rw [hp]; exact ly_m1 hpb
        -- the four that may be long
        have go : (yops i = 8 ∨ yops i = 9 ∨ yops i = 10 ∨ yops i = 12) → wY_widen_58 post (wY_widen_4 post yorg ystrip (nI n) yculp ytend yend ymade yrounds yentry ylinked yran ypc ysteps youts (d + 1)) (nI (ly_ct (ly_fr yops yA yB ycnt g n P w) i)) (nI i) (yops i) 1 yorg ystrip (nI n) yculp ytend yend ymade yrounds yentry ylinked yran ypc ysteps youts yops yA yB ycnt yrole ylist yplace ysym yimg ystay lo ymem yreg yout := by
          intro ho
          have ha : ly_at yops ycnt g n i = true := by
            unfold ly_at
            rw [hth.2.1, decide_eq_true hth.2.2]
            show ly_us (yops i) = true
            rcases ho with z | z | z | z <;> rw [z] <;> decide
          have ef := ly_fr_e (a := yA) (b := yB) hp1 ha hw'
          have ht := (ly_tn_t hW hF hG hi ha).1.1
          have ec := ly_tw_c (o := yops) (hP i hi) (hP _ ht)
          refine ly_y58 (hW := hW) (hF := hF) (hL := hL) (hG := hG) (hi := hi) (ha := ha) (ho := ho) (H1 := fun z => ?_) (H0 := fun z => ?_)
          · have hf : ly_fr yops yA yB ycnt g n P w i = true := ef.trans (ec.symm.trans z)
            have IH := ih (i + 1) (upd lo i 1) (by omega) (ly_WS_y h hf)
            rw [ly_ct_y hf] at IH
            exact IH
          · exact next (ef.trans (ec.symm.trans z))
        have stop : ¬ yops i = 8 → ¬ yops i = 9 → ¬ yops i = 10 → ¬ yops i = 12 → wY_widen_58 post (wY_widen_4 post yorg ystrip (nI n) yculp ytend yend ymade yrounds yentry ylinked yran ypc ysteps youts (d + 1)) (nI (ly_ct (ly_fr yops yA yB ycnt g n P w) i)) (nI i) (yops i) 0 yorg ystrip (nI n) yculp ytend yend ymade yrounds yentry ylinked yran ypc ysteps youts yops yA yB ycnt yrole ylist yplace ysym yimg ystay lo ymem yreg yout := by
          intro n8 n9 n10 n12
          exact br_t rfl (nm_r (nI_1 i) (next (ly_fr_f (Or.inr (Or.inr (Or.inr (ly_tw_n n8 n9 n10 n12)))))))
        obtain ⟨op, hop, eo, _⟩ := hF i hi
        by_cases c8 : op < 8
        · have q : ∀ j, 8 ≤ j → j ≤ 12 → ¬ yops i = nI j := fun j h1 h2 z => by have := ly_inj (by omega) (by omega) (eo.symm.trans z); omega
          exact br_t (by rw [eo]; exact nI_lt (b := 8) c8 (by omega)) (br_t rfl (br_f (q 12 (by omega) (by omega)) (stop (q 8 (by omega) (by omega)) (q 9 (by omega) (by omega)) (q 10 (by omega) (by omega)) (q 12 (by omega) (by omega)))))
        · by_cases c10 : 10 < op
          · refine br_f (by rw [eo]; exact nI_nlt (b := 8) (by omega) (by omega)) (br_t (by rw [eo]; exact nI_lt (a := 10) c10 (by omega)) (br_t rfl ?_))
            have q : ∀ j, 8 ≤ j → j ≤ 10 → ¬ yops i = nI j := fun j h1 h2 z => by have := ly_inj (by omega) (by omega) (eo.symm.trans z); omega
            by_cases c12 : yops i = 12
            · exact br_t c12 (go (Or.inr (Or.inr (Or.inr c12))))
            · exact br_f c12 (stop (q 8 (by omega) (by omega)) (q 9 (by omega) (by omega)) (q 10 (by omega) (by omega)) c12)
          · have ho : yops i = 8 ∨ yops i = 9 ∨ yops i = 10 ∨ yops i = 12 := by
              have : op = 8 ∨ op = 9 ∨ op = 10 := by omega
              rcases this with rfl | rfl | rfl
              · exact Or.inl eo
              · exact Or.inr (Or.inl eo)
              · exact Or.inr (Or.inr (Or.inl eo))
            exact br_f (by rw [eo]; exact nI_nlt (b := 8) (by omega) (by omega)) (br_f (by rw [eo]; exact nI_nlt (a := 10) (by omega) (by omega)) (br_f (by decide) (go ho)))
      · exact br_f hw (br_t rfl (nm_r (nI_1 i) (next (ly_fr_f (Or.inr (Or.inr (Or.inl (fun z => hw (elo.trans z)))))))))
theorem ly_ywi {post : Int32 → SY → Prop} {yorg ystrip yculp ytend yend ymade yrounds yentry ylinked yran ypc ysteps youts : Int32} {yops yA yB ycnt yrole ylist yplace ysym yimg ystay ywide ymem yreg yout : Nat → Int32} (hW : ly_W ycnt) (hF : ly_F yops yA yB) {g : Nat → Nat} {n : Nat} (hL : ly_LS yops yA ycnt ylist g n) (hG : ly_GD yops yA yB ycnt g n) {P w : Nat → Int32} (hP : ly_AG 144 yplace P) (hPp : ∀ i, i < 144 → P i = -1 ∨ (∃ p : Nat, p < 2 ^ 31 ∧ P i = nI p) ∧ ly_th ycnt g n i) (hw : ly_AG 144 ywide w)
    (H : ∀ lo : Nat → Int32, ly_AG 144 lo (ly_wd yops yA yB ycnt g n P w) → post (nI (ly_ct (ly_fr yops yA yB ycnt g n P w) 144)) (yorg, ystrip, nI n, yculp, ytend, yend, ymade, yrounds, yentry, ylinked, yran, ypc, ysteps, youts, yops, yA, yB, ycnt, yrole, ylist, yplace, ysym, yimg, ystay, lo, ymem, yreg, yout)) : wpY_widen post (yorg, ystrip, nI n, yculp, ytend, yend, ymade, yrounds, yentry, ylinked, yran, ypc, ysteps, youts, yops, yA, yB, ycnt, yrole, ylist, yplace, ysym, yimg, ystay, ywide, ymem, yreg, yout) :=
  ⟨145, ly_yw4 (hW := hW) (hF := hF) (hL := hL) (hG := hG) (hP := hP) (hPp := hPp) (H := H) 144 0 ywide (by omega) (fun x hx => by rw [if_neg (fun z => by have := z.1; omega)]; exact hw x hx)⟩

/-! the list: pure facts -/
theorem ly_nx_c (M : Nat → Bool) (inn : Nat → Int32) : ∀ d s, ly_nx M inn d s = -1 ∨ ∃ q, q < s + d ∧ M q = true ∧ ¬ inn q = -1 ∧ ly_nx M inn d s = inn q := by
  intro d
  induction d with
  | zero => intro s; exact Or.inl rfl
  | succ d ih =>
    intro s
    by_cases h : M s = true ∧ ¬ inn s = -1
    · exact Or.inr ⟨s, by omega, h.1, h.2, if_pos h⟩
    · have e : ly_nx M inn (d + 1) s = ly_nx M inn d (s + 1) := if_neg h
      rw [e]
      rcases ih (s + 1) with h1 | ⟨q, h1, h2⟩
      · exact Or.inl h1
      · exact Or.inr ⟨q, by omega, h2⟩
theorem ly_na_c {o a b cnt role : Nat → Int32} (g : Nat → Nat) (n : Nat) : ly_na o a b cnt role g n = -1 ∨ ∃ m, m < 6 ∧ ly_na o a b cnt role g n = nI m ∧ ly_li g n m = false := by
  rcases ly_nx_c (ly_ms o a b cnt g n) (ly_ia o a b cnt role) 16 0 with h | ⟨q, h1, h2, h3, e⟩
  · exact Or.inl h
  · rcases ly_fd_c (fun m => decide (role m = 2) && ly_df o a b cnt m (nI q)) 6 0 with ⟨z, _⟩ | ⟨m, _, m2, m3, _, z⟩
    · exact absurd z h3
    · refine Or.inr ⟨m, by omega, e.trans z, ?_⟩
      cases hl : ly_li g n m with
      | false => rfl
      | true =>
        unfold ly_ms at h2
        have hd : ly_dd o a b cnt g n q = false := by
          revert h2; cases ly_dd o a b cnt g n q <;> simp
        rw [ly_dd_li hd hl, Bool.and_false] at m3
        exact absurd m3 (by decide)
/-- as many as are listed: no module twice -/
def ly_DI (g : Nat → Nat) (n : Nat) : Prop := ly_ct (ly_li g n) 6 = n
theorem ly_li_u {g : Nat → Nat} {n m j : Nat} : ly_li (ly_uN g n m) (n + 1) j = (ly_li g n j || decide (m = j)) := by
  show (ly_ex (fun i => decide (ly_uN g n m i = j)) 0 n || decide (ly_uN g n m (0 + n) = j)) = _
  rw [Nat.zero_add, ly_uNs]
  rw [ly_ex_congr (q := fun i => decide (g i = j)) (fun i _ hi => by rw [ly_uNn (by omega)])]
  rfl
theorem ly_DI_u {g : Nat → Nat} {n m : Nat} (h : ly_DI g n) (hm : m < 6) (hl : ly_li g n m = false) : ly_DI (ly_uN g n m) (n + 1) := by
  unfold ly_DI at *
  rw [ly_ct_one (p := ly_li g n) (q := ly_li (ly_uN g n m) (n + 1)) hm (fun j _ hj => ?_) ?_ hl, h]
  · rw [ly_li_u, decide_eq_true rfl, Bool.or_true]
  · rw [ly_li_u, decide_eq_false (fun z => hj z.symm), Bool.or_false]
theorem ly_DI_lt {g : Nat → Nat} {n m : Nat} (h : ly_DI g n) (hm : m < 6) (hl : ly_li g n m = false) : n < 6 := by
  have := ly_ct_full (p := ly_li g n) hm hl
  unfold ly_DI at h
  omega
theorem ly_DI_le {g : Nat → Nat} {n : Nat} (h : ly_DI g n) : n ≤ 6 := by
  have := ly_ct_le (ly_li g n) 6
  unfold ly_DI at h
  omega
theorem ly_LS_u {o a cnt list : Nat → Int32} {g : Nat → Nat} {n m : Nat} (h : ly_LS o a cnt list g n) (hm : m < 6) (hn : n < 6) (hf : ly_fy o a cnt m = false) : ly_LS o a cnt (upd list n (nI m)) (ly_uN g n m) (n + 1) := by
  refine ⟨by omega, fun i hi => ?_⟩
  by_cases e : i = n
  · subst e; rw [ly_uNs, pk_us]; exact ⟨hm, rfl, hf⟩
  · rw [ly_uNn e, pk_un e]; exact h.2 i (by omega)
/-- the taken ones -/
theorem ly_tk_le (role : Nat → Int32) : ∀ j, (ly_tk role j).1 ≤ j := by
  intro j
  induction j with
  | zero => exact Nat.le_refl _
  | succ j ih =>
    simp only [ly_tk]
    by_cases h : role j = 1
    · rw [if_pos h]; show _ + 1 ≤ _; omega
    · rw [if_neg h]; omega
theorem ly_tk_y {role : Nat → Int32} {j : Nat} (h : role j = 1) : ly_tk role (j + 1) = ((ly_tk role j).1 + 1, ly_uN (ly_tk role j).2 (ly_tk role j).1 j) := if_pos h
theorem ly_tk_n {role : Nat → Int32} {j : Nat} (h : ¬ role j = 1) : ly_tk role (j + 1) = ly_tk role j := if_neg h
theorem ly_tk_c (role : Nat → Int32) : ∀ j, (∀ i, i < (ly_tk role j).1 → (ly_tk role j).2 i < j ∧ role ((ly_tk role j).2 i) = 1) ∧ (∀ i l, i < l → l < (ly_tk role j).1 → (ly_tk role j).2 i < (ly_tk role j).2 l) ∧ (∀ m, m < j → role m = 1 → ∃ i, i < (ly_tk role j).1 ∧ (ly_tk role j).2 i = m) := by
  intro j
  induction j with
  | zero => exact ⟨fun i hi => absurd hi (Nat.not_lt_zero i), fun i l _ hl => absurd hl (Nat.not_lt_zero l), fun m hm => absurd hm (Nat.not_lt_zero m)⟩
  | succ j ih =>
    obtain ⟨h1, h2, h3⟩ := ih
    by_cases h : role j = 1
    · rw [ly_tk_y h]
      dsimp only
      refine ⟨fun i hi => ?_, fun i l hil hl => ?_, fun m hm hr => ?_⟩
      · by_cases e : i = (ly_tk role j).1
        · subst e; rw [ly_uNs]; exact ⟨by omega, h⟩
        · rw [ly_uNn e]; have := h1 i (by omega); exact ⟨by omega, this.2⟩
      · by_cases e : l = (ly_tk role j).1
        · subst e; rw [ly_uNs, ly_uNn (by omega)]; exact (h1 i hil).1
        · rw [ly_uNn e, ly_uNn (by omega)]; exact h2 i l hil (by omega)
      · by_cases e : m = j
        · exact ⟨(ly_tk role j).1, by omega, by rw [ly_uNs, e]⟩
        · obtain ⟨i, i1, i2⟩ := h3 m (by omega) hr
          exact ⟨i, by omega, by rw [ly_uNn (by omega)]; exact i2⟩
    · rw [ly_tk_n h]
      refine ⟨fun i hi => ⟨by have := (h1 i hi).1; omega, (h1 i hi).2⟩, h2, fun m hm hr => ?_⟩
      have e : m ≠ j := fun e => h (e ▸ hr)
      exact h3 m (by omega) hr
theorem ly_ct_false : ∀ N : Nat, ly_ct (fun _ => false) N = 0 := by
  intro N
  induction N with
  | zero => rfl
  | succ N ih => simp only [ly_ct, ih]; rfl
theorem ly_tk_di (role : Nat → Int32) : ∀ j, j ≤ 6 → ly_DI (ly_tk role j).2 (ly_tk role j).1 := by
  intro j
  induction j with
  | zero => intro _; exact ly_ct_false 6
  | succ j ih =>
    intro hj
    by_cases h : role j = 1
    · rw [ly_tk_y h]
      refine ly_DI_u (ih (by omega)) (by omega) (ly_ex_f.mpr (fun i _ hi => decide_eq_false (fun e => ?_)))
      have := ((ly_tk_c role j).1 i (by omega)).1
      omega
    · rw [ly_tk_n h]; exact ih (by omega)
/-- the first taken module that is faulty -/
def ly_tf (o a cnt role : Nat → Int32) : Int32 := ly_fd (fun m => decide (role m = 1) && ly_fy o a cnt m) 6 0
theorem ly_tf_y {o a cnt role : Nat → Int32} {m : Nat} (hm : m < 6) (hr : role m = 1) (hf : ly_fy o a cnt m = true) (hl : ∀ j, j < m → (decide (role j = 1) && ly_fy o a cnt j) = false) : ly_tf o a cnt role = nI m := by
  rcases ly_fd_c (fun m => decide (role m = 1) && ly_fy o a cnt m) 6 0 with ⟨_, h⟩ | ⟨j, _, j2, j3, j4, e⟩
  · have := h m (by omega) (by omega)
    rw [decide_eq_true hr, hf] at this
    exact absurd this (by decide)
  · have e1 : j = m := by
      rcases Nat.lt_trichotomy j m with z | z | z
      · rw [hl j z] at j3; exact absurd j3 (by decide)
      · exact z
      · have := j4 m (by omega) z
        rw [decide_eq_true hr, hf] at this
        exact absurd this (by decide)
    subst e1
    exact e
theorem ly_tf_n {o a cnt role : Nat → Int32} (h : ∀ j, j < 6 → (decide (role j = 1) && ly_fy o a cnt j) = false) : ly_tf o a cnt role = -1 := by
  rcases ly_fd_c (fun m => decide (role m = 1) && ly_fy o a cnt m) 6 0 with ⟨e, _⟩ | ⟨j, _, j2, j3, _, _⟩
  · exact e
  · rw [h j (by omega)] at j3; exact absurd j3 (by decide)
/-! X -/
theorem ly_xadd1 {post : Int32 → SX → Prop} {xbase xstrip xtend xaend xlcnt xlrnd xlinked xblamed xouts xpc xsteps xran : Int32} {xops xA xB xcnt xrole xloc xglo xweak xuse xrep xunit xtgt xstay xlong xlist xchosen xplace ximg xreg xstore xout : Nat → Int32} (hV : ly_SV xops xA xB xcnt xloc xglo xweak xuse xrep xunit 6) {m n : Nat} (hm : m < 6) (hn : n < 6) (hf : ly_fy xops xA xcnt m = false) (H : post 1 (xbase, xstrip, nI (n + 1), xtend, xaend, xlcnt, xlrnd, xlinked, xblamed, xouts, xpc, xsteps, xran, xops, xA, xB, xcnt, xrole, xloc, xglo, xweak, xuse, xrep, xunit, xtgt, xstay, xlong, upd xlist n (nI m), xchosen, xplace, ximg, xreg, xstore, xout)) : wpX_addToList post (xbase, xstrip, nI n, xtend, xaend, xlcnt, xlrnd, xlinked, xblamed, xouts, xpc, xsteps, xran, xops, xA, xB, xcnt, xrole, xloc, xglo, xweak, xuse, xrep, xunit, xtgt, xstay, xlong, xlist, xchosen, xplace, ximg, xreg, xstore, xout) (nI m) := by
  refine ⟨vp_in_nI hm (by omega), ?_⟩
  rw [ly_cl (i := m) (by omega)]
  exact br_t ((hV m hm).2.1.mpr hf) (br_f (nI_ge (b := 6) hn (by omega)) ⟨vp_in_nI hn (by omega), nm_r (e' := upd xlist n (nI m)) (by rw [ly_cl (i := n) (by omega)]) (nm_r (nI_1 n) H)⟩)
theorem ly_xadd0 {post : Int32 → SX → Prop} {xbase xstrip xllen xtend xaend xlcnt xlrnd xlinked xblamed xouts xpc xsteps xran : Int32} {xops xA xB xcnt xrole xloc xglo xweak xuse xrep xunit xtgt xstay xlong xlist xchosen xplace ximg xreg xstore xout : Nat → Int32} (hV : ly_SV xops xA xB xcnt xloc xglo xweak xuse xrep xunit 6) {m : Nat} (hm : m < 6) (hf : ly_fy xops xA xcnt m = true) (H : post 0 (xbase, xstrip, xllen, xtend, xaend, xlcnt, xlrnd, xlinked, nI m, xouts, xpc, xsteps, xran, xops, xA, xB, xcnt, xrole, xloc, xglo, xweak, xuse, xrep, xunit, xtgt, xstay, xlong, xlist, xchosen, xplace, ximg, xreg, xstore, xout)) : wpX_addToList post (xbase, xstrip, xllen, xtend, xaend, xlcnt, xlrnd, xlinked, xblamed, xouts, xpc, xsteps, xran, xops, xA, xB, xcnt, xrole, xloc, xglo, xweak, xuse, xrep, xunit, xtgt, xstay, xlong, xlist, xchosen, xplace, ximg, xreg, xstore, xout) (nI m) := by
  refine ⟨vp_in_nI hm (by omega), ?_⟩
  rw [ly_cl (i := m) (by omega)]
  exact br_f (fun z => by have := (hV m hm).2.1.mp z; rw [hf] at this; exact absurd this (by decide)) H
theorem ly_xl36 {post : Int32 → SX → Prop} {xbase xstrip xtend xaend xlcnt xlrnd xlinked xblamed xouts xpc xsteps xran : Int32} {xops xA xB xcnt xrole xloc xglo xweak xuse xrep xunit xtgt xstay xlong xchosen xplace ximg xreg xstore xout : Nat → Int32} (hV : ly_SV xops xA xB xcnt xloc xglo xweak xuse xrep xunit 6) : ∀ (f k : Nat) (g : Nat → Nat) (n : Nat) (xlist : Nat → Int32), k + f = 6 → ly_LS xops xA xcnt xlist g n → ly_DI g n → (∀ (l : Int32) (li : Nat → Int32), ¬ (ly_ar xops xA xB xcnt xrole f g n).1 = -1 → post 1 (xbase, xstrip, l, xtend, xaend, xlcnt, xlrnd, xlinked, (ly_ar xops xA xB xcnt xrole f g n).1, xouts, xpc, xsteps, xran, xops, xA, xB, xcnt, xrole, xloc, xglo, xweak, xuse, xrep, xunit, xtgt, xstay, xlong, li, xchosen, xplace, ximg, xreg, xstore, xout)) → (∀ li : Nat → Int32, (ly_ar xops xA xB xcnt xrole f g n).1 = -1 → ly_LS xops xA xcnt li (ly_ar xops xA xB xcnt xrole f g n).2.1 (ly_ar xops xA xB xcnt xrole f g n).2.2 → post 0 (xbase, xstrip, nI (ly_ar xops xA xB xcnt xrole f g n).2.2, xtend, xaend, xlcnt, xlrnd, xlinked, xblamed, xouts, xpc, xsteps, xran, xops, xA, xB, xcnt, xrole, xloc, xglo, xweak, xuse, xrep, xunit, xtgt, xstay, xlong, li, xchosen, xplace, ximg, xreg, xstore, xout)) → wX_listModules_36 post (f + 1) (nI k) xbase xstrip (nI n) xtend xaend xlcnt xlrnd xlinked xblamed xouts xpc xsteps xran xops xA xB xcnt xrole xloc xglo xweak xuse xrep xunit xtgt xstay xlong xlist xchosen xplace ximg xreg xstore xout := by
  intro f
  induction f with
  | zero =>
    intro k g n xlist hk hL hD H1 H2
    have e : k = 6 := by omega
    subst e
    exact br_t (by decide) (H2 xlist rfl hL)
  | succ f ih =>
    intro k g n xlist hk hL hD H1 H2
    refine br_f (nI_ge (b := 6) (by omega) (by omega)) (ly_xna (hV := hV) (hL := hL) (H := ?_))
    rcases ly_na_c (o := xops) (a := xA) (b := xB) (cnt := xcnt) (role := xrole) g n with h | ⟨m, hm, h, hl⟩
    · have e : ly_ar xops xA xB xcnt xrole (f + 1) g n = (-1, g, n) := if_pos h
      rw [e] at H2
      exact br_t h (H2 xlist rfl hL)
    · have hn := ly_DI_lt hD hm hl
      have hm1 : ¬ nI m = -1 := ly_m1 (by omega)
      rw [h]
      refine br_f hm1 ?_
      cases hf : ly_fy xops xA xcnt m with
      | true =>
        have e : ly_ar xops xA xB xcnt xrole (f + 1) g n = (nI m, g, n) := by
          simp only [ly_ar]
          rw [h, if_neg hm1, ly_cl (i := m) (by omega), if_pos hf]
        rw [e] at H1
        exact ly_xadd0 (hV := hV) (hm := hm) (hf := hf) (H := br_t rfl (H1 _ _ hm1))
      | false =>
        have e : ly_ar xops xA xB xcnt xrole (f + 1) g n = ly_ar xops xA xB xcnt xrole f (ly_uN g n m) (n + 1) := by
          simp only [ly_ar]
          rw [h, if_neg hm1, ly_cl (i := m) (by omega), if_neg (by rw [hf]; decide)]
        rw [e] at H1 H2
        exact ly_xadd1 (hV := hV) (hm := hm) (hn := hn) (hf := hf) (H := br_f (by decide) (nm_r (nI_1 k) (ih (k + 1) _ _ _ (by omega) (ly_LS_u hL hm hn hf) (ly_DI_u hD hm hl) H1 H2)))
/-- what the listing answers: a faulty module, or the list -/
def ly_ll (o a b cnt role : Nat → Int32) : Int32 × (Nat → Nat) × Nat := if ly_tf o a cnt role = -1 then ly_ar o a b cnt role 6 (ly_tk role 6).2 (ly_tk role 6).1 else (ly_tf o a cnt role, fun _ => 0, 0)
theorem ly_xl2m {post : Int32 → SX → Prop} {xbase xstrip xtend xaend xlcnt xlrnd xlinked xblamed xouts xpc xsteps xran : Int32} {xops xA xB xcnt xrole xloc xglo xweak xuse xrep xunit xtgt xstay xlong xchosen xplace ximg xreg xstore xout : Nat → Int32} (hV : ly_SV xops xA xB xcnt xloc xglo xweak xuse xrep xunit 6) (H1 : ∀ (l : Int32) (li : Nat → Int32), ¬ (ly_ll xops xA xB xcnt xrole).1 = -1 → post 1 (xbase, xstrip, l, xtend, xaend, xlcnt, xlrnd, xlinked, (ly_ll xops xA xB xcnt xrole).1, xouts, xpc, xsteps, xran, xops, xA, xB, xcnt, xrole, xloc, xglo, xweak, xuse, xrep, xunit, xtgt, xstay, xlong, li, xchosen, xplace, ximg, xreg, xstore, xout)) (H2 : ∀ li : Nat → Int32, (ly_ll xops xA xB xcnt xrole).1 = -1 → ly_LS xops xA xcnt li (ly_ll xops xA xB xcnt xrole).2.1 (ly_ll xops xA xB xcnt xrole).2.2 → post 0 (xbase, xstrip, nI (ly_ll xops xA xB xcnt xrole).2.2, xtend, xaend, xlcnt, xlrnd, xlinked, xblamed, xouts, xpc, xsteps, xran, xops, xA, xB, xcnt, xrole, xloc, xglo, xweak, xuse, xrep, xunit, xtgt, xstay, xlong, li, xchosen, xplace, ximg, xreg, xstore, xout)) : ∀ (d j : Nat) (xlist : Nat → Int32), j + d = 6 → (∀ m, m < j → (decide (xrole m = 1) && ly_fy xops xA xcnt m) = false) → ly_LS xops xA xcnt xlist (ly_tk xrole j).2 (ly_tk xrole j).1 → wX_listModules_2 post (d + 1) (nI j) xbase xstrip (nI (ly_tk xrole j).1) xtend xaend xlcnt xlrnd xlinked xblamed xouts xpc xsteps xran xops xA xB xcnt xrole xloc xglo xweak xuse xrep xunit xtgt xstay xlong xlist xchosen xplace ximg xreg xstore xout := by
  intro d
  induction d with
  | zero =>
    intro j xlist hd hn hL
    have e : j = 6 := by omega
    subst e
    have et : ly_tf xops xA xcnt xrole = -1 := ly_tf_n hn
    have el : ly_ll xops xA xB xcnt xrole = ly_ar xops xA xB xcnt xrole 6 (ly_tk xrole 6).2 (ly_tk xrole 6).1 := if_pos et
    rw [el] at H1 H2
    exact br_t (by decide) ⟨7, ly_xl36 (hV := hV) 6 0 _ _ xlist (by omega) hL (ly_tk_di xrole 6 (by omega)) H1 H2⟩
  | succ d ih =>
    intro j xlist hd hn hL
    have hj : j < 6 := by omega
    have hle := ly_tk_le xrole j
    refine br_f (nI_ge (b := 6) hj (by omega)) ⟨vp_in_nI hj (by omega), ?_⟩
    rw [ly_cl (i := j) (by omega)]
    have next : (decide (xrole j = 1) && ly_fy xops xA xcnt j) = false → ∀ m, m < j + 1 → (decide (xrole m = 1) && ly_fy xops xA xcnt m) = false := by
      intro hf m hm
      by_cases e : m = j
      · subst e; exact hf
      · exact hn m (by omega)
    by_cases h1 : xrole j = 1
    · refine br_t h1 ?_
      cases hf : ly_fy xops xA xcnt j with
      | true =>
        have et : ly_tf xops xA xcnt xrole = nI j := ly_tf_y hj h1 hf hn
        have el : (ly_ll xops xA xB xcnt xrole).1 = nI j := by
          unfold ly_ll
          rw [et, if_neg (ly_m1 (by omega))]
        rw [el] at H1
        exact ly_xadd0 (hV := hV) (hm := hj) (hf := hf) (H := br_t rfl (H1 _ _ (ly_m1 (by omega))))
      | false =>
        have IH := ih (j + 1) (upd xlist (ly_tk xrole j).1 (nI j)) (by omega) (next (by rw [hf, Bool.and_false])) (by rw [ly_tk_y h1]; exact ly_LS_u hL hj (by omega) hf)
        rw [ly_tk_y h1] at IH
        exact ly_xadd1 (hV := hV) (hm := hj) (hn := by omega) (hf := hf) (H := br_f (by decide) (nm_r (nI_1 j) IH))
    · have IH := ih (j + 1) xlist (by omega) (next (by rw [decide_eq_false h1, Bool.false_and])) (by rw [ly_tk_n h1]; exact hL)
      rw [ly_tk_n h1] at IH
      exact br_f h1 (nm_r (nI_1 j) IH)
theorem ly_xlm {post : Int32 → SX → Prop} {xbase xstrip xtend xaend xlcnt xlrnd xlinked xblamed xouts xpc xsteps xran : Int32} {xops xA xB xcnt xrole xloc xglo xweak xuse xrep xunit xtgt xstay xlong xlist xchosen xplace ximg xreg xstore xout : Nat → Int32} (hV : ly_SV xops xA xB xcnt xloc xglo xweak xuse xrep xunit 6) (H1 : ∀ (l : Int32) (li : Nat → Int32), ¬ (ly_ll xops xA xB xcnt xrole).1 = -1 → post 1 (xbase, xstrip, l, xtend, xaend, xlcnt, xlrnd, xlinked, (ly_ll xops xA xB xcnt xrole).1, xouts, xpc, xsteps, xran, xops, xA, xB, xcnt, xrole, xloc, xglo, xweak, xuse, xrep, xunit, xtgt, xstay, xlong, li, xchosen, xplace, ximg, xreg, xstore, xout)) (H2 : ∀ li : Nat → Int32, (ly_ll xops xA xB xcnt xrole).1 = -1 → ly_LS xops xA xcnt li (ly_ll xops xA xB xcnt xrole).2.1 (ly_ll xops xA xB xcnt xrole).2.2 → post 0 (xbase, xstrip, nI (ly_ll xops xA xB xcnt xrole).2.2, xtend, xaend, xlcnt, xlrnd, xlinked, xblamed, xouts, xpc, xsteps, xran, xops, xA, xB, xcnt, xrole, xloc, xglo, xweak, xuse, xrep, xunit, xtgt, xstay, xlong, li, xchosen, xplace, ximg, xreg, xstore, xout)) : wpX_listModules post (xbase, xstrip, 0, xtend, xaend, xlcnt, xlrnd, xlinked, xblamed, xouts, xpc, xsteps, xran, xops, xA, xB, xcnt, xrole, xloc, xglo, xweak, xuse, xrep, xunit, xtgt, xstay, xlong, xlist, xchosen, xplace, ximg, xreg, xstore, xout) :=
  ⟨7, ly_xl2m (hV := hV) (H1 := H1) (H2 := H2) 6 0 xlist (by omega) (fun m hm => absurd hm (Nat.not_lt_zero m)) ⟨Nat.zero_le _, fun i hi => absurd hi (Nat.not_lt_zero i)⟩⟩

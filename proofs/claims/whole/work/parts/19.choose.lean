/-! X: the chosen labels and the targets -/
theorem ly_xch2 {post : SX → Prop} {xbase xstrip xtend xaend xlcnt xlrnd xlinked xblamed xouts xpc xsteps xran : Int32} {xops xA xB xcnt xrole xloc xglo xweak xuse xrep xunit xtgt xstay xlong xlist xplace ximg xreg xstore xout : Nat → Int32} (hW : ly_W xcnt) {g : Nat → Nat} {n : Nat} (hL : ly_LS xops xA xcnt xlist g n) (H : ∀ ch : Nat → Int32, (∀ s, s < 16 → ch s = ly_co xops xA xB xcnt g n (nI s)) → post (xbase, xstrip, nI n, xtend, xaend, xlcnt, xlrnd, xlinked, xblamed, xouts, xpc, xsteps, xran, xops, xA, xB, xcnt, xrole, xloc, xglo, xweak, xuse, xrep, xunit, xtgt, xstay, xlong, xlist, ch, xplace, ximg, xreg, xstore, xout)) : ∀ (d s : Nat) (xchosen : Nat → Int32), s + d = 16 → (∀ q, q < s → xchosen q = ly_co xops xA xB xcnt g n (nI q)) → wX_chooseLabels_2 post xbase xstrip (nI n) xtend xaend xlcnt xlrnd xlinked xblamed xouts xpc xsteps xran (d + 1) (nI s) xops xA xB xcnt xrole xloc xglo xweak xuse xrep xunit xtgt xstay xlong xlist xchosen xplace ximg xreg xstore xout := by
  intro d
  induction d with
  | zero =>
    intro s ch hd hc
    have e : s = 16 := by omega
    subst e
    exact br_t (by decide) (H ch hc)
  | succ d ih =>
    intro s ch hd hc
    have es : (nI s).toNatClampNeg = s := ly_cl (by omega)
    have IH := ih (s + 1) (upd ch s (ly_co xops xA xB xcnt g n (nI s))) (by omega) (fun q hq => by
      by_cases e : q = s
      · subst e; exact pk_us
      · rw [pk_un e]; exact hc q (by omega))
    refine br_f (nI_ge (b := 16) (by omega) (by omega)) (ly_xfl (hW := hW) (hL := hL) (s := nI s) (t := 1) (H := ?_))
    unfold ly_co at IH
    by_cases z : ly_fl xops xA xB xcnt g (nI s) 1 n = -1
    · rw [if_pos z] at IH
      exact br_t z (ly_xfl (hW := hW) (hL := hL) (s := nI s) (t := 2) (H := ⟨vp_in_nI (by omega) (by omega), nm_r (e' := upd ch s (ly_fl xops xA xB xcnt g (nI s) 2 n)) (by rw [es]) (nm_r (nI_1 s) IH)⟩))
    · rw [if_neg z] at IH
      exact br_f z ⟨vp_in_nI (by omega) (by omega), nm_r (e' := upd ch s (ly_fl xops xA xB xcnt g (nI s) 1 n)) (by rw [es]) (nm_r (nI_1 s) IH)⟩
theorem ly_xch {post : SX → Prop} {xbase xstrip xtend xaend xlcnt xlrnd xlinked xblamed xouts xpc xsteps xran : Int32} {xops xA xB xcnt xrole xloc xglo xweak xuse xrep xunit xtgt xstay xlong xlist xchosen xplace ximg xreg xstore xout : Nat → Int32} (hW : ly_W xcnt) {g : Nat → Nat} {n : Nat} (hL : ly_LS xops xA xcnt xlist g n) (H : ∀ ch : Nat → Int32, (∀ s, s < 16 → ch s = ly_co xops xA xB xcnt g n (nI s)) → post (xbase, xstrip, nI n, xtend, xaend, xlcnt, xlrnd, xlinked, xblamed, xouts, xpc, xsteps, xran, xops, xA, xB, xcnt, xrole, xloc, xglo, xweak, xuse, xrep, xunit, xtgt, xstay, xlong, xlist, ch, xplace, ximg, xreg, xstore, xout)) : wpX_chooseLabels post (xbase, xstrip, nI n, xtend, xaend, xlcnt, xlrnd, xlinked, xblamed, xouts, xpc, xsteps, xran, xops, xA, xB, xcnt, xrole, xloc, xglo, xweak, xuse, xrep, xunit, xtgt, xstay, xlong, xlist, xchosen, xplace, ximg, xreg, xstore, xout) :=
  ⟨17, ly_xch2 (hW := hW) (hL := hL) (H := H) 16 0 xchosen (by omega) (fun q hq => absurd hq (Nat.not_lt_zero q))⟩
/-- an item of a listed module that uses a symbol -/
def ly_at (o cnt : Nat → Int32) (g : Nat → Nat) (n i : Nat) : Bool := (ly_li g n (i / 24) && decide (i % 24 < ly_c cnt (i / 24))) && ly_us (o i)
def ly_TP (o cnt : Nat → Int32) (g : Nat → Nat) (i k x : Nat) : Prop := ly_us (o x) = true ∧ x % 24 < ly_c cnt (x / 24) ∧ (ly_li g i (x / 24) = true ∨ (x / 24 = g i ∧ x % 24 < k))
theorem ly_li_s {g : Nat → Nat} {i m : Nat} : ly_li g (i + 1) m = (ly_li g i m || decide (g i = m)) := by
  show (_ || decide (g (0 + i) = m)) = _
  rw [Nat.zero_add]; rfl
theorem ly_x19 {post : SX → Prop} {J : Int32 → (Nat → Int32) → (Nat → Int32) → (Nat → Int32) → (Nat → Int32) → (Nat → Int32) → (Nat → Int32) → (Nat → Int32) → (Nat → Int32) → (Nat → Int32) → (Nat → Int32) → (Nat → Int32) → (Nat → Int32) → (Nat → Int32) → (Nat → Int32) → (Nat → Int32) → (Nat → Int32) → (Nat → Int32) → (Nat → Int32) → (Nat → Int32) → (Nat → Int32) → (Nat → Int32) → Prop} {xbase xstrip xtend xaend xlcnt xlrnd xlinked xblamed xouts xpc xsteps xran : Int32} {xops xA xB xcnt xrole xloc xglo xweak xuse xrep xunit xstay xlong xlist xchosen xplace ximg xreg xstore xout : Nat → Int32} (hW : ly_W xcnt) (hF : ly_F xops xA xB) {g : Nat → Nat} {n : Nat} (hch : ∀ s, s < 16 → xchosen s = ly_co xops xA xB xcnt g n (nI s)) {i : Nat} (hg : g i < 6)
    (H : ∀ tg : Nat → Int32, (∀ x, x < 144 → (ly_TP xops xcnt g i (ly_c xcnt (g i)) x → tg x = ly_tg xops xA xB xcnt g n x) ∧ (¬ ly_TP xops xcnt g i (ly_c xcnt (g i)) x → tg x = -1)) → J (nI (i + 1)) xops xA xB xcnt xrole xloc xglo xweak xuse xrep xunit tg xstay xlong xlist xchosen xplace ximg xreg xstore xout) : ∀ (d k : Nat) (xtgt : Nat → Int32), k + d = ly_c xcnt (g i) → (∀ x, x < 144 → (ly_TP xops xcnt g i k x → xtgt x = ly_tg xops xA xB xcnt g n x) ∧ (¬ ly_TP xops xcnt g i k x → xtgt x = -1)) → wX_findTargets_19 post J (nI i) (nI (g i)) xbase xstrip (nI n) xtend xaend xlcnt xlrnd xlinked xblamed xouts xpc xsteps xran (d + 1) (nI k) xops xA xB xcnt xrole xloc xglo xweak xuse xrep xunit xtgt xstay xlong xlist xchosen xplace ximg xreg xstore xout := by
  obtain ⟨hc, ec⟩ := hW _ hg
  have em : (nI (g i)).toNatClampNeg = g i := ly_cl (by omega)
  have ec' : xcnt (nI (g i)).toNatClampNeg = nI (ly_c xcnt (g i)) := by rw [em]; exact ec
  have vm : vp_in (nI (g i)) 6 := vp_in_nI hg (by omega)
  intro d
  induction d with
  | zero =>
    intro k tg hd hT
    have e : k = ly_c xcnt (g i) := by omega
    subst e
    exact ⟨vm, br_t (by rw [ec']; exact Int32.le_refl _) (nm_r (nI_1 i) (H tg hT))⟩
  | succ d ih =>
    intro k tg hd hT
    have hi : 24 * g i + k < 144 := by omega
    have ei : (nI (24 * g i + k)).toNatClampNeg = 24 * g i + k := ly_cl (by omega)
    have vi : vp_in (nI (24 * g i + k)) 144 := vp_in_nI hi (by omega)
    have q1 : (24 * g i + k) / 24 = g i := by omega
    have q2 : (24 * g i + k) % 24 = k := by omega
    have hTP : ∀ x, x < 144 → x ≠ 24 * g i + k → (ly_TP xops xcnt g i (k + 1) x ↔ ly_TP xops xcnt g i k x) := by
      intro x hx hne
      unfold ly_TP
      constructor
      · rintro ⟨a1, a2, a3⟩
        refine ⟨a1, a2, ?_⟩
        rcases a3 with a3 | a3
        · exact Or.inl a3
        · exact Or.inr ⟨a3.1, by have := a3.1; have := a3.2; omega⟩
      · rintro ⟨a1, a2, a3⟩
        refine ⟨a1, a2, ?_⟩
        rcases a3 with a3 | a3
        · exact Or.inl a3
        · exact Or.inr ⟨a3.1, by have := a3.2; omega⟩
    refine ⟨vm, br_f (by rw [ec']; exact nI_ge (by omega) (by omega)) (nm_r (ly_idx (g i) k) (ly_xused (hi := hi) (hf := hF _ hi) (H := ?_)))⟩
    cases hu : ly_us (xops (24 * g i + k)) with
    | false =>
      refine br_t (ly_u_f hu) (nm_r (nI_1 k) (ih (k + 1) tg (by omega) (fun x hx => ?_)))
      by_cases e : x = 24 * g i + k
      · subst e
        refine ⟨fun z => ?_, fun _ => (hT _ hx).2 (fun z => ?_)⟩
        · have := z.1; rw [hu] at this; exact absurd this (by decide)
        · have := z.1; rw [hu] at this; exact absurd this (by decide)
      · rw [hTP x hx e]; exact hT x hx
    | true =>
      obtain ⟨f, hf, ef⟩ := ly_ft_s (hF _ hi) hu
      rw [ly_u_t hu, ef]
      refine br_f (ly_m1 (by omega)) (ly_xla (hW := hW) (hm := hg) (s := nI f) (t := 0) (H := ?_))
      have etg : ly_tg xops xA xB xcnt g n (24 * g i + k) = if ly_xl xops xA xB xcnt (g i) (nI f) 0 = -1 then ly_co xops xA xB xcnt g n (nI f) else ly_xl xops xA xB xcnt (g i) (nI f) 0 := by
        unfold ly_tg; rw [ef, q1]
      have IH := ih (k + 1) (upd tg (24 * g i + k) (ly_tg xops xA xB xcnt g n (24 * g i + k))) (by omega) (fun x hx => by
        by_cases e : x = 24 * g i + k
        · subst e
          refine ⟨fun _ => pk_us, fun z => absurd (show ly_TP xops xcnt g i (k + 1) (24 * g i + k) from ⟨hu, by rw [q1, q2]; omega, Or.inr ⟨q1, by omega⟩⟩) z⟩
        · rw [hTP x hx e, pk_un e]; exact hT x hx)
      rw [etg] at IH
      by_cases z : ly_xl xops xA xB xcnt (g i) (nI f) 0 = -1
      · rw [if_pos z] at IH
        exact br_t z ⟨vp_in_nI hf (by omega), vi, nm_r (e' := upd tg (24 * g i + k) (ly_co xops xA xB xcnt g n (nI f))) (by rw [ei, ly_cl (i := f) (by omega), hch f hf]) (nm_r (nI_1 k) IH)⟩
      · rw [if_neg z] at IH
        exact br_f z ⟨vi, nm_r (e' := upd tg (24 * g i + k) (ly_xl xops xA xB xcnt (g i) (nI f) 0)) (by rw [ei]) (nm_r (nI_1 k) IH)⟩
theorem ly_xt2 {post : SX → Prop} {xbase xstrip xtend xaend xlcnt xlrnd xlinked xblamed xouts xpc xsteps xran : Int32} {xops xA xB xcnt xrole xloc xglo xweak xuse xrep xunit xstay xlong xlist xchosen xplace ximg xreg xstore xout : Nat → Int32} (hW : ly_W xcnt) (hF : ly_F xops xA xB) {g : Nat → Nat} {n : Nat} (hL : ly_LS xops xA xcnt xlist g n) (hch : ∀ s, s < 16 → xchosen s = ly_co xops xA xB xcnt g n (nI s))
    (H : ∀ tg : Nat → Int32, (∀ x, x < 144 → tg x = if ly_at xops xcnt g n x = true then ly_tg xops xA xB xcnt g n x else -1) → post (xbase, xstrip, nI n, xtend, xaend, xlcnt, xlrnd, xlinked, xblamed, xouts, xpc, xsteps, xran, xops, xA, xB, xcnt, xrole, xloc, xglo, xweak, xuse, xrep, xunit, tg, xstay, xlong, xlist, xchosen, xplace, ximg, xreg, xstore, xout)) : ∀ (d i : Nat) (xtgt : Nat → Int32), i + d = n → (∀ x, x < 144 → (ly_TP xops xcnt g i 0 x → xtgt x = ly_tg xops xA xB xcnt g n x) ∧ (¬ ly_TP xops xcnt g i 0 x → xtgt x = -1)) → wX_findTargets_2 post xbase xstrip (nI n) xtend xaend xlcnt xlrnd xlinked xblamed xouts xpc xsteps xran (d + 1) (nI i) xops xA xB xcnt xrole xloc xglo xweak xuse xrep xunit xtgt xstay xlong xlist xchosen xplace ximg xreg xstore xout := by
  obtain ⟨hn, hg⟩ := hL
  intro d
  induction d with
  | zero =>
    intro i tg hd hT
    have e : i = n := by omega
    subst e
    refine br_t (Int32.le_refl _) (H tg (fun x hx => ?_))
    cases ha : ly_at xops xcnt g i x with
    | true =>
      rw [if_pos rfl]
      unfold ly_at at ha
      rw [Bool.and_eq_true, Bool.and_eq_true, decide_eq_true_eq] at ha
      exact (hT x hx).1 ⟨ha.2, ha.1.2, Or.inl ha.1.1⟩
    | false =>
      rw [if_neg (by decide)]
      refine (hT x hx).2 (fun z => ?_)
      obtain ⟨z1, z2, z3⟩ := z
      rcases z3 with z3 | z3
      · unfold ly_at at ha
        rw [z3, z1, decide_eq_true z2] at ha
        exact absurd ha (by decide)
      · have := z3.2; omega
  | succ d ih =>
    intro i tg hd hT
    obtain ⟨g1, g2, g3⟩ := hg i (by omega)
    refine br_f (nI_ge (by omega) (by omega)) ⟨vp_in_nI (by omega) (by omega), nm_r (e' := nI (g i)) (by rw [ly_cl (i := i) (by omega), g2]) ⟨ly_c xcnt (g i) + 1, ly_x19 (hW := hW) (hF := hF) (hch := hch) (hg := g1) (H := fun tg' hT' => ih (i + 1) tg' (by omega) (fun x hx => ?_)) (ly_c xcnt (g i)) 0 tg (by omega) hT⟩⟩
    have e : ly_TP xops xcnt g (i + 1) 0 x ↔ ly_TP xops xcnt g i (ly_c xcnt (g i)) x := by
      unfold ly_TP
      rw [ly_li_s, Bool.or_eq_true, decide_eq_true_eq]
      constructor
      · rintro ⟨a1, a2, a3⟩
        refine ⟨a1, a2, ?_⟩
        rcases a3 with (a3 | a3) | a3
        · exact Or.inl a3
        · exact Or.inr ⟨a3.symm, by rw [a3]; exact a2⟩
        · have := a3.2; omega
      · rintro ⟨a1, a2, a3⟩
        refine ⟨a1, a2, ?_⟩
        rcases a3 with a3 | a3
        · exact Or.inl (Or.inl a3)
        · exact Or.inl (Or.inr a3.1.symm)
    rw [e]; exact hT' x hx
theorem ly_xtg {post : SX → Prop} {xbase xstrip xtend xaend xlcnt xlrnd xlinked xblamed xouts xpc xsteps xran : Int32} {xops xA xB xcnt xrole xloc xglo xweak xuse xrep xunit xtgt xstay xlong xlist xchosen xplace ximg xreg xstore xout : Nat → Int32} (hW : ly_W xcnt) (hF : ly_F xops xA xB) {g : Nat → Nat} {n : Nat} (hL : ly_LS xops xA xcnt xlist g n) (hch : ∀ s, s < 16 → xchosen s = ly_co xops xA xB xcnt g n (nI s)) (ht0 : ∀ x, x < 144 → xtgt x = -1)
    (H : ∀ tg : Nat → Int32, (∀ x, x < 144 → tg x = if ly_at xops xcnt g n x = true then ly_tg xops xA xB xcnt g n x else -1) → post (xbase, xstrip, nI n, xtend, xaend, xlcnt, xlrnd, xlinked, xblamed, xouts, xpc, xsteps, xran, xops, xA, xB, xcnt, xrole, xloc, xglo, xweak, xuse, xrep, xunit, tg, xstay, xlong, xlist, xchosen, xplace, ximg, xreg, xstore, xout)) : wpX_findTargets post (xbase, xstrip, nI n, xtend, xaend, xlcnt, xlrnd, xlinked, xblamed, xouts, xpc, xsteps, xran, xops, xA, xB, xcnt, xrole, xloc, xglo, xweak, xuse, xrep, xunit, xtgt, xstay, xlong, xlist, xchosen, xplace, ximg, xreg, xstore, xout) :=
  ⟨n + 1, ly_xt2 (hW := hW) (hF := hF) (hL := hL) (hch := hch) (H := H) n 0 xtgt (by omega) (fun x hx => ⟨fun z => by
    rcases z.2.2 with z3 | z3
    · exact absurd (show false = true from z3) (by decide)
    · have := z3.2; omega, fun _ => ht0 x hx⟩)⟩
/-- all that the later parts need of a good list -/
def ly_GD (o a b cnt : Nat → Int32) (g : Nat → Nat) (n : Nat) : Prop := n ≤ 6 ∧ (∀ i, i < n → g i < 6 ∧ ly_fy o a cnt (g i) = false) ∧ (∀ s, s < 16 → ly_sv o a b cnt g (nI s) n = false) ∧ (∀ s, s < 16 → ly_ms o a b cnt g n s = false)
theorem ly_li_g {g : Nat → Nat} {n m : Nat} : ly_li g n m = true ↔ ∃ i, i < n ∧ g i = m := by
  constructor
  · intro h
    obtain ⟨i, _, i2, i3⟩ := ly_ex_iff.mp h
    exact ⟨i, by omega, of_decide_eq_true i3⟩
  · rintro ⟨i, i1, i2⟩
    exact ly_ex_iff.mpr ⟨i, by omega, by omega, decide_eq_true i2⟩
/-- an item that is there -/
def ly_th (cnt : Nat → Int32) (g : Nat → Nat) (n t : Nat) : Prop := t < 144 ∧ ly_li g n (t / 24) = true ∧ t % 24 < ly_c cnt (t / 24)
theorem ly_co_t {o a b cnt : Nat → Int32} (hW : ly_W cnt) {g : Nat → Nat} {n : Nat} (hG : ly_GD o a b cnt g n) {s : Nat} (hs : s < 16) (hw : ly_wt o a b cnt g n s = true) : ∃ t, ly_th cnt g n t ∧ ly_co o a b cnt g n (nI s) = nI t := by
  obtain ⟨hn, hg, hv, hm⟩ := hG
  have hg6 : ∀ i, i < n → g i < 6 := fun i hi => (hg i hi).1
  rcases ly_co_c (o := o) (a := a) (b := b) hW hg6 (nI s) with h | ⟨j, k, j1, j2, j3, j4, e⟩
  · have hd := (ly_fl_df hW n hg6).mp h
    have := hm s hs
    unfold ly_ms at this
    rw [hw, hd] at this
    exact absurd this (by decide)
  · have := hg6 j j1
    have := (hW _ this).1
    have ek : k / 24 = g j := by omega
    exact ⟨k, ⟨j4, by rw [ek]; exact ly_li_g.mpr ⟨j, j1, rfl⟩, by rw [ek]; omega⟩, e⟩
theorem ly_tg_t {o a b cnt : Nat → Int32} (hW : ly_W cnt) (hF : ly_F o a b) {g : Nat → Nat} {n : Nat} (hG : ly_GD o a b cnt g n) {i : Nat} (hi : i < 144) (ha : ly_at o cnt g n i = true) : ∃ t, ly_th cnt g n t ∧ ly_tg o a b cnt g n i = nI t := by
  have ha' := ha
  unfold ly_at at ha'
  rw [Bool.and_eq_true, Bool.and_eq_true, decide_eq_true_eq] at ha'
  obtain ⟨⟨h1, h2⟩, h3⟩ := ha'
  obtain ⟨f, hf, ef⟩ := ly_ft_s (hF i hi) h3
  have hm : i / 24 < 6 := by omega
  have hc := (hW _ hm).1
  unfold ly_tg
  rw [ef]
  by_cases z : ly_xl o a b cnt (i / 24) (nI f) 0 = -1
  · rw [if_pos z]
    refine ly_co_t hW hG hf ?_
    obtain ⟨j, j1, j2⟩ := ly_li_g.mp h1
    unfold ly_wt
    have : ly_ex (fun i => ly_ak o a b cnt (g i) (nI f)) 0 n = true := by
      refine ly_ex_y (k := j) (by omega) (by omega) ?_
      show (ly_eu o a b cnt (g j) (nI f) && !ly_e3 o a b cnt (g j) (nI f) 0) = true
      rw [j2, ly_e3_xl hm hc, z]
      have : ly_eu o a b cnt (i / 24) (nI f) = true := ly_ex_y (k := i) (by omega) (by omega) (by unfold ly_up; rw [h3, ef, decide_eq_true rfl]; rfl)
      rw [this]; rfl
    rw [this, Bool.or_true]
  · rw [if_neg z]
    rcases ly_fd_c (ly_l3 o a b (nI f) 0) (ly_c cnt (i / 24)) (24 * (i / 24)) with ⟨e, _⟩ | ⟨k, k1, k2, _, _, e⟩
    · exact absurd e z
    · have ek : k / 24 = i / 24 := by omega
      exact ⟨k, ⟨by omega, by rw [ek]; exact h1, by rw [ek]; omega⟩, e⟩

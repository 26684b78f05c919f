/-! X: what it looks up -/
theorem ly_xw4 {post : Int32 → Prop} {xbase xstrip xtend xaend xlcnt xlrnd xlinked xblamed xouts xpc xsteps xran : Int32} {xops xA xB xcnt xrole xloc xglo xweak xuse xrep xunit xtgt xstay xlong xlist xchosen xplace ximg xreg xstore xout : Nat → Int32} (hV : ly_SV xops xA xB xcnt xloc xglo xweak xuse xrep xunit 6) {g : Nat → Nat} {n : Nat} (hL : ly_LS xops xA xcnt xlist g n) (H : ∀ w : Int32, (∀ s, s < 32 → bt w s = ly_wt xops xA xB xcnt g n s) → post w) : ∀ (d i : Nat) (w : Int32), i + d = n → (∀ s, s < 32 → bt w s = ly_wt xops xA xB xcnt g i s) → wX_wantedSymbols_4 post xbase xstrip (nI n) xtend xaend xlcnt xlrnd xlinked xblamed xouts xpc xsteps xran xops xA xB xcnt xrole xloc xglo xweak xuse xrep xunit xtgt xstay xlong xlist xchosen xplace ximg xreg xstore xout (d + 1) w (nI i) := by
  obtain ⟨hn, hg⟩ := hL
  intro d
  induction d with
  | zero =>
    intro i w hd hw
    have e : i = n := by omega
    subst e
    exact br_t (Int32.le_refl _) (H w hw)
  | succ d ih =>
    intro i w hd hw
    obtain ⟨g1, g2, g3⟩ := hg i (by omega)
    refine br_f (nI_ge (by omega) (by omega)) ⟨vp_in_nI (by omega) (by omega), ?_⟩
    rw [ly_cl (i := i) (by omega), g2]
    refine ⟨vp_in_nI g1 (by omega), ?_⟩
    rw [ly_cl (i := g i) (by omega)]
    refine nm_e (nm_r (nI_1 i) (ih (i + 1) _ (by omega) (fun s hs => ?_)))
    rw [b_or, hw s hs, ((hV _ g1).1 s hs).2.2.2]
    show _ = (decide (s = 0) || (ly_ex (fun i => ly_ak xops xA xB xcnt (g i) (nI s)) 0 i || ly_ak xops xA xB xcnt (g (0 + i)) (nI s)))
    unfold ly_wt
    rw [Nat.zero_add, Bool.or_assoc]
theorem ly_xw {post : Int32 → Prop} {xbase xstrip xtend xaend xlcnt xlrnd xlinked xblamed xouts xpc xsteps xran : Int32} {xops xA xB xcnt xrole xloc xglo xweak xuse xrep xunit xtgt xstay xlong xlist xchosen xplace ximg xreg xstore xout : Nat → Int32} (hV : ly_SV xops xA xB xcnt xloc xglo xweak xuse xrep xunit 6) {g : Nat → Nat} {n : Nat} (hL : ly_LS xops xA xcnt xlist g n) (H : ∀ w : Int32, (∀ s, s < 32 → bt w s = ly_wt xops xA xB xcnt g n s) → post w) : wpX_wantedSymbols post (xbase, xstrip, nI n, xtend, xaend, xlcnt, xlrnd, xlinked, xblamed, xouts, xpc, xsteps, xran, xops, xA, xB, xcnt, xrole, xloc, xglo, xweak, xuse, xrep, xunit, xtgt, xstay, xlong, xlist, xchosen, xplace, ximg, xreg, xstore, xout) :=
  ⟨n + 1, ly_xw4 (hV := hV) (hL := hL) (H := H) n 0 1 (by omega) (fun s hs => by rw [ly_b1 s hs]; unfold ly_wt; rw [show ly_ex (fun i => ly_ak xops xA xB xcnt (g i) (nI s)) 0 0 = false from rfl, Bool.or_false])⟩
theorem ly_xd4 {post : Int32 → Prop} {xbase xstrip xtend xaend xlcnt xlrnd xlinked xblamed xouts xpc xsteps xran : Int32} {xops xA xB xcnt xrole xloc xglo xweak xuse xrep xunit xtgt xstay xlong xlist xchosen xplace ximg xreg xstore xout : Nat → Int32} (hV : ly_SV xops xA xB xcnt xloc xglo xweak xuse xrep xunit 6) {g : Nat → Nat} {n : Nat} (hL : ly_LS xops xA xcnt xlist g n) (H : ∀ w : Int32, (∀ s, s < 32 → bt w s = ly_dd xops xA xB xcnt g n s) → post w) : ∀ (d i : Nat) (w : Int32), i + d = n → (∀ s, s < 32 → bt w s = ly_dd xops xA xB xcnt g i s) → wX_definedSymbols_4 post xbase xstrip (nI n) xtend xaend xlcnt xlrnd xlinked xblamed xouts xpc xsteps xran xops xA xB xcnt xrole xloc xglo xweak xuse xrep xunit xtgt xstay xlong xlist xchosen xplace ximg xreg xstore xout (d + 1) w (nI i) := by
  obtain ⟨hn, hg⟩ := hL
  intro d
  induction d with
  | zero =>
    intro i w hd hw
    have e : i = n := by omega
    subst e
    exact br_t (Int32.le_refl _) (H w hw)
  | succ d ih =>
    intro i w hd hw
    obtain ⟨g1, g2, g3⟩ := hg i (by omega)
    have vi : vp_in (nI i) 6 := vp_in_nI (by omega) (by omega)
    have vg : vp_in (nI (g i)) 6 := vp_in_nI g1 (by omega)
    refine br_f (nI_ge (by omega) (by omega)) ⟨vi, ?_⟩
    rw [ly_cl (i := i) (by omega), g2]
    refine ⟨vg, vi, vg, ?_⟩
    rw [ly_cl (i := g i) (by omega)]
    refine nm_e (nm_r (nI_1 i) (ih (i + 1) _ (by omega) (fun s hs => ?_)))
    rw [b_or, b_or, hw s hs, ((hV _ g1).1 s hs).2.1, ((hV _ g1).1 s hs).2.2.1]
    show _ = (ly_ex (fun i => ly_df xops xA xB xcnt (g i) (nI s)) 0 i || ly_df xops xA xB xcnt (g (0 + i)) (nI s))
    rw [Nat.zero_add]; rfl
theorem ly_xd {post : Int32 → Prop} {xbase xstrip xtend xaend xlcnt xlrnd xlinked xblamed xouts xpc xsteps xran : Int32} {xops xA xB xcnt xrole xloc xglo xweak xuse xrep xunit xtgt xstay xlong xlist xchosen xplace ximg xreg xstore xout : Nat → Int32} (hV : ly_SV xops xA xB xcnt xloc xglo xweak xuse xrep xunit 6) {g : Nat → Nat} {n : Nat} (hL : ly_LS xops xA xcnt xlist g n) (H : ∀ w : Int32, (∀ s, s < 32 → bt w s = ly_dd xops xA xB xcnt g n s) → post w) : wpX_definedSymbols post (xbase, xstrip, nI n, xtend, xaend, xlcnt, xlrnd, xlinked, xblamed, xouts, xpc, xsteps, xran, xops, xA, xB, xcnt, xrole, xloc, xglo, xweak, xuse, xrep, xunit, xtgt, xstay, xlong, xlist, xchosen, xplace, ximg, xreg, xstore, xout) :=
  ⟨n + 1, ly_xd4 (hV := hV) (hL := hL) (H := H) n 0 0 (by omega) (fun s hs => b_0 s)⟩
theorem ly_xs6 {post : Int32 → Prop} {xbase xstrip xtend xaend xlcnt xlrnd xlinked xblamed xouts xpc xsteps xran : Int32} {xops xA xB xcnt xrole xloc xglo xweak xuse xrep xunit xtgt xstay xlong xlist xchosen xplace ximg xreg xstore xout : Nat → Int32} (hV : ly_SV xops xA xB xcnt xloc xglo xweak xuse xrep xunit 6) {g : Nat → Nat} {n : Nat} (hL : ly_LS xops xA xcnt xlist g n) (H : ∀ w : Int32, (∀ s, s < 32 → bt w s = ly_sv xops xA xB xcnt g (nI s) n) → post w) : ∀ (d i : Nat) (v w : Int32), i + d = n → (∀ s, s < 32 → bt v s = ly_on xops xA xB xcnt g (nI s) i) → (∀ s, s < 32 → bt w s = ly_sv xops xA xB xcnt g (nI s) i) → wX_severalTimesGlobal_6 post xbase xstrip (nI n) xtend xaend xlcnt xlrnd xlinked xblamed xouts xpc xsteps xran xops xA xB xcnt xrole xloc xglo xweak xuse xrep xunit xtgt xstay xlong xlist xchosen xplace ximg xreg xstore xout (d + 1) v w (nI i) := by
  obtain ⟨hn, hg⟩ := hL
  intro d
  induction d with
  | zero =>
    intro i v w hd hv hw
    have e : i = n := by omega
    subst e
    exact br_t (Int32.le_refl _) (H w hw)
  | succ d ih =>
    intro i v w hd hv hw
    obtain ⟨g1, g2, g3⟩ := hg i (by omega)
    have vi : vp_in (nI i) 6 := vp_in_nI (by omega) (by omega)
    have vg : vp_in (nI (g i)) 6 := vp_in_nI g1 (by omega)
    refine br_f (nI_ge (by omega) (by omega)) ⟨vi, ?_⟩
    rw [ly_cl (i := i) (by omega), g2]
    refine ⟨vg, ?_⟩
    rw [ly_cl (i := g i) (by omega)]
    refine nm_e ⟨vi, vg, nm_e (nm_r (nI_1 i) (ih (i + 1) _ _ (by omega) (fun s hs => ?_) (fun s hs => ?_)))⟩
    · rw [b_or, hv s hs, ((hV _ g1).1 s hs).2.1]; rfl
    · rw [b_or, b_and, hv s hs, hw s hs, ((hV _ g1).1 s hs).2.1]; rfl
theorem ly_xs {post : Int32 → Prop} {xbase xstrip xtend xaend xlcnt xlrnd xlinked xblamed xouts xpc xsteps xran : Int32} {xops xA xB xcnt xrole xloc xglo xweak xuse xrep xunit xtgt xstay xlong xlist xchosen xplace ximg xreg xstore xout : Nat → Int32} (hV : ly_SV xops xA xB xcnt xloc xglo xweak xuse xrep xunit 6) {g : Nat → Nat} {n : Nat} (hL : ly_LS xops xA xcnt xlist g n) (H : ∀ w : Int32, (∀ s, s < 32 → bt w s = ly_sv xops xA xB xcnt g (nI s) n) → post w) : wpX_severalTimesGlobal post (xbase, xstrip, nI n, xtend, xaend, xlcnt, xlrnd, xlinked, xblamed, xouts, xpc, xsteps, xran, xops, xA, xB, xcnt, xrole, xloc, xglo, xweak, xuse, xrep, xunit, xtgt, xstay, xlong, xlist, xchosen, xplace, ximg, xreg, xstore, xout) :=
  ⟨n + 1, ly_xs6 (hV := hV) (hL := hL) (H := H) n 0 0 0 (by omega) (fun s hs => b_0 s) (fun s hs => b_0 s)⟩
theorem ly_xl2 {post : Int32 → Prop} {w : Int32} {P : Nat → Bool} (hw : ∀ s, s < 32 → bt w s = P s) : ∀ (d s : Nat), s + d = 16 → post (ly_fd P d s) → wX_leastSymbol_2 post w (d + 1) (nI s) := by
  intro d
  induction d with
  | zero =>
    intro s hd H
    have e : s = 16 := by omega
    subst e
    exact br_t (by decide) H
  | succ d ih =>
    intro s hd H
    refine br_f (nI_ge (b := 16) (by omega) (by omega)) ?_
    cases hp : P s with
    | false =>
      rw [show ly_fd P (d + 1) s = ly_fd P d (s + 1) from if_neg (by rw [hp]; decide)] at H
      exact br_t ((ly_and0 (by omega)).mpr (by rw [hw s (by omega)]; exact hp)) (nm_r (nI_1 s) (ih (s + 1) (by omega) H))
    | true =>
      rw [show ly_fd P (d + 1) s = nI s from if_pos hp] at H
      exact br_f (fun z => by have := (ly_and0 (by omega)).mp z; rw [hw s (by omega), hp] at this; exact absurd this (by decide)) H
theorem ly_xleast {post : Int32 → Prop} {w : Int32} {P : Nat → Bool} (hw : ∀ s, s < 32 → bt w s = P s) (H : post (ly_fd P 16 0)) : wpX_leastSymbol post w := ⟨17, ly_xl2 hw 16 0 (by omega) H⟩
/-- a mask is 0: none -/
theorem ly_mask0 {w : Int32} {P : Nat → Bool} (hw : ∀ s, s < 32 → bt w s = P s) (h16 : ∀ s, 16 ≤ s → s < 32 → P s = false) : w = 0 ↔ ly_fd P 16 0 = -1 := by
  rcases ly_fd_c P 16 0 with ⟨e, h⟩ | ⟨j, _, j2, j3, _, e⟩
  · refine ⟨fun _ => e, fun _ => b_ext (fun i hi => ?_)⟩
    rw [hw i hi, b_0]
    by_cases z : i < 16
    · exact h i (by omega) (by omega)
    · exact h16 i (by omega) hi
  · refine ⟨fun z => ?_, fun z => ?_⟩
    · have := hw j (by omega)
      rw [z, b_0, j3] at this
      exact absurd this (by decide)
    · rw [e] at z; exact absurd z (ly_m1 (by omega))
theorem ly_x27 {post : Int32 → Prop} {J : Int32 → Prop} {xbase xstrip xllen xtend xaend xlcnt xlrnd xlinked xblamed xouts xpc xsteps xran : Int32} {xops xA xB xcnt xrole xloc xglo xweak xuse xrep xunit xtgt xstay xlong xlist xchosen xplace ximg xreg xstore xout : Nat → Int32} (hV : ly_SV xops xA xB xcnt xloc xglo xweak xuse xrep xunit 6) {w : Int32} {M : Nat → Bool} (hw : ∀ s, s < 32 → bt w s = M s) {s : Nat} (hs : s < 16) : ∀ (d m : Nat), m + d = 6 → (M s = true → ¬ ly_fd (fun m => decide (xrole m = 2) && ly_df xops xA xB xcnt m (nI s)) d m = -1 → post (ly_fd (fun m => decide (xrole m = 2) && ly_df xops xA xB xcnt m (nI s)) d m)) → (¬ (M s = true ∧ ¬ ly_fd (fun m => decide (xrole m = 2) && ly_df xops xA xB xcnt m (nI s)) d m = -1) → J (nI (s + 1))) → wX_nextFromArchive_27 post J w (nI s) ((1 : Int32) <<< (nI s &&& 31)) xbase xstrip xllen xtend xaend xlcnt xlrnd xlinked xblamed xouts xpc xsteps xran xops xA xB xcnt xrole xloc xglo xweak xuse xrep xunit xtgt xstay xlong xlist xchosen xplace ximg xreg xstore xout (d + 1) (nI m) := by
  intro d
  induction d with
  | zero =>
    intro m hd H1 H2
    have e : m = 6 := by omega
    subst e
    exact br_t (by decide) (nm_r (nI_1 s) (H2 (fun z => z.2 rfl)))
  | succ d ih =>
    intro m hd H1 H2
    have ek : (nI m).toNatClampNeg = m := ly_cl (by omega)
    have vm : vp_in (nI m) 6 := vp_in_nI (by omega) (by omega)
    refine br_f (nI_ge (b := 6) (by omega) (by omega)) ⟨vm, vm, nm_e ⟨vm, ?_⟩⟩
    rw [ek]
    have hbit : bt (w &&& (xglo m ||| xweak m)) s = (M s && ly_df xops xA xB xcnt m (nI s)) := by
      rw [b_and, b_or, hw s (by omega), ((hV m (by omega)).1 s (by omega)).2.1, ((hV m (by omega)).1 s (by omega)).2.2.1]; rfl
    have next : ¬ (M s = true ∧ (decide (xrole m = 2) && ly_df xops xA xB xcnt m (nI s)) = true) → wX_nextFromArchive_27 post J w (nI s) ((1 : Int32) <<< (nI s &&& 31)) xbase xstrip xllen xtend xaend xlcnt xlrnd xlinked xblamed xouts xpc xsteps xran xops xA xB xcnt xrole xloc xglo xweak xuse xrep xunit xtgt xstay xlong xlist xchosen xplace ximg xreg xstore xout (d + 1) (nI (m + 1)) := by
      intro hf
      refine ih (m + 1) (by omega) (fun z1 z2 => ?_) (fun z => H2 (fun y => z ⟨y.1, fun x => y.2 ?_⟩))
      · have e : ly_fd (fun m => decide (xrole m = 2) && ly_df xops xA xB xcnt m (nI s)) (d + 1) m = ly_fd (fun m => decide (xrole m = 2) && ly_df xops xA xB xcnt m (nI s)) d (m + 1) := if_neg (fun y => hf ⟨z1, y⟩)
        rw [e] at H1
        exact H1 z1 z2
      · have e : ly_fd (fun m => decide (xrole m = 2) && ly_df xops xA xB xcnt m (nI s)) (d + 1) m = ly_fd (fun m => decide (xrole m = 2) && ly_df xops xA xB xcnt m (nI s)) d (m + 1) := if_neg (fun q => hf ⟨y.1, q⟩)
        rw [e]; exact x
    by_cases h2 : xrole m = 2
    · refine br_t h2 ?_
      cases hb : (M s && ly_df xops xA xB xcnt m (nI s)) with
      | false =>
        refine br_t ((ly_and0 (by omega)).mpr (hbit.trans hb)) (nm_r (nI_1 m) (next (fun z => ?_)))
        have z2 := z.2
        rw [decide_eq_true h2, Bool.true_and] at z2
        rw [z.1, z2] at hb
        exact absurd hb (by decide)
      | true =>
        have hM : M s = true := by revert hb; cases M s <;> simp
        have hD : ly_df xops xA xB xcnt m (nI s) = true := by revert hb; cases ly_df xops xA xB xcnt m (nI s) <;> simp
        have e : ly_fd (fun m => decide (xrole m = 2) && ly_df xops xA xB xcnt m (nI s)) (d + 1) m = nI m := if_pos (by dsimp only; rw [hD, decide_eq_true h2]; rfl)
        rw [e] at H1
        exact br_f (fun z => by have := (ly_and0 (by omega)).mp z; rw [hbit, hb] at this; exact absurd this (by decide)) (H1 hM (ly_m1 (by omega)))
    · exact br_f h2 (nm_r (nI_1 m) (next (fun z => by have := z.2; rw [decide_eq_false h2, Bool.false_and] at this; exact absurd this (by decide))))
theorem ly_x14 {post : Int32 → Prop} {xbase xstrip xllen xtend xaend xlcnt xlrnd xlinked xblamed xouts xpc xsteps xran : Int32} {xops xA xB xcnt xrole xloc xglo xweak xuse xrep xunit xtgt xstay xlong xlist xchosen xplace ximg xreg xstore xout : Nat → Int32} (hV : ly_SV xops xA xB xcnt xloc xglo xweak xuse xrep xunit 6) {w : Int32} {M : Nat → Bool} (hw : ∀ s, s < 32 → bt w s = M s) : ∀ (d s : Nat), s + d = 16 → post (ly_nx M (ly_ia xops xA xB xcnt xrole) d s) → wX_nextFromArchive_14 post w xbase xstrip xllen xtend xaend xlcnt xlrnd xlinked xblamed xouts xpc xsteps xran xops xA xB xcnt xrole xloc xglo xweak xuse xrep xunit xtgt xstay xlong xlist xchosen xplace ximg xreg xstore xout (d + 1) (nI s) := by
  intro d
  induction d with
  | zero =>
    intro s hd H
    have e : s = 16 := by omega
    subst e
    exact br_t (by decide) H
  | succ d ih =>
    intro s hd H
    refine br_f (nI_ge (b := 16) (by omega) (by omega)) (nm_e ⟨7, ly_x27 (hV := hV) (hw := hw) (hs := by omega) 6 0 (by omega) (fun z1 z2 => ?_) (fun z => ih (s + 1) (by omega) ?_)⟩)
    · rw [show ly_nx M (ly_ia xops xA xB xcnt xrole) (d + 1) s = ly_ia xops xA xB xcnt xrole s from if_pos ⟨z1, z2⟩] at H
      exact H
    · rw [show ly_nx M (ly_ia xops xA xB xcnt xrole) (d + 1) s = ly_nx M (ly_ia xops xA xB xcnt xrole) d (s + 1) from if_neg z] at H
      exact H
theorem ly_xna {post : Int32 → Prop} {xbase xstrip xtend xaend xlcnt xlrnd xlinked xblamed xouts xpc xsteps xran : Int32} {xops xA xB xcnt xrole xloc xglo xweak xuse xrep xunit xtgt xstay xlong xlist xchosen xplace ximg xreg xstore xout : Nat → Int32} (hV : ly_SV xops xA xB xcnt xloc xglo xweak xuse xrep xunit 6) {g : Nat → Nat} {n : Nat} (hL : ly_LS xops xA xcnt xlist g n) (H : post (ly_na xops xA xB xcnt xrole g n)) : wpX_nextFromArchive post (xbase, xstrip, nI n, xtend, xaend, xlcnt, xlrnd, xlinked, xblamed, xouts, xpc, xsteps, xran, xops, xA, xB, xcnt, xrole, xloc, xglo, xweak, xuse, xrep, xunit, xtgt, xstay, xlong, xlist, xchosen, xplace, ximg, xreg, xstore, xout) := by
  unfold wpX_nextFromArchive
  dsimp only
  refine ly_xw (hV := hV) (hL := hL) (H := fun w hw => ly_xd (hV := hV) (hL := hL) (H := fun v hv => nm_e ⟨17, ly_x14 (hV := hV) (M := ly_ms xops xA xB xcnt g n) (hw := fun s hs => ?_) 16 0 (by omega) H⟩))
  rw [b_and, b_xor, b_m1 s hs, hw s hs, hv s hs, Bool.xor_true]; rfl
/-! labels -/
theorem ly_xla3 {post : Int32 → Prop} {xbase xstrip xllen xtend xaend xlcnt xlrnd xlinked xblamed xouts xpc xsteps xran : Int32} {xops xA xB xcnt xrole xloc xglo xweak xuse xrep xunit xtgt xstay xlong xlist xchosen xplace ximg xreg xstore xout : Nat → Int32} (hW : ly_W xcnt) {m : Nat} (hm : m < 6) (s t : Int32) : ∀ (d k : Nat), k + d = ly_c xcnt m → post (ly_fd (ly_l3 xops xA xB s t) d (24 * m + k)) → wX_labelIn_3 post (nI m) s t xbase xstrip xllen xtend xaend xlcnt xlrnd xlinked xblamed xouts xpc xsteps xran xops xA xB xcnt xrole xloc xglo xweak xuse xrep xunit xtgt xstay xlong xlist xchosen xplace ximg xreg xstore xout (d + 1) (nI k) := by
  obtain ⟨hc, ec⟩ := hW m hm
  have em : (nI m).toNatClampNeg = m := ly_cl (by omega)
  have ec' : xcnt (nI m).toNatClampNeg = nI (ly_c xcnt m) := by rw [em]; exact ec
  have vm : vp_in (nI m) 6 := vp_in_nI hm (by omega)
  intro d
  induction d with
  | zero =>
    intro k hd H
    have e : k = ly_c xcnt m := by omega
    subst e
    exact ⟨vm, br_t (by rw [ec']; exact Int32.le_refl _) H⟩
  | succ d ih =>
    intro k hd H
    have hi : 24 * m + k < 144 := by omega
    have ei : (nI (24 * m + k)).toNatClampNeg = 24 * m + k := ly_cl (by omega)
    have vi : vp_in (nI (24 * m + k)) 144 := vp_in_nI hi (by omega)
    refine ⟨vm, br_f (by rw [ec']; exact nI_ge (by omega) (by omega)) (nm_r (ly_idx m k) ⟨vi, ?_⟩)⟩
    rw [ei]
    have next : ¬ (xops (24 * m + k) = 0 ∧ xA (24 * m + k) = s ∧ xB (24 * m + k) = t) → wX_labelIn_3 post (nI m) s t xbase xstrip xllen xtend xaend xlcnt xlrnd xlinked xblamed xouts xpc xsteps xran xops xA xB xcnt xrole xloc xglo xweak xuse xrep xunit xtgt xstay xlong xlist xchosen xplace ximg xreg xstore xout (d + 1) (nI (k + 1)) := by
      intro hf
      rw [show ly_fd (ly_l3 xops xA xB s t) (d + 1) (24 * m + k) = ly_fd (ly_l3 xops xA xB s t) d (24 * m + k + 1) from if_neg (fun z => hf (of_decide_eq_true z))] at H
      exact ih (k + 1) (by omega) H
    by_cases h0 : xops (24 * m + k) = 0
    · refine br_t h0 ⟨vi, ?_⟩
      by_cases h1 : xA (24 * m + k) = s
      · refine br_t h1 ⟨vi, ?_⟩
        by_cases h2 : xB (24 * m + k) = t
        · rw [show ly_fd (ly_l3 xops xA xB s t) (d + 1) (24 * m + k) = nI (24 * m + k) from if_pos (decide_eq_true ⟨h0, h1, h2⟩)] at H
          exact br_t h2 H
        · exact br_f h2 (nm_r (nI_1 k) (next (fun z => h2 z.2.2)))
      · exact br_f h1 (nm_r (nI_1 k) (next (fun z => h1 z.2.1)))
    · exact br_f h0 (nm_r (nI_1 k) (next (fun z => h0 z.1)))
theorem ly_xla {post : Int32 → Prop} {xbase xstrip xllen xtend xaend xlcnt xlrnd xlinked xblamed xouts xpc xsteps xran : Int32} {xops xA xB xcnt xrole xloc xglo xweak xuse xrep xunit xtgt xstay xlong xlist xchosen xplace ximg xreg xstore xout : Nat → Int32} (hW : ly_W xcnt) {m : Nat} (hm : m < 6) (s t : Int32) (H : post (ly_xl xops xA xB xcnt m s t)) : wpX_labelIn post (xbase, xstrip, xllen, xtend, xaend, xlcnt, xlrnd, xlinked, xblamed, xouts, xpc, xsteps, xran, xops, xA, xB, xcnt, xrole, xloc, xglo, xweak, xuse, xrep, xunit, xtgt, xstay, xlong, xlist, xchosen, xplace, ximg, xreg, xstore, xout) (nI m) s t :=
  ⟨ly_c xcnt m + 1, ly_xla3 (hW := hW) (hm := hm) (s := s) (t := t) (ly_c xcnt m) 0 (by omega) H⟩
theorem ly_fl_k {o a b cnt : Nat → Int32} {g : Nat → Nat} {s t : Int32} {i : Nat} (h : ¬ ly_fl o a b cnt g s t i = -1) : ∀ d, ly_fl o a b cnt g s t (i + d) = ly_fl o a b cnt g s t i := by
  intro d
  induction d with
  | zero => rfl
  | succ d ih =>
    show ly_fl o a b cnt g s t (i + d + 1) = _
    rw [ly_fl_s, ih, if_neg h]
theorem ly_xf2l {post : Int32 → Prop} {xbase xstrip xtend xaend xlcnt xlrnd xlinked xblamed xouts xpc xsteps xran : Int32} {xops xA xB xcnt xrole xloc xglo xweak xuse xrep xunit xtgt xstay xlong xlist xchosen xplace ximg xreg xstore xout : Nat → Int32} (hW : ly_W xcnt) {g : Nat → Nat} {n : Nat} (hL : ly_LS xops xA xcnt xlist g n) (s t : Int32) (H : post (ly_fl xops xA xB xcnt g s t n)) : ∀ (d i : Nat), i + d = n → ly_fl xops xA xB xcnt g s t i = -1 → wX_firstInList_2 post s t xbase xstrip (nI n) xtend xaend xlcnt xlrnd xlinked xblamed xouts xpc xsteps xran xops xA xB xcnt xrole xloc xglo xweak xuse xrep xunit xtgt xstay xlong xlist xchosen xplace ximg xreg xstore xout (d + 1) (nI i) := by
  obtain ⟨hn, hg⟩ := hL
  intro d
  induction d with
  | zero =>
    intro i hd hi
    have e : i = n := by omega
    subst e
    rw [hi] at H
    exact br_t (Int32.le_refl _) H
  | succ d ih =>
    intro i hd hi
    obtain ⟨g1, g2, g3⟩ := hg i (by omega)
    refine br_f (nI_ge (by omega) (by omega)) ⟨vp_in_nI (by omega) (by omega), ?_⟩
    rw [ly_cl (i := i) (by omega), g2]
    have es : ly_fl xops xA xB xcnt g s t (i + 1) = ly_xl xops xA xB xcnt (g i) s t := by rw [ly_fl_s, if_pos hi]
    refine ly_xla (hW := hW) (hm := g1) (s := s) (t := t) (H := ?_)
    by_cases z : ly_xl xops xA xB xcnt (g i) s t = -1
    · exact br_t z (nm_r (nI_1 i) (ih (i + 1) (by omega) (es.trans z)))
    · have e := ly_fl_k (o := xops) (a := xA) (b := xB) (cnt := xcnt) (g := g) (s := s) (t := t) (i := i + 1) (by rw [es]; exact z) d
      rw [show i + 1 + d = n by omega, es] at e
      rw [e] at H
      exact br_f z H
theorem ly_xfl {post : Int32 → Prop} {xbase xstrip xtend xaend xlcnt xlrnd xlinked xblamed xouts xpc xsteps xran : Int32} {xops xA xB xcnt xrole xloc xglo xweak xuse xrep xunit xtgt xstay xlong xlist xchosen xplace ximg xreg xstore xout : Nat → Int32} (hW : ly_W xcnt) {g : Nat → Nat} {n : Nat} (hL : ly_LS xops xA xcnt xlist g n) (s t : Int32) (H : post (ly_fl xops xA xB xcnt g s t n)) : wpX_firstInList post (xbase, xstrip, nI n, xtend, xaend, xlcnt, xlrnd, xlinked, xblamed, xouts, xpc, xsteps, xran, xops, xA, xB, xcnt, xrole, xloc, xglo, xweak, xuse, xrep, xunit, xtgt, xstay, xlong, xlist, xchosen, xplace, ximg, xreg, xstore, xout) s t :=
  ⟨n + 1, ly_xf2l (hW := hW) (hL := hL) (s := s) (t := t) (H := H) n 0 (by omega) rfl⟩

/-! Y: the list -/
theorem ly_y113 {post : Int32 → SY → Prop} {yorg ystrip yculp ytend yend ymade yrounds yentry ylinked yran ypc ysteps youts : Int32} {yops yA yB ycnt yrole yplace ysym yimg ystay ywide ymem yreg yout : Nat → Int32} (hW : ly_W ycnt) (hF : ly_F yops yA yB) : ∀ (f : Nat) (g : Nat → Nat) (n : Nat) (ylist : Nat → Int32), 6 ≤ n + f → ly_LS yops yA ycnt ylist g n → ly_DI g n → (∀ (l : Int32) (li : Nat → Int32), ¬ (ly_ar yops yA yB ycnt yrole f g n).1 = -1 → post 1 (yorg, ystrip, l, (ly_ar yops yA yB ycnt yrole f g n).1, ytend, yend, ymade, yrounds, yentry, ylinked, yran, ypc, ysteps, youts, yops, yA, yB, ycnt, yrole, li, yplace, ysym, yimg, ystay, ywide, ymem, yreg, yout)) → (∀ li : Nat → Int32, (ly_ar yops yA yB ycnt yrole f g n).1 = -1 → ly_LS yops yA ycnt li (ly_ar yops yA yB ycnt yrole f g n).2.1 (ly_ar yops yA yB ycnt yrole f g n).2.2 → ly_DI (ly_ar yops yA yB ycnt yrole f g n).2.1 (ly_ar yops yA yB ycnt yrole f g n).2.2 → ∃ n162, wY_link_162 post yorg ystrip (nI (ly_ar yops yA yB ycnt yrole f g n).2.2) yculp ytend yend ymade yrounds yentry ylinked yran ypc ysteps youts yops yA yB ycnt yrole li yplace ysym yimg ystay ywide ymem yreg yout n162 0) → wY_link_113 post yorg ystrip yculp ytend yend ymade yrounds yentry ylinked yran ypc ysteps youts (f + 1) (ly_na yops yA yB ycnt yrole g n) (nI n) yops yA yB ycnt yrole ylist yplace ysym yimg ystay ywide ymem yreg yout := by
  intro f
  induction f with
  | zero =>
    intro g n ylist hk hL hD H1 H2
    rcases ly_na_c (o := yops) (a := yA) (b := yB) (cnt := ycnt) (role := yrole) g n with h | ⟨m, hm, h, hl⟩
    · rw [h]
      exact br_t (by decide) (H2 ylist rfl hL hD)
    · have := ly_DI_lt hD hm hl
      omega
  | succ f ih =>
    intro g n ylist hk hL hD H1 H2
    rcases ly_na_c (o := yops) (a := yA) (b := yB) (cnt := ycnt) (role := yrole) g n with h | ⟨m, hm, h, hl⟩
    · have e : ly_ar yops yA yB ycnt yrole (f + 1) g n = (-1, g, n) := if_pos h
      rw [e] at H2
      rw [h]
      exact br_t (by decide) (H2 ylist rfl hL hD)
    · have hn := ly_DI_lt hD hm hl
      have hm1 : ¬ nI m = -1 := ly_m1 (by omega)
      rw [h]
      refine br_f (nI_pos (by omega)) ⟨vp_in_nI hn (by omega), nm_r (e' := upd ylist n (nI m)) (by rw [ly_cl (i := n) (by omega)]) (nm_r (nI_1 n) (ly_yfa (hW := hW) (hm := hm) (H := ?_)))⟩
      cases hf : ly_fy yops yA ycnt m with
      | true =>
        have e : ly_ar yops yA yB ycnt yrole (f + 1) g n = (nI m, g, n) := by
          simp only [ly_ar]
          rw [h, if_neg hm1, ly_cl (i := m) (by omega), if_pos hf]
        rw [e] at H1
        exact br_f (by decide) (H1 _ _ hm1)
      | false =>
        have e : ly_ar yops yA yB ycnt yrole (f + 1) g n = ly_ar yops yA yB ycnt yrole f (ly_uN g n m) (n + 1) := by
          simp only [ly_ar]
          rw [h, if_neg hm1, ly_cl (i := m) (by omega), if_neg (by rw [hf]; decide)]
        rw [e] at H1 H2
        have hL' := ly_LS_u hL hm hn hf
        exact br_t rfl (ly_yfe (hW := hW) (hF := hF) (hL := hL') (H := ih _ _ _ (by omega) hL' (ly_DI_u hD hm hl) H1 H2))
theorem ly_y69 {post : Int32 → SY → Prop} {yorg ystrip yculp ytend yend ymade yrounds yentry ylinked yran ypc ysteps youts : Int32} {yops yA yB ycnt yrole ylist yplace ysym yimg ystay ywide ymem yreg yout : Nat → Int32} (hW : ly_W ycnt) (hF : ly_F yops yA yB) (hl : ∀ i, i < (ly_tk yrole 6).1 → ylist i = nI ((ly_tk yrole 6).2 i)) (H1 : ∀ (l : Int32) (li : Nat → Int32), ¬ (ly_ll yops yA yB ycnt yrole).1 = -1 → post 1 (yorg, ystrip, l, (ly_ll yops yA yB ycnt yrole).1, ytend, yend, ymade, yrounds, yentry, ylinked, yran, ypc, ysteps, youts, yops, yA, yB, ycnt, yrole, li, yplace, ysym, yimg, ystay, ywide, ymem, yreg, yout)) (H2 : ∀ li : Nat → Int32, (ly_ll yops yA yB ycnt yrole).1 = -1 → ly_LS yops yA ycnt li (ly_ll yops yA yB ycnt yrole).2.1 (ly_ll yops yA yB ycnt yrole).2.2 → ly_DI (ly_ll yops yA yB ycnt yrole).2.1 (ly_ll yops yA yB ycnt yrole).2.2 → ∃ n162, wY_link_162 post yorg ystrip (nI (ly_ll yops yA yB ycnt yrole).2.2) yculp ytend yend ymade yrounds yentry ylinked yran ypc ysteps youts yops yA yB ycnt yrole li yplace ysym yimg ystay ywide ymem yreg yout n162 0) : ∀ (d i : Nat), i + d = (ly_tk yrole 6).1 → (∀ j, j < i → ly_fy yops yA ycnt ((ly_tk yrole 6).2 j) = false) → wY_link_69 post yorg ystrip (nI (ly_tk yrole 6).1) yculp ytend yend ymade yrounds yentry ylinked yran ypc ysteps youts yops yA yB ycnt yrole ylist yplace ysym yimg ystay ywide ymem yreg yout (d + 1) (nI i) := by
  have hle := ly_tk_le yrole 6
  obtain ⟨t1, t2, t3⟩ := ly_tk_c yrole 6
  intro d
  induction d with
  | zero =>
    intro i hd hn
    have e : i = (ly_tk yrole 6).1 := by omega
    have et : ly_tf yops yA ycnt yrole = -1 := by
      refine ly_tf_n (fun m hm => ?_)
      by_cases hr : yrole m = 1
      · obtain ⟨j, j1, j2⟩ := t3 m hm hr
        rw [← j2, hn j (by omega), Bool.and_false]
      · rw [decide_eq_false hr, Bool.false_and]
    have el : ly_ll yops yA yB ycnt yrole = ly_ar yops yA yB ycnt yrole 6 (ly_tk yrole 6).2 (ly_tk yrole 6).1 := if_pos et
    rw [el] at H1 H2
    have hL : ly_LS yops yA ycnt ylist (ly_tk yrole 6).2 (ly_tk yrole 6).1 := ⟨hle, fun j hj => ⟨(t1 j hj).1, hl j hj, hn j (by omega)⟩⟩
    exact br_t (by rw [e]; exact Int32.le_refl _) (ly_yfe (hW := hW) (hF := hF) (hL := hL) (H := ⟨7, ly_y113 (hW := hW) (hF := hF) 6 _ _ ylist (by omega) hL (ly_tk_di yrole 6 (by omega)) H1 H2⟩))
  | succ d ih =>
    intro i hd hn
    have hi : i < (ly_tk yrole 6).1 := by omega
    obtain ⟨g1, g2⟩ := t1 i hi
    refine br_f (nI_ge hi (by omega)) ⟨vp_in_nI (by omega) (by omega), ?_⟩
    rw [ly_cl (i := i) (by omega), hl i hi]
    refine ly_yfa (hW := hW) (hm := g1) (H := ?_)
    cases hf : ly_fy yops yA ycnt ((ly_tk yrole 6).2 i) with
    | false =>
      refine br_t rfl (nm_r (nI_1 i) (ih (i + 1) (by omega) (fun j hj => ?_)))
      by_cases e : j = i
      · subst e; exact hf
      · exact hn j (by omega)
    | true =>
      have et : ly_tf yops yA ycnt yrole = nI ((ly_tk yrole 6).2 i) := by
        refine ly_tf_y g1 g2 hf (fun m hm => ?_)
        by_cases hr : yrole m = 1
        · obtain ⟨j, j1, j2⟩ := t3 m (by omega) hr
          have hji : j < i := by
            rcases Nat.lt_trichotomy j i with z | z | z
            · exact z
            · subst z; omega
            · have := t2 i j z j1; omega
          rw [← j2, hn j hji, Bool.and_false]
        · rw [decide_eq_false hr, Bool.false_and]
      have el : (ly_ll yops yA yB ycnt yrole).1 = nI ((ly_tk yrole 6).2 i) := by
        unfold ly_ll
        rw [et, if_neg (ly_m1 (by omega))]
      rw [el] at H1
      exact br_f (by decide) ⟨vp_in_nI (by omega) (by omega), H1 _ _ (ly_m1 (by omega))⟩
theorem ly_y22 {post : Int32 → SY → Prop} {yorg ystrip yculp ytend yend ymade yrounds yentry ylinked yran ypc ysteps youts : Int32} {yops yA yB ycnt yrole yplace ysym yimg ystay ywide ymem yreg yout : Nat → Int32} (H : ∀ li : Nat → Int32, (∀ i, i < (ly_tk yrole 6).1 → li i = nI ((ly_tk yrole 6).2 i)) → ∃ n69, wY_link_69 post yorg ystrip (nI (ly_tk yrole 6).1) yculp ytend yend ymade yrounds yentry ylinked yran ypc ysteps youts yops yA yB ycnt yrole li yplace ysym yimg ystay ywide ymem yreg yout n69 0) : ∀ (d j : Nat) (ylist : Nat → Int32), j + d = 6 → (∀ i, i < (ly_tk yrole j).1 → ylist i = nI ((ly_tk yrole j).2 i)) → wY_link_22 post yorg ystrip yculp ytend yend ymade yrounds yentry ylinked yran ypc ysteps youts (d + 1) (nI j) (nI (ly_tk yrole j).1) yops yA yB ycnt yrole ylist yplace ysym yimg ystay ywide ymem yreg yout := by
  intro d
  induction d with
  | zero =>
    intro j ylist hd hl
    have e : j = 6 := by omega
    subst e
    exact br_t (by decide) (H ylist hl)
  | succ d ih =>
    intro j ylist hd hl
    have hle := ly_tk_le yrole j
    refine br_f (nI_ge (b := 6) (by omega) (by omega)) ⟨vp_in_nI (by omega) (by omega), ?_⟩
    rw [ly_cl (i := j) (by omega)]
    by_cases h1 : yrole j = 1
    · have IH := ih (j + 1) (upd ylist (ly_tk yrole j).1 (nI j)) (by omega) (by
        rw [ly_tk_y h1]
        intro i hi
        dsimp only at hi ⊢
        by_cases e : i = (ly_tk yrole j).1
        · rw [e, pk_us, ly_uNs]
        · rw [pk_un e, ly_uNn e]; exact hl i (by omega))
      rw [ly_tk_y h1] at IH
      exact br_t h1 ⟨vp_in_nI (by omega) (by omega), nm_r (e' := upd ylist (ly_tk yrole j).1 (nI j)) (by rw [ly_cl (i := (ly_tk yrole j).1) (by omega)]) (nm_r (nI_1 _) (nm_r (nI_1 j) IH))⟩
    · have IH := ih (j + 1) ylist (by omega) (by rw [ly_tk_n h1]; exact hl)
      rw [ly_tk_n h1] at IH
      exact br_f h1 (nm_r (nI_1 j) IH)
theorem ly_ylist {post : Int32 → SY → Prop} {yorg ystrip ymany yculp ytend yend ymade yrounds yentry ylinked yran ypc ysteps youts : Int32} {yops yA yB ycnt yrole ylist yplace ysym yimg ystay ywide ymem yreg yout : Nat → Int32} (hW : ly_W ycnt) (hF : ly_F yops yA yB) (H1 : ∀ (l : Int32) (li : Nat → Int32), ¬ (ly_ll yops yA yB ycnt yrole).1 = -1 → post 1 (yorg, ystrip, l, (ly_ll yops yA yB ycnt yrole).1, ytend, yend, ymade, yrounds, yentry, 0, 0, ypc, ysteps, youts, yops, yA, yB, ycnt, yrole, li, yplace, ysym, yimg, ystay, ywide, ymem, yreg, yout)) (H2 : ∀ li : Nat → Int32, (ly_ll yops yA yB ycnt yrole).1 = -1 → ly_LS yops yA ycnt li (ly_ll yops yA yB ycnt yrole).2.1 (ly_ll yops yA yB ycnt yrole).2.2 → ly_DI (ly_ll yops yA yB ycnt yrole).2.1 (ly_ll yops yA yB ycnt yrole).2.2 → ∃ n162, wY_link_162 post yorg ystrip (nI (ly_ll yops yA yB ycnt yrole).2.2) (-1) ytend yend ymade yrounds yentry 0 0 ypc ysteps youts yops yA yB ycnt yrole li yplace ysym yimg ystay ywide ymem yreg yout n162 0) : wpY_link post (yorg, ystrip, ymany, yculp, ytend, yend, ymade, yrounds, yentry, ylinked, yran, ypc, ysteps, youts, yops, yA, yB, ycnt, yrole, ylist, yplace, ysym, yimg, ystay, ywide, ymem, yreg, yout) :=
  ⟨7, ly_y22 (H := fun li hl => ⟨(ly_tk yrole 6).1 + 1, ly_y69 (hW := hW) (hF := hF) (hl := hl) (H1 := H1) (H2 := H2) (ly_tk yrole 6).1 0 (by omega) (fun j hj => absurd hj (Nat.not_lt_zero j))⟩) 6 0 ylist (by omega) (fun i hi => absurd hi (Nat.not_lt_zero i))⟩
/-! checkSymbols: X, and Y's two loops -/
theorem ly_e3_16 {o a b cnt : Nat → Int32} (hW : ly_W cnt) (hF : ly_F o a b) {m : Nat} (hm : m < 6) {s : Nat} (h16 : 16 ≤ s) (hs : s < 32) (t : Int32) : ly_e3 o a b cnt m (nI s) t = false := by
  have hc := (hW m hm).1
  refine ly_ex_f.mpr (fun j h1 h2 => decide_eq_false (fun z => ?_))
  obtain ⟨f, hf, e⟩ := ly_ft_a (hF j (by omega)) z.1
  have := ly_inj (by omega) (by omega) (e.symm.trans z.2.1)
  omega
theorem ly_eu_16 {o a b cnt : Nat → Int32} (hW : ly_W cnt) (hF : ly_F o a b) {m : Nat} (hm : m < 6) {s : Nat} (h16 : 16 ≤ s) (hs : s < 32) : ly_eu o a b cnt m (nI s) = false := by
  have hc := (hW m hm).1
  refine ly_ex_f.mpr (fun j h1 h2 => ?_)
  cases hu : ly_us (o j) with
  | false => unfold ly_up; rw [hu, Bool.false_and]
  | true =>
    obtain ⟨f, hf, e⟩ := ly_ft_s (hF j (by omega)) hu
    unfold ly_up
    rw [e, decide_eq_false (fun z => by have := ly_inj (by omega) (by omega) z; omega), Bool.and_false]
theorem ly_sv_16 {o a b cnt : Nat → Int32} (hW : ly_W cnt) (hF : ly_F o a b) {g : Nat → Nat} {s : Nat} (h16 : 16 ≤ s) (hs : s < 32) : ∀ n, (∀ i, i < n → g i < 6) → ly_sv o a b cnt g (nI s) n = false := by
  intro n
  induction n with
  | zero => intro _; rfl
  | succ n ih =>
    intro hg
    show (_ || (_ && _)) = false
    rw [ih (fun i hi => hg i (by omega)), ly_e3_16 hW hF (hg n (by omega)) h16 hs, Bool.and_false]; rfl
theorem ly_wt_16 {o a b cnt : Nat → Int32} (hW : ly_W cnt) (hF : ly_F o a b) {g : Nat → Nat} {n : Nat} (hg : ∀ i, i < n → g i < 6) {s : Nat} (h16 : 16 ≤ s) (hs : s < 32) : ly_wt o a b cnt g n s = false := by
  unfold ly_wt
  rw [decide_eq_false (by omega), Bool.false_or]
  refine ly_ex_f.mpr (fun j _ h2 => ?_)
  show (ly_eu o a b cnt (g j) (nI s) && _) = false
  rw [ly_eu_16 hW hF (hg j (by omega)) h16 hs, Bool.false_and]
def ly_ds (o a b cnt : Nat → Int32) (g : Nat → Nat) (n : Nat) : Int32 := ly_fd (fun s => ly_sv o a b cnt g (nI s) n) 16 0
def ly_ud (o a b cnt : Nat → Int32) (g : Nat → Nat) (n : Nat) : Int32 := ly_fd (ly_ms o a b cnt g n) 16 0
theorem ly_xck {post : Int32 → SX → Prop} {xbase xstrip xtend xaend xlcnt xlrnd xlinked xblamed xouts xpc xsteps xran : Int32} {xops xA xB xcnt xrole xloc xglo xweak xuse xrep xunit xtgt xstay xlong xlist xchosen xplace ximg xreg xstore xout : Nat → Int32} (hW : ly_W xcnt) (hF : ly_F xops xA xB) (hV : ly_SV xops xA xB xcnt xloc xglo xweak xuse xrep xunit 6) {g : Nat → Nat} {n : Nat} (hL : ly_LS xops xA xcnt xlist g n)
    (H2 : ¬ ly_ds xops xA xB xcnt g n = -1 → post 2 (xbase, xstrip, nI n, xtend, xaend, xlcnt, xlrnd, xlinked, ly_ds xops xA xB xcnt g n, xouts, xpc, xsteps, xran, xops, xA, xB, xcnt, xrole, xloc, xglo, xweak, xuse, xrep, xunit, xtgt, xstay, xlong, xlist, xchosen, xplace, ximg, xreg, xstore, xout)) (H3 : ly_ds xops xA xB xcnt g n = -1 → ¬ ly_ud xops xA xB xcnt g n = -1 → post 3 (xbase, xstrip, nI n, xtend, xaend, xlcnt, xlrnd, xlinked, ly_ud xops xA xB xcnt g n, xouts, xpc, xsteps, xran, xops, xA, xB, xcnt, xrole, xloc, xglo, xweak, xuse, xrep, xunit, xtgt, xstay, xlong, xlist, xchosen, xplace, ximg, xreg, xstore, xout)) (H0 : ly_ds xops xA xB xcnt g n = -1 → ly_ud xops xA xB xcnt g n = -1 → post 0 (xbase, xstrip, nI n, xtend, xaend, xlcnt, xlrnd, xlinked, xblamed, xouts, xpc, xsteps, xran, xops, xA, xB, xcnt, xrole, xloc, xglo, xweak, xuse, xrep, xunit, xtgt, xstay, xlong, xlist, xchosen, xplace, ximg, xreg, xstore, xout)) : wpX_checkSymbols post (xbase, xstrip, nI n, xtend, xaend, xlcnt, xlrnd, xlinked, xblamed, xouts, xpc, xsteps, xran, xops, xA, xB, xcnt, xrole, xloc, xglo, xweak, xuse, xrep, xunit, xtgt, xstay, xlong, xlist, xchosen, xplace, ximg, xreg, xstore, xout) := by
  have hg : ∀ i, i < n → g i < 6 := fun i hi => (hL.2 i hi).1
  unfold wpX_checkSymbols
  dsimp only
  refine ly_xs (hV := hV) (hL := hL) (H := fun w hw => ?_)
  have z := ly_mask0 (P := fun s => ly_sv xops xA xB xcnt g (nI s) n) hw (fun s h1 h2 => ly_sv_16 hW hF h1 h2 n hg)
  refine br_c (fun h => ?_) (fun h => ly_xleast (P := fun s => ly_sv xops xA xB xcnt g (nI s) n) hw (H2 (fun e => h (z.mpr e))))
  have hd := z.mp h
  refine ly_xw (hV := hV) (hL := hL) (H := fun w1 hw1 => ly_xd (hV := hV) (hL := hL) (H := fun v hv => nm_e ?_))
  have hm : ∀ s, s < 32 → bt (w1 &&& (v ^^^ (-1))) s = ly_ms xops xA xB xcnt g n s := fun s hs => by
    rw [b_and, b_xor, b_m1 s hs, hw1 s hs, hv s hs, Bool.xor_true]; rfl
  have z2 := ly_mask0 hm (fun s h1 h2 => by unfold ly_ms; rw [ly_wt_16 hW hF hg h1 h2, Bool.false_and])
  exact br_c (fun h => H0 hd (z2.mp h)) (fun h => ly_xleast hm (H3 hd (fun e => h (z2.mpr e))))
theorem ly_fl_df {o a b cnt : Nat → Int32} (hW : ly_W cnt) {g : Nat → Nat} {s : Nat} : ∀ n, (∀ i, i < n → g i < 6) → (ly_co o a b cnt g n (nI s) = -1 ↔ ly_dd o a b cnt g n s = false) := by
  have key : ∀ t n, (∀ i, i < n → g i < 6) → (ly_fl o a b cnt g (nI s) t n = -1 ↔ ∀ i, i < n → ly_e3 o a b cnt (g i) (nI s) t = false) := by
    intro t n
    induction n with
    | zero => intro _; exact ⟨fun _ i hi => absurd hi (Nat.not_lt_zero i), fun _ => rfl⟩
    | succ n ih =>
      intro hg
      have h6 := hg n (by omega)
      have e3 := ly_e3_xl (o := o) (a := a) (b := b) h6 (hW _ h6).1 (nI s) t
      have IH := ih (fun i hi => hg i (by omega))
      rw [ly_fl_s]
      by_cases z : ly_fl o a b cnt g (nI s) t n = -1
      · rw [if_pos z]
        constructor
        · intro hx i hi
          by_cases ei : i = n
          · subst ei; rw [e3, hx]; rfl
          · exact IH.mp z i (by omega)
        · intro hx
          have := hx n (by omega)
          rw [e3] at this
          by_cases q : ly_xl o a b cnt (g n) (nI s) t = -1
          · exact q
          · rw [decide_eq_true q] at this; exact absurd this (by decide)
      · rw [if_neg z]
        exact ⟨fun h => absurd h z, fun h => absurd (IH.mpr (fun i hi => h i (by omega))) z⟩
  intro n hg
  have k1 := key 1 n hg
  have k2 := key 2 n hg
  unfold ly_co ly_dd
  rw [ly_ex_f]
  constructor
  · intro h i _ hi
    by_cases z : ly_fl o a b cnt g (nI s) 1 n = -1
    · rw [if_pos z] at h
      show (_ || _) = false
      rw [k1.mp z i (by omega), k2.mp h i (by omega)]; rfl
    · rw [if_neg z] at h; exact absurd h z
  · intro h
    have h1 : ly_fl o a b cnt g (nI s) 1 n = -1 := k1.mpr (fun i hi => by
      have := h i (by omega) (by omega)
      have : (ly_e3 o a b cnt (g i) (nI s) 1 || ly_e3 o a b cnt (g i) (nI s) 2) = false := this
      revert this; cases ly_e3 o a b cnt (g i) (nI s) 1 <;> simp)
    have h2 : ly_fl o a b cnt g (nI s) 2 n = -1 := k2.mpr (fun i hi => by
      have := h i (by omega) (by omega)
      have : (ly_e3 o a b cnt (g i) (nI s) 1 || ly_e3 o a b cnt (g i) (nI s) 2) = false := this
      revert this; cases ly_e3 o a b cnt (g i) (nI s) 2 <;> simp)
    rw [if_pos h1]; exact h2
theorem ly_co_c {o a b cnt : Nat → Int32} (hW : ly_W cnt) {g : Nat → Nat} {n : Nat} (hg : ∀ i, i < n → g i < 6) (s : Int32) : ly_co o a b cnt g n s = -1 ∨ ∃ j k, j < n ∧ 24 * g j ≤ k ∧ k < 24 * g j + ly_c cnt (g j) ∧ k < 144 ∧ ly_co o a b cnt g n s = nI k := by
  unfold ly_co
  have key : ∀ t, ly_fl o a b cnt g s t n = -1 ∨ ∃ j k, j < n ∧ 24 * g j ≤ k ∧ k < 24 * g j + ly_c cnt (g j) ∧ k < 144 ∧ ly_fl o a b cnt g s t n = nI k := by
    intro t
    rcases ly_fl_c (o := o) (a := a) (b := b) (cnt := cnt) (g := g) (s := s) (t := t) n with h | ⟨j, k, h1, h2, h3, _, _, _, e⟩
    · exact Or.inl h
    · have := (hW _ (hg j h1)).1
      have := hg j h1
      exact Or.inr ⟨j, k, h1, h2, h3, by omega, e⟩
  by_cases z : ly_fl o a b cnt g s 1 n = -1
  · rw [if_pos z]; exact key 2
  · rw [if_neg z]; exact key 1
theorem ly_y193 {post : Int32 → SY → Prop} {yorg ystrip yculp ytend yend ymade yrounds yentry ylinked yran ypc ysteps youts : Int32} {yops yA yB ycnt yrole ylist yplace ysym yimg ystay ywide ymem yreg yout : Nat → Int32} (hW : ly_W ycnt) (hF : ly_F yops yA yB) {g : Nat → Nat} {n : Nat} (hL : ly_LS yops yA ycnt ylist g n) (hv : ∀ s, s < 16 → ly_sv yops yA yB ycnt g (nI s) n = false)
    (H0 : ∀ P : Int32 → SY → Prop, (∀ (r : Int32) (yorg' ystrip' ymany' yculp' ytend' yend' ymade' yrounds' yentry' ylinked' yran' ypc' ysteps' youts' : Int32) (yops' yA' yB' ycnt' yrole' ylist' yplace' ysym' yimg' ystay' ywide' ymem' yreg' yout' : Nat → Int32), post r (yorg', ystrip', ymany', yculp', ytend', yend', ymade', yrounds', yentry', ylinked', yran', ypc', ysteps', youts', yops', yA', yB', ycnt', yrole', ylist', yplace', ysym', yimg', ystay', ywide', ymem', yreg', yout') → P r (yorg', ystrip', ymany', yculp', ytend', yend', ymade', yrounds', yentry', ylinked', yran', ypc', ysteps', youts', yops', yA', yB', ycnt', yrole', ylist', yplace', ysym', yimg', ystay', ywide', ymem', yreg', yout')) → ly_ud yops yA yB ycnt g n = -1 → wpY_arrange P (yorg, ystrip, nI n, yculp, ytend, yend, ymade, yrounds, yentry, ylinked, yran, ypc, ysteps, youts, yops, yA, yB, ycnt, yrole, ylist, yplace, ysym, yimg, ystay, ywide, ymem, yreg, yout)) (H3 : ¬ ly_ud yops yA yB ycnt g n = -1 → post 3 (yorg, ystrip, nI n, ly_ud yops yA yB ycnt g n, ytend, yend, ymade, yrounds, yentry, ylinked, yran, ypc, ysteps, youts, yops, yA, yB, ycnt, yrole, ylist, yplace, ysym, yimg, ystay, ywide, ymem, yreg, yout)) : ∀ (d s : Nat), s + d = 16 → ly_ud yops yA yB ycnt g n = ly_fd (ly_ms yops yA yB ycnt g n) d s → wY_link_193 post yorg ystrip (nI n) yculp ytend yend ymade yrounds yentry ylinked yran ypc ysteps youts yops yA yB ycnt yrole ylist yplace ysym yimg ystay ywide ymem yreg yout (d + 1) (nI s) := by
  have hg : ∀ i, i < n → g i < 6 := fun i hi => (hL.2 i hi).1
  intro d
  induction d with
  | zero =>
    intro s hd he
    have e : s = 16 := by omega
    subst e
    exact br_t (by decide) (H0 _ (fun r yorg' ystrip' ymany' yculp' ytend' yend' ymade' yrounds' yentry' ylinked' yran' ypc' ysteps' youts' yops' yA' yB' ycnt' yrole' ylist' yplace' ysym' yimg' ystay' ywide' ymem' yreg' yout' h => h) he)
  | succ d ih =>
    intro s hd he
    have next : ly_ms yops yA yB ycnt g n s = false → wY_link_193 post yorg ystrip (nI n) yculp ytend yend ymade yrounds yentry ylinked yran ypc ysteps youts yops yA yB ycnt yrole ylist yplace ysym yimg ystay ywide ymem yreg yout (d + 1) (nI (s + 1)) := fun hf =>
      ih (s + 1) (by omega) (he.trans (if_neg (by rw [hf]; decide)))
    refine br_f (nI_ge (b := 16) (by omega) (by omega)) (ly_ywt (hW := hW) (hF := hF) (hL := hL) (hs := by omega) (H := ?_))
    cases hw : ly_wt yops yA yB ycnt g n s with
    | false => exact br_t rfl (nm_r (nI_1 s) (next (by unfold ly_ms; rw [hw, Bool.false_and])))
    | true =>
      refine br_f (by decide) (ly_ych (hW := hW) (hF := hF) (hL := hL) (s := nI s) (H := ?_))
      have ec : ly_cy yops yA yB ycnt g n (nI s) = ly_co yops yA yB ycnt g n (nI s) := by
        unfold ly_cy; rw [hv s (by omega), if_neg (by decide)]
      rw [ec]
      have hdf := ly_fl_df (o := yops) (a := yA) (b := yB) hW (g := g) (s := s) n hg
      cases hdd : ly_dd yops yA yB ycnt g n s with
      | false =>
        have hm : ly_ms yops yA yB ycnt g n s = true := by unfold ly_ms; rw [hw, hdd]; rfl
        have e : ly_ud yops yA yB ycnt g n = nI s := he.trans (if_pos hm)
        rw [e] at H3
        exact br_t (hdf.mpr hdd) (H3 (ly_m1 (by omega)))
      | true =>
        exact br_f (fun z => by rw [hdf.mp z] at hdd; exact absurd hdd (by decide)) (nm_r (nI_1 s) (next (by unfold ly_ms; rw [hdd]; exact Bool.and_false _)))
theorem ly_y162 {post : Int32 → SY → Prop} {yorg ystrip yculp ytend yend ymade yrounds yentry ylinked yran ypc ysteps youts : Int32} {yops yA yB ycnt yrole ylist yplace ysym yimg ystay ywide ymem yreg yout : Nat → Int32} (hW : ly_W ycnt) (hF : ly_F yops yA yB) {g : Nat → Nat} {n : Nat} (hL : ly_LS yops yA ycnt ylist g n)
    (H0 : ∀ P : Int32 → SY → Prop, (∀ (r : Int32) (yorg' ystrip' ymany' yculp' ytend' yend' ymade' yrounds' yentry' ylinked' yran' ypc' ysteps' youts' : Int32) (yops' yA' yB' ycnt' yrole' ylist' yplace' ysym' yimg' ystay' ywide' ymem' yreg' yout' : Nat → Int32), post r (yorg', ystrip', ymany', yculp', ytend', yend', ymade', yrounds', yentry', ylinked', yran', ypc', ysteps', youts', yops', yA', yB', ycnt', yrole', ylist', yplace', ysym', yimg', ystay', ywide', ymem', yreg', yout') → P r (yorg', ystrip', ymany', yculp', ytend', yend', ymade', yrounds', yentry', ylinked', yran', ypc', ysteps', youts', yops', yA', yB', ycnt', yrole', ylist', yplace', ysym', yimg', ystay', ywide', ymem', yreg', yout')) → (∀ s, s < 16 → ly_sv yops yA yB ycnt g (nI s) n = false) → ly_ds yops yA yB ycnt g n = -1 → ly_ud yops yA yB ycnt g n = -1 → wpY_arrange P (yorg, ystrip, nI n, yculp, ytend, yend, ymade, yrounds, yentry, ylinked, yran, ypc, ysteps, youts, yops, yA, yB, ycnt, yrole, ylist, yplace, ysym, yimg, ystay, ywide, ymem, yreg, yout)) (H3 : ly_ds yops yA yB ycnt g n = -1 → ¬ ly_ud yops yA yB ycnt g n = -1 → post 3 (yorg, ystrip, nI n, ly_ud yops yA yB ycnt g n, ytend, yend, ymade, yrounds, yentry, ylinked, yran, ypc, ysteps, youts, yops, yA, yB, ycnt, yrole, ylist, yplace, ysym, yimg, ystay, ywide, ymem, yreg, yout)) (H2 : ¬ ly_ds yops yA yB ycnt g n = -1 → post 2 (yorg, ystrip, nI n, ly_ds yops yA yB ycnt g n, ytend, yend, ymade, yrounds, yentry, ylinked, yran, ypc, ysteps, youts, yops, yA, yB, ycnt, yrole, ylist, yplace, ysym, yimg, ystay, ywide, ymem, yreg, yout)) : ∀ (d s : Nat), s + d = 16 → ly_ds yops yA yB ycnt g n = ly_fd (fun s => ly_sv yops yA yB ycnt g (nI s) n) d s → wY_link_162 post yorg ystrip (nI n) yculp ytend yend ymade yrounds yentry ylinked yran ypc ysteps youts yops yA yB ycnt yrole ylist yplace ysym yimg ystay ywide ymem yreg yout (d + 1) (nI s) := by
  have hg : ∀ i, i < n → g i < 6 := fun i hi => (hL.2 i hi).1
  intro d
  induction d with
  | zero =>
    intro s hd he
    have e : s = 16 := by omega
    subst e
    have hds : ly_ds yops yA yB ycnt g n = -1 := he
    have hv : ∀ s, s < 16 → ly_sv yops yA yB ycnt g (nI s) n = false := by
      rcases ly_fd_c (fun s => ly_sv yops yA yB ycnt g (nI s) n) 16 0 with ⟨_, h⟩ | ⟨j, _, j2, _, _, z⟩
      · exact fun s hs => h s (by omega) (by omega)
      · exact absurd (z.symm.trans hds) (ly_m1 (by omega))
    exact br_t (by decide) ⟨17, ly_y193 (hW := hW) (hF := hF) (hL := hL) (hv := hv) (H0 := fun P hP hu => H0 P hP hv hds hu) (H3 := H3 hds) 16 0 (by omega) rfl⟩
  | succ d ih =>
    intro s hd he
    refine br_f (nI_ge (b := 16) (by omega) (by omega)) (ly_ych (hW := hW) (hF := hF) (hL := hL) (s := nI s) (H := ?_))
    unfold ly_cy
    cases hs : ly_sv yops yA yB ycnt g (nI s) n with
    | true =>
      rw [if_pos rfl]
      have e : ly_ds yops yA yB ycnt g n = nI s := he.trans (if_pos hs)
      rw [e] at H2
      exact br_t rfl (H2 (ly_m1 (by omega)))
    | false =>
      rw [if_neg (by decide)]
      refine br_f (fun z => ?_) (nm_r (nI_1 s) (ih (s + 1) (by omega) (he.trans (if_neg (by dsimp only; rw [hs]; decide)))))
      rcases ly_co_c (o := yops) (a := yA) (b := yB) hW hg (nI s) with h | ⟨j, k, _, _, _, hk, h⟩
      · rw [h] at z; exact absurd z (by decide)
      · rw [h] at z; exact absurd z (ly_m2 (by omega))

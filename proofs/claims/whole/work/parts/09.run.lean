/-! a step, the loop of a run, run -/
theorem ly_ST_map {s : Nat} {WX WX' : (Int32 → SX → Prop) → Prop} {WY WY' : (Int32 → SY → Prop) → Prop} {mX : Int32 → Int32 → Int32 → (Nat → Int32) → (Nat → Int32) → (Nat → Int32) → SX} {mY : Int32 → Int32 → Int32 → (Nat → Int32) → (Nat → Int32) → (Nat → Int32) → SY} (h : ly_ST s WX WY mX mY) (hx : ∀ post, WX post → WX' post) (hy : ∀ post, WY post → WY' post) : ly_ST s WX' WY' mX mY := by
  obtain ⟨r, pc, s', o, rg, yrg, st, ym, ou, you, h1, h2, h3, h4, h5, h6, h7, h8⟩ := h
  exact ⟨r, pc, s', o, rg, yrg, st, ym, ou, you, h1, h2, h3, h4, h5, h6, fun post H => hx post (h7 post H), fun post H => hy post (h8 post H)⟩
theorem ly_s77 {xbase xstrip xllen xtend xaend xlcnt xlrnd xlinked xblamed xran : Int32} {xops xA xB xcnt xrole xloc xglo xweak xuse xrep xunit xtgt xstay xlong xlist xchosen xplace ximg xreg xstore xout : Nat → Int32} {ymany ytend yend ymade yrounds yentry : Int32} {ylist yplace ysym yimg ystay ywide ymem yreg yout : Nat → Int32} {a b p s o : Nat} (ha : a < 8) (hb : b < 8) (hp : p < 256) (z w : Int32) (hz : ¬ z = 0 → p + 1 < 256) (ho : o ≤ s) (hs : s < 300) (hreg : ly_AG 8 xreg yreg) (hmem : ly_AG 256 xstore ymem) (hout : ∀ k, k < 40 → xout k = if k < o then yout k else 0)
    {q : Nat} (h1 : 1 ≤ q) (h14 : q ≤ 14) (ea : ((w.toUInt32 >>> ((20 : Int32).toUInt32 &&& Int32.toUInt32 31)).toInt32) &&& 7 = nI a) (eb : w.toInt16.toInt32 &&& 7 = nI b) : ly_ST s (fun post => wX_step_77 post w (nI q) z xbase xstrip xllen xtend xaend xlcnt xlrnd xlinked xblamed (nI o) (nI p) (nI s) xran xops xA xB xcnt xrole xloc xglo xweak xuse xrep xunit xtgt xstay xlong xlist xchosen xplace ximg xreg xstore xout) (fun post => wY_step_107 post (nI q) (nI a) w.toInt16.toInt32 (nI b) (nI p + 1) z xbase xstrip ymany xblamed ytend yend ymade yrounds yentry xlinked xran (nI p) (nI s) (nI o) xops xA xB xcnt xrole ylist yplace ysym yimg ystay ywide ymem yreg yout) (fun xouts xpc xsteps xreg xstore xout => (xbase, xstrip, xllen, xtend, xaend, xlcnt, xlrnd, xlinked, xblamed, xouts, xpc, xsteps, xran, xops, xA, xB, xcnt, xrole, xloc, xglo, xweak, xuse, xrep, xunit, xtgt, xstay, xlong, xlist, xchosen, xplace, ximg, xreg, xstore, xout)) (fun ypc ysteps youts ymem yreg yout => (xbase, xstrip, ymany, xblamed, ytend, yend, ymade, yrounds, yentry, xlinked, xran, ypc, ysteps, youts, xops, xA, xB, xcnt, xrole, ylist, yplace, ysym, yimg, ystay, ywide, ymem, yreg, yout)) := by
  have eB : (nI b).toNatClampNeg = b := ly_cl (by omega)
  by_cases h67 : q = 6 ∨ q = 7
  · -- X and Y both come to the test of the address
    have hx : ∀ post : Int32 → SX → Prop, wX_step_109 post (nI q) z (nI a) w.toInt16.toInt32 (nI b) xbase xstrip xllen xtend xaend xlcnt xlrnd xlinked xblamed (nI o) (nI p) (nI s) xran xops xA xB xcnt xrole xloc xglo xweak xuse xrep xunit xtgt xstay xlong xlist xchosen xplace ximg xreg xstore xout → wX_step_77 post w (nI q) z xbase xstrip xllen xtend xaend xlcnt xlrnd xlinked xblamed (nI o) (nI p) (nI s) xran xops xA xB xcnt xrole xloc xglo xweak xuse xrep xunit xtgt xstay xlong xlist xchosen xplace ximg xreg xstore xout := by
      intro post H
      rcases h67 with rfl | rfl
      · exact nm_r ea (nm_r eb (br_t rfl H))
      · exact nm_r ea (nm_r eb (br_f (by decide) (br_t rfl H)))
    have hy : ∀ post : Int32 → SY → Prop, wY_step_119 post (nI q) (nI a) w.toInt16.toInt32 (nI b) (nI p + 1) z xbase xstrip ymany xblamed ytend yend ymade yrounds yentry xlinked xran (nI p) (nI s) (nI o) xops xA xB xcnt xrole ylist yplace ysym yimg ystay ywide ymem yreg yout → wY_step_107 post (nI q) (nI a) w.toInt16.toInt32 (nI b) (nI p + 1) z xbase xstrip ymany xblamed ytend yend ymade yrounds yentry xlinked xran (nI p) (nI s) (nI o) xops xA xB xcnt xrole ylist yplace ysym yimg ystay ywide ymem yreg yout := by
      intro post H
      rcases h67 with rfl | rfl
      · exact br_t rfl H
      · exact br_f (by decide) (br_t rfl H)
    rcases ly_ix3 (xreg b) (n := 256) (by omega) with h | ⟨c, hc, hr⟩
    · refine ⟨7, nI p, s, o, xreg, yreg, xstore, ymem, xout, yout, fun h => absurd h (by decide), by omega, ho, hreg, hmem, hout, fun post H => hx post ⟨vp_in_nI hb (by omega), ?_⟩, fun post H => hy post ⟨vp_in_nI hb (by omega), ?_⟩⟩
      · rw [eB]; exact ly_xadr0 h (br_t rfl H)
      · rw [eB, ← hreg b hb]; exact ly_yadr0 h (br_t rfl H)
    · refine ly_ST_map (ly_core (ha := ha) (hb := hb) (hp := hp) (z := z) (n := w.toInt16.toInt32) (hz := hz) (ho := ho) (hs := hs) (hreg := hreg) (hmem := hmem) (hout := hout) (h1 := h1) (h14 := h14) (hr := fun _ => ⟨c, hc, hr⟩)) (fun post H => hx post ⟨vp_in_nI hb (by omega), ?_⟩) (fun post H => hy post ⟨vp_in_nI hb (by omega), ?_⟩)
      · rw [eB, hr]; exact ly_xadr1 hc (br_f (by decide) H)
      · rw [eB, ← hreg b hb, hr]; exact ly_yadr1 hc (br_f (by decide) H)
  · have n6 : ¬ nI q = 6 := fun e => by have := ly_inj (b := 6) (by omega) (by omega) e; omega
    have n7 : ¬ nI q = 7 := fun e => by have := ly_inj (b := 7) (by omega) (by omega) e; omega
    exact ly_ST_map (ly_core (ha := ha) (hb := hb) (hp := hp) (z := z) (n := w.toInt16.toInt32) (hz := hz) (ho := ho) (hs := hs) (hreg := hreg) (hmem := hmem) (hout := hout) (h1 := h1) (h14 := h14) (hr := fun h => absurd h h67)) (fun post H => nm_r ea (nm_r eb (br_f n6 (br_f n7 H)))) (fun post H => br_f n6 (br_f n7 H))
theorem ly_step {xbase xstrip xllen xtend xaend xlcnt xlrnd xlinked xblamed xpc xran : Int32} {xops xA xB xcnt xrole xloc xglo xweak xuse xrep xunit xtgt xstay xlong xlist xchosen xplace ximg xreg xstore xout : Nat → Int32} {ymany ytend yend ymade yrounds yentry : Int32} {ylist yplace ysym yimg ystay ywide ymem yreg yout : Nat → Int32} {s o : Nat} (ho : o ≤ s) (hs : s < 300) (hreg : ly_AG 8 xreg yreg) (hmem : ly_AG 256 xstore ymem) (hout : ∀ k, k < 40 → xout k = if k < o then yout k else 0) : ly_ST s (fun post => wpX_step post (xbase, xstrip, xllen, xtend, xaend, xlcnt, xlrnd, xlinked, xblamed, nI o, xpc, nI s, xran, xops, xA, xB, xcnt, xrole, xloc, xglo, xweak, xuse, xrep, xunit, xtgt, xstay, xlong, xlist, xchosen, xplace, ximg, xreg, xstore, xout)) (fun post => wpY_step post (xbase, xstrip, ymany, xblamed, ytend, yend, ymade, yrounds, yentry, xlinked, xran, xpc, nI s, nI o, xops, xA, xB, xcnt, xrole, ylist, yplace, ysym, yimg, ystay, ywide, ymem, yreg, yout)) (fun xouts xpc xsteps xreg xstore xout => (xbase, xstrip, xllen, xtend, xaend, xlcnt, xlrnd, xlinked, xblamed, xouts, xpc, xsteps, xran, xops, xA, xB, xcnt, xrole, xloc, xglo, xweak, xuse, xrep, xunit, xtgt, xstay, xlong, xlist, xchosen, xplace, ximg, xreg, xstore, xout)) (fun ypc ysteps youts ymem yreg yout => (xbase, xstrip, ymany, xblamed, ytend, yend, ymade, yrounds, yentry, xlinked, xran, ypc, ysteps, youts, xops, xA, xB, xcnt, xrole, ylist, yplace, ysym, yimg, ystay, ywide, ymem, yreg, yout)) := by
  rcases ly_ix3 xpc (n := 256) (by omega) with h | ⟨p, hp, rfl⟩
  · refine ⟨7, xpc, s, o, xreg, yreg, xstore, ymem, xout, yout, fun h => absurd h (by decide), by omega, ho, hreg, hmem, hout, fun post H => ?_, fun post H => ?_⟩
    · (try dsimp only); unfold wpX_step; exact ly_xadr0 h (br_t rfl H)
    · (try dsimp only); unfold wpY_step; exact ly_yadr0 h (br_t rfl H)
  · obtain ⟨q, hq, eq⟩ := pk_andE (xstore p >>> ((24 : Int32) &&& 31)) (m := 31) 5 (by decide)
    obtain ⟨a, ha, ea⟩ := pk_andE (xstore p >>> ((20 : Int32) &&& 31)) (m := 7) 3 (by decide)
    obtain ⟨b, hb, eb⟩ := pk_andE (xstore p).toInt16.toInt32 (m := 7) 3 (by decide)
    have eP : (nI p).toNatClampNeg = p := ly_cl (by omega)
    have ew : xstore (nI p).toNatClampNeg = xstore p := by rw [eP]
    have ewy : ymem (nI p).toNatClampNeg = xstore p := by rw [eP]; exact (hmem p hp).symm
    have eqx := (ly_wop (xstore p)).trans eq
    have eax := (ly_wrg (xstore p)).trans ea
    have hq' : q < 32 := hq
    by_cases h14 : 1 ≤ q ∧ q ≤ 14
    · have c1 : ¬ nI q < 1 := nI_nlt (b := 1) h14.1 (by omega)
      have c2 : nI q ≤ 14 := nI_le (b := 14) h14.2 (by omega)
      have c3 : ¬ (14 : Int32) < nI q := nI_nlt (a := 14) h14.2 (by omega)
      rcases ly_wlg (xstore p) with ⟨l1, l2⟩ | ⟨l1, l2⟩
      · refine ly_ST_map (ly_s77 (ha := ha) (hb := hb) (hp := hp) (z := 0) (w := xstore p) (hz := fun h => absurd rfl h) (ho := ho) (hs := hs) (hreg := hreg) (hmem := hmem) (hout := hout) (h1 := h14.1) (h14 := h14.2) (ea := eax) (eb := eb)) (fun post H => ?_) (fun post H => ?_)
        · (try dsimp only); unfold wpX_step
          exact ly_xadr1 hp (br_f (by decide) ⟨vp_in_nI hp (by omega), nm_r ew (nm_r eqx (br_f c1 (br_t c2 (br_t l1 (br_t rfl H)))))⟩)
        · (try dsimp only); unfold wpY_step
          exact ly_yadr1 hp (br_f (by decide) ⟨vp_in_nI hp (by omega), nm_r ewy (nm_r eq (nm_r ea (nm_r eb (nm_e (br_f (by rw [l2]; decide) (br_f c1 (br_f c3 (br_f (by decide) (br_t rfl H)))))))))⟩)
      · have lx : ¬ (xstore p &&& 65536) = 0 := by rw [l1]; decide
        by_cases h255 : p = 255
        · subst h255
          refine ⟨7, nI 255, s, o, xreg, yreg, xstore, ymem, xout, yout, fun h => absurd h (by decide), by omega, ho, hreg, hmem, hout, fun post H => ?_, fun post H => ?_⟩
          · (try dsimp only); unfold wpX_step
            exact ly_xadr1 hp (br_f (by decide) ⟨vp_in_nI hp (by omega), nm_r ew (nm_r eqx (br_f c1 (br_t c2 (br_f lx (br_f (by decide) (ly_xadr0 (Or.inr (by decide)) (br_t rfl H)))))))⟩)
          · (try dsimp only); unfold wpY_step
            exact ly_yadr1 hp (br_f (by decide) ⟨vp_in_nI hp (by omega), nm_r ewy (nm_r eq (nm_r ea (nm_r eb (nm_e (br_t l2 (br_f c1 (br_f c3 (br_f (by decide) (br_f (by decide) (br_t rfl H))))))))))⟩)
        · have e1 : nI p + 1 = nI (p + 1) := nI_1 p
          have n255 : ¬ nI p = 255 := fun e => h255 (ly_inj (b := 255) (by omega) (by omega) e)
          refine ly_ST_map (ly_s77 (ha := ha) (hb := hb) (hp := hp) (z := 1) (w := xstore p) (hz := fun _ => by omega) (ho := ho) (hs := hs) (hreg := hreg) (hmem := hmem) (hout := hout) (h1 := h14.1) (h14 := h14.2) (ea := eax) (eb := eb)) (fun post H => ?_) (fun post H => ?_)
          · (try dsimp only); unfold wpX_step
            refine ly_xadr1 hp (br_f (by decide) ⟨vp_in_nI hp (by omega), nm_r ew (nm_r eqx (br_f c1 (br_t c2 (br_f lx (br_f (by decide) ?_)))))⟩)
            rw [e1]
            exact ly_xadr1 (by omega) (br_f (by decide) H)
          · (try dsimp only); unfold wpY_step
            exact ly_yadr1 hp (br_f (by decide) ⟨vp_in_nI hp (by omega), nm_r ewy (nm_r eq (nm_r ea (nm_r eb (nm_e (br_t l2 (br_f c1 (br_f c3 (br_f (by decide) (br_f (by decide) (br_f n255 H))))))))))⟩)
    · refine ⟨8, nI p, s, o, xreg, yreg, xstore, ymem, xout, yout, fun h => absurd h (by decide), by omega, ho, hreg, hmem, hout, fun post H => ?_, fun post H => ?_⟩
      · (try dsimp only); unfold wpX_step
        refine ly_xadr1 hp (br_f (by decide) ⟨vp_in_nI hp (by omega), nm_r ew (nm_r eqx ?_)⟩)
        by_cases h0 : q < 1
        · exact br_t (nI_lt (b := 1) h0 (by omega)) H
        · exact br_f (nI_nlt (b := 1) (by omega) (by omega)) (br_f (nI_ge (a := 14) (by omega) (by omega)) H)
      · (try dsimp only); unfold wpY_step
        have hin : ∀ z0 : Int32, wY_step_77 post (nI q) (nI a) (xstore p).toInt16.toInt32 (nI b) (nI p + 1) z0 xbase xstrip ymany xblamed ytend yend ymade yrounds yentry xlinked xran (nI p) (nI s) (nI o) xops xA xB xcnt xrole ylist yplace ysym yimg ystay ywide ymem yreg yout := by
          intro z0
          by_cases h0 : q < 1
          · exact br_t (nI_lt (b := 1) h0 (by omega)) (br_t rfl H)
          · exact br_f (nI_nlt (b := 1) (by omega) (by omega)) (br_t (nI_lt (a := 14) (by omega) (by omega)) (br_t rfl H))
        exact ly_yadr1 hp (br_f (by decide) ⟨vp_in_nI hp (by omega), nm_r ewy (nm_r eq (nm_r ea (nm_r eb (nm_e (br_c (fun _ => hin 1) (fun _ => hin 0))))))⟩)
theorem ly_loop {xbase xstrip xllen xtend xaend xlcnt xlrnd xlinked xblamed xran : Int32} {xops xA xB xcnt xrole xloc xglo xweak xuse xrep xunit xtgt xstay xlong xlist xchosen xplace ximg : Nat → Int32} {ymany ytend yend ymade yrounds yentry : Int32} {ylist yplace ysym yimg ystay ywide : Nat → Int32} (Q : Int32 → SX → Prop) (P : Int32 → SX → Int32 → SY → Prop)
    (fin : ∀ (r xpc : Int32) (s o : Nat) (xreg yreg xstore ymem xout yout : Nat → Int32), o ≤ s → s ≤ 300 → ly_AG 8 xreg yreg → ly_AG 256 xstore ymem → (∀ k, k < 40 → xout k = if k < o then yout k else 0) → P r (xbase, xstrip, xllen, xtend, xaend, xlcnt, xlrnd, xlinked, xblamed, nI o, xpc, nI s, xran, xops, xA, xB, xcnt, xrole, xloc, xglo, xweak, xuse, xrep, xunit, xtgt, xstay, xlong, xlist, xchosen, xplace, ximg, xreg, xstore, xout) r (xbase, xstrip, ymany, xblamed, ytend, yend, ymade, yrounds, yentry, xlinked, xran, xpc, nI s, nI o, xops, xA, xB, xcnt, xrole, ylist, yplace, ysym, yimg, ystay, ywide, ymem, yreg, yout)) :
    ∀ (d s o : Nat) (xpc : Int32) (xreg yreg xstore ymem xout yout : Nat → Int32), s + d = 300 → o ≤ s → ly_AG 8 xreg yreg → ly_AG 256 xstore ymem → (∀ k, k < 40 → xout k = if k < o then yout k else 0) → (∀ r u', (∃ n, wY_run_82 (P r u') n 0 xbase xstrip ymany xblamed ytend yend ymade yrounds yentry xlinked xran xpc (nI s) (nI o) xops xA xB xcnt xrole ylist yplace ysym yimg ystay ywide ymem yreg yout) → Q r u') → wX_run_15 Q (d + 1) (nI s) xbase xstrip xllen xtend xaend xlcnt xlrnd xlinked xblamed (nI o) xpc (nI s) xran xops xA xB xcnt xrole xloc xglo xweak xuse xrep xunit xtgt xstay xlong xlist xchosen xplace ximg xreg xstore xout := by
  intro d
  induction d with
  | zero =>
    intro s o xpc xreg yreg xstore ymem xout yout hd ho hreg hmem hout HY
    have e : s = 300 := by omega
    subst e
    exact br_t (by decide) (HY 6 _ ⟨2, br_t rfl (br_t rfl (br_f (by decide) (fin 6 xpc 300 o xreg yreg xstore ymem xout yout ho (by omega) hreg hmem hout)))⟩)
  | succ d ih =>
    intro s o xpc xreg yreg xstore ymem xout yout hd ho hreg hmem hout HY
    have ns : ¬ nI s = 300 := fun e => by have := ly_inj (b := 300) (by omega) (by omega) e; omega
    obtain ⟨r, pc', s', o', rg, yrg, st, ym, ou, you, h1, h2, h3, h4, h5, h6, h7, h8⟩ := ly_step (xbase := xbase) (xstrip := xstrip) (xllen := xllen) (xtend := xtend) (xaend := xaend) (xlcnt := xlcnt) (xlrnd := xlrnd) (xlinked := xlinked) (xblamed := xblamed) (xpc := xpc) (xran := xran) (xops := xops) (xA := xA) (xB := xB) (xcnt := xcnt) (xrole := xrole) (xloc := xloc) (xglo := xglo) (xweak := xweak) (xuse := xuse) (xrep := xrep) (xunit := xunit) (xtgt := xtgt) (xstay := xstay) (xlong := xlong) (xlist := xlist) (xchosen := xchosen) (xplace := xplace) (ximg := ximg) (ymany := ymany) (ytend := ytend) (yend := yend) (ymade := ymade) (yrounds := yrounds) (yentry := yentry) (ylist := ylist) (yplace := yplace) (ysym := ysym) (yimg := yimg) (ystay := ystay) (ywide := ywide) ho (by omega : s < 300) hreg hmem hout
    refine br_f (nI_ge (b := 300) (by omega) (by omega)) (h7 _ ?_)
    by_cases hr : r = 0
    · have e := h1 hr
      subst hr
      subst e
      exact br_t rfl (nm_r (nI_1 s) (ih (s + 1) o' pc' rg yrg st ym ou you (by omega) h3 h4 h5 h6 (fun r u' ⟨n, hn⟩ => HY r u' ⟨n + 1, br_t rfl (br_f ns (h8 _ hn))⟩)))
    · exact br_f hr (HY r _ ⟨2, br_t rfl (br_f ns (h8 _ (br_f hr (fin r pc' s' o' rg yrg st ym ou you h3 (by omega) h4 h5 h6))))⟩)

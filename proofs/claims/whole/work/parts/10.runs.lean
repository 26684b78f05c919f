/-! how a run begins, and run -/
theorem ly_b55 {post : SX → Prop} {xbase xstrip xllen xtend xaend xlcnt xlrnd xlinked xblamed xouts xpc xsteps xran : Int32} {xops xA xB xcnt xrole xloc xglo xweak xuse xrep xunit xtgt xstay xlong xlist xchosen xplace ximg xreg xstore : Nat → Int32} {t : Nat} (ht : t < 144) (hc : xchosen 0 = nI t) (H : ∀ ou : Nat → Int32, (∀ i, i < 40 → ou i = 0) → post (xbase, xstrip, xllen, xtend, xaend, xlcnt, xlrnd, xlinked, xblamed, 0, xplace t, 0, xran, xops, xA, xB, xcnt, xrole, xloc, xglo, xweak, xuse, xrep, xunit, xtgt, xstay, xlong, xlist, xchosen, xplace, ximg, xreg, xstore, ou)) : ∀ (d k : Nat) (ou : Nat → Int32), k + d = 40 → (∀ i, i < k → ou i = 0) → wX_beginRun_55 post xbase xstrip xllen xtend xaend xlcnt xlrnd xlinked xblamed xouts xpc xsteps xran (d + 1) (nI k) xops xA xB xcnt xrole xloc xglo xweak xuse xrep xunit xtgt xstay xlong xlist xchosen xplace ximg xreg xstore ou := by
  intro d
  induction d with
  | zero =>
    intro k ou hd ho
    have e : k = 40 := by omega
    subst e
    refine br_t (by decide) ?_
    rw [hc]
    exact br_f (ly_m1 (by omega)) ⟨vp_in_nI ht (by omega), nm_r (e' := xplace t) (by rw [ly_cl (i := t) (by omega)]) (H ou ho)⟩
  | succ d ih =>
    intro k ou hd ho
    refine br_f (nI_ge (b := 40) (by omega) (by omega)) ⟨vp_in_nI (by omega) (by omega), nm_r (e' := upd ou k 0) (by rw [ly_cl (i := k) (by omega)]) (nm_r (nI_1 k) (ih (k + 1) _ (by omega) (fun i hi => ?_)))⟩
    by_cases e : i = k
    · subst e; exact pk_us
    · rw [pk_un e]; exact ho i (by omega)
theorem ly_b34 {post : SX → Prop} {xbase xstrip xllen xtend xaend xlcnt xlrnd xlinked xblamed xouts xpc xsteps xran : Int32} {xops xA xB xcnt xrole xloc xglo xweak xuse xrep xunit xtgt xstay xlong xlist xchosen xplace ximg xstore xout : Nat → Int32} (H : ∀ rg : Nat → Int32, (∀ i, i < 8 → rg i = 0) → ∃ n55, wX_beginRun_55 post xbase xstrip xllen xtend xaend xlcnt xlrnd xlinked xblamed xouts xpc xsteps xran n55 0 xops xA xB xcnt xrole xloc xglo xweak xuse xrep xunit xtgt xstay xlong xlist xchosen xplace ximg rg xstore xout) : ∀ (d k : Nat) (rg : Nat → Int32), k + d = 8 → (∀ i, i < k → rg i = 0) → wX_beginRun_34 post xbase xstrip xllen xtend xaend xlcnt xlrnd xlinked xblamed xouts xpc xsteps xran (d + 1) (nI k) xops xA xB xcnt xrole xloc xglo xweak xuse xrep xunit xtgt xstay xlong xlist xchosen xplace ximg rg xstore xout := by
  intro d
  induction d with
  | zero =>
    intro k ou hd ho
    have e : k = 8 := by omega
    subst e
    exact br_t (by decide) (H ou ho)
  | succ d ih =>
    intro k ou hd ho
    refine br_f (nI_ge (b := 8) (by omega) (by omega)) ⟨vp_in_nI (by omega) (by omega), nm_r (e' := upd ou k 0) (by rw [ly_cl (i := k) (by omega)]) (nm_r (nI_1 k) (ih (k + 1) _ (by omega) (fun i hi => ?_)))⟩
    by_cases e : i = k
    · subst e; exact pk_us
    · rw [pk_un e]; exact ho i (by omega)
theorem ly_b7r {post : SX → Prop} {xbase xstrip xllen xtend xaend xlcnt xlrnd xlinked xblamed xouts xpc xsteps xran : Int32} {xops xA xB xcnt xrole xloc xglo xweak xuse xrep xunit xtgt xstay xlong xlist xchosen xplace ximg xreg xout : Nat → Int32} (H : ∀ st : Nat → Int32, (∀ i, i < 256 → st i = ximg i) → ∃ n34, wX_beginRun_34 post xbase xstrip xllen xtend xaend xlcnt xlrnd xlinked xblamed xouts xpc xsteps xran n34 0 xops xA xB xcnt xrole xloc xglo xweak xuse xrep xunit xtgt xstay xlong xlist xchosen xplace ximg xreg st xout) : ∀ (d k : Nat) (st : Nat → Int32), k + d = 256 → (∀ i, i < k → st i = ximg i) → wX_beginRun_7 post xbase xstrip xllen xtend xaend xlcnt xlrnd xlinked xblamed xouts xpc xsteps xran (d + 1) (nI k) xops xA xB xcnt xrole xloc xglo xweak xuse xrep xunit xtgt xstay xlong xlist xchosen xplace ximg xreg st xout := by
  intro d
  induction d with
  | zero =>
    intro k ou hd ho
    have e : k = 256 := by omega
    subst e
    exact br_t (by decide) (H ou ho)
  | succ d ih =>
    intro k ou hd ho
    refine br_f (nI_ge (b := 256) (by omega) (by omega)) ⟨vp_in_nI (by omega) (by omega), vp_in_nI (by omega) (by omega), nm_r (e' := upd ou k (ximg k)) (by rw [ly_cl (i := k) (by omega)]) (nm_r (nI_1 k) (ih (k + 1) _ (by omega) (fun i hi => ?_)))⟩
    by_cases e : i = k
    · subst e; exact pk_us
    · rw [pk_un e]; exact ho i (by omega)
theorem ly_begin {post : SX → Prop} {xbase xstrip xllen xtend xaend xlcnt xlrnd xlinked xblamed xouts xpc xsteps xran : Int32} {xops xA xB xcnt xrole xloc xglo xweak xuse xrep xunit xtgt xstay xlong xlist xchosen xplace ximg xreg xstore xout : Nat → Int32} {t : Nat} (ht : t < 144) (hc : xchosen 0 = nI t) (H : ∀ st rg ou : Nat → Int32, (∀ i, i < 256 → st i = ximg i) → (∀ i, i < 8 → rg i = 0) → (∀ i, i < 40 → ou i = 0) → post (xbase, xstrip, xllen, xtend, xaend, xlcnt, xlrnd, xlinked, xblamed, 0, xplace t, 0, 1, xops, xA, xB, xcnt, xrole, xloc, xglo, xweak, xuse, xrep, xunit, xtgt, xstay, xlong, xlist, xchosen, xplace, ximg, rg, st, ou)) : wpX_beginRun post (xbase, xstrip, xllen, xtend, xaend, xlcnt, xlrnd, xlinked, xblamed, xouts, xpc, xsteps, xran, xops, xA, xB, xcnt, xrole, xloc, xglo, xweak, xuse, xrep, xunit, xtgt, xstay, xlong, xlist, xchosen, xplace, ximg, xreg, xstore, xout) :=
  ⟨257, ly_b7r (H := fun st hst => ⟨9, ly_b34 (H := fun rg hrg => ⟨41, ly_b55 (ht := ht) (hc := hc) (H := fun ou hou => H st rg ou hst hrg hou) 40 0 xout (by omega) (fun i hi => by omega)⟩) 8 0 xreg (by omega) (fun i hi => by omega)⟩) 256 0 xstore (by omega) (fun i hi => by omega)⟩
theorem ly_y43 {yorg ystrip ymany yculp ytend yend ymade yrounds yentry ylinked yran ypc ysteps youts : Int32} {yops yA yB ycnt yrole ylist yplace ysym yimg ystay ywide ymem yout : Nat → Int32} : ∀ (d k : Nat) (rg : Nat → Int32), k + d = 8 → (∀ i, i < k → rg i = 0) → ∃ yrg : Nat → Int32, (∀ i, i < 8 → yrg i = 0) ∧ ∀ post : Int32 → SY → Prop, (∃ n82, wY_run_82 post n82 0 yorg ystrip ymany yculp ytend yend ymade yrounds yentry ylinked yran yentry 0 0 yops yA yB ycnt yrole ylist yplace ysym yimg ystay ywide ymem yrg yout) → wY_run_43 post yorg ystrip ymany yculp ytend yend ymade yrounds yentry ylinked yran ypc ysteps youts (d + 1) (nI k) yops yA yB ycnt yrole ylist yplace ysym yimg ystay ywide ymem rg yout := by
  intro d
  induction d with
  | zero =>
    intro k ou hd ho
    have e : k = 8 := by omega
    subst e
    exact ⟨ou, ho, fun post H => br_t (by decide) H⟩
  | succ d ih =>
    intro k ou hd ho
    obtain ⟨yrg, h1, h2⟩ := ih (k + 1) (upd ou k 0) (by omega) (fun i hi => by
      by_cases e : i = k
      · subst e; exact pk_us
      · rw [pk_un e]; exact ho i (by omega))
    exact ⟨yrg, h1, fun post H => br_f (nI_ge (b := 8) (by omega) (by omega)) ⟨vp_in_nI (by omega) (by omega), nm_r (e' := upd ou k 0) (by rw [ly_cl (i := k) (by omega)]) (nm_r (nI_1 k) (h2 post H))⟩⟩
theorem ly_y16 {yorg ystrip ymany yculp ytend yend ymade yrounds yentry ylinked yran ypc ysteps youts : Int32} {yops yA yB ycnt yrole ylist yplace ysym yimg ystay ywide yreg yout : Nat → Int32} : ∀ (d k : Nat) (m : Nat → Int32), k + d = 256 → (∀ i, i < k → m i = yimg i) → ∃ ym yrg : Nat → Int32, (∀ i, i < 256 → ym i = yimg i) ∧ (∀ i, i < 8 → yrg i = 0) ∧ ∀ post : Int32 → SY → Prop, (∃ n82, wY_run_82 post n82 0 yorg ystrip ymany yculp ytend yend ymade yrounds yentry ylinked yran yentry 0 0 yops yA yB ycnt yrole ylist yplace ysym yimg ystay ywide ym yrg yout) → wY_run_16 post yorg ystrip ymany yculp ytend yend ymade yrounds yentry ylinked yran ypc ysteps youts (d + 1) (nI k) yops yA yB ycnt yrole ylist yplace ysym yimg ystay ywide m yreg yout := by
  intro d
  induction d with
  | zero =>
    intro k ou hd ho
    have e : k = 256 := by omega
    subst e
    obtain ⟨yrg, h1, h2⟩ := ly_y43 (yorg := yorg) (ystrip := ystrip) (ymany := ymany) (yculp := yculp) (ytend := ytend) (yend := yend) (ymade := ymade) (yrounds := yrounds) (yentry := yentry) (ylinked := ylinked) (yran := yran) (ypc := ypc) (ysteps := ysteps) (youts := youts) (yops := yops) (yA := yA) (yB := yB) (ycnt := ycnt) (yrole := yrole) (ylist := ylist) (yplace := yplace) (ysym := ysym) (yimg := yimg) (ystay := ystay) (ywide := ywide) (ymem := ou) (yout := yout) 8 0 yreg (by omega) (fun i hi => by omega)
    exact ⟨ou, yrg, ho, h1, fun post H => br_t (by decide) ⟨9, h2 post H⟩⟩
  | succ d ih =>
    intro k ou hd ho
    obtain ⟨ym, yrg, h0, h1, h2⟩ := ih (k + 1) (upd ou k (yimg k)) (by omega) (fun i hi => by
      by_cases e : i = k
      · subst e; exact pk_us
      · rw [pk_un e]; exact ho i (by omega))
    exact ⟨ym, yrg, h0, h1, fun post H => br_f (nI_ge (b := 256) (by omega) (by omega)) ⟨vp_in_nI (by omega) (by omega), vp_in_nI (by omega) (by omega), nm_r (e' := upd ou k (yimg k)) (by rw [ly_cl (i := k) (by omega)]) (nm_r (nI_1 k) (h2 post H))⟩⟩
theorem i_vc_run {k : Nat} {u : SX} {v : SY} (I : i_Rel k u v) (hk : k + 5 ≤ 2560) : wpX_run (fun r u' => wpY_run (fun r' v' => r' = r ∧ i_Rel (k + 5) u' v') v) u := by
  obtain ⟨xbase, xstrip, xllen, xtend, xaend, xlcnt, xlrnd, xlinked, xblamed, xouts, xpc, xsteps, xran, xops, xA, xB, xcnt, xrole, xloc, xglo, xweak, xuse, xrep, xunit, xtgt, xstay, xlong, xlist, xchosen, xplace, ximg, xreg, xstore, xout, ymany, ytend, yend, ymade, yrounds, yentry, ylist, yplace, ysym, yimg, ystay, ywide, ymem, yreg, yout, rfl, rfl, hW, hF, hb, hr, hl⟩ := I
  have fin : i_Rel (k + 5) (xbase, xstrip, xllen, xtend, xaend, xlcnt, xlrnd, xlinked, xblamed, xouts, xpc, xsteps, xran, xops, xA, xB, xcnt, xrole, xloc, xglo, xweak, xuse, xrep, xunit, xtgt, xstay, xlong, xlist, xchosen, xplace, ximg, xreg, xstore, xout) (xbase, xstrip, ymany, xblamed, ytend, yend, ymade, yrounds, yentry, xlinked, xran, xpc, xsteps, xouts, xops, xA, xB, xcnt, xrole, ylist, yplace, ysym, yimg, ystay, ywide, ymem, yreg, yout) := ⟨xbase, xstrip, xllen, xtend, xaend, xlcnt, xlrnd, xlinked, xblamed, xouts, xpc, xsteps, xran, xops, xA, xB, xcnt, xrole, xloc, xglo, xweak, xuse, xrep, xunit, xtgt, xstay, xlong, xlist, xchosen, xplace, ximg, xreg, xstore, xout, ymany, ytend, yend, ymade, yrounds, yentry, ylist, yplace, ysym, yimg, ystay, ywide, ymem, yreg, yout, rfl, rfl, hW, hF, hb, hr, hl⟩
  unfold wpX_run
  dsimp only
  by_cases hL : xlinked = 0
  · exact br_t hL (br_t hL ⟨rfl, fin⟩)
  · obtain ⟨n, hn, en1, en2, hlist, e1, e2, e3, e4, hpl, him, hent, hch⟩ := hl hL
    obtain ⟨t, ht, ec, es⟩ : ∃ t : Nat, t < 144 ∧ xchosen 0 = nI t ∧ ysym 0 = yplace t := by
      rcases hch 0 (by omega) with ⟨_, _, h⟩ | h
      · exact absurd rfl h
      · exact h
    have epc : yentry = xplace t := by rw [hent, es]; exact (hpl t ht).symm
    refine br_f hL (ly_begin (ht := ht) (hc := ec) (H := fun st rg ou hst hrg hou => ⟨301, ?_⟩))
    obtain ⟨ym, yrg, h0, h1, h2⟩ := ly_y16 (yorg := xbase) (ystrip := xstrip) (ymany := ymany) (yculp := xblamed) (ytend := ytend) (yend := yend) (ymade := ymade) (yrounds := yrounds) (yentry := yentry) (ylinked := xlinked) (yran := 1) (ypc := xpc) (ysteps := xsteps) (youts := xouts) (yops := xops) (yA := xA) (yB := xB) (ycnt := xcnt) (yrole := xrole) (ylist := ylist) (yplace := yplace) (ysym := ysym) (yimg := yimg) (ystay := ystay) (ywide := ywide) (yreg := yreg) (yout := yout) 256 0 ymem (by omega) (fun i hi => by omega)
    rw [epc] at h2
    refine ly_loop (Q := fun r u' => wpY_run (fun r' v' => r' = r ∧ i_Rel (k + 5) u' v') (xbase, xstrip, ymany, xblamed, ytend, yend, ymade, yrounds, yentry, xlinked, xran, xpc, xsteps, xouts, xops, xA, xB, xcnt, xrole, ylist, yplace, ysym, yimg, ystay, ywide, ymem, yreg, yout)) (P := fun r u' r' v' => r' = r ∧ i_Rel (k + 5) u' v') (ymany := ymany) (ytend := ytend) (yend := yend) (ymade := ymade) (yrounds := yrounds) (yentry := xplace t) (ylist := ylist) (yplace := yplace) (ysym := ysym) (yimg := yimg) (ystay := ystay) (ywide := ywide) ?_ 300 0 0 (xplace t) rg yrg st ym ou yout (by omega) (by omega) (fun i hi => by rw [hrg i hi, h1 i hi]) (fun i hi => by rw [hst i hi, h0 i hi]; exact him i hi) (fun i hi => by rw [hou i hi, if_neg (by omega)]) ?_
    · intro r xpc s o xreg yreg xstore ymem xout yout ho hs hreg hmem hout
      refine ⟨rfl, ⟨xbase, xstrip, xllen, xtend, xaend, xlcnt, xlrnd, xlinked, xblamed, nI o, xpc, nI s, 1, xops, xA, xB, xcnt, xrole, xloc, xglo, xweak, xuse, xrep, xunit, xtgt, xstay, xlong, xlist, xchosen, xplace, ximg, xreg, xstore, xout, ymany, ytend, yend, ymade, yrounds, xplace t, ylist, yplace, ysym, yimg, ystay, ywide, ymem, yreg, yout, rfl, rfl, hW, hF, hb, ⟨hreg, hmem, o, by omega, rfl, hout⟩, fun _ => ⟨n, hn, en1, en2, hlist, e1, e2, e3, e4, hpl, him, ?_, hch⟩⟩⟩
      rw [es]; exact hpl t ht
    · intro r u' H
      subst epc
      exact br_f hL ⟨257, h2 _ H⟩

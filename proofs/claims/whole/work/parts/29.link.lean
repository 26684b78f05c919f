/-! link -/
theorem ly_GD_of {o a b cnt list : Nat → Int32} {g : Nat → Nat} {n : Nat} (hL : ly_LS o a cnt list g n) (hd : ly_ds o a b cnt g n = -1) (hu : ly_ud o a b cnt g n = -1) : ly_GD o a b cnt g n := by
  refine ⟨hL.1, fun i hi => ⟨(hL.2 i hi).1, (hL.2 i hi).2.2⟩, ?_, ?_⟩
  · rcases ly_fd_c (fun s => ly_sv o a b cnt g (nI s) n) 16 0 with ⟨_, h⟩ | ⟨j, _, j2, _, _, z⟩
    · exact fun s hs => h s (by omega) (by omega)
    · exact absurd (z.symm.trans hd) (ly_m1 (by omega))
  · rcases ly_fd_c (ly_ms o a b cnt g n) 16 0 with ⟨_, h⟩ | ⟨j, _, j2, _, _, z⟩
    · exact fun s hs => h s (by omega) (by omega)
    · exact absurd (z.symm.trans hu) (ly_m1 (by omega))
theorem ly_hU {o a b cnt loc glo wk us rp un : Nat → Int32} (hV : ly_SV o a b cnt loc glo wk us rp un 6) {g : Nat → Nat} {n t : Nat} (h : ly_th cnt g n t) : un t = nI (ly_un o a t) := by
  obtain ⟨h1, _, h3⟩ := h
  have := (hV (t / 24) (by omega)).2.2 (t % 24) h3
  rw [show 24 * (t / 24) + t % 24 = t by omega] at this
  exact this
/-- a link that failed: nothing is linked on either side -/
theorem ly_bad {k : Nat} {xbase xstrip xllen xtend xaend xlcnt xlrnd xblamed xouts xpc xsteps : Int32} {xops xA xB xcnt xrole xloc xglo xweak xuse xrep xunit xtgt xstay xlong xlist xchosen xplace ximg xreg xstore xout : Nat → Int32} {ymany ytend yend ymade yrounds yentry : Int32} {ylist yplace ysym yimg ystay ywide ymem yreg yout : Nat → Int32} (hW : ly_W xcnt) (hF : ly_F xops xA xB) (hb : ∃ b : Nat, b ≤ 100 ∧ xbase = nI b) (hr : ly_rn xouts xreg yreg xstore ymem xout yout) : i_Rel k (xbase, xstrip, xllen, xtend, xaend, xlcnt, xlrnd, 0, xblamed, xouts, xpc, xsteps, 0, xops, xA, xB, xcnt, xrole, xloc, xglo, xweak, xuse, xrep, xunit, xtgt, xstay, xlong, xlist, xchosen, xplace, ximg, xreg, xstore, xout) (xbase, xstrip, ymany, xblamed, ytend, yend, ymade, yrounds, yentry, 0, 0, xpc, xsteps, xouts, xops, xA, xB, xcnt, xrole, ylist, yplace, ysym, yimg, ystay, ywide, ymem, yreg, yout) :=
  ⟨_, _, _, _, _, _, _, _, _, _, _, _, _, _, _, _, _, _, _, _, _, _, _, _, _, _, _, _, _, _, _, _, _, _, _, _, _, _, _, _, _, _, _, _, _, _, _, _, _, rfl, rfl, hW, hF, hb, hr, fun h => absurd rfl h⟩
theorem ly_ylk {post : Int32 → SY → Prop} {ystrip ymany yculp ytend yend ymade yrounds yentry ylinked yran ypc ysteps youts : Int32} {yops yA yB ycnt yrole ylist yplace ysym yimg ystay ywide ymem yreg yout : Nat → Int32} (hW : ly_W ycnt) (hF : ly_F yops yA yB) {base : Nat} (hb : base ≤ 100) {g : Nat → Nat} {n : Nat} {f : Int32} (el : ly_ll yops yA yB ycnt yrole = (f, g, n)) {kb : Nat → Bool}
    (hkb : f = -1 → ly_ds yops yA yB ycnt g n = -1 → ly_ud yops yA yB ycnt g n = -1 → ∀ u, u < 12 → (kb u = true ↔ ly_KP yops yA yB ycnt g n ystrip u))
    (H1 : ¬ f = -1 → ∀ (ymany : Int32) (ylist : Nat → Int32), post 1 (nI base, ystrip, ymany, f, ytend, yend, ymade, yrounds, yentry, 0, 0, ypc, ysteps, youts, yops, yA, yB, ycnt, yrole, ylist, yplace, ysym, yimg, ystay, ywide, ymem, yreg, yout))
    (H2 : f = -1 → ¬ ly_ds yops yA yB ycnt g n = -1 → ∀ ylist : Nat → Int32, post 2 (nI base, ystrip, nI n, ly_ds yops yA yB ycnt g n, ytend, yend, ymade, yrounds, yentry, 0, 0, ypc, ysteps, youts, yops, yA, yB, ycnt, yrole, ylist, yplace, ysym, yimg, ystay, ywide, ymem, yreg, yout))
    (H3 : f = -1 → ly_ds yops yA yB ycnt g n = -1 → ¬ ly_ud yops yA yB ycnt g n = -1 → ∀ ylist : Nat → Int32, post 3 (nI base, ystrip, nI n, ly_ud yops yA yB ycnt g n, ytend, yend, ymade, yrounds, yentry, 0, 0, ypc, ysteps, youts, yops, yA, yB, ycnt, yrole, ylist, yplace, ysym, yimg, ystay, ywide, ymem, yreg, yout))
    (H4 : f = -1 → ly_ds yops yA yB ycnt g n = -1 → ly_ud yops yA yB ycnt g n = -1 → (ly_R0 yops yA yB ycnt kb g n base).1 = false → ∀ (ytend yend ymade yrounds : Int32) (ylist yplace ystay ywide : Nat → Int32), post 4 (nI base, ystrip, nI n, -1, ytend, yend, ymade, yrounds, yentry, 0, 0, ypc, ysteps, youts, yops, yA, yB, ycnt, yrole, ylist, yplace, ysym, yimg, ystay, ywide, ymem, yreg, yout))
    (H0 : f = -1 → ly_ds yops yA yB ycnt g n = -1 → ly_ud yops yA yB ycnt g n = -1 → (ly_R0 yops yA yB ycnt kb g n base).1 = true → ∀ (ylist yplace ysym yimg ystay ywide : Nat → Int32), ly_LS yops yA ycnt ylist g n → ly_AG 144 yplace (ly_Pw yops yA yB ycnt kb g n base (ly_R0 yops yA yB ycnt kb g n base).2.1) → (∀ s, s < 16 → ysym s = ly_sm yops yA yB ycnt g n yplace s) → ly_AG 256 yimg (ly_im yops yA yB (ly_Pw yops yA yB ycnt kb g n base (ly_R0 yops yA yB ycnt kb g n base).2.1) (ly_R0 yops yA yB ycnt kb g n base).2.1 (ly_tn yops yA yB ycnt g n) 144 (fun _ => 0)) → post 0 (nI base, ystrip, nI n, -1, nI (ly_Tw yops yA yB ycnt kb g n base (ly_R0 yops yA yB ycnt kb g n base).2.1), nI (ly_Ew yops yA yB ycnt kb g n base (ly_R0 yops yA yB ycnt kb g n base).2.1), nI (ly_R0 yops yA yB ycnt kb g n base).2.2.1, nI (ly_R0 yops yA yB ycnt kb g n base).2.2.2, ysym 0, 1, 0, ypc, ysteps, youts, yops, yA, yB, ycnt, yrole, ylist, yplace, ysym, yimg, ystay, ywide, ymem, yreg, yout)) : wpY_link post (nI base, ystrip, ymany, yculp, ytend, yend, ymade, yrounds, yentry, ylinked, yran, ypc, ysteps, youts, yops, yA, yB, ycnt, yrole, ylist, yplace, ysym, yimg, ystay, ywide, ymem, yreg, yout) := by
  refine ly_ylist (hW := hW) (hF := hF) (H1 := fun l li => ?_) (H2 := fun li => ?_)
  · rw [el]
    exact fun h => H1 h l li
  · rw [el]
    dsimp only
    intro hf hL hD
    refine ⟨17, ly_y162 (hW := hW) (hF := hF) (hL := hL) (H0 := fun P hP hv hds hud => ?_) (H3 := fun hds hud => H3 hf hds hud li) (H2 := fun hds => H2 hf hds li) 16 0 (by omega) rfl⟩
    have hG := ly_GD_of hL hds hud
    refine ly_yarr (hW := hW) (hF := hF) (hL := hL) (hG := hG) (hb := hb) (hkb := hkb hf hds hud) (H4 := fun h te e m r pl st w => ?_) (H0 := fun h pl sym img st w h1 h2 h3 => ?_)
    · exact hP _ _ _ _ _ _ _ _ _ _ _ _ _ _ _ _ _ _ _ _ _ _ _ _ _ _ _ _ _ (H4 hf hds hud h te e m r li pl st w)
    · exact hP _ _ _ _ _ _ _ _ _ _ _ _ _ _ _ _ _ _ _ _ _ _ _ _ _ _ _ _ _ (H0 hf hds hud h li pl sym img st w hL h1 h2 h3)
theorem ly_xlm2 {post : Int32 → SX → Prop} {xbase xstrip xtend xaend xlcnt xlrnd xlinked xblamed xouts xpc xsteps xran : Int32} {xops xA xB xcnt xrole xloc xglo xweak xuse xrep xunit xtgt xstay xlong xlist xchosen xplace ximg xreg xstore xout : Nat → Int32} (hV : ly_SV xops xA xB xcnt xloc xglo xweak xuse xrep xunit 6) {g : Nat → Nat} {n : Nat} {f : Int32} (el : ly_ll xops xA xB xcnt xrole = (f, g, n)) (H1 : ∀ (l : Int32) (li : Nat → Int32), ¬ f = -1 → post 1 (xbase, xstrip, l, xtend, xaend, xlcnt, xlrnd, xlinked, f, xouts, xpc, xsteps, xran, xops, xA, xB, xcnt, xrole, xloc, xglo, xweak, xuse, xrep, xunit, xtgt, xstay, xlong, li, xchosen, xplace, ximg, xreg, xstore, xout)) (H2 : ∀ li : Nat → Int32, f = -1 → ly_LS xops xA xcnt li g n → post 0 (xbase, xstrip, nI n, xtend, xaend, xlcnt, xlrnd, xlinked, xblamed, xouts, xpc, xsteps, xran, xops, xA, xB, xcnt, xrole, xloc, xglo, xweak, xuse, xrep, xunit, xtgt, xstay, xlong, li, xchosen, xplace, ximg, xreg, xstore, xout)) : wpX_listModules post (xbase, xstrip, 0, xtend, xaend, xlcnt, xlrnd, xlinked, xblamed, xouts, xpc, xsteps, xran, xops, xA, xB, xcnt, xrole, xloc, xglo, xweak, xuse, xrep, xunit, xtgt, xstay, xlong, xlist, xchosen, xplace, ximg, xreg, xstore, xout) :=
  ly_xlm (hV := hV) (H1 := by rw [el]; exact H1) (H2 := by rw [el]; exact H2)
theorem ly_xlk {post : Int32 → SX → Prop} {xstrip xllen xtend xaend xlcnt xlrnd xlinked xblamed xouts xpc xsteps xran : Int32} {xops xA xB xcnt xrole xloc xglo xweak xuse xrep xunit xtgt xstay xlong xlist xchosen xplace ximg xreg xstore xout : Nat → Int32} (hW : ly_W xcnt) (hF : ly_F xops xA xB) {base : Nat} (hb : base ≤ 100) {g : Nat → Nat} {n : Nat} {f : Int32} (el : ly_ll xops xA xB xcnt xrole = (f, g, n))
    (H1 : ¬ f = -1 → ∀ (xllen : Int32) (xloc xglo xweak xuse xrep xunit xtgt xstay xlong xlist xplace : Nat → Int32), post 1 (nI base, xstrip, xllen, xtend, xaend, 0, 0, 0, f, xouts, xpc, xsteps, 0, xops, xA, xB, xcnt, xrole, xloc, xglo, xweak, xuse, xrep, xunit, xtgt, xstay, xlong, xlist, xchosen, xplace, ximg, xreg, xstore, xout))
    (H2 : f = -1 → ¬ ly_ds xops xA xB xcnt g n = -1 → ∀ (xloc xglo xweak xuse xrep xunit xtgt xstay xlong xlist xplace : Nat → Int32), post 2 (nI base, xstrip, nI n, xtend, xaend, 0, 0, 0, ly_ds xops xA xB xcnt g n, xouts, xpc, xsteps, 0, xops, xA, xB, xcnt, xrole, xloc, xglo, xweak, xuse, xrep, xunit, xtgt, xstay, xlong, xlist, xchosen, xplace, ximg, xreg, xstore, xout))
    (H3 : f = -1 → ly_ds xops xA xB xcnt g n = -1 → ¬ ly_ud xops xA xB xcnt g n = -1 → ∀ (xloc xglo xweak xuse xrep xunit xtgt xstay xlong xlist xplace : Nat → Int32), post 3 (nI base, xstrip, nI n, xtend, xaend, 0, 0, 0, ly_ud xops xA xB xcnt g n, xouts, xpc, xsteps, 0, xops, xA, xB, xcnt, xrole, xloc, xglo, xweak, xuse, xrep, xunit, xtgt, xstay, xlong, xlist, xchosen, xplace, ximg, xreg, xstore, xout))
    (H4 : f = -1 → ly_ds xops xA xB xcnt g n = -1 → ly_ud xops xA xB xcnt g n = -1 → ∀ kb : Nat → Bool, (∀ u, u < 12 → (kb u = true ↔ ly_KP xops xA xB xcnt g n xstrip u)) → (ly_R0 xops xA xB xcnt kb g n base).1 = false → ∀ (xtend xaend xlcnt xlrnd : Int32) (xloc xglo xweak xuse xrep xunit xtgt xstay xlong xlist xchosen xplace : Nat → Int32), post 4 (nI base, xstrip, nI n, xtend, xaend, xlcnt, xlrnd, 0, -1, xouts, xpc, xsteps, 0, xops, xA, xB, xcnt, xrole, xloc, xglo, xweak, xuse, xrep, xunit, xtgt, xstay, xlong, xlist, xchosen, xplace, ximg, xreg, xstore, xout))
    (H0 : f = -1 → ly_ds xops xA xB xcnt g n = -1 → ly_ud xops xA xB xcnt g n = -1 → ∀ kb : Nat → Bool, (∀ u, u < 12 → (kb u = true ↔ ly_KP xops xA xB xcnt g n xstrip u)) → (ly_R0 xops xA xB xcnt kb g n base).1 = true → ∀ (xloc xglo xweak xuse xrep xunit xtgt xstay xlong xlist xchosen xplace ximg : Nat → Int32), ly_LS xops xA xcnt xlist g n → (∀ s, s < 16 → xchosen s = ly_co xops xA xB xcnt g n (nI s)) → ly_AG 144 xplace (ly_Pw xops xA xB xcnt kb g n base (ly_R0 xops xA xB xcnt kb g n base).2.1) → ly_AG 256 ximg (ly_im xops xA xB (ly_Pw xops xA xB xcnt kb g n base (ly_R0 xops xA xB xcnt kb g n base).2.1) (ly_R0 xops xA xB xcnt kb g n base).2.1 (ly_tn xops xA xB xcnt g n) 144 (fun _ => 0)) → post 0 (nI base, xstrip, nI n, nI (ly_Tw xops xA xB xcnt kb g n base (ly_R0 xops xA xB xcnt kb g n base).2.1), nI (ly_Ew xops xA xB xcnt kb g n base (ly_R0 xops xA xB xcnt kb g n base).2.1), nI (ly_R0 xops xA xB xcnt kb g n base).2.2.1, nI (ly_R0 xops xA xB xcnt kb g n base).2.2.2, 1, -1, xouts, xpc, xsteps, 0, xops, xA, xB, xcnt, xrole, xloc, xglo, xweak, xuse, xrep, xunit, xtgt, xstay, xlong, xlist, xchosen, xplace, ximg, xreg, xstore, xout)) : wpX_link post (nI base, xstrip, xllen, xtend, xaend, xlcnt, xlrnd, xlinked, xblamed, xouts, xpc, xsteps, xran, xops, xA, xB, xcnt, xrole, xloc, xglo, xweak, xuse, xrep, xunit, xtgt, xstay, xlong, xlist, xchosen, xplace, ximg, xreg, xstore, xout) := by
  unfold wpX_link
  dsimp only
  refine ly_forget (H := fun pl tg lo st h144 h12 => ly_survey (hW := hW) (hF := hF) (H := fun loc glo wk us rp un hV => ly_xlm2 (hV := hV) (el := el) (H1 := fun l li hf => ?_) (H2 := fun li hf hL => ?_)))
  · exact br_f (by decide) (br_f (by decide) (br_f (by decide) (H1 hf _ _ _ _ _ _ _ _ _ _ _ _)))
  · refine br_t rfl (ly_xck (hW := hW) (hF := hF) (hV := hV) (hL := hL) (H2 := fun hds => ?_) (H3 := fun hds hud => ?_) (H0 := fun hds hud => ?_))
    · exact br_f (by decide) (br_f (by decide) (H2 hf hds _ _ _ _ _ _ _ _ _ _ _))
    · exact br_f (by decide) (br_f (by decide) (H3 hf hds hud _ _ _ _ _ _ _ _ _ _ _))
    · have hG := ly_GD_of hL hds hud
      have hg : ∀ j, j < n → g j < 6 := fun j hj => (hL.2 j hj).1
      refine br_t rfl (ly_xch (hW := hW) (hL := hL) (H := fun ch hch => ly_xtg (hW := hW) (hF := hF) (hL := hL) (hch := hch) (ht0 := fun x hx => (h144 x hx).2.1) (H := fun tgt hT => ly_xku (hW := hW) (hF := hF) (hL := hL) (hG := hG) (hch := hch) (hT := hT) (hU := fun t ht => ly_hU hV ht) (h0 := h12) (H := fun stay hKS => ⟨146, ?_⟩))))
      have hkb : ∀ u, u < 12 → (ly_SS stay u = true ↔ ly_KP xops xA xB xcnt g n xstrip u) := fun u hu => by
        unfold ly_SS
        rw [decide_eq_true_eq]; exact (hKS u hu).2
      refine ly_xrx (hW := hW) (hF := hF) (hL := hL) (hG := hG) (hb := hb) (hT := hT) (hU := fun t ht => ly_hU hV ht) (kb := ly_SS stay) (hK := fun u hu => ?_) 145 0 (fun _ => 0) 0 0 xtend xaend pl lo (by omega) ⟨fun _ _ => Or.inl rfl, fun _ _ z => absurd rfl z⟩ (by omega) (fun x hx => (h144 x hx).2.2) (fun x hx _ => (h144 x hx).1) (fun hR te ae lc lr pl2 lo2 => ?_) (fun hR pl2 lo2 hpl hlo => ?_)
      · unfold ly_SS
        rw [decide_eq_false_iff_not]
        exact ⟨fun z y => y z, fun z => Decidable.not_not.mp z⟩
      · exact br_f (by decide) (H4 hf hds hud (ly_SS stay) hkb hR _ _ _ _ _ _ _ _ _ _ _ _ _ _ _ _)
      · have hR' : (ly_R0 xops xA xB xcnt (ly_SS stay) g n base).1 = true := hR
        have ok := ly_R0_ok (o := xops) (a := xA) (b := xB) (cnt := xcnt) (kb := ly_SS stay) (g := g) (n := n) (base := base) hR'
        have hpl' : ly_AG 144 pl2 (ly_Pw xops xA xB xcnt (ly_SS stay) g n base (ly_R0 xops xA xB xcnt (ly_SS stay) g n base).2.1) := hpl
        have hlo' : ly_AG 144 lo2 (ly_R0 xops xA xB xcnt (ly_SS stay) g n base).2.1 := hlo
        have hPF := ly_PF_R (o := xops) (a := xA) (b := xB) (cnt := xcnt) (kb := ly_SS stay) (g := g) (n := n) (base := base) hW hF hg ok.2
        have fin := fun img himg => H0 hf hds hud (ly_SS stay) hkb hR' loc glo wk us rp un tgt stay lo2 li ch pl2 img hL hch hpl' himg
        exact br_t rfl (ly_xfill (hW := hW) (hF := hF) (hG := hG) (hT := hT) (hP := hpl') (hw := hlo') (hv := ok.1) (hPF := hPF) (H := fin))
theorem i_vc_link {k : Nat} {u : SX} {v : SY} (I : i_Rel k u v) (hk : k + 5 ≤ 2560) : wpX_link (fun r u' => wpY_link (fun r' v' => r' = r ∧ i_Rel (k + 5) u' v') v) u := by
  obtain ⟨xbase, xstrip, xllen, xtend, xaend, xlcnt, xlrnd, xlinked, xblamed, xouts, xpc, xsteps, xran, xops, xA, xB, xcnt, xrole, xloc, xglo, xweak, xuse, xrep, xunit, xtgt, xstay, xlong, xlist, xchosen, xplace, ximg, xreg, xstore, xout, ymany, ytend, yend, ymade, yrounds, yentry, ylist, yplace, ysym, yimg, ystay, ywide, ymem, yreg, yout, rfl, rfl, hW, hF, ⟨base, hb, rfl⟩, hr, hl⟩ := I
  have hb' : ∃ b : Nat, b ≤ 100 ∧ nI base = nI b := ⟨base, hb, rfl⟩
  obtain ⟨f, g, n, el⟩ : ∃ f g n, ly_ll xops xA xB xcnt xrole = (f, g, n) := ⟨_, _, _, rfl⟩
  refine ly_xlk (hW := hW) (hF := hF) (hb := hb) (el := el) (H1 := fun hf xllen xloc xglo xweak xuse xrep xunit xtgt xstay xlong xlist xplace => ?_) (H2 := fun hf hds xloc xglo xweak xuse xrep xunit xtgt xstay xlong xlist xplace => ?_) (H3 := fun hf hds hud xloc xglo xweak xuse xrep xunit xtgt xstay xlong xlist xplace => ?_) (H4 := fun hf hds hud kb hkb hR xtend xaend xlcnt xlrnd xloc xglo xweak xuse xrep xunit xtgt xstay xlong xlist xchosen xplace => ?_) (H0 := fun hf hds hud kb hkb hR xloc xglo xweak xuse xrep xunit xtgt xstay xlong xlist xchosen xplace ximg hL hch hpl himg => ?_)
  · exact ly_ylk (hW := hW) (hF := hF) (hb := hb) (el := el) (kb := fun _ => true) (hkb := fun h => absurd h hf) (H1 := fun _ ymany ylist => ⟨rfl, ly_bad (hW := hW) (hF := hF) (hb := hb') (hr := hr)⟩) (H2 := fun h => absurd h hf) (H3 := fun h => absurd h hf) (H4 := fun h => absurd h hf) (H0 := fun h => absurd h hf)
  · exact ly_ylk (hW := hW) (hF := hF) (hb := hb) (el := el) (kb := fun _ => true) (hkb := fun _ h => absurd h hds) (H1 := fun h => absurd hf h) (H2 := fun _ _ ylist => ⟨rfl, ly_bad (hW := hW) (hF := hF) (hb := hb') (hr := hr)⟩) (H3 := fun _ h => absurd h hds) (H4 := fun _ h => absurd h hds) (H0 := fun _ h => absurd h hds)
  · exact ly_ylk (hW := hW) (hF := hF) (hb := hb) (el := el) (kb := fun _ => true) (hkb := fun _ _ h => absurd h hud) (H1 := fun h => absurd hf h) (H2 := fun _ h => absurd hds h) (H3 := fun _ _ _ ylist => ⟨rfl, ly_bad (hW := hW) (hF := hF) (hb := hb') (hr := hr)⟩) (H4 := fun _ _ h => absurd h hud) (H0 := fun _ _ h => absurd h hud)
  · exact ly_ylk (hW := hW) (hF := hF) (hb := hb) (el := el) (kb := kb) (hkb := fun _ _ _ => hkb) (H1 := fun h => absurd hf h) (H2 := fun _ h => absurd hds h) (H3 := fun _ _ h => absurd hud h) (H4 := fun _ _ _ _ ytend yend ymade yrounds ylist yplace ystay ywide => ⟨rfl, ly_bad (hW := hW) (hF := hF) (hb := hb') (hr := hr)⟩) (H0 := fun _ _ _ h => absurd (h.symm.trans hR) (by decide))
  · have hg : ∀ j, j < n → g j < 6 := fun j hj => (hL.2 j hj).1
    have hG := ly_GD_of hL hds hud
    refine ly_ylk (hW := hW) (hF := hF) (hb := hb) (el := el) (kb := kb) (hkb := fun _ _ _ => hkb) (H1 := fun h => absurd hf h) (H2 := fun _ h => absurd hds h) (H3 := fun _ _ h => absurd hud h) (H4 := fun _ _ _ h => absurd (h.symm.trans hR) (by decide)) (H0 := fun _ _ _ _ ylist yplace ysym yimg ystay ywide hLy hply hsym himgy => ⟨rfl, ?_⟩)
    refine ⟨_, _, _, _, _, _, _, _, _, _, _, _, _, _, _, _, _, _, _, _, _, _, _, _, _, _, _, _, _, _, _, _, _, _, _, _, _, _, _, _, _, _, _, _, _, _, _, _, _, rfl, rfl, hW, hF, hb', hr, fun _ => ⟨n, hL.1, rfl, rfl, fun i hi => ?_, rfl, rfl, rfl, rfl, fun i hi => ?_, fun i hi => ?_, rfl, fun s hs => ?_⟩⟩
    · rw [(hL.2 i hi).2.1, (hLy.2 i hi).2.1]
    · rw [hply i hi]; exact hpl i hi
    · rw [himgy i hi]; exact himg i hi
    · rw [hch s hs, hsym s hs]
      unfold ly_sm
      rcases ly_co_c (o := xops) (a := xA) (b := xB) hW hg (nI s) with z | ⟨j, q, _, _, _, hq, z⟩
      · refine Or.inl ⟨z, if_pos z, fun e => ?_⟩
        subst e
        have hen := (ly_en_t hW hG).2
        have z' : ly_co xops xA xB xcnt g n 0 = -1 := z
        rw [z'] at hen
        have ht := (ly_en_t (a := xA) (b := xB) hW hG).1.1
        exact absurd hen.symm (ly_m1 (by omega))
      · rw [z]
        exact Or.inr ⟨q, hq, rfl, by rw [if_neg (ly_m1 (by omega)), nI_clamp (by omega)]⟩

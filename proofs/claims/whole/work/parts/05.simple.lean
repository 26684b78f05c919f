/-! the small methods -/
theorem ly_xfN {post : Int32 → Prop} {o a b : Int32} (h : o < 0 ∨ nI 20 ≤ o) (hp : post 0) : wpX_operandsFit post o a b := by
  unfold wpX_operandsFit
  rcases h with h | h
  · exact br_t h hp
  · refine br_c (fun _ => hp) (fun h0 => br_t ?_ hp)
    obtain ⟨j, hj, rfl⟩ := nI_of h0
    rw [nI_leI (by omega) hj] at h
    exact nI_lt (a := 19) (by omega) hj
theorem ly_yfN {post : Int32 → Prop} {o a b : Int32} (h : o < 0 ∨ nI 20 ≤ o) (hp : post 0) : wpY_fits post o a b := by
  unfold wpY_fits
  exact ly_yi0 19 (by omega) h (br_t rfl hp)
theorem i_vc_item {k : Nat} {u : SX} {v : SY} (I : i_Rel k u v) (hk : k + 5 ≤ 2560) (v1 : Int32) (v2 : Int32) (v3 : Int32) (v4 : Int32) : wpX_item (fun r u' => wpY_item (fun r' v' => r' = r ∧ i_Rel (k + 5) u' v') v v1 v2 v3 v4) u v1 v2 v3 v4 := by
  obtain ⟨xbase, xstrip, xllen, xtend, xaend, xlcnt, xlrnd, xlinked, xblamed, xouts, xpc, xsteps, xran, xops, xA, xB, xcnt, xrole, xloc, xglo, xweak, xuse, xrep, xunit, xtgt, xstay, xlong, xlist, xchosen, xplace, ximg, xreg, xstore, xout, ymany, ytend, yend, ymade, yrounds, yentry, ylist, yplace, ysym, yimg, ystay, ywide, ymem, yreg, yout, rfl, rfl, hW, hF, hb, hr, hl⟩ := I
  have fin : i_Rel (k + 5) (xbase, xstrip, xllen, xtend, xaend, xlcnt, xlrnd, xlinked, xblamed, xouts, xpc, xsteps, xran, xops, xA, xB, xcnt, xrole, xloc, xglo, xweak, xuse, xrep, xunit, xtgt, xstay, xlong, xlist, xchosen, xplace, ximg, xreg, xstore, xout) (xbase, xstrip, ymany, xblamed, ytend, yend, ymade, yrounds, yentry, xlinked, xran, xpc, xsteps, xouts, xops, xA, xB, xcnt, xrole, ylist, yplace, ysym, yimg, ystay, ywide, ymem, yreg, yout) := ⟨xbase, xstrip, xllen, xtend, xaend, xlcnt, xlrnd, xlinked, xblamed, xouts, xpc, xsteps, xran, xops, xA, xB, xcnt, xrole, xloc, xglo, xweak, xuse, xrep, xunit, xtgt, xstay, xlong, xlist, xchosen, xplace, ximg, xreg, xstore, xout, ymany, ytend, yend, ymade, yrounds, yentry, ylist, yplace, ysym, yimg, ystay, ywide, ymem, yreg, yout, rfl, rfl, hW, hF, hb, hr, hl⟩
  unfold wpX_item wpY_item
  dsimp only
  rcases ly_ix3 v1 (n := 6) (by omega) with h6 | ⟨m, hm, rfl⟩
  · exact ly_xmod0 h6 (br_t rfl (ly_ymod0 h6 (br_t rfl ⟨rfl, fin⟩)))
  · refine ly_xmod1 hm (br_f (by decide) ?_)
    rcases ly_ix3 v2 (n := 20) (by omega) with ho | ⟨op, hop, rfl⟩
    · exact ly_xfN ho (br_t rfl (ly_ymod1 hm (br_f (by decide) (ly_yfN ho (br_t rfl ⟨rfl, fin⟩)))))
    · refine ly_xfA (by omega) (fun r r01 r1 => ?_)
      rcases r01 with rfl | rfl
      · refine br_t rfl (ly_ymod1 hm (br_f (by decide) (ly_yfA (by omega) (fun r' r01' r1' => ?_))))
        rcases r01' with rfl | rfl
        · exact br_t rfl ⟨rfl, fin⟩
        · exact absurd (r1.mpr (r1'.mp rfl)) (by decide)
      · have hft := ly_ok_ft (a := v3) (b := v4) (by omega) (r1.mp rfl)
        obtain ⟨hc, ec⟩ := hW m hm
        have em : (nI m).toNatClampNeg = m := nI_clamp (by omega)
        have ec' : xcnt (nI m).toNatClampNeg = nI (ly_c xcnt m) := by rw [em]; exact ec
        have yy : ∀ (post : Int32 → Prop), post 1 → wpY_fits post (nI op) v3 v4 := by
          intro post hp
          refine ly_yfA (by omega) (fun r' r01' r1' => ?_)
          rcases r01' with rfl | rfl
          · exact absurd (r1'.mpr (r1.mp rfl)) (by decide)
          · exact hp
        refine br_f (by decide) ⟨vp_in_nI hm (by omega), ?_⟩
        by_cases hlt : ly_c xcnt m < 24
        · have hi : 24 * m + ly_c xcnt m < 144 := by omega
          have ei : (nI (24 * m + ly_c xcnt m)).toNatClampNeg = 24 * m + ly_c xcnt m := nI_clamp (by omega)
          refine br_t (by rw [ec']; exact nI_lt (b := 24) hlt (by omega)) ⟨vp_in_nI hm (by omega), nm_r ec' (nm_r (ly_idx _ _) ⟨vp_in_nI hi (by omega), nm_r (congrArg (fun z => upd xops z (nI op)) ei) ⟨vp_in_nI hi (by omega), nm_r (congrArg (fun z => upd xA z v3) ei) ⟨vp_in_nI hi (by omega), nm_r (congrArg (fun z => upd xB z v4) ei) ⟨vp_in_nI hm (by omega), nm_r (e' := upd xcnt m (nI (ly_c xcnt m + 1))) (by rw [em, nI_1]) ?_⟩⟩⟩⟩)⟩
          refine ly_ymod1 hm (br_f (by decide) (yy _ (br_f (by decide) ⟨vp_in_nI hm (by omega), br_f (by rw [ec']; exact fun z => by have := ly_inj (b := 24) (by omega) (by omega) z; omega) ⟨vp_in_nI hm (by omega), nm_r (e' := nI (24 * m + ly_c xcnt m)) (by rw [ec', ly_idy, nI_add]) ⟨vp_in_nI hi (by omega), nm_r (congrArg (fun z => upd xops z (nI op)) ei) ⟨vp_in_nI hi (by omega), nm_r (congrArg (fun z => upd xA z v3) ei) ⟨vp_in_nI hi (by omega), nm_r (congrArg (fun z => upd xB z v4) ei) ⟨vp_in_nI hm (by omega), vp_in_nI hm (by omega), nm_r (e' := upd xcnt m (nI (ly_c xcnt m + 1))) (by rw [ec', em, nI_1]) ⟨vp_in_nI hm (by omega), ?_, ?_⟩⟩⟩⟩⟩⟩⟩)))
          · rw [em, pk_us, nI_pred]
          · exact ⟨xbase, xstrip, xllen, xtend, xaend, xlcnt, xlrnd, xlinked, xblamed, xouts, xpc, xsteps, xran, upd xops (24 * m + ly_c xcnt m) (nI op), upd xA (24 * m + ly_c xcnt m) v3, upd xB (24 * m + ly_c xcnt m) v4, upd xcnt m (nI (ly_c xcnt m + 1)), xrole, xloc, xglo, xweak, xuse, xrep, xunit, xtgt, xstay, xlong, xlist, xchosen, xplace, ximg, xreg, xstore, xout, ymany, ytend, yend, ymade, yrounds, yentry, ylist, yplace, ysym, yimg, ystay, ywide, ymem, yreg, yout, rfl, rfl, ly_W_upd hW (by omega), ly_F_upd hF hft _, hb, hr, hl⟩
        · refine br_f (by rw [ec']; exact nI_nlt (b := 24) (by omega) (by omega)) (ly_ymod1 hm (br_f (by decide) (yy _ (br_f (by decide) ⟨vp_in_nI hm (by omega), br_t (by rw [ec', show ly_c xcnt m = 24 by omega]; rfl) ⟨rfl, fin⟩⟩))))

theorem i_vc_clear {k : Nat} {u : SX} {v : SY} (I : i_Rel k u v) (hk : k + 5 ≤ 2560) (v1 : Int32) : wpX_clear (fun r u' => wpY_clear (fun r' v' => r' = r ∧ i_Rel (k + 5) u' v') v v1) u v1 := by
  obtain ⟨xbase, xstrip, xllen, xtend, xaend, xlcnt, xlrnd, xlinked, xblamed, xouts, xpc, xsteps, xran, xops, xA, xB, xcnt, xrole, xloc, xglo, xweak, xuse, xrep, xunit, xtgt, xstay, xlong, xlist, xchosen, xplace, ximg, xreg, xstore, xout, ymany, ytend, yend, ymade, yrounds, yentry, ylist, yplace, ysym, yimg, ystay, ywide, ymem, yreg, yout, rfl, rfl, hW, hF, hb, hr, hl⟩ := I
  have fin : i_Rel (k + 5) (xbase, xstrip, xllen, xtend, xaend, xlcnt, xlrnd, xlinked, xblamed, xouts, xpc, xsteps, xran, xops, xA, xB, xcnt, xrole, xloc, xglo, xweak, xuse, xrep, xunit, xtgt, xstay, xlong, xlist, xchosen, xplace, ximg, xreg, xstore, xout) (xbase, xstrip, ymany, xblamed, ytend, yend, ymade, yrounds, yentry, xlinked, xran, xpc, xsteps, xouts, xops, xA, xB, xcnt, xrole, ylist, yplace, ysym, yimg, ystay, ywide, ymem, yreg, yout) := ⟨xbase, xstrip, xllen, xtend, xaend, xlcnt, xlrnd, xlinked, xblamed, xouts, xpc, xsteps, xran, xops, xA, xB, xcnt, xrole, xloc, xglo, xweak, xuse, xrep, xunit, xtgt, xstay, xlong, xlist, xchosen, xplace, ximg, xreg, xstore, xout, ymany, ytend, yend, ymade, yrounds, yentry, ylist, yplace, ysym, yimg, ystay, ywide, ymem, yreg, yout, rfl, rfl, hW, hF, hb, hr, hl⟩
  unfold wpX_clear wpY_clear
  dsimp only
  rcases ly_ix3 v1 (n := 6) (by omega) with h6 | ⟨m, hm, rfl⟩
  · exact ly_xmod0 h6 (br_t rfl (ly_ymod0 h6 (br_t rfl ⟨rfl, fin⟩)))
  · have em : (nI m).toNatClampNeg = m := nI_clamp (by omega)
    refine ly_xmod1 hm (br_f (by decide) ⟨vp_in_nI hm (by omega), nm_e ⟨vp_in_nI hm (by omega), nm_r (e' := upd xcnt m (nI 0)) (by rw [em]; rfl) ?_⟩⟩)
    refine ly_ymod1 hm (br_f (by decide) ⟨vp_in_nI hm (by omega), nm_e ⟨vp_in_nI hm (by omega), nm_r (e' := upd xcnt m (nI 0)) (by rw [em]; rfl) ⟨rfl, ?_⟩⟩⟩)
    exact ⟨xbase, xstrip, xllen, xtend, xaend, xlcnt, xlrnd, xlinked, xblamed, xouts, xpc, xsteps, xran, xops, xA, xB, upd xcnt m (nI 0), xrole, xloc, xglo, xweak, xuse, xrep, xunit, xtgt, xstay, xlong, xlist, xchosen, xplace, ximg, xreg, xstore, xout, ymany, ytend, yend, ymade, yrounds, yentry, ylist, yplace, ysym, yimg, ystay, ywide, ymem, yreg, yout, rfl, rfl, ly_W_upd hW (by omega), hF, hb, hr, hl⟩
theorem i_vc_role {k : Nat} {u : SX} {v : SY} (I : i_Rel k u v) (hk : k + 5 ≤ 2560) (v1 : Int32) (v2 : Int32) : wpX_role (fun r u' => wpY_role (fun r' v' => r' = r ∧ i_Rel (k + 5) u' v') v v1 v2) u v1 v2 := by
  obtain ⟨xbase, xstrip, xllen, xtend, xaend, xlcnt, xlrnd, xlinked, xblamed, xouts, xpc, xsteps, xran, xops, xA, xB, xcnt, xrole, xloc, xglo, xweak, xuse, xrep, xunit, xtgt, xstay, xlong, xlist, xchosen, xplace, ximg, xreg, xstore, xout, ymany, ytend, yend, ymade, yrounds, yentry, ylist, yplace, ysym, yimg, ystay, ywide, ymem, yreg, yout, rfl, rfl, hW, hF, hb, hr, hl⟩ := I
  have fin : i_Rel (k + 5) (xbase, xstrip, xllen, xtend, xaend, xlcnt, xlrnd, xlinked, xblamed, xouts, xpc, xsteps, xran, xops, xA, xB, xcnt, xrole, xloc, xglo, xweak, xuse, xrep, xunit, xtgt, xstay, xlong, xlist, xchosen, xplace, ximg, xreg, xstore, xout) (xbase, xstrip, ymany, xblamed, ytend, yend, ymade, yrounds, yentry, xlinked, xran, xpc, xsteps, xouts, xops, xA, xB, xcnt, xrole, ylist, yplace, ysym, yimg, ystay, ywide, ymem, yreg, yout) := ⟨xbase, xstrip, xllen, xtend, xaend, xlcnt, xlrnd, xlinked, xblamed, xouts, xpc, xsteps, xran, xops, xA, xB, xcnt, xrole, xloc, xglo, xweak, xuse, xrep, xunit, xtgt, xstay, xlong, xlist, xchosen, xplace, ximg, xreg, xstore, xout, ymany, ytend, yend, ymade, yrounds, yentry, ylist, yplace, ysym, yimg, ystay, ywide, ymem, yreg, yout, rfl, rfl, hW, hF, hb, hr, hl⟩
  unfold wpX_role wpY_role
  dsimp only
  rcases ly_ix3 v1 (n := 6) (by omega) with h6 | ⟨m, hm, rfl⟩
  · exact ly_xmod0 h6 (br_t rfl (ly_ymod0 h6 (br_t rfl ⟨rfl, fin⟩)))
  · refine ly_xmod1 hm (br_f (by decide) ?_)
    rcases ly_ix3 v2 (n := 3) (by omega) with h3 | ⟨h, hh, rfl⟩
    · have hy : ∀ post : Int32 → Prop, post 0 → wpY_in post v2 0 2 := fun post hp => ly_yi0 2 (by omega) h3 hp
      have E := ly_ymod1 (post := fun r_1 => (r_1 = 0 → (0 : Int32) = 0 ∧ i_Rel (k + 5) (xbase, xstrip, xllen, xtend, xaend, xlcnt, xlrnd, xlinked, xblamed, xouts, xpc, xsteps, xran, xops, xA, xB, xcnt, xrole, xloc, xglo, xweak, xuse, xrep, xunit, xtgt, xstay, xlong, xlist, xchosen, xplace, ximg, xreg, xstore, xout) (xbase, xstrip, ymany, xblamed, ytend, yend, ymade, yrounds, yentry, xlinked, xran, xpc, xsteps, xouts, xops, xA, xB, xcnt, xrole, ylist, yplace, ysym, yimg, ystay, ywide, ymem, yreg, yout)) ∧ (¬ r_1 = 0 → wpY_in (fun r_3 => (r_3 = 0 → (0 : Int32) = 0 ∧ i_Rel (k + 5) (xbase, xstrip, xllen, xtend, xaend, xlcnt, xlrnd, xlinked, xblamed, xouts, xpc, xsteps, xran, xops, xA, xB, xcnt, xrole, xloc, xglo, xweak, xuse, xrep, xunit, xtgt, xstay, xlong, xlist, xchosen, xplace, ximg, xreg, xstore, xout) (xbase, xstrip, ymany, xblamed, ytend, yend, ymade, yrounds, yentry, xlinked, xran, xpc, xsteps, xouts, xops, xA, xB, xcnt, xrole, ylist, yplace, ysym, yimg, ystay, ywide, ymem, yreg, yout)) ∧ (¬ r_3 = 0 → vp_in (nI m) 6 ∧ ∀ a : Nat → Int32, a = upd xrole (nI m).toNatClampNeg v2 → (1 : Int32) = 0 ∧ i_Rel (k + 5) (xbase, xstrip, xllen, xtend, xaend, xlcnt, xlrnd, xlinked, xblamed, xouts, xpc, xsteps, xran, xops, xA, xB, xcnt, xrole, xloc, xglo, xweak, xuse, xrep, xunit, xtgt, xstay, xlong, xlist, xchosen, xplace, ximg, xreg, xstore, xout) (xbase, xstrip, ymany, xblamed, ytend, yend, ymade, yrounds, yentry, xlinked, xran, xpc, xsteps, xouts, xops, xA, xB, xcnt, a, ylist, yplace, ysym, yimg, ystay, ywide, ymem, yreg, yout))) v2 0 2)) hm (br_f (by decide) (hy _ (br_t rfl ⟨rfl, fin⟩)))
      rcases h3 with h3 | h3
      · exact br_t h3 E
      · refine br_c (fun _ => E) (fun h0 => br_f ?_ E)
        obtain ⟨j, hj, rfl⟩ := nI_of h0
        rw [nI_leI (by omega) hj] at h3
        exact nI_ge (a := 2) (by omega) hj
    · refine br_f (nI_pos (by omega)) (br_t (nI_le (b := 2) (by omega) (by omega)) ⟨vp_in_nI hm (by omega), nm_e ?_⟩)
      refine ly_ymod1 hm (br_f (by decide) (ly_yi1 2 hh (by omega) (br_f (by decide) ⟨vp_in_nI hm (by omega), nm_e ⟨rfl, ?_⟩⟩)))
      exact ⟨xbase, xstrip, xllen, xtend, xaend, xlcnt, xlrnd, xlinked, xblamed, xouts, xpc, xsteps, xran, xops, xA, xB, xcnt, upd xrole (nI m).toNatClampNeg (nI h), xloc, xglo, xweak, xuse, xrep, xunit, xtgt, xstay, xlong, xlist, xchosen, xplace, ximg, xreg, xstore, xout, ymany, ytend, yend, ymade, yrounds, yentry, ylist, yplace, ysym, yimg, ystay, ywide, ymem, yreg, yout, rfl, rfl, hW, hF, hb, hr, hl⟩
theorem i_vc_layout {k : Nat} {u : SX} {v : SY} (I : i_Rel k u v) (hk : k + 5 ≤ 2560) (v1 : Int32) (v2 : Int32) : wpX_layout (fun r u' => wpY_layout (fun r' v' => r' = r ∧ i_Rel (k + 5) u' v') v v1 (lw_bz v2)) u v1 (lw_bz v2) := by
  obtain ⟨xbase, xstrip, xllen, xtend, xaend, xlcnt, xlrnd, xlinked, xblamed, xouts, xpc, xsteps, xran, xops, xA, xB, xcnt, xrole, xloc, xglo, xweak, xuse, xrep, xunit, xtgt, xstay, xlong, xlist, xchosen, xplace, ximg, xreg, xstore, xout, ymany, ytend, yend, ymade, yrounds, yentry, ylist, yplace, ysym, yimg, ystay, ywide, ymem, yreg, yout, rfl, rfl, hW, hF, hb, hr, hl⟩ := I
  have fin : i_Rel (k + 5) (xbase, xstrip, xllen, xtend, xaend, xlcnt, xlrnd, xlinked, xblamed, xouts, xpc, xsteps, xran, xops, xA, xB, xcnt, xrole, xloc, xglo, xweak, xuse, xrep, xunit, xtgt, xstay, xlong, xlist, xchosen, xplace, ximg, xreg, xstore, xout) (xbase, xstrip, ymany, xblamed, ytend, yend, ymade, yrounds, yentry, xlinked, xran, xpc, xsteps, xouts, xops, xA, xB, xcnt, xrole, ylist, yplace, ysym, yimg, ystay, ywide, ymem, yreg, yout) := ⟨xbase, xstrip, xllen, xtend, xaend, xlcnt, xlrnd, xlinked, xblamed, xouts, xpc, xsteps, xran, xops, xA, xB, xcnt, xrole, xloc, xglo, xweak, xuse, xrep, xunit, xtgt, xstay, xlong, xlist, xchosen, xplace, ximg, xreg, xstore, xout, ymany, ytend, yend, ymade, yrounds, yentry, ylist, yplace, ysym, yimg, ystay, ywide, ymem, yreg, yout, rfl, rfl, hW, hF, hb, hr, hl⟩
  unfold wpX_layout wpY_layout
  dsimp only
  rcases ly_ix3 v1 (n := 101) (by omega) with h3 | ⟨b, hb', rfl⟩
  · have E : ∀ P : Prop, wpY_in (fun r_1 => (r_1 = 0 → (0 : Int32) = 0 ∧ i_Rel (k + 5) (xbase, xstrip, xllen, xtend, xaend, xlcnt, xlrnd, xlinked, xblamed, xouts, xpc, xsteps, xran, xops, xA, xB, xcnt, xrole, xloc, xglo, xweak, xuse, xrep, xunit, xtgt, xstay, xlong, xlist, xchosen, xplace, ximg, xreg, xstore, xout) (xbase, xstrip, ymany, xblamed, ytend, yend, ymade, yrounds, yentry, xlinked, xran, xpc, xsteps, xouts, xops, xA, xB, xcnt, xrole, ylist, yplace, ysym, yimg, ystay, ywide, ymem, yreg, yout)) ∧ (¬ r_1 = 0 → P)) v1 0 100 := fun P => ly_yi0 (post := fun r_1 => (r_1 = 0 → (0 : Int32) = 0 ∧ i_Rel (k + 5) (xbase, xstrip, xllen, xtend, xaend, xlcnt, xlrnd, xlinked, xblamed, xouts, xpc, xsteps, xran, xops, xA, xB, xcnt, xrole, xloc, xglo, xweak, xuse, xrep, xunit, xtgt, xstay, xlong, xlist, xchosen, xplace, ximg, xreg, xstore, xout) (xbase, xstrip, ymany, xblamed, ytend, yend, ymade, yrounds, yentry, xlinked, xran, xpc, xsteps, xouts, xops, xA, xB, xcnt, xrole, ylist, yplace, ysym, yimg, ystay, ywide, ymem, yreg, yout)) ∧ (¬ r_1 = 0 → P)) 100 (by omega) h3 (br_t rfl ⟨rfl, fin⟩)
    rcases h3 with h3 | h3
    · exact br_t h3 (E _)
    · refine br_c (fun _ => E _) (fun h0 => br_f ?_ (E _))
      obtain ⟨j, hj, rfl⟩ := nI_of h0
      rw [nI_leI (by omega) hj] at h3
      exact nI_ge (a := 100) (by omega) hj
  · refine br_f (nI_pos (by omega)) (br_t (nI_le (b := 100) (by omega) (by omega)) ⟨lw_bz_n v2, ly_fitb (lw_bz_01 v2), ?_⟩)
    refine ly_yi1 100 hb' (by omega) (br_f (by decide) ⟨lw_bz_n v2, ly_fitb (lw_bz_01 v2), rfl, ?_⟩)
    exact ⟨nI b, lw_bz v2, xllen, xtend, xaend, xlcnt, xlrnd, xlinked, xblamed, xouts, xpc, xsteps, xran, xops, xA, xB, xcnt, xrole, xloc, xglo, xweak, xuse, xrep, xunit, xtgt, xstay, xlong, xlist, xchosen, xplace, ximg, xreg, xstore, xout, ymany, ytend, yend, ymade, yrounds, yentry, ylist, yplace, ysym, yimg, ystay, ywide, ymem, yreg, yout, rfl, rfl, hW, hF, ⟨b, by omega, rfl⟩, hr, hl⟩
theorem i_vc_culprit {k : Nat} {u : SX} {v : SY} (I : i_Rel k u v) (hk : k + 5 ≤ 2560) : wpX_culprit (fun r => wpY_culprit (fun r' => r' = r ∧ i_Rel (k + 5) u v) v) u := by
  obtain ⟨xbase, xstrip, xllen, xtend, xaend, xlcnt, xlrnd, xlinked, xblamed, xouts, xpc, xsteps, xran, xops, xA, xB, xcnt, xrole, xloc, xglo, xweak, xuse, xrep, xunit, xtgt, xstay, xlong, xlist, xchosen, xplace, ximg, xreg, xstore, xout, ymany, ytend, yend, ymade, yrounds, yentry, ylist, yplace, ysym, yimg, ystay, ywide, ymem, yreg, yout, rfl, rfl, hW, hF, hb, hr, hl⟩ := I
  exact ⟨rfl, ⟨xbase, xstrip, xllen, xtend, xaend, xlcnt, xlrnd, xlinked, xblamed, xouts, xpc, xsteps, xran, xops, xA, xB, xcnt, xrole, xloc, xglo, xweak, xuse, xrep, xunit, xtgt, xstay, xlong, xlist, xchosen, xplace, ximg, xreg, xstore, xout, ymany, ytend, yend, ymade, yrounds, yentry, ylist, yplace, ysym, yimg, ystay, ywide, ymem, yreg, yout, rfl, rfl, hW, hF, hb, hr, hl⟩⟩

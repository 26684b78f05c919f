/-! the methods that only read -/
theorem ly_ngt {x : Int32} {N : Nat} (hN : N + 1 < 2 ^ 31) (h : nI (N + 1) ≤ x) (h0 : ¬ x < 0) : nI N < x := by
  obtain ⟨j, hj, rfl⟩ := nI_of h0
  rw [nI_leI hN hj] at h
  exact nI_lt (by omega) hj
theorem i_vc_listed {k : Nat} {u : SX} {v : SY} (I : i_Rel k u v) (hk : k + 5 ≤ 2560) (v1 : Int32) : wpX_listed (fun r => wpY_listed (fun r' => r' = r ∧ i_Rel (k + 5) u v) v v1) u v1 := by
  obtain ⟨xbase, xstrip, xllen, xtend, xaend, xlcnt, xlrnd, xlinked, xblamed, xouts, xpc, xsteps, xran, xops, xA, xB, xcnt, xrole, xloc, xglo, xweak, xuse, xrep, xunit, xtgt, xstay, xlong, xlist, xchosen, xplace, ximg, xreg, xstore, xout, ymany, ytend, yend, ymade, yrounds, yentry, ylist, yplace, ysym, yimg, ystay, ywide, ymem, yreg, yout, rfl, rfl, hW, hF, hb, hr, hl⟩ := I
  have fin : i_Rel (k + 5) (xbase, xstrip, xllen, xtend, xaend, xlcnt, xlrnd, xlinked, xblamed, xouts, xpc, xsteps, xran, xops, xA, xB, xcnt, xrole, xloc, xglo, xweak, xuse, xrep, xunit, xtgt, xstay, xlong, xlist, xchosen, xplace, ximg, xreg, xstore, xout) (xbase, xstrip, ymany, xblamed, ytend, yend, ymade, yrounds, yentry, xlinked, xran, xpc, xsteps, xouts, xops, xA, xB, xcnt, xrole, ylist, yplace, ysym, yimg, ystay, ywide, ymem, yreg, yout) := ⟨xbase, xstrip, xllen, xtend, xaend, xlcnt, xlrnd, xlinked, xblamed, xouts, xpc, xsteps, xran, xops, xA, xB, xcnt, xrole, xloc, xglo, xweak, xuse, xrep, xunit, xtgt, xstay, xlong, xlist, xchosen, xplace, ximg, xreg, xstore, xout, ymany, ytend, yend, ymade, yrounds, yentry, ylist, yplace, ysym, yimg, ystay, ywide, ymem, yreg, yout, rfl, rfl, hW, hF, hb, hr, hl⟩
  unfold wpX_listed wpY_listed
  dsimp only
  by_cases hL : xlinked = 0
  · exact br_t hL (br_t hL ⟨rfl, fin⟩)
  · obtain ⟨n, hn, rfl, rfl, hlist, _⟩ := hl hL
    rcases ly_ix3 v1 (n := n) (by omega) with h | ⟨j, hj, rfl⟩
    · rcases h with h | h
      · exact br_f hL (br_t h (br_f hL (br_t h ⟨rfl, fin⟩)))
      · exact br_f hL (br_c (fun h0 => br_f hL (br_t h0 ⟨rfl, fin⟩)) (fun h0 => br_f (Int32.not_lt.mpr h) (br_f hL (br_f h0 (br_t h ⟨rfl, fin⟩)))))
    · refine br_f hL (br_f (nI_pos (by omega)) (br_t (nI_lt hj (by omega)) ⟨vp_in_nI (by omega) (by omega), br_f hL (br_f (nI_pos (by omega)) (br_f (nI_ge hj (by omega)) ⟨vp_in_nI (by omega) (by omega), ?_, fin⟩))⟩))
      rw [ly_cl (by omega)]; exact (hlist j hj).symm
theorem i_vc_address {k : Nat} {u : SX} {v : SY} (I : i_Rel k u v) (hk : k + 5 ≤ 2560) (v1 : Int32) : wpX_address (fun r => wpY_address (fun r' => r' = r ∧ i_Rel (k + 5) u v) v v1) u v1 := by
  obtain ⟨xbase, xstrip, xllen, xtend, xaend, xlcnt, xlrnd, xlinked, xblamed, xouts, xpc, xsteps, xran, xops, xA, xB, xcnt, xrole, xloc, xglo, xweak, xuse, xrep, xunit, xtgt, xstay, xlong, xlist, xchosen, xplace, ximg, xreg, xstore, xout, ymany, ytend, yend, ymade, yrounds, yentry, ylist, yplace, ysym, yimg, ystay, ywide, ymem, yreg, yout, rfl, rfl, hW, hF, hb, hr, hl⟩ := I
  have fin : i_Rel (k + 5) (xbase, xstrip, xllen, xtend, xaend, xlcnt, xlrnd, xlinked, xblamed, xouts, xpc, xsteps, xran, xops, xA, xB, xcnt, xrole, xloc, xglo, xweak, xuse, xrep, xunit, xtgt, xstay, xlong, xlist, xchosen, xplace, ximg, xreg, xstore, xout) (xbase, xstrip, ymany, xblamed, ytend, yend, ymade, yrounds, yentry, xlinked, xran, xpc, xsteps, xouts, xops, xA, xB, xcnt, xrole, ylist, yplace, ysym, yimg, ystay, ywide, ymem, yreg, yout) := ⟨xbase, xstrip, xllen, xtend, xaend, xlcnt, xlrnd, xlinked, xblamed, xouts, xpc, xsteps, xran, xops, xA, xB, xcnt, xrole, xloc, xglo, xweak, xuse, xrep, xunit, xtgt, xstay, xlong, xlist, xchosen, xplace, ximg, xreg, xstore, xout, ymany, ytend, yend, ymade, yrounds, yentry, ylist, yplace, ysym, yimg, ystay, ywide, ymem, yreg, yout, rfl, rfl, hW, hF, hb, hr, hl⟩
  unfold wpX_address wpY_address
  dsimp only
  by_cases hL : xlinked = 0
  · exact br_t hL (br_t hL ⟨rfl, fin⟩)
  · obtain ⟨n, hn, _, _, _, _, _, _, _, hpl, _, _, hch⟩ := hl hL
    refine br_f hL ?_
    rcases ly_ix3 v1 (n := 16) (by omega) with h | ⟨j, hj, rfl⟩
    · exact ly_xsym0 h (br_t rfl (br_f hL (ly_ysym0 h (br_t rfl ⟨rfl, fin⟩))))
    · have ej : (nI j).toNatClampNeg = j := ly_cl (by omega)
      refine ly_xsym1 hj (br_f (by decide) ⟨vp_in_nI (by omega) (by omega), ?_⟩)
      rw [ej]
      rcases hch j hj with ⟨e1, e2, _⟩ | ⟨t, ht, e1, e2⟩
      · refine br_t e1 (br_f hL (ly_ysym1 hj (br_f (by decide) ⟨vp_in_nI (by omega) (by omega), ?_, fin⟩)))
        exact e2
      · refine br_f (by rw [e1]; exact ly_m1 (by omega)) ⟨vp_in_nI (by omega) (by omega), by rw [e1]; exact vp_in_nI ht (by omega), br_f hL (ly_ysym1 hj (br_f (by decide) ⟨vp_in_nI (by omega) (by omega), ?_, fin⟩))⟩
        rw [e2, e1, ly_cl (by omega)]; exact (hpl t ht).symm
theorem i_vc_where {k : Nat} {u : SX} {v : SY} (I : i_Rel k u v) (hk : k + 5 ≤ 2560) (v1 : Int32) (v2 : Int32) : wpX_where (fun r => wpY_where (fun r' => r' = r ∧ i_Rel (k + 5) u v) v v1 v2) u v1 v2 := by
  obtain ⟨xbase, xstrip, xllen, xtend, xaend, xlcnt, xlrnd, xlinked, xblamed, xouts, xpc, xsteps, xran, xops, xA, xB, xcnt, xrole, xloc, xglo, xweak, xuse, xrep, xunit, xtgt, xstay, xlong, xlist, xchosen, xplace, ximg, xreg, xstore, xout, ymany, ytend, yend, ymade, yrounds, yentry, ylist, yplace, ysym, yimg, ystay, ywide, ymem, yreg, yout, rfl, rfl, hW, hF, hb, hr, hl⟩ := I
  have fin : i_Rel (k + 5) (xbase, xstrip, xllen, xtend, xaend, xlcnt, xlrnd, xlinked, xblamed, xouts, xpc, xsteps, xran, xops, xA, xB, xcnt, xrole, xloc, xglo, xweak, xuse, xrep, xunit, xtgt, xstay, xlong, xlist, xchosen, xplace, ximg, xreg, xstore, xout) (xbase, xstrip, ymany, xblamed, ytend, yend, ymade, yrounds, yentry, xlinked, xran, xpc, xsteps, xouts, xops, xA, xB, xcnt, xrole, ylist, yplace, ysym, yimg, ystay, ywide, ymem, yreg, yout) := ⟨xbase, xstrip, xllen, xtend, xaend, xlcnt, xlrnd, xlinked, xblamed, xouts, xpc, xsteps, xran, xops, xA, xB, xcnt, xrole, xloc, xglo, xweak, xuse, xrep, xunit, xtgt, xstay, xlong, xlist, xchosen, xplace, ximg, xreg, xstore, xout, ymany, ytend, yend, ymade, yrounds, yentry, ylist, yplace, ysym, yimg, ystay, ywide, ymem, yreg, yout, rfl, rfl, hW, hF, hb, hr, hl⟩
  unfold wpX_where wpY_where
  dsimp only
  by_cases hL : xlinked = 0
  · exact br_t hL (br_t hL ⟨rfl, fin⟩)
  · obtain ⟨n, hn, _, _, _, _, _, _, _, hpl, _, _, hch⟩ := hl hL
    refine br_f hL ?_
    rcases ly_ix3 v1 (n := 6) (by omega) with h | ⟨m, hm, rfl⟩
    · exact ly_xmod0 h (br_t rfl (br_f hL (ly_ymod0 h (br_t rfl ⟨rfl, fin⟩))))
    · refine ly_xmod1 hm (br_f (by decide) ?_)
      rcases ly_ix3 v2 (n := 24) (by omega) with h | ⟨j, hj, rfl⟩
      · have E := fun (P : Prop) => br_f (A := (-1 : Int32) = -1 ∧ i_Rel (k + 5) (xbase, xstrip, xllen, xtend, xaend, xlcnt, xlrnd, xlinked, xblamed, xouts, xpc, xsteps, xran, xops, xA, xB, xcnt, xrole, xloc, xglo, xweak, xuse, xrep, xunit, xtgt, xstay, xlong, xlist, xchosen, xplace, ximg, xreg, xstore, xout) (xbase, xstrip, ymany, xblamed, ytend, yend, ymade, yrounds, yentry, xlinked, xran, xpc, xsteps, xouts, xops, xA, xB, xcnt, xrole, ylist, yplace, ysym, yimg, ystay, ywide, ymem, yreg, yout)) hL (ly_ymod1 (post := fun r_2 => (r_2 = 0 → (-1 : Int32) = -1 ∧ i_Rel (k + 5) (xbase, xstrip, xllen, xtend, xaend, xlcnt, xlrnd, xlinked, xblamed, xouts, xpc, xsteps, xran, xops, xA, xB, xcnt, xrole, xloc, xglo, xweak, xuse, xrep, xunit, xtgt, xstay, xlong, xlist, xchosen, xplace, ximg, xreg, xstore, xout) (xbase, xstrip, ymany, xblamed, ytend, yend, ymade, yrounds, yentry, xlinked, xran, xpc, xsteps, xouts, xops, xA, xB, xcnt, xrole, ylist, yplace, ysym, yimg, ystay, ywide, ymem, yreg, yout)) ∧ (¬ r_2 = 0 → wpY_in (fun r_4 => (r_4 = 0 → (-1 : Int32) = -1 ∧ i_Rel (k + 5) (xbase, xstrip, xllen, xtend, xaend, xlcnt, xlrnd, xlinked, xblamed, xouts, xpc, xsteps, xran, xops, xA, xB, xcnt, xrole, xloc, xglo, xweak, xuse, xrep, xunit, xtgt, xstay, xlong, xlist, xchosen, xplace, ximg, xreg, xstore, xout) (xbase, xstrip, ymany, xblamed, ytend, yend, ymade, yrounds, yentry, xlinked, xran, xpc, xsteps, xouts, xops, xA, xB, xcnt, xrole, ylist, yplace, ysym, yimg, ystay, ywide, ymem, yreg, yout)) ∧ (¬ r_4 = 0 → P)) v2 0 23)) hm (br_f (by decide) (ly_yi0 (post := fun r_4 => (r_4 = 0 → (-1 : Int32) = -1 ∧ i_Rel (k + 5) (xbase, xstrip, xllen, xtend, xaend, xlcnt, xlrnd, xlinked, xblamed, xouts, xpc, xsteps, xran, xops, xA, xB, xcnt, xrole, xloc, xglo, xweak, xuse, xrep, xunit, xtgt, xstay, xlong, xlist, xchosen, xplace, ximg, xreg, xstore, xout) (xbase, xstrip, ymany, xblamed, ytend, yend, ymade, yrounds, yentry, xlinked, xran, xpc, xsteps, xouts, xops, xA, xB, xcnt, xrole, ylist, yplace, ysym, yimg, ystay, ywide, ymem, yreg, yout)) ∧ (¬ r_4 = 0 → P)) 23 (by omega) h (br_t rfl ⟨rfl, fin⟩))))
        rcases h with h | h
        · exact br_t h (E _)
        · exact br_c (fun _ => E _) (fun h0 => br_f (Int32.not_lt.mpr h) (E _))
      · have ei : (nI (24 * m + j)).toNatClampNeg = 24 * m + j := ly_cl (by omega)
        refine br_f (nI_pos (by omega)) (br_t (nI_lt (b := 24) hj (by omega)) ?_)
        rw [ly_idx]
        refine ⟨vp_in_nI (by omega) (by omega), br_f hL (ly_ymod1 hm (br_f (by decide) (ly_yi1 23 hj (by omega) (br_f (by decide) ?_))))⟩
        rw [ly_idy, nI_add]
        refine ⟨vp_in_nI (by omega) (by omega), ?_, fin⟩
        rw [ei]; exact (hpl _ (by omega)).symm
theorem i_vc_word {k : Nat} {u : SX} {v : SY} (I : i_Rel k u v) (hk : k + 5 ≤ 2560) (v1 : Int32) : wpX_word (fun r => wpY_word (fun r' => r' = r ∧ i_Rel (k + 5) u v) v v1) u v1 := by
  obtain ⟨xbase, xstrip, xllen, xtend, xaend, xlcnt, xlrnd, xlinked, xblamed, xouts, xpc, xsteps, xran, xops, xA, xB, xcnt, xrole, xloc, xglo, xweak, xuse, xrep, xunit, xtgt, xstay, xlong, xlist, xchosen, xplace, ximg, xreg, xstore, xout, ymany, ytend, yend, ymade, yrounds, yentry, ylist, yplace, ysym, yimg, ystay, ywide, ymem, yreg, yout, rfl, rfl, hW, hF, hb, hr, hl⟩ := I
  have fin : i_Rel (k + 5) (xbase, xstrip, xllen, xtend, xaend, xlcnt, xlrnd, xlinked, xblamed, xouts, xpc, xsteps, xran, xops, xA, xB, xcnt, xrole, xloc, xglo, xweak, xuse, xrep, xunit, xtgt, xstay, xlong, xlist, xchosen, xplace, ximg, xreg, xstore, xout) (xbase, xstrip, ymany, xblamed, ytend, yend, ymade, yrounds, yentry, xlinked, xran, xpc, xsteps, xouts, xops, xA, xB, xcnt, xrole, ylist, yplace, ysym, yimg, ystay, ywide, ymem, yreg, yout) := ⟨xbase, xstrip, xllen, xtend, xaend, xlcnt, xlrnd, xlinked, xblamed, xouts, xpc, xsteps, xran, xops, xA, xB, xcnt, xrole, xloc, xglo, xweak, xuse, xrep, xunit, xtgt, xstay, xlong, xlist, xchosen, xplace, ximg, xreg, xstore, xout, ymany, ytend, yend, ymade, yrounds, yentry, ylist, yplace, ysym, yimg, ystay, ywide, ymem, yreg, yout, rfl, rfl, hW, hF, hb, hr, hl⟩
  unfold wpX_word wpY_word
  dsimp only
  by_cases hL : xlinked = 0
  · exact br_t hL (br_t hL ⟨rfl, fin⟩)
  · obtain ⟨n, hn, _, _, _, _, _, _, _, _, him, _, hch⟩ := hl hL
    refine br_f hL ?_
    rcases ly_ix3 v1 (n := 256) (by omega) with h | ⟨j, hj, rfl⟩
    · exact ly_xadr0 h (br_t rfl (br_f hL (ly_yadr0 h (br_t rfl ⟨rfl, fin⟩))))
    · refine ly_xadr1 hj (br_f (by decide) ⟨vp_in_nI (by omega) (by omega), br_f hL (ly_yadr1 hj (br_f (by decide) ⟨vp_in_nI (by omega) (by omega), ?_, fin⟩))⟩)
      rw [ly_cl (by omega)]; exact (him j hj).symm
theorem i_vc_memory {k : Nat} {u : SX} {v : SY} (I : i_Rel k u v) (hk : k + 5 ≤ 2560) (v1 : Int32) : wpX_memory (fun r => wpY_memory (fun r' => r' = r ∧ i_Rel (k + 5) u v) v v1) u v1 := by
  obtain ⟨xbase, xstrip, xllen, xtend, xaend, xlcnt, xlrnd, xlinked, xblamed, xouts, xpc, xsteps, xran, xops, xA, xB, xcnt, xrole, xloc, xglo, xweak, xuse, xrep, xunit, xtgt, xstay, xlong, xlist, xchosen, xplace, ximg, xreg, xstore, xout, ymany, ytend, yend, ymade, yrounds, yentry, ylist, yplace, ysym, yimg, ystay, ywide, ymem, yreg, yout, rfl, rfl, hW, hF, hb, hr, hl⟩ := I
  have fin : i_Rel (k + 5) (xbase, xstrip, xllen, xtend, xaend, xlcnt, xlrnd, xlinked, xblamed, xouts, xpc, xsteps, xran, xops, xA, xB, xcnt, xrole, xloc, xglo, xweak, xuse, xrep, xunit, xtgt, xstay, xlong, xlist, xchosen, xplace, ximg, xreg, xstore, xout) (xbase, xstrip, ymany, xblamed, ytend, yend, ymade, yrounds, yentry, xlinked, xran, xpc, xsteps, xouts, xops, xA, xB, xcnt, xrole, ylist, yplace, ysym, yimg, ystay, ywide, ymem, yreg, yout) := ⟨xbase, xstrip, xllen, xtend, xaend, xlcnt, xlrnd, xlinked, xblamed, xouts, xpc, xsteps, xran, xops, xA, xB, xcnt, xrole, xloc, xglo, xweak, xuse, xrep, xunit, xtgt, xstay, xlong, xlist, xchosen, xplace, ximg, xreg, xstore, xout, ymany, ytend, yend, ymade, yrounds, yentry, ylist, yplace, ysym, yimg, ystay, ywide, ymem, yreg, yout, rfl, rfl, hW, hF, hb, hr, hl⟩
  unfold wpX_memory wpY_memory
  dsimp only
  by_cases hL : xran = 0
  · exact br_t hL (br_t hL ⟨rfl, fin⟩)
  · obtain ⟨hreg, hmem, o, ho, eo, hout⟩ := hr
    refine br_f hL ?_
    rcases ly_ix3 v1 (n := 256) (by omega) with h | ⟨j, hj, rfl⟩
    · exact ly_xadr0 h (br_t rfl (br_f hL (ly_yadr0 h (br_t rfl ⟨rfl, fin⟩))))
    · refine ly_xadr1 hj (br_f (by decide) ⟨vp_in_nI (by omega) (by omega), br_f hL (ly_yadr1 hj (br_f (by decide) ⟨vp_in_nI (by omega) (by omega), ?_, fin⟩))⟩)
      rw [ly_cl (by omega)]; exact (hmem j hj).symm
theorem i_vc_size {k : Nat} {u : SX} {v : SY} (I : i_Rel k u v) (hk : k + 5 ≤ 2560) (v1 : Int32) : wpX_size (fun r => wpY_size (fun r' => r' = r ∧ i_Rel (k + 5) u v) v v1) u v1 := by
  obtain ⟨xbase, xstrip, xllen, xtend, xaend, xlcnt, xlrnd, xlinked, xblamed, xouts, xpc, xsteps, xran, xops, xA, xB, xcnt, xrole, xloc, xglo, xweak, xuse, xrep, xunit, xtgt, xstay, xlong, xlist, xchosen, xplace, ximg, xreg, xstore, xout, ymany, ytend, yend, ymade, yrounds, yentry, ylist, yplace, ysym, yimg, ystay, ywide, ymem, yreg, yout, rfl, rfl, hW, hF, hb, hr, hl⟩ := I
  have fin : i_Rel (k + 5) (xbase, xstrip, xllen, xtend, xaend, xlcnt, xlrnd, xlinked, xblamed, xouts, xpc, xsteps, xran, xops, xA, xB, xcnt, xrole, xloc, xglo, xweak, xuse, xrep, xunit, xtgt, xstay, xlong, xlist, xchosen, xplace, ximg, xreg, xstore, xout) (xbase, xstrip, ymany, xblamed, ytend, yend, ymade, yrounds, yentry, xlinked, xran, xpc, xsteps, xouts, xops, xA, xB, xcnt, xrole, ylist, yplace, ysym, yimg, ystay, ywide, ymem, yreg, yout) := ⟨xbase, xstrip, xllen, xtend, xaend, xlcnt, xlrnd, xlinked, xblamed, xouts, xpc, xsteps, xran, xops, xA, xB, xcnt, xrole, xloc, xglo, xweak, xuse, xrep, xunit, xtgt, xstay, xlong, xlist, xchosen, xplace, ximg, xreg, xstore, xout, ymany, ytend, yend, ymade, yrounds, yentry, ylist, yplace, ysym, yimg, ystay, ywide, ymem, yreg, yout, rfl, rfl, hW, hF, hb, hr, hl⟩
  unfold wpX_size wpY_size
  dsimp only
  by_cases hL : xlinked = 0
  · exact br_t hL (br_t hL ⟨rfl, fin⟩)
  · obtain ⟨n, hn, _, _, _, e1, e2, e3, e4, _⟩ := hl hL
    refine br_f hL ?_
    rcases ly_ix3 v1 (n := 4) (by omega) with h | ⟨j, hj, rfl⟩
    · have E := fun (P : Prop) => br_f (A := (-1 : Int32) = -1 ∧ i_Rel (k + 5) (xbase, xstrip, xllen, xtend, xaend, xlcnt, xlrnd, xlinked, xblamed, xouts, xpc, xsteps, xran, xops, xA, xB, xcnt, xrole, xloc, xglo, xweak, xuse, xrep, xunit, xtgt, xstay, xlong, xlist, xchosen, xplace, ximg, xreg, xstore, xout) (xbase, xstrip, ymany, xblamed, ytend, yend, ymade, yrounds, yentry, xlinked, xran, xpc, xsteps, xouts, xops, xA, xB, xcnt, xrole, ylist, yplace, ysym, yimg, ystay, ywide, ymem, yreg, yout)) hL (ly_yi0 (post := fun r_2 => (r_2 = 0 → (-1 : Int32) = -1 ∧ i_Rel (k + 5) (xbase, xstrip, xllen, xtend, xaend, xlcnt, xlrnd, xlinked, xblamed, xouts, xpc, xsteps, xran, xops, xA, xB, xcnt, xrole, xloc, xglo, xweak, xuse, xrep, xunit, xtgt, xstay, xlong, xlist, xchosen, xplace, ximg, xreg, xstore, xout) (xbase, xstrip, ymany, xblamed, ytend, yend, ymade, yrounds, yentry, xlinked, xran, xpc, xsteps, xouts, xops, xA, xB, xcnt, xrole, ylist, yplace, ysym, yimg, ystay, ywide, ymem, yreg, yout)) ∧ (¬ r_2 = 0 → P)) 3 (by omega) h (br_t rfl ⟨rfl, fin⟩))
      rcases h with h | h
      · exact br_t h (E _)
      · exact br_c (fun _ => E _) (fun h0 => br_t (ly_ngt (N := 3) (by omega) h h0) (E _))
    · have hj4 : j = 0 ∨ j = 1 ∨ j = 2 ∨ j = 3 := by omega
      rcases hj4 with rfl | rfl | rfl | rfl
      · exact br_f (by decide) (br_f (by decide) (br_t rfl (br_f hL (ly_yi1 3 (by omega) (by omega) (br_f (by decide) (br_t rfl ⟨e1.symm, fin⟩))))))
      · exact br_f (by decide) (br_f (by decide) (br_f (by decide) (br_t rfl (br_f hL (ly_yi1 3 (by omega) (by omega) (br_f (by decide) (br_f (by decide) (br_t rfl ⟨e2.symm, fin⟩))))))))
      · exact br_f (by decide) (br_f (by decide) (br_f (by decide) (br_f (by decide) (br_t rfl (br_f hL (ly_yi1 3 (by omega) (by omega) (br_f (by decide) (br_f (by decide) (br_f (by decide) (br_t rfl ⟨e3.symm, fin⟩))))))))))
      · exact br_f (by decide) (br_f (by decide) (br_f (by decide) (br_f (by decide) (br_f (by decide) (br_t rfl (br_f hL (ly_yi1 3 (by omega) (by omega) (br_f (by decide) (br_f (by decide) (br_f (by decide) (br_f (by decide) ⟨e4.symm, fin⟩)))))))))))
theorem i_vc_state {k : Nat} {u : SX} {v : SY} (I : i_Rel k u v) (hk : k + 5 ≤ 2560) (v1 : Int32) : wpX_state (fun r => wpY_state (fun r' => r' = r ∧ i_Rel (k + 5) u v) v v1) u v1 := by
  obtain ⟨xbase, xstrip, xllen, xtend, xaend, xlcnt, xlrnd, xlinked, xblamed, xouts, xpc, xsteps, xran, xops, xA, xB, xcnt, xrole, xloc, xglo, xweak, xuse, xrep, xunit, xtgt, xstay, xlong, xlist, xchosen, xplace, ximg, xreg, xstore, xout, ymany, ytend, yend, ymade, yrounds, yentry, ylist, yplace, ysym, yimg, ystay, ywide, ymem, yreg, yout, rfl, rfl, hW, hF, hb, hr, hl⟩ := I
  have fin : i_Rel (k + 5) (xbase, xstrip, xllen, xtend, xaend, xlcnt, xlrnd, xlinked, xblamed, xouts, xpc, xsteps, xran, xops, xA, xB, xcnt, xrole, xloc, xglo, xweak, xuse, xrep, xunit, xtgt, xstay, xlong, xlist, xchosen, xplace, ximg, xreg, xstore, xout) (xbase, xstrip, ymany, xblamed, ytend, yend, ymade, yrounds, yentry, xlinked, xran, xpc, xsteps, xouts, xops, xA, xB, xcnt, xrole, ylist, yplace, ysym, yimg, ystay, ywide, ymem, yreg, yout) := ⟨xbase, xstrip, xllen, xtend, xaend, xlcnt, xlrnd, xlinked, xblamed, xouts, xpc, xsteps, xran, xops, xA, xB, xcnt, xrole, xloc, xglo, xweak, xuse, xrep, xunit, xtgt, xstay, xlong, xlist, xchosen, xplace, ximg, xreg, xstore, xout, ymany, ytend, yend, ymade, yrounds, yentry, ylist, yplace, ysym, yimg, ystay, ywide, ymem, yreg, yout, rfl, rfl, hW, hF, hb, hr, hl⟩
  unfold wpX_state wpY_state
  dsimp only
  by_cases hL : xran = 0
  · exact br_t hL (br_t hL ⟨rfl, fin⟩)
  · obtain ⟨hreg, hmem, o, ho, rfl, hout⟩ := hr
    refine br_f hL ?_
    by_cases h0 : v1 < 0
    · exact br_t h0 (br_f hL (br_f (Int32.not_le.mpr h0) ⟨rfl, fin⟩))
    · obtain ⟨j, hj, rfl⟩ := nI_of h0
      refine br_f h0 ?_
      have hy0 : (0 : Int32) ≤ nI j := nI_pos' hj
      by_cases h51 : j < 51
      · refine br_t (nI_lt (b := 51) h51 (by omega)) ?_
        by_cases h8 : j < 8
        · refine br_f (nI_ge (b := 8) h8 (by omega)) ⟨vp_in_nI h8 (by omega), br_f hL (br_t hy0 (br_f (nI_ge (b := 8) h8 (by omega)) ⟨vp_in_nI h8 (by omega), ?_, fin⟩))⟩
          rw [ly_cl (by omega)]; exact (hreg j h8).symm
        · refine br_t (nI_le (a := 8) (by omega) hj) (br_f (nI_nlt (b := 8) (by omega) hj) ?_)
          by_cases h11 : j < 11
          · refine br_f (nI_nlt (a := 10) (by omega) (by omega)) ?_
            have hj3 : j = 8 ∨ j = 9 ∨ j = 10 := by omega
            have Y8 := nI_le (a := 8) (b := j) (by omega) hj
            have Y11 := nI_ge (b := 11) (a := j) h11 (by omega)
            rcases hj3 with rfl | rfl | rfl
            · exact br_t rfl (br_f hL (br_t hy0 (br_t Y8 (br_f Y11 (br_t rfl ⟨rfl, fin⟩)))))
            · exact br_f (by decide) (br_t rfl (br_f hL (br_t hy0 (br_t Y8 (br_f Y11 (br_f (by decide) (br_t rfl ⟨rfl, fin⟩)))))))
            · exact br_f (by decide) (br_f (by decide) (br_t rfl (br_f hL (br_t hy0 (br_t Y8 (br_f Y11 (br_f (by decide) (br_f (by decide) ⟨rfl, fin⟩))))))))
          · have es : nI j - 11 = nI (j - 11) := pk_sub (b := 11) (by omega)
            refine br_t (nI_lt (a := 10) (by omega) hj) ?_
            rw [es]
            refine ⟨vp_in_nI (by omega) (by omega), br_f hL (br_t hy0 (br_t (nI_le (a := 8) (by omega) hj) (br_t (nI_le (a := 11) (by omega) hj) (nm_e (br_f (nI_ge (b := 40) (by omega) (by omega)) ?_)))))⟩
            rw [ly_cl (by omega)]
            have hx := hout (j - 11) (by omega)
            by_cases hlt : j - 11 < o
            · rw [if_pos hlt] at hx
              exact br_f (nI_ge hlt (by omega)) ⟨vp_in_nI (by omega) (by omega), hx.symm, fin⟩
            · rw [if_neg hlt] at hx
              exact br_t (nI_le (by omega) (by omega)) ⟨hx.symm, fin⟩
      · exact br_f (nI_nlt (b := 51) (by omega) hj) (br_f hL (br_t hy0 (br_t (nI_le (a := 8) (by omega) hj) (br_t (nI_le (a := 11) (by omega) hj) (nm_r (pk_sub (b := 11) (by omega)) (br_t (nI_le (a := 40) (by omega) (by omega)) ⟨rfl, fin⟩))))))

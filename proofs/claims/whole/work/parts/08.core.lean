/-! bits of a word, and a whole step -/
theorem ly_b31 : ∀ i, i < 32 → bt 31 i = decide (i < 5) := by decide +kernel
theorem ly_b7 : ∀ i, i < 32 → bt 7 i = decide (i < 3) := by decide +kernel
theorem ly_b1 : ∀ i, i < 32 → bt 1 i = decide (i = 0) := by decide +kernel
theorem ly_b65536 : ∀ i, i < 32 → bt 65536 i = decide (i = 16) := by decide +kernel
theorem ly_wop (w : Int32) : ((w.toUInt32 >>> ((24 : Int32).toUInt32 &&& Int32.toUInt32 31)).toInt32) &&& 31 = (w >>> ((24 : Int32) &&& 31)) &&& 31 := by
  apply b_ext
  intro i hi
  have e1 : bt ((w.toUInt32 >>> ((24 : Int32).toUInt32 &&& Int32.toUInt32 31)).toInt32) i = bt w (24 + i) := b_ushr 24 (by omega) w i
  have e2 : bt (w >>> ((24 : Int32) &&& 31)) i = if 24 + i < 32 then bt w (24 + i) else bt w 31 := b_sshr 24 (by omega) w hi
  rw [b_and, b_and, ly_b31 i hi, e1, e2]
  by_cases h : i < 5
  · rw [if_pos (by omega)]
  · rw [decide_eq_false h, Bool.and_false, Bool.and_false]
theorem ly_wrg (w : Int32) : ((w.toUInt32 >>> ((20 : Int32).toUInt32 &&& Int32.toUInt32 31)).toInt32) &&& 7 = (w >>> ((20 : Int32) &&& 31)) &&& 7 := by
  apply b_ext
  intro i hi
  have e1 : bt ((w.toUInt32 >>> ((20 : Int32).toUInt32 &&& Int32.toUInt32 31)).toInt32) i = bt w (20 + i) := b_ushr 20 (by omega) w i
  have e2 : bt (w >>> ((20 : Int32) &&& 31)) i = if 20 + i < 32 then bt w (20 + i) else bt w 31 := b_sshr 20 (by omega) w hi
  rw [b_and, b_and, ly_b7 i hi, e1, e2]
  by_cases h : i < 3
  · rw [if_pos (by omega)]
  · rw [decide_eq_false h, Bool.and_false, Bool.and_false]
theorem ly_wlg (w : Int32) : (w &&& 65536) = 0 ∧ ((w >>> ((16 : Int32) &&& 31)) &&& 1) = 0 ∨ (w &&& 65536) = 65536 ∧ ((w >>> ((16 : Int32) &&& 31)) &&& 1) = 1 := by
  have e2 : ∀ i, i < 32 → bt (w >>> ((16 : Int32) &&& 31)) i = if 16 + i < 32 then bt w (16 + i) else bt w 31 := fun i hi => b_sshr 16 (by omega) w hi
  cases hb : bt w 16 with
  | false =>
    refine Or.inl ⟨b_ext (fun i hi => ?_), b_ext (fun i hi => ?_)⟩
    · rw [b_and, ly_b65536 i hi, b_0]
      by_cases h : i = 16
      · subst h; rw [hb]; rfl
      · rw [decide_eq_false h, Bool.and_false]
    · rw [b_and, ly_b1 i hi, b_0, e2 i hi]
      by_cases h : i = 0
      · subst h; rw [if_pos (by omega)]; rw [show 16 + 0 = 16 from rfl, hb]; rfl
      · rw [decide_eq_false h, Bool.and_false]
  | true =>
    refine Or.inr ⟨b_ext (fun i hi => ?_), b_ext (fun i hi => ?_)⟩
    · rw [b_and, ly_b65536 i hi]
      by_cases h : i = 16
      · subst h; rw [hb]; rfl
      · rw [decide_eq_false h, Bool.and_false]
    · rw [b_and, ly_b1 i hi, e2 i hi]
      by_cases h : i = 0
      · subst h; rw [if_pos (by omega)]; rw [show 16 + 0 = 16 from rfl, hb]; rfl
      · rw [decide_eq_false h, Bool.and_false]
def ly_ST (s : Nat) (WX : (Int32 → SX → Prop) → Prop) (WY : (Int32 → SY → Prop) → Prop) (mX : Int32 → Int32 → Int32 → (Nat → Int32) → (Nat → Int32) → (Nat → Int32) → SX) (mY : Int32 → Int32 → Int32 → (Nat → Int32) → (Nat → Int32) → (Nat → Int32) → SY) : Prop :=
  ∃ (r pc : Int32) (s' o : Nat) (rg yrg st ym ou you : Nat → Int32), (r = 0 → s' = s + 1) ∧ s' ≤ s + 1 ∧ o ≤ s' ∧ ly_AG 8 rg yrg ∧ ly_AG 256 st ym ∧ (∀ k, k < 40 → ou k = if k < o then you k else 0) ∧ (∀ post, post r (mX (nI o) pc (nI s') rg st ou) → WX post) ∧ (∀ post, post r (mY pc (nI s') (nI o) ym yrg you) → WY post)
theorem ly_X125 {post : Int32 → SX → Prop} {xbase xstrip xllen xtend xaend xlcnt xlrnd xlinked xblamed xouts xran : Int32} {xops xA xB xcnt xrole xloc xglo xweak xuse xrep xunit xtgt xstay xlong xlist xchosen xplace ximg xreg xstore xout : Nat → Int32} {q a b p s : Nat} (hq : q < 14) (hp : p < 256) (z n : Int32) (hz : ¬ z = 0 → p + 1 < 256) (H : wX_step_184 post (nI q) z (nI a) n (nI b) (if z = 0 then n else xstore (p + 1)) (if z = 0 then nI p + 1 else nI p + 2) xbase xstrip xllen xtend xaend xlcnt xlrnd xlinked xblamed xouts (nI p) (nI (s + 1)) xran xops xA xB xcnt xrole xloc xglo xweak xuse xrep xunit xtgt xstay xlong xlist xchosen xplace ximg xreg xstore xout) : wX_step_125 post (nI q) z (nI a) n (nI b) xbase xstrip xllen xtend xaend xlcnt xlrnd xlinked xblamed xouts (nI p) (nI s) xran xops xA xB xcnt xrole xloc xglo xweak xuse xrep xunit xtgt xstay xlong xlist xchosen xplace ximg xreg xstore xout := by
  refine nm_r (nI_1 s) (br_f (fun e => by have := ly_inj (b := 14) (by omega) (by omega) e; omega) ?_)
  by_cases h : z = 0
  · rw [if_pos h, if_pos h] at H
    exact br_t h (br_t h H)
  · rw [if_neg h, if_neg h] at H
    have hz' := hz h
    have e : nI p + 1 = nI (p + 1) := nI_1 p
    refine br_f h ⟨by rw [e]; exact vp_in_nI hz' (by omega), ?_⟩
    rw [e, ly_cl (i := p + 1) (by omega)]
    exact br_f h H
theorem ly_Y139 {post : Int32 → SY → Prop} {yorg ystrip ymany yculp ytend yend ymade yrounds yentry ylinked yran ysteps youts : Int32} {yops yA yB ycnt yrole ylist yplace ysym yimg ystay ywide ymem yreg yout : Nat → Int32} {q a b p : Nat} (ha : a < 8) (hb : b < 8) (hp : p < 256) (z n : Int32) (hz : ¬ z = 0 → p + 1 < 256) (H : wY_step_187 post (nI q) (nI a) n (if z = 0 then nI p + 1 else nI p + 2) z (if z = 0 then n else ymem (p + 1)) (yreg a) (yreg b) yorg ystrip ymany yculp ytend yend ymade yrounds yentry ylinked yran (nI p) ysteps youts yops yA yB ycnt yrole ylist yplace ysym yimg ystay ywide ymem yreg yout) : wY_step_139 post (nI q) (nI a) n (nI b) (nI p + 1) z yorg ystrip ymany yculp ytend yend ymade yrounds yentry ylinked yran (nI p) ysteps youts yops yA yB ycnt yrole ylist yplace ysym yimg ystay ywide ymem yreg yout := by
  have ea : (nI a).toNatClampNeg = a := ly_cl (by omega)
  have eb : (nI b).toNatClampNeg = b := ly_cl (by omega)
  by_cases h : z = 0
  · rw [if_pos h, if_pos h] at H
    exact br_t h ⟨vp_in_nI ha (by omega), nm_r (congrArg yreg ea) ⟨vp_in_nI hb (by omega), nm_r (congrArg yreg eb) (br_t h H)⟩⟩
  · rw [if_neg h, if_neg h] at H
    have hz' := hz h
    have e : nI p + 1 = nI (p + 1) := nI_1 p
    have e2 : nI p + 1 + 1 = nI p + 2 := by rw [Int32.add_assoc]; rfl
    refine br_f h ⟨by rw [e]; exact vp_in_nI hz' (by omega), ?_⟩
    have e3 : (nI p + 1).toNatClampNeg = p + 1 := by rw [e]; exact ly_cl (by omega)
    rw [e3]
    exact ⟨vp_in_nI ha (by omega), nm_r (congrArg yreg ea) ⟨vp_in_nI hb (by omega), nm_r (congrArg yreg eb) (br_f h (nm_r e2 H))⟩⟩

theorem ly_core1 {xbase xstrip xllen xtend xaend xlcnt xlrnd xlinked xblamed xran : Int32} {xops xA xB xcnt xrole xloc xglo xweak xuse xrep xunit xtgt xstay xlong xlist xchosen xplace ximg xreg xstore xout : Nat → Int32} {ymany ytend yend ymade yrounds yentry : Int32} {ylist yplace ysym yimg ystay ywide ymem yreg yout : Nat → Int32} {a b p s o : Nat} (ha : a < 8) (hb : b < 8) (hp : p < 256) (z n : Int32) (hz : ¬ z = 0 → p + 1 < 256) (ho : o ≤ s) (hs : s < 300) (hreg : ly_AG 8 xreg yreg) (hmem : ly_AG 256 xstore ymem) (hout : ∀ k, k < 40 → xout k = if k < o then yout k else 0) : ly_ST s (fun post => wX_step_125 post (nI 1) z (nI a) n (nI b) xbase xstrip xllen xtend xaend xlcnt xlrnd xlinked xblamed (nI o) (nI p) (nI s) xran xops xA xB xcnt xrole xloc xglo xweak xuse xrep xunit xtgt xstay xlong xlist xchosen xplace ximg xreg xstore xout) (fun post => wY_step_139 post (nI 1) (nI a) n (nI b) (nI p + 1) z xbase xstrip ymany xblamed ytend yend ymade yrounds yentry xlinked xran (nI p) (nI s) (nI o) xops xA xB xcnt xrole ylist yplace ysym yimg ystay ywide ymem yreg yout) (fun xouts xpc xsteps xreg xstore xout => (xbase, xstrip, xllen, xtend, xaend, xlcnt, xlrnd, xlinked, xblamed, xouts, xpc, xsteps, xran, xops, xA, xB, xcnt, xrole, xloc, xglo, xweak, xuse, xrep, xunit, xtgt, xstay, xlong, xlist, xchosen, xplace, ximg, xreg, xstore, xout)) (fun ypc ysteps youts ymem yreg yout => (xbase, xstrip, ymany, xblamed, ytend, yend, ymade, yrounds, yentry, xlinked, xran, ypc, ysteps, youts, xops, xA, xB, xcnt, xrole, ylist, yplace, ysym, yimg, ystay, ywide, ymem, yreg, yout)) := by
  have hA : yreg a = xreg a := (hreg a ha).symm
  have hB : yreg b = xreg b := (hreg b hb).symm
  have hV : (if z = 0 then n else ymem (p + 1)) = (if z = 0 then n else xstore (p + 1)) := by
    by_cases h : z = 0
    · rw [if_pos h, if_pos h]
    · rw [if_neg h, if_neg h]; exact (hmem _ (hz h)).symm
  refine ⟨0, (if z = 0 then nI p + 1 else nI p + 2), s + 1, o, (upd xreg a (if z = 0 then n else xstore (p + 1))), (upd yreg a (if z = 0 then n else xstore (p + 1))), xstore, ymem, xout, yout, fun _ => rfl, Nat.le_refl _, by omega, ?_, ?_, ?_, fun post H => ly_X125 (hq := by omega) (hp := hp) (z := z) (n := n) (hz := hz) (H := ?_), fun post H => ly_Y139 (ha := ha) (hb := hb) (hp := hp) (z := z) (n := n) (hz := hz) (H := ?_)⟩
  · exact ly_AG_upd hreg _ _
  · exact hmem
  · exact hout
  · exact ly_X1 (ha := ha) (hb := hb) (z := z) (n := n) (H := H)
  · rw [hA, hB, hV]; exact ly_Y1 (ha := ha) (hs := rfl) (H := H)
theorem ly_core12 {xbase xstrip xllen xtend xaend xlcnt xlrnd xlinked xblamed xran : Int32} {xops xA xB xcnt xrole xloc xglo xweak xuse xrep xunit xtgt xstay xlong xlist xchosen xplace ximg xreg xstore xout : Nat → Int32} {ymany ytend yend ymade yrounds yentry : Int32} {ylist yplace ysym yimg ystay ywide ymem yreg yout : Nat → Int32} {a b p s o : Nat} (ha : a < 8) (hb : b < 8) (hp : p < 256) (z n : Int32) (hz : ¬ z = 0 → p + 1 < 256) (ho : o ≤ s) (hs : s < 300) (hreg : ly_AG 8 xreg yreg) (hmem : ly_AG 256 xstore ymem) (hout : ∀ k, k < 40 → xout k = if k < o then yout k else 0) : ly_ST s (fun post => wX_step_125 post (nI 12) z (nI a) n (nI b) xbase xstrip xllen xtend xaend xlcnt xlrnd xlinked xblamed (nI o) (nI p) (nI s) xran xops xA xB xcnt xrole xloc xglo xweak xuse xrep xunit xtgt xstay xlong xlist xchosen xplace ximg xreg xstore xout) (fun post => wY_step_139 post (nI 12) (nI a) n (nI b) (nI p + 1) z xbase xstrip ymany xblamed ytend yend ymade yrounds yentry xlinked xran (nI p) (nI s) (nI o) xops xA xB xcnt xrole ylist yplace ysym yimg ystay ywide ymem yreg yout) (fun xouts xpc xsteps xreg xstore xout => (xbase, xstrip, xllen, xtend, xaend, xlcnt, xlrnd, xlinked, xblamed, xouts, xpc, xsteps, xran, xops, xA, xB, xcnt, xrole, xloc, xglo, xweak, xuse, xrep, xunit, xtgt, xstay, xlong, xlist, xchosen, xplace, ximg, xreg, xstore, xout)) (fun ypc ysteps youts ymem yreg yout => (xbase, xstrip, ymany, xblamed, ytend, yend, ymade, yrounds, yentry, xlinked, xran, ypc, ysteps, youts, xops, xA, xB, xcnt, xrole, ylist, yplace, ysym, yimg, ystay, ywide, ymem, yreg, yout)) := by
  have hA : yreg a = xreg a := (hreg a ha).symm
  have hB : yreg b = xreg b := (hreg b hb).symm
  have hV : (if z = 0 then n else ymem (p + 1)) = (if z = 0 then n else xstore (p + 1)) := by
    by_cases h : z = 0
    · rw [if_pos h, if_pos h]
    · rw [if_neg h, if_neg h]; exact (hmem _ (hz h)).symm
  refine ⟨0, (if z = 0 then nI p + 1 else nI p + 2), s + 1, o, (upd xreg a (if z = 0 then n else xstore (p + 1))), (upd yreg a (if z = 0 then n else xstore (p + 1))), xstore, ymem, xout, yout, fun _ => rfl, Nat.le_refl _, by omega, ?_, ?_, ?_, fun post H => ly_X125 (hq := by omega) (hp := hp) (z := z) (n := n) (hz := hz) (H := ?_), fun post H => ly_Y139 (ha := ha) (hb := hb) (hp := hp) (z := z) (n := n) (hz := hz) (H := ?_)⟩
  · exact ly_AG_upd hreg _ _
  · exact hmem
  · exact hout
  · exact ly_X12 (ha := ha) (hb := hb) (z := z) (n := n) (H := H)
  · rw [hA, hB, hV]; exact ly_Y12 (ha := ha) (hs := rfl) (H := H)
theorem ly_core2 {xbase xstrip xllen xtend xaend xlcnt xlrnd xlinked xblamed xran : Int32} {xops xA xB xcnt xrole xloc xglo xweak xuse xrep xunit xtgt xstay xlong xlist xchosen xplace ximg xreg xstore xout : Nat → Int32} {ymany ytend yend ymade yrounds yentry : Int32} {ylist yplace ysym yimg ystay ywide ymem yreg yout : Nat → Int32} {a b p s o : Nat} (ha : a < 8) (hb : b < 8) (hp : p < 256) (z n : Int32) (hz : ¬ z = 0 → p + 1 < 256) (ho : o ≤ s) (hs : s < 300) (hreg : ly_AG 8 xreg yreg) (hmem : ly_AG 256 xstore ymem) (hout : ∀ k, k < 40 → xout k = if k < o then yout k else 0) : ly_ST s (fun post => wX_step_125 post (nI 2) z (nI a) n (nI b) xbase xstrip xllen xtend xaend xlcnt xlrnd xlinked xblamed (nI o) (nI p) (nI s) xran xops xA xB xcnt xrole xloc xglo xweak xuse xrep xunit xtgt xstay xlong xlist xchosen xplace ximg xreg xstore xout) (fun post => wY_step_139 post (nI 2) (nI a) n (nI b) (nI p + 1) z xbase xstrip ymany xblamed ytend yend ymade yrounds yentry xlinked xran (nI p) (nI s) (nI o) xops xA xB xcnt xrole ylist yplace ysym yimg ystay ywide ymem yreg yout) (fun xouts xpc xsteps xreg xstore xout => (xbase, xstrip, xllen, xtend, xaend, xlcnt, xlrnd, xlinked, xblamed, xouts, xpc, xsteps, xran, xops, xA, xB, xcnt, xrole, xloc, xglo, xweak, xuse, xrep, xunit, xtgt, xstay, xlong, xlist, xchosen, xplace, ximg, xreg, xstore, xout)) (fun ypc ysteps youts ymem yreg yout => (xbase, xstrip, ymany, xblamed, ytend, yend, ymade, yrounds, yentry, xlinked, xran, ypc, ysteps, youts, xops, xA, xB, xcnt, xrole, ylist, yplace, ysym, yimg, ystay, ywide, ymem, yreg, yout)) := by
  have hA : yreg a = xreg a := (hreg a ha).symm
  have hB : yreg b = xreg b := (hreg b hb).symm
  have hV : (if z = 0 then n else ymem (p + 1)) = (if z = 0 then n else xstore (p + 1)) := by
    by_cases h : z = 0
    · rw [if_pos h, if_pos h]
    · rw [if_neg h, if_neg h]; exact (hmem _ (hz h)).symm
  refine ⟨0, (if z = 0 then nI p + 1 else nI p + 2), s + 1, o, (upd xreg a (xreg a + xreg b)), (upd yreg a (xreg a + xreg b)), xstore, ymem, xout, yout, fun _ => rfl, Nat.le_refl _, by omega, ?_, ?_, ?_, fun post H => ly_X125 (hq := by omega) (hp := hp) (z := z) (n := n) (hz := hz) (H := ?_), fun post H => ly_Y139 (ha := ha) (hb := hb) (hp := hp) (z := z) (n := n) (hz := hz) (H := ?_)⟩
  · exact ly_AG_upd hreg _ _
  · exact hmem
  · exact hout
  · exact ly_X2 (ha := ha) (hb := hb) (z := z) (n := n) (H := H)
  · rw [hA, hB, hV]; exact ly_Y2 (ha := ha) (hs := rfl) (H := H)
theorem ly_core3 {xbase xstrip xllen xtend xaend xlcnt xlrnd xlinked xblamed xran : Int32} {xops xA xB xcnt xrole xloc xglo xweak xuse xrep xunit xtgt xstay xlong xlist xchosen xplace ximg xreg xstore xout : Nat → Int32} {ymany ytend yend ymade yrounds yentry : Int32} {ylist yplace ysym yimg ystay ywide ymem yreg yout : Nat → Int32} {a b p s o : Nat} (ha : a < 8) (hb : b < 8) (hp : p < 256) (z n : Int32) (hz : ¬ z = 0 → p + 1 < 256) (ho : o ≤ s) (hs : s < 300) (hreg : ly_AG 8 xreg yreg) (hmem : ly_AG 256 xstore ymem) (hout : ∀ k, k < 40 → xout k = if k < o then yout k else 0) : ly_ST s (fun post => wX_step_125 post (nI 3) z (nI a) n (nI b) xbase xstrip xllen xtend xaend xlcnt xlrnd xlinked xblamed (nI o) (nI p) (nI s) xran xops xA xB xcnt xrole xloc xglo xweak xuse xrep xunit xtgt xstay xlong xlist xchosen xplace ximg xreg xstore xout) (fun post => wY_step_139 post (nI 3) (nI a) n (nI b) (nI p + 1) z xbase xstrip ymany xblamed ytend yend ymade yrounds yentry xlinked xran (nI p) (nI s) (nI o) xops xA xB xcnt xrole ylist yplace ysym yimg ystay ywide ymem yreg yout) (fun xouts xpc xsteps xreg xstore xout => (xbase, xstrip, xllen, xtend, xaend, xlcnt, xlrnd, xlinked, xblamed, xouts, xpc, xsteps, xran, xops, xA, xB, xcnt, xrole, xloc, xglo, xweak, xuse, xrep, xunit, xtgt, xstay, xlong, xlist, xchosen, xplace, ximg, xreg, xstore, xout)) (fun ypc ysteps youts ymem yreg yout => (xbase, xstrip, ymany, xblamed, ytend, yend, ymade, yrounds, yentry, xlinked, xran, ypc, ysteps, youts, xops, xA, xB, xcnt, xrole, ylist, yplace, ysym, yimg, ystay, ywide, ymem, yreg, yout)) := by
  have hA : yreg a = xreg a := (hreg a ha).symm
  have hB : yreg b = xreg b := (hreg b hb).symm
  have hV : (if z = 0 then n else ymem (p + 1)) = (if z = 0 then n else xstore (p + 1)) := by
    by_cases h : z = 0
    · rw [if_pos h, if_pos h]
    · rw [if_neg h, if_neg h]; exact (hmem _ (hz h)).symm
  refine ⟨0, (if z = 0 then nI p + 1 else nI p + 2), s + 1, o, (upd xreg a (xreg a - xreg b)), (upd yreg a (xreg a - xreg b)), xstore, ymem, xout, yout, fun _ => rfl, Nat.le_refl _, by omega, ?_, ?_, ?_, fun post H => ly_X125 (hq := by omega) (hp := hp) (z := z) (n := n) (hz := hz) (H := ?_), fun post H => ly_Y139 (ha := ha) (hb := hb) (hp := hp) (z := z) (n := n) (hz := hz) (H := ?_)⟩
  · exact ly_AG_upd hreg _ _
  · exact hmem
  · exact hout
  · exact ly_X3 (ha := ha) (hb := hb) (z := z) (n := n) (H := H)
  · rw [hA, hB, hV]; exact ly_Y3 (ha := ha) (hs := rfl) (H := H)
theorem ly_core4 {xbase xstrip xllen xtend xaend xlcnt xlrnd xlinked xblamed xran : Int32} {xops xA xB xcnt xrole xloc xglo xweak xuse xrep xunit xtgt xstay xlong xlist xchosen xplace ximg xreg xstore xout : Nat → Int32} {ymany ytend yend ymade yrounds yentry : Int32} {ylist yplace ysym yimg ystay ywide ymem yreg yout : Nat → Int32} {a b p s o : Nat} (ha : a < 8) (hb : b < 8) (hp : p < 256) (z n : Int32) (hz : ¬ z = 0 → p + 1 < 256) (ho : o ≤ s) (hs : s < 300) (hreg : ly_AG 8 xreg yreg) (hmem : ly_AG 256 xstore ymem) (hout : ∀ k, k < 40 → xout k = if k < o then yout k else 0) : ly_ST s (fun post => wX_step_125 post (nI 4) z (nI a) n (nI b) xbase xstrip xllen xtend xaend xlcnt xlrnd xlinked xblamed (nI o) (nI p) (nI s) xran xops xA xB xcnt xrole xloc xglo xweak xuse xrep xunit xtgt xstay xlong xlist xchosen xplace ximg xreg xstore xout) (fun post => wY_step_139 post (nI 4) (nI a) n (nI b) (nI p + 1) z xbase xstrip ymany xblamed ytend yend ymade yrounds yentry xlinked xran (nI p) (nI s) (nI o) xops xA xB xcnt xrole ylist yplace ysym yimg ystay ywide ymem yreg yout) (fun xouts xpc xsteps xreg xstore xout => (xbase, xstrip, xllen, xtend, xaend, xlcnt, xlrnd, xlinked, xblamed, xouts, xpc, xsteps, xran, xops, xA, xB, xcnt, xrole, xloc, xglo, xweak, xuse, xrep, xunit, xtgt, xstay, xlong, xlist, xchosen, xplace, ximg, xreg, xstore, xout)) (fun ypc ysteps youts ymem yreg yout => (xbase, xstrip, ymany, xblamed, ytend, yend, ymade, yrounds, yentry, xlinked, xran, ypc, ysteps, youts, xops, xA, xB, xcnt, xrole, ylist, yplace, ysym, yimg, ystay, ywide, ymem, yreg, yout)) := by
  have hA : yreg a = xreg a := (hreg a ha).symm
  have hB : yreg b = xreg b := (hreg b hb).symm
  have hV : (if z = 0 then n else ymem (p + 1)) = (if z = 0 then n else xstore (p + 1)) := by
    by_cases h : z = 0
    · rw [if_pos h, if_pos h]
    · rw [if_neg h, if_neg h]; exact (hmem _ (hz h)).symm
  refine ⟨0, (if z = 0 then nI p + 1 else nI p + 2), s + 1, o, (upd xreg a (xreg a * xreg b)), (upd yreg a (xreg a * xreg b)), xstore, ymem, xout, yout, fun _ => rfl, Nat.le_refl _, by omega, ?_, ?_, ?_, fun post H => ly_X125 (hq := by omega) (hp := hp) (z := z) (n := n) (hz := hz) (H := ?_), fun post H => ly_Y139 (ha := ha) (hb := hb) (hp := hp) (z := z) (n := n) (hz := hz) (H := ?_)⟩
  · exact ly_AG_upd hreg _ _
  · exact hmem
  · exact hout
  · exact ly_X4 (ha := ha) (hb := hb) (z := z) (n := n) (H := H)
  · rw [hA, hB, hV]; exact ly_Y4 (ha := ha) (hs := rfl) (H := H)
theorem ly_core5 {xbase xstrip xllen xtend xaend xlcnt xlrnd xlinked xblamed xran : Int32} {xops xA xB xcnt xrole xloc xglo xweak xuse xrep xunit xtgt xstay xlong xlist xchosen xplace ximg xreg xstore xout : Nat → Int32} {ymany ytend yend ymade yrounds yentry : Int32} {ylist yplace ysym yimg ystay ywide ymem yreg yout : Nat → Int32} {a b p s o : Nat} (ha : a < 8) (hb : b < 8) (hp : p < 256) (z n : Int32) (hz : ¬ z = 0 → p + 1 < 256) (ho : o ≤ s) (hs : s < 300) (hreg : ly_AG 8 xreg yreg) (hmem : ly_AG 256 xstore ymem) (hout : ∀ k, k < 40 → xout k = if k < o then yout k else 0) : ly_ST s (fun post => wX_step_125 post (nI 5) z (nI a) n (nI b) xbase xstrip xllen xtend xaend xlcnt xlrnd xlinked xblamed (nI o) (nI p) (nI s) xran xops xA xB xcnt xrole xloc xglo xweak xuse xrep xunit xtgt xstay xlong xlist xchosen xplace ximg xreg xstore xout) (fun post => wY_step_139 post (nI 5) (nI a) n (nI b) (nI p + 1) z xbase xstrip ymany xblamed ytend yend ymade yrounds yentry xlinked xran (nI p) (nI s) (nI o) xops xA xB xcnt xrole ylist yplace ysym yimg ystay ywide ymem yreg yout) (fun xouts xpc xsteps xreg xstore xout => (xbase, xstrip, xllen, xtend, xaend, xlcnt, xlrnd, xlinked, xblamed, xouts, xpc, xsteps, xran, xops, xA, xB, xcnt, xrole, xloc, xglo, xweak, xuse, xrep, xunit, xtgt, xstay, xlong, xlist, xchosen, xplace, ximg, xreg, xstore, xout)) (fun ypc ysteps youts ymem yreg yout => (xbase, xstrip, ymany, xblamed, ytend, yend, ymade, yrounds, yentry, xlinked, xran, ypc, ysteps, youts, xops, xA, xB, xcnt, xrole, ylist, yplace, ysym, yimg, ystay, ywide, ymem, yreg, yout)) := by
  have hA : yreg a = xreg a := (hreg a ha).symm
  have hB : yreg b = xreg b := (hreg b hb).symm
  have hV : (if z = 0 then n else ymem (p + 1)) = (if z = 0 then n else xstore (p + 1)) := by
    by_cases h : z = 0
    · rw [if_pos h, if_pos h]
    · rw [if_neg h, if_neg h]; exact (hmem _ (hz h)).symm
  refine ⟨0, (if z = 0 then nI p + 1 else nI p + 2), s + 1, o, (upd xreg a (if xreg b ≤ xreg a then 0 else 1)), (upd yreg a (if xreg b ≤ xreg a then 0 else 1)), xstore, ymem, xout, yout, fun _ => rfl, Nat.le_refl _, by omega, ?_, ?_, ?_, fun post H => ly_X125 (hq := by omega) (hp := hp) (z := z) (n := n) (hz := hz) (H := ?_), fun post H => ly_Y139 (ha := ha) (hb := hb) (hp := hp) (z := z) (n := n) (hz := hz) (H := ?_)⟩
  · exact ly_AG_upd hreg _ _
  · exact hmem
  · exact hout
  · exact ly_X5 (ha := ha) (hb := hb) (z := z) (n := n) (H := H)
  · rw [hA, hB, hV]; exact ly_Y5 (ha := ha) (hs := rfl) (H := H)
theorem ly_core6 {xbase xstrip xllen xtend xaend xlcnt xlrnd xlinked xblamed xran : Int32} {xops xA xB xcnt xrole xloc xglo xweak xuse xrep xunit xtgt xstay xlong xlist xchosen xplace ximg xreg xstore xout : Nat → Int32} {ymany ytend yend ymade yrounds yentry : Int32} {ylist yplace ysym yimg ystay ywide ymem yreg yout : Nat → Int32} {a b p s o : Nat} (ha : a < 8) (hb : b < 8) (hp : p < 256) (z n : Int32) (hz : ¬ z = 0 → p + 1 < 256) (ho : o ≤ s) (hs : s < 300) (hreg : ly_AG 8 xreg yreg) (hmem : ly_AG 256 xstore ymem) (hout : ∀ k, k < 40 → xout k = if k < o then yout k else 0) {c : Nat} (hc : c < 256) (hr : xreg b = nI c) : ly_ST s (fun post => wX_step_125 post (nI 6) z (nI a) n (nI b) xbase xstrip xllen xtend xaend xlcnt xlrnd xlinked xblamed (nI o) (nI p) (nI s) xran xops xA xB xcnt xrole xloc xglo xweak xuse xrep xunit xtgt xstay xlong xlist xchosen xplace ximg xreg xstore xout) (fun post => wY_step_139 post (nI 6) (nI a) n (nI b) (nI p + 1) z xbase xstrip ymany xblamed ytend yend ymade yrounds yentry xlinked xran (nI p) (nI s) (nI o) xops xA xB xcnt xrole ylist yplace ysym yimg ystay ywide ymem yreg yout) (fun xouts xpc xsteps xreg xstore xout => (xbase, xstrip, xllen, xtend, xaend, xlcnt, xlrnd, xlinked, xblamed, xouts, xpc, xsteps, xran, xops, xA, xB, xcnt, xrole, xloc, xglo, xweak, xuse, xrep, xunit, xtgt, xstay, xlong, xlist, xchosen, xplace, ximg, xreg, xstore, xout)) (fun ypc ysteps youts ymem yreg yout => (xbase, xstrip, ymany, xblamed, ytend, yend, ymade, yrounds, yentry, xlinked, xran, ypc, ysteps, youts, xops, xA, xB, xcnt, xrole, ylist, yplace, ysym, yimg, ystay, ywide, ymem, yreg, yout)) := by
  have hA : yreg a = xreg a := (hreg a ha).symm
  have hB : yreg b = xreg b := (hreg b hb).symm
  have hV : (if z = 0 then n else ymem (p + 1)) = (if z = 0 then n else xstore (p + 1)) := by
    by_cases h : z = 0
    · rw [if_pos h, if_pos h]
    · rw [if_neg h, if_neg h]; exact (hmem _ (hz h)).symm
  refine ⟨0, (if z = 0 then nI p + 1 else nI p + 2), s + 1, o, (upd xreg a (xstore c)), (upd yreg a (ymem c)), xstore, ymem, xout, yout, fun _ => rfl, Nat.le_refl _, by omega, ?_, ?_, ?_, fun post H => ly_X125 (hq := by omega) (hp := hp) (z := z) (n := n) (hz := hz) (H := ?_), fun post H => ly_Y139 (ha := ha) (hb := hb) (hp := hp) (z := z) (n := n) (hz := hz) (H := ?_)⟩
  · rw [hmem c hc]; exact ly_AG_upd hreg _ _
  · exact hmem
  · exact hout
  · exact ly_X6 (ha := ha) (hb := hb) (z := z) (n := n) (hc := hc) (hr := hr) (H := H)
  · rw [hA, hB, hV]; exact ly_Y6 (ha := ha) (hs := rfl) (hc := hc) (hy := hr) (H := H)
theorem ly_core7 {xbase xstrip xllen xtend xaend xlcnt xlrnd xlinked xblamed xran : Int32} {xops xA xB xcnt xrole xloc xglo xweak xuse xrep xunit xtgt xstay xlong xlist xchosen xplace ximg xreg xstore xout : Nat → Int32} {ymany ytend yend ymade yrounds yentry : Int32} {ylist yplace ysym yimg ystay ywide ymem yreg yout : Nat → Int32} {a b p s o : Nat} (ha : a < 8) (hb : b < 8) (hp : p < 256) (z n : Int32) (hz : ¬ z = 0 → p + 1 < 256) (ho : o ≤ s) (hs : s < 300) (hreg : ly_AG 8 xreg yreg) (hmem : ly_AG 256 xstore ymem) (hout : ∀ k, k < 40 → xout k = if k < o then yout k else 0) {c : Nat} (hc : c < 256) (hr : xreg b = nI c) : ly_ST s (fun post => wX_step_125 post (nI 7) z (nI a) n (nI b) xbase xstrip xllen xtend xaend xlcnt xlrnd xlinked xblamed (nI o) (nI p) (nI s) xran xops xA xB xcnt xrole xloc xglo xweak xuse xrep xunit xtgt xstay xlong xlist xchosen xplace ximg xreg xstore xout) (fun post => wY_step_139 post (nI 7) (nI a) n (nI b) (nI p + 1) z xbase xstrip ymany xblamed ytend yend ymade yrounds yentry xlinked xran (nI p) (nI s) (nI o) xops xA xB xcnt xrole ylist yplace ysym yimg ystay ywide ymem yreg yout) (fun xouts xpc xsteps xreg xstore xout => (xbase, xstrip, xllen, xtend, xaend, xlcnt, xlrnd, xlinked, xblamed, xouts, xpc, xsteps, xran, xops, xA, xB, xcnt, xrole, xloc, xglo, xweak, xuse, xrep, xunit, xtgt, xstay, xlong, xlist, xchosen, xplace, ximg, xreg, xstore, xout)) (fun ypc ysteps youts ymem yreg yout => (xbase, xstrip, ymany, xblamed, ytend, yend, ymade, yrounds, yentry, xlinked, xran, ypc, ysteps, youts, xops, xA, xB, xcnt, xrole, ylist, yplace, ysym, yimg, ystay, ywide, ymem, yreg, yout)) := by
  have hA : yreg a = xreg a := (hreg a ha).symm
  have hB : yreg b = xreg b := (hreg b hb).symm
  have hV : (if z = 0 then n else ymem (p + 1)) = (if z = 0 then n else xstore (p + 1)) := by
    by_cases h : z = 0
    · rw [if_pos h, if_pos h]
    · rw [if_neg h, if_neg h]; exact (hmem _ (hz h)).symm
  refine ⟨0, (if z = 0 then nI p + 1 else nI p + 2), s + 1, o, xreg, yreg, (upd xstore c (xreg a)), (upd ymem c (xreg a)), xout, yout, fun _ => rfl, Nat.le_refl _, by omega, ?_, ?_, ?_, fun post H => ly_X125 (hq := by omega) (hp := hp) (z := z) (n := n) (hz := hz) (H := ?_), fun post H => ly_Y139 (ha := ha) (hb := hb) (hp := hp) (z := z) (n := n) (hz := hz) (H := ?_)⟩
  · exact hreg
  · exact ly_AG_upd hmem _ _
  · exact hout
  · exact ly_X7 (ha := ha) (hb := hb) (z := z) (n := n) (hc := hc) (hr := hr) (H := H)
  · rw [hA, hB, hV]; exact ly_Y7 (ha := ha) (hs := rfl) (hc := hc) (hy := hr) (H := H)
theorem ly_core8 {xbase xstrip xllen xtend xaend xlcnt xlrnd xlinked xblamed xran : Int32} {xops xA xB xcnt xrole xloc xglo xweak xuse xrep xunit xtgt xstay xlong xlist xchosen xplace ximg xreg xstore xout : Nat → Int32} {ymany ytend yend ymade yrounds yentry : Int32} {ylist yplace ysym yimg ystay ywide ymem yreg yout : Nat → Int32} {a b p s o : Nat} (ha : a < 8) (hb : b < 8) (hp : p < 256) (z n : Int32) (hz : ¬ z = 0 → p + 1 < 256) (ho : o ≤ s) (hs : s < 300) (hreg : ly_AG 8 xreg yreg) (hmem : ly_AG 256 xstore ymem) (hout : ∀ k, k < 40 → xout k = if k < o then yout k else 0) : ly_ST s (fun post => wX_step_125 post (nI 8) z (nI a) n (nI b) xbase xstrip xllen xtend xaend xlcnt xlrnd xlinked xblamed (nI o) (nI p) (nI s) xran xops xA xB xcnt xrole xloc xglo xweak xuse xrep xunit xtgt xstay xlong xlist xchosen xplace ximg xreg xstore xout) (fun post => wY_step_139 post (nI 8) (nI a) n (nI b) (nI p + 1) z xbase xstrip ymany xblamed ytend yend ymade yrounds yentry xlinked xran (nI p) (nI s) (nI o) xops xA xB xcnt xrole ylist yplace ysym yimg ystay ywide ymem yreg yout) (fun xouts xpc xsteps xreg xstore xout => (xbase, xstrip, xllen, xtend, xaend, xlcnt, xlrnd, xlinked, xblamed, xouts, xpc, xsteps, xran, xops, xA, xB, xcnt, xrole, xloc, xglo, xweak, xuse, xrep, xunit, xtgt, xstay, xlong, xlist, xchosen, xplace, ximg, xreg, xstore, xout)) (fun ypc ysteps youts ymem yreg yout => (xbase, xstrip, ymany, xblamed, ytend, yend, ymade, yrounds, yentry, xlinked, xran, ypc, ysteps, youts, xops, xA, xB, xcnt, xrole, ylist, yplace, ysym, yimg, ystay, ywide, ymem, yreg, yout)) := by
  have hA : yreg a = xreg a := (hreg a ha).symm
  have hB : yreg b = xreg b := (hreg b hb).symm
  have hV : (if z = 0 then n else ymem (p + 1)) = (if z = 0 then n else xstore (p + 1)) := by
    by_cases h : z = 0
    · rw [if_pos h, if_pos h]
    · rw [if_neg h, if_neg h]; exact (hmem _ (hz h)).symm
  refine ⟨0, (if z = 0 then nI p + n else (if z = 0 then n else xstore (p + 1))), s + 1, o, xreg, yreg, xstore, ymem, xout, yout, fun _ => rfl, Nat.le_refl _, by omega, ?_, ?_, ?_, fun post H => ly_X125 (hq := by omega) (hp := hp) (z := z) (n := n) (hz := hz) (H := ?_), fun post H => ly_Y139 (ha := ha) (hb := hb) (hp := hp) (z := z) (n := n) (hz := hz) (H := ?_)⟩
  · exact hreg
  · exact hmem
  · exact hout
  · exact ly_X8 (ha := ha) (hb := hb) (z := z) (n := n) (H := H)
  · rw [hA, hB, hV]; exact ly_Y8 (ha := ha) (hs := rfl) (H := H)
theorem ly_core9 {xbase xstrip xllen xtend xaend xlcnt xlrnd xlinked xblamed xran : Int32} {xops xA xB xcnt xrole xloc xglo xweak xuse xrep xunit xtgt xstay xlong xlist xchosen xplace ximg xreg xstore xout : Nat → Int32} {ymany ytend yend ymade yrounds yentry : Int32} {ylist yplace ysym yimg ystay ywide ymem yreg yout : Nat → Int32} {a b p s o : Nat} (ha : a < 8) (hb : b < 8) (hp : p < 256) (z n : Int32) (hz : ¬ z = 0 → p + 1 < 256) (ho : o ≤ s) (hs : s < 300) (hreg : ly_AG 8 xreg yreg) (hmem : ly_AG 256 xstore ymem) (hout : ∀ k, k < 40 → xout k = if k < o then yout k else 0) : ly_ST s (fun post => wX_step_125 post (nI 9) z (nI a) n (nI b) xbase xstrip xllen xtend xaend xlcnt xlrnd xlinked xblamed (nI o) (nI p) (nI s) xran xops xA xB xcnt xrole xloc xglo xweak xuse xrep xunit xtgt xstay xlong xlist xchosen xplace ximg xreg xstore xout) (fun post => wY_step_139 post (nI 9) (nI a) n (nI b) (nI p + 1) z xbase xstrip ymany xblamed ytend yend ymade yrounds yentry xlinked xran (nI p) (nI s) (nI o) xops xA xB xcnt xrole ylist yplace ysym yimg ystay ywide ymem yreg yout) (fun xouts xpc xsteps xreg xstore xout => (xbase, xstrip, xllen, xtend, xaend, xlcnt, xlrnd, xlinked, xblamed, xouts, xpc, xsteps, xran, xops, xA, xB, xcnt, xrole, xloc, xglo, xweak, xuse, xrep, xunit, xtgt, xstay, xlong, xlist, xchosen, xplace, ximg, xreg, xstore, xout)) (fun ypc ysteps youts ymem yreg yout => (xbase, xstrip, ymany, xblamed, ytend, yend, ymade, yrounds, yentry, xlinked, xran, ypc, ysteps, youts, xops, xA, xB, xcnt, xrole, ylist, yplace, ysym, yimg, ystay, ywide, ymem, yreg, yout)) := by
  have hA : yreg a = xreg a := (hreg a ha).symm
  have hB : yreg b = xreg b := (hreg b hb).symm
  have hV : (if z = 0 then n else ymem (p + 1)) = (if z = 0 then n else xstore (p + 1)) := by
    by_cases h : z = 0
    · rw [if_pos h, if_pos h]
    · rw [if_neg h, if_neg h]; exact (hmem _ (hz h)).symm
  refine ⟨0, (if xreg a = 0 then (if z = 0 then nI p + n else (if z = 0 then n else xstore (p + 1))) else (if z = 0 then nI p + 1 else nI p + 2)), s + 1, o, xreg, yreg, xstore, ymem, xout, yout, fun _ => rfl, Nat.le_refl _, by omega, ?_, ?_, ?_, fun post H => ly_X125 (hq := by omega) (hp := hp) (z := z) (n := n) (hz := hz) (H := ?_), fun post H => ly_Y139 (ha := ha) (hb := hb) (hp := hp) (z := z) (n := n) (hz := hz) (H := ?_)⟩
  · exact hreg
  · exact hmem
  · exact hout
  · exact ly_X9 (ha := ha) (hb := hb) (z := z) (n := n) (H := H)
  · rw [hA, hB, hV]; exact ly_Y9 (ha := ha) (hs := rfl) (H := H)
theorem ly_core10 {xbase xstrip xllen xtend xaend xlcnt xlrnd xlinked xblamed xran : Int32} {xops xA xB xcnt xrole xloc xglo xweak xuse xrep xunit xtgt xstay xlong xlist xchosen xplace ximg xreg xstore xout : Nat → Int32} {ymany ytend yend ymade yrounds yentry : Int32} {ylist yplace ysym yimg ystay ywide ymem yreg yout : Nat → Int32} {a b p s o : Nat} (ha : a < 8) (hb : b < 8) (hp : p < 256) (z n : Int32) (hz : ¬ z = 0 → p + 1 < 256) (ho : o ≤ s) (hs : s < 300) (hreg : ly_AG 8 xreg yreg) (hmem : ly_AG 256 xstore ymem) (hout : ∀ k, k < 40 → xout k = if k < o then yout k else 0) : ly_ST s (fun post => wX_step_125 post (nI 10) z (nI a) n (nI b) xbase xstrip xllen xtend xaend xlcnt xlrnd xlinked xblamed (nI o) (nI p) (nI s) xran xops xA xB xcnt xrole xloc xglo xweak xuse xrep xunit xtgt xstay xlong xlist xchosen xplace ximg xreg xstore xout) (fun post => wY_step_139 post (nI 10) (nI a) n (nI b) (nI p + 1) z xbase xstrip ymany xblamed ytend yend ymade yrounds yentry xlinked xran (nI p) (nI s) (nI o) xops xA xB xcnt xrole ylist yplace ysym yimg ystay ywide ymem yreg yout) (fun xouts xpc xsteps xreg xstore xout => (xbase, xstrip, xllen, xtend, xaend, xlcnt, xlrnd, xlinked, xblamed, xouts, xpc, xsteps, xran, xops, xA, xB, xcnt, xrole, xloc, xglo, xweak, xuse, xrep, xunit, xtgt, xstay, xlong, xlist, xchosen, xplace, ximg, xreg, xstore, xout)) (fun ypc ysteps youts ymem yreg yout => (xbase, xstrip, ymany, xblamed, ytend, yend, ymade, yrounds, yentry, xlinked, xran, ypc, ysteps, youts, xops, xA, xB, xcnt, xrole, ylist, yplace, ysym, yimg, ystay, ywide, ymem, yreg, yout)) := by
  have hA : yreg a = xreg a := (hreg a ha).symm
  have hB : yreg b = xreg b := (hreg b hb).symm
  have hV : (if z = 0 then n else ymem (p + 1)) = (if z = 0 then n else xstore (p + 1)) := by
    by_cases h : z = 0
    · rw [if_pos h, if_pos h]
    · rw [if_neg h, if_neg h]; exact (hmem _ (hz h)).symm
  refine ⟨0, (if z = 0 then nI p + n else (if z = 0 then n else xstore (p + 1))), s + 1, o, (upd xreg 7 (if z = 0 then nI p + 1 else nI p + 2)), (upd yreg 7 (if z = 0 then nI p + 1 else nI p + 2)), xstore, ymem, xout, yout, fun _ => rfl, Nat.le_refl _, by omega, ?_, ?_, ?_, fun post H => ly_X125 (hq := by omega) (hp := hp) (z := z) (n := n) (hz := hz) (H := ?_), fun post H => ly_Y139 (ha := ha) (hb := hb) (hp := hp) (z := z) (n := n) (hz := hz) (H := ?_)⟩
  · exact ly_AG_upd hreg _ _
  · exact hmem
  · exact hout
  · exact ly_X10 (ha := ha) (hb := hb) (z := z) (n := n) (H := H)
  · rw [hA, hB, hV]; exact ly_Y10 (ha := ha) (hs := rfl) (H := H)
theorem ly_core11 {xbase xstrip xllen xtend xaend xlcnt xlrnd xlinked xblamed xran : Int32} {xops xA xB xcnt xrole xloc xglo xweak xuse xrep xunit xtgt xstay xlong xlist xchosen xplace ximg xreg xstore xout : Nat → Int32} {ymany ytend yend ymade yrounds yentry : Int32} {ylist yplace ysym yimg ystay ywide ymem yreg yout : Nat → Int32} {a b p s o : Nat} (ha : a < 8) (hb : b < 8) (hp : p < 256) (z n : Int32) (hz : ¬ z = 0 → p + 1 < 256) (ho : o ≤ s) (hs : s < 300) (hreg : ly_AG 8 xreg yreg) (hmem : ly_AG 256 xstore ymem) (hout : ∀ k, k < 40 → xout k = if k < o then yout k else 0) : ly_ST s (fun post => wX_step_125 post (nI 11) z (nI a) n (nI b) xbase xstrip xllen xtend xaend xlcnt xlrnd xlinked xblamed (nI o) (nI p) (nI s) xran xops xA xB xcnt xrole xloc xglo xweak xuse xrep xunit xtgt xstay xlong xlist xchosen xplace ximg xreg xstore xout) (fun post => wY_step_139 post (nI 11) (nI a) n (nI b) (nI p + 1) z xbase xstrip ymany xblamed ytend yend ymade yrounds yentry xlinked xran (nI p) (nI s) (nI o) xops xA xB xcnt xrole ylist yplace ysym yimg ystay ywide ymem yreg yout) (fun xouts xpc xsteps xreg xstore xout => (xbase, xstrip, xllen, xtend, xaend, xlcnt, xlrnd, xlinked, xblamed, xouts, xpc, xsteps, xran, xops, xA, xB, xcnt, xrole, xloc, xglo, xweak, xuse, xrep, xunit, xtgt, xstay, xlong, xlist, xchosen, xplace, ximg, xreg, xstore, xout)) (fun ypc ysteps youts ymem yreg yout => (xbase, xstrip, ymany, xblamed, ytend, yend, ymade, yrounds, yentry, xlinked, xran, ypc, ysteps, youts, xops, xA, xB, xcnt, xrole, ylist, yplace, ysym, yimg, ystay, ywide, ymem, yreg, yout)) := by
  have hA : yreg a = xreg a := (hreg a ha).symm
  have hB : yreg b = xreg b := (hreg b hb).symm
  have hV : (if z = 0 then n else ymem (p + 1)) = (if z = 0 then n else xstore (p + 1)) := by
    by_cases h : z = 0
    · rw [if_pos h, if_pos h]
    · rw [if_neg h, if_neg h]; exact (hmem _ (hz h)).symm
  refine ⟨0, (xreg 7), s + 1, o, xreg, yreg, xstore, ymem, xout, yout, fun _ => rfl, Nat.le_refl _, by omega, ?_, ?_, ?_, fun post H => ly_X125 (hq := by omega) (hp := hp) (z := z) (n := n) (hz := hz) (H := ?_), fun post H => ly_Y139 (ha := ha) (hb := hb) (hp := hp) (z := z) (n := n) (hz := hz) (H := ?_)⟩
  · exact hreg
  · exact hmem
  · exact hout
  · exact ly_X11 (ha := ha) (hb := hb) (z := z) (n := n) (H := H)
  · rw [hA, hB, hV]; exact ly_Y11 (ha := ha) (hs := rfl) (H := by rw [← hreg 7 (by omega)]; exact H)
theorem ly_core13 {xbase xstrip xllen xtend xaend xlcnt xlrnd xlinked xblamed xran : Int32} {xops xA xB xcnt xrole xloc xglo xweak xuse xrep xunit xtgt xstay xlong xlist xchosen xplace ximg xreg xstore xout : Nat → Int32} {ymany ytend yend ymade yrounds yentry : Int32} {ylist yplace ysym yimg ystay ywide ymem yreg yout : Nat → Int32} {a b p s o : Nat} (ha : a < 8) (hb : b < 8) (hp : p < 256) (z n : Int32) (hz : ¬ z = 0 → p + 1 < 256) (ho : o ≤ s) (hs : s < 300) (hreg : ly_AG 8 xreg yreg) (hmem : ly_AG 256 xstore ymem) (hout : ∀ k, k < 40 → xout k = if k < o then yout k else 0) : ly_ST s (fun post => wX_step_125 post (nI 13) z (nI a) n (nI b) xbase xstrip xllen xtend xaend xlcnt xlrnd xlinked xblamed (nI o) (nI p) (nI s) xran xops xA xB xcnt xrole xloc xglo xweak xuse xrep xunit xtgt xstay xlong xlist xchosen xplace ximg xreg xstore xout) (fun post => wY_step_139 post (nI 13) (nI a) n (nI b) (nI p + 1) z xbase xstrip ymany xblamed ytend yend ymade yrounds yentry xlinked xran (nI p) (nI s) (nI o) xops xA xB xcnt xrole ylist yplace ysym yimg ystay ywide ymem yreg yout) (fun xouts xpc xsteps xreg xstore xout => (xbase, xstrip, xllen, xtend, xaend, xlcnt, xlrnd, xlinked, xblamed, xouts, xpc, xsteps, xran, xops, xA, xB, xcnt, xrole, xloc, xglo, xweak, xuse, xrep, xunit, xtgt, xstay, xlong, xlist, xchosen, xplace, ximg, xreg, xstore, xout)) (fun ypc ysteps youts ymem yreg yout => (xbase, xstrip, ymany, xblamed, ytend, yend, ymade, yrounds, yentry, xlinked, xran, ypc, ysteps, youts, xops, xA, xB, xcnt, xrole, ylist, yplace, ysym, yimg, ystay, ywide, ymem, yreg, yout)) := by
  have hA : yreg a = xreg a := (hreg a ha).symm
  have hB : yreg b = xreg b := (hreg b hb).symm
  have hV : (if z = 0 then n else ymem (p + 1)) = (if z = 0 then n else xstore (p + 1)) := by
    by_cases h : z = 0
    · rw [if_pos h, if_pos h]
    · rw [if_neg h, if_neg h]; exact (hmem _ (hz h)).symm
  refine ⟨0, (if z = 0 then nI p + 1 else nI p + 2), s + 1, (o + 1), xreg, yreg, xstore, ymem, (if o < 40 then upd xout o (xreg a) else xout), (if o < 40 then upd yout o (xreg a) else yout), fun _ => rfl, Nat.le_refl _, by omega, ?_, ?_, ?_, fun post H => ly_X125 (hq := by omega) (hp := hp) (z := z) (n := n) (hz := hz) (H := ?_), fun post H => ly_Y139 (ha := ha) (hb := hb) (hp := hp) (z := z) (n := n) (hz := hz) (H := ?_)⟩
  · exact hreg
  · exact hmem
  · intro k hk
    by_cases h : o < 40
    · rw [if_pos h, if_pos h]
      by_cases e : k = o
      · subst e; rw [pk_us, pk_us, if_pos (by omega)]
      · rw [pk_un e, pk_un e, hout k hk]
        by_cases h1 : k < o
        · rw [if_pos h1, if_pos (by omega)]
        · rw [if_neg h1, if_neg (by omega)]
    · rw [if_neg h, if_neg h, hout k hk, if_pos (by omega), if_pos (by omega)]
  · exact ly_X13 (ha := ha) (hb := hb) (z := z) (n := n) (hw := rfl) (hwb := by omega) (H := H)
  · rw [hA, hB, hV]; exact ly_Y13 (ha := ha) (hs := rfl) (hw := rfl) (hwb := by omega) (H := H)
theorem ly_core14 {xbase xstrip xllen xtend xaend xlcnt xlrnd xlinked xblamed xran : Int32} {xops xA xB xcnt xrole xloc xglo xweak xuse xrep xunit xtgt xstay xlong xlist xchosen xplace ximg xreg xstore xout : Nat → Int32} {ymany ytend yend ymade yrounds yentry : Int32} {ylist yplace ysym yimg ystay ywide ymem yreg yout : Nat → Int32} {a b p s o : Nat} (ha : a < 8) (hb : b < 8) (hp : p < 256) (z n : Int32) (hz : ¬ z = 0 → p + 1 < 256) (ho : o ≤ s) (hs : s < 300) (hreg : ly_AG 8 xreg yreg) (hmem : ly_AG 256 xstore ymem) (hout : ∀ k, k < 40 → xout k = if k < o then yout k else 0) : ly_ST s (fun post => wX_step_125 post (nI 14) z (nI a) n (nI b) xbase xstrip xllen xtend xaend xlcnt xlrnd xlinked xblamed (nI o) (nI p) (nI s) xran xops xA xB xcnt xrole xloc xglo xweak xuse xrep xunit xtgt xstay xlong xlist xchosen xplace ximg xreg xstore xout) (fun post => wY_step_139 post (nI 14) (nI a) n (nI b) (nI p + 1) z xbase xstrip ymany xblamed ytend yend ymade yrounds yentry xlinked xran (nI p) (nI s) (nI o) xops xA xB xcnt xrole ylist yplace ysym yimg ystay ywide ymem yreg yout) (fun xouts xpc xsteps xreg xstore xout => (xbase, xstrip, xllen, xtend, xaend, xlcnt, xlrnd, xlinked, xblamed, xouts, xpc, xsteps, xran, xops, xA, xB, xcnt, xrole, xloc, xglo, xweak, xuse, xrep, xunit, xtgt, xstay, xlong, xlist, xchosen, xplace, ximg, xreg, xstore, xout)) (fun ypc ysteps youts ymem yreg yout => (xbase, xstrip, ymany, xblamed, ytend, yend, ymade, yrounds, yentry, xlinked, xran, ypc, ysteps, youts, xops, xA, xB, xcnt, xrole, ylist, yplace, ysym, yimg, ystay, ywide, ymem, yreg, yout)) := by
  refine ⟨5, nI p, s + 1, o, xreg, yreg, xstore, ymem, xout, yout, fun h => absurd h (by decide), Nat.le_refl _, by omega, hreg, hmem, hout, fun post H => nm_r (nI_1 s) (br_t rfl H), fun post H => ly_Y139 (ha := ha) (hb := hb) (hp := hp) (z := z) (n := n) (hz := hz) (H := ?_)⟩
  exact ly_Y14 (ha := ha) (hs := rfl) (H := H)
theorem ly_core {xbase xstrip xllen xtend xaend xlcnt xlrnd xlinked xblamed xran : Int32} {xops xA xB xcnt xrole xloc xglo xweak xuse xrep xunit xtgt xstay xlong xlist xchosen xplace ximg xreg xstore xout : Nat → Int32} {ymany ytend yend ymade yrounds yentry : Int32} {ylist yplace ysym yimg ystay ywide ymem yreg yout : Nat → Int32} {a b p s o : Nat} (ha : a < 8) (hb : b < 8) (hp : p < 256) (z n : Int32) (hz : ¬ z = 0 → p + 1 < 256) (ho : o ≤ s) (hs : s < 300) (hreg : ly_AG 8 xreg yreg) (hmem : ly_AG 256 xstore ymem) (hout : ∀ k, k < 40 → xout k = if k < o then yout k else 0) {q : Nat} (h1 : 1 ≤ q) (h14 : q ≤ 14) (hr : q = 6 ∨ q = 7 → ∃ c : Nat, c < 256 ∧ xreg b = nI c) : ly_ST s (fun post => wX_step_125 post (nI q) z (nI a) n (nI b) xbase xstrip xllen xtend xaend xlcnt xlrnd xlinked xblamed (nI o) (nI p) (nI s) xran xops xA xB xcnt xrole xloc xglo xweak xuse xrep xunit xtgt xstay xlong xlist xchosen xplace ximg xreg xstore xout) (fun post => wY_step_139 post (nI q) (nI a) n (nI b) (nI p + 1) z xbase xstrip ymany xblamed ytend yend ymade yrounds yentry xlinked xran (nI p) (nI s) (nI o) xops xA xB xcnt xrole ylist yplace ysym yimg ystay ywide ymem yreg yout) (fun xouts xpc xsteps xreg xstore xout => (xbase, xstrip, xllen, xtend, xaend, xlcnt, xlrnd, xlinked, xblamed, xouts, xpc, xsteps, xran, xops, xA, xB, xcnt, xrole, xloc, xglo, xweak, xuse, xrep, xunit, xtgt, xstay, xlong, xlist, xchosen, xplace, ximg, xreg, xstore, xout)) (fun ypc ysteps youts ymem yreg yout => (xbase, xstrip, ymany, xblamed, ytend, yend, ymade, yrounds, yentry, xlinked, xran, ypc, ysteps, youts, xops, xA, xB, xcnt, xrole, ylist, yplace, ysym, yimg, ystay, ywide, ymem, yreg, yout)) := by
  have h : q = 1 ∨ q = 2 ∨ q = 3 ∨ q = 4 ∨ q = 5 ∨ q = 6 ∨ q = 7 ∨ q = 8 ∨ q = 9 ∨ q = 10 ∨ q = 11 ∨ q = 12 ∨ q = 13 ∨ q = 14 := by omega
  rcases h with rfl | rfl | rfl | rfl | rfl | rfl | rfl | rfl | rfl | rfl | rfl | rfl | rfl | rfl
  · exact ly_core1 (ha := ha) (hb := hb) (hp := hp) (z := z) (n := n) (hz := hz) (ho := ho) (hs := hs) (hreg := hreg) (hmem := hmem) (hout := hout) 
  · exact ly_core2 (ha := ha) (hb := hb) (hp := hp) (z := z) (n := n) (hz := hz) (ho := ho) (hs := hs) (hreg := hreg) (hmem := hmem) (hout := hout) 
  · exact ly_core3 (ha := ha) (hb := hb) (hp := hp) (z := z) (n := n) (hz := hz) (ho := ho) (hs := hs) (hreg := hreg) (hmem := hmem) (hout := hout) 
  · exact ly_core4 (ha := ha) (hb := hb) (hp := hp) (z := z) (n := n) (hz := hz) (ho := ho) (hs := hs) (hreg := hreg) (hmem := hmem) (hout := hout) 
  · exact ly_core5 (ha := ha) (hb := hb) (hp := hp) (z := z) (n := n) (hz := hz) (ho := ho) (hs := hs) (hreg := hreg) (hmem := hmem) (hout := hout) 
  · obtain ⟨c, hc, hr⟩ := hr (by omega)
    exact ly_core6 (ha := ha) (hb := hb) (hp := hp) (z := z) (n := n) (hz := hz) (ho := ho) (hs := hs) (hreg := hreg) (hmem := hmem) (hout := hout) (hc := hc) (hr := hr) 
  · obtain ⟨c, hc, hr⟩ := hr (by omega)
    exact ly_core7 (ha := ha) (hb := hb) (hp := hp) (z := z) (n := n) (hz := hz) (ho := ho) (hs := hs) (hreg := hreg) (hmem := hmem) (hout := hout) (hc := hc) (hr := hr) 
  · exact ly_core8 (ha := ha) (hb := hb) (hp := hp) (z := z) (n := n) (hz := hz) (ho := ho) (hs := hs) (hreg := hreg) (hmem := hmem) (hout := hout) 
  · exact ly_core9 (ha := ha) (hb := hb) (hp := hp) (z := z) (n := n) (hz := hz) (ho := ho) (hs := hs) (hreg := hreg) (hmem := hmem) (hout := hout) 
  · exact ly_core10 (ha := ha) (hb := hb) (hp := hp) (z := z) (n := n) (hz := hz) (ho := ho) (hs := hs) (hreg := hreg) (hmem := hmem) (hout := hout) 
  · exact ly_core11 (ha := ha) (hb := hb) (hp := hp) (z := z) (n := n) (hz := hz) (ho := ho) (hs := hs) (hreg := hreg) (hmem := hmem) (hout := hout) 
  · exact ly_core12 (ha := ha) (hb := hb) (hp := hp) (z := z) (n := n) (hz := hz) (ho := ho) (hs := hs) (hreg := hreg) (hmem := hmem) (hout := hout) 
  · exact ly_core13 (ha := ha) (hb := hb) (hp := hp) (z := z) (n := n) (hz := hz) (ho := ho) (hs := hs) (hreg := hreg) (hmem := hmem) (hout := hout) 
  · exact ly_core14 (ha := ha) (hb := hb) (hp := hp) (z := z) (n := n) (hz := hz) (ho := ho) (hs := hs) (hreg := hreg) (hmem := hmem) (hout := hout) 

/-! the image: X and Y -/
def ly_ro (o a : Int32) : Int32 := if o = 8 ∨ o = 10 ∨ o = 11 ∨ o = 14 then 0 else a
def ly_lo (o b p gl : Int32) : Int32 := if o = 8 ∨ o = 9 ∨ o = 10 then gl - p else if o = 12 then gl else if o = 11 ∨ o = 13 ∨ o = 14 then 0 else b
def ly_w1 (o a b p gl : Int32) : Int32 := ((o <<< ((24 : Int32) &&& 31)) + (ly_ro o a <<< ((20 : Int32) &&& 31))) + (ly_lo o b p gl &&& 65535)
def ly_iw (o a b : Int32) (p : Nat) (gl h : Int32) (img : Nat → Int32) : Nat → Int32 :=
  if o = 0 ∨ o = 17 ∨ o = 18 ∨ o = 19 then img else if o = 15 then upd img p b else if o = 16 then upd img p (gl + b) else if h = 0 then upd img p (ly_w1 o a b (nI p) gl) else upd (upd img p (ly_w1 o a b (nI p) gl + 65536)) (p + 1) (if o = 1 then b else gl)
theorem ly_xlow {post : Int32 → Prop} {xbase xstrip xllen xtend xaend xlcnt xlrnd xlinked xblamed xouts xpc xsteps xran : Int32} {xops xA xB xcnt xrole xloc xglo xweak xuse xrep xunit xtgt xstay xlong xlist xchosen xplace ximg xreg xstore xout : Nat → Int32} (hF : ly_F xops xA xB) {i : Nat} (hi : i < 144) (gl : Int32) (H : post (ly_lo (xops i) (xB i) (xplace i) gl)) : wpX_lowPart post (xbase, xstrip, xllen, xtend, xaend, xlcnt, xlrnd, xlinked, xblamed, xouts, xpc, xsteps, xran, xops, xA, xB, xcnt, xrole, xloc, xglo, xweak, xuse, xrep, xunit, xtgt, xstay, xlong, xlist, xchosen, xplace, ximg, xreg, xstore, xout) (nI i) gl := by
  have vi : vp_in (nI i) 144 := vp_in_nI hi (by omega)
  obtain ⟨op, hop, eo, _⟩ := hF i hi
  unfold wpX_lowPart
  dsimp only
  rw [ly_cl (i := i) (by omega)]
  refine ⟨vi, nm_r eo ?_⟩
  unfold ly_lo at H
  rw [eo] at H
  have h : op = 0 ∨ op = 1 ∨ op = 2 ∨ op = 3 ∨ op = 4 ∨ op = 5 ∨ op = 6 ∨ op = 7 ∨ op = 8 ∨ op = 9 ∨ op = 10 ∨ op = 11 ∨ op = 12 ∨ op = 13 ∨ op = 14 ∨ op = 15 ∨ op = 16 ∨ op = 17 ∨ op = 18 ∨ op = 19 := by omega
  rcases h with rfl | rfl | rfl | rfl | rfl | rfl | rfl | rfl | rfl | rfl | rfl | rfl | rfl | rfl | rfl | rfl | rfl | rfl | rfl | rfl
  · rw [if_neg (by decide), if_neg (by decide), if_neg (by decide)] at H; (repeat (first | refine br_t (by decide) ?_ | refine br_f (by decide) ?_)); exact ⟨vi, H⟩
  · rw [if_neg (by decide), if_neg (by decide), if_neg (by decide)] at H; (repeat (first | refine br_t (by decide) ?_ | refine br_f (by decide) ?_)); exact ⟨vi, H⟩
  · rw [if_neg (by decide), if_neg (by decide), if_neg (by decide)] at H; (repeat (first | refine br_t (by decide) ?_ | refine br_f (by decide) ?_)); exact ⟨vi, H⟩
  · rw [if_neg (by decide), if_neg (by decide), if_neg (by decide)] at H; (repeat (first | refine br_t (by decide) ?_ | refine br_f (by decide) ?_)); exact ⟨vi, H⟩
  · rw [if_neg (by decide), if_neg (by decide), if_neg (by decide)] at H; (repeat (first | refine br_t (by decide) ?_ | refine br_f (by decide) ?_)); exact ⟨vi, H⟩
  · rw [if_neg (by decide), if_neg (by decide), if_neg (by decide)] at H; (repeat (first | refine br_t (by decide) ?_ | refine br_f (by decide) ?_)); exact ⟨vi, H⟩
  · rw [if_neg (by decide), if_neg (by decide), if_neg (by decide)] at H; (repeat (first | refine br_t (by decide) ?_ | refine br_f (by decide) ?_)); exact ⟨vi, H⟩
  · rw [if_neg (by decide), if_neg (by decide), if_neg (by decide)] at H; (repeat (first | refine br_t (by decide) ?_ | refine br_f (by decide) ?_)); exact ⟨vi, H⟩
  · rw [if_pos (by decide)] at H; (repeat (first | refine br_t (by decide) ?_ | refine br_f (by decide) ?_)); exact ⟨vi, H⟩
  · rw [if_pos (by decide)] at H; (repeat (first | refine br_t (by decide) ?_ | refine br_f (by decide) ?_)); exact ⟨vi, H⟩
  · rw [if_pos (by decide)] at H; (repeat (first | refine br_t (by decide) ?_ | refine br_f (by decide) ?_)); exact ⟨vi, H⟩
  · rw [if_neg (by decide), if_neg (by decide), if_pos (by decide)] at H; (repeat (first | refine br_t (by decide) ?_ | refine br_f (by decide) ?_)); exact H
  · rw [if_neg (by decide), if_pos (by decide)] at H; (repeat (first | refine br_t (by decide) ?_ | refine br_f (by decide) ?_)); exact H
  · rw [if_neg (by decide), if_neg (by decide), if_pos (by decide)] at H; (repeat (first | refine br_t (by decide) ?_ | refine br_f (by decide) ?_)); exact H
  · rw [if_neg (by decide), if_neg (by decide), if_pos (by decide)] at H; (repeat (first | refine br_t (by decide) ?_ | refine br_f (by decide) ?_)); exact H
  · rw [if_neg (by decide), if_neg (by decide), if_neg (by decide)] at H; (repeat (first | refine br_t (by decide) ?_ | refine br_f (by decide) ?_)); exact ⟨vi, H⟩
  · rw [if_neg (by decide), if_neg (by decide), if_neg (by decide)] at H; (repeat (first | refine br_t (by decide) ?_ | refine br_f (by decide) ?_)); exact ⟨vi, H⟩
  · rw [if_neg (by decide), if_neg (by decide), if_neg (by decide)] at H; (repeat (first | refine br_t (by decide) ?_ | refine br_f (by decide) ?_)); exact ⟨vi, H⟩
  · rw [if_neg (by decide), if_neg (by decide), if_neg (by decide)] at H; (repeat (first | refine br_t (by decide) ?_ | refine br_f (by decide) ?_)); exact ⟨vi, H⟩
  · rw [if_neg (by decide), if_neg (by decide), if_neg (by decide)] at H; (repeat (first | refine br_t (by decide) ?_ | refine br_f (by decide) ?_)); exact ⟨vi, H⟩
theorem ly_xreg {post : Int32 → Prop} {xbase xstrip xllen xtend xaend xlcnt xlrnd xlinked xblamed xouts xpc xsteps xran : Int32} {xops xA xB xcnt xrole xloc xglo xweak xuse xrep xunit xtgt xstay xlong xlist xchosen xplace ximg xreg xstore xout : Nat → Int32} (hF : ly_F xops xA xB) {i : Nat} (hi : i < 144) (H : post (ly_ro (xops i) (xA i))) : wpX_registerOf post (xbase, xstrip, xllen, xtend, xaend, xlcnt, xlrnd, xlinked, xblamed, xouts, xpc, xsteps, xran, xops, xA, xB, xcnt, xrole, xloc, xglo, xweak, xuse, xrep, xunit, xtgt, xstay, xlong, xlist, xchosen, xplace, ximg, xreg, xstore, xout) (nI i) := by
  have vi : vp_in (nI i) 144 := vp_in_nI hi (by omega)
  obtain ⟨op, hop, eo, _⟩ := hF i hi
  unfold wpX_registerOf
  dsimp only
  rw [ly_cl (i := i) (by omega)]
  refine ⟨vi, nm_r eo ?_⟩
  unfold ly_ro at H
  rw [eo] at H
  have h : op = 0 ∨ op = 1 ∨ op = 2 ∨ op = 3 ∨ op = 4 ∨ op = 5 ∨ op = 6 ∨ op = 7 ∨ op = 8 ∨ op = 9 ∨ op = 10 ∨ op = 11 ∨ op = 12 ∨ op = 13 ∨ op = 14 ∨ op = 15 ∨ op = 16 ∨ op = 17 ∨ op = 18 ∨ op = 19 := by omega
  rcases h with rfl | rfl | rfl | rfl | rfl | rfl | rfl | rfl | rfl | rfl | rfl | rfl | rfl | rfl | rfl | rfl | rfl | rfl | rfl | rfl
  · rw [if_neg (by decide)] at H; (repeat (first | refine br_t (by decide) ?_ | refine br_f (by decide) ?_)); exact ⟨vi, H⟩
  · rw [if_neg (by decide)] at H; (repeat (first | refine br_t (by decide) ?_ | refine br_f (by decide) ?_)); exact ⟨vi, H⟩
  · rw [if_neg (by decide)] at H; (repeat (first | refine br_t (by decide) ?_ | refine br_f (by decide) ?_)); exact ⟨vi, H⟩
  · rw [if_neg (by decide)] at H; (repeat (first | refine br_t (by decide) ?_ | refine br_f (by decide) ?_)); exact ⟨vi, H⟩
  · rw [if_neg (by decide)] at H; (repeat (first | refine br_t (by decide) ?_ | refine br_f (by decide) ?_)); exact ⟨vi, H⟩
  · rw [if_neg (by decide)] at H; (repeat (first | refine br_t (by decide) ?_ | refine br_f (by decide) ?_)); exact ⟨vi, H⟩
  · rw [if_neg (by decide)] at H; (repeat (first | refine br_t (by decide) ?_ | refine br_f (by decide) ?_)); exact ⟨vi, H⟩
  · rw [if_neg (by decide)] at H; (repeat (first | refine br_t (by decide) ?_ | refine br_f (by decide) ?_)); exact ⟨vi, H⟩
  · rw [if_pos (by decide)] at H; (repeat (first | refine br_t (by decide) ?_ | refine br_f (by decide) ?_)); exact H
  · rw [if_neg (by decide)] at H; (repeat (first | refine br_t (by decide) ?_ | refine br_f (by decide) ?_)); exact ⟨vi, H⟩
  · rw [if_pos (by decide)] at H; (repeat (first | refine br_t (by decide) ?_ | refine br_f (by decide) ?_)); exact H
  · rw [if_pos (by decide)] at H; (repeat (first | refine br_t (by decide) ?_ | refine br_f (by decide) ?_)); exact H
  · rw [if_neg (by decide)] at H; (repeat (first | refine br_t (by decide) ?_ | refine br_f (by decide) ?_)); exact ⟨vi, H⟩
  · rw [if_neg (by decide)] at H; (repeat (first | refine br_t (by decide) ?_ | refine br_f (by decide) ?_)); exact ⟨vi, H⟩
  · rw [if_pos (by decide)] at H; (repeat (first | refine br_t (by decide) ?_ | refine br_f (by decide) ?_)); exact H
  · rw [if_neg (by decide)] at H; (repeat (first | refine br_t (by decide) ?_ | refine br_f (by decide) ?_)); exact ⟨vi, H⟩
  · rw [if_neg (by decide)] at H; (repeat (first | refine br_t (by decide) ?_ | refine br_f (by decide) ?_)); exact ⟨vi, H⟩
  · rw [if_neg (by decide)] at H; (repeat (first | refine br_t (by decide) ?_ | refine br_f (by decide) ?_)); exact ⟨vi, H⟩
  · rw [if_neg (by decide)] at H; (repeat (first | refine br_t (by decide) ?_ | refine br_f (by decide) ?_)); exact ⟨vi, H⟩
  · rw [if_neg (by decide)] at H; (repeat (first | refine br_t (by decide) ?_ | refine br_f (by decide) ?_)); exact ⟨vi, H⟩
theorem ly_xpw {post : SX → Prop} {xbase xstrip xllen xtend xaend xlcnt xlrnd xlinked xblamed xouts xpc xsteps xran : Int32} {xops xA xB xcnt xrole xloc xglo xweak xuse xrep xunit xtgt xstay xlong xlist xchosen xplace ximg xreg xstore xout : Nat → Int32} {p : Nat} (hp : p < 256) (v : Int32) (H : post (xbase, xstrip, xllen, xtend, xaend, xlcnt, xlrnd, xlinked, xblamed, xouts, xpc, xsteps, xran, xops, xA, xB, xcnt, xrole, xloc, xglo, xweak, xuse, xrep, xunit, xtgt, xstay, xlong, xlist, xchosen, xplace, upd ximg p v, xreg, xstore, xout)) : wpX_putWord post (xbase, xstrip, xllen, xtend, xaend, xlcnt, xlrnd, xlinked, xblamed, xouts, xpc, xsteps, xran, xops, xA, xB, xcnt, xrole, xloc, xglo, xweak, xuse, xrep, xunit, xtgt, xstay, xlong, xlist, xchosen, xplace, ximg, xreg, xstore, xout) (nI p) v := by
  unfold wpX_putWord
  exact ly_xadr1 hp (br_f (by decide) ⟨vp_in_nI hp (by omega), nm_r (e' := upd ximg p v) (by rw [ly_cl (i := p) (by omega)]) H⟩)
theorem ly_x69 {post : SX → Prop} {xbase xstrip xllen xtend xaend xlcnt xlrnd xlinked xblamed xouts xpc xsteps xran : Int32} {xops xA xB xcnt xrole xloc xglo xweak xuse xrep xunit xtgt xstay xlong xlist xchosen xplace ximg xreg xstore xout : Nat → Int32} {p : Nat} (hp : p + 1 < 256) (v z : Int32) (H : post (xbase, xstrip, xllen, xtend, xaend, xlcnt, xlrnd, xlinked, xblamed, xouts, xpc, xsteps, xran, xops, xA, xB, xcnt, xrole, xloc, xglo, xweak, xuse, xrep, xunit, xtgt, xstay, xlong, xlist, xchosen, xplace, upd (upd ximg p (v + 65536)) (p + 1) z, xreg, xstore, xout)) : wX_fillInstruction_69 post (nI p) v z xbase xstrip xllen xtend xaend xlcnt xlrnd xlinked xblamed xouts xpc xsteps xran xops xA xB xcnt xrole xloc xglo xweak xuse xrep xunit xtgt xstay xlong xlist xchosen xplace ximg xreg xstore xout := by
  refine ly_xpw (hp := by omega) (v := v + 65536) (H := ?_)
  dsimp only
  rw [nI_1]
  exact ly_xpw (hp := hp) (v := z) (H := H)
theorem ly_xfi {post : SX → Prop} {xbase xstrip xllen xtend xaend xlcnt xlrnd xlinked xblamed xouts xpc xsteps xran : Int32} {xops xA xB xcnt xrole xloc xglo xweak xuse xrep xunit xtgt xstay xlong xlist xchosen xplace ximg xreg xstore xout : Nat → Int32} (hF : ly_F xops xA xB) {i p : Nat} (hi : i < 144) (ep : xplace i = nI p) (hp : p < 256) (hl : xlong i = 0 ∨ xlong i = 1) (h2 : ¬ ly_h2 xops xB xlong i = 0 → p + 1 < 256) (gl : Int32)
    (H : post (xbase, xstrip, xllen, xtend, xaend, xlcnt, xlrnd, xlinked, xblamed, xouts, xpc, xsteps, xran, xops, xA, xB, xcnt, xrole, xloc, xglo, xweak, xuse, xrep, xunit, xtgt, xstay, xlong, xlist, xchosen, xplace, if ly_h2 xops xB xlong i = 0 then upd ximg p (ly_w1 (xops i) (xA i) (xB i) (nI p) gl) else upd (upd ximg p (ly_w1 (xops i) (xA i) (xB i) (nI p) gl + 65536)) (p + 1) (if xops i = 1 then xB i else gl), xreg, xstore, xout)) : wpX_fillInstruction post (xbase, xstrip, xllen, xtend, xaend, xlcnt, xlrnd, xlinked, xblamed, xouts, xpc, xsteps, xran, xops, xA, xB, xcnt, xrole, xloc, xglo, xweak, xuse, xrep, xunit, xtgt, xstay, xlong, xlist, xchosen, xplace, ximg, xreg, xstore, xout) (nI i) gl := by
  have vi : vp_in (nI i) 144 := vp_in_nI hi (by omega)
  have ei : (nI i).toNatClampNeg = i := ly_cl (by omega)
  unfold wpX_fillInstruction
  dsimp only
  rw [ei]
  refine ⟨vi, nm_r ep (ly_xlow (hF := hF) (hi := hi) (gl := gl) (H := nm_e ⟨vi, ly_xreg (hF := hF) (hi := hi) (H := nm_r (e' := ly_w1 (xops i) (xA i) (xB i) (nI p) gl) ?_ (ly_xh2 (hi := hi) (hl := hl) (H := ?_)))⟩))⟩
  · rw [ep]; rfl
  · by_cases z : ly_h2 xops xB xlong i = 0
    · rw [if_pos z] at H
      exact br_t z (ly_xpw (hp := hp) (v := _) (H := H))
    · rw [if_neg z] at H
      refine br_f z ⟨vi, ?_⟩
      by_cases c1 : xops i = 1
      · rw [if_pos c1] at H
        exact br_t c1 ⟨vi, ly_x69 (hp := h2 z) (v := _) (z := _) (H := H)⟩
      · rw [if_neg c1] at H
        exact br_f c1 (ly_x69 (hp := h2 z) (v := _) (z := _) (H := H))
theorem ly_x25 {post : SX → Prop} {xbase xstrip xllen xtend xaend xlcnt xlrnd xlinked xblamed xouts xpc xsteps xran : Int32} {xops xA xB xcnt xrole xloc xglo xweak xuse xrep xunit xtgt xstay xlong xlist xchosen xplace ximg xreg xstore xout : Nat → Int32} (hF : ly_F xops xA xB) {i p : Nat} (hi : i < 144) (ep : xplace i = nI p) (hp : ¬ (xops i = 0 ∨ xops i = 17 ∨ xops i = 18 ∨ xops i = 19) → p < 256) (hl : xlong i = 0 ∨ xlong i = 1) (h2 : ¬ (xops i = 0 ∨ xops i = 17 ∨ xops i = 18 ∨ xops i = 19) → ¬ ly_h2 xops xB xlong i = 0 → p + 1 < 256) (gl : Int32)
    (H : post (xbase, xstrip, xllen, xtend, xaend, xlcnt, xlrnd, xlinked, xblamed, xouts, xpc, xsteps, xran, xops, xA, xB, xcnt, xrole, xloc, xglo, xweak, xuse, xrep, xunit, xtgt, xstay, xlong, xlist, xchosen, xplace, ly_iw (xops i) (xA i) (xB i) p gl (ly_h2 xops xB xlong i) ximg, xreg, xstore, xout)) : wX_fillItem_25 post (nI i) gl xbase xstrip xllen xtend xaend xlcnt xlrnd xlinked xblamed xouts xpc xsteps xran xops xA xB xcnt xrole xloc xglo xweak xuse xrep xunit xtgt xstay xlong xlist xchosen xplace ximg xreg xstore xout := by
  have vi : vp_in (nI i) 144 := vp_in_nI hi (by omega)
  have ei : (nI i).toNatClampNeg = i := ly_cl (by omega)
  obtain ⟨op, hop, eo, _⟩ := hF i hi
  have inst : ¬ (xops i = 0 ∨ xops i = 17 ∨ xops i = 18 ∨ xops i = 19) → ¬ xops i = 15 → ¬ xops i = 16 → wX_fillItem_165 post (nI i) gl xbase xstrip xllen xtend xaend xlcnt xlrnd xlinked xblamed xouts xpc xsteps xran xops xA xB xcnt xrole xloc xglo xweak xuse xrep xunit xtgt xstay xlong xlist xchosen xplace ximg xreg xstore xout := by
    intro n1 n2 n3
    unfold ly_iw at H
    rw [if_neg n1, if_neg n2, if_neg n3] at H
    exact ly_xfi (hF := hF) (hi := hi) (ep := ep) (hp := hp n1) (hl := hl) (h2 := h2 n1) (gl := gl) (H := H)
  unfold wX_fillItem_25
  rw [ei]
  refine ⟨vi, nm_r eo ?_⟩
  have h : op = 0 ∨ op = 1 ∨ op = 2 ∨ op = 3 ∨ op = 4 ∨ op = 5 ∨ op = 6 ∨ op = 7 ∨ op = 8 ∨ op = 9 ∨ op = 10 ∨ op = 11 ∨ op = 12 ∨ op = 13 ∨ op = 14 ∨ op = 15 ∨ op = 16 ∨ op = 17 ∨ op = 18 ∨ op = 19 := by omega
  rcases h with rfl | rfl | rfl | rfl | rfl | rfl | rfl | rfl | rfl | rfl | rfl | rfl | rfl | rfl | rfl | rfl | rfl | rfl | rfl | rfl
  · unfold ly_iw at H; rw [if_pos (by rw [eo]; decide)] at H; (repeat (first | refine br_t (by decide) ?_ | refine br_f (by decide) ?_)); exact H
  · (repeat (first | refine br_t (by decide) ?_ | refine br_f (by decide) ?_)); exact inst (by rw [eo]; decide) (by rw [eo]; decide) (by rw [eo]; decide)
  · (repeat (first | refine br_t (by decide) ?_ | refine br_f (by decide) ?_)); exact inst (by rw [eo]; decide) (by rw [eo]; decide) (by rw [eo]; decide)
  · (repeat (first | refine br_t (by decide) ?_ | refine br_f (by decide) ?_)); exact inst (by rw [eo]; decide) (by rw [eo]; decide) (by rw [eo]; decide)
  · (repeat (first | refine br_t (by decide) ?_ | refine br_f (by decide) ?_)); exact inst (by rw [eo]; decide) (by rw [eo]; decide) (by rw [eo]; decide)
  · (repeat (first | refine br_t (by decide) ?_ | refine br_f (by decide) ?_)); exact inst (by rw [eo]; decide) (by rw [eo]; decide) (by rw [eo]; decide)
  · (repeat (first | refine br_t (by decide) ?_ | refine br_f (by decide) ?_)); exact inst (by rw [eo]; decide) (by rw [eo]; decide) (by rw [eo]; decide)
  · (repeat (first | refine br_t (by decide) ?_ | refine br_f (by decide) ?_)); exact inst (by rw [eo]; decide) (by rw [eo]; decide) (by rw [eo]; decide)
  · (repeat (first | refine br_t (by decide) ?_ | refine br_f (by decide) ?_)); exact inst (by rw [eo]; decide) (by rw [eo]; decide) (by rw [eo]; decide)
  · (repeat (first | refine br_t (by decide) ?_ | refine br_f (by decide) ?_)); exact inst (by rw [eo]; decide) (by rw [eo]; decide) (by rw [eo]; decide)
  · (repeat (first | refine br_t (by decide) ?_ | refine br_f (by decide) ?_)); exact inst (by rw [eo]; decide) (by rw [eo]; decide) (by rw [eo]; decide)
  · (repeat (first | refine br_t (by decide) ?_ | refine br_f (by decide) ?_)); exact inst (by rw [eo]; decide) (by rw [eo]; decide) (by rw [eo]; decide)
  · (repeat (first | refine br_t (by decide) ?_ | refine br_f (by decide) ?_)); exact inst (by rw [eo]; decide) (by rw [eo]; decide) (by rw [eo]; decide)
  · (repeat (first | refine br_t (by decide) ?_ | refine br_f (by decide) ?_)); exact inst (by rw [eo]; decide) (by rw [eo]; decide) (by rw [eo]; decide)
  · (repeat (first | refine br_t (by decide) ?_ | refine br_f (by decide) ?_)); exact inst (by rw [eo]; decide) (by rw [eo]; decide) (by rw [eo]; decide)
  · unfold ly_iw at H
    have nn : ¬ (xops i = 0 ∨ xops i = 17 ∨ xops i = 18 ∨ xops i = 19) := by rw [eo]; decide
    rw [if_neg nn, if_pos (by rw [eo]; decide)] at H
    (repeat (first | refine br_t (by decide) ?_ | refine br_f (by decide) ?_))
    refine ⟨vi, vi, ?_⟩
    rw [ep]
    exact ly_xpw (hp := hp nn) (v := _) (H := H)
  · unfold ly_iw at H
    have nn : ¬ (xops i = 0 ∨ xops i = 17 ∨ xops i = 18 ∨ xops i = 19) := by rw [eo]; decide
    rw [if_neg nn, if_neg (by rw [eo]; decide), if_pos (by rw [eo]; decide)] at H
    (repeat (first | refine br_t (by decide) ?_ | refine br_f (by decide) ?_))
    refine ⟨vi, vi, ?_⟩
    rw [ep]
    exact ly_xpw (hp := hp nn) (v := _) (H := H)
  · unfold ly_iw at H; rw [if_pos (by rw [eo]; decide)] at H; (repeat (first | refine br_t (by decide) ?_ | refine br_f (by decide) ?_)); exact H
  · unfold ly_iw at H; rw [if_pos (by rw [eo]; decide)] at H; (repeat (first | refine br_t (by decide) ?_ | refine br_f (by decide) ?_)); exact H
  · unfold ly_iw at H; rw [if_pos (by rw [eo]; decide)] at H; (repeat (first | refine br_t (by decide) ?_ | refine br_f (by decide) ?_)); exact H
theorem ly_iw_g {o a b : Int32} {p : Nat} {gl gl' h : Int32} {img : Nat → Int32} (hu : ly_us o = false) (hh : o = 1 ∨ h = 0) : ly_iw o a b p gl h img = ly_iw o a b p gl' h img := by
  have q : ∀ j : Int32, ly_us j = true → ¬ o = j := fun j hj e => by rw [e, hj] at hu; exact absurd hu (by decide)
  have e1 : ∀ x, ly_lo o b (nI p) x = if o = 11 ∨ o = 13 ∨ o = 14 then 0 else b := by
    intro x
    unfold ly_lo
    rw [if_neg (fun z => by
      rcases z with z | z | z
      · exact q 8 (by decide) z
      · exact q 9 (by decide) z
      · exact q 10 (by decide) z), if_neg (q 12 (by decide))]
  unfold ly_iw ly_w1
  rw [e1, e1, if_neg (q 16 (by decide)), if_neg (q 16 (by decide))]
  rcases hh with hh | hh
  · rw [if_pos hh, if_pos hh]
  · rw [if_pos hh, if_pos hh]
/-- the image after the first i items -/
def ly_im (o a b : Nat → Int32) (P w : Nat → Int32) (tn : Nat → Nat) : Nat → (Nat → Int32) → (Nat → Int32)
  | 0, img => img
  | i + 1, img => if P i = -1 then ly_im o a b P w tn i img else ly_iw (o i) (a i) (b i) (P i).toNatClampNeg (P (tn i)) (ly_h2 o b w i) (ly_im o a b P w tn i img)
theorem ly_iw_ag {o a b : Int32} {p : Nat} {gl h : Int32} {m n : Nat → Int32} (hh : ly_AG 256 m n) : ly_AG 256 (ly_iw o a b p gl h m) (ly_iw o a b p gl h n) := by
  unfold ly_iw
  split
  · exact hh
  · split
    · exact ly_AG_upd hh _ _
    · split
      · exact ly_AG_upd hh _ _
      · split
        · exact ly_AG_upd hh _ _
        · exact ly_AG_upd (ly_AG_upd hh _ _) _ _
theorem ly_im_ag {o a b P w : Nat → Int32} {tn : Nat → Nat} {m n : Nat → Int32} (hh : ly_AG 256 m n) : ∀ i, ly_AG 256 (ly_im o a b P w tn i m) (ly_im o a b P w tn i n) := by
  intro i
  induction i with
  | zero => exact hh
  | succ i ih =>
    simp only [ly_im]
    by_cases c : P i = -1
    · rw [if_pos c, if_pos c]; exact ih
    · rw [if_neg c, if_neg c]; exact ly_iw_ag ih
/-- the places of a finished layout -/
def ly_PF (o a b cnt : Nat → Int32) (g : Nat → Nat) (n : Nat) (P w : Nat → Int32) : Prop := ∀ i, i < 144 → P i = -1 ∨ (∃ p : Nat, p + ly_sz o a b w i p ≤ 256 ∧ P i = nI p) ∧ ly_th cnt g n i
theorem ly_h2_c {o b w w' : Nat → Int32} {i : Nat} (h : w i = w' i) : ly_h2 o b w i = ly_h2 o b w' i := by unfold ly_h2; rw [h]
theorem ly_x24 {post : SX → Prop} {xbase xstrip xllen xtend xaend xlcnt xlrnd xlinked xblamed xouts xpc xsteps xran : Int32} {xops xA xB xcnt xrole xloc xglo xweak xuse xrep xunit xtgt xstay xlong xlist xchosen xplace xreg xstore xout : Nat → Int32} (hW : ly_W xcnt) (hF : ly_F xops xA xB) {g : Nat → Nat} {n : Nat} (hG : ly_GD xops xA xB xcnt g n) (hT : ∀ x, x < 144 → xtgt x = if ly_at xops xcnt g n x = true then ly_tg xops xA xB xcnt g n x else -1) {P w : Nat → Int32} (hP : ly_AG 144 xplace P) (hw : ly_AG 144 xlong w) (hv : ly_WV xops w) (hPF : ly_PF xops xA xB xcnt g n P w) (img : Nat → Int32)
    (H : post (xbase, xstrip, xllen, xtend, xaend, xlcnt, xlrnd, xlinked, xblamed, xouts, xpc, xsteps, xran, xops, xA, xB, xcnt, xrole, xloc, xglo, xweak, xuse, xrep, xunit, xtgt, xstay, xlong, xlist, xchosen, xplace, ly_im xops xA xB P w (ly_tn xops xA xB xcnt g n) 144 img, xreg, xstore, xout)) : ∀ (d i : Nat), i + d = 144 → wX_fillImage_24 post (d + 1) (nI i) xbase xstrip xllen xtend xaend xlcnt xlrnd xlinked xblamed xouts xpc xsteps xran xops xA xB xcnt xrole xloc xglo xweak xuse xrep xunit xtgt xstay xlong xlist xchosen xplace (ly_im xops xA xB P w (ly_tn xops xA xB xcnt g n) i img) xreg xstore xout := by
  intro d
  induction d with
  | zero =>
    intro i hd
    have e : i = 144 := by omega
    subst e
    exact br_t (by decide) H
  | succ d ih =>
    intro i hd
    have hi : i < 144 := by omega
    have ei : (nI i).toNatClampNeg = i := ly_cl (by omega)
    have vi : vp_in (nI i) 144 := vp_in_nI hi (by omega)
    have IH := ih (i + 1) (by omega)
    simp only [ly_im] at IH
    refine br_f (nI_ge (b := 144) hi (by omega)) ⟨vi, ?_⟩
    rw [ei, hP i hi]
    rcases hPF i hi with z | ⟨⟨p, p1, p2⟩, hth⟩
    · rw [if_pos z] at IH
      exact br_t z (nm_r (nI_1 i) IH)
    · have hpb : p ≤ 256 := by omega
      have np : ¬ P i = -1 := by rw [p2]; exact ly_m1 (by omega)
      rw [if_neg np] at IH
      refine br_f np ?_
      have ep : xplace i = nI p := (hP i hi).trans p2
      have hlo : xlong i = 0 ∨ xlong i = 1 := by rw [hw i hi]; exact hv.1 i hi
      have eh : ly_h2 xops xB xlong i = ly_h2 xops xB w i := ly_h2_c (hw i hi)
      have epn : (P i).toNatClampNeg = p := by rw [p2]; exact nI_clamp (by omega)
      rw [epn] at IH
      -- room
      have room : ¬ (xops i = 0 ∨ xops i = 17 ∨ xops i = 18 ∨ xops i = 19) → p < 256 ∧ (¬ ly_h2 xops xB xlong i = 0 → p + 1 < 256) := by
        intro nn
        rcases ly_sz_2 (o := xops) (a := xA) (b := xB) (w := w) (i := i) (t := p) (fun e => nn (Or.inl e)) (fun e => nn (Or.inr (Or.inr (Or.inr e)))) (fun e => nn (Or.inr (Or.inl e))) (fun e => nn (Or.inr (Or.inr (Or.inl e)))) (hv.1 i hi) with ⟨q1, q2⟩ | ⟨q1, q2⟩
        · rw [q2] at p1
          exact ⟨by omega, fun z => absurd (eh.trans q1) z⟩
        · rw [q2] at p1
          exact ⟨by omega, fun _ => by omega⟩
      unfold wpX_fillItem
      dsimp only
      rw [ei]
      refine ⟨vi, ?_⟩
      cases ha : ly_at xops xcnt g n i with
      | false =>
        have et : xtgt i = -1 := by rw [hT i hi, ha]; rfl
        have hu : ly_us (xops i) = false := by
          have ha' := ha
          unfold ly_at at ha'
          rw [hth.2.1, decide_eq_true hth.2.2] at ha'
          exact ha'
        refine br_t et (ly_x25 (hF := hF) (hi := hi) (ep := ep) (hp := fun nn => (room nn).1) (hl := hlo) (h2 := fun nn => (room nn).2) (gl := 0) (H := nm_r (nI_1 i) ?_))
        rw [eh, ly_iw_g (gl' := P (ly_tn xops xA xB xcnt g n i)) hu (by
          by_cases c1 : xops i = 1
          · exact Or.inl c1
          · refine Or.inr ?_
            unfold ly_h2
            rw [if_neg c1]
            by_cases c0 : w i = 0
            · exact c0
            · have := hv.2 i hi c0
              rw [hu] at this; exact absurd this (by decide))]
        exact IH
      | true =>
        obtain ⟨t1, t2⟩ := ly_tn_t hW hF hG hi ha
        have ht := t1.1
        have et : xtgt i = nI (ly_tn xops xA xB xcnt g n i) := by rw [hT i hi, ha, if_pos rfl]; exact t2
        refine br_f (by rw [et]; exact ly_m1 (by omega)) ⟨vi, ?_⟩
        rw [et, ly_cl (i := ly_tn xops xA xB xcnt g n i) (by omega)]
        refine ⟨vp_in_nI ht (by omega), ly_x25 (hF := hF) (hi := hi) (ep := ep) (hp := fun nn => (room nn).1) (hl := hlo) (h2 := fun nn => (room nn).2) (gl := _) (H := nm_r (nI_1 i) ?_)⟩
        rw [eh, hP _ ht]
        exact IH
theorem ly_x2f {post : SX → Prop} {xbase xstrip xllen xtend xaend xlcnt xlrnd xlinked xblamed xouts xpc xsteps xran : Int32} {xops xA xB xcnt xrole xloc xglo xweak xuse xrep xunit xtgt xstay xlong xlist xchosen xplace xreg xstore xout : Nat → Int32} (H : ∀ img : Nat → Int32, (∀ x, x < 256 → img x = 0) → ∃ n24, wX_fillImage_24 post n24 0 xbase xstrip xllen xtend xaend xlcnt xlrnd xlinked xblamed xouts xpc xsteps xran xops xA xB xcnt xrole xloc xglo xweak xuse xrep xunit xtgt xstay xlong xlist xchosen xplace img xreg xstore xout) : ∀ (d k : Nat) (img : Nat → Int32), k + d = 256 → (∀ x, x < k → img x = 0) → wX_fillImage_2 post xbase xstrip xllen xtend xaend xlcnt xlrnd xlinked xblamed xouts xpc xsteps xran (d + 1) (nI k) xops xA xB xcnt xrole xloc xglo xweak xuse xrep xunit xtgt xstay xlong xlist xchosen xplace img xreg xstore xout := by
  intro d
  induction d with
  | zero =>
    intro k img hd h
    have e : k = 256 := by omega
    subst e
    exact br_t (by decide) (H img h)
  | succ d ih =>
    intro k img hd h
    refine br_f (nI_ge (b := 256) (by omega) (by omega)) ⟨vp_in_nI (by omega) (by omega), nm_r (e' := upd img k 0) (by rw [ly_cl (i := k) (by omega)]) (nm_r (nI_1 k) (ih (k + 1) _ (by omega) (fun x hx => ?_)))⟩
    by_cases e : x = k
    · subst e; exact pk_us
    · rw [pk_un e]; exact h x (by omega)
theorem ly_xfill {post : SX → Prop} {xbase xstrip xllen xtend xaend xlcnt xlrnd xlinked xblamed xouts xpc xsteps xran : Int32} {xops xA xB xcnt xrole xloc xglo xweak xuse xrep xunit xtgt xstay xlong xlist xchosen xplace ximg xreg xstore xout : Nat → Int32} (hW : ly_W xcnt) (hF : ly_F xops xA xB) {g : Nat → Nat} {n : Nat} (hG : ly_GD xops xA xB xcnt g n) (hT : ∀ x, x < 144 → xtgt x = if ly_at xops xcnt g n x = true then ly_tg xops xA xB xcnt g n x else -1) {P w : Nat → Int32} (hP : ly_AG 144 xplace P) (hw : ly_AG 144 xlong w) (hv : ly_WV xops w) (hPF : ly_PF xops xA xB xcnt g n P w)
    (H : ∀ img : Nat → Int32, ly_AG 256 img (ly_im xops xA xB P w (ly_tn xops xA xB xcnt g n) 144 (fun _ => 0)) → post (xbase, xstrip, xllen, xtend, xaend, xlcnt, xlrnd, xlinked, xblamed, xouts, xpc, xsteps, xran, xops, xA, xB, xcnt, xrole, xloc, xglo, xweak, xuse, xrep, xunit, xtgt, xstay, xlong, xlist, xchosen, xplace, img, xreg, xstore, xout)) : wpX_fillImage post (xbase, xstrip, xllen, xtend, xaend, xlcnt, xlrnd, xlinked, xblamed, xouts, xpc, xsteps, xran, xops, xA, xB, xcnt, xrole, xloc, xglo, xweak, xuse, xrep, xunit, xtgt, xstay, xlong, xlist, xchosen, xplace, ximg, xreg, xstore, xout) :=
  ⟨257, ly_x2f (H := fun img hi => ⟨145, ly_x24 (hW := hW) (hF := hF) (hG := hG) (hT := hT) (hP := hP) (hw := hw) (hv := hv) (hPF := hPF) (img := img) (H := H _ (ly_im_ag (fun x hx => hi x hx) 144)) 144 0 (by omega)⟩) 256 0 ximg (by omega) (fun x hx => absurd hx (Nat.not_lt_zero x))⟩

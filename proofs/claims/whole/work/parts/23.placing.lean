/-! placing: X and Y -/
def ly_h2 (o b w : Nat → Int32) (i : Nat) : Int32 := if o i = 1 then (if b i < -128 ∨ 127 < b i then 1 else 0) else w i
theorem ly_xh2 {post : Int32 → Prop} {xbase xstrip xllen xtend xaend xlcnt xlrnd xlinked xblamed xouts xpc xsteps xran : Int32} {xops xA xB xcnt xrole xloc xglo xweak xuse xrep xunit xtgt xstay xlong xlist xchosen xplace ximg xreg xstore xout : Nat → Int32} {i : Nat} (hi : i < 144) (hl : xlong i = 0 ∨ xlong i = 1) (H : post (ly_h2 xops xB xlong i)) : wpX_hasTwoWords post (xbase, xstrip, xllen, xtend, xaend, xlcnt, xlrnd, xlinked, xblamed, xouts, xpc, xsteps, xran, xops, xA, xB, xcnt, xrole, xloc, xglo, xweak, xuse, xrep, xunit, xtgt, xstay, xlong, xlist, xchosen, xplace, ximg, xreg, xstore, xout) (nI i) := by
  have vi : vp_in (nI i) 144 := vp_in_nI hi (by omega)
  unfold wpX_hasTwoWords
  dsimp only
  rw [ly_cl (i := i) (by omega)]
  unfold ly_h2 at H
  by_cases h1 : xops i = 1
  · rw [if_pos h1] at H
    refine ⟨vi, br_t h1 ⟨vi, ?_⟩⟩
    by_cases h2 : xB i < -128
    · rw [if_pos (Or.inl h2)] at H; exact br_t h2 H
    · refine br_f h2 ⟨vi, ?_⟩
      by_cases h3 : xB i ≤ 127
      · rw [if_neg (fun z => by
          rcases z with z | z
          · exact h2 z
          · exact absurd h3 (Int32.not_le.mpr z))] at H
        exact br_t h3 H
      · rw [if_pos (Or.inr (Int32.not_le.mp h3))] at H; exact br_f h3 H
  · rw [if_neg h1] at H
    exact ⟨vi, br_f h1 ⟨vi, ly_narb hl, H⟩⟩
theorem ly_sz_2 {o a b w : Nat → Int32} {i t : Nat} (n0 : ¬ o i = 0) (n19 : ¬ o i = 19) (n17 : ¬ o i = 17) (n18 : ¬ o i = 18) (hl : w i = 0 ∨ w i = 1) : (ly_h2 o b w i = 0 ∧ ly_sz o a b w i t = 1) ∨ (ly_h2 o b w i = 1 ∧ ly_sz o a b w i t = 2) := by
  have hn : ¬ (o i = 0 ∨ o i = 19) := fun z => z.elim n0 n19
  unfold ly_sz ly_h2
  rw [if_neg hn, if_neg n17, if_neg n18]
  by_cases h1 : o i = 1
  · rw [if_pos h1, if_pos h1]
    by_cases h2 : b i < -128 ∨ 127 < b i
    · rw [if_pos h2, if_pos h2]; exact Or.inr ⟨rfl, rfl⟩
    · rw [if_neg h2, if_neg h2]; exact Or.inl ⟨rfl, rfl⟩
  · rw [if_neg h1, if_neg h1]
    rcases hl with hl | hl
    · rw [if_pos hl]; exact Or.inl ⟨hl, rfl⟩
    · rw [if_neg (by rw [hl]; decide)]; exact Or.inr ⟨hl, rfl⟩
theorem ly_xwo {post : Int32 → Prop} {xbase xstrip xllen xtend xaend xlcnt xlrnd xlinked xblamed xouts xpc xsteps xran : Int32} {xops xA xB xcnt xrole xloc xglo xweak xuse xrep xunit xtgt xstay xlong xlist xchosen xplace ximg xreg xstore xout : Nat → Int32} (hF : ly_F xops xA xB) {i t : Nat} (hi : i < 144) (ht : t ≤ 8000) (hl : xlong i = 0 ∨ xlong i = 1) (H : post (nI (ly_sz xops xA xB xlong i t))) : wpX_wordsOf post (xbase, xstrip, xllen, xtend, xaend, xlcnt, xlrnd, xlinked, xblamed, xouts, xpc, xsteps, xran, xops, xA, xB, xcnt, xrole, xloc, xglo, xweak, xuse, xrep, xunit, xtgt, xstay, xlong, xlist, xchosen, xplace, ximg, xreg, xstore, xout) (nI i) (nI t) := by
  have vi : vp_in (nI i) 144 := vp_in_nI hi (by omega)
  unfold wpX_wordsOf
  dsimp only
  rw [ly_cl (i := i) (by omega)]
  refine ⟨vi, nm_e ?_⟩
  by_cases h0 : xops i = 0
  · rw [show ly_sz xops xA xB xlong i t = 0 from if_pos (Or.inl h0)] at H
    exact br_t h0 H
  · refine br_f h0 ?_
    obtain ⟨op, hop, eo, _, _, h17, h18, _⟩ := hF i hi
    by_cases c17 : xops i = 17
    · obtain ⟨j, _, j2, j3⟩ := h17 (ly_inj (b := 17) (by omega) (by omega) (eo.symm.trans c17))
      unfold ly_sz at H
      rw [if_neg (by rw [c17]; decide), if_pos c17, j3, nI_clamp (by omega)] at H
      refine br_t c17 ⟨vi, ?_⟩
      rw [j3]; exact H
    · refine br_f c17 ?_
      by_cases c18 : xops i = 18
      · obtain ⟨j, j1, j2, j3⟩ := h18 (ly_inj (b := 18) (by omega) (by omega) (eo.symm.trans c18))
        unfold ly_sz at H
        rw [if_neg (by rw [c18]; decide), if_neg c17, if_pos c18, j3, nI_clamp (by omega)] at H
        refine br_t c18 ⟨vi, ?_⟩
        rw [j3]
        refine br_t (nI_le (a := 1) (by omega) (by omega)) ⟨nI_ne0 (by omega) (by omega), nm_r (pk_rem (by omega) (by omega) (by omega)) ?_⟩
        have hmod : t % j < j := Nat.mod_lt _ (by omega)
        by_cases hz : t % j = 0
        · rw [if_pos hz] at H
          exact br_t (by rw [hz]; rfl) H
        · rw [if_neg hz] at H
          refine br_f (nI_ne0 (by omega) (by omega)) ?_
          rw [pk_sub (by omega)]; exact H
      · refine br_f c18 ?_
        by_cases c19 : xops i = 19
        · rw [show ly_sz xops xA xB xlong i t = 0 from if_pos (Or.inr c19)] at H
          exact br_t c19 H
        · refine br_f c19 (ly_xh2 (hi := hi) (hl := hl) (H := ?_))
          rcases ly_sz_2 (a := xA) (b := xB) (w := xlong) (t := t) h0 c19 c17 c18 hl with ⟨z1, z2⟩ | ⟨z1, z2⟩
          · rw [z2] at H; rw [z1]; exact br_t rfl H
          · rw [z2] at H; rw [z1]; exact br_f (by decide) H
theorem ly_sz_c {o a b w w' : Nat → Int32} {i t : Nat} (h : w i = w' i) : ly_sz o a b w i t = ly_sz o a b w' i t := by
  unfold ly_sz; rw [h]
theorem ly_xpu {post : Int32 → SX → Prop} {xbase xstrip xllen xtend xaend xlcnt xlrnd xlinked xblamed xouts xpc xsteps xran : Int32} {xops xA xB xcnt xrole xloc xglo xweak xuse xrep xunit xtgt xstay xlong xlist xchosen ximg xreg xstore xout : Nat → Int32} (hW : ly_W xcnt) (hF : ly_F xops xA xB) {w : Nat → Int32} (hw : ly_AG 144 xlong w) (hw1 : ∀ i, i < 144 → w i = 0 ∨ w i = 1) {m s : Nat} (hm : m < 6) (hs : s < 2) (hU : ∀ k, k < ly_c xcnt m → xunit (24 * m + k) = nI (ly_un xops xA (24 * m + k))) {z : Nat × (Nat → Int32)} (hz : z.1 ≤ 4708)
    (H : post (nI (ly_pk xops xA xB w m s (ly_c xcnt m) z).1) (xbase, xstrip, xllen, xtend, xaend, xlcnt, xlrnd, xlinked, xblamed, xouts, xpc, xsteps, xran, xops, xA, xB, xcnt, xrole, xloc, xglo, xweak, xuse, xrep, xunit, xtgt, xstay, xlong, xlist, xchosen, (ly_pk xops xA xB w m s (ly_c xcnt m) z).2, ximg, xreg, xstore, xout)) : ∀ (d k : Nat), k + d = ly_c xcnt m → wX_placeUnit_6 post (nI m) (nI (2 * m + s)) xbase xstrip xllen xtend xaend xlcnt xlrnd xlinked xblamed xouts xpc xsteps xran (d + 1) (nI (ly_pk xops xA xB w m s k z).1) (nI k) xops xA xB xcnt xrole xloc xglo xweak xuse xrep xunit xtgt xstay xlong xlist xchosen ((ly_pk xops xA xB w m s k z).2) ximg xreg xstore xout := by
  obtain ⟨hc, ec⟩ := hW m hm
  have em : (nI m).toNatClampNeg = m := ly_cl (by omega)
  have ec' : xcnt (nI m).toNatClampNeg = nI (ly_c xcnt m) := by rw [em]; exact ec
  have vm : vp_in (nI m) 6 := vp_in_nI hm (by omega)
  intro d
  induction d with
  | zero =>
    intro k hd
    have e : k = ly_c xcnt m := by omega
    subst e
    exact ⟨vm, br_t (by rw [ec']; exact Int32.le_refl _) H⟩
  | succ d ih =>
    intro k hd
    have hi : 24 * m + k < 144 := by omega
    have ei : (nI (24 * m + k)).toNatClampNeg = 24 * m + k := ly_cl (by omega)
    have vi : vp_in (nI (24 * m + k)) 144 := vp_in_nI hi (by omega)
    have hle := ly_pk_le hF w (s := s) hm k (by omega) z
    have hsn := ly_sn_lt hF hm (k + 1) (by omega)
    have IH := ih (k + 1) (by omega)
    refine ⟨vm, br_f (by rw [ec']; exact nI_ge (by omega) (by omega)) (nm_r (ly_idx m k) ⟨vi, ?_⟩)⟩
    rw [ei, hU k (by omega), ly_un_at (by omega)]
    by_cases e : ly_sn xops xA m (k + 1) = s
    · rw [ly_pk_y e] at IH
      refine br_t (by rw [e]) ⟨vi, nm_e (ly_xwo (hF := hF) (hi := hi) (ht := by omega) (hl := by rw [hw _ hi]; exact hw1 _ hi) (H := nm_r (e' := nI ((ly_pk xops xA xB w m s k z).1 + ly_sz xops xA xB w (24 * m + k) (ly_pk xops xA xB w m s k z).1)) ?_ (nm_r (nI_1 k) IH)))⟩
      rw [nI_add, ly_sz_c (hw _ hi)]
    · rw [ly_pk_n e] at IH
      exact br_f (fun q => e (by have := ly_inj (by omega) (by omega) q; omega)) (nm_r (nI_1 k) IH)
theorem ly_xps5 {post : Int32 → SX → Prop} {xbase xstrip xtend xaend xlcnt xlrnd xlinked xblamed xouts xpc xsteps xran : Int32} {xops xA xB xcnt xrole xloc xglo xweak xuse xrep xunit xtgt xstay xlong xlist xchosen ximg xreg xstore xout : Nat → Int32} (hW : ly_W xcnt) (hF : ly_F xops xA xB) {w : Nat → Int32} (hw : ly_AG 144 xlong w) (hw1 : ∀ i, i < 144 → w i = 0 ∨ w i = 1) {g : Nat → Nat} {n s : Nat} (hL : ly_LS xops xA xcnt xlist g n) (hs : s < 2) (hU : ∀ t, ly_th xcnt g n t → xunit t = nI (ly_un xops xA t)) {kb : Nat → Bool} (hK : ∀ u, u < 12 → (xstay u = 0 ↔ kb u = false)) {z : Nat × (Nat → Int32)} (hz : z.1 ≤ 2404)
    (H : post (nI (ly_pl xops xA xB w xcnt kb g s n z).1) (xbase, xstrip, nI n, xtend, xaend, xlcnt, xlrnd, xlinked, xblamed, xouts, xpc, xsteps, xran, xops, xA, xB, xcnt, xrole, xloc, xglo, xweak, xuse, xrep, xunit, xtgt, xstay, xlong, xlist, xchosen, (ly_pl xops xA xB w xcnt kb g s n z).2, ximg, xreg, xstore, xout)) : ∀ (d i : Nat), i + d = n → wX_placeSection_5 post (nI s) (d + 1) (nI (ly_pl xops xA xB w xcnt kb g s i z).1) (nI i) xbase xstrip (nI n) xtend xaend xlcnt xlrnd xlinked xblamed xouts xpc xsteps xran xops xA xB xcnt xrole xloc xglo xweak xuse xrep xunit xtgt xstay xlong xlist xchosen ((ly_pl xops xA xB w xcnt kb g s i z).2) ximg xreg xstore xout := by
  obtain ⟨hn, hg⟩ := hL
  intro d
  induction d with
  | zero =>
    intro i hd
    have e : i = n := by omega
    subst e
    exact br_t (Int32.le_refl _) H
  | succ d ih =>
    intro i hd
    obtain ⟨g1, g2, g3⟩ := hg i (by omega)
    have vi : vp_in (nI i) 6 := vp_in_nI (by omega) (by omega)
    have hle := ly_pl_le hF hW w (kb := kb) (s := s) i (fun j hj => (hg j (by omega)).1) z
    have hc := (hW _ g1).1
    have IH := ih (i + 1) (by omega)
    refine br_f (nI_ge (by omega) (by omega)) ⟨vi, nm_r (e' := nI (2 * g i + s)) (by rw [ly_cl (i := i) (by omega), g2, ly_idx2]) ⟨vp_in_nI (by omega) (by omega), ?_⟩⟩
    rw [ly_cl (i := 2 * g i + s) (by omega)]
    cases e : kb (2 * g i + s) with
    | false =>
      rw [ly_pl_n e] at IH
      exact br_t ((hK _ (by omega)).mpr e) (nm_r (nI_1 i) IH)
    | true =>
      rw [ly_pl_y e] at IH
      refine br_f (fun q => by have := (hK _ (by omega)).mp q; rw [e] at this; exact absurd this (by decide)) ⟨vi, ?_⟩
      rw [ly_cl (i := i) (by omega), g2]
      exact ⟨ly_c xcnt (g i) + 1, ly_xpu (hW := hW) (hF := hF) (hw := hw) (hw1 := hw1) (hm := g1) (hs := hs) (hU := fun k hk => hU _ ⟨by omega, by rw [show (24 * g i + k) / 24 = g i by omega]; exact ly_li_g.mpr ⟨i, by omega, rfl⟩, by rw [show (24 * g i + k) / 24 = g i by omega]; omega⟩) (z := ly_pl xops xA xB w xcnt kb g s i z) (hz := by omega) (H := nm_r (nI_1 i) IH) (ly_c xcnt (g i)) 0 (by omega)⟩
theorem ly_xps {post : Int32 → SX → Prop} {xbase xstrip xtend xaend xlcnt xlrnd xlinked xblamed xouts xpc xsteps xran : Int32} {xops xA xB xcnt xrole xloc xglo xweak xuse xrep xunit xtgt xstay xlong xlist xchosen xplace ximg xreg xstore xout : Nat → Int32} (hW : ly_W xcnt) (hF : ly_F xops xA xB) {w : Nat → Int32} (hw : ly_AG 144 xlong w) (hw1 : ∀ i, i < 144 → w i = 0 ∨ w i = 1) {g : Nat → Nat} {n s : Nat} (hL : ly_LS xops xA xcnt xlist g n) (hs : s < 2) (hU : ∀ t, ly_th xcnt g n t → xunit t = nI (ly_un xops xA t)) {kb : Nat → Bool} (hK : ∀ u, u < 12 → (xstay u = 0 ↔ kb u = false)) {t : Nat} (hz : t ≤ 2404)
    (H : post (nI (ly_pl xops xA xB w xcnt kb g s n (t, xplace)).1) (xbase, xstrip, nI n, xtend, xaend, xlcnt, xlrnd, xlinked, xblamed, xouts, xpc, xsteps, xran, xops, xA, xB, xcnt, xrole, xloc, xglo, xweak, xuse, xrep, xunit, xtgt, xstay, xlong, xlist, xchosen, (ly_pl xops xA xB w xcnt kb g s n (t, xplace)).2, ximg, xreg, xstore, xout)) : wpX_placeSection post (xbase, xstrip, nI n, xtend, xaend, xlcnt, xlrnd, xlinked, xblamed, xouts, xpc, xsteps, xran, xops, xA, xB, xcnt, xrole, xloc, xglo, xweak, xuse, xrep, xunit, xtgt, xstay, xlong, xlist, xchosen, xplace, ximg, xreg, xstore, xout) (nI s) (nI t) :=
  ⟨n + 1, ly_xps5 (hW := hW) (hF := hF) (hw := hw) (hw1 := hw1) (hL := hL) (hs := hs) (hU := hU) (hK := hK) (z := (t, xplace)) (hz := hz) (H := H) n 0 (by omega)⟩
/-! Y -/
theorem ly_ysz {post : Int32 → Prop} {yorg ystrip ymany yculp ytend yend ymade yrounds yentry ylinked yran ypc ysteps youts : Int32} {yops yA yB ycnt yrole ylist yplace ysym yimg ystay ywide ymem yreg yout : Nat → Int32} (hF : ly_F yops yA yB) {i t : Nat} (hi : i < 144) (ht : t ≤ 8000) (hl : ywide i = 0 ∨ ywide i = 1) (hl1 : ¬ ywide i = 0 → ¬ yops i = 1) (H : post (nI (ly_sz yops yA yB ywide i t))) : wpY_sizeOf post (yorg, ystrip, ymany, yculp, ytend, yend, ymade, yrounds, yentry, ylinked, yran, ypc, ysteps, youts, yops, yA, yB, ycnt, yrole, ylist, yplace, ysym, yimg, ystay, ywide, ymem, yreg, yout) (nI i) (nI t) := by
  have vi : vp_in (nI i) 144 := vp_in_nI hi (by omega)
  unfold wpY_sizeOf
  dsimp only
  rw [ly_cl (i := i) (by omega)]
  refine ⟨vi, nm_e ?_⟩
  obtain ⟨op, hop, eo, _, _, h17, h18, _⟩ := hF i hi
  by_cases h0 : yops i = 0
  · rw [show ly_sz yops yA yB ywide i t = 0 from if_pos (Or.inl h0)] at H
    exact br_t h0 H
  · refine br_f h0 ?_
    by_cases c19 : yops i = 19
    · rw [show ly_sz yops yA yB ywide i t = 0 from if_pos (Or.inr c19)] at H
      exact br_t c19 H
    · refine br_f c19 ?_
      by_cases c17 : yops i = 17
      · obtain ⟨j, _, j2, j3⟩ := h17 (ly_inj (b := 17) (by omega) (by omega) (eo.symm.trans c17))
        unfold ly_sz at H
        rw [if_neg (by rw [c17]; decide), if_pos c17, j3, nI_clamp (by omega)] at H
        refine br_t c17 ⟨vi, ?_⟩
        rw [j3]; exact H
      · refine br_f c17 ?_
        by_cases c18 : yops i = 18
        · obtain ⟨j, j1, j2, j3⟩ := h18 (ly_inj (b := 18) (by omega) (by omega) (eo.symm.trans c18))
          unfold ly_sz at H
          rw [if_neg (by rw [c18]; decide), if_neg c17, if_pos c18, j3, nI_clamp (by omega)] at H
          have hj0 : ¬ nI j = 0 := nI_ne0 (by omega) (by omega)
          have hmod : t % j < j := Nat.mod_lt _ (by omega)
          refine br_t c18 ⟨vi, vi, ?_⟩
          rw [j3]
          refine ⟨hj0, vi, hj0, ?_⟩
          rw [pk_rem (a := t) (d := j) (by omega) (by omega) (by omega), pk_sub (by omega), pk_rem (by omega) (by omega) (by omega)]
          have e : (j - t % j) % j = if t % j = 0 then 0 else j - t % j := by
            by_cases hz : t % j = 0
            · rw [if_pos hz, hz, Nat.sub_zero, Nat.mod_self]
            · rw [if_neg hz]; exact Nat.mod_eq_of_lt (by omega)
          rw [e]; exact H
        · refine br_f c18 ⟨vi, ?_⟩
          unfold ly_sz at H
          rw [if_neg (fun z => by
            rcases z with z | z
            · exact h0 z
            · exact c19 z), if_neg c17, if_neg c18] at H
          by_cases hw : ywide i = 0
          · refine br_t hw ?_
            by_cases h1 : yops i = 1
            · rw [if_pos h1] at H
              refine br_t h1 ⟨vi, ?_⟩
              by_cases b1 : yB i < -128
              · rw [if_pos (Or.inl b1)] at H
                exact br_t b1 (br_t rfl H)
              · by_cases b2 : 127 < yB i
                · rw [if_pos (Or.inr b2)] at H
                  exact br_f b1 (br_t b2 (br_t rfl H))
                · rw [if_neg (fun z => by
                    rcases z with z | z
                    · exact b1 z
                    · exact b2 z)] at H
                  exact br_f b1 (br_f b2 (br_f (by decide) H))
            · rw [if_neg h1, if_pos hw] at H
              exact br_f h1 H
          · rw [if_neg (hl1 hw), if_neg hw] at H
            exact br_f hw H
theorem ly_idy2 (m s : Nat) : 2 * nI m + nI s = nI (2 * m + s) := by rw [Int32.mul_comm, ly_idx2]
theorem ly_ypu {post : Int32 → SY → Prop} {yorg ystrip ymany yculp ytend yend ymade yrounds yentry ylinked yran ypc ysteps youts : Int32} {yops yA yB ycnt yrole ylist ysym yimg ystay ywide ymem yreg yout : Nat → Int32} (hW : ly_W ycnt) (hF : ly_F yops yA yB) {w : Nat → Int32} (hw : ly_AG 144 ywide w) (hw1 : ∀ i, i < 144 → w i = 0 ∨ w i = 1) (hw2 : ∀ i, i < 144 → ¬ w i = 0 → ¬ yops i = 1) {m s : Nat} (hm : m < 6) (hs : s < 2) (hk : ¬ ystay (2 * m + s) = 0) {z : Nat × (Nat → Int32)} (hz : z.1 ≤ 4708)
    (H : post (nI (ly_pk yops yA yB w m s (ly_c ycnt m) z).1) (yorg, ystrip, ymany, yculp, ytend, yend, ymade, yrounds, yentry, ylinked, yran, ypc, ysteps, youts, yops, yA, yB, ycnt, yrole, ylist, (ly_pk yops yA yB w m s (ly_c ycnt m) z).2, ysym, yimg, ystay, ywide, ymem, yreg, yout)) : ∀ (d k : Nat), k + d = ly_c ycnt m → wY_placeUnit_9 post (nI m) (nI s) yorg ystrip ymany yculp ytend yend ymade yrounds yentry ylinked yran ypc ysteps youts (d + 1) (nI (ly_pk yops yA yB w m s k z).1) (nI (24 * m + k)) yops yA yB ycnt yrole ylist ((ly_pk yops yA yB w m s k z).2) ysym yimg ystay ywide ymem yreg yout := by
  have hc := (hW m hm).1
  intro d
  induction d with
  | zero =>
    intro k hd
    have e : k = ly_c ycnt m := by omega
    subst e
    rw [wY_placeUnit_9]
    exact ly_ylast (hW := hW) (hm := hm) (H := br_t (Int32.le_refl _) H)
  | succ d ih =>
    intro k hd
    have hi : 24 * m + k < 144 := by omega
    have vi : vp_in (nI (24 * m + k)) 144 := vp_in_nI hi (by omega)
    have hle := ly_pk_le hF w (s := s) hm k (by omega) z
    have hsn := ly_sn_lt hF hm (k + 1) (by omega)
    have IH := ih (k + 1) (by omega)
    rw [wY_placeUnit_9]
    refine ly_ylast (hW := hW) (hm := hm) (H := br_f (nI_ge (by omega) (by omega)) (ly_yse (hF := hF) (hm := hm) (hj := by omega) (H := ?_)))
    by_cases e : ly_sn yops yA m (k + 1) = s
    · rw [ly_pk_y e] at IH
      refine br_t (by rw [e]) ?_
      rw [ly_idy2]
      refine ⟨vp_in_nI (by omega) (by omega), ?_⟩
      rw [ly_cl (i := 2 * m + s) (by omega)]
      refine br_f hk ⟨vi, nm_r (e' := upd (ly_pk yops yA yB w m s k z).2 (24 * m + k) (nI (ly_pk yops yA yB w m s k z).1)) (by rw [ly_cl (i := 24 * m + k) (by omega)]) (ly_ysz (hF := hF) (hi := hi) (ht := by omega) (hl := by rw [hw _ hi]; exact hw1 _ hi) (hl1 := by rw [hw _ hi]; exact hw2 _ hi) (H := nm_r (e' := nI ((ly_pk yops yA yB w m s k z).1 + ly_sz yops yA yB w (24 * m + k) (ly_pk yops yA yB w m s k z).1)) ?_ (nm_r (nI_1 _) IH)))⟩
      rw [nI_add, ly_sz_c (hw _ hi)]
    · rw [ly_pk_n e] at IH
      exact br_f (fun q => e (ly_inj (by omega) (by omega) q)) (nm_r (nI_1 _) IH)
theorem ly_ypn {post : Int32 → SY → Prop} {yorg ystrip ymany yculp ytend yend ymade yrounds yentry ylinked yran ypc ysteps youts : Int32} {yops yA yB ycnt yrole ylist yplace ysym yimg ystay ywide ymem yreg yout : Nat → Int32} (hW : ly_W ycnt) (hF : ly_F yops yA yB) {m s : Nat} (hm : m < 6) (hs : s < 2) (hk : ystay (2 * m + s) = 0) (x4 : Int32)
    (H : post x4 (yorg, ystrip, ymany, yculp, ytend, yend, ymade, yrounds, yentry, ylinked, yran, ypc, ysteps, youts, yops, yA, yB, ycnt, yrole, ylist, yplace, ysym, yimg, ystay, ywide, ymem, yreg, yout)) : ∀ (d k : Nat), k + d = ly_c ycnt m → wY_placeUnit_9 post (nI m) (nI s) yorg ystrip ymany yculp ytend yend ymade yrounds yentry ylinked yran ypc ysteps youts (d + 1) x4 (nI (24 * m + k)) yops yA yB ycnt yrole ylist yplace ysym yimg ystay ywide ymem yreg yout := by
  have hc := (hW m hm).1
  intro d
  induction d with
  | zero =>
    intro k hd
    have e : k = ly_c ycnt m := by omega
    subst e
    rw [wY_placeUnit_9]
    exact ly_ylast (hW := hW) (hm := hm) (H := br_t (Int32.le_refl _) H)
  | succ d ih =>
    intro k hd
    have IH := ih (k + 1) (by omega)
    have hsn := ly_sn_lt hF hm (k + 1) (by omega)
    rw [wY_placeUnit_9]
    refine ly_ylast (hW := hW) (hm := hm) (H := br_f (nI_ge (by omega) (by omega)) (ly_yse (hF := hF) (hm := hm) (hj := by omega) (H := ?_)))
    by_cases e : ly_sn yops yA m (k + 1) = s
    · refine br_t (by rw [e]) ?_
      rw [ly_idy2]
      refine ⟨vp_in_nI (by omega) (by omega), ?_⟩
      rw [ly_cl (i := 2 * m + s) (by omega)]
      exact br_t hk (nm_r (nI_1 _) IH)
    · exact br_f (fun q => e (ly_inj (by omega) (by omega) q)) (nm_r (nI_1 _) IH)
theorem ly_yp36 {post : SY → Prop} {J : Int32 → Int32 → Int32 → Int32 → Int32 → Int32 → Int32 → Int32 → Int32 → Int32 → Int32 → Int32 → Int32 → Int32 → Int32 → Int32 → (Nat → Int32) → (Nat → Int32) → (Nat → Int32) → (Nat → Int32) → (Nat → Int32) → (Nat → Int32) → (Nat → Int32) → (Nat → Int32) → (Nat → Int32) → (Nat → Int32) → (Nat → Int32) → (Nat → Int32) → (Nat → Int32) → (Nat → Int32) → Prop} {yorg ystrip yculp ytend yend ymade yrounds yentry ylinked yran ypc ysteps youts : Int32} {yops yA yB ycnt yrole ylist ysym yimg ystay ywide ymem yreg yout : Nat → Int32} (hW : ly_W ycnt) (hF : ly_F yops yA yB) {w : Nat → Int32} (hw : ly_AG 144 ywide w) (hw1 : ∀ i, i < 144 → w i = 0 ∨ w i = 1) (hw2 : ∀ i, i < 144 → ¬ w i = 0 → ¬ yops i = 1) {g : Nat → Nat} {n s : Nat} (hL : ly_LS yops yA ycnt ylist g n) (hs : s < 2) {kb : Nat → Bool} (hK : ∀ u, u < 12 → (ystay u = 0 ↔ kb u = false)) {z : Nat × (Nat → Int32)} (hz : z.1 ≤ 2404)
    (H : J (nI (ly_pl yops yA yB w ycnt kb g s n z).1) (nI (s + 1)) yorg ystrip (nI n) yculp (if s = 0 then nI (ly_pl yops yA yB w ycnt kb g s n z).1 else ytend) yend ymade yrounds yentry ylinked yran ypc ysteps youts yops yA yB ycnt yrole ylist ((ly_pl yops yA yB w ycnt kb g s n z).2) ysym yimg ystay ywide ymem yreg yout) : ∀ (d i : Nat), i + d = n → wY_place_36 post J (nI s) (d + 1) (nI (ly_pl yops yA yB w ycnt kb g s i z).1) (nI i) yorg ystrip (nI n) yculp ytend yend ymade yrounds yentry ylinked yran ypc ysteps youts yops yA yB ycnt yrole ylist ((ly_pl yops yA yB w ycnt kb g s i z).2) ysym yimg ystay ywide ymem yreg yout := by
  obtain ⟨hn, hg⟩ := hL
  intro d
  induction d with
  | zero =>
    intro i hd
    have e : i = n := by omega
    subst e
    refine br_t (Int32.le_refl _) ?_
    by_cases h0 : s = 0
    · rw [if_pos h0] at H
      exact br_t (by rw [h0]; rfl) (nm_r (nI_1 s) H)
    · rw [if_neg h0] at H
      exact br_f (nI_ne0 (by omega) (by omega)) (nm_r (nI_1 s) H)
  | succ d ih =>
    intro i hd
    obtain ⟨g1, g2, g3⟩ := hg i (by omega)
    have hle := ly_pl_le hF hW w (kb := kb) (s := s) i (fun j hj => (hg j (by omega)).1) z
    have IH := ih (i + 1) (by omega)
    refine br_f (nI_ge (by omega) (by omega)) ⟨vp_in_nI (by omega) (by omega), ?_⟩
    rw [ly_cl (i := i) (by omega), g2]
    cases e : kb (2 * g i + s) with
    | false =>
      rw [ly_pl_n e] at IH
      exact nm_r (ly_idy (g i)) ⟨ly_c ycnt (g i) + 1, ly_ypn (hW := hW) (hF := hF) (hm := g1) (hs := hs) (hk := (hK _ (by omega)).mpr e) (x4 := _) (H := nm_r (nI_1 i) IH) (ly_c ycnt (g i)) 0 (by omega)⟩
    | true =>
      rw [ly_pl_y e] at IH
      exact nm_r (ly_idy (g i)) ⟨ly_c ycnt (g i) + 1, ly_ypu (hW := hW) (hF := hF) (hw := hw) (hw1 := hw1) (hw2 := hw2) (hm := g1) (hs := hs) (hk := fun q => by have := (hK _ (by omega)).mp q; rw [e] at this; exact absurd this (by decide)) (z := ly_pl yops yA yB w ycnt kb g s i z) (hz := by omega) (H := nm_r (nI_1 i) IH) (ly_c ycnt (g i)) 0 (by omega)⟩
theorem ly_yp7 {post : SY → Prop} {ystrip yculp ytend yend ymade yrounds yentry ylinked yran ypc ysteps youts : Int32} {yops yA yB ycnt yrole ylist ysym yimg ystay ywide ymem yreg yout : Nat → Int32} (hW : ly_W ycnt) (hF : ly_F yops yA yB) {w : Nat → Int32} (hw : ly_AG 144 ywide w) (hw1 : ∀ i, i < 144 → w i = 0 ∨ w i = 1) (hw2 : ∀ i, i < 144 → ¬ w i = 0 → ¬ yops i = 1) {g : Nat → Nat} {n base : Nat} (hL : ly_LS yops yA ycnt ylist g n) (hb : base ≤ 100) {kb : Nat → Bool} (hK : ∀ u, u < 12 → (ystay u = 0 ↔ kb u = false))
    (H : ∀ P : Nat → Int32, (∀ x, x < 144 → P x = -1) → post (nI base, ystrip, nI n, yculp, nI (ly_p0 yops yA yB w ycnt kb g n base P).1, nI (ly_p1 yops yA yB w ycnt kb g n base P).1, ymade, yrounds, yentry, ylinked, yran, ypc, ysteps, youts, yops, yA, yB, ycnt, yrole, ylist, (ly_p1 yops yA yB w ycnt kb g n base P).2, ysym, yimg, ystay, ywide, ymem, yreg, yout)) : ∀ (d k : Nat) (yplace : Nat → Int32), k + d = 144 → (∀ x, x < k → yplace x = -1) → wY_place_7 post (nI base) (nI base) ystrip (nI n) yculp ytend yend ymade yrounds yentry ylinked yran ypc ysteps youts (d + 1) (nI k) yops yA yB ycnt yrole ylist yplace ysym yimg ystay ywide ymem yreg yout := by
  have hg : ∀ j, j < n → g j < 6 := fun j hj => (hL.2 j hj).1
  intro d
  induction d with
  | zero =>
    intro k P hd hP
    have e : k = 144 := by omega
    subst e
    have hle := ly_pl_le hF hW w (kb := kb) (s := 0) n hg (base, P)
    have hn := hL.1
    dsimp only at hle
    refine br_t (by decide) ⟨3, br_f (by decide) ⟨n + 1, ly_yp36 (hW := hW) (hF := hF) (hw := hw) (hw1 := hw1) (hw2 := hw2) (hL := hL) (s := 0) (hs := by omega) (hK := hK) (z := (base, P)) (hz := by dsimp only; omega) (H := ?_) n 0 (by omega)⟩⟩
    rw [if_pos rfl]
    refine br_f (by decide) ⟨n + 1, ly_yp36 (hW := hW) (hF := hF) (hw := hw) (hw1 := hw1) (hw2 := hw2) (hL := hL) (s := 1) (hs := by omega) (hK := hK) (z := ly_pl yops yA yB w ycnt kb g 0 n (base, P)) (hz := by omega) (H := ?_) n 0 (by omega)⟩
    rw [if_neg (by decide)]
    exact br_t (by decide) (H P hP)
  | succ d ih =>
    intro k P hd hP
    refine br_f (nI_ge (b := 144) (by omega) (by omega)) ⟨vp_in_nI (by omega) (by omega), nm_r (e' := upd P k (-1)) (by rw [ly_cl (i := k) (by omega)]) (nm_r (nI_1 k) (ih (k + 1) _ (by omega) (fun x hx => ?_)))⟩
    by_cases e : x = k
    · subst e; exact pk_us
    · rw [pk_un e]; exact hP x (by omega)
theorem ly_ypl {post : SY → Prop} {ystrip yculp ytend yend ymade yrounds yentry ylinked yran ypc ysteps youts : Int32} {yops yA yB ycnt yrole ylist yplace ysym yimg ystay ywide ymem yreg yout : Nat → Int32} (hW : ly_W ycnt) (hF : ly_F yops yA yB) {w : Nat → Int32} (hw : ly_AG 144 ywide w) (hw1 : ∀ i, i < 144 → w i = 0 ∨ w i = 1) (hw2 : ∀ i, i < 144 → ¬ w i = 0 → ¬ yops i = 1) {g : Nat → Nat} {n base : Nat} (hL : ly_LS yops yA ycnt ylist g n) (hb : base ≤ 100) {kb : Nat → Bool} (hK : ∀ u, u < 12 → (ystay u = 0 ↔ kb u = false))
    (H : ∀ P : Nat → Int32, (∀ x, x < 144 → P x = -1) → post (nI base, ystrip, nI n, yculp, nI (ly_p0 yops yA yB w ycnt kb g n base P).1, nI (ly_p1 yops yA yB w ycnt kb g n base P).1, ymade, yrounds, yentry, ylinked, yran, ypc, ysteps, youts, yops, yA, yB, ycnt, yrole, ylist, (ly_p1 yops yA yB w ycnt kb g n base P).2, ysym, yimg, ystay, ywide, ymem, yreg, yout)) : wpY_place post (nI base, ystrip, nI n, yculp, ytend, yend, ymade, yrounds, yentry, ylinked, yran, ypc, ysteps, youts, yops, yA, yB, ycnt, yrole, ylist, yplace, ysym, yimg, ystay, ywide, ymem, yreg, yout) :=
  ⟨145, ly_yp7 (hW := hW) (hF := hF) (hw := hw) (hw1 := hw1) (hw2 := hw2) (hL := hL) (hb := hb) (hK := hK) (H := H) 144 0 yplace (by omega) (fun x hx => absurd hx (Nat.not_lt_zero x))⟩

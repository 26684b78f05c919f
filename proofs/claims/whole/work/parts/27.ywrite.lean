/-! Y: the image -/
theorem ly_y228 {post : SY → Prop} {yorg ystrip ymany yculp ytend yend ymade yrounds yentry ylinked yran ypc ysteps youts : Int32} {yops yA yB ycnt yrole ylist yplace ysym yimg ystay ywide ymem yreg yout : Nat → Int32} {p : Nat} (hp : p < 256) (x7 x8 x9 z0 z1 : Int32) (h2 : ¬ x7 = 0 → p + 1 < 256) (H : post (yorg, ystrip, ymany, yculp, ytend, yend, ymade, yrounds, yentry, ylinked, yran, ypc, ysteps, youts, yops, yA, yB, ycnt, yrole, ylist, yplace, ysym, if x7 = 0 then upd yimg p ((z1 + z0) + (x9 &&& 65535)) else upd (upd yimg p ((z1 + z0) + (x9 &&& 65535))) (p + 1) x8, ystay, ywide, ymem, yreg, yout)) : wY_write_228 post (nI p) x7 x8 x9 z0 z1 (nI p) yorg ystrip ymany yculp ytend yend ymade yrounds yentry ylinked yran ypc ysteps youts yops yA yB ycnt yrole ylist yplace ysym yimg ystay ywide ymem yreg yout := by
  refine ⟨vp_in_nI hp (by omega), nm_r (e' := upd yimg p ((z1 + z0) + (x9 &&& 65535))) (by rw [ly_cl (i := p) (by omega)]) ?_⟩
  by_cases z : x7 = 0
  · rw [if_pos z] at H; exact br_t z H
  · rw [if_neg z] at H
    have hz := h2 z
    refine br_f z ?_
    rw [nI_1]
    exact ⟨vp_in_nI hz (by omega), nm_r (e' := upd (upd yimg p ((z1 + z0) + (x9 &&& 65535))) (p + 1) x8) (by rw [ly_cl (i := p + 1) (by omega)]) H⟩
theorem ly_y191 {post : SY → Prop} {yorg ystrip ymany yculp ytend yend ymade yrounds yentry ylinked yran ypc ysteps youts : Int32} {yops yA yB ycnt yrole ylist yplace ysym yimg ystay ywide ymem yreg yout : Nat → Int32} {p : Nat} (hp : p < 256) (x3 x4 x6 x7 G L B : Int32) (h2 : ¬ x7 = 0 → p + 1 < 256) (hB : (if x6 = 0 then (x3 <<< ((24 : Int32) &&& 31)) + 0 else (x3 <<< ((24 : Int32) &&& 31)) + (x4 <<< ((20 : Int32) &&& 31))) = B) (H : post (yorg, ystrip, ymany, yculp, ytend, yend, ymade, yrounds, yentry, ylinked, yran, ypc, ysteps, youts, yops, yA, yB, ycnt, yrole, ylist, yplace, ysym, if x7 = 0 then upd yimg p (B + (L &&& 65535)) else upd (upd yimg p (B + (L &&& 65535) + 65536)) (p + 1) G, ystay, ywide, ymem, yreg, yout)) : wY_write_191 post (nI p) x3 x4 x6 x7 G L yorg ystrip ymany yculp ytend yend ymade yrounds yentry ylinked yran ypc ysteps youts yops yA yB ycnt yrole ylist yplace ysym yimg ystay ywide ymem yreg yout := by
  have go : wY_write_216 post (nI p) x7 G L B 0 (nI p) yorg ystrip ymany yculp ytend yend ymade yrounds yentry ylinked yran ypc ysteps youts yops yA yB ycnt yrole ylist yplace ysym yimg ystay ywide ymem yreg yout ∨ True := Or.inr trivial
  have e1 : ∀ v : Int32, B = v → (v + 0) + (L &&& 65535) = B + (L &&& 65535) := fun v e => by rw [← e, Int32.add_zero]
  have e2 : ∀ v : Int32, B = v → (v + 65536) + (L &&& 65535) = B + (L &&& 65535) + 65536 := fun v e => by rw [← e, Int32.add_assoc, Int32.add_comm 65536, ← Int32.add_assoc]
  have fin : ∀ z1 z0 : Int32, B = z1 + z0 → wY_write_216 post (nI p) x7 G L z0 z1 (nI p) yorg ystrip ymany yculp ytend yend ymade yrounds yentry ylinked yran ypc ysteps youts yops yA yB ycnt yrole ylist yplace ysym yimg ystay ywide ymem yreg yout := by
    intro z1 z0 e
    by_cases z : x7 = 0
    · refine br_t z (ly_y228 (hp := hp) (x7 := x7) (x8 := G) (x9 := L) (z0 := 0) (z1 := z1 + z0) (h2 := h2) (H := ?_))
      rw [if_pos z, e1 _ e]
      rw [if_pos z] at H
      exact H
    · refine br_f z (ly_y228 (hp := hp) (x7 := x7) (x8 := G) (x9 := L) (z0 := 65536) (z1 := z1 + z0) (h2 := h2) (H := ?_))
      rw [if_neg z, e2 _ e]
      rw [if_neg z] at H
      exact H
  by_cases z : x6 = 0
  · rw [if_pos z] at hB
    exact br_t z (fin _ _ hB.symm)
  · rw [if_neg z] at hB
    exact br_f z (fin _ _ hB.symm)
theorem ly_y153 {post : SY → Prop} {yorg ystrip ymany yculp ytend yend ymade yrounds yentry ylinked yran ypc ysteps youts : Int32} {yops yA yB ycnt yrole ylist yplace ysym yimg ystay ywide ymem yreg yout : Nat → Int32} {q : Nat} (h1 : 1 ≤ q) (h14 : q ≤ 14) (x2 x4 x6 x7 G L : Int32) (hL : L = if q = 8 ∨ q = 9 ∨ q = 10 then G - x2 else if q = 11 ∨ q = 13 ∨ q = 14 then 0 else G) (H : wY_write_191 post x2 (nI q) x4 x6 x7 G L yorg ystrip ymany yculp ytend yend ymade yrounds yentry ylinked yran ypc ysteps youts yops yA yB ycnt yrole ylist yplace ysym yimg ystay ywide ymem yreg yout) : wY_write_153 post x2 (nI q) x4 x6 x7 G yorg ystrip ymany yculp ytend yend ymade yrounds yentry ylinked yran ypc ysteps youts yops yA yB ycnt yrole ylist yplace ysym yimg ystay ywide ymem yreg yout := by
  subst hL
  have h : q = 1 ∨ q = 2 ∨ q = 3 ∨ q = 4 ∨ q = 5 ∨ q = 6 ∨ q = 7 ∨ q = 8 ∨ q = 9 ∨ q = 10 ∨ q = 11 ∨ q = 12 ∨ q = 13 ∨ q = 14 := by omega
  rcases h with rfl | rfl | rfl | rfl | rfl | rfl | rfl | rfl | rfl | rfl | rfl | rfl | rfl | rfl
  · rw [if_neg (by omega), if_neg (by omega)] at H; exact (br_t (by decide) (br_t rfl (br_f (by decide) (br_t (by decide) H))))
  · rw [if_neg (by omega), if_neg (by omega)] at H; exact (br_t (by decide) (br_t rfl (br_f (by decide) (br_t (by decide) H))))
  · rw [if_neg (by omega), if_neg (by omega)] at H; exact (br_t (by decide) (br_t rfl (br_f (by decide) (br_t (by decide) H))))
  · rw [if_neg (by omega), if_neg (by omega)] at H; exact (br_t (by decide) (br_t rfl (br_f (by decide) (br_t (by decide) H))))
  · rw [if_neg (by omega), if_neg (by omega)] at H; exact (br_t (by decide) (br_t rfl (br_f (by decide) (br_t (by decide) H))))
  · rw [if_neg (by omega), if_neg (by omega)] at H; exact (br_t (by decide) (br_t rfl (br_f (by decide) (br_t (by decide) H))))
  · rw [if_neg (by omega), if_neg (by omega)] at H; exact (br_t (by decide) (br_t rfl (br_f (by decide) (br_t (by decide) H))))
  · rw [if_pos (by omega)] at H; exact br_f (by decide) (br_f (by decide) (br_f (by decide) H))
  · rw [if_pos (by omega)] at H; exact br_f (by decide) (br_f (by decide) (br_f (by decide) H))
  · rw [if_pos (by omega)] at H; exact br_f (by decide) (br_f (by decide) (br_f (by decide) H))
  · rw [if_neg (by omega), if_pos (by omega)] at H; exact (br_f (by decide) (br_t (by decide) (br_t rfl (br_t rfl H))))
  · rw [if_neg (by omega), if_neg (by omega)] at H; exact (br_f (by decide) (br_t (by decide) (br_t rfl (br_f (by decide) (br_t (by decide) H)))))
  · rw [if_neg (by omega), if_pos (by omega)] at H; exact (br_f (by decide) (br_t (by decide) (br_t rfl (br_f (by decide) (br_f (by decide) H)))))
  · rw [if_neg (by omega), if_pos (by omega)] at H; exact (br_f (by decide) (br_t (by decide) (br_t rfl (br_f (by decide) (br_f (by decide) H)))))
theorem ly_lo_q {q : Nat} (h1 : 1 ≤ q) (h14 : q ≤ 14) (b x2 gl : Int32) : ly_lo (nI q) b x2 gl = if q = 8 ∨ q = 9 ∨ q = 10 then (if ly_us (nI q) = true then gl else b) - x2 else if q = 11 ∨ q = 13 ∨ q = 14 then 0 else (if ly_us (nI q) = true then gl else b) := by
  unfold ly_lo
  have h : q = 1 ∨ q = 2 ∨ q = 3 ∨ q = 4 ∨ q = 5 ∨ q = 6 ∨ q = 7 ∨ q = 8 ∨ q = 9 ∨ q = 10 ∨ q = 11 ∨ q = 12 ∨ q = 13 ∨ q = 14 := by omega
  rcases h with rfl | rfl | rfl | rfl | rfl | rfl | rfl | rfl | rfl | rfl | rfl | rfl | rfl | rfl
  · rw [if_neg (by decide), if_neg (by decide), if_neg (by decide), if_neg (by omega), if_neg (by omega), if_neg (by decide)]
  · rw [if_neg (by decide), if_neg (by decide), if_neg (by decide), if_neg (by omega), if_neg (by omega), if_neg (by decide)]
  · rw [if_neg (by decide), if_neg (by decide), if_neg (by decide), if_neg (by omega), if_neg (by omega), if_neg (by decide)]
  · rw [if_neg (by decide), if_neg (by decide), if_neg (by decide), if_neg (by omega), if_neg (by omega), if_neg (by decide)]
  · rw [if_neg (by decide), if_neg (by decide), if_neg (by decide), if_neg (by omega), if_neg (by omega), if_neg (by decide)]
  · rw [if_neg (by decide), if_neg (by decide), if_neg (by decide), if_neg (by omega), if_neg (by omega), if_neg (by decide)]
  · rw [if_neg (by decide), if_neg (by decide), if_neg (by decide), if_neg (by omega), if_neg (by omega), if_neg (by decide)]
  · rw [if_pos (by decide), if_pos (by omega), if_pos (by decide)]
  · rw [if_pos (by decide), if_pos (by omega), if_pos (by decide)]
  · rw [if_pos (by decide), if_pos (by omega), if_pos (by decide)]
  · rw [if_neg (by decide), if_neg (by decide), if_pos (by decide), if_neg (by omega), if_pos (by omega)]
  · rw [if_neg (by decide), if_pos (by decide), if_neg (by omega), if_neg (by omega), if_pos (by decide)]
  · rw [if_neg (by decide), if_neg (by decide), if_pos (by decide), if_neg (by omega), if_pos (by omega)]
  · rw [if_neg (by decide), if_neg (by decide), if_pos (by decide), if_neg (by omega), if_pos (by omega)]
theorem ly_yw112 {post : SY → Prop} {yorg ystrip yculp ytend yend ymade yrounds yentry ylinked yran ypc ysteps youts : Int32} {yops yA yB ycnt yrole ylist yplace ysym yimg ystay ywide ymem yreg yout : Nat → Int32} (hW : ly_W ycnt) (hF : ly_F yops yA yB) {g : Nat → Nat} {n : Nat} (hL : ly_LS yops yA ycnt ylist g n) (hG : ly_GD yops yA yB ycnt g n) {i p q : Nat} (hi : i < 144) (hth : ly_th ycnt g n i) (h1 : 1 ≤ q) (h14 : q ≤ 14) (eo : yops i = nI q) (hl : ywide i = 0 ∨ ywide i = 1) (hl1 : ¬ ywide i = 0 → ¬ yops i = 1) (hp : p < 256) (h2 : ¬ ly_h2 yops yB ywide i = 0 → p + 1 < 256) (x6 : Int32) (h6 : (if x6 = 0 then (nI q <<< ((24 : Int32) &&& 31)) + 0 else (nI q <<< ((24 : Int32) &&& 31)) + (yA i <<< ((20 : Int32) &&& 31))) = (nI q <<< ((24 : Int32) &&& 31)) + (ly_ro (nI q) (yA i) <<< ((20 : Int32) &&& 31)))
    (hnl : ¬ q = 1 → ly_us (nI q) = false → ly_h2 yops yB ywide i = 0)
    (H : post (yorg, ystrip, nI n, yculp, ytend, yend, ymade, yrounds, yentry, ylinked, yran, ypc, ysteps, youts, yops, yA, yB, ycnt, yrole, ylist, yplace, ysym, ly_iw (yops i) (yA i) (yB i) p (yplace (ly_tn yops yA yB ycnt g n i)) (ly_h2 yops yB ywide i) yimg, ystay, ywide, ymem, yreg, yout)) : wY_write_112 post (nI i) (nI p) (nI q) (yA i) (yB i) x6 yorg ystrip (nI n) yculp ytend yend ymade yrounds yentry ylinked yran ypc ysteps youts yops yA yB ycnt yrole ylist yplace ysym yimg ystay ywide ymem yreg yout := by
  have q0 : ∀ j : Nat, j ≤ 31 → ¬ q = j → ¬ yops i = nI j := fun j hj hne z => hne (ly_inj (by omega) (by omega) (eo.symm.trans z))
  have nn : ¬ (yops i = 0 ∨ yops i = 17 ∨ yops i = 18 ∨ yops i = 19) := fun z => by
    rcases z with z | z | z | z
    · exact q0 0 (by omega) (by omega) z
    · exact q0 17 (by omega) (by omega) z
    · exact q0 18 (by omega) (by omega) z
    · exact q0 19 (by omega) (by omega) z
  have n15 : ¬ yops i = 15 := q0 15 (by omega) (by omega)
  have n16 : ¬ yops i = 16 := q0 16 (by omega) (by omega)
  unfold ly_iw at H
  rw [if_neg nn, if_neg n15, if_neg n16, eo] at H
  -- from the goal on
  have low : ∀ (x7 G : Int32), (x7 = 0 ↔ ly_h2 yops yB ywide i = 0) → G = (if ly_us (nI q) = true then yplace (ly_tn yops yA yB ycnt g n i) else yB i) → wY_write_153 post (nI p) (nI q) (yA i) x6 x7 G yorg ystrip (nI n) yculp ytend yend ymade yrounds yentry ylinked yran ypc ysteps youts yops yA yB ycnt yrole ylist yplace ysym yimg ystay ywide ymem yreg yout := by
    intro x7 G hx hGe
    refine ly_y153 (h1 := h1) (h14 := h14) (L := ly_lo (nI q) (yB i) (nI p) (yplace (ly_tn yops yA yB ycnt g n i))) (hL := by rw [ly_lo_q h1 h14, ← hGe]) (H := ly_y191 (hp := hp) (B := _) (h2 := fun z => h2 (fun y => z (hx.mpr y))) (hB := h6) (H := ?_))
    by_cases z : ly_h2 yops yB ywide i = 0
    · rw [if_pos (hx.mpr z)]
      rw [if_pos z] at H
      exact H
    · rw [if_neg (fun y => z (hx.mp y))]
      rw [if_neg z] at H
      have eg : G = if nI q = 1 then yB i else yplace (ly_tn yops yA yB ycnt g n i) := by
        rw [hGe]
        by_cases c1 : q = 1
        · subst c1; rfl
        · have n1 : ¬ nI q = 1 := fun y => c1 (ly_inj (b := 1) (by omega) (by omega) y)
          rw [if_neg n1]
          cases hu : ly_us (nI q) with
          | true => rfl
          | false => exact absurd (hnl c1 hu) z
      rw [eg]; exact H
  have at129 : ∀ x7 : Int32, (x7 = 0 ↔ ly_h2 yops yB ywide i = 0) → wY_write_129 post (nI i) (nI p) (nI q) (yA i) (yB i) x6 x7 yorg ystrip (nI n) yculp ytend yend ymade yrounds yentry ylinked yran ypc ysteps youts yops yA yB ycnt yrole ylist yplace ysym yimg ystay ywide ymem yreg yout := by
    intro x7 hx
    unfold wY_write_129
    refine ly_yuses (by omega) ?_
    cases hu : ly_us (nI q) with
    | false => exact br_t rfl (low x7 (yB i) hx (by rw [hu]; rfl))
    | true =>
      have ha : ly_at yops ycnt g n i = true := by
        unfold ly_at
        rw [hth.2.1, decide_eq_true hth.2.2, eo]
        exact hu
      obtain ⟨t1, t2⟩ := ly_tn_t hW hF hG hi ha
      have ht := t1.1
      obtain ⟨f, hf', ef⟩ := ly_ft_s (hF i hi) (by rw [eo]; exact hu)
      obtain ⟨j, j1, j2⟩ := ly_li_g.mp hth.2.1
      refine br_f (by decide) (ly_ytg (hW := hW) (hF := hF) (hL := hL) (hi := hi) (hf := by rw [← j2]; exact (hG.2.1 j j1).2) (hs := by rw [ef]; exact hG.2.2.1 f hf') (H := ?_))
      rw [t2]
      refine ⟨vp_in_nI ht (by omega), ?_⟩
      rw [ly_cl (i := ly_tn yops yA yB ycnt g n i) (by omega)]
      exact low x7 _ hx (by rw [hu]; rfl)
  unfold wY_write_112
  refine ly_ysz (hF := hF) (hi := hi) (ht := by omega) (hl := hl) (hl1 := hl1) (H := ?_)
  rcases ly_sz_2 (o := yops) (a := yA) (b := yB) (w := ywide) (i := i) (t := p) (fun e => nn (Or.inl e)) (fun e => nn (Or.inr (Or.inr (Or.inr e)))) (fun e => nn (Or.inr (Or.inl e))) (fun e => nn (Or.inr (Or.inr (Or.inl e)))) hl with ⟨s1, s2⟩ | ⟨s1, s2⟩
  · rw [s2]
    exact br_f (by decide) (at129 0 ⟨fun _ => s1, fun _ => rfl⟩)
  · rw [s2]
    exact br_t rfl (at129 1 ⟨fun z => absurd z (by decide), fun z => by rw [s1] at z; exact absurd z (by decide)⟩)
theorem ly_ywr {post : SY → Prop} {yorg ystrip yculp ytend yend ymade yrounds yentry ylinked yran ypc ysteps youts : Int32} {yops yA yB ycnt yrole ylist yplace ysym yimg ystay ywide ymem yreg yout : Nat → Int32} (hW : ly_W ycnt) (hF : ly_F yops yA yB) {g : Nat → Nat} {n : Nat} (hL : ly_LS yops yA ycnt ylist g n) (hG : ly_GD yops yA yB ycnt g n) {i p : Nat} (hi : i < 144) (hth : ly_th ycnt g n i) (hl : ywide i = 0 ∨ ywide i = 1) (hlu : ¬ ywide i = 0 → ly_us (yops i) = true) (hp : ¬ (yops i = 0 ∨ yops i = 17 ∨ yops i = 18 ∨ yops i = 19) → p < 256) (h2 : ¬ (yops i = 0 ∨ yops i = 17 ∨ yops i = 18 ∨ yops i = 19) → ¬ ly_h2 yops yB ywide i = 0 → p + 1 < 256)
    (H : post (yorg, ystrip, nI n, yculp, ytend, yend, ymade, yrounds, yentry, ylinked, yran, ypc, ysteps, youts, yops, yA, yB, ycnt, yrole, ylist, yplace, ysym, ly_iw (yops i) (yA i) (yB i) p (yplace (ly_tn yops yA yB ycnt g n i)) (ly_h2 yops yB ywide i) yimg, ystay, ywide, ymem, yreg, yout)) : wpY_write post (yorg, ystrip, nI n, yculp, ytend, yend, ymade, yrounds, yentry, ylinked, yran, ypc, ysteps, youts, yops, yA, yB, ycnt, yrole, ylist, yplace, ysym, yimg, ystay, ywide, ymem, yreg, yout) (nI i) (nI p) := by
  have vi : vp_in (nI i) 144 := vp_in_nI hi (by omega)
  have ei : (nI i).toNatClampNeg = i := ly_cl (by omega)
  obtain ⟨op, hop, eo, _⟩ := hF i hi
  have hnl : ∀ q : Nat, yops i = nI q → q ≤ 19 → ¬ q = 1 → ly_us (nI q) = false → ly_h2 yops yB ywide i = 0 := by
    intro q eq hq hq1 hu
    have n1 : ¬ yops i = 1 := fun z => hq1 (ly_inj (b := 1) (by omega) (by omega) (eq.symm.trans z))
    unfold ly_h2
    rw [if_neg n1]
    by_cases c0 : ywide i = 0
    · exact c0
    · have := hlu c0
      rw [eq, hu] at this; exact absurd this (by decide)
  unfold wpY_write
  dsimp only
  rw [ei]
  refine ⟨vi, nm_r eo ⟨vi, nm_e ⟨vi, nm_e ?_⟩⟩⟩
  have h : op = 0 ∨ op = 1 ∨ op = 2 ∨ op = 3 ∨ op = 4 ∨ op = 5 ∨ op = 6 ∨ op = 7 ∨ op = 8 ∨ op = 9 ∨ op = 10 ∨ op = 11 ∨ op = 12 ∨ op = 13 ∨ op = 14 ∨ op = 15 ∨ op = 16 ∨ op = 17 ∨ op = 18 ∨ op = 19 := by omega
  rcases h with rfl | rfl | rfl | rfl | rfl | rfl | rfl | rfl | rfl | rfl | rfl | rfl | rfl | rfl | rfl | rfl | rfl | rfl | rfl | rfl
  · unfold ly_iw at H; rw [if_pos (by rw [eo]; decide)] at H; exact br_t rfl H
  · have nn : ¬ (yops i = 0 ∨ yops i = 17 ∨ yops i = 18 ∨ yops i = 19) := by rw [eo]; decide
    exact br_f (by decide) (br_t (by decide) (br_f (by decide) (br_f (by decide) (br_f (by decide) (br_f (by decide) (br_f (by decide) (ly_yw112 (hW := hW) (hF := hF) (hL := hL) (hG := hG) (hi := hi) (hth := hth) (h1 := by omega) (h14 := by omega) (eo := eo) (hl := hl) (hl1 := fun z => ly_us_1 (hlu z)) (hp := hp nn) (h2 := h2 nn) (x6 := 1) (h6 := by unfold ly_ro; rw [if_neg (by decide), if_neg (by decide)]) (hnl := hnl 1 eo (by omega)) (H := H))))))))
  · have nn : ¬ (yops i = 0 ∨ yops i = 17 ∨ yops i = 18 ∨ yops i = 19) := by rw [eo]; decide
    exact br_f (by decide) (br_t (by decide) (br_f (by decide) (br_f (by decide) (br_f (by decide) (br_f (by decide) (br_f (by decide) (ly_yw112 (hW := hW) (hF := hF) (hL := hL) (hG := hG) (hi := hi) (hth := hth) (h1 := by omega) (h14 := by omega) (eo := eo) (hl := hl) (hl1 := fun z => ly_us_1 (hlu z)) (hp := hp nn) (h2 := h2 nn) (x6 := 1) (h6 := by unfold ly_ro; rw [if_neg (by decide), if_neg (by decide)]) (hnl := hnl 2 eo (by omega)) (H := H))))))))
  · have nn : ¬ (yops i = 0 ∨ yops i = 17 ∨ yops i = 18 ∨ yops i = 19) := by rw [eo]; decide
    exact br_f (by decide) (br_t (by decide) (br_f (by decide) (br_f (by decide) (br_f (by decide) (br_f (by decide) (br_f (by decide) (ly_yw112 (hW := hW) (hF := hF) (hL := hL) (hG := hG) (hi := hi) (hth := hth) (h1 := by omega) (h14 := by omega) (eo := eo) (hl := hl) (hl1 := fun z => ly_us_1 (hlu z)) (hp := hp nn) (h2 := h2 nn) (x6 := 1) (h6 := by unfold ly_ro; rw [if_neg (by decide), if_neg (by decide)]) (hnl := hnl 3 eo (by omega)) (H := H))))))))
  · have nn : ¬ (yops i = 0 ∨ yops i = 17 ∨ yops i = 18 ∨ yops i = 19) := by rw [eo]; decide
    exact br_f (by decide) (br_t (by decide) (br_f (by decide) (br_f (by decide) (br_f (by decide) (br_f (by decide) (br_f (by decide) (ly_yw112 (hW := hW) (hF := hF) (hL := hL) (hG := hG) (hi := hi) (hth := hth) (h1 := by omega) (h14 := by omega) (eo := eo) (hl := hl) (hl1 := fun z => ly_us_1 (hlu z)) (hp := hp nn) (h2 := h2 nn) (x6 := 1) (h6 := by unfold ly_ro; rw [if_neg (by decide), if_neg (by decide)]) (hnl := hnl 4 eo (by omega)) (H := H))))))))
  · have nn : ¬ (yops i = 0 ∨ yops i = 17 ∨ yops i = 18 ∨ yops i = 19) := by rw [eo]; decide
    exact br_f (by decide) (br_t (by decide) (br_f (by decide) (br_f (by decide) (br_f (by decide) (br_f (by decide) (br_f (by decide) (ly_yw112 (hW := hW) (hF := hF) (hL := hL) (hG := hG) (hi := hi) (hth := hth) (h1 := by omega) (h14 := by omega) (eo := eo) (hl := hl) (hl1 := fun z => ly_us_1 (hlu z)) (hp := hp nn) (h2 := h2 nn) (x6 := 1) (h6 := by unfold ly_ro; rw [if_neg (by decide), if_neg (by decide)]) (hnl := hnl 5 eo (by omega)) (H := H))))))))
  · have nn : ¬ (yops i = 0 ∨ yops i = 17 ∨ yops i = 18 ∨ yops i = 19) := by rw [eo]; decide
    exact br_f (by decide) (br_t (by decide) (br_f (by decide) (br_f (by decide) (br_f (by decide) (br_f (by decide) (br_f (by decide) (ly_yw112 (hW := hW) (hF := hF) (hL := hL) (hG := hG) (hi := hi) (hth := hth) (h1 := by omega) (h14 := by omega) (eo := eo) (hl := hl) (hl1 := fun z => ly_us_1 (hlu z)) (hp := hp nn) (h2 := h2 nn) (x6 := 1) (h6 := by unfold ly_ro; rw [if_neg (by decide), if_neg (by decide)]) (hnl := hnl 6 eo (by omega)) (H := H))))))))
  · have nn : ¬ (yops i = 0 ∨ yops i = 17 ∨ yops i = 18 ∨ yops i = 19) := by rw [eo]; decide
    exact br_f (by decide) (br_t (by decide) (br_f (by decide) (br_f (by decide) (br_f (by decide) (br_f (by decide) (br_f (by decide) (ly_yw112 (hW := hW) (hF := hF) (hL := hL) (hG := hG) (hi := hi) (hth := hth) (h1 := by omega) (h14 := by omega) (eo := eo) (hl := hl) (hl1 := fun z => ly_us_1 (hlu z)) (hp := hp nn) (h2 := h2 nn) (x6 := 1) (h6 := by unfold ly_ro; rw [if_neg (by decide), if_neg (by decide)]) (hnl := hnl 7 eo (by omega)) (H := H))))))))
  · have nn : ¬ (yops i = 0 ∨ yops i = 17 ∨ yops i = 18 ∨ yops i = 19) := by rw [eo]; decide
    exact br_f (by decide) (br_t (by decide) (br_f (by decide) (br_f (by decide) (br_f (by decide) (br_t (by decide) (br_t rfl (br_f (by decide) (br_f (by decide) (br_f (by decide) (ly_yw112 (hW := hW) (hF := hF) (hL := hL) (hG := hG) (hi := hi) (hth := hth) (h1 := by omega) (h14 := by omega) (eo := eo) (hl := hl) (hl1 := fun z => ly_us_1 (hlu z)) (hp := hp nn) (h2 := h2 nn) (x6 := 0) (h6 := by unfold ly_ro; rw [if_pos rfl, if_pos (by decide)]; rfl) (hnl := hnl 8 eo (by omega)) (H := H)))))))))))
  · have nn : ¬ (yops i = 0 ∨ yops i = 17 ∨ yops i = 18 ∨ yops i = 19) := by rw [eo]; decide
    exact br_f (by decide) (br_t (by decide) (br_f (by decide) (br_f (by decide) (br_f (by decide) (br_t (by decide) (br_t rfl (br_t rfl (ly_yw112 (hW := hW) (hF := hF) (hL := hL) (hG := hG) (hi := hi) (hth := hth) (h1 := by omega) (h14 := by omega) (eo := eo) (hl := hl) (hl1 := fun z => ly_us_1 (hlu z)) (hp := hp nn) (h2 := h2 nn) (x6 := 1) (h6 := by unfold ly_ro; rw [if_neg (by decide), if_neg (by decide)]) (hnl := hnl 9 eo (by omega)) (H := H)))))))))
  · have nn : ¬ (yops i = 0 ∨ yops i = 17 ∨ yops i = 18 ∨ yops i = 19) := by rw [eo]; decide
    exact br_f (by decide) (br_t (by decide) (br_f (by decide) (br_f (by decide) (br_f (by decide) (br_t (by decide) (br_t rfl (br_f (by decide) (br_f (by decide) (br_f (by decide) (ly_yw112 (hW := hW) (hF := hF) (hL := hL) (hG := hG) (hi := hi) (hth := hth) (h1 := by omega) (h14 := by omega) (eo := eo) (hl := hl) (hl1 := fun z => ly_us_1 (hlu z)) (hp := hp nn) (h2 := h2 nn) (x6 := 0) (h6 := by unfold ly_ro; rw [if_pos rfl, if_pos (by decide)]; rfl) (hnl := hnl 10 eo (by omega)) (H := H)))))))))))
  · have nn : ¬ (yops i = 0 ∨ yops i = 17 ∨ yops i = 18 ∨ yops i = 19) := by rw [eo]; decide
    exact br_f (by decide) (br_t (by decide) (br_f (by decide) (br_f (by decide) (br_f (by decide) (br_t (by decide) (br_t rfl (br_f (by decide) (br_f (by decide) (br_f (by decide) (ly_yw112 (hW := hW) (hF := hF) (hL := hL) (hG := hG) (hi := hi) (hth := hth) (h1 := by omega) (h14 := by omega) (eo := eo) (hl := hl) (hl1 := fun z => ly_us_1 (hlu z)) (hp := hp nn) (h2 := h2 nn) (x6 := 0) (h6 := by unfold ly_ro; rw [if_pos rfl, if_pos (by decide)]; rfl) (hnl := hnl 11 eo (by omega)) (H := H)))))))))))
  · have nn : ¬ (yops i = 0 ∨ yops i = 17 ∨ yops i = 18 ∨ yops i = 19) := by rw [eo]; decide
    exact br_f (by decide) (br_t (by decide) (br_f (by decide) (br_f (by decide) (br_f (by decide) (br_t (by decide) (br_t rfl (br_f (by decide) (br_t rfl (ly_yw112 (hW := hW) (hF := hF) (hL := hL) (hG := hG) (hi := hi) (hth := hth) (h1 := by omega) (h14 := by omega) (eo := eo) (hl := hl) (hl1 := fun z => ly_us_1 (hlu z)) (hp := hp nn) (h2 := h2 nn) (x6 := 1) (h6 := by unfold ly_ro; rw [if_neg (by decide), if_neg (by decide)]) (hnl := hnl 12 eo (by omega)) (H := H))))))))))
  · have nn : ¬ (yops i = 0 ∨ yops i = 17 ∨ yops i = 18 ∨ yops i = 19) := by rw [eo]; decide
    exact br_f (by decide) (br_t (by decide) (br_f (by decide) (br_f (by decide) (br_f (by decide) (br_t (by decide) (br_t rfl (br_f (by decide) (br_f (by decide) (br_t rfl (ly_yw112 (hW := hW) (hF := hF) (hL := hL) (hG := hG) (hi := hi) (hth := hth) (h1 := by omega) (h14 := by omega) (eo := eo) (hl := hl) (hl1 := fun z => ly_us_1 (hlu z)) (hp := hp nn) (h2 := h2 nn) (x6 := 1) (h6 := by unfold ly_ro; rw [if_neg (by decide), if_neg (by decide)]) (hnl := hnl 13 eo (by omega)) (H := H)))))))))))
  · have nn : ¬ (yops i = 0 ∨ yops i = 17 ∨ yops i = 18 ∨ yops i = 19) := by rw [eo]; decide
    exact br_f (by decide) (br_t (by decide) (br_f (by decide) (br_f (by decide) (br_f (by decide) (br_t (by decide) (br_t rfl (br_f (by decide) (br_f (by decide) (br_f (by decide) (ly_yw112 (hW := hW) (hF := hF) (hL := hL) (hG := hG) (hi := hi) (hth := hth) (h1 := by omega) (h14 := by omega) (eo := eo) (hl := hl) (hl1 := fun z => ly_us_1 (hlu z)) (hp := hp nn) (h2 := h2 nn) (x6 := 0) (h6 := by unfold ly_ro; rw [if_pos rfl, if_pos (by decide)]; rfl) (hnl := hnl 14 eo (by omega)) (H := H)))))))))))
  · unfold ly_iw at H
    have nn : ¬ (yops i = 0 ∨ yops i = 17 ∨ yops i = 18 ∨ yops i = 19) := by rw [eo]; decide
    rw [if_neg nn, if_pos (by rw [eo]; decide)] at H
    have hp' := hp nn
    exact br_f (by decide) (br_t (by decide) (br_t rfl ⟨vp_in_nI hp' (by omega), nm_r (e' := upd yimg p (yB i)) (by rw [ly_cl (i := p) (by omega)]) H⟩))
  · unfold ly_iw at H
    have nn : ¬ (yops i = 0 ∨ yops i = 17 ∨ yops i = 18 ∨ yops i = 19) := by rw [eo]; decide
    rw [if_neg nn, if_neg (by rw [eo]; decide), if_pos (by rw [eo]; decide)] at H
    have hp' := hp nn
    have hu : ly_us (yops i) = true := by rw [eo]; decide
    have ha : ly_at yops ycnt g n i = true := by
      unfold ly_at
      rw [hth.2.1, decide_eq_true hth.2.2]
      exact hu
    obtain ⟨t1, t2⟩ := ly_tn_t hW hF hG hi ha
    have ht := t1.1
    obtain ⟨f, hf', ef⟩ := ly_ft_s (hF i hi) hu
    obtain ⟨j, j1, j2⟩ := ly_li_g.mp hth.2.1
    refine br_f (by decide) (br_t (by decide) (br_f (by decide) (br_t rfl (ly_ytg (hW := hW) (hF := hF) (hL := hL) (hi := hi) (hf := by rw [← j2]; exact (hG.2.1 j j1).2) (hs := by rw [ef]; exact hG.2.2.1 f hf') (H := ?_)))))
    rw [t2]
    refine ⟨vp_in_nI ht (by omega), ?_⟩
    rw [ly_cl (i := ly_tn yops yA yB ycnt g n i) (by omega)]
    exact ⟨vp_in_nI hp' (by omega), nm_r (e' := upd yimg p (yplace (ly_tn yops yA yB ycnt g n i) + yB i)) (by rw [ly_cl (i := p) (by omega)]) H⟩
  · unfold ly_iw at H; rw [if_pos (by rw [eo]; decide)] at H; exact br_f (by decide) (br_f (by decide) H)
  · unfold ly_iw at H; rw [if_pos (by rw [eo]; decide)] at H; exact br_f (by decide) (br_f (by decide) H)
  · unfold ly_iw at H; rw [if_pos (by rw [eo]; decide)] at H; exact br_f (by decide) (br_f (by decide) H)

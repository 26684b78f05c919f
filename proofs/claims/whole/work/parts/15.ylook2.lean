/-! Y: fetched, chosen, target, sections, units -/
theorem ly_fl_s {o a b cnt : Nat → Int32} {g : Nat → Nat} {s t : Int32} {i : Nat} : ly_fl o a b cnt g s t (i + 1) = if ly_fl o a b cnt g s t i = -1 then ly_xl o a b cnt (g i) s t else ly_fl o a b cnt g s t i := rfl
theorem ly_fl_c {o a b cnt : Nat → Int32} {g : Nat → Nat} {s t : Int32} : ∀ n, ly_fl o a b cnt g s t n = -1 ∨ ∃ j k, j < n ∧ 24 * g j ≤ k ∧ k < 24 * g j + ly_c cnt (g j) ∧ o k = 0 ∧ a k = s ∧ b k = t ∧ ly_fl o a b cnt g s t n = nI k := by
  intro n
  induction n with
  | zero => exact Or.inl rfl
  | succ n ih =>
    rw [ly_fl_s]
    rcases ih with e | ⟨j, k, h1, h2, h3, h4, h5, h6, e⟩
    · rw [if_pos e]
      rcases ly_fd_c (ly_l3 o a b s t) (ly_c cnt (g n)) (24 * g n) with ⟨e2, _⟩ | ⟨k, k1, k2, k3, _, e2⟩
      · exact Or.inl e2
      · obtain ⟨p1, p2, p3⟩ := of_decide_eq_true k3
        exact Or.inr ⟨n, k, by omega, k1, k2, p1, p2, p3, e2⟩
    · by_cases hz : ly_fl o a b cnt g s t n = -1
      · rw [if_pos hz]
        rcases ly_fd_c (ly_l3 o a b s t) (ly_c cnt (g n)) (24 * g n) with ⟨e2, _⟩ | ⟨k, k1, k2, k3, _, e2⟩
        · exact Or.inl e2
        · obtain ⟨p1, p2, p3⟩ := of_decide_eq_true k3
          exact Or.inr ⟨n, k, by omega, k1, k2, p1, p2, p3, e2⟩
      · rw [if_neg hz]
        exact Or.inr ⟨j, k, by omega, h2, h3, h4, h5, h6, e⟩
def ly_cy (o a b cnt : Nat → Int32) (g : Nat → Nat) (n : Nat) (s : Int32) : Int32 := if ly_sv o a b cnt g s n = true then -2 else ly_co o a b cnt g n s
theorem ly_ych7 {post : Int32 → Prop} {yorg ystrip yculp ytend yend ymade yrounds yentry ylinked yran ypc ysteps youts : Int32} {yops yA yB ycnt yrole ylist yplace ysym yimg ystay ywide ymem yreg yout : Nat → Int32} (hW : ly_W ycnt) (hF : ly_F yops yA yB) {g : Nat → Nat} {n : Nat} (hL : ly_LS yops yA ycnt ylist g n) (s : Int32) (H : post (ly_cy yops yA yB ycnt g n s)) : ∀ (d i : Nat), i + d = n → wY_chosen_7 post s yorg ystrip (nI n) yculp ytend yend ymade yrounds yentry ylinked yran ypc ysteps youts yops yA yB ycnt yrole ylist yplace ysym yimg ystay ywide ymem yreg yout (d + 1) (if ly_sv yops yA yB ycnt g s i = true then -2 else ly_fl yops yA yB ycnt g s 1 i) (ly_fl yops yA yB ycnt g s 2 i) (nI i) := by
  obtain ⟨hn, hg⟩ := hL
  intro d
  induction d with
  | zero =>
    intro i hd
    have e : i = n := by omega
    subst e
    refine br_t (Int32.le_refl _) ?_
    unfold ly_cy ly_co at H
    cases hs : ly_sv yops yA yB ycnt g s i with
    | true =>
      rw [hs, if_pos rfl] at H
      exact br_f (by rw [if_pos rfl]; decide) H
    | false =>
      rw [hs, if_neg (by decide)] at H
      by_cases h1 : ly_fl yops yA yB ycnt g s 1 i = -1
      · rw [if_pos h1] at H; exact br_t h1 H
      · rw [if_neg h1] at H; exact br_f h1 H
  | succ d ih =>
    intro i hd
    obtain ⟨g1, g2, g3⟩ := hg i (by omega)
    have hc := (hW _ g1).1
    refine br_f (nI_ge (by omega) (by omega)) ⟨vp_in_nI (by omega) (by omega), ?_⟩
    rw [ly_cl (i := i) (by omega), g2]
    refine ly_ylab (hW := hW) (hm := g1) (s := s) (H := ?_)
    have IH := ih (i + 1) (by omega)
    have eS : ly_sv yops yA yB ycnt g s (i + 1) = (ly_sv yops yA yB ycnt g s i || (decide (¬ ly_fl yops yA yB ycnt g s 1 i = -1) && decide (¬ ly_xl yops yA yB ycnt (g i) s 1 = -1))) := by
      show (_ || (_ && _)) = _
      rw [ly_on_fl hW i (fun j hj => (hg j (by omega)).1), ly_e3_xl g1 hc]
    -- no label that counts
    have same : ly_xl yops yA yB ycnt (g i) s 1 = -1 → ly_xl yops yA yB ycnt (g i) s 2 = -1 → wY_chosen_7 post s yorg ystrip (nI n) yculp ytend yend ymade yrounds yentry ylinked yran ypc ysteps youts yops yA yB ycnt yrole ylist yplace ysym yimg ystay ywide ymem yreg yout (d + 1) (if ly_sv yops yA yB ycnt g s i = true then -2 else ly_fl yops yA yB ycnt g s 1 i) (ly_fl yops yA yB ycnt g s 2 i) (nI (i + 1)) := by
      intro x1 x2
      rw [ly_fl_s (t := 1), ly_fl_s (t := 2), eS, x1, x2, decide_eq_false (p := ¬ (-1 : Int32) = -1) (fun z => z rfl), Bool.and_false, Bool.or_false] at IH
      have f1 : (if ly_fl yops yA yB ycnt g s 1 i = -1 then -1 else ly_fl yops yA yB ycnt g s 1 i) = ly_fl yops yA yB ycnt g s 1 i := by
        by_cases z : ly_fl yops yA yB ycnt g s 1 i = -1
        · rw [if_pos z, z]
        · rw [if_neg z]
      have f2 : (if ly_fl yops yA yB ycnt g s 2 i = -1 then -1 else ly_fl yops yA yB ycnt g s 2 i) = ly_fl yops yA yB ycnt g s 2 i := by
        by_cases z : ly_fl yops yA yB ycnt g s 2 i = -1
        · rw [if_pos z, z]
        · rw [if_neg z]
      rw [f1, f2] at IH
      exact IH
    rcases ly_xl_yl (b := yB) g3 g1 hc s with ⟨e, h⟩ | ⟨k, k1, k2, k3, k4, e, h⟩
    · rw [e]
      exact br_t (by decide) (nm_r (nI_1 i) (same (h 1) (h 2)))
    · rw [e]
      have hk : k < 144 := by omega
      have vk : vp_in (nI k) 144 := vp_in_nI hk (by omega)
      refine br_f (nI_pos (by omega)) ⟨vk, ?_⟩
      rw [ly_cl (i := k) (by omega)]
      rcases ly_ft_b (hF k hk) k3 with hb | hb | hb
      · exact br_t hb (nm_r (nI_1 i) (same (by rw [h 1, hb]; exact if_neg (by decide)) (by rw [h 2, hb]; exact if_neg (by decide))))
      · have x1 : ly_xl yops yA yB ycnt (g i) s 1 = nI k := by rw [h 1, if_pos hb]
        have x2 : ly_xl yops yA yB ycnt (g i) s 2 = -1 := by rw [h 2, hb]; exact if_neg (by decide)
        refine br_f (by rw [hb]; decide) ⟨vk, br_t hb ?_⟩
        have f2 : ly_fl yops yA yB ycnt g s 2 (i + 1) = ly_fl yops yA yB ycnt g s 2 i := by
          rw [ly_fl_s, x2]
          by_cases z : ly_fl yops yA yB ycnt g s 2 i = -1
          · rw [if_pos z, z]
          · rw [if_neg z]
        rw [f2, eS, x1, decide_eq_true (p := ¬ nI k = -1) (ly_m1 (by omega)), Bool.and_true, ly_fl_s, x1] at IH
        cases hs : ly_sv yops yA yB ycnt g s i with
        | true =>
          rw [hs, Bool.true_or, if_pos rfl] at IH
          exact br_f (by rw [if_pos rfl]; decide) (nm_r (nI_1 i) IH)
        | false =>
          rw [hs, Bool.false_or] at IH
          by_cases z : ly_fl yops yA yB ycnt g s 1 i = -1
          · rw [decide_eq_false (fun w => w z), if_neg (by decide), if_pos z] at IH
            exact br_t z (nm_r (nI_1 i) IH)
          · rw [decide_eq_true z, if_pos rfl] at IH
            exact br_f z (nm_r (nI_1 i) IH)
      · have x1 : ly_xl yops yA yB ycnt (g i) s 1 = -1 := by rw [h 1, hb]; exact if_neg (by decide)
        have x2 : ly_xl yops yA yB ycnt (g i) s 2 = nI k := by rw [h 2, if_pos hb]
        refine br_f (by rw [hb]; decide) ⟨vk, br_f (by rw [hb]; decide) ?_⟩
        have f1 : ly_fl yops yA yB ycnt g s 1 (i + 1) = ly_fl yops yA yB ycnt g s 1 i := by
          rw [ly_fl_s, x1]
          by_cases z : ly_fl yops yA yB ycnt g s 1 i = -1
          · rw [if_pos z, z]
          · rw [if_neg z]
        rw [f1, eS, x1, decide_eq_false (p := ¬ (-1 : Int32) = -1) (fun z => z rfl), Bool.and_false, Bool.or_false, ly_fl_s, x2] at IH
        rcases ly_fl_c (o := yops) (a := yA) (b := yB) (cnt := ycnt) (g := g) (s := s) (t := 2) i with z | ⟨j, q, q0, q1, q2, _, _, _, z⟩
        · rw [if_pos z] at IH
          exact br_f (by rw [z]; decide) (nm_r (nI_1 i) IH)
        · have := (hg j (by omega)).1
          have := (hW _ this).1
          rw [z, if_neg (ly_m1 (by omega))] at IH
          rw [z]
          exact br_t (nI_pos' (by omega)) (nm_r (nI_1 i) IH)
theorem ly_ych {post : Int32 → Prop} {yorg ystrip yculp ytend yend ymade yrounds yentry ylinked yran ypc ysteps youts : Int32} {yops yA yB ycnt yrole ylist yplace ysym yimg ystay ywide ymem yreg yout : Nat → Int32} (hW : ly_W ycnt) (hF : ly_F yops yA yB) {g : Nat → Nat} {n : Nat} (hL : ly_LS yops yA ycnt ylist g n) (s : Int32) (H : post (ly_cy yops yA yB ycnt g n s)) : wpY_chosen post (yorg, ystrip, nI n, yculp, ytend, yend, ymade, yrounds, yentry, ylinked, yran, ypc, ysteps, youts, yops, yA, yB, ycnt, yrole, ylist, yplace, ysym, yimg, ystay, ywide, ymem, yreg, yout) s :=
  ⟨n + 1, ly_ych7 (hW := hW) (hF := hF) (hL := hL) (s := s) (H := H) n 0 (by omega)⟩
def ly_tg (o a b cnt : Nat → Int32) (g : Nat → Nat) (n i : Nat) : Int32 := if ly_xl o a b cnt (i / 24) (ly_sy (o i) (a i) (b i)) 0 = -1 then ly_co o a b cnt g n (ly_sy (o i) (a i) (b i)) else ly_xl o a b cnt (i / 24) (ly_sy (o i) (a i) (b i)) 0
theorem ly_ydiv {i : Nat} (hi : i < 144) : nI i / 24 = nI (i / 24) := pk_div (d := 24) (by omega) (by omega) (by omega)
theorem ly_ytg {post : Int32 → Prop} {yorg ystrip yculp ytend yend ymade yrounds yentry ylinked yran ypc ysteps youts : Int32} {yops yA yB ycnt yrole ylist yplace ysym yimg ystay ywide ymem yreg yout : Nat → Int32} (hW : ly_W ycnt) (hF : ly_F yops yA yB) {g : Nat → Nat} {n : Nat} (hL : ly_LS yops yA ycnt ylist g n) {i : Nat} (hi : i < 144) (hf : ly_fy yops yA ycnt (i / 24) = false) (hs : ly_sv yops yA yB ycnt g (ly_sy (yops i) (yA i) (yB i)) n = false) (H : post (ly_tg yops yA yB ycnt g n i)) : wpY_target post (yorg, ystrip, nI n, yculp, ytend, yend, ymade, yrounds, yentry, ylinked, yran, ypc, ysteps, youts, yops, yA, yB, ycnt, yrole, ylist, yplace, ysym, yimg, ystay, ywide, ymem, yreg, yout) (nI i) := by
  unfold wpY_target
  dsimp only
  refine ly_ysymOf (hi := hi) (H := ⟨by decide, ?_⟩)
  rw [ly_ydiv hi]
  have hm : i / 24 < 6 := by omega
  have hc := (hW _ hm).1
  refine ly_ylab (hW := hW) (hm := hm) (s := _) (H := ?_)
  unfold ly_tg at H
  have go : ly_xl yops yA yB ycnt (i / 24) (ly_sy (yops i) (yA i) (yB i)) 0 = -1 → wpY_chosen post (yorg, ystrip, nI n, yculp, ytend, yend, ymade, yrounds, yentry, ylinked, yran, ypc, ysteps, youts, yops, yA, yB, ycnt, yrole, ylist, yplace, ysym, yimg, ystay, ywide, ymem, yreg, yout) (ly_sy (yops i) (yA i) (yB i)) := by
    intro e
    rw [if_pos e] at H
    refine ly_ych (hW := hW) (hF := hF) (hL := hL) (s := _) (H := ?_)
    unfold ly_cy
    rw [hs, if_neg (by decide)]
    exact H
  rcases ly_xl_yl (b := yB) hf hm hc (ly_sy (yops i) (yA i) (yB i)) with ⟨e, h⟩ | ⟨k, k1, k2, k3, k4, e, h⟩
  · rw [e]
    exact ly_ylo0 (H := br_t rfl (go (h 0)))
  · rw [e]
    refine ly_ylo1 (hk := by omega) (H := ?_)
    by_cases hb : yB k = 0
    · rw [if_pos hb]
      rw [h 0, if_pos hb, if_neg (ly_m1 (by omega))] at H
      exact br_f (by decide) H
    · rw [if_neg hb]
      exact br_t rfl (go (by rw [h 0, if_neg hb]))
theorem ly_yse10 {post : Int32 → Prop} {yorg ystrip ymany yculp ytend yend ymade yrounds yentry ylinked yran ypc ysteps youts : Int32} {yops yA yB ycnt yrole ylist yplace ysym yimg ystay ywide ymem yreg yout : Nat → Int32} (hF : ly_F yops yA yB) {m j : Nat} (hm : m < 6) (hj : j < 24) (H : post (nI (ly_sn yops yA m (j + 1)))) : ∀ (d q : Nat), q + d = j + 1 → wY_sectionOf_10 post (nI (24 * m + j)) yorg ystrip ymany yculp ytend yend ymade yrounds yentry ylinked yran ypc ysteps youts yops yA yB ycnt yrole ylist yplace ysym yimg ystay ywide ymem yreg yout (d + 1) (nI (ly_sn yops yA m q)) (nI (24 * m + q)) := by
  intro d
  induction d with
  | zero =>
    intro q hd
    have e : q = j + 1 := by omega
    subst e
    exact br_t (nI_lt (by omega) (by omega)) H
  | succ d ih =>
    intro q hd
    have ek : (nI (24 * m + q)).toNatClampNeg = 24 * m + q := ly_cl (by omega)
    have vk : vp_in (nI (24 * m + q)) 144 := vp_in_nI (by omega) (by omega)
    refine br_f (nI_nlt (by omega) (by omega)) ⟨vk, ?_⟩
    rw [ek]
    by_cases h19 : yops (24 * m + q) = 19
    · obtain ⟨f, hf, ef⟩ := ly_ft_19 (hF _ (by omega)) h19
      refine br_t h19 ⟨vk, nm_r (e' := nI (ly_sn yops yA m (q + 1))) ?_ (nm_r (nI_1 _) (ih (q + 1) (by omega)))⟩
      show _ = nI (if yops (24 * m + q) = 19 then (yA (24 * m + q)).toNatClampNeg else ly_sn yops yA m q)
      rw [if_pos h19, ef, nI_clamp (by omega)]
    · have e : ly_sn yops yA m q = ly_sn yops yA m (q + 1) := (if_neg h19).symm
      rw [e]
      exact br_f h19 (nm_r (nI_1 _) (ih (q + 1) (by omega)))
theorem ly_yse {post : Int32 → Prop} {yorg ystrip ymany yculp ytend yend ymade yrounds yentry ylinked yran ypc ysteps youts : Int32} {yops yA yB ycnt yrole ylist yplace ysym yimg ystay ywide ymem yreg yout : Nat → Int32} (hF : ly_F yops yA yB) {m j : Nat} (hm : m < 6) (hj : j < 24) (H : post (nI (ly_sn yops yA m (j + 1)))) : wpY_sectionOf post (yorg, ystrip, ymany, yculp, ytend, yend, ymade, yrounds, yentry, ylinked, yran, ypc, ysteps, youts, yops, yA, yB, ycnt, yrole, ylist, yplace, ysym, yimg, ystay, ywide, ymem, yreg, yout) (nI (24 * m + j)) := by
  refine ⟨by decide, nm_r (e' := nI (24 * m + 0)) ?_ ⟨j + 1 + 1, ly_yse10 (hF := hF) (hm := hm) (hj := hj) (H := H) (j + 1) 0 (by omega)⟩⟩
  rw [ly_ydiv (by omega), show (24 * m + j) / 24 = m by omega, Int32.mul_comm, ly_idy]
  rfl
theorem ly_yun {post : Int32 → Prop} {yorg ystrip ymany yculp ytend yend ymade yrounds yentry ylinked yran ypc ysteps youts : Int32} {yops yA yB ycnt yrole ylist yplace ysym yimg ystay ywide ymem yreg yout : Nat → Int32} (hF : ly_F yops yA yB) {i : Nat} (hi : i < 144) (H : post (nI (ly_un yops yA i))) : wpY_unitOf post (yorg, ystrip, ymany, yculp, ytend, yend, ymade, yrounds, yentry, ylinked, yran, ypc, ysteps, youts, yops, yA, yB, ycnt, yrole, ylist, yplace, ysym, yimg, ystay, ywide, ymem, yreg, yout) (nI i) := by
  refine ⟨by decide, ?_⟩
  have e : i = 24 * (i / 24) + i % 24 := by omega
  have h := ly_yse (post := fun r_2 => post (2 * (nI i / 24) + r_2)) (yorg := yorg) (ystrip := ystrip) (ymany := ymany) (yculp := yculp) (ytend := ytend) (yend := yend) (ymade := ymade) (yrounds := yrounds) (yentry := yentry) (ylinked := ylinked) (yran := yran) (ypc := ypc) (ysteps := ysteps) (youts := youts) (yops := yops) (yA := yA) (yB := yB) (ycnt := ycnt) (yrole := yrole) (ylist := ylist) (yplace := yplace) (ysym := ysym) (yimg := yimg) (ystay := ystay) (ywide := ywide) (ymem := ymem) (yreg := yreg) (yout := yout) (hF := hF) (m := i / 24) (j := i % 24) (hm := by omega) (hj := by omega) (H := by
    show post (2 * (nI i / 24) + nI (ly_sn yops yA (i / 24) (i % 24 + 1)))
    rw [ly_ydiv hi, Int32.mul_comm, ly_idx2]
    exact H)
  rw [← e] at h
  exact h
/-! the archive -/
theorem ly_dd_li {o a b cnt : Nat → Int32} {g : Nat → Nat} {n s m : Nat} (h : ly_dd o a b cnt g n s = false) (hl : ly_li g n m = true) : ly_df o a b cnt m (nI s) = false := by
  obtain ⟨i, _, i2, i3⟩ := ly_ex_iff.mp hl
  have e := of_decide_eq_true i3
  have := ly_ex_f.mp h i (by omega) i2
  rw [← e]; exact this
theorem ly_yf29 {post : Int32 → Prop} {J : Int32 → Prop} {yorg ystrip yculp ytend yend ymade yrounds yentry ylinked yran ypc ysteps youts : Int32} {yops yA yB ycnt yrole ylist yplace ysym yimg ystay ywide ymem yreg yout : Nat → Int32} (hW : ly_W ycnt) (hF : ly_F yops yA yB) {g : Nat → Nat} {n : Nat} (hL : ly_LS yops yA ycnt ylist g n) {s : Nat} (hs : ly_dd yops yA yB ycnt g n s = false) : ∀ (d m : Nat), m + d = 6 → (¬ ly_fd (fun m => decide (yrole m = 2) && ly_df yops yA yB ycnt m (nI s)) d m = -1 → post (ly_fd (fun m => decide (yrole m = 2) && ly_df yops yA yB ycnt m (nI s)) d m)) → (ly_fd (fun m => decide (yrole m = 2) && ly_df yops yA yB ycnt m (nI s)) d m = -1 → J (nI (s + 1))) → wY_fetched_29 post J (nI s) yorg ystrip (nI n) yculp ytend yend ymade yrounds yentry ylinked yran ypc ysteps youts yops yA yB ycnt yrole ylist yplace ysym yimg ystay ywide ymem yreg yout (d + 1) (nI m) := by
  intro d
  induction d with
  | zero =>
    intro m hd H1 H2
    have e : m = 6 := by omega
    subst e
    exact br_t (by decide) (nm_r (nI_1 s) (H2 rfl))
  | succ d ih =>
    intro m hd H1 H2
    have ek : (nI m).toNatClampNeg = m := ly_cl (by omega)
    have next : (decide (yrole m = 2) && ly_df yops yA yB ycnt m (nI s)) = false → wY_fetched_29 post J (nI s) yorg ystrip (nI n) yculp ytend yend ymade yrounds yentry ylinked yran ypc ysteps youts yops yA yB ycnt yrole ylist yplace ysym yimg ystay ywide ymem yreg yout (d + 1) (nI (m + 1)) := by
      intro hf
      have e : ly_fd (fun m => decide (yrole m = 2) && ly_df yops yA yB ycnt m (nI s)) (d + 1) m = ly_fd (fun m => decide (yrole m = 2) && ly_df yops yA yB ycnt m (nI s)) d (m + 1) := if_neg (by dsimp only; rw [hf]; decide)
      rw [e] at H1 H2
      exact ih (m + 1) (by omega) H1 H2
    refine br_f (nI_ge (b := 6) (by omega) (by omega)) ⟨vp_in_nI (by omega) (by omega), ?_⟩
    rw [ek]
    by_cases h2 : yrole m = 2
    · refine br_t h2 (ly_yli (hn := hL.1) (hg := fun i hi => ⟨(hL.2 i hi).1, (hL.2 i hi).2.1⟩) (hm := by omega) (H := ?_))
      cases hl : ly_li g n m with
      | true => exact br_f (by decide) (nm_r (nI_1 m) (next (by rw [ly_dd_li hs hl, Bool.and_false])))
      | false =>
        refine br_t rfl (ly_yde (hW := hW) (hF := hF) (hm := by omega) (s := nI s) (H := ?_))
        cases hdf : ly_df yops yA yB ycnt m (nI s) with
        | false => exact br_t rfl (nm_r (nI_1 m) (next (by rw [hdf, Bool.and_false])))
        | true =>
          have e : ly_fd (fun m => decide (yrole m = 2) && ly_df yops yA yB ycnt m (nI s)) (d + 1) m = nI m := if_pos (by dsimp only; rw [hdf, decide_eq_true h2]; rfl)
          rw [e] at H1
          exact br_f (by decide) (H1 (ly_m1 (by omega)))
    · exact br_f h2 (nm_r (nI_1 m) (next (by rw [decide_eq_false h2, Bool.false_and])))
theorem ly_yfe2 {post : Int32 → Prop} {yorg ystrip yculp ytend yend ymade yrounds yentry ylinked yran ypc ysteps youts : Int32} {yops yA yB ycnt yrole ylist yplace ysym yimg ystay ywide ymem yreg yout : Nat → Int32} (hW : ly_W ycnt) (hF : ly_F yops yA yB) {g : Nat → Nat} {n : Nat} (hL : ly_LS yops yA ycnt ylist g n) : ∀ (d s : Nat), s + d = 16 → post (ly_nx (ly_ms yops yA yB ycnt g n) (ly_ia yops yA yB ycnt yrole) d s) → wY_fetched_2 post yorg ystrip (nI n) yculp ytend yend ymade yrounds yentry ylinked yran ypc ysteps youts yops yA yB ycnt yrole ylist yplace ysym yimg ystay ywide ymem yreg yout (d + 1) (nI s) := by
  intro d
  induction d with
  | zero =>
    intro s hd H
    have e : s = 16 := by omega
    subst e
    exact br_t (by decide) H
  | succ d ih =>
    intro s hd H
    have next : ¬ (ly_ms yops yA yB ycnt g n s = true ∧ ¬ ly_ia yops yA yB ycnt yrole s = -1) → wY_fetched_2 post yorg ystrip (nI n) yculp ytend yend ymade yrounds yentry ylinked yran ypc ysteps youts yops yA yB ycnt yrole ylist yplace ysym yimg ystay ywide ymem yreg yout (d + 1) (nI (s + 1)) := by
      intro hf
      rw [show ly_nx (ly_ms yops yA yB ycnt g n) (ly_ia yops yA yB ycnt yrole) (d + 1) s = ly_nx (ly_ms yops yA yB ycnt g n) (ly_ia yops yA yB ycnt yrole) d (s + 1) from if_neg hf] at H
      exact ih (s + 1) (by omega) H
    refine br_f (nI_ge (b := 16) (by omega) (by omega)) (ly_ywt (hW := hW) (hF := hF) (hL := hL) (hs := by omega) (H := ?_))
    cases hw : ly_wt yops yA yB ycnt g n s with
    | false => exact br_t rfl (nm_r (nI_1 s) (next (fun z => by have := z.1; unfold ly_ms at this; rw [hw, Bool.false_and] at this; exact absurd this (by decide))))
    | true =>
      refine br_f (by decide) (ly_ydd (hW := hW) (hF := hF) (hL := hL) (H := ?_))
      cases hdd : ly_dd yops yA yB ycnt g n s with
      | true => exact br_f (by decide) (nm_r (nI_1 s) (next (fun z => by have := z.1; unfold ly_ms at this; rw [hw, hdd] at this; exact absurd this (by decide))))
      | false =>
        have hm : ly_ms yops yA yB ycnt g n s = true := by unfold ly_ms; rw [hw, hdd]; rfl
        refine br_t rfl ⟨7, ly_yf29 (hW := hW) (hF := hF) (hL := hL) (hs := hdd) 6 0 (by omega) (fun z => ?_) (fun z => next (fun w => w.2 z))⟩
        rw [show ly_nx (ly_ms yops yA yB ycnt g n) (ly_ia yops yA yB ycnt yrole) (d + 1) s = ly_ia yops yA yB ycnt yrole s from if_pos ⟨hm, z⟩] at H
        exact H
theorem ly_yfe {post : Int32 → Prop} {yorg ystrip yculp ytend yend ymade yrounds yentry ylinked yran ypc ysteps youts : Int32} {yops yA yB ycnt yrole ylist yplace ysym yimg ystay ywide ymem yreg yout : Nat → Int32} (hW : ly_W ycnt) (hF : ly_F yops yA yB) {g : Nat → Nat} {n : Nat} (hL : ly_LS yops yA ycnt ylist g n) (H : post (ly_na yops yA yB ycnt yrole g n)) : wpY_fetched post (yorg, ystrip, nI n, yculp, ytend, yend, ymade, yrounds, yentry, ylinked, yran, ypc, ysteps, youts, yops, yA, yB, ycnt, yrole, ylist, yplace, ysym, yimg, ystay, ywide, ymem, yreg, yout) :=
  ⟨17, ly_yfe2 (hW := hW) (hF := hF) (hL := hL) 16 0 (by omega) H⟩

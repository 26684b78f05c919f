/-! Y: what it looks up -/
def ly_bi (b : Bool) : Int32 := if b = true then 1 else 0
theorem ly_bi_or (a b : Bool) : ly_bi a ||| ly_bi b = ly_bi (a || b) := by cases a <;> cases b <;> decide
theorem ly_bi01 (b : Bool) : ly_bi b = 0 ∨ ly_bi b = 1 := by cases b; exact Or.inl rfl; exact Or.inr rfl
theorem ly_bi_t {b : Bool} (h : b = true) : ¬ ly_bi b = 0 := by subst h; decide
theorem ly_bi_f {b : Bool} (h : b = false) : ly_bi b = 0 := by subst h; rfl
theorem ly_ex_or (p q : Nat → Bool) (i : Nat) : ∀ d, ly_ex (fun k => p k || q k) i d = (ly_ex p i d || ly_ex q i d) := by
  intro d
  induction d with
  | zero => rfl
  | succ d ih =>
    simp only [ly_ex, ih]
    cases ly_ex p i d <;> cases ly_ex q i d <;> cases p (i + d) <;> cases q (i + d) <;> rfl
theorem ly_ex_y {p : Nat → Bool} {i d k : Nat} (h1 : i ≤ k) (h2 : k < i + d) (h : p k = true) : ly_ex p i d = true := ly_ex_iff.mpr ⟨k, h1, h2, h⟩
/-- the list, with modules that aren't faulty -/
def ly_LS (o a cnt list : Nat → Int32) (g : Nat → Nat) (n : Nat) : Prop := n ≤ 6 ∧ ∀ i, i < n → g i < 6 ∧ list i = nI (g i) ∧ ly_fy o a cnt (g i) = false
theorem ly_ylast {post : Int32 → Prop} {yorg ystrip ymany yculp ytend yend ymade yrounds yentry ylinked yran ypc ysteps youts : Int32} {yops yA yB ycnt yrole ylist yplace ysym yimg ystay ywide ymem yreg yout : Nat → Int32} (hW : ly_W ycnt) {m : Nat} (hm : m < 6) (H : post (nI (24 * m + ly_c ycnt m))) : wpY_last post (yorg, ystrip, ymany, yculp, ytend, yend, ymade, yrounds, yentry, ylinked, yran, ypc, ysteps, youts, yops, yA, yB, ycnt, yrole, ylist, yplace, ysym, yimg, ystay, ywide, ymem, yreg, yout) (nI m) := by
  refine ⟨vp_in_nI hm (by omega), ?_⟩
  rw [ly_cl (i := m) (by omega), (hW m hm).2, ly_idy, nI_add]
  exact H
theorem ly_yl5 {post : Int32 → Prop} {yorg ystrip ymany yculp ytend yend ymade yrounds yentry ylinked yran ypc ysteps youts : Int32} {yops yA yB ycnt yrole ylist yplace ysym yimg ystay ywide ymem yreg yout : Nat → Int32} (hW : ly_W ycnt) {m : Nat} (hm : m < 6) (s : Int32) : ∀ (d k : Nat), k + d = 24 * m + ly_c ycnt m → post (ly_fd (ly_lb yops yA s) d k) → wY_labelIn_5 post (nI m) s yorg ystrip ymany yculp ytend yend ymade yrounds yentry ylinked yran ypc ysteps youts yops yA yB ycnt yrole ylist yplace ysym yimg ystay ywide ymem yreg yout (d + 1) (nI k) := by
  have hc := (hW m hm).1
  intro d
  induction d with
  | zero =>
    intro k hd H
    rw [wY_labelIn_5]
    exact ly_ylast (hW := hW) (hm := hm) (H := br_t (by rw [show k = 24 * m + ly_c ycnt m by omega]; exact Int32.le_refl _) H)
  | succ d ih =>
    intro k hd H
    have ek : (nI k).toNatClampNeg = k := ly_cl (by omega)
    have vk : vp_in (nI k) 144 := vp_in_nI (by omega) (by omega)
    rw [wY_labelIn_5]
    refine ly_ylast (hW := hW) (hm := hm) (H := br_f (nI_ge (by omega) (by omega)) ⟨vk, ?_⟩)
    rw [ek]
    by_cases h0 : yops k = 0
    · refine br_t h0 ⟨vk, ?_⟩
      by_cases h1 : yA k = s
      · rw [show ly_fd (ly_lb yops yA s) (d + 1) k = nI k from if_pos (decide_eq_true ⟨h0, h1⟩)] at H
        exact br_t h1 H
      · rw [show ly_fd (ly_lb yops yA s) (d + 1) k = ly_fd (ly_lb yops yA s) d (k + 1) from if_neg (fun z => h1 (of_decide_eq_true z).2)] at H
        exact br_f h1 (nm_r (nI_1 k) (ih (k + 1) (by omega) H))
    · rw [show ly_fd (ly_lb yops yA s) (d + 1) k = ly_fd (ly_lb yops yA s) d (k + 1) from if_neg (fun z => h0 (of_decide_eq_true z).1)] at H
      exact br_f h0 (nm_r (nI_1 k) (ih (k + 1) (by omega) H))
theorem ly_ylab {post : Int32 → Prop} {yorg ystrip ymany yculp ytend yend ymade yrounds yentry ylinked yran ypc ysteps youts : Int32} {yops yA yB ycnt yrole ylist yplace ysym yimg ystay ywide ymem yreg yout : Nat → Int32} (hW : ly_W ycnt) {m : Nat} (hm : m < 6) (s : Int32) (H : post (ly_yl yops yA ycnt m s)) : wpY_labelIn post (yorg, ystrip, ymany, yculp, ytend, yend, ymade, yrounds, yentry, ylinked, yran, ypc, ysteps, youts, yops, yA, yB, ycnt, yrole, ylist, yplace, ysym, yimg, ystay, ywide, ymem, yreg, yout) (nI m) s :=
  nm_r (ly_idy m) ⟨ly_c ycnt m + 1, ly_yl5 (hW := hW) (hm := hm) (s := s) (ly_c ycnt m) (24 * m) rfl H⟩
theorem ly_ylo0 {post : Int32 → Prop} {yorg ystrip ymany yculp ytend yend ymade yrounds yentry ylinked yran ypc ysteps youts : Int32} {yops yA yB ycnt yrole ylist yplace ysym yimg ystay ywide ymem yreg yout : Nat → Int32} (H : post 0) : wpY_isLocal post (yorg, ystrip, ymany, yculp, ytend, yend, ymade, yrounds, yentry, ylinked, yran, ypc, ysteps, youts, yops, yA, yB, ycnt, yrole, ylist, yplace, ysym, yimg, ystay, ywide, ymem, yreg, yout) (-1) := br_t (by decide) H
theorem ly_ylo1 {post : Int32 → Prop} {yorg ystrip ymany yculp ytend yend ymade yrounds yentry ylinked yran ypc ysteps youts : Int32} {yops yA yB ycnt yrole ylist yplace ysym yimg ystay ywide ymem yreg yout : Nat → Int32} {k : Nat} (hk : k < 144) (H : post (if yB k = 0 then 1 else 0)) : wpY_isLocal post (yorg, ystrip, ymany, yculp, ytend, yend, ymade, yrounds, yentry, ylinked, yran, ypc, ysteps, youts, yops, yA, yB, ycnt, yrole, ylist, yplace, ysym, yimg, ystay, ywide, ymem, yreg, yout) (nI k) := by
  refine br_f (nI_pos (by omega)) ⟨vp_in_nI hk (by omega), ?_⟩
  rw [ly_cl (i := k) (by omega)]
  by_cases h : yB k = 0
  · rw [if_pos h] at H; exact br_t h H
  · rw [if_neg h] at H; exact br_f h H
theorem ly_yfa5 {post : Int32 → Prop} {yorg ystrip ymany yculp ytend yend ymade yrounds yentry ylinked yran ypc ysteps youts : Int32} {yops yA yB ycnt yrole ylist yplace ysym yimg ystay ywide ymem yreg yout : Nat → Int32} (hW : ly_W ycnt) {m : Nat} (hm : m < 6) (H : post (ly_bi (ly_fy yops yA ycnt m))) : ∀ (d k : Nat), k + d = 24 * m + ly_c ycnt m → 24 * m ≤ k → (∀ j, 24 * m ≤ j → j < k → ly_fp yops yA m j = false) → wY_faulty_5 post (nI m) yorg ystrip ymany yculp ytend yend ymade yrounds yentry ylinked yran ypc ysteps youts yops yA yB ycnt yrole ylist yplace ysym yimg ystay ywide ymem yreg yout (d + 1) (nI k) := by
  have hc := (hW m hm).1
  intro d
  induction d with
  | zero =>
    intro k hd h24 hn
    rw [wY_faulty_5]
    refine ly_ylast (hW := hW) (hm := hm) (H := br_t (by rw [show k = 24 * m + ly_c ycnt m by omega]; exact Int32.le_refl _) ?_)
    rw [show ly_fy yops yA ycnt m = false from ly_ex_f.mpr (fun j h1 h2 => hn j h1 (by omega))] at H
    exact H
  | succ d ih =>
    intro k hd h24 hn
    have ek : (nI k).toNatClampNeg = k := ly_cl (by omega)
    have vk : vp_in (nI k) 144 := vp_in_nI (by omega) (by omega)
    rw [wY_faulty_5]
    refine ly_ylast (hW := hW) (hm := hm) (H := br_f (nI_ge (by omega) (by omega)) ⟨vk, ?_⟩)
    rw [ek]
    by_cases h0 : yops k = 0
    · refine br_t h0 ⟨vk, ly_ylab (hW := hW) (hm := hm) (s := yA k) (H := ?_)⟩
      rcases ly_fd_c (ly_lb yops yA (yA k)) (ly_c ycnt m) (24 * m) with ⟨_, hno⟩ | ⟨j, j1, j2, j3, j4, e⟩
      · have := hno k h24 (by omega)
        unfold ly_lb at this
        rw [decide_eq_true ⟨h0, rfl⟩] at this
        exact absurd this (by decide)
      · have e' : ly_yl yops yA ycnt m (yA k) = nI j := e
        rw [e']
        by_cases hjk : j = k
        · subst hjk
          refine br_t rfl (nm_r (nI_1 j) (ih (j + 1) (by omega) (by omega) (fun l l1 l2 => ?_)))
          by_cases el : l = j
          · subst el
            unfold ly_fp
            rw [ly_ex_f.mpr (fun q q1 q2 => j4 q q1 (by omega)), Bool.and_false]
          · exact hn l l1 (by omega)
        · have hlt : j < k := by
            rcases Nat.lt_or_ge j k with h | h
            · exact h
            · have := j4 k h24 (by omega)
              unfold ly_lb at this
              rw [decide_eq_true ⟨h0, rfl⟩] at this
              exact absurd this (by decide)
          have hp : ly_fp yops yA m k = true := by
            unfold ly_fp
            rw [decide_eq_true h0, Bool.true_and]
            exact ly_ex_y j1 (by omega) j3
          rw [show ly_fy yops yA ycnt m = true from ly_ex_y h24 (by omega) hp] at H
          exact br_f (fun z => hjk (ly_inj (by omega) (by omega) z)) H
    · refine br_f h0 (nm_r (nI_1 k) (ih (k + 1) (by omega) (by omega) (fun l l1 l2 => ?_)))
      by_cases el : l = k
      · subst el
        unfold ly_fp
        rw [decide_eq_false h0, Bool.false_and]
      · exact hn l l1 (by omega)
theorem ly_yfa {post : Int32 → Prop} {yorg ystrip ymany yculp ytend yend ymade yrounds yentry ylinked yran ypc ysteps youts : Int32} {yops yA yB ycnt yrole ylist yplace ysym yimg ystay ywide ymem yreg yout : Nat → Int32} (hW : ly_W ycnt) {m : Nat} (hm : m < 6) (H : post (ly_bi (ly_fy yops yA ycnt m))) : wpY_faulty post (yorg, ystrip, ymany, yculp, ytend, yend, ymade, yrounds, yentry, ylinked, yran, ypc, ysteps, youts, yops, yA, yB, ycnt, yrole, ylist, yplace, ysym, yimg, ystay, ywide, ymem, yreg, yout) (nI m) :=
  nm_r (ly_idy m) ⟨ly_c ycnt m + 1, ly_yfa5 (hW := hW) (hm := hm) (H := H) (ly_c ycnt m) (24 * m) rfl (Nat.le_refl _) (fun j h1 h2 => by omega)⟩
theorem ly_yde5 {post : Int32 → Prop} {yorg ystrip ymany yculp ytend yend ymade yrounds yentry ylinked yran ypc ysteps youts : Int32} {yops yA yB ycnt yrole ylist yplace ysym yimg ystay ywide ymem yreg yout : Nat → Int32} (hW : ly_W ycnt) (hF : ly_F yops yA yB) {m : Nat} (hm : m < 6) (s : Int32) (H : post (ly_bi (ly_df yops yA yB ycnt m s))) : ∀ (d k : Nat), k + d = 24 * m + ly_c ycnt m → 24 * m ≤ k → (∀ j, 24 * m ≤ j → j < k → (ly_l3 yops yA yB s 1 j || ly_l3 yops yA yB s 2 j) = false) → wY_defines_5 post (nI m) s yorg ystrip ymany yculp ytend yend ymade yrounds yentry ylinked yran ypc ysteps youts yops yA yB ycnt yrole ylist yplace ysym yimg ystay ywide ymem yreg yout (d + 1) (nI k) := by
  have hc := (hW m hm).1
  have edf : ly_df yops yA yB ycnt m s = ly_ex (fun j => ly_l3 yops yA yB s 1 j || ly_l3 yops yA yB s 2 j) (24 * m) (ly_c ycnt m) := (ly_ex_or _ _ _ _).symm
  intro d
  induction d with
  | zero =>
    intro k hd h24 hn
    rw [wY_defines_5]
    refine ly_ylast (hW := hW) (hm := hm) (H := br_t (by rw [show k = 24 * m + ly_c ycnt m by omega]; exact Int32.le_refl _) ?_)
    rw [edf, ly_ex_f.mpr (fun j h1 h2 => hn j h1 (by omega))] at H
    exact H
  | succ d ih =>
    intro k hd h24 hn
    have ek : (nI k).toNatClampNeg = k := ly_cl (by omega)
    have vk : vp_in (nI k) 144 := vp_in_nI (by omega) (by omega)
    have next : (ly_l3 yops yA yB s 1 k || ly_l3 yops yA yB s 2 k) = false → wY_defines_5 post (nI m) s yorg ystrip ymany yculp ytend yend ymade yrounds yentry ylinked yran ypc ysteps youts yops yA yB ycnt yrole ylist yplace ysym yimg ystay ywide ymem yreg yout (d + 1) (nI (k + 1)) := fun hf => ih (k + 1) (by omega) (by omega) (fun l l1 l2 => by
      by_cases el : l = k
      · subst el; exact hf
      · exact hn l l1 (by omega))
    rw [wY_defines_5]
    refine ly_ylast (hW := hW) (hm := hm) (H := br_f (nI_ge (by omega) (by omega)) ⟨vk, ?_⟩)
    rw [ek]
    by_cases h0 : yops k = 0
    · refine br_t h0 ⟨vk, ?_⟩
      by_cases h1 : yA k = s
      · refine br_t h1 ⟨vk, ?_⟩
        rcases ly_ft_b (hF k (by omega)) h0 with hb | hb | hb
        · refine br_t (by rw [hb]; decide) (nm_r (nI_1 k) (next ?_))
          unfold ly_l3
          rw [hb, decide_eq_false (fun z => absurd z.2.2 (by decide)), decide_eq_false (fun z => absurd z.2.2 (by decide))]; rfl
        · rw [edf, ly_ex_y (k := k) h24 (by omega) (by show (ly_l3 yops yA yB s 1 k || ly_l3 yops yA yB s 2 k) = true; unfold ly_l3; rw [decide_eq_true ⟨h0, h1, hb⟩, Bool.true_or])] at H
          exact br_f (by rw [hb]; decide) H
        · rw [edf, ly_ex_y (k := k) h24 (by omega) (by show (ly_l3 yops yA yB s 1 k || ly_l3 yops yA yB s 2 k) = true; unfold ly_l3; rw [decide_eq_true (p := _ ∧ _ ∧ _ = (2 : Int32)) ⟨h0, h1, hb⟩, Bool.or_true])] at H
          exact br_f (by rw [hb]; decide) H
      · refine br_f h1 (nm_r (nI_1 k) (next ?_))
        unfold ly_l3
        rw [decide_eq_false (fun z => h1 z.2.1), decide_eq_false (fun z => h1 z.2.1)]; rfl
    · refine br_f h0 (nm_r (nI_1 k) (next ?_))
      unfold ly_l3
      rw [decide_eq_false (fun z => h0 z.1), decide_eq_false (fun z => h0 z.1)]; rfl
theorem ly_yde {post : Int32 → Prop} {yorg ystrip ymany yculp ytend yend ymade yrounds yentry ylinked yran ypc ysteps youts : Int32} {yops yA yB ycnt yrole ylist yplace ysym yimg ystay ywide ymem yreg yout : Nat → Int32} (hW : ly_W ycnt) (hF : ly_F yops yA yB) {m : Nat} (hm : m < 6) (s : Int32) (H : post (ly_bi (ly_df yops yA yB ycnt m s))) : wpY_defines post (yorg, ystrip, ymany, yculp, ytend, yend, ymade, yrounds, yentry, ylinked, yran, ypc, ysteps, youts, yops, yA, yB, ycnt, yrole, ylist, yplace, ysym, yimg, ystay, ywide, ymem, yreg, yout) (nI m) s :=
  nm_r (ly_idy m) ⟨ly_c ycnt m + 1, ly_yde5 (hW := hW) (hF := hF) (hm := hm) (s := s) (H := H) (ly_c ycnt m) (24 * m) rfl (Nat.le_refl _) (fun j h1 h2 => by omega)⟩
theorem ly_yas20 {post : Int32 → Prop} {yorg ystrip ymany yculp ytend yend ymade yrounds yentry ylinked yran ypc ysteps youts : Int32} {yops yA yB ycnt yrole ylist yplace ysym yimg ystay ywide ymem yreg yout : Nat → Int32} (hW : ly_W ycnt) (hF : ly_F yops yA yB) {m : Nat} (hm : m < 6) (s : Int32) (H : post (ly_bi (ly_eu yops yA yB ycnt m s))) : ∀ (d k : Nat), k + d = 24 * m + ly_c ycnt m → 24 * m ≤ k → (∀ j, 24 * m ≤ j → j < k → ly_up yops yA yB s j = false) → wY_asks_20 post (nI m) s yorg ystrip ymany yculp ytend yend ymade yrounds yentry ylinked yran ypc ysteps youts yops yA yB ycnt yrole ylist yplace ysym yimg ystay ywide ymem yreg yout (d + 1) (nI k) := by
  have hc := (hW m hm).1
  intro d
  induction d with
  | zero =>
    intro k hd h24 hn
    rw [wY_asks_20]
    refine ly_ylast (hW := hW) (hm := hm) (H := br_t (by rw [show k = 24 * m + ly_c ycnt m by omega]; exact Int32.le_refl _) ?_)
    rw [show ly_eu yops yA yB ycnt m s = false from ly_ex_f.mpr (fun j h1 h2 => hn j h1 (by omega))] at H
    exact H
  | succ d ih =>
    intro k hd h24 hn
    have ek : (nI k).toNatClampNeg = k := ly_cl (by omega)
    have vk : vp_in (nI k) 144 := vp_in_nI (by omega) (by omega)
    have next : ly_up yops yA yB s k = false → wY_asks_20 post (nI m) s yorg ystrip ymany yculp ytend yend ymade yrounds yentry ylinked yran ypc ysteps youts yops yA yB ycnt yrole ylist yplace ysym yimg ystay ywide ymem yreg yout (d + 1) (nI (k + 1)) := fun hf => ih (k + 1) (by omega) (by omega) (fun l l1 l2 => by
      by_cases el : l = k
      · subst el; exact hf
      · exact hn l l1 (by omega))
    rw [wY_asks_20]
    refine ly_ylast (hW := hW) (hm := hm) (H := br_f (nI_ge (by omega) (by omega)) ⟨vk, ?_⟩)
    rw [ek]
    obtain ⟨op, hop, eo, _⟩ := hF k (by omega)
    rw [eo]
    refine ly_yuses hop ?_
    cases hu : ly_us (nI op) with
    | false =>
      refine br_t rfl (nm_r (nI_1 k) (next ?_))
      unfold ly_up; rw [eo, hu, Bool.false_and]
    | true =>
      refine br_f (by decide) (ly_ysymOf (hi := by omega) (H := ?_))
      by_cases hs : ly_sy (yops k) (yA k) (yB k) = s
      · rw [show ly_eu yops yA yB ycnt m s = true from ly_ex_y h24 (by omega) (by unfold ly_up; rw [hs, eo, hu, decide_eq_true rfl]; rfl)] at H
        exact br_t hs H
      · refine br_f hs (nm_r (nI_1 k) (next ?_))
        unfold ly_up; rw [decide_eq_false hs, Bool.and_false]
theorem ly_yas {post : Int32 → Prop} {yorg ystrip ymany yculp ytend yend ymade yrounds yentry ylinked yran ypc ysteps youts : Int32} {yops yA yB ycnt yrole ylist yplace ysym yimg ystay ywide ymem yreg yout : Nat → Int32} (hW : ly_W ycnt) (hF : ly_F yops yA yB) {m : Nat} (hm : m < 6) (hf : ly_fy yops yA ycnt m = false) (s : Int32) (H : post (ly_bi (ly_ak yops yA yB ycnt m s))) : wpY_asks post (yorg, ystrip, ymany, yculp, ytend, yend, ymade, yrounds, yentry, ylinked, yran, ypc, ysteps, youts, yops, yA, yB, ycnt, yrole, ylist, yplace, ysym, yimg, ystay, ywide, ymem, yreg, yout) (nI m) s := by
  have hc := (hW m hm).1
  refine ly_ylab (hW := hW) (hm := hm) (s := s) (H := ?_)
  have go : ly_e3 yops yA yB ycnt m s 0 = false → ∃ n20, wY_asks_20 post (nI m) s yorg ystrip ymany yculp ytend yend ymade yrounds yentry ylinked yran ypc ysteps youts yops yA yB ycnt yrole ylist yplace ysym yimg ystay ywide ymem yreg yout n20 (nI (24 * m)) := by
    intro he
    unfold ly_ak at H
    rw [he] at H
    exact ⟨ly_c ycnt m + 1, ly_yas20 (hW := hW) (hF := hF) (hm := hm) (s := s) (H := by rw [show (ly_eu yops yA yB ycnt m s) = (ly_eu yops yA yB ycnt m s && !false) from (Bool.and_true _).symm]; exact H) (ly_c ycnt m) (24 * m) rfl (Nat.le_refl _) (fun j h1 h2 => by omega)⟩
  have e3 := ly_e3_xl (o := yops) (a := yA) (b := yB) hm hc s 0
  rcases ly_xl_yl (b := yB) hf hm hc s with ⟨e, h⟩ | ⟨k, k1, k2, k3, k4, e, h⟩
  · rw [h 0, decide_eq_false (fun z => z rfl)] at e3
    rw [e]
    exact ly_ylo0 (H := br_t rfl (nm_r (ly_idy m) (go e3)))
  · rw [e]
    refine ly_ylo1 (hk := by omega) (H := ?_)
    rw [h 0] at e3
    by_cases hb : yB k = 0
    · rw [if_pos hb] at e3 ⊢
      rw [decide_eq_true (ly_m1 (by omega))] at e3
      unfold ly_ak at H
      rw [e3, show (ly_eu yops yA yB ycnt m s && !true) = false from Bool.and_false _] at H
      exact br_f (by decide) H
    · rw [if_neg hb] at e3 ⊢
      rw [decide_eq_false (fun z => z rfl)] at e3
      exact br_t rfl (nm_r (ly_idy m) (go e3))
theorem ly_ywt12 {post : Int32 → Prop} {yorg ystrip yculp ytend yend ymade yrounds yentry ylinked yran ypc ysteps youts : Int32} {yops yA yB ycnt yrole ylist yplace ysym yimg ystay ywide ymem yreg yout : Nat → Int32} (hW : ly_W ycnt) (hF : ly_F yops yA yB) {g : Nat → Nat} {n : Nat} (hL : ly_LS yops yA ycnt ylist g n) {s : Nat} (H : post (ly_bi (ly_wt yops yA yB ycnt g n s))) : ∀ (d i : Nat), i + d = n → wY_wanted_12 post (nI s) yorg ystrip (nI n) yculp ytend yend ymade yrounds yentry ylinked yran ypc ysteps youts yops yA yB ycnt yrole ylist yplace ysym yimg ystay ywide ymem yreg yout (d + 1) (ly_bi (ly_wt yops yA yB ycnt g i s)) (nI i) := by
  obtain ⟨hn, hg⟩ := hL
  intro d
  induction d with
  | zero =>
    intro i hd
    have e : i = n := by omega
    subst e
    exact br_t (Int32.le_refl _) ⟨ly_narb (ly_bi01 _), H⟩
  | succ d ih =>
    intro i hd
    obtain ⟨g1, g2, g3⟩ := hg i (by omega)
    refine br_f (nI_ge (by omega) (by omega)) ⟨vp_in_nI (by omega) (by omega), ?_⟩
    rw [ly_cl (i := i) (by omega), g2]
    refine ly_yas (hW := hW) (hF := hF) (hm := g1) (hf := g3) (s := nI s) (H := nm_r (e' := ly_bi (ly_wt yops yA yB ycnt g (i + 1) s)) ?_ (nm_r (nI_1 i) (ih (i + 1) (by omega))))
    rw [ly_bi_or]
    refine congrArg ly_bi ?_
    show (ly_wt yops yA yB ycnt g i s || _) = (decide (s = 0) || (ly_ex (fun i => ly_ak yops yA yB ycnt (g i) (nI s)) 0 i || ly_ak yops yA yB ycnt (g (0 + i)) (nI s)))
    unfold ly_wt
    rw [Nat.zero_add, Bool.or_assoc]
theorem ly_ywt {post : Int32 → Prop} {yorg ystrip yculp ytend yend ymade yrounds yentry ylinked yran ypc ysteps youts : Int32} {yops yA yB ycnt yrole ylist yplace ysym yimg ystay ywide ymem yreg yout : Nat → Int32} (hW : ly_W ycnt) (hF : ly_F yops yA yB) {g : Nat → Nat} {n : Nat} (hL : ly_LS yops yA ycnt ylist g n) {s : Nat} (hs : s < 16) (H : post (ly_bi (ly_wt yops yA yB ycnt g n s))) : wpY_wanted post (yorg, ystrip, nI n, yculp, ytend, yend, ymade, yrounds, yentry, ylinked, yran, ypc, ysteps, youts, yops, yA, yB, ycnt, yrole, ylist, yplace, ysym, yimg, ystay, ywide, ymem, yreg, yout) (nI s) := by
  by_cases h : s = 0
  · subst h
    exact br_t rfl ⟨n + 1, ly_ywt12 (hW := hW) (hF := hF) (hL := hL) (H := H) n 0 (by omega)⟩
  · have e : ly_bi (ly_wt yops yA yB ycnt g 0 s) = 0 := by
      unfold ly_wt; rw [decide_eq_false h]; rfl
    have := (ly_ywt12 (hW := hW) (hF := hF) (hL := hL) (H := H) n 0 (by omega) : wY_wanted_12 post (nI s) yorg ystrip (nI n) yculp ytend yend ymade yrounds yentry ylinked yran ypc ysteps youts yops yA yB ycnt yrole ylist yplace ysym yimg ystay ywide ymem yreg yout (n + 1) (ly_bi (ly_wt yops yA yB ycnt g 0 s)) (nI 0))
    rw [e] at this
    exact br_f (fun z => h (ly_inj (b := 0) (by omega) (by omega) z)) ⟨n + 1, this⟩
theorem ly_ydd4 {post : Int32 → Prop} {yorg ystrip yculp ytend yend ymade yrounds yentry ylinked yran ypc ysteps youts : Int32} {yops yA yB ycnt yrole ylist yplace ysym yimg ystay ywide ymem yreg yout : Nat → Int32} (hW : ly_W ycnt) (hF : ly_F yops yA yB) {g : Nat → Nat} {n : Nat} (hL : ly_LS yops yA ycnt ylist g n) {s : Nat} (H : post (ly_bi (ly_dd yops yA yB ycnt g n s))) : ∀ (d i : Nat), i + d = n → wY_defined_4 post (nI s) yorg ystrip (nI n) yculp ytend yend ymade yrounds yentry ylinked yran ypc ysteps youts yops yA yB ycnt yrole ylist yplace ysym yimg ystay ywide ymem yreg yout (d + 1) (ly_bi (ly_dd yops yA yB ycnt g i s)) (nI i) := by
  obtain ⟨hn, hg⟩ := hL
  intro d
  induction d with
  | zero =>
    intro i hd
    have e : i = n := by omega
    subst e
    exact br_t (Int32.le_refl _) ⟨ly_narb (ly_bi01 _), H⟩
  | succ d ih =>
    intro i hd
    obtain ⟨g1, g2, g3⟩ := hg i (by omega)
    refine br_f (nI_ge (by omega) (by omega)) ⟨vp_in_nI (by omega) (by omega), ?_⟩
    rw [ly_cl (i := i) (by omega), g2]
    refine ly_yde (hW := hW) (hF := hF) (hm := g1) (s := nI s) (H := nm_r (e' := ly_bi (ly_dd yops yA yB ycnt g (i + 1) s)) ?_ (nm_r (nI_1 i) (ih (i + 1) (by omega))))
    rw [ly_bi_or]
    refine congrArg ly_bi ?_
    show (ly_dd yops yA yB ycnt g i s || _) = (ly_ex (fun i => ly_df yops yA yB ycnt (g i) (nI s)) 0 i || ly_df yops yA yB ycnt (g (0 + i)) (nI s))
    rw [Nat.zero_add]; rfl
theorem ly_ydd {post : Int32 → Prop} {yorg ystrip yculp ytend yend ymade yrounds yentry ylinked yran ypc ysteps youts : Int32} {yops yA yB ycnt yrole ylist yplace ysym yimg ystay ywide ymem yreg yout : Nat → Int32} (hW : ly_W ycnt) (hF : ly_F yops yA yB) {g : Nat → Nat} {n : Nat} (hL : ly_LS yops yA ycnt ylist g n) {s : Nat} (H : post (ly_bi (ly_dd yops yA yB ycnt g n s))) : wpY_defined post (yorg, ystrip, nI n, yculp, ytend, yend, ymade, yrounds, yentry, ylinked, yran, ypc, ysteps, youts, yops, yA, yB, ycnt, yrole, ylist, yplace, ysym, yimg, ystay, ywide, ymem, yreg, yout) (nI s) :=
  ⟨n + 1, ly_ydd4 (hW := hW) (hF := hF) (hL := hL) (H := H) n 0 (by omega)⟩
theorem ly_yli4 {post : Int32 → Prop} {yorg ystrip yculp ytend yend ymade yrounds yentry ylinked yran ypc ysteps youts : Int32} {yops yA yB ycnt yrole ylist yplace ysym yimg ystay ywide ymem yreg yout : Nat → Int32} {g : Nat → Nat} {n : Nat} (hn : n ≤ 6) (hg : ∀ i, i < n → g i < 6 ∧ ylist i = nI (g i)) {m : Nat} (hm : m < 6) (H : post (ly_bi (ly_li g n m))) : ∀ (d i : Nat), i + d = n → wY_listedNow_4 post (nI m) yorg ystrip (nI n) yculp ytend yend ymade yrounds yentry ylinked yran ypc ysteps youts yops yA yB ycnt yrole ylist yplace ysym yimg ystay ywide ymem yreg yout (d + 1) (ly_bi (ly_li g i m)) (nI i) := by
  intro d
  induction d with
  | zero =>
    intro i hd
    have e : i = n := by omega
    subst e
    exact br_t (Int32.le_refl _) ⟨ly_narb (ly_bi01 _), H⟩
  | succ d ih =>
    intro i hd
    obtain ⟨g1, g2⟩ := hg i (by omega)
    refine br_f (nI_ge (by omega) (by omega)) ⟨vp_in_nI (by omega) (by omega), ?_⟩
    rw [ly_cl (i := i) (by omega), g2]
    have es : ly_li g (i + 1) m = (ly_li g i m || decide (g i = m)) := by
      show (_ || decide (g (0 + i) = m)) = _
      rw [Nat.zero_add]; rfl
    by_cases h : g i = m
    · refine br_t (by rw [h]) (nm_r (e' := ly_bi (ly_li g (i + 1) m)) ?_ (nm_r (nI_1 i) (ih (i + 1) (by omega))))
      rw [es, decide_eq_true h]; exact ly_bi_or _ true
    · refine br_f (fun z => h (ly_inj (by omega) (by omega) z)) (nm_r (e' := ly_bi (ly_li g (i + 1) m)) ?_ (nm_r (nI_1 i) (ih (i + 1) (by omega))))
      rw [es, decide_eq_false h]; exact ly_bi_or _ false
theorem ly_yli {post : Int32 → Prop} {yorg ystrip yculp ytend yend ymade yrounds yentry ylinked yran ypc ysteps youts : Int32} {yops yA yB ycnt yrole ylist yplace ysym yimg ystay ywide ymem yreg yout : Nat → Int32} {g : Nat → Nat} {n : Nat} (hn : n ≤ 6) (hg : ∀ i, i < n → g i < 6 ∧ ylist i = nI (g i)) {m : Nat} (hm : m < 6) (H : post (ly_bi (ly_li g n m))) : wpY_listedNow post (yorg, ystrip, nI n, yculp, ytend, yend, ymade, yrounds, yentry, ylinked, yran, ypc, ysteps, youts, yops, yA, yB, ycnt, yrole, ylist, yplace, ysym, yimg, ystay, ywide, ymem, yreg, yout) (nI m) :=
  ⟨n + 1, ly_yli4 (hn := hn) (hg := hg) (hm := hm) (H := H) n 0 (by omega)⟩

/-! Y: the units that stay -/
theorem ly_at_y {o cnt : Nat → Int32} {g : Nat → Nat} {n k m : Nat} (hm : ly_li g n m = true) (h1 : 24 * m ≤ k) (h2 : k < 24 * m + ly_c cnt m) (hc : ly_c cnt m ≤ 24) : ly_at o cnt g n k = ly_us (o k) := by
  unfold ly_at
  have e : k / 24 = m := by omega
  rw [e, hm, decide_eq_true (by omega)]; rfl
theorem ly_yr5 {post : SY → Prop} {yorg ystrip yculp ytend yend ymade yrounds yentry ylinked yran ypc ysteps youts : Int32} {yops yA yB ycnt yrole ylist yplace ysym yimg ywide ymem yreg yout : Nat → Int32} (hW : ly_W ycnt) (hF : ly_F yops yA yB) {g : Nat → Nat} {n : Nat} (hL : ly_LS yops yA ycnt ylist g n) (hG : ly_GD yops yA yB ycnt g n) {m : Nat} (hm : m < 6) (hl : ly_li g n m = true) (hf : ly_fy yops yA ycnt m = false) (st0 : Nat → Int32) (D : Nat → Prop)
    (H : ∀ st : Nat → Int32, ly_IV yops yA yB ycnt g n st → (∀ u, u < 12 → ¬ st0 u = 0 → ¬ st u = 0) → (∀ i, i < 144 → D i ∨ i / 24 = m → ly_at yops ycnt g n i = true → ¬ st0 (ly_un yops yA i) = 0 → ¬ st (ly_un yops yA (ly_tn yops yA yB ycnt g n i)) = 0) → post (yorg, ystrip, nI n, yculp, ytend, yend, ymade, yrounds, yentry, ylinked, yran, ypc, ysteps, youts, yops, yA, yB, ycnt, yrole, ylist, yplace, ysym, yimg, st, ywide, ymem, yreg, yout)) :
    ∀ (d k : Nat) (ystay : Nat → Int32), k + d = 24 * m + ly_c ycnt m → 24 * m ≤ k → ly_IV yops yA yB ycnt g n ystay → (∀ u, u < 12 → ¬ st0 u = 0 → ¬ ystay u = 0) → (∀ i, i < 144 → D i ∨ (i / 24 = m ∧ i < k) → ly_at yops ycnt g n i = true → ¬ st0 (ly_un yops yA i) = 0 → ¬ ystay (ly_un yops yA (ly_tn yops yA yB ycnt g n i)) = 0) → wY_reachFrom_5 post (nI m) yorg ystrip (nI n) yculp ytend yend ymade yrounds yentry ylinked yran ypc ysteps youts (d + 1) (nI k) yops yA yB ycnt yrole ylist yplace ysym yimg ystay ywide ymem yreg yout := by
  have hc := (hW m hm).1
  intro d
  induction d with
  | zero =>
    intro k st hd h24 h1 h2 h3
    rw [wY_reachFrom_5]
    refine ly_ylast (hW := hW) (hm := hm) (H := br_t (by rw [show k = 24 * m + ly_c ycnt m by omega]; exact Int32.le_refl _) (H st h1 h2 (fun i hi hD ha hs => ?_)))
    refine h3 i hi ?_ ha hs
    rcases hD with hD | hD
    · exact Or.inl hD
    · have ha' := ha
      unfold ly_at at ha'
      rw [Bool.and_eq_true, Bool.and_eq_true, decide_eq_true_eq, hD] at ha'
      exact Or.inr ⟨hD, by have := ha'.1.2; omega⟩
  | succ d ih =>
    intro k st hd h24 h1 h2 h3
    have hk : k < 144 := by omega
    have ek : (nI k).toNatClampNeg = k := ly_cl (by omega)
    have vk : vp_in (nI k) 144 := vp_in_nI hk (by omega)
    have eq24 : k / 24 = m := by omega
    have eat := ly_at_y (o := yops) (cnt := ycnt) hl h24 (by omega) hc
    rw [wY_reachFrom_5]
    refine ly_ylast (hW := hW) (hm := hm) (H := br_f (nI_ge (by omega) (by omega)) ⟨vk, ?_⟩)
    rw [ek]
    obtain ⟨op, hop, eo, _⟩ := hF k hk
    rw [eo]
    refine ly_yuses hop ?_
    have next : (ly_at yops ycnt g n k = true → ¬ st0 (ly_un yops yA k) = 0 → ¬ st (ly_un yops yA (ly_tn yops yA yB ycnt g n k)) = 0) → wY_reachFrom_5 post (nI m) yorg ystrip (nI n) yculp ytend yend ymade yrounds yentry ylinked yran ypc ysteps youts (d + 1) (nI (k + 1)) yops yA yB ycnt yrole ylist yplace ysym yimg st ywide ymem yreg yout := by
      intro hk'
      refine ih (k + 1) st (by omega) (by omega) h1 h2 (fun i hi hD ha hs => ?_)
      by_cases e : i = k
      · subst e; exact hk' ha hs
      · refine h3 i hi ?_ ha hs
        rcases hD with hD | hD
        · exact Or.inl hD
        · exact Or.inr ⟨hD.1, by have := hD.2; omega⟩
    cases hu : ly_us (nI op) with
    | false =>
      refine br_t rfl (nm_r (nI_1 k) (next (fun z => ?_)))
      rw [eat, eo, hu] at z
      exact absurd z (by decide)
    | true =>
      have ha : ly_at yops ycnt g n k = true := by rw [eat, eo]; exact hu
      obtain ⟨t1, t2⟩ := ly_tn_t hW hF hG hk ha
      have hun := ly_un_lt hF hk
      have hun2 := ly_un_lt hF t1.1
      have ht := t1.1
      refine br_f (by decide) (ly_yun (hF := hF) (hi := hk) (H := ⟨vp_in_nI hun (by omega), ?_⟩))
      rw [ly_cl (i := ly_un yops yA k) (by omega)]
      by_cases hs : st (ly_un yops yA k) = 0
      · exact br_t hs (nm_r (nI_1 k) (next (fun _ z => absurd hs (h2 _ hun z))))
      · obtain ⟨f, hf', ef⟩ := ly_ft_s (hF k hk) (by rw [eo]; exact hu)
        refine br_f hs (ly_ytg (hW := hW) (hF := hF) (hL := hL) (hi := hk) (hf := by rw [eq24]; exact hf) (hs := by rw [ef]; exact hG.2.2.1 f hf') (H := ?_))
        rw [t2]
        refine ly_yun (hF := hF) (hi := ht) (H := ⟨vp_in_nI hun2 (by omega), nm_r (e' := upd st (ly_un yops yA (ly_tn yops yA yB ycnt g n k)) 1) (by rw [ly_cl (by omega), ly_nar1]) (nm_r (nI_1 k) (ih (k + 1) _ (by omega) (by omega) (ly_IV_u h1 hk ha hun hs) (fun u hu' hs' => ?_) (fun i hi hD ha' hs' => ?_)))⟩)
        · by_cases e : u = ly_un yops yA (ly_tn yops yA yB ycnt g n k)
          · rw [e, pk_us]; decide
          · rw [pk_un e]; exact h2 u hu' hs'
        · by_cases e : ly_un yops yA (ly_tn yops yA yB ycnt g n i) = ly_un yops yA (ly_tn yops yA yB ycnt g n k)
          · rw [e, pk_us]; decide
          · rw [pk_un e]
            refine h3 i hi ?_ ha' hs'
            rcases hD with hD | hD
            · exact Or.inl hD
            · by_cases e2 : i = k
              · subst e2; exact absurd rfl e
              · exact Or.inr ⟨hD.1, by have := hD.2; omega⟩
theorem ly_y81 {post : SY → Prop} {J : Int32 → Int32 → Int32 → Int32 → Int32 → Int32 → Int32 → Int32 → Int32 → Int32 → Int32 → Int32 → Int32 → Int32 → Int32 → Int32 → (Nat → Int32) → (Nat → Int32) → (Nat → Int32) → (Nat → Int32) → (Nat → Int32) → (Nat → Int32) → (Nat → Int32) → (Nat → Int32) → (Nat → Int32) → (Nat → Int32) → (Nat → Int32) → (Nat → Int32) → (Nat → Int32) → (Nat → Int32) → Prop} {yorg ystrip yculp ytend yend ymade yrounds yentry ylinked yran ypc ysteps youts : Int32} {yops yA yB ycnt yrole ylist yplace ysym yimg ywide ymem yreg yout : Nat → Int32} (hW : ly_W ycnt) (hF : ly_F yops yA yB) {g : Nat → Nat} {n : Nat} (hL : ly_LS yops yA ycnt ylist g n) (hG : ly_GD yops yA yB ycnt g n) (x2 : Int32) (st0 : Nat → Int32)
    (H : ∀ st : Nat → Int32, ly_IV yops yA yB ycnt g n st → (∀ u, u < 12 → ¬ st0 u = 0 → ¬ st u = 0) → (∀ i, i < 144 → ly_at yops ycnt g n i = true → ¬ st0 (ly_un yops yA i) = 0 → ¬ st (ly_un yops yA (ly_tn yops yA yB ycnt g n i)) = 0) → ∃ n112, wY_findUnits_112 post J x2 yorg ystrip (nI n) yculp ytend yend ymade yrounds yentry ylinked yran ypc ysteps youts yops yA yB ycnt yrole ylist yplace ysym yimg st ywide ymem yreg yout n112 0 0) :
    ∀ (d i : Nat) (ystay : Nat → Int32), i + d = n → ly_IV yops yA yB ycnt g n ystay → (∀ u, u < 12 → ¬ st0 u = 0 → ¬ ystay u = 0) → (∀ x, x < 144 → ly_li g i (x / 24) = true → ly_at yops ycnt g n x = true → ¬ st0 (ly_un yops yA x) = 0 → ¬ ystay (ly_un yops yA (ly_tn yops yA yB ycnt g n x)) = 0) → wY_findUnits_81 post J x2 (d + 1) (nI i) yorg ystrip (nI n) yculp ytend yend ymade yrounds yentry ylinked yran ypc ysteps youts yops yA yB ycnt yrole ylist yplace ysym yimg ystay ywide ymem yreg yout := by
  intro d
  induction d with
  | zero =>
    intro i st hd h1 h2 h3
    have e : i = n := by omega
    subst e
    refine br_t (Int32.le_refl _) (H st h1 h2 (fun x hx ha hs => h3 x hx ?_ ha hs))
    unfold ly_at at ha
    rw [Bool.and_eq_true, Bool.and_eq_true] at ha
    exact ha.1.1
  | succ d ih =>
    intro i st hd h1 h2 h3
    have hn := hL.1
    obtain ⟨g1, g2, g3⟩ := hL.2 i (by omega)
    refine br_f (nI_ge (by omega) (by omega)) ⟨vp_in_nI (by omega) (by omega), ?_⟩
    rw [ly_cl (i := i) (by omega), g2]
    refine nm_r (ly_idy (g i)) ⟨ly_c ycnt (g i) + 1, ly_yr5 (hW := hW) (hF := hF) (hL := hL) (hG := hG) (hm := g1) (hl := ly_li_g.mpr ⟨i, by omega, rfl⟩) (hf := g3) (st0 := st0) (D := fun x => ly_li g i (x / 24) = true) (H := fun st' h1' h2' h3' => nm_r (nI_1 i) (ih (i + 1) st' (by omega) h1' h2' (fun x hx hli ha hs => h3' x hx ?_ ha hs))) (ly_c ycnt (g i)) (24 * g i) st rfl (Nat.le_refl _) h1 h2 (fun x hx hD ha hs => ?_)⟩
    · rw [ly_li_s, Bool.or_eq_true, decide_eq_true_eq] at hli
      rcases hli with z | z
      · exact Or.inl z
      · exact Or.inr z.symm
    · rcases hD with hD | hD
      · exact h3 x hx hD ha hs
      · have := hD.1; have := hD.2; omega
theorem ly_y112 {post : SY → Prop} {J : Int32 → Int32 → Int32 → Int32 → Int32 → Int32 → Int32 → Int32 → Int32 → Int32 → Int32 → Int32 → Int32 → Int32 → Int32 → Int32 → (Nat → Int32) → (Nat → Int32) → (Nat → Int32) → (Nat → Int32) → (Nat → Int32) → (Nat → Int32) → (Nat → Int32) → (Nat → Int32) → (Nat → Int32) → (Nat → Int32) → (Nat → Int32) → (Nat → Int32) → (Nat → Int32) → (Nat → Int32) → Prop} {yorg ystrip ymany yculp ytend yend ymade yrounds yentry ylinked yran ypc ysteps youts : Int32} {yops yA yB ycnt yrole ylist yplace ysym yimg ystay ywide ymem yreg yout : Nat → Int32} (x2 : Int32) (H : J x2 (nI (ly_ct (ly_SS ystay) 12)) yorg ystrip ymany yculp ytend yend ymade yrounds yentry ylinked yran ypc ysteps youts yops yA yB ycnt yrole ylist yplace ysym yimg ystay ywide ymem yreg yout) : ∀ (d u : Nat), u + d = 12 → wY_findUnits_112 post J x2 yorg ystrip ymany yculp ytend yend ymade yrounds yentry ylinked yran ypc ysteps youts yops yA yB ycnt yrole ylist yplace ysym yimg ystay ywide ymem yreg yout (d + 1) (nI (ly_ct (ly_SS ystay) u)) (nI u) := by
  intro d
  induction d with
  | zero =>
    intro u hd
    have e : u = 12 := by omega
    subst e
    exact br_t (by decide) H
  | succ d ih =>
    intro u hd
    refine br_f (nI_ge (b := 12) (by omega) (by omega)) ⟨vp_in_nI (by omega) (by omega), ?_⟩
    rw [ly_cl (i := u) (by omega)]
    have IH := ih (u + 1) (by omega)
    have es : ly_ct (ly_SS ystay) (u + 1) = ly_ct (ly_SS ystay) u + (if ly_SS ystay u = true then 1 else 0) := rfl
    by_cases h : ystay u = 0
    · rw [es, if_neg (by unfold ly_SS; rw [decide_eq_false (fun z => z h)]; decide)] at IH
      exact br_t h (nm_r (nI_1 u) IH)
    · rw [es, if_pos (show ly_SS ystay u = true from decide_eq_true h)] at IH
      exact br_f h (nm_r (nI_1 _) (nm_r (nI_1 u) IH))
theorem ly_y71 {post : SY → Prop} {yorg ystrip yculp ytend yend ymade yrounds yentry ylinked yran ypc ysteps youts : Int32} {yops yA yB ycnt yrole ylist yplace ysym yimg ywide ymem yreg yout : Nat → Int32} (hW : ly_W ycnt) (hF : ly_F yops yA yB) {g : Nat → Nat} {n : Nat} (hL : ly_LS yops yA ycnt ylist g n) (hG : ly_GD yops yA yB ycnt g n)
    (H : ∀ st : Nat → Int32, ly_IV yops yA yB ycnt g n st → ly_CL yops yA yB ycnt g n st → post (yorg, ystrip, nI n, yculp, ytend, yend, ymade, yrounds, yentry, ylinked, yran, ypc, ysteps, youts, yops, yA, yB, ycnt, yrole, ylist, yplace, ysym, yimg, st, ywide, ymem, yreg, yout)) :
    ∀ (f p : Nat) (ystay : Nat → Int32), ly_IV yops yA yB ycnt g n ystay → (p = ly_ct (ly_SS ystay) 12 → ly_CL yops yA yB ycnt g n ystay) → p ≤ 12 → (p = ly_ct (ly_SS ystay) 12 ∨ 13 ≤ f + ly_ct (ly_SS ystay) 12) → wY_findUnits_71 post (f + 1) (nI p) (nI (ly_ct (ly_SS ystay) 12)) yorg ystrip (nI n) yculp ytend yend ymade yrounds yentry ylinked yran ypc ysteps youts yops yA yB ycnt yrole ylist yplace ysym yimg ystay ywide ymem yreg yout := by
  have ht : ∀ i, i < 144 → ly_at yops ycnt g n i = true → ly_tn yops yA yB ycnt g n i < 144 := fun i hi ha => (ly_tn_t hW hF hG hi ha).1.1
  intro f
  induction f with
  | zero =>
    intro p st h1 h2 hp h3
    have hle := ly_ct_le (ly_SS st) 12
    have e : p = ly_ct (ly_SS st) 12 := by
      rcases h3 with h3 | h3
      · exact h3
      · omega
    exact br_t (by rw [← e]) (H st h1 (h2 e))
  | succ f ih =>
    intro p st h1 h2 hp h3
    have hle := ly_ct_le (ly_SS st) 12
    by_cases e : p = ly_ct (ly_SS st) 12
    · exact br_t (by rw [← e]) (H st h1 (h2 e))
    · refine br_f (fun z => e (ly_inj (by omega) (by omega) z.symm)) ⟨n + 1, ly_y81 (hW := hW) (hF := hF) (hL := hL) (hG := hG) (x2 := _) (st0 := st) (H := fun st' h1' h2' h3' => ⟨13, ly_y112 (x2 := _) (H := ih (ly_ct (ly_SS st) 12) st' h1' (fun z => (ly_ct_cl hF h2' h3' ht (by omega)).2) hle ?_) 12 0 (by omega)⟩) n 0 st (by omega) h1 (fun _ _ h => h) (fun x hx hli => absurd (show false = true from hli) (by decide))⟩
      have hmono : ly_ct (ly_SS st) 12 ≤ ly_ct (ly_SS st') 12 := ly_ct_mono (fun u hu h => decide_eq_true (h2' u hu (of_decide_eq_true h)))
      rcases h3 with h3 | h3
      · exact absurd h3 e
      · omega
theorem ly_y71a {post : SY → Prop} {yorg ystrip yculp ytend yend ymade yrounds yentry ylinked yran ypc ysteps youts : Int32} {yops yA yB ycnt yrole ylist yplace ysym yimg ystay ywide ymem yreg yout : Nat → Int32} (hW : ly_W ycnt) (hF : ly_F yops yA yB) {g : Nat → Nat} {n : Nat} (hL : ly_LS yops yA ycnt ylist g n) (hG : ly_GD yops yA yB ycnt g n)
    (H : ∀ st : Nat → Int32, ly_IV yops yA yB ycnt g n st → ly_CL yops yA yB ycnt g n st → post (yorg, ystrip, nI n, yculp, ytend, yend, ymade, yrounds, yentry, ylinked, yran, ypc, ysteps, youts, yops, yA, yB, ycnt, yrole, ylist, yplace, ysym, yimg, st, ywide, ymem, yreg, yout)) (h1 : ly_IV yops yA yB ycnt g n ystay) : wY_findUnits_71 post 20 (-1) 0 yorg ystrip (nI n) yculp ytend yend ymade yrounds yentry ylinked yran ypc ysteps youts yops yA yB ycnt yrole ylist yplace ysym yimg ystay ywide ymem yreg yout := by
  refine br_f (by decide) ⟨n + 1, ly_y81 (hW := hW) (hF := hF) (hL := hL) (hG := hG) (x2 := _) (st0 := ystay) (H := fun st' h1' h2' h3' => ⟨13, ly_y112 (x2 := _) (H := ly_y71 (hW := hW) (hF := hF) (hL := hL) (hG := hG) (H := H) 18 0 st' h1' (fun z => ?_) (by omega) (Or.inr (by omega))) 12 0 (by omega)⟩) n 0 ystay (by omega) h1 (fun _ _ h => h) (fun x hx hli => absurd (show false = true from hli) (by decide))⟩
  have := ly_ct_pos (p := ly_SS st') (ly_un_lt hF (ly_en_t hW hG).1.1) (decide_eq_true h1'.2)
  omega
theorem ly_yfu2 {post : SY → Prop} {yorg ystrip yculp ytend yend ymade yrounds yentry ylinked yran ypc ysteps youts : Int32} {yops yA yB ycnt yrole ylist yplace ysym yimg ywide ymem yreg yout : Nat → Int32} (hW : ly_W ycnt) (hF : ly_F yops yA yB) {g : Nat → Nat} {n : Nat} (hL : ly_LS yops yA ycnt ylist g n) (hG : ly_GD yops yA yB ycnt g n)
    (H : ∀ st : Nat → Int32, ly_KS yops yA yB ycnt g n ystrip st → post (yorg, ystrip, nI n, yculp, ytend, yend, ymade, yrounds, yentry, ylinked, yran, ypc, ysteps, youts, yops, yA, yB, ycnt, yrole, ylist, yplace, ysym, yimg, st, ywide, ymem, yreg, yout)) :
    ∀ (d u : Nat) (ystay : Nat → Int32), u + d = 12 → (∀ q, q < u → ystay q = if ystrip = 0 then ly_bi (ly_li g n (q / 2)) else 0) → wY_findUnits_2 post yorg ystrip (nI n) yculp ytend yend ymade yrounds yentry ylinked yran ypc ysteps youts (d + 1) (nI u) yops yA yB ycnt yrole ylist yplace ysym yimg ystay ywide ymem yreg yout := by
  intro d
  induction d with
  | zero =>
    intro u st hd h
    have e : u = 12 := by omega
    subst e
    refine br_t (by decide) ?_
    by_cases hs : ystrip = 0
    · refine br_t hs (H st (fun q hq => ?_))
      rw [h q hq, if_pos hs]
      refine ⟨ly_bi01 _, ⟨fun z => Or.inl ⟨hs, ?_⟩, fun z => ?_⟩⟩
      · cases hl : ly_li g n (q / 2) with
        | true => rfl
        | false => rw [hl] at z; exact absurd rfl z
      · rcases z with z | z
        · rw [z.2]; decide
        · exact absurd hs z.1
    · obtain ⟨t1, t2⟩ := ly_en_t hW hG
      have ht := t1.1
      have hu := ly_un_lt hF ht
      refine br_f hs (ly_ych (hW := hW) (hF := hF) (hL := hL) (s := 0) (H := ?_))
      have ec : ly_cy yops yA yB ycnt g n 0 = nI (ly_en yops yA yB ycnt g n) := by
        unfold ly_cy
        rw [show ly_sv yops yA yB ycnt g 0 n = false from hG.2.2.1 0 (by omega), if_neg (by decide)]
        exact t2
      rw [ec]
      refine ly_yun (hF := hF) (hi := ht) (H := ⟨vp_in_nI hu (by omega), nm_r (e' := upd st (ly_un yops yA (ly_en yops yA yB ycnt g n)) 1) (by rw [ly_cl (by omega), ly_nar1]) ⟨20, ly_y71a (hW := hW) (hF := hF) (hL := hL) (hG := hG) (H := fun st' h1 h2 => H st' (fun q hq => ⟨(h1.1 q hq).1, ?_⟩)) (h1 := ?_)⟩⟩)
      · rw [ly_IV_R h1 h2 hq]
        exact ⟨fun z => Or.inr ⟨hs, z⟩, fun z => by
          rcases z with z | z
          · exact absurd z.1 hs
          · exact z.2⟩
      · refine ⟨fun q hq => ?_, by rw [pk_us]; decide⟩
        by_cases e : q = ly_un yops yA (ly_en yops yA yB ycnt g n)
        · subst e; rw [pk_us]; exact ⟨Or.inr rfl, fun _ => ly_RR_0⟩
        · rw [pk_un e, h q hq, if_neg hs]; exact ⟨Or.inl rfl, fun z => absurd rfl z⟩
  | succ d ih =>
    intro u st hd h
    have hu : u < 12 := by omega
    have eu : (nI u).toNatClampNeg = u := ly_cl (by omega)
    have IH := ih (u + 1) (upd st u (if ystrip = 0 then ly_bi (ly_li g n (u / 2)) else 0)) (by omega) (fun q hq => by
      by_cases e : q = u
      · subst e; exact pk_us
      · rw [pk_un e]; exact h q (by omega))
    refine br_f (nI_ge (b := 12) hu (by omega)) ?_
    by_cases hs : ystrip = 0
    · rw [if_pos hs] at IH
      have e2 : nI u / 2 = nI (u / 2) := pk_div (d := 2) (by omega) (by omega) (by omega)
      refine br_t hs ⟨by decide, ?_⟩
      rw [e2]
      refine ly_yli (hn := hL.1) (hg := fun i hi => ⟨(hL.2 i hi).1, (hL.2 i hi).2.1⟩) (hm := by omega) (H := ?_)
      cases hl : ly_li g n (u / 2) with
      | false =>
        rw [hl] at IH
        exact br_t rfl ⟨vp_in_nI hu (by omega), nm_r (e' := upd st u (ly_bi false)) (by rw [eu, ly_nar0]; rfl) (nm_r (nI_1 u) IH)⟩
      | true =>
        rw [hl] at IH
        exact br_f (by decide) ⟨vp_in_nI hu (by omega), nm_r (e' := upd st u (ly_bi true)) (by rw [eu, ly_nar1]; rfl) (nm_r (nI_1 u) IH)⟩
    · rw [if_neg hs] at IH
      exact br_f hs ⟨vp_in_nI hu (by omega), nm_r (e' := upd st u 0) (by rw [eu, ly_nar0]) (nm_r (nI_1 u) IH)⟩
theorem ly_yfu {post : SY → Prop} {yorg ystrip yculp ytend yend ymade yrounds yentry ylinked yran ypc ysteps youts : Int32} {yops yA yB ycnt yrole ylist yplace ysym yimg ystay ywide ymem yreg yout : Nat → Int32} (hW : ly_W ycnt) (hF : ly_F yops yA yB) {g : Nat → Nat} {n : Nat} (hL : ly_LS yops yA ycnt ylist g n) (hG : ly_GD yops yA yB ycnt g n)
    (H : ∀ st : Nat → Int32, ly_KS yops yA yB ycnt g n ystrip st → post (yorg, ystrip, nI n, yculp, ytend, yend, ymade, yrounds, yentry, ylinked, yran, ypc, ysteps, youts, yops, yA, yB, ycnt, yrole, ylist, yplace, ysym, yimg, st, ywide, ymem, yreg, yout)) : wpY_findUnits post (yorg, ystrip, nI n, yculp, ytend, yend, ymade, yrounds, yentry, ylinked, yran, ypc, ysteps, youts, yops, yA, yB, ycnt, yrole, ylist, yplace, ysym, yimg, ystay, ywide, ymem, yreg, yout) :=
  ⟨13, ly_yfu2 (hW := hW) (hF := hF) (hL := hL) (hG := hG) (H := H) 12 0 ystay (by omega) (fun q hq => absurd hq (Nat.not_lt_zero q))⟩

/-! Y: arrange -/
theorem ly_y164 {post : Int32 → SY → Prop} {yorg ystrip yculp ytend yend ymade yrounds yentry ylinked yran ypc ysteps youts : Int32} {yops yA yB ycnt yrole ylist yplace ysym ystay ywide ymem yreg yout : Nat → Int32} (hW : ly_W ycnt) (hF : ly_F yops yA yB) {g : Nat → Nat} {n : Nat} (hL : ly_LS yops yA ycnt ylist g n) (hG : ly_GD yops yA yB ycnt g n) {P w : Nat → Int32} (hP : ly_AG 144 yplace P) (hw : ly_AG 144 ywide w) (hv : ly_WV yops w) (hPF : ly_PF yops yA yB ycnt g n P w) (img : Nat → Int32)
    (H : post 0 (yorg, ystrip, nI n, yculp, ytend, yend, ymade, yrounds, yentry, 1, yran, ypc, ysteps, youts, yops, yA, yB, ycnt, yrole, ylist, yplace, ysym, ly_im yops yA yB P w (ly_tn yops yA yB ycnt g n) 144 img, ystay, ywide, ymem, yreg, yout)) : ∀ (d i : Nat), i + d = 144 → wY_arrange_164 post (d + 1) (nI i) yorg ystrip (nI n) yculp ytend yend ymade yrounds yentry ylinked yran ypc ysteps youts yops yA yB ycnt yrole ylist yplace ysym (ly_im yops yA yB P w (ly_tn yops yA yB ycnt g n) i img) ystay ywide ymem yreg yout := by
  intro d
  induction d with
  | zero =>
    intro i hd
    have e : i = 144 := by omega
    subst e
    exact br_t (by decide) H
  | succ d ih =>
    intro i hd
    have hi : i < 144 := by omega
    have ei : (nI i).toNatClampNeg = i := ly_cl (by omega)
    have vi : vp_in (nI i) 144 := vp_in_nI hi (by omega)
    have IH := ih (i + 1) (by omega)
    simp only [ly_im] at IH
    refine br_f (nI_ge (b := 144) hi (by omega)) ⟨vi, ?_⟩
    rw [ei, hP i hi]
    rcases hPF i hi with z | ⟨⟨p, p1, p2⟩, hth⟩
    · rw [if_pos z] at IH
      rw [z]
      exact br_t (by decide) (nm_r (nI_1 i) IH)
    · have hpb : p ≤ 256 := by omega
      have np : ¬ P i = -1 := by rw [p2]; exact ly_m1 (by omega)
      rw [if_neg np] at IH
      have epn : (P i).toNatClampNeg = p := by rw [p2]; exact nI_clamp (by omega)
      rw [epn] at IH
      rw [p2]
      have hlo : ywide i = 0 ∨ ywide i = 1 := by rw [hw i hi]; exact hv.1 i hi
      have eh : ly_h2 yops yB ywide i = ly_h2 yops yB w i := ly_h2_c (hw i hi)
      have room : ¬ (yops i = 0 ∨ yops i = 17 ∨ yops i = 18 ∨ yops i = 19) → p < 256 ∧ (¬ ly_h2 yops yB ywide i = 0 → p + 1 < 256) := by
        intro nn
        rcases ly_sz_2 (o := yops) (a := yA) (b := yB) (w := w) (i := i) (t := p) (fun e => nn (Or.inl e)) (fun e => nn (Or.inr (Or.inr (Or.inr e)))) (fun e => nn (Or.inr (Or.inl e))) (fun e => nn (Or.inr (Or.inr (Or.inl e)))) (hv.1 i hi) with ⟨q1, q2⟩ | ⟨q1, q2⟩
        · rw [q2] at p1
          exact ⟨by omega, fun z => absurd (eh.trans q1) z⟩
        · rw [q2] at p1
          exact ⟨by omega, fun _ => by omega⟩
      refine br_f (nI_pos (by omega)) ⟨vi, ly_ywr (hW := hW) (hF := hF) (hL := hL) (hG := hG) (hi := hi) (hth := hth) (hl := hlo) (hlu := fun z => hv.2 i hi (fun y => z ((hw i hi).trans y))) (hp := fun nn => (room nn).1) (h2 := fun nn => (room nn).2) (H := nm_r (nI_1 i) ?_)⟩
      rw [eh]
      by_cases hu : ly_us (yops i) = true
      · have ha : ly_at yops ycnt g n i = true := by
          unfold ly_at
          rw [hth.2.1, decide_eq_true hth.2.2]
          exact hu
        rw [hP _ (ly_tn_t hW hF hG hi ha).1.1]
        exact IH
      · have huf : ly_us (yops i) = false := by
          cases h : ly_us (yops i) with
          | false => rfl
          | true => exact absurd h hu
        rw [ly_iw_g (gl' := P (ly_tn yops yA yB ycnt g n i)) huf (by
          by_cases c1 : yops i = 1
          · exact Or.inl c1
          · refine Or.inr ?_
            unfold ly_h2
            rw [if_neg c1]
            by_cases c0 : w i = 0
            · exact c0
            · exact absurd (hv.2 i hi c0) hu)]
        exact IH
theorem ly_y142 {post : Int32 → SY → Prop} {yorg ystrip ymany yculp ytend yend ymade yrounds yentry ylinked yran ypc ysteps youts : Int32} {yops yA yB ycnt yrole ylist yplace ysym ystay ywide ymem yreg yout : Nat → Int32} (H : ∀ img : Nat → Int32, (∀ x, x < 256 → img x = 0) → ∃ n164, wY_arrange_164 post n164 0 yorg ystrip ymany yculp ytend yend ymade yrounds yentry ylinked yran ypc ysteps youts yops yA yB ycnt yrole ylist yplace ysym img ystay ywide ymem yreg yout) : ∀ (d k : Nat) (img : Nat → Int32), k + d = 256 → (∀ x, x < k → img x = 0) → wY_arrange_142 post yorg ystrip ymany yculp ytend yend ymade yrounds yentry ylinked yran ypc ysteps youts (d + 1) (nI k) yops yA yB ycnt yrole ylist yplace ysym img ystay ywide ymem yreg yout := by
  intro d
  induction d with
  | zero =>
    intro k img hd h
    have e : k = 256 := by omega
    subst e
    exact br_t (by decide) (H img h)
  | succ d ih =>
    intro k img hd h
    refine br_f (nI_ge (b := 256) (by omega) (by omega)) ⟨vp_in_nI (by omega) (by omega), nm_r (e' := upd img k 0) (by rw [ly_cl (i := k) (by omega)]) (nm_r (nI_1 k) (ih (k + 1) _ (by omega) (fun x hx => ?_)))⟩
    by_cases e : x = k
    · subst e; exact pk_us
    · rw [pk_un e]; exact h x (by omega)
def ly_sm (o a b cnt : Nat → Int32) (g : Nat → Nat) (n : Nat) (P : Nat → Int32) (s : Nat) : Int32 := if ly_co o a b cnt g n (nI s) = -1 then -1 else P (ly_co o a b cnt g n (nI s)).toNatClampNeg
theorem ly_y92 {post : Int32 → SY → Prop} {yorg ystrip yculp ytend yend ymade yrounds yentry ylinked yran ypc ysteps youts : Int32} {yops yA yB ycnt yrole ylist yplace yimg ystay ywide ymem yreg yout : Nat → Int32} (hW : ly_W ycnt) (hF : ly_F yops yA yB) {g : Nat → Nat} {n : Nat} (hL : ly_LS yops yA ycnt ylist g n) (hG : ly_GD yops yA yB ycnt g n)
    (H : ∀ sym : Nat → Int32, (∀ s, s < 16 → sym s = ly_sm yops yA yB ycnt g n yplace s) → ∃ n142, wY_arrange_142 post yorg ystrip (nI n) yculp ytend yend ymade yrounds (sym 0) ylinked yran ypc ysteps youts n142 0 yops yA yB ycnt yrole ylist yplace sym yimg ystay ywide ymem yreg yout) : ∀ (d s : Nat) (ysym : Nat → Int32), s + d = 16 → (∀ q, q < s → ysym q = ly_sm yops yA yB ycnt g n yplace q) → wY_arrange_92 post yorg ystrip (nI n) yculp ytend yend ymade yrounds yentry ylinked yran ypc ysteps youts (d + 1) (nI s) yops yA yB ycnt yrole ylist yplace ysym yimg ystay ywide ymem yreg yout := by
  have hg : ∀ j, j < n → g j < 6 := fun j hj => (hL.2 j hj).1
  intro d
  induction d with
  | zero =>
    intro s sym hd h
    have e : s = 16 := by omega
    subst e
    exact br_t (by decide) (nm_e (H sym h))
  | succ d ih =>
    intro s sym hd h
    have es : (nI s).toNatClampNeg = s := ly_cl (by omega)
    have IH := ih (s + 1) (upd sym s (ly_sm yops yA yB ycnt g n yplace s)) (by omega) (fun q hq => by
      by_cases e : q = s
      · subst e; exact pk_us
      · rw [pk_un e]; exact h q (by omega))
    refine br_f (nI_ge (b := 16) (by omega) (by omega)) (ly_ych (hW := hW) (hF := hF) (hL := hL) (s := nI s) (H := ?_))
    have ec : ly_cy yops yA yB ycnt g n (nI s) = ly_co yops yA yB ycnt g n (nI s) := by
      unfold ly_cy
      rw [hG.2.2.1 s (by omega), if_neg (by decide)]
    rw [ec]
    unfold ly_sm at IH
    rcases ly_co_c (o := yops) (a := yA) (b := yB) hW hg (nI s) with z | ⟨j, k, _, _, _, hk, z⟩
    · rw [z, if_pos rfl] at IH
      rw [z]
      exact br_f (by decide) ⟨vp_in_nI (by omega) (by omega), nm_r (e' := upd sym s (-1)) (by rw [es]) (nm_r (nI_1 s) IH)⟩
    · rw [z, if_neg (ly_m1 (by omega)), nI_clamp (by omega)] at IH
      rw [z]
      exact br_t (nI_pos' (by omega)) ⟨vp_in_nI hk (by omega), vp_in_nI (by omega) (by omega), nm_r (e' := upd sym s (yplace k)) (by rw [es, nI_clamp (by omega)]) (nm_r (nI_1 s) IH)⟩
theorem ly_y16a {post : Int32 → SY → Prop} {yorg ystrip ymany yculp ytend yend ymade yrounds yentry ylinked yran ypc ysteps youts : Int32} {yops yA yB ycnt yrole ylist yplace ysym yimg ystay ymem yreg yout : Nat → Int32} (H : ∀ wi : Nat → Int32, (∀ x, x < 144 → wi x = 0) → ∃ n38, wY_arrange_38 post n38 1 yorg ystrip ymany yculp ytend yend ymade yrounds yentry ylinked yran ypc ysteps youts yops yA yB ycnt yrole ylist yplace ysym yimg ystay wi ymem yreg yout) : ∀ (d k : Nat) (wi : Nat → Int32), k + d = 144 → (∀ x, x < k → wi x = 0) → wY_arrange_16 post yorg ystrip ymany yculp ytend yend ymade yrounds yentry ylinked yran ypc ysteps youts (d + 1) (nI k) yops yA yB ycnt yrole ylist yplace ysym yimg ystay wi ymem yreg yout := by
  intro d
  induction d with
  | zero =>
    intro k wi hd h
    have e : k = 144 := by omega
    subst e
    exact br_t (by decide) (H wi h)
  | succ d ih =>
    intro k wi hd h
    refine br_f (nI_ge (b := 144) (by omega) (by omega)) ⟨vp_in_nI (by omega) (by omega), nm_r (e' := upd wi k 0) (by rw [ly_cl (i := k) (by omega), ly_nar0]) (nm_r (nI_1 k) (ih (k + 1) _ (by omega) (fun x hx => ?_)))⟩
    by_cases e : x = k
    · subst e; exact pk_us
    · rw [pk_un e]; exact h x (by omega)
def ly_R0 (o a b cnt : Nat → Int32) (kb : Nat → Bool) (g : Nat → Nat) (n base : Nat) : Bool × (Nat → Int32) × Nat × Nat := ly_rl o a b cnt kb g n base 145 (fun _ => 0) 0 0
theorem ly_R0_ok {o a b cnt : Nat → Int32} {kb : Nat → Bool} {g : Nat → Nat} {n base : Nat} (h : (ly_R0 o a b cnt kb g n base).1 = true) : ly_WV o (ly_R0 o a b cnt kb g n base).2.1 ∧ ly_Ew o a b cnt kb g n base (ly_R0 o a b cnt kb g n base).2.1 ≤ 256 :=
  ly_rl_ok 145 (fun _ => 0) 0 0 ⟨fun _ _ => Or.inl rfl, fun _ _ z => absurd rfl z⟩ (by omega) h
theorem ly_PF_R {o a b cnt : Nat → Int32} (hW : ly_W cnt) (hF : ly_F o a b) {kb : Nat → Bool} {g : Nat → Nat} {n base : Nat} (hg : ∀ j, j < n → g j < 6) {w : Nat → Int32} (hE : ly_Ew o a b cnt kb g n base w ≤ 256) : ly_PF o a b cnt g n (ly_Pw o a b cnt kb g n base w) w := by
  intro i hi
  rcases ly_Pw_c (kb := kb) (base := base) hW hF hg w hi with z | ⟨⟨p, p1, p2⟩, hth⟩
  · exact Or.inl z
  · exact Or.inr ⟨⟨p, by omega, p2⟩, hth⟩
theorem ly_yarr {post : Int32 → SY → Prop} {ystrip yculp ytend yend ymade yrounds yentry ylinked yran ypc ysteps youts : Int32} {yops yA yB ycnt yrole ylist yplace ysym yimg ystay ywide ymem yreg yout : Nat → Int32} (hW : ly_W ycnt) (hF : ly_F yops yA yB) {g : Nat → Nat} {n base : Nat} (hL : ly_LS yops yA ycnt ylist g n) (hG : ly_GD yops yA yB ycnt g n) (hb : base ≤ 100) {kb : Nat → Bool} (hkb : ∀ u, u < 12 → (kb u = true ↔ ly_KP yops yA yB ycnt g n ystrip u))
    (H4 : (ly_R0 yops yA yB ycnt kb g n base).1 = false → ∀ (ytend yend ymade yrounds : Int32) (yplace ystay ywide : Nat → Int32), post 4 (nI base, ystrip, nI n, yculp, ytend, yend, ymade, yrounds, yentry, ylinked, yran, ypc, ysteps, youts, yops, yA, yB, ycnt, yrole, ylist, yplace, ysym, yimg, ystay, ywide, ymem, yreg, yout))
    (H0 : (ly_R0 yops yA yB ycnt kb g n base).1 = true → ∀ (yplace ysym yimg ystay ywide : Nat → Int32), ly_AG 144 yplace (ly_Pw yops yA yB ycnt kb g n base (ly_R0 yops yA yB ycnt kb g n base).2.1) → (∀ s, s < 16 → ysym s = ly_sm yops yA yB ycnt g n yplace s) → ly_AG 256 yimg (ly_im yops yA yB (ly_Pw yops yA yB ycnt kb g n base (ly_R0 yops yA yB ycnt kb g n base).2.1) (ly_R0 yops yA yB ycnt kb g n base).2.1 (ly_tn yops yA yB ycnt g n) 144 (fun _ => 0)) → post 0 (nI base, ystrip, nI n, yculp, nI (ly_Tw yops yA yB ycnt kb g n base (ly_R0 yops yA yB ycnt kb g n base).2.1), nI (ly_Ew yops yA yB ycnt kb g n base (ly_R0 yops yA yB ycnt kb g n base).2.1), nI (ly_R0 yops yA yB ycnt kb g n base).2.2.1, nI (ly_R0 yops yA yB ycnt kb g n base).2.2.2, ysym 0, 1, yran, ypc, ysteps, youts, yops, yA, yB, ycnt, yrole, ylist, yplace, ysym, yimg, ystay, ywide, ymem, yreg, yout)) : wpY_arrange post (nI base, ystrip, nI n, yculp, ytend, yend, ymade, yrounds, yentry, ylinked, yran, ypc, ysteps, youts, yops, yA, yB, ycnt, yrole, ylist, yplace, ysym, yimg, ystay, ywide, ymem, yreg, yout) := by
  have hg : ∀ j, j < n → g j < 6 := fun j hj => (hL.2 j hj).1
  unfold wpY_arrange
  dsimp only
  refine ly_yfu (hW := hW) (hF := hF) (hL := hL) (hG := hG) (H := fun st hst => ⟨145, ly_y16a (H := fun wi hwi => ⟨147, ?_⟩) 144 0 ywide (by omega) (fun x hx => absurd hx (Nat.not_lt_zero x))⟩)
  have hK : ∀ u, u < 12 → (st u = 0 ↔ kb u = false) := by
    intro u hu
    have h1 := hst u hu
    have h2 := hkb u hu
    constructor
    · intro z
      cases hk : kb u with
      | false => rfl
      | true => exact absurd z (h1.2.mpr (h2.mp hk))
    · intro z
      by_cases c : st u = 0
      · exact c
      · have := h2.mpr (h1.2.mp c)
        rw [z] at this; exact absurd this (by decide)
  refine ly_y38 (hW := hW) (hF := hF) (hL := hL) (hG := hG) (hb := hb) (hK := hK) 145 (fun _ => 0) 0 0 1 ytend yend yplace wi (by decide) ⟨fun _ _ => Or.inl rfl, fun _ _ z => absurd rfl z⟩ (by omega) (fun x hx => hwi x hx) (fun hf te e m r pl w2 => H4 hf te e m r pl st w2) (fun ht pl w2 hpl hw2 => ?_)
  obtain ⟨hv, hE⟩ := ly_R0_ok (kb := kb) (base := base) ht
  have hPF := ly_PF_R (kb := kb) (base := base) hW hF hg hE
  exact ⟨17, ly_y92 (hW := hW) (hF := hF) (hL := hL) (hG := hG) (H := fun sym hsym => ⟨257, ly_y142 (H := fun img himg => ⟨145, ly_y164 (hW := hW) (hF := hF) (hL := hL) (hG := hG) (hP := hpl) (hw := hw2) (hv := hv) (hPF := hPF) (img := img) (H := H0 ht pl sym _ st w2 hpl hsym (ly_im_ag (fun x hx => himg x hx) 144)) 144 0 (by omega)⟩) 256 0 yimg (by omega) (fun x hx => absurd hx (Nat.not_lt_zero x))⟩) 16 0 ysym (by omega) (fun q hq => absurd hq (Nat.not_lt_zero q))⟩

/-! the rounds -/
def ly_M1 : Nat → Int32 := fun _ => -1
def ly_Tw (o a b cnt : Nat → Int32) (kb : Nat → Bool) (g : Nat → Nat) (n base : Nat) (w : Nat → Int32) : Nat := (ly_p0 o a b w cnt kb g n base ly_M1).1
def ly_Ew (o a b cnt : Nat → Int32) (kb : Nat → Bool) (g : Nat → Nat) (n base : Nat) (w : Nat → Int32) : Nat := (ly_p1 o a b w cnt kb g n base ly_M1).1
def ly_Pw (o a b cnt : Nat → Int32) (kb : Nat → Bool) (g : Nat → Nat) (n base : Nat) (w : Nat → Int32) : Nat → Int32 := (ly_p1 o a b w cnt kb g n base ly_M1).2
def ly_cf (o a b cnt : Nat → Int32) (kb : Nat → Bool) (g : Nat → Nat) (n base : Nat) (w : Nat → Int32) : Nat := ly_ct (ly_fr o a b cnt g n (ly_Pw o a b cnt kb g n base w) w) 144
def ly_nw (o a b cnt : Nat → Int32) (kb : Nat → Bool) (g : Nat → Nat) (n base : Nat) (w : Nat → Int32) : Nat → Int32 := ly_wd o a b cnt g n (ly_Pw o a b cnt kb g n base w) w
def ly_rl (o a b cnt : Nat → Int32) (kb : Nat → Bool) (g : Nat → Nat) (n base : Nat) : Nat → (Nat → Int32) → Nat → Nat → Bool × (Nat → Int32) × Nat × Nat
  | 0, w, c, r => (true, w, c, r)
  | f + 1, w, c, r => if 256 < ly_Ew o a b cnt kb g n base w then (false, w, c, r) else if ly_cf o a b cnt kb g n base w = 0 then (true, w, c, r) else ly_rl o a b cnt kb g n base f (ly_nw o a b cnt kb g n base w) (c + ly_cf o a b cnt kb g n base w) (r + 1)
def ly_WV (o w : Nat → Int32) : Prop := (∀ i, i < 144 → w i = 0 ∨ w i = 1) ∧ ∀ i, i < 144 → ¬ w i = 0 → ly_us (o i) = true
theorem ly_us_1 {o : Int32} (h : ly_us o = true) : ¬ o = 1 := fun e => by rw [e] at h; exact absurd h (by decide)
theorem ly_ct_ne {p : Nat → Bool} {d : Nat} (h : ¬ ly_ct p d = 0) : ∃ i, i < d ∧ p i = true := by
  induction d with
  | zero => exact absurd rfl h
  | succ d ih =>
    cases hp : p d with
    | true => exact ⟨d, by omega, hp⟩
    | false =>
      rw [ly_ct_n hp] at h
      obtain ⟨i, i1, i2⟩ := ih h
      exact ⟨i, by omega, i2⟩
theorem ly_fr_at {o a b cnt : Nat → Int32} {g : Nat → Nat} {n : Nat} {P w : Nat → Int32} {i : Nat} (h : ly_fr o a b cnt g n P w i = true) : ly_at o cnt g n i = true ∧ w i = 0 := by
  unfold ly_fr at h
  rw [Bool.and_eq_true, Bool.and_eq_true, Bool.and_eq_true, decide_eq_true_eq, decide_eq_true_eq] at h
  exact ⟨h.1.1.2, h.1.2⟩
theorem ly_WV_s {o a b cnt : Nat → Int32} {kb : Nat → Bool} {g : Nat → Nat} {n base : Nat} {w : Nat → Int32} (h : ly_WV o w) : ly_WV o (ly_nw o a b cnt kb g n base w) := by
  refine ⟨fun i hi => ?_, fun i hi hz => ?_⟩
  · unfold ly_nw ly_wd
    by_cases c : ly_fr o a b cnt g n (ly_Pw o a b cnt kb g n base w) w i = true
    · rw [if_pos c]; exact Or.inr rfl
    · rw [if_neg c]; exact h.1 i hi
  · unfold ly_nw ly_wd at hz
    by_cases c : ly_fr o a b cnt g n (ly_Pw o a b cnt kb g n base w) w i = true
    · have := (ly_fr_at c).1
      unfold ly_at at this
      rw [Bool.and_eq_true] at this
      exact this.2
    · rw [if_neg c] at hz; exact h.2 i hi hz
theorem ly_ct_s {o a b cnt : Nat → Int32} {kb : Nat → Bool} {g : Nat → Nat} {n base : Nat} {w : Nat → Int32} (h : ¬ ly_cf o a b cnt kb g n base w = 0) : ly_ct (ly_SS w) 144 + 1 ≤ ly_ct (ly_SS (ly_nw o a b cnt kb g n base w)) 144 := by
  obtain ⟨i, i1, i2⟩ := ly_ct_ne h
  refine ly_ct_str (fun j _ hj => ?_) i1 ?_ ?_
  · unfold ly_SS ly_nw ly_wd
    by_cases c : ly_fr o a b cnt g n (ly_Pw o a b cnt kb g n base w) w j = true
    · rw [if_pos c]; decide
    · rw [if_neg c]; exact hj
  · unfold ly_SS ly_nw ly_wd
    rw [if_pos i2]; decide
  · exact decide_eq_false (fun z => z (ly_fr_at i2).2)
theorem ly_rl_ok {o a b cnt : Nat → Int32} {kb : Nat → Bool} {g : Nat → Nat} {n base : Nat} : ∀ (f : Nat) (w : Nat → Int32) (c r : Nat), ly_WV o w → 145 ≤ ly_ct (ly_SS w) 144 + f → (ly_rl o a b cnt kb g n base f w c r).1 = true → ly_WV o (ly_rl o a b cnt kb g n base f w c r).2.1 ∧ ly_Ew o a b cnt kb g n base (ly_rl o a b cnt kb g n base f w c r).2.1 ≤ 256 := by
  intro f
  induction f with
  | zero =>
    intro w c r _ hf
    have := ly_ct_le (ly_SS w) 144
    omega
  | succ f ih =>
    intro w c r hv hf
    simp only [ly_rl]
    by_cases c1 : 256 < ly_Ew o a b cnt kb g n base w
    · rw [if_pos c1]; intro z; exact absurd (show false = true from z) (by decide)
    · rw [if_neg c1]
      by_cases c2 : ly_cf o a b cnt kb g n base w = 0
      · rw [if_pos c2]; intro _; exact ⟨hv, by dsimp only; omega⟩
      · rw [if_neg c2]
        have := ly_ct_s c2
        exact ih _ _ _ (ly_WV_s hv) (by omega)
theorem ly_Pw_c {o a b cnt : Nat → Int32} (hW : ly_W cnt) (hF : ly_F o a b) {kb : Nat → Bool} {g : Nat → Nat} {n base : Nat} (hg : ∀ j, j < n → g j < 6) (w : Nat → Int32) {i : Nat} (hi : i < 144) : ly_Pw o a b cnt kb g n base w i = -1 ∨ (∃ p : Nat, p + ly_sz o a b w i p ≤ ly_Ew o a b cnt kb g n base w ∧ ly_Pw o a b cnt kb g n base w i = nI p) ∧ ly_th cnt g n i := by
  by_cases hp : ly_pd o a cnt kb g n i
  · have hbd : ly_BD o a b w (ly_p1 o a b w cnt kb g n base ly_M1) := ly_pl_bd hF hW (ly_pl_bd hF hW (fun x _ => Or.inl rfl) n hg) n hg
    rcases hbd i hi with z | ⟨p, p1, p2⟩
    · exact Or.inl z
    · exact Or.inr ⟨⟨p, p2, p1⟩, hi, hp.1, hp.2.1⟩
  · exact Or.inl (ly_p1_kp hW hg hp)
theorem ly_AG_tr {n : Nat} {x y z : Nat → Int32} (h1 : ly_AG n x y) (h2 : ly_AG n y z) : ly_AG n x z := fun i hi => (h1 i hi).trans (h2 i hi)
theorem ly_xrx {post : Int32 → SX → Prop} {xstrip xlinked xblamed xouts xpc xsteps xran : Int32} {xops xA xB xcnt xrole xloc xglo xweak xuse xrep xunit xtgt xstay xlist xchosen ximg xreg xstore xout : Nat → Int32} (hW : ly_W xcnt) (hF : ly_F xops xA xB) {g : Nat → Nat} {n base : Nat} (hL : ly_LS xops xA xcnt xlist g n) (hG : ly_GD xops xA xB xcnt g n) (hb : base ≤ 100) (hT : ∀ x, x < 144 → xtgt x = if ly_at xops xcnt g n x = true then ly_tg xops xA xB xcnt g n x else -1) (hU : ∀ t, ly_th xcnt g n t → xunit t = nI (ly_un xops xA t)) {kb : Nat → Bool} (hK : ∀ u, u < 12 → (xstay u = 0 ↔ kb u = false)) :
    ∀ (f q : Nat) (w : Nat → Int32) (c r : Nat) (xtend xaend : Int32) (xplace xlong : Nat → Int32), q + f = 145 → ly_WV xops w → q ≤ ly_ct (ly_SS w) 144 → ly_AG 144 xlong w → (∀ x, x < 144 → ¬ ly_pd xops xA xcnt kb g n x → xplace x = -1) →
      ((ly_rl xops xA xB xcnt kb g n base f w c r).1 = false → ∀ (xtend xaend xlcnt xlrnd : Int32) (xplace xlong : Nat → Int32), post 4 (nI base, xstrip, nI n, xtend, xaend, xlcnt, xlrnd, xlinked, xblamed, xouts, xpc, xsteps, xran, xops, xA, xB, xcnt, xrole, xloc, xglo, xweak, xuse, xrep, xunit, xtgt, xstay, xlong, xlist, xchosen, xplace, ximg, xreg, xstore, xout)) →
      ((ly_rl xops xA xB xcnt kb g n base f w c r).1 = true → ∀ xplace xlong : Nat → Int32, ly_AG 144 xplace (ly_Pw xops xA xB xcnt kb g n base (ly_rl xops xA xB xcnt kb g n base f w c r).2.1) → ly_AG 144 xlong (ly_rl xops xA xB xcnt kb g n base f w c r).2.1 → post 0 (nI base, xstrip, nI n, nI (ly_Tw xops xA xB xcnt kb g n base (ly_rl xops xA xB xcnt kb g n base f w c r).2.1), nI (ly_Ew xops xA xB xcnt kb g n base (ly_rl xops xA xB xcnt kb g n base f w c r).2.1), nI (ly_rl xops xA xB xcnt kb g n base f w c r).2.2.1, nI (ly_rl xops xA xB xcnt kb g n base f w c r).2.2.2, xlinked, xblamed, xouts, xpc, xsteps, xran, xops, xA, xB, xcnt, xrole, xloc, xglo, xweak, xuse, xrep, xunit, xtgt, xstay, xlong, xlist, xchosen, xplace, ximg, xreg, xstore, xout)) →
      wX_relax_2 post (f + 1) (nI q) (nI base) xstrip (nI n) xtend xaend (nI c) (nI r) xlinked xblamed xouts xpc xsteps xran xops xA xB xcnt xrole xloc xglo xweak xuse xrep xunit xtgt xstay xlong xlist xchosen xplace ximg xreg xstore xout := by
  have hn := hL.1
  have hg : ∀ j, j < n → g j < 6 := fun j hj => (hL.2 j hj).1
  intro f
  induction f with
  | zero =>
    intro q w c r xtend xaend xplace xlong hq _ hct
    have := ly_ct_le (ly_SS w) 144
    omega
  | succ f ih =>
    intro q w c r xtend xaend xplace xlong hq hv hct hw hpl H4 H0
    obtain ⟨e0, e1, eP⟩ := ly_p1_ag (w := w) (base := base) hW hF hg (P := xplace) (Q := ly_M1) hpl
    obtain ⟨b0, b1⟩ := ly_p1_le hF hW w (kb := kb) hn hb hg xplace
    obtain ⟨b0', b1'⟩ := ly_p1_le hF hW w (kb := kb) hn hb hg ly_M1
    refine br_f (nI_nlt (a := 144) (by omega) (by omega)) (ly_xps (hW := hW) (hF := hF) (hw := hw) (hw1 := hv.1) (hL := hL) (s := 0) (hs := by omega) (hU := hU) (hK := hK) (t := base) (hz := by omega) (H := ?_))
    refine ly_xps (hW := hW) (hF := hF) (hw := hw) (hw1 := hv.1) (hL := hL) (s := 1) (hs := by omega) (hU := hU) (hK := hK) (t := (ly_p0 xops xA xB w xcnt kb g n base xplace).1) (hz := b0) (H := ?_)
    have eE : (ly_pl xops xA xB w xcnt kb g 1 n ((ly_p0 xops xA xB w xcnt kb g n base xplace).1, (ly_pl xops xA xB w xcnt kb g 0 n (base, xplace)).2)).1 = ly_Ew xops xA xB xcnt kb g n base w := e1
    have eT : (ly_pl xops xA xB w xcnt kb g 0 n (base, xplace)).1 = ly_Tw xops xA xB xcnt kb g n base w := e0
    have hE : ly_Ew xops xA xB xcnt kb g n base w ≤ 4708 := b1'
    have ePw : ly_AG 144 (ly_pl xops xA xB w xcnt kb g 1 n ((ly_p0 xops xA xB w xcnt kb g n base xplace).1, (ly_pl xops xA xB w xcnt kb g 0 n (base, xplace)).2)).2 (ly_Pw xops xA xB xcnt kb g n base w) := eP
    rw [eE, eT]
    simp only [ly_rl] at H4 H0
    by_cases c1 : 256 < ly_Ew xops xA xB xcnt kb g n base w
    · rw [if_pos c1] at H4
      exact br_f (nI_ge (a := 256) c1 (by omega)) (H4 rfl _ _ _ _ _ _)
    · rw [if_neg c1] at H4 H0
      refine br_t (nI_le (b := 256) (by omega) (by omega)) (ly_xlen (hW := hW) (hF := hF) (hG := hG) (hT := hT) (hP := ePw) (hw := hw) (H := fun lo hlo => ?_))
      have ecf : ly_ct (ly_fr xops xA xB xcnt g n (ly_Pw xops xA xB xcnt kb g n base w) w) 144 = ly_cf xops xA xB xcnt kb g n base w := rfl
      have hcf : ly_cf xops xA xB xcnt kb g n base w ≤ 144 := ly_ct_le _ _
      rw [ecf]
      by_cases c2 : ly_cf xops xA xB xcnt kb g n base w = 0
      · rw [if_pos c2] at H0
        have hnw : ly_AG 144 lo w := fun x hx => by
          rw [hlo x hx]
          unfold ly_wd
          rw [if_neg (by rw [ly_ct_zero c2 x hx]; decide)]
        exact br_t (by rw [c2]; rfl) (H0 rfl _ _ ePw hnw)
      · rw [if_neg c2] at H4 H0
        have hs := ly_ct_s (a := xA) (b := xB) (cnt := xcnt) (kb := kb) (g := g) (n := n) (base := base) c2
        refine br_f (nI_ne0 (by omega) (by omega)) (nm_r (nI_add _ _) (nm_r (nI_1 r) (nm_r (nI_1 q) (ih (q + 1) (ly_nw xops xA xB xcnt kb g n base w) _ _ _ _ _ _ (by omega) (ly_WV_s hv) (by omega) hlo (fun x hx hnp => ?_) H4 H0))))
        exact (ly_p1_kp (base := base) (P := xplace) (w := w) (b := xB) hW hg hnp).trans (hpl x hx hnp)
theorem ly_y38 {post : Int32 → SY → Prop} {ystrip yculp yentry ylinked yran ypc ysteps youts : Int32} {yops yA yB ycnt yrole ylist ysym yimg ystay ymem yreg yout : Nat → Int32} (hW : ly_W ycnt) (hF : ly_F yops yA yB) {g : Nat → Nat} {n base : Nat} (hL : ly_LS yops yA ycnt ylist g n) (hG : ly_GD yops yA yB ycnt g n) (hb : base ≤ 100) {kb : Nat → Bool} (hK : ∀ u, u < 12 → (ystay u = 0 ↔ kb u = false)) :
    ∀ (f : Nat) (w : Nat → Int32) (c r : Nat) (x1 ytend yend : Int32) (yplace ywide : Nat → Int32), ¬ x1 ≤ 0 → ly_WV yops w → 145 ≤ ly_ct (ly_SS w) 144 + f → ly_AG 144 ywide w →
      ((ly_rl yops yA yB ycnt kb g n base f w c r).1 = false → ∀ (ytend yend ymade yrounds : Int32) (yplace ywide : Nat → Int32), post 4 (nI base, ystrip, nI n, yculp, ytend, yend, ymade, yrounds, yentry, ylinked, yran, ypc, ysteps, youts, yops, yA, yB, ycnt, yrole, ylist, yplace, ysym, yimg, ystay, ywide, ymem, yreg, yout)) →
      ((ly_rl yops yA yB ycnt kb g n base f w c r).1 = true → ∀ yplace ywide : Nat → Int32, ly_AG 144 yplace (ly_Pw yops yA yB ycnt kb g n base (ly_rl yops yA yB ycnt kb g n base f w c r).2.1) → ly_AG 144 ywide (ly_rl yops yA yB ycnt kb g n base f w c r).2.1 → ∃ n92, wY_arrange_92 post (nI base) ystrip (nI n) yculp (nI (ly_Tw yops yA yB ycnt kb g n base (ly_rl yops yA yB ycnt kb g n base f w c r).2.1)) (nI (ly_Ew yops yA yB ycnt kb g n base (ly_rl yops yA yB ycnt kb g n base f w c r).2.1)) (nI (ly_rl yops yA yB ycnt kb g n base f w c r).2.2.1) (nI (ly_rl yops yA yB ycnt kb g n base f w c r).2.2.2) yentry ylinked yran ypc ysteps youts n92 0 yops yA yB ycnt yrole ylist yplace ysym yimg ystay ywide ymem yreg yout) →
      wY_arrange_38 post (f + 2) x1 (nI base) ystrip (nI n) yculp ytend yend (nI c) (nI r) yentry ylinked yran ypc ysteps youts yops yA yB ycnt yrole ylist yplace ysym yimg ystay ywide ymem yreg yout := by
  have hn := hL.1
  have hg : ∀ j, j < n → g j < 6 := fun j hj => (hL.2 j hj).1
  intro f
  induction f with
  | zero =>
    intro w c r x1 ytend yend yplace ywide _ _ hct
    have := ly_ct_le (ly_SS w) 144
    omega
  | succ f ih =>
    intro w c r x1 ytend yend yplace ywide hx hv hct hw H4 H0
    refine br_f hx (ly_ypl (hW := hW) (hF := hF) (hw := hw) (hw1 := hv.1) (hw2 := fun i hi hz => ly_us_1 (hv.2 i hi hz)) (hL := hL) (hb := hb) (hK := hK) (H := fun P hP => ?_))
    obtain ⟨e0, e1, eP⟩ := ly_p1_ag (w := w) (base := base) (kb := kb) hW hF hg (P := P) (Q := ly_M1) (fun x hx _ => hP x hx)
    obtain ⟨b0', b1'⟩ := ly_p1_le hF hW w (kb := kb) hn hb hg ly_M1
    have eE : (ly_p1 yops yA yB w ycnt kb g n base P).1 = ly_Ew yops yA yB ycnt kb g n base w := e1
    have eT : (ly_p0 yops yA yB w ycnt kb g n base P).1 = ly_Tw yops yA yB ycnt kb g n base w := e0
    have hE : ly_Ew yops yA yB ycnt kb g n base w ≤ 4708 := b1'
    have ePw : ly_AG 144 (ly_p1 yops yA yB w ycnt kb g n base P).2 (ly_Pw yops yA yB ycnt kb g n base w) := eP
    rw [eE, eT]
    simp only [ly_rl] at H4 H0
    by_cases c1 : 256 < ly_Ew yops yA yB ycnt kb g n base w
    · rw [if_pos c1] at H4
      exact br_f (nI_ge (a := 256) c1 (by omega)) (H4 rfl _ _ _ _ _ _)
    · rw [if_neg c1] at H4 H0
      refine br_t (nI_le (b := 256) (by omega) (by omega)) (ly_ywi (hW := hW) (hF := hF) (hL := hL) (hG := hG) (hP := ePw) (hPp := fun i hi => ?_) (hw := hw) (H := fun lo hlo => ?_))
      · rcases ly_Pw_c (kb := kb) (base := base) hW hF hg w hi with z | ⟨⟨p, p1, p2⟩, hth⟩
        · exact Or.inl z
        · exact Or.inr ⟨⟨p, by omega, p2⟩, hth⟩
      · have ecf : ly_ct (ly_fr yops yA yB ycnt g n (ly_Pw yops yA yB ycnt kb g n base w) w) 144 = ly_cf yops yA yB ycnt kb g n base w := rfl
        have hcf : ly_cf yops yA yB ycnt kb g n base w ≤ 144 := ly_ct_le _ _
        rw [ecf]
        refine nm_r (nI_add _ _) ?_
        by_cases c2 : ly_cf yops yA yB ycnt kb g n base w = 0
        · rw [if_pos c2] at H0
          have hnw : ly_AG 144 lo w := fun x hx => by
            rw [hlo x hx]
            unfold ly_wd
            rw [if_neg (by rw [ly_ct_zero c2 x hx]; decide)]
          rw [c2]
          exact br_t (by decide) (br_t (by decide) (H0 rfl _ _ ePw hnw))
        · rw [if_neg c2] at H4 H0
          have hs := ly_ct_s (a := yA) (b := yB) (cnt := ycnt) (kb := kb) (g := g) (n := n) (base := base) c2
          have hpos : ¬ nI (ly_cf yops yA yB ycnt kb g n base w) ≤ 0 := nI_nle (by omega) (by omega)
          exact br_f hpos (nm_r (nI_1 r) (ih (ly_nw yops yA yB ycnt kb g n base w) _ _ _ _ _ _ _ hpos (ly_WV_s hv) (by omega) hlo H4 H0))

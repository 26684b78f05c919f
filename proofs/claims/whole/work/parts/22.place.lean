/-! placing: the pure pass -/
def ly_sz (o a b w : Nat → Int32) (i t : Nat) : Nat :=
  if o i = 0 ∨ o i = 19 then 0 else if o i = 17 then (a i).toNatClampNeg else if o i = 18 then (if t % (a i).toNatClampNeg = 0 then 0 else (a i).toNatClampNeg - t % (a i).toNatClampNeg) else if o i = 1 then (if b i < -128 ∨ 127 < b i then 2 else 1) else if w i = 0 then 1 else 2
theorem ly_sz_le {o a b : Nat → Int32} (hF : ly_F o a b) (w : Nat → Int32) {i : Nat} (hi : i < 144) (t : Nat) : ly_sz o a b w i t ≤ 16 := by
  obtain ⟨op, hop, eo, _, _, h17, h18, _⟩ := hF i hi
  unfold ly_sz
  by_cases c1 : o i = 0 ∨ o i = 19
  · rw [if_pos c1]; omega
  · rw [if_neg c1]
    by_cases c2 : o i = 17
    · rw [if_pos c2]
      obtain ⟨j, _, j2, j3⟩ := h17 (ly_inj (b := 17) (by omega) (by omega) (eo.symm.trans c2))
      rw [j3, nI_clamp (by omega)]; exact j2
    · rw [if_neg c2]
      by_cases c3 : o i = 18
      · rw [if_pos c3]
        obtain ⟨j, j1, j2, j3⟩ := h18 (ly_inj (b := 18) (by omega) (by omega) (eo.symm.trans c3))
        rw [j3, nI_clamp (by omega)]
        split <;> omega
      · rw [if_neg c3]
        by_cases c4 : o i = 1
        · rw [if_pos c4]; split <;> omega
        · rw [if_neg c4]; split <;> omega
def ly_pk (o a b w : Nat → Int32) (m s : Nat) : Nat → Nat × (Nat → Int32) → Nat × (Nat → Int32)
  | 0, z => z
  | k + 1, z => if ly_sn o a m (k + 1) = s then ((ly_pk o a b w m s k z).1 + ly_sz o a b w (24 * m + k) (ly_pk o a b w m s k z).1, upd (ly_pk o a b w m s k z).2 (24 * m + k) (nI (ly_pk o a b w m s k z).1)) else ly_pk o a b w m s k z
def ly_pl (o a b w cnt : Nat → Int32) (kb : Nat → Bool) (g : Nat → Nat) (s : Nat) : Nat → Nat × (Nat → Int32) → Nat × (Nat → Int32)
  | 0, z => z
  | i + 1, z => if kb (2 * g i + s) = true then ly_pk o a b w (g i) s (ly_c cnt (g i)) (ly_pl o a b w cnt kb g s i z) else ly_pl o a b w cnt kb g s i z
theorem ly_pk_y {o a b w : Nat → Int32} {m s k : Nat} {z : Nat × (Nat → Int32)} (h : ly_sn o a m (k + 1) = s) : ly_pk o a b w m s (k + 1) z = ((ly_pk o a b w m s k z).1 + ly_sz o a b w (24 * m + k) (ly_pk o a b w m s k z).1, upd (ly_pk o a b w m s k z).2 (24 * m + k) (nI (ly_pk o a b w m s k z).1)) := if_pos h
theorem ly_pk_n {o a b w : Nat → Int32} {m s k : Nat} {z : Nat × (Nat → Int32)} (h : ¬ ly_sn o a m (k + 1) = s) : ly_pk o a b w m s (k + 1) z = ly_pk o a b w m s k z := if_neg h
theorem ly_pl_y {o a b w cnt : Nat → Int32} {kb : Nat → Bool} {g : Nat → Nat} {s i : Nat} {z : Nat × (Nat → Int32)} (h : kb (2 * g i + s) = true) : ly_pl o a b w cnt kb g s (i + 1) z = ly_pk o a b w (g i) s (ly_c cnt (g i)) (ly_pl o a b w cnt kb g s i z) := if_pos h
theorem ly_pl_n {o a b w cnt : Nat → Int32} {kb : Nat → Bool} {g : Nat → Nat} {s i : Nat} {z : Nat × (Nat → Int32)} (h : kb (2 * g i + s) = false) : ly_pl o a b w cnt kb g s (i + 1) z = ly_pl o a b w cnt kb g s i z := if_neg (by rw [h]; decide)
/-- the end moves by 16 words an item at most -/
theorem ly_pk_le {o a b : Nat → Int32} (hF : ly_F o a b) (w : Nat → Int32) {m s : Nat} (hm : m < 6) : ∀ k, k ≤ 24 → ∀ z, z.1 ≤ (ly_pk o a b w m s k z).1 ∧ (ly_pk o a b w m s k z).1 ≤ z.1 + 16 * k := by
  intro k
  induction k with
  | zero => intro _ z; exact ⟨Nat.le_refl _, Nat.le_refl _⟩
  | succ k ih =>
    intro hk z
    have h := ih (by omega) z
    by_cases e : ly_sn o a m (k + 1) = s
    · rw [ly_pk_y e]
      have := ly_sz_le hF w (i := 24 * m + k) (by omega) (ly_pk o a b w m s k z).1
      dsimp only
      omega
    · rw [ly_pk_n e]; omega
theorem ly_pl_le {o a b cnt : Nat → Int32} (hF : ly_F o a b) (hW : ly_W cnt) (w : Nat → Int32) {kb : Nat → Bool} {g : Nat → Nat} {s : Nat} : ∀ i, (∀ j, j < i → g j < 6) → ∀ z, z.1 ≤ (ly_pl o a b w cnt kb g s i z).1 ∧ (ly_pl o a b w cnt kb g s i z).1 ≤ z.1 + 384 * i := by
  intro i
  induction i with
  | zero => intro _ z; exact ⟨Nat.le_refl _, Nat.le_refl _⟩
  | succ i ih =>
    intro hg z
    have h := ih (fun j hj => hg j (by omega)) z
    have h6 := hg i (by omega)
    have hc := (hW _ h6).1
    cases e : kb (2 * g i + s) with
    | true =>
      rw [ly_pl_y e]
      have := ly_pk_le hF w (s := s) h6 (ly_c cnt (g i)) hc (ly_pl o a b w cnt kb g s i z)
      omega
    | false => rw [ly_pl_n e]; omega
/-- two passes agree where they did, and on all that they place -/
theorem ly_pk_ag {o a b w : Nat → Int32} {m s : Nat} {z z' : Nat × (Nat → Int32)} (h1 : z.1 = z'.1) : ∀ k, k ≤ 24 → (ly_pk o a b w m s k z).1 = (ly_pk o a b w m s k z').1 ∧ ∀ x, (z.2 x = z'.2 x ∨ (x / 24 = m ∧ x % 24 < k ∧ ly_sn o a m (x % 24 + 1) = s)) → (ly_pk o a b w m s k z).2 x = (ly_pk o a b w m s k z').2 x := by
  intro k
  induction k with
  | zero =>
    intro _
    refine ⟨h1, fun x hx => ?_⟩
    rcases hx with hx | hx
    · exact hx
    · have := hx.2.1; omega
  | succ k ih =>
    intro hk
    obtain ⟨i1, i2⟩ := ih (by omega)
    by_cases e : ly_sn o a m (k + 1) = s
    · rw [ly_pk_y e, ly_pk_y e]
      dsimp only
      rw [i1]
      refine ⟨rfl, fun x hx => ?_⟩
      by_cases ex : x = 24 * m + k
      · rw [ex, pk_us, pk_us]
      · rw [pk_un ex, pk_un ex]
        refine i2 x ?_
        rcases hx with hx | hx
        · exact Or.inl hx
        · exact Or.inr ⟨hx.1, by have := hx.1; have := hx.2.1; omega, hx.2.2⟩
    · rw [ly_pk_n e, ly_pk_n e]
      refine ⟨i1, fun x hx => i2 x ?_⟩
      rcases hx with hx | hx
      · exact Or.inl hx
      · refine Or.inr ⟨hx.1, ?_, hx.2.2⟩
        have h2 := hx.2.1
        by_cases ek : x % 24 = k
        · have := hx.2.2; rw [ek] at this; exact absurd this e
        · omega
theorem ly_pl_ag {o a b w cnt : Nat → Int32} (hW : ly_W cnt) {kb : Nat → Bool} {g : Nat → Nat} {s : Nat} {z z' : Nat × (Nat → Int32)} (h1 : z.1 = z'.1) : ∀ i, (∀ j, j < i → g j < 6) → (ly_pl o a b w cnt kb g s i z).1 = (ly_pl o a b w cnt kb g s i z').1 ∧ ∀ x, (z.2 x = z'.2 x ∨ (ly_li g i (x / 24) = true ∧ x % 24 < ly_c cnt (x / 24) ∧ ly_sn o a (x / 24) (x % 24 + 1) = s ∧ kb (2 * (x / 24) + s) = true)) → (ly_pl o a b w cnt kb g s i z).2 x = (ly_pl o a b w cnt kb g s i z').2 x := by
  intro i
  induction i with
  | zero =>
    intro _
    refine ⟨h1, fun x hx => ?_⟩
    rcases hx with hx | hx
    · exact hx
    · exact absurd (show false = true from hx.1) (by decide)
  | succ i ih =>
    intro hg
    obtain ⟨i1, i2⟩ := ih (fun j hj => hg j (by omega))
    have hc := (hW _ (hg i (by omega))).1
    cases e : kb (2 * g i + s) with
    | true =>
      rw [ly_pl_y e, ly_pl_y e]
      obtain ⟨k1, k2⟩ := ly_pk_ag (o := o) (a := a) (b := b) (w := w) (m := g i) (s := s) i1 (ly_c cnt (g i)) hc
      refine ⟨k1, fun x hx => k2 x ?_⟩
      rcases hx with hx | ⟨x1, x2, x3, x4⟩
      · exact Or.inl (i2 x (Or.inl hx))
      · rw [ly_li_s, Bool.or_eq_true, decide_eq_true_eq] at x1
        rcases x1 with x1 | x1
        · exact Or.inl (i2 x (Or.inr ⟨x1, x2, x3, x4⟩))
        · exact Or.inr ⟨x1.symm, by rw [x1]; exact x2, by rw [x1]; exact x3⟩
    | false =>
      rw [ly_pl_n e, ly_pl_n e]
      refine ⟨i1, fun x hx => i2 x ?_⟩
      rcases hx with hx | ⟨x1, x2, x3, x4⟩
      · exact Or.inl hx
      · rw [ly_li_s, Bool.or_eq_true, decide_eq_true_eq] at x1
        rcases x1 with x1 | x1
        · exact Or.inr ⟨x1, x2, x3, x4⟩
        · rw [← x1, e] at x4; exact absurd x4 (by decide)
/-- what isn't placed stays as it was -/
theorem ly_pk_kp {o a b w : Nat → Int32} {m s : Nat} {z : Nat × (Nat → Int32)} {x : Nat} : ∀ k, k ≤ 24 → ¬ (x / 24 = m ∧ x % 24 < k ∧ ly_sn o a m (x % 24 + 1) = s) → (ly_pk o a b w m s k z).2 x = z.2 x := by
  intro k
  induction k with
  | zero => intro _ _; rfl
  | succ k ih =>
    intro hk hx
    have IH := ih (by omega) (fun y => hx ⟨y.1, by have := y.2.1; omega, y.2.2⟩)
    by_cases e : ly_sn o a m (k + 1) = s
    · rw [ly_pk_y e]
      have ne : x ≠ 24 * m + k := by
        intro ex
        refine hx ⟨by omega, by omega, ?_⟩
        rw [show x % 24 = k by omega]; exact e
      dsimp only
      rw [pk_un ne]; exact IH
    · rw [ly_pk_n e]; exact IH
theorem ly_pl_kp {o a b w cnt : Nat → Int32} (hW : ly_W cnt) {kb : Nat → Bool} {g : Nat → Nat} {s : Nat} {z : Nat × (Nat → Int32)} {x : Nat} : ∀ i, (∀ j, j < i → g j < 6) → ¬ (ly_li g i (x / 24) = true ∧ x % 24 < ly_c cnt (x / 24) ∧ ly_sn o a (x / 24) (x % 24 + 1) = s ∧ kb (2 * (x / 24) + s) = true) → (ly_pl o a b w cnt kb g s i z).2 x = z.2 x := by
  intro i
  induction i with
  | zero => intro _ _; rfl
  | succ i ih =>
    intro hg hx
    have hc := (hW _ (hg i (by omega))).1
    have IH := ih (fun j hj => hg j (by omega)) (fun y => hx ⟨by rw [ly_li_s, y.1, Bool.true_or], y.2⟩)
    cases e : kb (2 * g i + s) with
    | true =>
      rw [ly_pl_y e, ly_pk_kp (ly_c cnt (g i)) hc (fun y => hx ⟨by rw [ly_li_s, decide_eq_true y.1.symm, Bool.or_true], by rw [y.1]; exact y.2.1, by rw [y.1]; exact y.2.2, by rw [y.1]; exact e⟩)]
      exact IH
    | false => rw [ly_pl_n e]; exact IH
/-- all that is placed ends before the end -/
def ly_BD (o a b w : Nat → Int32) (z : Nat × (Nat → Int32)) : Prop := ∀ x, x < 144 → z.2 x = -1 ∨ ∃ p : Nat, z.2 x = nI p ∧ p + ly_sz o a b w x p ≤ z.1
theorem ly_pk_bd {o a b : Nat → Int32} (hF : ly_F o a b) {w : Nat → Int32} {m s : Nat} (hm : m < 6) {z : Nat × (Nat → Int32)} (h : ly_BD o a b w z) : ∀ k, k ≤ 24 → ly_BD o a b w (ly_pk o a b w m s k z) := by
  intro k
  induction k with
  | zero => intro _; exact h
  | succ k ih =>
    intro hk
    have IH := ih (by omega)
    by_cases e : ly_sn o a m (k + 1) = s
    · rw [ly_pk_y e]
      intro x hx
      dsimp only
      by_cases ex : x = 24 * m + k
      · rw [ex, pk_us]; exact Or.inr ⟨_, rfl, Nat.le_refl _⟩
      · rw [pk_un ex]
        rcases IH x hx with z1 | ⟨p, p1, p2⟩
        · exact Or.inl z1
        · exact Or.inr ⟨p, p1, by omega⟩
    · rw [ly_pk_n e]; exact IH
theorem ly_pl_bd {o a b cnt : Nat → Int32} (hF : ly_F o a b) (hW : ly_W cnt) {w : Nat → Int32} {kb : Nat → Bool} {g : Nat → Nat} {s : Nat} {z : Nat × (Nat → Int32)} (h : ly_BD o a b w z) : ∀ i, (∀ j, j < i → g j < 6) → ly_BD o a b w (ly_pl o a b w cnt kb g s i z) := by
  intro i
  induction i with
  | zero => intro _; exact h
  | succ i ih =>
    intro hg
    have IH := ih (fun j hj => hg j (by omega))
    have h6 := hg i (by omega)
    cases e : kb (2 * g i + s) with
    | true => rw [ly_pl_y e]; exact ly_pk_bd hF h6 IH _ (hW _ h6).1
    | false => rw [ly_pl_n e]; exact IH
/-- the whole pass, from a place table -/
def ly_p0 (o a b w cnt : Nat → Int32) (kb : Nat → Bool) (g : Nat → Nat) (n base : Nat) (P : Nat → Int32) : Nat × (Nat → Int32) := ly_pl o a b w cnt kb g 0 n (base, P)
def ly_p1 (o a b w cnt : Nat → Int32) (kb : Nat → Bool) (g : Nat → Nat) (n base : Nat) (P : Nat → Int32) : Nat × (Nat → Int32) := ly_pl o a b w cnt kb g 1 n (ly_p0 o a b w cnt kb g n base P)
/-- what is placed -/
def ly_pd (o a cnt : Nat → Int32) (kb : Nat → Bool) (g : Nat → Nat) (n x : Nat) : Prop := ly_li g n (x / 24) = true ∧ x % 24 < ly_c cnt (x / 24) ∧ kb (ly_un o a x) = true
theorem ly_p1_kp {o a b w cnt : Nat → Int32} (hW : ly_W cnt) {kb : Nat → Bool} {g : Nat → Nat} {n base : Nat} (hg : ∀ j, j < n → g j < 6) {P : Nat → Int32} {x : Nat} (hx : ¬ ly_pd o a cnt kb g n x) : (ly_p1 o a b w cnt kb g n base P).2 x = P x := by
  unfold ly_p1 ly_p0
  rw [ly_pl_kp hW n hg (fun y => hx ⟨y.1, y.2.1, by unfold ly_un; rw [y.2.2.1]; exact y.2.2.2⟩), ly_pl_kp hW n hg (fun y => hx ⟨y.1, y.2.1, by unfold ly_un; rw [y.2.2.1]; exact y.2.2.2⟩)]
theorem ly_p1_ag {o a b w cnt : Nat → Int32} (hW : ly_W cnt) (hF : ly_F o a b) {kb : Nat → Bool} {g : Nat → Nat} {n base : Nat} (hg : ∀ j, j < n → g j < 6) {P Q : Nat → Int32} (h : ∀ x, x < 144 → ¬ ly_pd o a cnt kb g n x → P x = Q x) : (ly_p0 o a b w cnt kb g n base P).1 = (ly_p0 o a b w cnt kb g n base Q).1 ∧ (ly_p1 o a b w cnt kb g n base P).1 = (ly_p1 o a b w cnt kb g n base Q).1 ∧ ly_AG 144 (ly_p1 o a b w cnt kb g n base P).2 (ly_p1 o a b w cnt kb g n base Q).2 := by
  obtain ⟨a1, a2⟩ := ly_pl_ag (o := o) (a := a) (b := b) (w := w) (kb := kb) (s := 0) (z := (base, P)) (z' := (base, Q)) hW rfl n hg
  obtain ⟨b1, b2⟩ := ly_pl_ag (o := o) (a := a) (b := b) (w := w) (kb := kb) (s := 1) (z := ly_p0 o a b w cnt kb g n base P) (z' := ly_p0 o a b w cnt kb g n base Q) hW a1 n hg
  refine ⟨a1, b1, fun x hx => b2 x ?_⟩
  have hs := ly_sn_lt hF (m := x / 24) (by omega) (x % 24 + 1) (by omega)
  by_cases hp : ly_pd o a cnt kb g n x
  · obtain ⟨p1, p2, p3⟩ := hp
    unfold ly_un at p3
    by_cases e : ly_sn o a (x / 24) (x % 24 + 1) = 1
    · exact Or.inr ⟨p1, p2, e, by rw [e] at p3; exact p3⟩
    · have e0 : ly_sn o a (x / 24) (x % 24 + 1) = 0 := by omega
      exact Or.inl (a2 x (Or.inr ⟨p1, p2, e0, by rw [e0] at p3; exact p3⟩))
  · exact Or.inl (a2 x (Or.inl (h x hx hp)))
theorem ly_p1_le {o a b cnt : Nat → Int32} (hF : ly_F o a b) (hW : ly_W cnt) (w : Nat → Int32) {kb : Nat → Bool} {g : Nat → Nat} {n base : Nat} (hn : n ≤ 6) (hb : base ≤ 100) (hg : ∀ j, j < n → g j < 6) (P : Nat → Int32) : (ly_p0 o a b w cnt kb g n base P).1 ≤ 2404 ∧ (ly_p1 o a b w cnt kb g n base P).1 ≤ 4708 := by
  have h1 := ly_pl_le hF hW w (kb := kb) (s := 0) n hg (base, P)
  have h2 := ly_pl_le hF hW w (kb := kb) (s := 1) n hg (ly_p0 o a b w cnt kb g n base P)
  unfold ly_p1
  unfold ly_p0 at *
  dsimp only at h1
  omega

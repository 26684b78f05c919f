/-! pure things: first found, is there one, how many, agreement of arrays, numbers -/
theorem ly_m1 {j : Nat} (h : j < 2 ^ 31) : ¬ nI j = -1 := by
  intro e
  have h1 := nI_pos (n := j) h
  rw [e] at h1
  exact absurd h1 (by decide)
theorem ly_m2 {j : Nat} (h : j < 2 ^ 31) : ¬ nI j = -2 := by
  intro e
  have h1 := nI_pos (n := j) h
  rw [e] at h1
  exact absurd h1 (by decide)
theorem ly_inj {a b : Nat} (ha : a < 2 ^ 31) (hb : b < 2 ^ 31) (e : nI a = nI b) : a = b := (nI_eq ha hb).mp e
def ly_ex (p : Nat → Bool) (i : Nat) : Nat → Bool
  | 0 => false
  | d + 1 => ly_ex p i d || p (i + d)
theorem ly_ex_iff {p : Nat → Bool} {i : Nat} : ∀ {d : Nat}, ly_ex p i d = true ↔ ∃ j, i ≤ j ∧ j < i + d ∧ p j = true := by
  intro d
  induction d with
  | zero => simp only [ly_ex]; constructor
            · intro h; exact absurd h (by decide)
            · rintro ⟨j, h1, h2, _⟩; omega
  | succ d ih =>
    simp only [ly_ex, Bool.or_eq_true, ih]
    constructor
    · rintro (⟨j, h1, h2, h3⟩ | h)
      · exact ⟨j, h1, by omega, h3⟩
      · exact ⟨i + d, by omega, by omega, h⟩
    · rintro ⟨j, h1, h2, h3⟩
      by_cases e : j = i + d
      · exact Or.inr (e ▸ h3)
      · exact Or.inl ⟨j, h1, by omega, h3⟩
theorem ly_ex_f {p : Nat → Bool} {i d : Nat} : ly_ex p i d = false ↔ ∀ j, i ≤ j → j < i + d → p j = false := by
  constructor
  · intro h j h1 h2
    cases hp : p j with
    | false => rfl
    | true => rw [ly_ex_iff.mpr ⟨j, h1, h2, hp⟩] at h; exact absurd h (by decide)
  · intro h
    cases he : ly_ex p i d with
    | false => rfl
    | true =>
      obtain ⟨j, h1, h2, h3⟩ := ly_ex_iff.mp he
      rw [h j h1 h2] at h3; exact absurd h3 (by decide)
theorem ly_ex_congr {p q : Nat → Bool} {i d : Nat} (h : ∀ j, i ≤ j → j < i + d → p j = q j) : ly_ex p i d = ly_ex q i d := by
  induction d with
  | zero => rfl
  | succ d ih => simp only [ly_ex]; rw [ih (fun j h1 h2 => h j h1 (by omega)), h (i + d) (by omega) (by omega)]
def ly_fd (p : Nat → Bool) : Nat → Nat → Int32
  | 0, _ => -1
  | d + 1, i => if p i = true then nI i else ly_fd p d (i + 1)
theorem ly_fd_c (p : Nat → Bool) : ∀ d i : Nat, (ly_fd p d i = -1 ∧ ∀ j, i ≤ j → j < i + d → p j = false) ∨ ∃ j, i ≤ j ∧ j < i + d ∧ p j = true ∧ (∀ l, i ≤ l → l < j → p l = false) ∧ ly_fd p d i = nI j := by
  intro d
  induction d with
  | zero => intro i; exact Or.inl ⟨rfl, fun j h1 h2 => by omega⟩
  | succ d ih =>
    intro i
    by_cases hp : p i = true
    · exact Or.inr ⟨i, by omega, by omega, hp, fun l h1 h2 => by omega, if_pos hp⟩
    · have hf : p i = false := by cases h : p i with
        | false => rfl
        | true => exact absurd h hp
      have e : ly_fd p (d + 1) i = ly_fd p d (i + 1) := if_neg hp
      rw [e]
      rcases ih (i + 1) with ⟨e1, h1⟩ | ⟨j, h1, h2, h3, h4, h5⟩
      · refine Or.inl ⟨e1, fun j a b => ?_⟩
        by_cases ej : j = i
        · exact ej ▸ hf
        · exact h1 j (by omega) (by omega)
      · refine Or.inr ⟨j, by omega, by omega, h3, fun l a b => ?_, h5⟩
        by_cases ej : l = i
        · exact ej ▸ hf
        · exact h4 l (by omega) (by omega)
theorem ly_fd_congr {p q : Nat → Bool} : ∀ {d i : Nat}, (∀ j, i ≤ j → j < i + d → p j = q j) → ly_fd p d i = ly_fd q d i := by
  intro d
  induction d with
  | zero => intro i _; rfl
  | succ d ih =>
    intro i h
    show (if p i = true then nI i else ly_fd p d (i + 1)) = (if q i = true then nI i else ly_fd q d (i + 1))
    rw [h i (by omega) (by omega), ih (fun j a b => h j (by omega) (by omega))]
/-- the answer of a search: there is one -/
theorem ly_fd_ex {p : Nat → Bool} {d i : Nat} (hb : i + d ≤ 2 ^ 31) : ly_ex p i d = decide (¬ ly_fd p d i = -1) := by
  rcases ly_fd_c p d i with ⟨e, h⟩ | ⟨j, h1, h2, h3, _, e⟩
  · rw [e, ly_ex_f.mpr h]; rfl
  · rw [ly_ex_iff.mpr ⟨j, h1, h2, h3⟩, e, decide_eq_true (ly_m1 (by omega))]
def ly_ct (p : Nat → Bool) : Nat → Nat
  | 0 => 0
  | d + 1 => ly_ct p d + (if p d = true then 1 else 0)
theorem ly_ct_le (p : Nat → Bool) : ∀ d, ly_ct p d ≤ d := by
  intro d
  induction d with
  | zero => exact Nat.le_refl _
  | succ d ih => simp only [ly_ct]; split <;> omega
theorem ly_ct_congr {p q : Nat → Bool} {d : Nat} (h : ∀ j, j < d → p j = q j) : ly_ct p d = ly_ct q d := by
  induction d with
  | zero => rfl
  | succ d ih => simp only [ly_ct]; rw [ih (fun j hj => h j (by omega)), h d (by omega)]
theorem ly_ct_mono {p q : Nat → Bool} {d : Nat} (h : ∀ j, j < d → p j = true → q j = true) : ly_ct p d ≤ ly_ct q d := by
  induction d with
  | zero => exact Nat.le_refl _
  | succ d ih =>
    have h1 := ih (fun j hj => h j (by omega))
    simp only [ly_ct]
    by_cases hp : p d = true
    · rw [if_pos hp, if_pos (h d (by omega) hp)]; omega
    · rw [if_neg hp]; omega
theorem ly_ct_str {p q : Nat → Bool} {d : Nat} (h : ∀ j, j < d → p j = true → q j = true) {i : Nat} (hi : i < d) (h1 : q i = true) (h2 : p i = false) : ly_ct p d + 1 ≤ ly_ct q d := by
  induction d with
  | zero => omega
  | succ d ih =>
    simp only [ly_ct]
    by_cases e : i = d
    · subst e
      have := ly_ct_mono (p := p) (q := q) (d := i) (fun j hj => h j (by omega))
      rw [if_pos h1, h2, if_neg (by decide)]; omega
    · have := ih (fun j hj => h j (by omega)) (by omega)
      by_cases hp : p d = true
      · rw [if_pos hp, if_pos (h d (by omega) hp)]; omega
      · rw [if_neg hp]; omega
theorem ly_ct_one {p q : Nat → Bool} {d : Nat} {i : Nat} (hi : i < d) (h : ∀ j, j < d → j ≠ i → p j = q j) (h1 : q i = true) (h2 : p i = false) : ly_ct q d = ly_ct p d + 1 := by
  induction d with
  | zero => omega
  | succ d ih =>
    simp only [ly_ct]
    by_cases e : i = d
    · subst e
      rw [ly_ct_congr (p := q) (q := p) (d := i) (fun j hj => (h j (by omega) (by omega)).symm), if_pos h1, h2, if_neg (by decide)]
    · rw [ih (by omega) (fun j hj => h j (by omega)), h d (by omega) (by omega)]; omega
theorem ly_ct_full {p : Nat → Bool} {d i : Nat} (hi : i < d) (h : p i = false) : ly_ct p d < d := by
  have h1 := ly_ct_str (p := p) (q := fun _ => true) (d := d) (fun _ _ _ => rfl) hi rfl h
  have h2 := ly_ct_le (fun _ => true) d
  omega
theorem ly_ct_pos {p : Nat → Bool} {d i : Nat} (hi : i < d) (h : p i = true) : 1 ≤ ly_ct p d := by
  have h1 := ly_ct_str (p := fun _ => false) (q := p) (d := d) (fun _ _ z => absurd z (by decide)) hi h rfl
  omega
theorem ly_ct_zero {p : Nat → Bool} {d : Nat} (h : ly_ct p d = 0) : ∀ j, j < d → p j = false := by
  intro j hj
  cases hp : p j with
  | false => rfl
  | true => have := ly_ct_pos hj hp; omega
/-- two arrays agree below n -/
def ly_AG (n : Nat) (a b : Nat → Int32) : Prop := ∀ i, i < n → a i = b i
theorem ly_AG_upd {n : Nat} {a b : Nat → Int32} (h : ly_AG n a b) (k : Nat) (x : Int32) : ly_AG n (upd a k x) (upd b k x) := by
  intro i hi
  by_cases e : i = k
  · subst e; rw [pk_us, pk_us]
  · rw [pk_un e, pk_un e]; exact h i hi
def ly_uN (g : Nat → Nat) (n m : Nat) : Nat → Nat := fun i => if i = n then m else g i
theorem ly_uNs {g : Nat → Nat} {n m : Nat} : ly_uN g n m n = m := if_pos rfl
theorem ly_uNn {g : Nat → Nat} {n m i : Nat} (h : i ≠ n) : ly_uN g n m i = g i := if_neg h
theorem ly_nar0 : vp_nar .boolean 0 = 0 := by decide
theorem ly_nar1 : vp_nar .boolean 1 = 1 := by decide
theorem ly_narb {x : Int32} (h : x = 0 ∨ x = 1) : narrow .boolean (.int x) = .int x := by
  rcases h with rfl | rfl <;> decide
theorem ly_fitb {x : Int32} (h : x = 0 ∨ x = 1) : fits .boolean (.int x) = true := by
  rcases h with rfl | rfl <;> decide
theorem ly_cl {i : Nat} (h : i < 4096) : (nI i).toNatClampNeg = i := nI_clamp (by omega)
theorem ly_idx (m k : Nat) : nI m * 24 + nI k = nI (24 * m + k) := by
  have e : (24 : Int32) = nI 24 := rfl
  rw [e, pk_mul, nI_add, Nat.mul_comm]
theorem ly_idy (m : Nat) : 24 * nI m = nI (24 * m) := by
  have e : (24 : Int32) = nI 24 := rfl
  rw [e, pk_mul]
theorem ly_idx2 (m k : Nat) : nI m * 2 + nI k = nI (2 * m + k) := by
  have e : (2 : Int32) = nI 2 := rfl
  rw [e, pk_mul, nI_add, Nat.mul_comm]
/-- counts -/
def ly_c (cnt : Nat → Int32) (m : Nat) : Nat := (cnt m).toNatClampNeg
def ly_W (cnt : Nat → Int32) : Prop := ∀ m, m < 6 → ly_c cnt m ≤ 24 ∧ cnt m = nI (ly_c cnt m)
def ly_in (x : Int32) (a b : Nat) : Prop := ∃ j, a ≤ j ∧ j ≤ b ∧ x = nI j
/-- what item lets in, as far as it matters later -/
def ly_ft (o a b : Int32) : Prop := ∃ op : Nat, op ≤ 19 ∧ o = nI op ∧ (op = 0 → ly_in a 0 15 ∧ ly_in b 0 2) ∧ (op = 16 → ly_in a 0 15) ∧ (op = 17 → ly_in a 0 16) ∧ (op = 18 → ly_in a 2 8) ∧ (op = 19 → ly_in a 0 1) ∧ (op = 8 ∨ op = 9 ∨ op = 10 ∨ op = 12 → ly_in b 0 15)
def ly_F (o a b : Nat → Int32) : Prop := ∀ i, i < 144 → ly_ft (o i) (a i) (b i)
theorem ly_c_upd_s {cnt : Nat → Int32} {m k : Nat} (h : k < 2 ^ 31) : ly_c (upd cnt m (nI k)) m = k := by
  unfold ly_c; rw [pk_us, nI_clamp h]
theorem ly_W_upd {cnt : Nat → Int32} (h : ly_W cnt) {m k : Nat} (hk : k ≤ 24) : ly_W (upd cnt m (nI k)) := by
  intro j hj
  by_cases e : j = m
  · subst e; rw [ly_c_upd_s (by omega), pk_us]; exact ⟨hk, rfl⟩
  · unfold ly_c; rw [pk_un e]; exact h j hj
theorem ly_F_upd {o a b : Nat → Int32} (h : ly_F o a b) {x y z : Int32} (hf : ly_ft x y z) (k : Nat) : ly_F (upd o k x) (upd a k y) (upd b k z) := by
  intro j hj
  by_cases e : j = k
  · subst e; rw [pk_us, pk_us, pk_us]; exact hf
  · rw [pk_un e, pk_un e, pk_un e]; exact h j hj
theorem ly_F0 : ly_F (fun _ => 0) (fun _ => 0) (fun _ => 0) := fun _ _ =>
  ⟨0, by omega, rfl, fun _ => ⟨⟨0, by omega, by omega, rfl⟩, ⟨0, by omega, by omega, rfl⟩⟩, fun h => by omega, fun h => by omega, fun h => by omega, fun h => by omega, fun h => by omega⟩
theorem ly_W0 : ly_W (fun _ => 0) := fun m _ => ⟨by show (0 : Int32).toNatClampNeg ≤ 24; decide, by show (0 : Int32) = nI (0 : Int32).toNatClampNeg; decide⟩

section
/-! rows of kit/rows, pasted -/
theorem pk_us {f : Nat → Int32} {k : Nat} {x : Int32} : upd f k x k = x := if_pos rfl
theorem pk_un {f : Nat → Int32} {k j : Nat} {x : Int32} (h : j ≠ k) : upd f k x j = f j := if_neg h
theorem pk_sub {a b : Nat} (h : b ≤ a) : nI a - nI b = nI (a - b) := by
  obtain ⟨c, rfl⟩ : ∃ c, a = c + b := ⟨a - b, by omega⟩
  rw [← nI_add, Int32.add_sub_cancel, Nat.add_sub_cancel]
theorem pk_m1 (n : Nat) : nI (n + 1) + (-1) = nI n := by
  rw [← nI_1, Int32.add_assoc, show (1 : Int32) + (-1) = 0 from rfl, Int32.add_zero]
theorem pk_mul (a b : Nat) : nI a * nI b = nI (a * b) := (Int32.ofNat_mul a b).symm
theorem pk_div {a d : Nat} (ha : a < 2 ^ 31) (h0 : 0 < d) (hd : d < 2 ^ 31) : nI a / nI d = nI (a / d) := by
  apply Int32.toInt_inj.mp
  rw [lg_idiv_nonneg (by rw [nI_toInt ha]; omega) (by rw [nI_toInt hd]; omega), nI_toInt ha, nI_toInt hd, nI_toInt (Nat.lt_of_le_of_lt (Nat.div_le_self a d) ha)]
  first | rfl | exact (Int.natCast_ediv _ _).symm
theorem pk_rem {a d : Nat} (ha : a < 2 ^ 31) (h0 : 0 < d) (hd : d < 2 ^ 31) : nI a - nI a / nI d * nI d = nI (a % d) := by
  rw [pk_div ha h0 hd, pk_mul, pk_sub (Nat.div_mul_le_self a d)]
  exact congrArg nI (by have := Nat.div_add_mod' a d; omega)
theorem pk_sub_toInt {a b : Nat} (ha : a < 2 ^ 30) (hb : b < 2 ^ 30) : (nI a - nI b).toInt = (a : Int) - b := by
  rw [Int32.toInt_sub, nI_toInt (by omega), nI_toInt (by omega)]
  exact Int.bmod_eq_of_le (by omega) (by omega)
theorem pk_sneg {a b : Nat} (hb : b < 2 ^ 30) (h : a < b) : nI a - nI b < 0 := by
  rw [Int32.lt_iff_toInt_lt, pk_sub_toInt (by omega) hb, show (0 : Int32).toInt = 0 from by decide]
  omega
theorem pk_ix (x : Int32) {n : Nat} (hn : n < 2 ^ 31) : x < 0 ∨ nI n ≤ x ∨ ∃ j : Nat, j < n ∧ x = nI j := by
  by_cases h : x < 0
  · exact Or.inl h
  · obtain ⟨j, hj, rfl⟩ := nI_of h
    by_cases h2 : j < n
    · exact Or.inr (Or.inr ⟨j, h2, rfl⟩)
    · exact Or.inr (Or.inl (nI_le (by omega) hj))
theorem pk_le {x y : Int32} {A B : Prop} (a b : Nat) (f : a ≤ b → A) (g : b < a → B) (hx : x = nI a := by rfl) (hy : y = nI b := by rfl) (ha : a < 2 ^ 31 := by omega) (hb : b < 2 ^ 31 := by omega) : (x ≤ y → A) ∧ (¬ x ≤ y → B) := by
  subst hx hy
  rw [nI_leI ha hb]
  exact ⟨f, fun z => g (by omega)⟩
theorem pk_lt {x y : Int32} {A B : Prop} (a b : Nat) (f : a < b → A) (g : b ≤ a → B) (hx : x = nI a := by rfl) (hy : y = nI b := by rfl) (ha : a < 2 ^ 31 := by omega) (hb : b < 2 ^ 31 := by omega) : (x < y → A) ∧ (¬ x < y → B) := by
  subst hx hy
  rw [nI_ltI ha hb]
  exact ⟨f, fun z => g (by omega)⟩
theorem pk_eq {x y : Int32} {A B : Prop} (a b : Nat) (f : a = b → A) (g : a ≠ b → B) (hx : x = nI a := by rfl) (hy : y = nI b := by rfl) (ha : a < 2 ^ 31 := by omega) (hb : b < 2 ^ 31 := by omega) : (x = y → A) ∧ (¬ x = y → B) := by
  subst hx hy
  rw [nI_eq ha hb]
  exact ⟨f, g⟩
theorem pk_in {x : Int32} (n N : Nat) (h : n < N) (hx : x = nI n := by rfl) (hN : N < 2 ^ 31 := by omega) : vp_in x N := by
  subst hx
  exact vp_in_nI h hN
theorem pk_cl {x : Int32} (n : Nat) (hx : x = nI n := by rfl) (h : n < 2 ^ 31 := by omega) : x.toNatClampNeg = n := by
  subst hx
  exact nI_clamp h
theorem pk_tn {n : Nat} (h : n < 2 ^ 32) : (nI n).toBitVec.toNat = n := Nat.mod_eq_of_lt h
theorem pk_and (x : Int32) {m : Int32} (k : Nat) (hm : m.toBitVec.toNat = 2 ^ k - 1) : x &&& m = nI (x.toBitVec.toNat % 2 ^ k) := by
  apply Int32.toBitVec_inj.mp
  apply BitVec.eq_of_toNat_eq
  rw [Int32.toBitVec_and, BitVec.toNat_and, hm, Nat.and_two_pow_sub_one_eq_mod]
  show _ = (BitVec.ofNat 32 _).toNat
  rw [BitVec.toNat_ofNat]
  exact (Nat.mod_eq_of_lt (Nat.lt_of_le_of_lt (Nat.mod_le _ _) x.toBitVec.isLt)).symm
theorem pk_andN {n : Nat} (h : n < 2 ^ 32) {m : Int32} (k : Nat) (hm : m.toBitVec.toNat = 2 ^ k - 1) : nI n &&& m = nI (n % 2 ^ k) := by
  rw [pk_and _ k hm, pk_tn h]
theorem pk_andE (x : Int32) {m : Int32} (k : Nat) (hm : m.toBitVec.toNat = 2 ^ k - 1) : ∃ j : Nat, j < 2 ^ k ∧ x &&& m = nI j := ⟨_, Nat.mod_lt _ (Nat.two_pow_pos k), pk_and x k hm⟩
theorem pk_andIn (x : Int32) {m : Int32} (k : Nat) (hm : m.toBitVec.toNat = 2 ^ k - 1) (hk : k ≤ 30) : vp_in (x &&& m) (2 ^ k) := by
  obtain ⟨j, hj, e⟩ := pk_andE x k hm
  rw [e]
  exact vp_in_nI hj (Nat.lt_of_le_of_lt (Nat.pow_le_pow_right (by decide) hk) (by decide))
theorem pk_shl (a s : Int32) (k : Nat) (hs : (s.toBitVec.smod 32).toNat = k) : (a <<< s).toBitVec.toNat = a.toBitVec.toNat * 2 ^ k % 2 ^ 32 := by
  show (a.toBitVec <<< (s.toBitVec.smod 32).toNat).toNat = _
  rw [hs, BitVec.toNat_shiftLeft, Nat.shiftLeft_eq]
theorem pk_shlN {n : Nat} (s : Int32) (k : Nat) (hs : (s.toBitVec.smod 32).toNat = k) (h : n * 2 ^ k < 2 ^ 32) : nI n <<< s = nI (n * 2 ^ k) := by
  apply Int32.toBitVec_inj.mp
  apply BitVec.eq_of_toNat_eq
  have hn : n < 2 ^ 32 := Nat.lt_of_le_of_lt (Nat.le_mul_of_pos_right n (Nat.two_pow_pos k)) h
  rw [pk_shl _ _ k hs, pk_tn hn, pk_tn h, Nat.mod_eq_of_lt h]
theorem pk_shr (a s : Int32) (k : Nat) (hs : (s.toBitVec.smod 32).toNat = k) : (a >>> s).toInt = a.toInt >>> k := by
  show (a.toBitVec.sshiftRight (s.toBitVec.smod 32).toNat).toInt = _
  rw [hs, BitVec.toInt_sshiftRight]
  rfl
theorem pk_shrN {n : Nat} (h : n < 2 ^ 31) (s : Int32) (k : Nat) (hs : (s.toBitVec.smod 32).toNat = k) : nI n >>> s = nI (n / 2 ^ k) := by
  apply Int32.toInt_inj.mp
  have h2 : n / 2 ^ k ≤ n := Nat.div_le_self _ _
  rw [pk_shr _ _ k hs, nI_toInt h, nI_toInt (by omega), Int.shiftRight_eq_div_pow]
  rfl
theorem pk_ushr (x s : Int32) (k : Nat) (hs : ((s.toUInt32 &&& Int32.toUInt32 31).toBitVec % 32).toNat = k) : (x.toUInt32 >>> (s.toUInt32 &&& Int32.toUInt32 31)).toInt32.toBitVec.toNat = x.toBitVec.toNat / 2 ^ k := by
  have e : (x.toUInt32 >>> (s.toUInt32 &&& Int32.toUInt32 31)).toInt32.toBitVec = x.toBitVec >>> k := by
    rw [← hs]
    exact UInt32.toBitVec_shiftRight _ _
  rw [e, BitVec.toNat_ushiftRight, Nat.shiftRight_eq_div_pow]
theorem pk_ushrN {n : Nat} (hn : n < 2 ^ 32) (s : Int32) (k : Nat) (hs : ((s.toUInt32 &&& Int32.toUInt32 31).toBitVec % 32).toNat = k) : ((nI n).toUInt32 >>> (s.toUInt32 &&& Int32.toUInt32 31)).toInt32 = nI (n / 2 ^ k) := by
  apply Int32.toBitVec_inj.mp
  apply BitVec.eq_of_toNat_eq
  rw [pk_ushr _ s k hs, pk_tn hn, pk_tn (Nat.lt_of_le_of_lt (Nat.div_le_self _ _) hn)]
theorem pk_ns (z : Int32) : narrow .short (.int z.toInt16.toInt32) = .int z.toInt16.toInt32 := congrArg Value.int (by simp)
/-! ===== Int32 by its bits: bt x i ===== -/
def bt (x : Int32) (i : Nat) : Bool := x.toBitVec.getLsbD i
theorem b_ext {x y : Int32} (h : ∀ i, i < 32 → bt x i = bt y i) : x = y := Int32.toBitVec_inj.mp (BitVec.eq_of_getLsbD_eq (fun i hi => h i hi))
theorem b_or (x y : Int32) (i : Nat) : bt (x ||| y) i = (bt x i || bt y i) := by unfold bt; rw [Int32.toBitVec_or, BitVec.getLsbD_or]
theorem b_and (x y : Int32) (i : Nat) : bt (x &&& y) i = (bt x i && bt y i) := by unfold bt; rw [Int32.toBitVec_and, BitVec.getLsbD_and]
theorem b_xor (x y : Int32) (i : Nat) : bt (x ^^^ y) i = (bt x i ^^ bt y i) := by unfold bt; rw [Int32.toBitVec_xor, BitVec.getLsbD_xor]
theorem b_big {x : Int32} {i : Nat} (h : 32 ≤ i) : bt x i = false := BitVec.getLsbD_of_ge _ _ h
theorem b_255 (i : Nat) : bt 255 i = decide (i < 8) := by
  rcases Nat.lt_or_ge i 32 with h | h
  · exact (by decide +kernel : ∀ i, i < 32 → bt 255 i = decide (i < 8)) i h
  · rw [b_big h, decide_eq_false (by omega)]
theorem b_65535 (i : Nat) : bt 65535 i = decide (i < 16) := by
  rcases Nat.lt_or_ge i 32 with h | h
  · exact (by decide +kernel : ∀ i, i < 32 → bt 65535 i = decide (i < 16)) i h
  · rw [b_big h, decide_eq_false (by omega)]
theorem b_m1 : ∀ i, i < 32 → bt (-1) i = true := by decide +kernel
theorem b_0 (i : Nat) : bt 0 i = false := BitVec.getLsbD_zero
theorem s_l : ∀ n, n < 32 → ((nI n &&& 31).toBitVec.smod 32).toNat = n := by decide +kernel
theorem s_u : ∀ n, n < 32 → (((nI n).toUInt32 &&& Int32.toUInt32 31).toBitVec % 32).toNat = n := by decide +kernel
theorem b_shl (n : Nat) (hn : n < 32) (x : Int32) {i : Nat} (hi : i < 32) : bt (x <<< (nI n &&& 31)) i = (decide (n ≤ i) && bt x (i - n)) := by
  unfold bt
  rw [Int32.toBitVec_shiftLeft]
  show (x.toBitVec <<< ((nI n &&& 31).toBitVec.smod 32).toNat).getLsbD i = _
  rw [s_l n hn, BitVec.getLsbD_shiftLeft]
  rcases Nat.lt_or_ge i n with h | h
  · simp [h, Nat.not_le.mpr h]
  · simp [hi, h, Nat.not_lt.mpr h]
theorem b_ushr (n : Nat) (hn : n < 32) (x : Int32) (i : Nat) : bt ((x.toUInt32 >>> ((nI n).toUInt32 &&& Int32.toUInt32 31)).toInt32) i = bt x (n + i) := by
  show (x.toUInt32 >>> ((nI n).toUInt32 &&& Int32.toUInt32 31)).toBitVec.getLsbD i = x.toUInt32.toBitVec.getLsbD (n + i)
  rw [UInt32.toBitVec_shiftRight]
  show (x.toUInt32.toBitVec >>> (((nI n).toUInt32 &&& Int32.toUInt32 31).toBitVec % 32).toNat).getLsbD i = _
  rw [s_u n hn, BitVec.getLsbD_ushiftRight]
theorem b_sshr (n : Nat) (hn : n < 32) (x : Int32) {i : Nat} (hi : i < 32) : bt (x >>> (nI n &&& 31)) i = if n + i < 32 then bt x (n + i) else bt x 31 := by
  unfold bt
  rw [Int32.toBitVec_shiftRight]
  show (x.toBitVec.sshiftRight ((nI n &&& 31).toBitVec.smod 32).toNat).getLsbD i = _
  rw [s_l n hn, BitVec.getLsbD_sshiftRight, BitVec.msb_eq_getLsbD_last]
  simp [hi]
theorem b_shl8 (x : Int32) {i : Nat} (hi : i < 32) : bt (x <<< ((8 : Int32) &&& 31)) i = (decide (8 ≤ i) && bt x (i - 8)) := b_shl 8 (by omega) x hi
theorem b_shl16 (x : Int32) {i : Nat} (hi : i < 32) : bt (x <<< ((16 : Int32) &&& 31)) i = (decide (16 ≤ i) && bt x (i - 16)) := b_shl 16 (by omega) x hi
theorem b_shl24 (x : Int32) {i : Nat} (hi : i < 32) : bt (x <<< ((24 : Int32) &&& 31)) i = (decide (24 ≤ i) && bt x (i - 24)) := b_shl 24 (by omega) x hi
theorem b_sshr8 (x : Int32) {i : Nat} (hi : i < 32) : bt (x >>> ((8 : Int32) &&& 31)) i = if 8 + i < 32 then bt x (8 + i) else bt x 31 := b_sshr 8 (by omega) x hi
end
section
/-! pure things: first found, is there one, how many, agreement of arrays, numbers -/
theorem ly_m1 {j : Nat} (h : j < 2 ^ 31) : ¬ nI j = -1 := by
  intro e
  have h1 := nI_pos (n := j) h
  rw [e] at h1
  exact absurd h1 (by decide)
theorem ly_m2 {j : Nat} (h : j < 2 ^ 31) : ¬ nI j = -2 := by
  intro e
  have h1 := nI_pos (n := j) h
  rw [e] at h1
  exact absurd h1 (by decide)
theorem ly_inj {a b : Nat} (ha : a < 2 ^ 31) (hb : b < 2 ^ 31) (e : nI a = nI b) : a = b := (nI_eq ha hb).mp e
def ly_ex (p : Nat → Bool) (i : Nat) : Nat → Bool
  | 0 => false
  | d + 1 => ly_ex p i d || p (i + d)
theorem ly_ex_iff {p : Nat → Bool} {i : Nat} : ∀ {d : Nat}, ly_ex p i d = true ↔ ∃ j, i ≤ j ∧ j < i + d ∧ p j = true := by
  intro d
  induction d with
  | zero => simp only [ly_ex]; constructor
            · intro h; exact absurd h (by decide)
            · rintro ⟨j, h1, h2, _⟩; omega
  | succ d ih =>
    simp only [ly_ex, Bool.or_eq_true, ih]
    constructor
    · rintro (⟨j, h1, h2, h3⟩ | h)
      · exact ⟨j, h1, by omega, h3⟩
      · exact ⟨i + d, by omega, by omega, h⟩
    · rintro ⟨j, h1, h2, h3⟩
      by_cases e : j = i + d
      · exact Or.inr (e ▸ h3)
      · exact Or.inl ⟨j, h1, by omega, h3⟩
theorem ly_ex_f {p : Nat → Bool} {i d : Nat} : ly_ex p i d = false ↔ ∀ j, i ≤ j → j < i + d → p j = false := by
  constructor
  · intro h j h1 h2
    cases hp : p j with
    | false => rfl
    | true => rw [ly_ex_iff.mpr ⟨j, h1, h2, hp⟩] at h; exact absurd h (by decide)
  · intro h
    cases he : ly_ex p i d with
    | false => rfl
    | true =>
      obtain ⟨j, h1, h2, h3⟩ := ly_ex_iff.mp he
      rw [h j h1 h2] at h3; exact absurd h3 (by decide)
theorem ly_ex_congr {p q : Nat → Bool} {i d : Nat} (h : ∀ j, i ≤ j → j < i + d → p j = q j) : ly_ex p i d = ly_ex q i d := by
  induction d with
  | zero => rfl
  | succ d ih => simp only [ly_ex]; rw [ih (fun j h1 h2 => h j h1 (by omega)), h (i + d) (by omega) (by omega)]
def ly_fd (p : Nat → Bool) : Nat → Nat → Int32
  | 0, _ => -1
  | d + 1, i => if p i = true then nI i else ly_fd p d (i + 1)
theorem ly_fd_c (p : Nat → Bool) : ∀ d i : Nat, (ly_fd p d i = -1 ∧ ∀ j, i ≤ j → j < i + d → p j = false) ∨ ∃ j, i ≤ j ∧ j < i + d ∧ p j = true ∧ (∀ l, i ≤ l → l < j → p l = false) ∧ ly_fd p d i = nI j := by
  intro d
  induction d with
  | zero => intro i; exact Or.inl ⟨rfl, fun j h1 h2 => by omega⟩
  | succ d ih =>
    intro i
    by_cases hp : p i = true
    · exact Or.inr ⟨i, by omega, by omega, hp, fun l h1 h2 => by omega, if_pos hp⟩
    · have hf : p i = false := by cases h : p i with
        | false => rfl
        | true => exact absurd h hp
      have e : ly_fd p (d + 1) i = ly_fd p d (i + 1) := if_neg hp
      rw [e]
      rcases ih (i + 1) with ⟨e1, h1⟩ | ⟨j, h1, h2, h3, h4, h5⟩
      · refine Or.inl ⟨e1, fun j a b => ?_⟩
        by_cases ej : j = i
        · exact ej ▸ hf
        · exact h1 j (by omega) (by omega)
      · refine Or.inr ⟨j, by omega, by omega, h3, fun l a b => ?_, h5⟩
        by_cases ej : l = i
        · exact ej ▸ hf
        · exact h4 l (by omega) (by omega)
theorem ly_fd_congr {p q : Nat → Bool} : ∀ {d i : Nat}, (∀ j, i ≤ j → j < i + d → p j = q j) → ly_fd p d i = ly_fd q d i := by
  intro d
  induction d with
  | zero => intro i _; rfl
  | succ d ih =>
    intro i h
    show (if p i = true then nI i else ly_fd p d (i + 1)) = (if q i = true then nI i else ly_fd q d (i + 1))
    rw [h i (by omega) (by omega), ih (fun j a b => h j (by omega) (by omega))]
/-- the answer of a search: there is one -/
theorem ly_fd_ex {p : Nat → Bool} {d i : Nat} (hb : i + d ≤ 2 ^ 31) : ly_ex p i d = decide (¬ ly_fd p d i = -1) := by
  rcases ly_fd_c p d i with ⟨e, h⟩ | ⟨j, h1, h2, h3, _, e⟩
  · rw [e, ly_ex_f.mpr h]; rfl
  · rw [ly_ex_iff.mpr ⟨j, h1, h2, h3⟩, e, decide_eq_true (ly_m1 (by omega))]
def ly_ct (p : Nat → Bool) : Nat → Nat
  | 0 => 0
  | d + 1 => ly_ct p d + (if p d = true then 1 else 0)
theorem ly_ct_le (p : Nat → Bool) : ∀ d, ly_ct p d ≤ d := by
  intro d
  induction d with
  | zero => exact Nat.le_refl _
  | succ d ih => simp only [ly_ct]; split <;> omega
theorem ly_ct_congr {p q : Nat → Bool} {d : Nat} (h : ∀ j, j < d → p j = q j) : ly_ct p d = ly_ct q d := by
  induction d with
  | zero => rfl
  | succ d ih => simp only [ly_ct]; rw [ih (fun j hj => h j (by omega)), h d (by omega)]
theorem ly_ct_mono {p q : Nat → Bool} {d : Nat} (h : ∀ j, j < d → p j = true → q j = true) : ly_ct p d ≤ ly_ct q d := by
  induction d with
  | zero => exact Nat.le_refl _
  | succ d ih =>
    have h1 := ih (fun j hj => h j (by omega))
    simp only [ly_ct]
    by_cases hp : p d = true
    · rw [if_pos hp, if_pos (h d (by omega) hp)]; omega
    · rw [if_neg hp]; omega
theorem ly_ct_str {p q : Nat → Bool} {d : Nat} (h : ∀ j, j < d → p j = true → q j = true) {i : Nat} (hi : i < d) (h1 : q i = true) (h2 : p i = false) : ly_ct p d + 1 ≤ ly_ct q d := by
  induction d with
  | zero => omega
  | succ d ih =>
    simp only [ly_ct]
    by_cases e : i = d
    · subst e
      have := ly_ct_mono (p := p) (q := q) (d := i) (fun j hj => h j (by omega))
      rw [if_pos h1, h2, if_neg (by decide)]; omega
    · have := ih (fun j hj => h j (by omega)) (by omega)
      by_cases hp : p d = true
      · rw [if_pos hp, if_pos (h d (by omega) hp)]; omega
      · rw [if_neg hp]; omega
theorem ly_ct_one {p q : Nat → Bool} {d : Nat} {i : Nat} (hi : i < d) (h : ∀ j, j < d → j ≠ i → p j = q j) (h1 : q i = true) (h2 : p i = false) : ly_ct q d = ly_ct p d + 1 := by
  induction d with
  | zero => omega
  | succ d ih =>
    simp only [ly_ct]
    by_cases e : i = d
    · subst e
      rw [ly_ct_congr (p := q) (q := p) (d := i) (fun j hj => (h j (by omega) (by omega)).symm), if_pos h1, h2, if_neg (by decide)]
    · rw [ih (by omega) (fun j hj => h j (by omega)), h d (by omega) (by omega)]; omega
theorem ly_ct_full {p : Nat → Bool} {d i : Nat} (hi : i < d) (h : p i = false) : ly_ct p d < d := by
  have h1 := ly_ct_str (p := p) (q := fun _ => true) (d := d) (fun _ _ _ => rfl) hi rfl h
  have h2 := ly_ct_le (fun _ => true) d
  omega
theorem ly_ct_pos {p : Nat → Bool} {d i : Nat} (hi : i < d) (h : p i = true) : 1 ≤ ly_ct p d := by
  have h1 := ly_ct_str (p := fun _ => false) (q := p) (d := d) (fun _ _ z => absurd z (by decide)) hi h rfl
  omega
theorem ly_ct_zero {p : Nat → Bool} {d : Nat} (h : ly_ct p d = 0) : ∀ j, j < d → p j = false := by
  intro j hj
  cases hp : p j with
  | false => rfl
  | true => have := ly_ct_pos hj hp; omega
/-- two arrays agree below n -/
def ly_AG (n : Nat) (a b : Nat → Int32) : Prop := ∀ i, i < n → a i = b i
theorem ly_AG_upd {n : Nat} {a b : Nat → Int32} (h : ly_AG n a b) (k : Nat) (x : Int32) : ly_AG n (upd a k x) (upd b k x) := by
  intro i hi
  by_cases e : i = k
  · subst e; rw [pk_us, pk_us]
  · rw [pk_un e, pk_un e]; exact h i hi
def ly_uN (g : Nat → Nat) (n m : Nat) : Nat → Nat := fun i => if i = n then m else g i
theorem ly_uNs {g : Nat → Nat} {n m : Nat} : ly_uN g n m n = m := if_pos rfl
theorem ly_uNn {g : Nat → Nat} {n m i : Nat} (h : i ≠ n) : ly_uN g n m i = g i := if_neg h
theorem ly_nar0 : vp_nar .boolean 0 = 0 := by decide
theorem ly_nar1 : vp_nar .boolean 1 = 1 := by decide
theorem ly_narb {x : Int32} (h : x = 0 ∨ x = 1) : narrow .boolean (.int x) = .int x := by
  rcases h with rfl | rfl <;> decide
theorem ly_fitb {x : Int32} (h : x = 0 ∨ x = 1) : fits .boolean (.int x) = true := by
  rcases h with rfl | rfl <;> decide
theorem ly_cl {i : Nat} (h : i < 4096) : (nI i).toNatClampNeg = i := nI_clamp (by omega)
theorem ly_idx (m k : Nat) : nI m * 24 + nI k = nI (24 * m + k) := by
  have e : (24 : Int32) = nI 24 := rfl
  rw [e, pk_mul, nI_add, Nat.mul_comm]
theorem ly_idy (m : Nat) : 24 * nI m = nI (24 * m) := by
  have e : (24 : Int32) = nI 24 := rfl
  rw [e, pk_mul]
theorem ly_idx2 (m k : Nat) : nI m * 2 + nI k = nI (2 * m + k) := by
  have e : (2 : Int32) = nI 2 := rfl
  rw [e, pk_mul, nI_add, Nat.mul_comm]
/-- counts -/
def ly_c (cnt : Nat → Int32) (m : Nat) : Nat := (cnt m).toNatClampNeg
def ly_W (cnt : Nat → Int32) : Prop := ∀ m, m < 6 → ly_c cnt m ≤ 24 ∧ cnt m = nI (ly_c cnt m)
def ly_in (x : Int32) (a b : Nat) : Prop := ∃ j, a ≤ j ∧ j ≤ b ∧ x = nI j
/-- what item lets in, as far as it matters later -/
def ly_ft (o a b : Int32) : Prop := ∃ op : Nat, op ≤ 19 ∧ o = nI op ∧ (op = 0 → ly_in a 0 15 ∧ ly_in b 0 2) ∧ (op = 16 → ly_in a 0 15) ∧ (op = 17 → ly_in a 0 16) ∧ (op = 18 → ly_in a 2 8) ∧ (op = 19 → ly_in a 0 1) ∧ (op = 8 ∨ op = 9 ∨ op = 10 ∨ op = 12 → ly_in b 0 15)
def ly_F (o a b : Nat → Int32) : Prop := ∀ i, i < 144 → ly_ft (o i) (a i) (b i)
theorem ly_c_upd_s {cnt : Nat → Int32} {m k : Nat} (h : k < 2 ^ 31) : ly_c (upd cnt m (nI k)) m = k := by
  unfold ly_c; rw [pk_us, nI_clamp h]
theorem ly_W_upd {cnt : Nat → Int32} (h : ly_W cnt) {m k : Nat} (hk : k ≤ 24) : ly_W (upd cnt m (nI k)) := by
  intro j hj
  by_cases e : j = m
  · subst e; rw [ly_c_upd_s (by omega), pk_us]; exact ⟨hk, rfl⟩
  · unfold ly_c; rw [pk_un e]; exact h j hj
theorem ly_F_upd {o a b : Nat → Int32} (h : ly_F o a b) {x y z : Int32} (hf : ly_ft x y z) (k : Nat) : ly_F (upd o k x) (upd a k y) (upd b k z) := by
  intro j hj
  by_cases e : j = k
  · subst e; rw [pk_us, pk_us, pk_us]; exact hf
  · rw [pk_un e, pk_un e, pk_un e]; exact h j hj
theorem ly_F0 : ly_F (fun _ => 0) (fun _ => 0) (fun _ => 0) := fun _ _ =>
  ⟨0, by omega, rfl, fun _ => ⟨⟨0, by omega, by omega, rfl⟩, ⟨0, by omega, by omega, rfl⟩⟩, fun h => by omega, fun h => by omega, fun h => by omega, fun h => by omega, fun h => by omega⟩
theorem ly_W0 : ly_W (fun _ => 0) := fun m _ => ⟨by show (0 : Int32).toNatClampNeg ≤ 24; decide, by show (0 : Int32) = nI (0 : Int32).toNatClampNeg; decide⟩
end
section
/-! the relation -/
def ly_rn (xouts : Int32) (xreg yreg xstore ymem xout yout : Nat → Int32) : Prop :=
  ly_AG 8 xreg yreg ∧ ly_AG 256 xstore ymem ∧ ∃ o : Nat, o ≤ 300 ∧ xouts = nI o ∧ ∀ k, k < 40 → xout k = if k < o then yout k else 0
def ly_lk (xllen ymany xtend ytend xaend yend xlcnt ymade xlrnd yrounds yentry : Int32) (xlist ylist xplace yplace ximg yimg xchosen ysym : Nat → Int32) : Prop :=
  ∃ n : Nat, n ≤ 6 ∧ xllen = nI n ∧ ymany = nI n ∧ ly_AG n xlist ylist ∧ xtend = ytend ∧ xaend = yend ∧ xlcnt = ymade ∧ xlrnd = yrounds ∧ ly_AG 144 xplace yplace ∧ ly_AG 256 ximg yimg ∧ yentry = ysym 0 ∧
    ∀ s, s < 16 → (xchosen s = -1 ∧ ysym s = -1 ∧ s ≠ 0) ∨ ∃ t : Nat, t < 144 ∧ xchosen s = nI t ∧ ysym s = yplace t
def i_Rel (_ : Nat) (u : SX) (v : SY) : Prop :=
  ∃ (xbase xstrip xllen xtend xaend xlcnt xlrnd xlinked xblamed xouts xpc xsteps xran : Int32) (xops xA xB xcnt xrole xloc xglo xweak xuse xrep xunit xtgt xstay xlong xlist xchosen xplace ximg xreg xstore xout : Nat → Int32) (ymany ytend yend ymade yrounds yentry : Int32) (ylist yplace ysym yimg ystay ywide ymem yreg yout : Nat → Int32), u = (xbase, xstrip, xllen, xtend, xaend, xlcnt, xlrnd, xlinked, xblamed, xouts, xpc, xsteps, xran, xops, xA, xB, xcnt, xrole, xloc, xglo, xweak, xuse, xrep, xunit, xtgt, xstay, xlong, xlist, xchosen, xplace, ximg, xreg, xstore, xout) ∧ v = (xbase, xstrip, ymany, xblamed, ytend, yend, ymade, yrounds, yentry, xlinked, xran, xpc, xsteps, xouts, xops, xA, xB, xcnt, xrole, ylist, yplace, ysym, yimg, ystay, ywide, ymem, yreg, yout) ∧ ly_W xcnt ∧ ly_F xops xA xB ∧ (∃ b : Nat, b ≤ 100 ∧ xbase = nI b) ∧ ly_rn xouts xreg yreg xstore ymem xout yout ∧
    (¬ xlinked = 0 → ly_lk xllen ymany xtend ytend xaend yend xlcnt ymade xlrnd yrounds yentry xlist ylist xplace yplace ximg yimg xchosen ysym)
theorem i_up {k : Nat} {u : SX} {v : SY} (h : i_Rel k u v) : i_Rel (k + 5) u v := h
theorem i_vc0 : wpX_init (fun u => wpY_init (fun v => i_Rel 0 u v)) := by
  refine ⟨0, 0, 0, 0, 0, 0, 0, 0, (-1), 0, 0, 0, 0, (fun _ => 0), (fun _ => 0), (fun _ => 0), (fun _ => 0), (fun _ => 0), (fun _ => 0), (fun _ => 0), (fun _ => 0), (fun _ => 0), (fun _ => 0), (fun _ => 0), (fun _ => 0), (fun _ => 0), (fun _ => 0), (fun _ => 0), (fun _ => 0), (fun _ => 0), (fun _ => 0), (fun _ => 0), (fun _ => 0), (fun _ => 0), 0, 0, 0, 0, 0, 0, (fun _ => 0), (fun _ => 0), (fun _ => 0), (fun _ => 0), (fun _ => 0), (fun _ => 0), (fun _ => 0), (fun _ => 0), (fun _ => 0), rfl, rfl, ly_W0, ly_F0, ⟨0, by omega, rfl⟩, ⟨fun _ _ => rfl, fun _ _ => rfl, 0, by omega, rfl, fun k _ => (if_neg (by omega)).symm⟩, fun h => absurd rfl h⟩
/-! ranges -/
theorem ly_t0 : (0 : Int32).toInt = 0 := by decide
theorem ly_t1 : (1 : Int32).toInt = 1 := by decide
theorem ly_t2 : (2 : Int32).toInt = 2 := by decide
theorem ly_t5 : (5 : Int32).toInt = 5 := by decide
theorem ly_t6 : (6 : Int32).toInt = 6 := by decide
theorem ly_t7 : (7 : Int32).toInt = 7 := by decide
theorem ly_t8 : (8 : Int32).toInt = 8 := by decide
theorem ly_t15 : (15 : Int32).toInt = 15 := by decide
theorem ly_t16 : (16 : Int32).toInt = 16 := by decide
theorem ly_t23 : (23 : Int32).toInt = 23 := by decide
theorem ly_t24 : (24 : Int32).toInt = 24 := by decide
theorem ly_t64 : (64 : Int32).toInt = 64 := by decide
theorem ly_tm64 : (-64 : Int32).toInt = -64 := by decide
theorem ly_t100 : (100 : Int32).toInt = 100 := by decide
theorem ly_t255 : (255 : Int32).toInt = 255 := by decide
theorem ly_t256 : (256 : Int32).toInt = 256 := by decide
/-- X's four range tests and Y's one: outside, inside -/
theorem ly_rx0 {post : Int32 → Prop} {x : Int32} (N : Nat) (h : x < 0 ∨ nI N ≤ x) (hp : post 0) : (x < 0 → post 0) ∧ (¬ x < 0 → ((nI N ≤ x → post 0) ∧ (¬ nI N ≤ x → post 1))) := by
  rcases h with h | h
  · exact br_t h hp
  · exact br_c (fun _ => hp) (fun _ => br_t h hp)
theorem ly_rx1 {post : Int32 → Prop} {j : Nat} (N : Nat) (h : j < N) (hN : N < 2 ^ 31) (hp : post 1) : (nI j < 0 → post 0) ∧ (¬ nI j < 0 → ((nI N ≤ nI j → post 0) ∧ (¬ nI N ≤ nI j → post 1))) :=
  br_f (nI_pos (by omega)) (br_f (nI_ge h hN) hp)
theorem ly_ry0 {post : Int32 → Prop} {x : Int32} (N : Nat) (hN : N + 1 < 2 ^ 31) (h : x < 0 ∨ nI (N + 1) ≤ x) (hp : post 0) : (x < 0 → post 0) ∧ (¬ x < 0 → ((nI N < x → post 0) ∧ (¬ nI N < x → post 1))) := by
  rcases h with h | h
  · exact br_t h hp
  · refine br_c (fun _ => hp) (fun h0 => br_t ?_ hp)
    obtain ⟨j, hj, rfl⟩ := nI_of h0
    rw [nI_leI hN hj] at h
    exact nI_lt (by omega) hj
theorem ly_ry1 {post : Int32 → Prop} {j : Nat} (N : Nat) (h : j < N + 1) (hN : N < 2 ^ 31) (hp : post 1) : (nI j < 0 → post 0) ∧ (¬ nI j < 0 → ((nI N < nI j → post 0) ∧ (¬ nI N < nI j → post 1))) :=
  br_f (nI_pos (by omega)) (br_f (nI_nlt (by omega) hN) hp)
theorem ly_yi0 {post : Int32 → Prop} {x H : Int32} (N : Nat) (hN : N + 1 < 2 ^ 31) (h : x < 0 ∨ nI (N + 1) ≤ x) (hp : post 0) (hH : H = nI N := by rfl) : wpY_in post x 0 H := by
  subst hH
  exact ly_ry0 N hN h hp
theorem ly_yi1 {post : Int32 → Prop} {j : Nat} {H : Int32} (N : Nat) (h : j < N + 1) (hN : N < 2 ^ 31) (hp : post 1) (hH : H = nI N := by rfl) : wpY_in post (nI j) 0 H := by
  subst hH
  exact ly_ry1 N h hN hp
theorem ly_xmod0 {post : Int32 → Prop} {x : Int32} (h : x < 0 ∨ nI 6 ≤ x) (hp : post 0) : wpX_isModule post x := ly_rx0 6 h hp
theorem ly_xmod1 {post : Int32 → Prop} {j : Nat} (h : j < 6) (hp : post 1) : wpX_isModule post (nI j) := ly_rx1 6 h (by omega) hp
theorem ly_ymod0 {post : Int32 → Prop} {x : Int32} (h : x < 0 ∨ nI 6 ≤ x) (hp : post 0) : wpY_in post x 0 5 := ly_ry0 5 (by omega) h hp
theorem ly_ymod1 {post : Int32 → Prop} {j : Nat} (h : j < 6) (hp : post 1) : wpY_in post (nI j) 0 5 := ly_ry1 5 h (by omega) hp
theorem ly_xsym0 {post : Int32 → Prop} {x : Int32} (h : x < 0 ∨ nI 16 ≤ x) (hp : post 0) : wpX_isSymbol post x := ly_rx0 16 h hp
theorem ly_xsym1 {post : Int32 → Prop} {j : Nat} (h : j < 16) (hp : post 1) : wpX_isSymbol post (nI j) := ly_rx1 16 h (by omega) hp
theorem ly_ysym0 {post : Int32 → Prop} {x : Int32} (h : x < 0 ∨ nI 16 ≤ x) (hp : post 0) : wpY_in post x 0 15 := ly_ry0 15 (by omega) h hp
theorem ly_ysym1 {post : Int32 → Prop} {j : Nat} (h : j < 16) (hp : post 1) : wpY_in post (nI j) 0 15 := ly_ry1 15 h (by omega) hp
theorem ly_xadr0 {post : Int32 → Prop} {x : Int32} (h : x < 0 ∨ nI 256 ≤ x) (hp : post 0) : wpX_isAddress post x := ly_rx0 256 h hp
theorem ly_xadr1 {post : Int32 → Prop} {j : Nat} (h : j < 256) (hp : post 1) : wpX_isAddress post (nI j) := ly_rx1 256 h (by omega) hp
theorem ly_yadr0 {post : Int32 → Prop} {x : Int32} (h : x < 0 ∨ nI 256 ≤ x) (hp : post 0) : wpY_in post x 0 255 := ly_ry0 255 (by omega) h hp
theorem ly_yadr1 {post : Int32 → Prop} {j : Nat} (h : j < 256) (hp : post 1) : wpY_in post (nI j) 0 255 := ly_ry1 255 h (by omega) hp
theorem ly_ix3 (x : Int32) {n : Nat} (hn : n < 2 ^ 31) : (x < 0 ∨ nI n ≤ x) ∨ ∃ j : Nat, j < n ∧ x = nI j := by
  rcases pk_ix x hn with h | h | h
  · exact Or.inl (Or.inl h)
  · exact Or.inl (Or.inr h)
  · exact Or.inr h
end
section
/-! item's ranges: X's switch and Y's tests -/
def ly_ok (op : Nat) (a b : Int) : Prop :=
  (op = 0 → 0 ≤ a ∧ a ≤ 15 ∧ 0 ≤ b ∧ b ≤ 2) ∧ ((op = 1 ∨ op = 13) → 0 ≤ a ∧ a ≤ 7) ∧ ((2 ≤ op ∧ op ≤ 7) → 0 ≤ a ∧ a ≤ 7 ∧ 0 ≤ b ∧ b ≤ 7) ∧
  ((op = 8 ∨ op = 10) → 0 ≤ b ∧ b ≤ 15) ∧ ((op = 9 ∨ op = 12) → 0 ≤ a ∧ a ≤ 7 ∧ 0 ≤ b ∧ b ≤ 15) ∧ (op = 16 → 0 ≤ a ∧ a ≤ 15 ∧ -64 ≤ b ∧ b ≤ 64) ∧
  (op = 17 → 0 ≤ a ∧ a ≤ 16) ∧ (op = 18 → 2 ≤ a ∧ a ≤ 8) ∧ (op = 19 → 0 ≤ a ∧ a ≤ 1)
theorem ly_toIn {x : Int32} {a b : Nat} (hb : b < 2 ^ 31) (h1 : (a : Int) ≤ x.toInt) (h2 : x.toInt ≤ b) : ly_in x a b := by
  obtain ⟨j, hj, rfl⟩ : ∃ j : Nat, j < 2 ^ 31 ∧ x = nI j := by
    apply nI_of
    rw [Int32.lt_iff_toInt_lt, ly_t0]
    omega
  rw [nI_toInt hj] at h1 h2
  exact ⟨j, by omega, by omega, rfl⟩
theorem ly_ok_ft {op : Nat} {a b : Int32} (hop : op ≤ 19) (h : ly_ok op a.toInt b.toInt) : ly_ft (nI op) a b := by
  obtain ⟨h0, h1, h2, h3, h4, h5, h6, h7, h8⟩ := h
  refine ⟨op, hop, rfl, fun e => ?_, fun e => ?_, fun e => ?_, fun e => ?_, fun e => ?_, fun e => ?_⟩
  · have := h0 e; exact ⟨ly_toIn (by omega) (by omega) (by omega), ly_toIn (by omega) (by omega) (by omega)⟩
  · have := h5 e; exact ly_toIn (by omega) (by omega) (by omega)
  · have := h6 e; exact ly_toIn (by omega) (by omega) (by omega)
  · have := h7 e; exact ly_toIn (by omega) (by omega) (by omega)
  · have := h8 e; exact ly_toIn (by omega) (by omega) (by omega)
  · have : 0 ≤ b.toInt ∧ b.toInt ≤ 15 := by
      rcases e with e | e | e | e
      · exact h3 (Or.inl e)
      · exact (h4 (Or.inl e)).2.2
      · exact h3 (Or.inr e)
      · exact (h4 (Or.inr e)).2.2
    exact ly_toIn (by omega) (by omega) (by omega)
theorem ly_xf0 {post : Int32 → Prop} {a b : Int32} (hp : ∀ r : Int32, (r = 0 ∨ r = 1) → (r = 1 ↔ ly_ok 0 a.toInt b.toInt) → post r) : wpX_operandsFit post (nI 0) a b := by
  unfold wpX_operandsFit
  iterate 25 (first | refine br_t (by decide) ?_ | refine br_f (by decide) ?_ | skip)
  try simp only [wpX_isSymbol]
  repeat' (first | refine br_t (by decide) ?_ | refine br_f (by decide) ?_ | apply And.intro | intro _)
  all_goals first
    | decide
    | (exfalso; exact (by assumption : ¬ True) trivial)
    | (refine hp 0 (Or.inl rfl) (iff_of_false (by decide) (fun hh => ?_)); clear hp; simp only [ly_ok, Int32.lt_iff_toInt_lt, Int32.le_iff_toInt_le, ← Int32.toInt_inj, true_imp_iff, true_or, or_true, ly_t0, ly_t1, ly_t2, ly_t7, ly_t8, ly_t15, ly_t16, ly_t64, ly_tm64] at * <;> omega)
    | (refine hp 1 (Or.inr rfl) (iff_of_true rfl ?_); clear hp; simp only [ly_ok, Int32.lt_iff_toInt_lt, Int32.le_iff_toInt_le, ← Int32.toInt_inj, true_imp_iff, true_or, or_true, ly_t0, ly_t1, ly_t2, ly_t7, ly_t8, ly_t15, ly_t16, ly_t64, ly_tm64] at * <;> omega)
    | (exfalso; clear hp; simp only [ly_ok, Int32.lt_iff_toInt_lt, Int32.le_iff_toInt_le, ← Int32.toInt_inj, true_imp_iff, true_or, or_true, ly_t0, ly_t1, ly_t2, ly_t7, ly_t8, ly_t15, ly_t16, ly_t64, ly_tm64] at * <;> omega)

theorem ly_xf1 {post : Int32 → Prop} {a b : Int32} (hp : ∀ r : Int32, (r = 0 ∨ r = 1) → (r = 1 ↔ ly_ok 1 a.toInt b.toInt) → post r) : wpX_operandsFit post (nI 1) a b := by
  unfold wpX_operandsFit
  iterate 25 (first | refine br_t (by decide) ?_ | refine br_f (by decide) ?_ | skip)
  try simp only [wX_operandsFit_118, wpX_isRegister]
  repeat' (first | refine br_t (by decide) ?_ | refine br_f (by decide) ?_ | apply And.intro | intro _)
  all_goals first
    | decide
    | (exfalso; exact (by assumption : ¬ True) trivial)
    | (refine hp 0 (Or.inl rfl) (iff_of_false (by decide) (fun hh => ?_)); clear hp; simp only [ly_ok, Int32.lt_iff_toInt_lt, Int32.le_iff_toInt_le, ← Int32.toInt_inj, true_imp_iff, true_or, or_true, ly_t0, ly_t1, ly_t2, ly_t7, ly_t8, ly_t15, ly_t16, ly_t64, ly_tm64] at * <;> omega)
    | (refine hp 1 (Or.inr rfl) (iff_of_true rfl ?_); clear hp; simp only [ly_ok, Int32.lt_iff_toInt_lt, Int32.le_iff_toInt_le, ← Int32.toInt_inj, true_imp_iff, true_or, or_true, ly_t0, ly_t1, ly_t2, ly_t7, ly_t8, ly_t15, ly_t16, ly_t64, ly_tm64] at * <;> omega)
    | (exfalso; clear hp; simp only [ly_ok, Int32.lt_iff_toInt_lt, Int32.le_iff_toInt_le, ← Int32.toInt_inj, true_imp_iff, true_or, or_true, ly_t0, ly_t1, ly_t2, ly_t7, ly_t8, ly_t15, ly_t16, ly_t64, ly_tm64] at * <;> omega)

theorem ly_xf2 {post : Int32 → Prop} {a b : Int32} (hp : ∀ r : Int32, (r = 0 ∨ r = 1) → (r = 1 ↔ ly_ok 2 a.toInt b.toInt) → post r) : wpX_operandsFit post (nI 2) a b := by
  unfold wpX_operandsFit
  iterate 25 (first | refine br_t (by decide) ?_ | refine br_f (by decide) ?_ | skip)
  try simp only [wX_operandsFit_123, wpX_isRegister]
  repeat' (first | refine br_t (by decide) ?_ | refine br_f (by decide) ?_ | apply And.intro | intro _)
  all_goals first
    | decide
    | (exfalso; exact (by assumption : ¬ True) trivial)
    | (refine hp 0 (Or.inl rfl) (iff_of_false (by decide) (fun hh => ?_)); clear hp; simp only [ly_ok, Int32.lt_iff_toInt_lt, Int32.le_iff_toInt_le, ← Int32.toInt_inj, true_imp_iff, true_or, or_true, ly_t0, ly_t1, ly_t2, ly_t7, ly_t8, ly_t15, ly_t16, ly_t64, ly_tm64] at * <;> omega)
    | (refine hp 1 (Or.inr rfl) (iff_of_true rfl ?_); clear hp; simp only [ly_ok, Int32.lt_iff_toInt_lt, Int32.le_iff_toInt_le, ← Int32.toInt_inj, true_imp_iff, true_or, or_true, ly_t0, ly_t1, ly_t2, ly_t7, ly_t8, ly_t15, ly_t16, ly_t64, ly_tm64] at * <;> omega)
    | (exfalso; clear hp; simp only [ly_ok, Int32.lt_iff_toInt_lt, Int32.le_iff_toInt_le, ← Int32.toInt_inj, true_imp_iff, true_or, or_true, ly_t0, ly_t1, ly_t2, ly_t7, ly_t8, ly_t15, ly_t16, ly_t64, ly_tm64] at * <;> omega)

theorem ly_xf3 {post : Int32 → Prop} {a b : Int32} (hp : ∀ r : Int32, (r = 0 ∨ r = 1) → (r = 1 ↔ ly_ok 3 a.toInt b.toInt) → post r) : wpX_operandsFit post (nI 3) a b := by
  unfold wpX_operandsFit
  iterate 25 (first | refine br_t (by decide) ?_ | refine br_f (by decide) ?_ | skip)
  try simp only [wX_operandsFit_123, wpX_isRegister]
  repeat' (first | refine br_t (by decide) ?_ | refine br_f (by decide) ?_ | apply And.intro | intro _)
  all_goals first
    | decide
    | (exfalso; exact (by assumption : ¬ True) trivial)
    | (refine hp 0 (Or.inl rfl) (iff_of_false (by decide) (fun hh => ?_)); clear hp; simp only [ly_ok, Int32.lt_iff_toInt_lt, Int32.le_iff_toInt_le, ← Int32.toInt_inj, true_imp_iff, true_or, or_true, ly_t0, ly_t1, ly_t2, ly_t7, ly_t8, ly_t15, ly_t16, ly_t64, ly_tm64] at * <;> omega)
    | (refine hp 1 (Or.inr rfl) (iff_of_true rfl ?_); clear hp; simp only [ly_ok, Int32.lt_iff_toInt_lt, Int32.le_iff_toInt_le, ← Int32.toInt_inj, true_imp_iff, true_or, or_true, ly_t0, ly_t1, ly_t2, ly_t7, ly_t8, ly_t15, ly_t16, ly_t64, ly_tm64] at * <;> omega)
    | (exfalso; clear hp; simp only [ly_ok, Int32.lt_iff_toInt_lt, Int32.le_iff_toInt_le, ← Int32.toInt_inj, true_imp_iff, true_or, or_true, ly_t0, ly_t1, ly_t2, ly_t7, ly_t8, ly_t15, ly_t16, ly_t64, ly_tm64] at * <;> omega)

theorem ly_xf4 {post : Int32 → Prop} {a b : Int32} (hp : ∀ r : Int32, (r = 0 ∨ r = 1) → (r = 1 ↔ ly_ok 4 a.toInt b.toInt) → post r) : wpX_operandsFit post (nI 4) a b := by
  unfold wpX_operandsFit
  iterate 25 (first | refine br_t (by decide) ?_ | refine br_f (by decide) ?_ | skip)
  try simp only [wX_operandsFit_123, wpX_isRegister]
  repeat' (first | refine br_t (by decide) ?_ | refine br_f (by decide) ?_ | apply And.intro | intro _)
  all_goals first
    | decide
    | (exfalso; exact (by assumption : ¬ True) trivial)
    | (refine hp 0 (Or.inl rfl) (iff_of_false (by decide) (fun hh => ?_)); clear hp; simp only [ly_ok, Int32.lt_iff_toInt_lt, Int32.le_iff_toInt_le, ← Int32.toInt_inj, true_imp_iff, true_or, or_true, ly_t0, ly_t1, ly_t2, ly_t7, ly_t8, ly_t15, ly_t16, ly_t64, ly_tm64] at * <;> omega)
    | (refine hp 1 (Or.inr rfl) (iff_of_true rfl ?_); clear hp; simp only [ly_ok, Int32.lt_iff_toInt_lt, Int32.le_iff_toInt_le, ← Int32.toInt_inj, true_imp_iff, true_or, or_true, ly_t0, ly_t1, ly_t2, ly_t7, ly_t8, ly_t15, ly_t16, ly_t64, ly_tm64] at * <;> omega)
    | (exfalso; clear hp; simp only [ly_ok, Int32.lt_iff_toInt_lt, Int32.le_iff_toInt_le, ← Int32.toInt_inj, true_imp_iff, true_or, or_true, ly_t0, ly_t1, ly_t2, ly_t7, ly_t8, ly_t15, ly_t16, ly_t64, ly_tm64] at * <;> omega)

theorem ly_xf5 {post : Int32 → Prop} {a b : Int32} (hp : ∀ r : Int32, (r = 0 ∨ r = 1) → (r = 1 ↔ ly_ok 5 a.toInt b.toInt) → post r) : wpX_operandsFit post (nI 5) a b := by
  unfold wpX_operandsFit
  iterate 25 (first | refine br_t (by decide) ?_ | refine br_f (by decide) ?_ | skip)
  try simp only [wX_operandsFit_123, wpX_isRegister]
  repeat' (first | refine br_t (by decide) ?_ | refine br_f (by decide) ?_ | apply And.intro | intro _)
  all_goals first
    | decide
    | (exfalso; exact (by assumption : ¬ True) trivial)
    | (refine hp 0 (Or.inl rfl) (iff_of_false (by decide) (fun hh => ?_)); clear hp; simp only [ly_ok, Int32.lt_iff_toInt_lt, Int32.le_iff_toInt_le, ← Int32.toInt_inj, true_imp_iff, true_or, or_true, ly_t0, ly_t1, ly_t2, ly_t7, ly_t8, ly_t15, ly_t16, ly_t64, ly_tm64] at * <;> omega)
    | (refine hp 1 (Or.inr rfl) (iff_of_true rfl ?_); clear hp; simp only [ly_ok, Int32.lt_iff_toInt_lt, Int32.le_iff_toInt_le, ← Int32.toInt_inj, true_imp_iff, true_or, or_true, ly_t0, ly_t1, ly_t2, ly_t7, ly_t8, ly_t15, ly_t16, ly_t64, ly_tm64] at * <;> omega)
    | (exfalso; clear hp; simp only [ly_ok, Int32.lt_iff_toInt_lt, Int32.le_iff_toInt_le, ← Int32.toInt_inj, true_imp_iff, true_or, or_true, ly_t0, ly_t1, ly_t2, ly_t7, ly_t8, ly_t15, ly_t16, ly_t64, ly_tm64] at * <;> omega)

theorem ly_xf6 {post : Int32 → Prop} {a b : Int32} (hp : ∀ r : Int32, (r = 0 ∨ r = 1) → (r = 1 ↔ ly_ok 6 a.toInt b.toInt) → post r) : wpX_operandsFit post (nI 6) a b := by
  unfold wpX_operandsFit
  iterate 25 (first | refine br_t (by decide) ?_ | refine br_f (by decide) ?_ | skip)
  try simp only [wX_operandsFit_123, wpX_isRegister]
  repeat' (first | refine br_t (by decide) ?_ | refine br_f (by decide) ?_ | apply And.intro | intro _)
  all_goals first
    | decide
    | (exfalso; exact (by assumption : ¬ True) trivial)
    | (refine hp 0 (Or.inl rfl) (iff_of_false (by decide) (fun hh => ?_)); clear hp; simp only [ly_ok, Int32.lt_iff_toInt_lt, Int32.le_iff_toInt_le, ← Int32.toInt_inj, true_imp_iff, true_or, or_true, ly_t0, ly_t1, ly_t2, ly_t7, ly_t8, ly_t15, ly_t16, ly_t64, ly_tm64] at * <;> omega)
    | (refine hp 1 (Or.inr rfl) (iff_of_true rfl ?_); clear hp; simp only [ly_ok, Int32.lt_iff_toInt_lt, Int32.le_iff_toInt_le, ← Int32.toInt_inj, true_imp_iff, true_or, or_true, ly_t0, ly_t1, ly_t2, ly_t7, ly_t8, ly_t15, ly_t16, ly_t64, ly_tm64] at * <;> omega)
    | (exfalso; clear hp; simp only [ly_ok, Int32.lt_iff_toInt_lt, Int32.le_iff_toInt_le, ← Int32.toInt_inj, true_imp_iff, true_or, or_true, ly_t0, ly_t1, ly_t2, ly_t7, ly_t8, ly_t15, ly_t16, ly_t64, ly_tm64] at * <;> omega)

theorem ly_xf7 {post : Int32 → Prop} {a b : Int32} (hp : ∀ r : Int32, (r = 0 ∨ r = 1) → (r = 1 ↔ ly_ok 7 a.toInt b.toInt) → post r) : wpX_operandsFit post (nI 7) a b := by
  unfold wpX_operandsFit
  iterate 25 (first | refine br_t (by decide) ?_ | refine br_f (by decide) ?_ | skip)
  try simp only [wX_operandsFit_123, wpX_isRegister]
  repeat' (first | refine br_t (by decide) ?_ | refine br_f (by decide) ?_ | apply And.intro | intro _)
  all_goals first
    | decide
    | (exfalso; exact (by assumption : ¬ True) trivial)
    | (refine hp 0 (Or.inl rfl) (iff_of_false (by decide) (fun hh => ?_)); clear hp; simp only [ly_ok, Int32.lt_iff_toInt_lt, Int32.le_iff_toInt_le, ← Int32.toInt_inj, true_imp_iff, true_or, or_true, ly_t0, ly_t1, ly_t2, ly_t7, ly_t8, ly_t15, ly_t16, ly_t64, ly_tm64] at * <;> omega)
    | (refine hp 1 (Or.inr rfl) (iff_of_true rfl ?_); clear hp; simp only [ly_ok, Int32.lt_iff_toInt_lt, Int32.le_iff_toInt_le, ← Int32.toInt_inj, true_imp_iff, true_or, or_true, ly_t0, ly_t1, ly_t2, ly_t7, ly_t8, ly_t15, ly_t16, ly_t64, ly_tm64] at * <;> omega)
    | (exfalso; clear hp; simp only [ly_ok, Int32.lt_iff_toInt_lt, Int32.le_iff_toInt_le, ← Int32.toInt_inj, true_imp_iff, true_or, or_true, ly_t0, ly_t1, ly_t2, ly_t7, ly_t8, ly_t15, ly_t16, ly_t64, ly_tm64] at * <;> omega)

theorem ly_xf8 {post : Int32 → Prop} {a b : Int32} (hp : ∀ r : Int32, (r = 0 ∨ r = 1) → (r = 1 ↔ ly_ok 8 a.toInt b.toInt) → post r) : wpX_operandsFit post (nI 8) a b := by
  unfold wpX_operandsFit
  iterate 25 (first | refine br_t (by decide) ?_ | refine br_f (by decide) ?_ | skip)
  try simp only [wX_operandsFit_143, wpX_isSymbol]
  repeat' (first | refine br_t (by decide) ?_ | refine br_f (by decide) ?_ | apply And.intro | intro _)
  all_goals first
    | decide
    | (exfalso; exact (by assumption : ¬ True) trivial)
    | (refine hp 0 (Or.inl rfl) (iff_of_false (by decide) (fun hh => ?_)); clear hp; simp only [ly_ok, Int32.lt_iff_toInt_lt, Int32.le_iff_toInt_le, ← Int32.toInt_inj, true_imp_iff, true_or, or_true, ly_t0, ly_t1, ly_t2, ly_t7, ly_t8, ly_t15, ly_t16, ly_t64, ly_tm64] at * <;> omega)
    | (refine hp 1 (Or.inr rfl) (iff_of_true rfl ?_); clear hp; simp only [ly_ok, Int32.lt_iff_toInt_lt, Int32.le_iff_toInt_le, ← Int32.toInt_inj, true_imp_iff, true_or, or_true, ly_t0, ly_t1, ly_t2, ly_t7, ly_t8, ly_t15, ly_t16, ly_t64, ly_tm64] at * <;> omega)
    | (exfalso; clear hp; simp only [ly_ok, Int32.lt_iff_toInt_lt, Int32.le_iff_toInt_le, ← Int32.toInt_inj, true_imp_iff, true_or, or_true, ly_t0, ly_t1, ly_t2, ly_t7, ly_t8, ly_t15, ly_t16, ly_t64, ly_tm64] at * <;> omega)

theorem ly_xf9 {post : Int32 → Prop} {a b : Int32} (hp : ∀ r : Int32, (r = 0 ∨ r = 1) → (r = 1 ↔ ly_ok 9 a.toInt b.toInt) → post r) : wpX_operandsFit post (nI 9) a b := by
  unfold wpX_operandsFit
  iterate 25 (first | refine br_t (by decide) ?_ | refine br_f (by decide) ?_ | skip)
  try simp only [wX_operandsFit_148, wpX_isRegister, wpX_isSymbol]
  repeat' (first | refine br_t (by decide) ?_ | refine br_f (by decide) ?_ | apply And.intro | intro _)
  all_goals first
    | decide
    | (exfalso; exact (by assumption : ¬ True) trivial)
    | (refine hp 0 (Or.inl rfl) (iff_of_false (by decide) (fun hh => ?_)); clear hp; simp only [ly_ok, Int32.lt_iff_toInt_lt, Int32.le_iff_toInt_le, ← Int32.toInt_inj, true_imp_iff, true_or, or_true, ly_t0, ly_t1, ly_t2, ly_t7, ly_t8, ly_t15, ly_t16, ly_t64, ly_tm64] at * <;> omega)
    | (refine hp 1 (Or.inr rfl) (iff_of_true rfl ?_); clear hp; simp only [ly_ok, Int32.lt_iff_toInt_lt, Int32.le_iff_toInt_le, ← Int32.toInt_inj, true_imp_iff, true_or, or_true, ly_t0, ly_t1, ly_t2, ly_t7, ly_t8, ly_t15, ly_t16, ly_t64, ly_tm64] at * <;> omega)
    | (exfalso; clear hp; simp only [ly_ok, Int32.lt_iff_toInt_lt, Int32.le_iff_toInt_le, ← Int32.toInt_inj, true_imp_iff, true_or, or_true, ly_t0, ly_t1, ly_t2, ly_t7, ly_t8, ly_t15, ly_t16, ly_t64, ly_tm64] at * <;> omega)

theorem ly_xf10 {post : Int32 → Prop} {a b : Int32} (hp : ∀ r : Int32, (r = 0 ∨ r = 1) → (r = 1 ↔ ly_ok 10 a.toInt b.toInt) → post r) : wpX_operandsFit post (nI 10) a b := by
  unfold wpX_operandsFit
  iterate 25 (first | refine br_t (by decide) ?_ | refine br_f (by decide) ?_ | skip)
  try simp only [wX_operandsFit_143, wpX_isSymbol]
  repeat' (first | refine br_t (by decide) ?_ | refine br_f (by decide) ?_ | apply And.intro | intro _)
  all_goals first
    | decide
    | (exfalso; exact (by assumption : ¬ True) trivial)
    | (refine hp 0 (Or.inl rfl) (iff_of_false (by decide) (fun hh => ?_)); clear hp; simp only [ly_ok, Int32.lt_iff_toInt_lt, Int32.le_iff_toInt_le, ← Int32.toInt_inj, true_imp_iff, true_or, or_true, ly_t0, ly_t1, ly_t2, ly_t7, ly_t8, ly_t15, ly_t16, ly_t64, ly_tm64] at * <;> omega)
    | (refine hp 1 (Or.inr rfl) (iff_of_true rfl ?_); clear hp; simp only [ly_ok, Int32.lt_iff_toInt_lt, Int32.le_iff_toInt_le, ← Int32.toInt_inj, true_imp_iff, true_or, or_true, ly_t0, ly_t1, ly_t2, ly_t7, ly_t8, ly_t15, ly_t16, ly_t64, ly_tm64] at * <;> omega)
    | (exfalso; clear hp; simp only [ly_ok, Int32.lt_iff_toInt_lt, Int32.le_iff_toInt_le, ← Int32.toInt_inj, true_imp_iff, true_or, or_true, ly_t0, ly_t1, ly_t2, ly_t7, ly_t8, ly_t15, ly_t16, ly_t64, ly_tm64] at * <;> omega)

theorem ly_xf11 {post : Int32 → Prop} {a b : Int32} (hp : ∀ r : Int32, (r = 0 ∨ r = 1) → (r = 1 ↔ ly_ok 11 a.toInt b.toInt) → post r) : wpX_operandsFit post (nI 11) a b := by
  unfold wpX_operandsFit
  iterate 25 (first | refine br_t (by decide) ?_ | refine br_f (by decide) ?_ | skip)
  try simp only [ly_ok]
  repeat' (first | refine br_t (by decide) ?_ | refine br_f (by decide) ?_ | apply And.intro | intro _)
  all_goals first
    | decide
    | (exfalso; exact (by assumption : ¬ True) trivial)
    | (refine hp 0 (Or.inl rfl) (iff_of_false (by decide) (fun hh => ?_)); clear hp; simp only [ly_ok, Int32.lt_iff_toInt_lt, Int32.le_iff_toInt_le, ← Int32.toInt_inj, true_imp_iff, true_or, or_true, ly_t0, ly_t1, ly_t2, ly_t7, ly_t8, ly_t15, ly_t16, ly_t64, ly_tm64] at * <;> omega)
    | (refine hp 1 (Or.inr rfl) (iff_of_true rfl ?_); clear hp; simp only [ly_ok, Int32.lt_iff_toInt_lt, Int32.le_iff_toInt_le, ← Int32.toInt_inj, true_imp_iff, true_or, or_true, ly_t0, ly_t1, ly_t2, ly_t7, ly_t8, ly_t15, ly_t16, ly_t64, ly_tm64] at * <;> omega)
    | (exfalso; clear hp; simp only [ly_ok, Int32.lt_iff_toInt_lt, Int32.le_iff_toInt_le, ← Int32.toInt_inj, true_imp_iff, true_or, or_true, ly_t0, ly_t1, ly_t2, ly_t7, ly_t8, ly_t15, ly_t16, ly_t64, ly_tm64] at * <;> omega)

theorem ly_xf12 {post : Int32 → Prop} {a b : Int32} (hp : ∀ r : Int32, (r = 0 ∨ r = 1) → (r = 1 ↔ ly_ok 12 a.toInt b.toInt) → post r) : wpX_operandsFit post (nI 12) a b := by
  unfold wpX_operandsFit
  iterate 25 (first | refine br_t (by decide) ?_ | refine br_f (by decide) ?_ | skip)
  try simp only [wX_operandsFit_148, wpX_isRegister, wpX_isSymbol]
  repeat' (first | refine br_t (by decide) ?_ | refine br_f (by decide) ?_ | apply And.intro | intro _)
  all_goals first
    | decide
    | (exfalso; exact (by assumption : ¬ True) trivial)
    | (refine hp 0 (Or.inl rfl) (iff_of_false (by decide) (fun hh => ?_)); clear hp; simp only [ly_ok, Int32.lt_iff_toInt_lt, Int32.le_iff_toInt_le, ← Int32.toInt_inj, true_imp_iff, true_or, or_true, ly_t0, ly_t1, ly_t2, ly_t7, ly_t8, ly_t15, ly_t16, ly_t64, ly_tm64] at * <;> omega)
    | (refine hp 1 (Or.inr rfl) (iff_of_true rfl ?_); clear hp; simp only [ly_ok, Int32.lt_iff_toInt_lt, Int32.le_iff_toInt_le, ← Int32.toInt_inj, true_imp_iff, true_or, or_true, ly_t0, ly_t1, ly_t2, ly_t7, ly_t8, ly_t15, ly_t16, ly_t64, ly_tm64] at * <;> omega)
    | (exfalso; clear hp; simp only [ly_ok, Int32.lt_iff_toInt_lt, Int32.le_iff_toInt_le, ← Int32.toInt_inj, true_imp_iff, true_or, or_true, ly_t0, ly_t1, ly_t2, ly_t7, ly_t8, ly_t15, ly_t16, ly_t64, ly_tm64] at * <;> omega)

theorem ly_xf13 {post : Int32 → Prop} {a b : Int32} (hp : ∀ r : Int32, (r = 0 ∨ r = 1) → (r = 1 ↔ ly_ok 13 a.toInt b.toInt) → post r) : wpX_operandsFit post (nI 13) a b := by
  unfold wpX_operandsFit
  iterate 25 (first | refine br_t (by decide) ?_ | refine br_f (by decide) ?_ | skip)
  try simp only [wX_operandsFit_118, wpX_isRegister]
  repeat' (first | refine br_t (by decide) ?_ | refine br_f (by decide) ?_ | apply And.intro | intro _)
  all_goals first
    | decide
    | (exfalso; exact (by assumption : ¬ True) trivial)
    | (refine hp 0 (Or.inl rfl) (iff_of_false (by decide) (fun hh => ?_)); clear hp; simp only [ly_ok, Int32.lt_iff_toInt_lt, Int32.le_iff_toInt_le, ← Int32.toInt_inj, true_imp_iff, true_or, or_true, ly_t0, ly_t1, ly_t2, ly_t7, ly_t8, ly_t15, ly_t16, ly_t64, ly_tm64] at * <;> omega)
    | (refine hp 1 (Or.inr rfl) (iff_of_true rfl ?_); clear hp; simp only [ly_ok, Int32.lt_iff_toInt_lt, Int32.le_iff_toInt_le, ← Int32.toInt_inj, true_imp_iff, true_or, or_true, ly_t0, ly_t1, ly_t2, ly_t7, ly_t8, ly_t15, ly_t16, ly_t64, ly_tm64] at * <;> omega)
    | (exfalso; clear hp; simp only [ly_ok, Int32.lt_iff_toInt_lt, Int32.le_iff_toInt_le, ← Int32.toInt_inj, true_imp_iff, true_or, or_true, ly_t0, ly_t1, ly_t2, ly_t7, ly_t8, ly_t15, ly_t16, ly_t64, ly_tm64] at * <;> omega)

theorem ly_xf14 {post : Int32 → Prop} {a b : Int32} (hp : ∀ r : Int32, (r = 0 ∨ r = 1) → (r = 1 ↔ ly_ok 14 a.toInt b.toInt) → post r) : wpX_operandsFit post (nI 14) a b := by
  unfold wpX_operandsFit
  iterate 25 (first | refine br_t (by decide) ?_ | refine br_f (by decide) ?_ | skip)
  try simp only [ly_ok]
  repeat' (first | refine br_t (by decide) ?_ | refine br_f (by decide) ?_ | apply And.intro | intro _)
  all_goals first
    | decide
    | (exfalso; exact (by assumption : ¬ True) trivial)
    | (refine hp 0 (Or.inl rfl) (iff_of_false (by decide) (fun hh => ?_)); clear hp; simp only [ly_ok, Int32.lt_iff_toInt_lt, Int32.le_iff_toInt_le, ← Int32.toInt_inj, true_imp_iff, true_or, or_true, ly_t0, ly_t1, ly_t2, ly_t7, ly_t8, ly_t15, ly_t16, ly_t64, ly_tm64] at * <;> omega)
    | (refine hp 1 (Or.inr rfl) (iff_of_true rfl ?_); clear hp; simp only [ly_ok, Int32.lt_iff_toInt_lt, Int32.le_iff_toInt_le, ← Int32.toInt_inj, true_imp_iff, true_or, or_true, ly_t0, ly_t1, ly_t2, ly_t7, ly_t8, ly_t15, ly_t16, ly_t64, ly_tm64] at * <;> omega)
    | (exfalso; clear hp; simp only [ly_ok, Int32.lt_iff_toInt_lt, Int32.le_iff_toInt_le, ← Int32.toInt_inj, true_imp_iff, true_or, or_true, ly_t0, ly_t1, ly_t2, ly_t7, ly_t8, ly_t15, ly_t16, ly_t64, ly_tm64] at * <;> omega)

theorem ly_xf15 {post : Int32 → Prop} {a b : Int32} (hp : ∀ r : Int32, (r = 0 ∨ r = 1) → (r = 1 ↔ ly_ok 15 a.toInt b.toInt) → post r) : wpX_operandsFit post (nI 15) a b := by
  unfold wpX_operandsFit
  iterate 25 (first | refine br_t (by decide) ?_ | refine br_f (by decide) ?_ | skip)
  try simp only [ly_ok]
  repeat' (first | refine br_t (by decide) ?_ | refine br_f (by decide) ?_ | apply And.intro | intro _)
  all_goals first
    | decide
    | (exfalso; exact (by assumption : ¬ True) trivial)
    | (refine hp 0 (Or.inl rfl) (iff_of_false (by decide) (fun hh => ?_)); clear hp; simp only [ly_ok, Int32.lt_iff_toInt_lt, Int32.le_iff_toInt_le, ← Int32.toInt_inj, true_imp_iff, true_or, or_true, ly_t0, ly_t1, ly_t2, ly_t7, ly_t8, ly_t15, ly_t16, ly_t64, ly_tm64] at * <;> omega)
    | (refine hp 1 (Or.inr rfl) (iff_of_true rfl ?_); clear hp; simp only [ly_ok, Int32.lt_iff_toInt_lt, Int32.le_iff_toInt_le, ← Int32.toInt_inj, true_imp_iff, true_or, or_true, ly_t0, ly_t1, ly_t2, ly_t7, ly_t8, ly_t15, ly_t16, ly_t64, ly_tm64] at * <;> omega)
    | (exfalso; clear hp; simp only [ly_ok, Int32.lt_iff_toInt_lt, Int32.le_iff_toInt_le, ← Int32.toInt_inj, true_imp_iff, true_or, or_true, ly_t0, ly_t1, ly_t2, ly_t7, ly_t8, ly_t15, ly_t16, ly_t64, ly_tm64] at * <;> omega)

theorem ly_xf16 {post : Int32 → Prop} {a b : Int32} (hp : ∀ r : Int32, (r = 0 ∨ r = 1) → (r = 1 ↔ ly_ok 16 a.toInt b.toInt) → post r) : wpX_operandsFit post (nI 16) a b := by
  unfold wpX_operandsFit
  iterate 25 (first | refine br_t (by decide) ?_ | refine br_f (by decide) ?_ | skip)
  try simp only [wpX_isSymbol]
  repeat' (first | refine br_t (by decide) ?_ | refine br_f (by decide) ?_ | apply And.intro | intro _)
  all_goals first
    | decide
    | (exfalso; exact (by assumption : ¬ True) trivial)
    | (refine hp 0 (Or.inl rfl) (iff_of_false (by decide) (fun hh => ?_)); clear hp; simp only [ly_ok, Int32.lt_iff_toInt_lt, Int32.le_iff_toInt_le, ← Int32.toInt_inj, true_imp_iff, true_or, or_true, ly_t0, ly_t1, ly_t2, ly_t7, ly_t8, ly_t15, ly_t16, ly_t64, ly_tm64] at * <;> omega)
    | (refine hp 1 (Or.inr rfl) (iff_of_true rfl ?_); clear hp; simp only [ly_ok, Int32.lt_iff_toInt_lt, Int32.le_iff_toInt_le, ← Int32.toInt_inj, true_imp_iff, true_or, or_true, ly_t0, ly_t1, ly_t2, ly_t7, ly_t8, ly_t15, ly_t16, ly_t64, ly_tm64] at * <;> omega)
    | (exfalso; clear hp; simp only [ly_ok, Int32.lt_iff_toInt_lt, Int32.le_iff_toInt_le, ← Int32.toInt_inj, true_imp_iff, true_or, or_true, ly_t0, ly_t1, ly_t2, ly_t7, ly_t8, ly_t15, ly_t16, ly_t64, ly_tm64] at * <;> omega)

theorem ly_xf17 {post : Int32 → Prop} {a b : Int32} (hp : ∀ r : Int32, (r = 0 ∨ r = 1) → (r = 1 ↔ ly_ok 17 a.toInt b.toInt) → post r) : wpX_operandsFit post (nI 17) a b := by
  unfold wpX_operandsFit
  iterate 25 (first | refine br_t (by decide) ?_ | refine br_f (by decide) ?_ | skip)
  try simp only [ly_ok]
  repeat' (first | refine br_t (by decide) ?_ | refine br_f (by decide) ?_ | apply And.intro | intro _)
  all_goals first
    | decide
    | (exfalso; exact (by assumption : ¬ True) trivial)
    | (refine hp 0 (Or.inl rfl) (iff_of_false (by decide) (fun hh => ?_)); clear hp; simp only [ly_ok, Int32.lt_iff_toInt_lt, Int32.le_iff_toInt_le, ← Int32.toInt_inj, true_imp_iff, true_or, or_true, ly_t0, ly_t1, ly_t2, ly_t7, ly_t8, ly_t15, ly_t16, ly_t64, ly_tm64] at * <;> omega)
    | (refine hp 1 (Or.inr rfl) (iff_of_true rfl ?_); clear hp; simp only [ly_ok, Int32.lt_iff_toInt_lt, Int32.le_iff_toInt_le, ← Int32.toInt_inj, true_imp_iff, true_or, or_true, ly_t0, ly_t1, ly_t2, ly_t7, ly_t8, ly_t15, ly_t16, ly_t64, ly_tm64] at * <;> omega)
    | (exfalso; clear hp; simp only [ly_ok, Int32.lt_iff_toInt_lt, Int32.le_iff_toInt_le, ← Int32.toInt_inj, true_imp_iff, true_or, or_true, ly_t0, ly_t1, ly_t2, ly_t7, ly_t8, ly_t15, ly_t16, ly_t64, ly_tm64] at * <;> omega)

theorem ly_xf18 {post : Int32 → Prop} {a b : Int32} (hp : ∀ r : Int32, (r = 0 ∨ r = 1) → (r = 1 ↔ ly_ok 18 a.toInt b.toInt) → post r) : wpX_operandsFit post (nI 18) a b := by
  unfold wpX_operandsFit
  iterate 25 (first | refine br_t (by decide) ?_ | refine br_f (by decide) ?_ | skip)
  try simp only [ly_ok]
  repeat' (first | refine br_t (by decide) ?_ | refine br_f (by decide) ?_ | apply And.intro | intro _)
  all_goals first
    | decide
    | (exfalso; exact (by assumption : ¬ True) trivial)
    | (refine hp 0 (Or.inl rfl) (iff_of_false (by decide) (fun hh => ?_)); clear hp; simp only [ly_ok, Int32.lt_iff_toInt_lt, Int32.le_iff_toInt_le, ← Int32.toInt_inj, true_imp_iff, true_or, or_true, ly_t0, ly_t1, ly_t2, ly_t7, ly_t8, ly_t15, ly_t16, ly_t64, ly_tm64] at * <;> omega)
    | (refine hp 1 (Or.inr rfl) (iff_of_true rfl ?_); clear hp; simp only [ly_ok, Int32.lt_iff_toInt_lt, Int32.le_iff_toInt_le, ← Int32.toInt_inj, true_imp_iff, true_or, or_true, ly_t0, ly_t1, ly_t2, ly_t7, ly_t8, ly_t15, ly_t16, ly_t64, ly_tm64] at * <;> omega)
    | (exfalso; clear hp; simp only [ly_ok, Int32.lt_iff_toInt_lt, Int32.le_iff_toInt_le, ← Int32.toInt_inj, true_imp_iff, true_or, or_true, ly_t0, ly_t1, ly_t2, ly_t7, ly_t8, ly_t15, ly_t16, ly_t64, ly_tm64] at * <;> omega)

theorem ly_xf19 {post : Int32 → Prop} {a b : Int32} (hp : ∀ r : Int32, (r = 0 ∨ r = 1) → (r = 1 ↔ ly_ok 19 a.toInt b.toInt) → post r) : wpX_operandsFit post (nI 19) a b := by
  unfold wpX_operandsFit
  iterate 25 (first | refine br_t (by decide) ?_ | refine br_f (by decide) ?_ | skip)
  try simp only [ly_ok]
  repeat' (first | refine br_t (by decide) ?_ | refine br_f (by decide) ?_ | apply And.intro | intro _)
  all_goals first
    | decide
    | (exfalso; exact (by assumption : ¬ True) trivial)
    | (refine hp 0 (Or.inl rfl) (iff_of_false (by decide) (fun hh => ?_)); clear hp; simp only [ly_ok, Int32.lt_iff_toInt_lt, Int32.le_iff_toInt_le, ← Int32.toInt_inj, true_imp_iff, true_or, or_true, ly_t0, ly_t1, ly_t2, ly_t7, ly_t8, ly_t15, ly_t16, ly_t64, ly_tm64] at * <;> omega)
    | (refine hp 1 (Or.inr rfl) (iff_of_true rfl ?_); clear hp; simp only [ly_ok, Int32.lt_iff_toInt_lt, Int32.le_iff_toInt_le, ← Int32.toInt_inj, true_imp_iff, true_or, or_true, ly_t0, ly_t1, ly_t2, ly_t7, ly_t8, ly_t15, ly_t16, ly_t64, ly_tm64] at * <;> omega)
    | (exfalso; clear hp; simp only [ly_ok, Int32.lt_iff_toInt_lt, Int32.le_iff_toInt_le, ← Int32.toInt_inj, true_imp_iff, true_or, or_true, ly_t0, ly_t1, ly_t2, ly_t7, ly_t8, ly_t15, ly_t16, ly_t64, ly_tm64] at * <;> omega)

theorem ly_yf0 {post : Int32 → Prop} {a b : Int32} (hp : ∀ r : Int32, (r = 0 ∨ r = 1) → (r = 1 ↔ ly_ok 0 a.toInt b.toInt) → post r) : wpY_fits post (nI 0) a b := by
  unfold wpY_fits
  simp only [wpY_usesSymbol, wY_fits_185, wY_fits_163, wY_fits_148, wY_fits_143, wpY_in]
  iterate 40 (first | refine br_t (by decide) ?_ | refine br_f (by decide) ?_ | skip)
  repeat' (first | refine br_t (by decide) ?_ | refine br_f (by decide) ?_ | apply And.intro | intro _)
  all_goals first
    | decide
    | (exfalso; exact (by assumption : ¬ True) trivial)
    | (refine hp 0 (Or.inl rfl) (iff_of_false (by decide) (fun hh => ?_)); clear hp; simp only [ly_ok, Int32.lt_iff_toInt_lt, Int32.le_iff_toInt_le, ← Int32.toInt_inj, true_imp_iff, true_or, or_true, ly_t0, ly_t1, ly_t2, ly_t7, ly_t8, ly_t15, ly_t16, ly_t64, ly_tm64] at * <;> omega)
    | (refine hp 1 (Or.inr rfl) (iff_of_true rfl ?_); clear hp; simp only [ly_ok, Int32.lt_iff_toInt_lt, Int32.le_iff_toInt_le, ← Int32.toInt_inj, true_imp_iff, true_or, or_true, ly_t0, ly_t1, ly_t2, ly_t7, ly_t8, ly_t15, ly_t16, ly_t64, ly_tm64] at * <;> omega)
    | (exfalso; clear hp; simp only [ly_ok, Int32.lt_iff_toInt_lt, Int32.le_iff_toInt_le, ← Int32.toInt_inj, true_imp_iff, true_or, or_true, ly_t0, ly_t1, ly_t2, ly_t7, ly_t8, ly_t15, ly_t16, ly_t64, ly_tm64] at * <;> omega)

theorem ly_yf1 {post : Int32 → Prop} {a b : Int32} (hp : ∀ r : Int32, (r = 0 ∨ r = 1) → (r = 1 ↔ ly_ok 1 a.toInt b.toInt) → post r) : wpY_fits post (nI 1) a b := by
  unfold wpY_fits
  simp only [wpY_usesSymbol, wY_fits_185, wY_fits_163, wY_fits_148, wY_fits_143, wpY_in]
  iterate 40 (first | refine br_t (by decide) ?_ | refine br_f (by decide) ?_ | skip)
  repeat' (first | refine br_t (by decide) ?_ | refine br_f (by decide) ?_ | apply And.intro | intro _)
  all_goals first
    | decide
    | (exfalso; exact (by assumption : ¬ True) trivial)
    | (refine hp 0 (Or.inl rfl) (iff_of_false (by decide) (fun hh => ?_)); clear hp; simp only [ly_ok, Int32.lt_iff_toInt_lt, Int32.le_iff_toInt_le, ← Int32.toInt_inj, true_imp_iff, true_or, or_true, ly_t0, ly_t1, ly_t2, ly_t7, ly_t8, ly_t15, ly_t16, ly_t64, ly_tm64] at * <;> omega)
    | (refine hp 1 (Or.inr rfl) (iff_of_true rfl ?_); clear hp; simp only [ly_ok, Int32.lt_iff_toInt_lt, Int32.le_iff_toInt_le, ← Int32.toInt_inj, true_imp_iff, true_or, or_true, ly_t0, ly_t1, ly_t2, ly_t7, ly_t8, ly_t15, ly_t16, ly_t64, ly_tm64] at * <;> omega)
    | (exfalso; clear hp; simp only [ly_ok, Int32.lt_iff_toInt_lt, Int32.le_iff_toInt_le, ← Int32.toInt_inj, true_imp_iff, true_or, or_true, ly_t0, ly_t1, ly_t2, ly_t7, ly_t8, ly_t15, ly_t16, ly_t64, ly_tm64] at * <;> omega)

theorem ly_yf2 {post : Int32 → Prop} {a b : Int32} (hp : ∀ r : Int32, (r = 0 ∨ r = 1) → (r = 1 ↔ ly_ok 2 a.toInt b.toInt) → post r) : wpY_fits post (nI 2) a b := by
  unfold wpY_fits
  simp only [wpY_usesSymbol, wY_fits_185, wY_fits_163, wY_fits_148, wY_fits_143, wpY_in]
  iterate 40 (first | refine br_t (by decide) ?_ | refine br_f (by decide) ?_ | skip)
  repeat' (first | refine br_t (by decide) ?_ | refine br_f (by decide) ?_ | apply And.intro | intro _)
  all_goals first
    | decide
    | (exfalso; exact (by assumption : ¬ True) trivial)
    | (refine hp 0 (Or.inl rfl) (iff_of_false (by decide) (fun hh => ?_)); clear hp; simp only [ly_ok, Int32.lt_iff_toInt_lt, Int32.le_iff_toInt_le, ← Int32.toInt_inj, true_imp_iff, true_or, or_true, ly_t0, ly_t1, ly_t2, ly_t7, ly_t8, ly_t15, ly_t16, ly_t64, ly_tm64] at * <;> omega)
    | (refine hp 1 (Or.inr rfl) (iff_of_true rfl ?_); clear hp; simp only [ly_ok, Int32.lt_iff_toInt_lt, Int32.le_iff_toInt_le, ← Int32.toInt_inj, true_imp_iff, true_or, or_true, ly_t0, ly_t1, ly_t2, ly_t7, ly_t8, ly_t15, ly_t16, ly_t64, ly_tm64] at * <;> omega)
    | (exfalso; clear hp; simp only [ly_ok, Int32.lt_iff_toInt_lt, Int32.le_iff_toInt_le, ← Int32.toInt_inj, true_imp_iff, true_or, or_true, ly_t0, ly_t1, ly_t2, ly_t7, ly_t8, ly_t15, ly_t16, ly_t64, ly_tm64] at * <;> omega)

theorem ly_yf3 {post : Int32 → Prop} {a b : Int32} (hp : ∀ r : Int32, (r = 0 ∨ r = 1) → (r = 1 ↔ ly_ok 3 a.toInt b.toInt) → post r) : wpY_fits post (nI 3) a b := by
  unfold wpY_fits
  simp only [wpY_usesSymbol, wY_fits_185, wY_fits_163, wY_fits_148, wY_fits_143, wpY_in]
  iterate 40 (first | refine br_t (by decide) ?_ | refine br_f (by decide) ?_ | skip)
  repeat' (first | refine br_t (by decide) ?_ | refine br_f (by decide) ?_ | apply And.intro | intro _)
  all_goals first
    | decide
    | (exfalso; exact (by assumption : ¬ True) trivial)
    | (refine hp 0 (Or.inl rfl) (iff_of_false (by decide) (fun hh => ?_)); clear hp; simp only [ly_ok, Int32.lt_iff_toInt_lt, Int32.le_iff_toInt_le, ← Int32.toInt_inj, true_imp_iff, true_or, or_true, ly_t0, ly_t1, ly_t2, ly_t7, ly_t8, ly_t15, ly_t16, ly_t64, ly_tm64] at * <;> omega)
    | (refine hp 1 (Or.inr rfl) (iff_of_true rfl ?_); clear hp; simp only [ly_ok, Int32.lt_iff_toInt_lt, Int32.le_iff_toInt_le, ← Int32.toInt_inj, true_imp_iff, true_or, or_true, ly_t0, ly_t1, ly_t2, ly_t7, ly_t8, ly_t15, ly_t16, ly_t64, ly_tm64] at * <;> omega)
    | (exfalso; clear hp; simp only [ly_ok, Int32.lt_iff_toInt_lt, Int32.le_iff_toInt_le, ← Int32.toInt_inj, true_imp_iff, true_or, or_true, ly_t0, ly_t1, ly_t2, ly_t7, ly_t8, ly_t15, ly_t16, ly_t64, ly_tm64] at * <;> omega)

theorem ly_yf4 {post : Int32 → Prop} {a b : Int32} (hp : ∀ r : Int32, (r = 0 ∨ r = 1) → (r = 1 ↔ ly_ok 4 a.toInt b.toInt) → post r) : wpY_fits post (nI 4) a b := by
  unfold wpY_fits
  simp only [wpY_usesSymbol, wY_fits_185, wY_fits_163, wY_fits_148, wY_fits_143, wpY_in]
  iterate 40 (first | refine br_t (by decide) ?_ | refine br_f (by decide) ?_ | skip)
  repeat' (first | refine br_t (by decide) ?_ | refine br_f (by decide) ?_ | apply And.intro | intro _)
  all_goals first
    | decide
    | (exfalso; exact (by assumption : ¬ True) trivial)
    | (refine hp 0 (Or.inl rfl) (iff_of_false (by decide) (fun hh => ?_)); clear hp; simp only [ly_ok, Int32.lt_iff_toInt_lt, Int32.le_iff_toInt_le, ← Int32.toInt_inj, true_imp_iff, true_or, or_true, ly_t0, ly_t1, ly_t2, ly_t7, ly_t8, ly_t15, ly_t16, ly_t64, ly_tm64] at * <;> omega)
    | (refine hp 1 (Or.inr rfl) (iff_of_true rfl ?_); clear hp; simp only [ly_ok, Int32.lt_iff_toInt_lt, Int32.le_iff_toInt_le, ← Int32.toInt_inj, true_imp_iff, true_or, or_true, ly_t0, ly_t1, ly_t2, ly_t7, ly_t8, ly_t15, ly_t16, ly_t64, ly_tm64] at * <;> omega)
    | (exfalso; clear hp; simp only [ly_ok, Int32.lt_iff_toInt_lt, Int32.le_iff_toInt_le, ← Int32.toInt_inj, true_imp_iff, true_or, or_true, ly_t0, ly_t1, ly_t2, ly_t7, ly_t8, ly_t15, ly_t16, ly_t64, ly_tm64] at * <;> omega)

theorem ly_yf5 {post : Int32 → Prop} {a b : Int32} (hp : ∀ r : Int32, (r = 0 ∨ r = 1) → (r = 1 ↔ ly_ok 5 a.toInt b.toInt) → post r) : wpY_fits post (nI 5) a b := by
  unfold wpY_fits
  simp only [wpY_usesSymbol, wY_fits_185, wY_fits_163, wY_fits_148, wY_fits_143, wpY_in]
  iterate 40 (first | refine br_t (by decide) ?_ | refine br_f (by decide) ?_ | skip)
  repeat' (first | refine br_t (by decide) ?_ | refine br_f (by decide) ?_ | apply And.intro | intro _)
  all_goals first
    | decide
    | (exfalso; exact (by assumption : ¬ True) trivial)
    | (refine hp 0 (Or.inl rfl) (iff_of_false (by decide) (fun hh => ?_)); clear hp; simp only [ly_ok, Int32.lt_iff_toInt_lt, Int32.le_iff_toInt_le, ← Int32.toInt_inj, true_imp_iff, true_or, or_true, ly_t0, ly_t1, ly_t2, ly_t7, ly_t8, ly_t15, ly_t16, ly_t64, ly_tm64] at * <;> omega)
    | (refine hp 1 (Or.inr rfl) (iff_of_true rfl ?_); clear hp; simp only [ly_ok, Int32.lt_iff_toInt_lt, Int32.le_iff_toInt_le, ← Int32.toInt_inj, true_imp_iff, true_or, or_true, ly_t0, ly_t1, ly_t2, ly_t7, ly_t8, ly_t15, ly_t16, ly_t64, ly_tm64] at * <;> omega)
    | (exfalso; clear hp; simp only [ly_ok, Int32.lt_iff_toInt_lt, Int32.le_iff_toInt_le, ← Int32.toInt_inj, true_imp_iff, true_or, or_true, ly_t0, ly_t1, ly_t2, ly_t7, ly_t8, ly_t15, ly_t16, ly_t64, ly_tm64] at * <;> omega)

theorem ly_yf6 {post : Int32 → Prop} {a b : Int32} (hp : ∀ r : Int32, (r = 0 ∨ r = 1) → (r = 1 ↔ ly_ok 6 a.toInt b.toInt) → post r) : wpY_fits post (nI 6) a b := by
  unfold wpY_fits
  simp only [wpY_usesSymbol, wY_fits_185, wY_fits_163, wY_fits_148, wY_fits_143, wpY_in]
  iterate 40 (first | refine br_t (by decide) ?_ | refine br_f (by decide) ?_ | skip)
  repeat' (first | refine br_t (by decide) ?_ | refine br_f (by decide) ?_ | apply And.intro | intro _)
  all_goals first
    | decide
    | (exfalso; exact (by assumption : ¬ True) trivial)
    | (refine hp 0 (Or.inl rfl) (iff_of_false (by decide) (fun hh => ?_)); clear hp; simp only [ly_ok, Int32.lt_iff_toInt_lt, Int32.le_iff_toInt_le, ← Int32.toInt_inj, true_imp_iff, true_or, or_true, ly_t0, ly_t1, ly_t2, ly_t7, ly_t8, ly_t15, ly_t16, ly_t64, ly_tm64] at * <;> omega)
    | (refine hp 1 (Or.inr rfl) (iff_of_true rfl ?_); clear hp; simp only [ly_ok, Int32.lt_iff_toInt_lt, Int32.le_iff_toInt_le, ← Int32.toInt_inj, true_imp_iff, true_or, or_true, ly_t0, ly_t1, ly_t2, ly_t7, ly_t8, ly_t15, ly_t16, ly_t64, ly_tm64] at * <;> omega)
    | (exfalso; clear hp; simp only [ly_ok, Int32.lt_iff_toInt_lt, Int32.le_iff_toInt_le, ← Int32.toInt_inj, true_imp_iff, true_or, or_true, ly_t0, ly_t1, ly_t2, ly_t7, ly_t8, ly_t15, ly_t16, ly_t64, ly_tm64] at * <;> omega)

theorem ly_yf7 {post : Int32 → Prop} {a b : Int32} (hp : ∀ r : Int32, (r = 0 ∨ r = 1) → (r = 1 ↔ ly_ok 7 a.toInt b.toInt) → post r) : wpY_fits post (nI 7) a b := by
  unfold wpY_fits
  simp only [wpY_usesSymbol, wY_fits_185, wY_fits_163, wY_fits_148, wY_fits_143, wpY_in]
  iterate 40 (first | refine br_t (by decide) ?_ | refine br_f (by decide) ?_ | skip)
  repeat' (first | refine br_t (by decide) ?_ | refine br_f (by decide) ?_ | apply And.intro | intro _)
  all_goals first
    | decide
    | (exfalso; exact (by assumption : ¬ True) trivial)
    | (refine hp 0 (Or.inl rfl) (iff_of_false (by decide) (fun hh => ?_)); clear hp; simp only [ly_ok, Int32.lt_iff_toInt_lt, Int32.le_iff_toInt_le, ← Int32.toInt_inj, true_imp_iff, true_or, or_true, ly_t0, ly_t1, ly_t2, ly_t7, ly_t8, ly_t15, ly_t16, ly_t64, ly_tm64] at * <;> omega)
    | (refine hp 1 (Or.inr rfl) (iff_of_true rfl ?_); clear hp; simp only [ly_ok, Int32.lt_iff_toInt_lt, Int32.le_iff_toInt_le, ← Int32.toInt_inj, true_imp_iff, true_or, or_true, ly_t0, ly_t1, ly_t2, ly_t7, ly_t8, ly_t15, ly_t16, ly_t64, ly_tm64] at * <;> omega)
    | (exfalso; clear hp; simp only [ly_ok, Int32.lt_iff_toInt_lt, Int32.le_iff_toInt_le, ← Int32.toInt_inj, true_imp_iff, true_or, or_true, ly_t0, ly_t1, ly_t2, ly_t7, ly_t8, ly_t15, ly_t16, ly_t64, ly_tm64] at * <;> omega)

theorem ly_yf8 {post : Int32 → Prop} {a b : Int32} (hp : ∀ r : Int32, (r = 0 ∨ r = 1) → (r = 1 ↔ ly_ok 8 a.toInt b.toInt) → post r) : wpY_fits post (nI 8) a b := by
  unfold wpY_fits
  simp only [wpY_usesSymbol, wY_fits_185, wY_fits_163, wY_fits_148, wY_fits_143, wpY_in]
  iterate 40 (first | refine br_t (by decide) ?_ | refine br_f (by decide) ?_ | skip)
  repeat' (first | refine br_t (by decide) ?_ | refine br_f (by decide) ?_ | apply And.intro | intro _)
  all_goals first
    | decide
    | (exfalso; exact (by assumption : ¬ True) trivial)
    | (refine hp 0 (Or.inl rfl) (iff_of_false (by decide) (fun hh => ?_)); clear hp; simp only [ly_ok, Int32.lt_iff_toInt_lt, Int32.le_iff_toInt_le, ← Int32.toInt_inj, true_imp_iff, true_or, or_true, ly_t0, ly_t1, ly_t2, ly_t7, ly_t8, ly_t15, ly_t16, ly_t64, ly_tm64] at * <;> omega)
    | (refine hp 1 (Or.inr rfl) (iff_of_true rfl ?_); clear hp; simp only [ly_ok, Int32.lt_iff_toInt_lt, Int32.le_iff_toInt_le, ← Int32.toInt_inj, true_imp_iff, true_or, or_true, ly_t0, ly_t1, ly_t2, ly_t7, ly_t8, ly_t15, ly_t16, ly_t64, ly_tm64] at * <;> omega)
    | (exfalso; clear hp; simp only [ly_ok, Int32.lt_iff_toInt_lt, Int32.le_iff_toInt_le, ← Int32.toInt_inj, true_imp_iff, true_or, or_true, ly_t0, ly_t1, ly_t2, ly_t7, ly_t8, ly_t15, ly_t16, ly_t64, ly_tm64] at * <;> omega)

theorem ly_yf9 {post : Int32 → Prop} {a b : Int32} (hp : ∀ r : Int32, (r = 0 ∨ r = 1) → (r = 1 ↔ ly_ok 9 a.toInt b.toInt) → post r) : wpY_fits post (nI 9) a b := by
  unfold wpY_fits
  simp only [wpY_usesSymbol, wY_fits_185, wY_fits_163, wY_fits_148, wY_fits_143, wpY_in]
  iterate 40 (first | refine br_t (by decide) ?_ | refine br_f (by decide) ?_ | skip)
  repeat' (first | refine br_t (by decide) ?_ | refine br_f (by decide) ?_ | apply And.intro | intro _)
  all_goals first
    | decide
    | (exfalso; exact (by assumption : ¬ True) trivial)
    | (refine hp 0 (Or.inl rfl) (iff_of_false (by decide) (fun hh => ?_)); clear hp; simp only [ly_ok, Int32.lt_iff_toInt_lt, Int32.le_iff_toInt_le, ← Int32.toInt_inj, true_imp_iff, true_or, or_true, ly_t0, ly_t1, ly_t2, ly_t7, ly_t8, ly_t15, ly_t16, ly_t64, ly_tm64] at * <;> omega)
    | (refine hp 1 (Or.inr rfl) (iff_of_true rfl ?_); clear hp; simp only [ly_ok, Int32.lt_iff_toInt_lt, Int32.le_iff_toInt_le, ← Int32.toInt_inj, true_imp_iff, true_or, or_true, ly_t0, ly_t1, ly_t2, ly_t7, ly_t8, ly_t15, ly_t16, ly_t64, ly_tm64] at * <;> omega)
    | (exfalso; clear hp; simp only [ly_ok, Int32.lt_iff_toInt_lt, Int32.le_iff_toInt_le, ← Int32.toInt_inj, true_imp_iff, true_or, or_true, ly_t0, ly_t1, ly_t2, ly_t7, ly_t8, ly_t15, ly_t16, ly_t64, ly_tm64] at * <;> omega)

theorem ly_yf10 {post : Int32 → Prop} {a b : Int32} (hp : ∀ r : Int32, (r = 0 ∨ r = 1) → (r = 1 ↔ ly_ok 10 a.toInt b.toInt) → post r) : wpY_fits post (nI 10) a b := by
  unfold wpY_fits
  simp only [wpY_usesSymbol, wY_fits_185, wY_fits_163, wY_fits_148, wY_fits_143, wpY_in]
  iterate 40 (first | refine br_t (by decide) ?_ | refine br_f (by decide) ?_ | skip)
  repeat' (first | refine br_t (by decide) ?_ | refine br_f (by decide) ?_ | apply And.intro | intro _)
  all_goals first
    | decide
    | (exfalso; exact (by assumption : ¬ True) trivial)
    | (refine hp 0 (Or.inl rfl) (iff_of_false (by decide) (fun hh => ?_)); clear hp; simp only [ly_ok, Int32.lt_iff_toInt_lt, Int32.le_iff_toInt_le, ← Int32.toInt_inj, true_imp_iff, true_or, or_true, ly_t0, ly_t1, ly_t2, ly_t7, ly_t8, ly_t15, ly_t16, ly_t64, ly_tm64] at * <;> omega)
    | (refine hp 1 (Or.inr rfl) (iff_of_true rfl ?_); clear hp; simp only [ly_ok, Int32.lt_iff_toInt_lt, Int32.le_iff_toInt_le, ← Int32.toInt_inj, true_imp_iff, true_or, or_true, ly_t0, ly_t1, ly_t2, ly_t7, ly_t8, ly_t15, ly_t16, ly_t64, ly_tm64] at * <;> omega)
    | (exfalso; clear hp; simp only [ly_ok, Int32.lt_iff_toInt_lt, Int32.le_iff_toInt_le, ← Int32.toInt_inj, true_imp_iff, true_or, or_true, ly_t0, ly_t1, ly_t2, ly_t7, ly_t8, ly_t15, ly_t16, ly_t64, ly_tm64] at * <;> omega)

theorem ly_yf11 {post : Int32 → Prop} {a b : Int32} (hp : ∀ r : Int32, (r = 0 ∨ r = 1) → (r = 1 ↔ ly_ok 11 a.toInt b.toInt) → post r) : wpY_fits post (nI 11) a b := by
  unfold wpY_fits
  simp only [wpY_usesSymbol, wY_fits_185, wY_fits_163, wY_fits_148, wY_fits_143, wpY_in]
  iterate 40 (first | refine br_t (by decide) ?_ | refine br_f (by decide) ?_ | skip)
  repeat' (first | refine br_t (by decide) ?_ | refine br_f (by decide) ?_ | apply And.intro | intro _)
  all_goals first
    | decide
    | (exfalso; exact (by assumption : ¬ True) trivial)
    | (refine hp 0 (Or.inl rfl) (iff_of_false (by decide) (fun hh => ?_)); clear hp; simp only [ly_ok, Int32.lt_iff_toInt_lt, Int32.le_iff_toInt_le, ← Int32.toInt_inj, true_imp_iff, true_or, or_true, ly_t0, ly_t1, ly_t2, ly_t7, ly_t8, ly_t15, ly_t16, ly_t64, ly_tm64] at * <;> omega)
    | (refine hp 1 (Or.inr rfl) (iff_of_true rfl ?_); clear hp; simp only [ly_ok, Int32.lt_iff_toInt_lt, Int32.le_iff_toInt_le, ← Int32.toInt_inj, true_imp_iff, true_or, or_true, ly_t0, ly_t1, ly_t2, ly_t7, ly_t8, ly_t15, ly_t16, ly_t64, ly_tm64] at * <;> omega)
    | (exfalso; clear hp; simp only [ly_ok, Int32.lt_iff_toInt_lt, Int32.le_iff_toInt_le, ← Int32.toInt_inj, true_imp_iff, true_or, or_true, ly_t0, ly_t1, ly_t2, ly_t7, ly_t8, ly_t15, ly_t16, ly_t64, ly_tm64] at * <;> omega)

theorem ly_yf12 {post : Int32 → Prop} {a b : Int32} (hp : ∀ r : Int32, (r = 0 ∨ r = 1) → (r = 1 ↔ ly_ok 12 a.toInt b.toInt) → post r) : wpY_fits post (nI 12) a b := by
  unfold wpY_fits
  simp only [wpY_usesSymbol, wY_fits_185, wY_fits_163, wY_fits_148, wY_fits_143, wpY_in]
  iterate 40 (first | refine br_t (by decide) ?_ | refine br_f (by decide) ?_ | skip)
  repeat' (first | refine br_t (by decide) ?_ | refine br_f (by decide) ?_ | apply And.intro | intro _)
  all_goals first
    | decide
    | (exfalso; exact (by assumption : ¬ True) trivial)
    | (refine hp 0 (Or.inl rfl) (iff_of_false (by decide) (fun hh => ?_)); clear hp; simp only [ly_ok, Int32.lt_iff_toInt_lt, Int32.le_iff_toInt_le, ← Int32.toInt_inj, true_imp_iff, true_or, or_true, ly_t0, ly_t1, ly_t2, ly_t7, ly_t8, ly_t15, ly_t16, ly_t64, ly_tm64] at * <;> omega)
    | (refine hp 1 (Or.inr rfl) (iff_of_true rfl ?_); clear hp; simp only [ly_ok, Int32.lt_iff_toInt_lt, Int32.le_iff_toInt_le, ← Int32.toInt_inj, true_imp_iff, true_or, or_true, ly_t0, ly_t1, ly_t2, ly_t7, ly_t8, ly_t15, ly_t16, ly_t64, ly_tm64] at * <;> omega)
    | (exfalso; clear hp; simp only [ly_ok, Int32.lt_iff_toInt_lt, Int32.le_iff_toInt_le, ← Int32.toInt_inj, true_imp_iff, true_or, or_true, ly_t0, ly_t1, ly_t2, ly_t7, ly_t8, ly_t15, ly_t16, ly_t64, ly_tm64] at * <;> omega)

theorem ly_yf13 {post : Int32 → Prop} {a b : Int32} (hp : ∀ r : Int32, (r = 0 ∨ r = 1) → (r = 1 ↔ ly_ok 13 a.toInt b.toInt) → post r) : wpY_fits post (nI 13) a b := by
  unfold wpY_fits
  simp only [wpY_usesSymbol, wY_fits_185, wY_fits_163, wY_fits_148, wY_fits_143, wpY_in]
  iterate 40 (first | refine br_t (by decide) ?_ | refine br_f (by decide) ?_ | skip)
  repeat' (first | refine br_t (by decide) ?_ | refine br_f (by decide) ?_ | apply And.intro | intro _)
  all_goals first
    | decide
    | (exfalso; exact (by assumption : ¬ True) trivial)
    | (refine hp 0 (Or.inl rfl) (iff_of_false (by decide) (fun hh => ?_)); clear hp; simp only [ly_ok, Int32.lt_iff_toInt_lt, Int32.le_iff_toInt_le, ← Int32.toInt_inj, true_imp_iff, true_or, or_true, ly_t0, ly_t1, ly_t2, ly_t7, ly_t8, ly_t15, ly_t16, ly_t64, ly_tm64] at * <;> omega)
    | (refine hp 1 (Or.inr rfl) (iff_of_true rfl ?_); clear hp; simp only [ly_ok, Int32.lt_iff_toInt_lt, Int32.le_iff_toInt_le, ← Int32.toInt_inj, true_imp_iff, true_or, or_true, ly_t0, ly_t1, ly_t2, ly_t7, ly_t8, ly_t15, ly_t16, ly_t64, ly_tm64] at * <;> omega)
    | (exfalso; clear hp; simp only [ly_ok, Int32.lt_iff_toInt_lt, Int32.le_iff_toInt_le, ← Int32.toInt_inj, true_imp_iff, true_or, or_true, ly_t0, ly_t1, ly_t2, ly_t7, ly_t8, ly_t15, ly_t16, ly_t64, ly_tm64] at * <;> omega)

theorem ly_yf14 {post : Int32 → Prop} {a b : Int32} (hp : ∀ r : Int32, (r = 0 ∨ r = 1) → (r = 1 ↔ ly_ok 14 a.toInt b.toInt) → post r) : wpY_fits post (nI 14) a b := by
  unfold wpY_fits
  simp only [wpY_usesSymbol, wY_fits_185, wY_fits_163, wY_fits_148, wY_fits_143, wpY_in]
  iterate 40 (first | refine br_t (by decide) ?_ | refine br_f (by decide) ?_ | skip)
  repeat' (first | refine br_t (by decide) ?_ | refine br_f (by decide) ?_ | apply And.intro | intro _)
  all_goals first
    | decide
    | (exfalso; exact (by assumption : ¬ True) trivial)
    | (refine hp 0 (Or.inl rfl) (iff_of_false (by decide) (fun hh => ?_)); clear hp; simp only [ly_ok, Int32.lt_iff_toInt_lt, Int32.le_iff_toInt_le, ← Int32.toInt_inj, true_imp_iff, true_or, or_true, ly_t0, ly_t1, ly_t2, ly_t7, ly_t8, ly_t15, ly_t16, ly_t64, ly_tm64] at * <;> omega)
    | (refine hp 1 (Or.inr rfl) (iff_of_true rfl ?_); clear hp; simp only [ly_ok, Int32.lt_iff_toInt_lt, Int32.le_iff_toInt_le, ← Int32.toInt_inj, true_imp_iff, true_or, or_true, ly_t0, ly_t1, ly_t2, ly_t7, ly_t8, ly_t15, ly_t16, ly_t64, ly_tm64] at * <;> omega)
    | (exfalso; clear hp; simp only [ly_ok, Int32.lt_iff_toInt_lt, Int32.le_iff_toInt_le, ← Int32.toInt_inj, true_imp_iff, true_or, or_true, ly_t0, ly_t1, ly_t2, ly_t7, ly_t8, ly_t15, ly_t16, ly_t64, ly_tm64] at * <;> omega)

theorem ly_yf15 {post : Int32 → Prop} {a b : Int32} (hp : ∀ r : Int32, (r = 0 ∨ r = 1) → (r = 1 ↔ ly_ok 15 a.toInt b.toInt) → post r) : wpY_fits post (nI 15) a b := by
  unfold wpY_fits
  simp only [wpY_usesSymbol, wY_fits_185, wY_fits_163, wY_fits_148, wY_fits_143, wpY_in]
  iterate 40 (first | refine br_t (by decide) ?_ | refine br_f (by decide) ?_ | skip)
  repeat' (first | refine br_t (by decide) ?_ | refine br_f (by decide) ?_ | apply And.intro | intro _)
  all_goals first
    | decide
    | (exfalso; exact (by assumption : ¬ True) trivial)
    | (refine hp 0 (Or.inl rfl) (iff_of_false (by decide) (fun hh => ?_)); clear hp; simp only [ly_ok, Int32.lt_iff_toInt_lt, Int32.le_iff_toInt_le, ← Int32.toInt_inj, true_imp_iff, true_or, or_true, ly_t0, ly_t1, ly_t2, ly_t7, ly_t8, ly_t15, ly_t16, ly_t64, ly_tm64] at * <;> omega)
    | (refine hp 1 (Or.inr rfl) (iff_of_true rfl ?_); clear hp; simp only [ly_ok, Int32.lt_iff_toInt_lt, Int32.le_iff_toInt_le, ← Int32.toInt_inj, true_imp_iff, true_or, or_true, ly_t0, ly_t1, ly_t2, ly_t7, ly_t8, ly_t15, ly_t16, ly_t64, ly_tm64] at * <;> omega)
    | (exfalso; clear hp; simp only [ly_ok, Int32.lt_iff_toInt_lt, Int32.le_iff_toInt_le, ← Int32.toInt_inj, true_imp_iff, true_or, or_true, ly_t0, ly_t1, ly_t2, ly_t7, ly_t8, ly_t15, ly_t16, ly_t64, ly_tm64] at * <;> omega)

theorem ly_yf16 {post : Int32 → Prop} {a b : Int32} (hp : ∀ r : Int32, (r = 0 ∨ r = 1) → (r = 1 ↔ ly_ok 16 a.toInt b.toInt) → post r) : wpY_fits post (nI 16) a b := by
  unfold wpY_fits
  simp only [wpY_usesSymbol, wY_fits_185, wY_fits_163, wY_fits_148, wY_fits_143, wpY_in]
  iterate 40 (first | refine br_t (by decide) ?_ | refine br_f (by decide) ?_ | skip)
  repeat' (first | refine br_t (by decide) ?_ | refine br_f (by decide) ?_ | apply And.intro | intro _)
  all_goals first
    | decide
    | (exfalso; exact (by assumption : ¬ True) trivial)
    | (refine hp 0 (Or.inl rfl) (iff_of_false (by decide) (fun hh => ?_)); clear hp; simp only [ly_ok, Int32.lt_iff_toInt_lt, Int32.le_iff_toInt_le, ← Int32.toInt_inj, true_imp_iff, true_or, or_true, ly_t0, ly_t1, ly_t2, ly_t7, ly_t8, ly_t15, ly_t16, ly_t64, ly_tm64] at * <;> omega)
    | (refine hp 1 (Or.inr rfl) (iff_of_true rfl ?_); clear hp; simp only [ly_ok, Int32.lt_iff_toInt_lt, Int32.le_iff_toInt_le, ← Int32.toInt_inj, true_imp_iff, true_or, or_true, ly_t0, ly_t1, ly_t2, ly_t7, ly_t8, ly_t15, ly_t16, ly_t64, ly_tm64] at * <;> omega)
    | (exfalso; clear hp; simp only [ly_ok, Int32.lt_iff_toInt_lt, Int32.le_iff_toInt_le, ← Int32.toInt_inj, true_imp_iff, true_or, or_true, ly_t0, ly_t1, ly_t2, ly_t7, ly_t8, ly_t15, ly_t16, ly_t64, ly_tm64] at * <;> omega)

theorem ly_yf17 {post : Int32 → Prop} {a b : Int32} (hp : ∀ r : Int32, (r = 0 ∨ r = 1) → (r = 1 ↔ ly_ok 17 a.toInt b.toInt) → post r) : wpY_fits post (nI 17) a b := by
  unfold wpY_fits
  simp only [wpY_usesSymbol, wY_fits_185, wY_fits_163, wY_fits_148, wY_fits_143, wpY_in]
  iterate 40 (first | refine br_t (by decide) ?_ | refine br_f (by decide) ?_ | skip)
  repeat' (first | refine br_t (by decide) ?_ | refine br_f (by decide) ?_ | apply And.intro | intro _)
  all_goals first
    | decide
    | (exfalso; exact (by assumption : ¬ True) trivial)
    | (refine hp 0 (Or.inl rfl) (iff_of_false (by decide) (fun hh => ?_)); clear hp; simp only [ly_ok, Int32.lt_iff_toInt_lt, Int32.le_iff_toInt_le, ← Int32.toInt_inj, true_imp_iff, true_or, or_true, ly_t0, ly_t1, ly_t2, ly_t7, ly_t8, ly_t15, ly_t16, ly_t64, ly_tm64] at * <;> omega)
    | (refine hp 1 (Or.inr rfl) (iff_of_true rfl ?_); clear hp; simp only [ly_ok, Int32.lt_iff_toInt_lt, Int32.le_iff_toInt_le, ← Int32.toInt_inj, true_imp_iff, true_or, or_true, ly_t0, ly_t1, ly_t2, ly_t7, ly_t8, ly_t15, ly_t16, ly_t64, ly_tm64] at * <;> omega)
    | (exfalso; clear hp; simp only [ly_ok, Int32.lt_iff_toInt_lt, Int32.le_iff_toInt_le, ← Int32.toInt_inj, true_imp_iff, true_or, or_true, ly_t0, ly_t1, ly_t2, ly_t7, ly_t8, ly_t15, ly_t16, ly_t64, ly_tm64] at * <;> omega)

theorem ly_yf18 {post : Int32 → Prop} {a b : Int32} (hp : ∀ r : Int32, (r = 0 ∨ r = 1) → (r = 1 ↔ ly_ok 18 a.toInt b.toInt) → post r) : wpY_fits post (nI 18) a b := by
  unfold wpY_fits
  simp only [wpY_usesSymbol, wY_fits_185, wY_fits_163, wY_fits_148, wY_fits_143, wpY_in]
  iterate 40 (first | refine br_t (by decide) ?_ | refine br_f (by decide) ?_ | skip)
  repeat' (first | refine br_t (by decide) ?_ | refine br_f (by decide) ?_ | apply And.intro | intro _)
  all_goals first
    | decide
    | (exfalso; exact (by assumption : ¬ True) trivial)
    | (refine hp 0 (Or.inl rfl) (iff_of_false (by decide) (fun hh => ?_)); clear hp; simp only [ly_ok, Int32.lt_iff_toInt_lt, Int32.le_iff_toInt_le, ← Int32.toInt_inj, true_imp_iff, true_or, or_true, ly_t0, ly_t1, ly_t2, ly_t7, ly_t8, ly_t15, ly_t16, ly_t64, ly_tm64] at * <;> omega)
    | (refine hp 1 (Or.inr rfl) (iff_of_true rfl ?_); clear hp; simp only [ly_ok, Int32.lt_iff_toInt_lt, Int32.le_iff_toInt_le, ← Int32.toInt_inj, true_imp_iff, true_or, or_true, ly_t0, ly_t1, ly_t2, ly_t7, ly_t8, ly_t15, ly_t16, ly_t64, ly_tm64] at * <;> omega)
    | (exfalso; clear hp; simp only [ly_ok, Int32.lt_iff_toInt_lt, Int32.le_iff_toInt_le, ← Int32.toInt_inj, true_imp_iff, true_or, or_true, ly_t0, ly_t1, ly_t2, ly_t7, ly_t8, ly_t15, ly_t16, ly_t64, ly_tm64] at * <;> omega)

theorem ly_yf19 {post : Int32 → Prop} {a b : Int32} (hp : ∀ r : Int32, (r = 0 ∨ r = 1) → (r = 1 ↔ ly_ok 19 a.toInt b.toInt) → post r) : wpY_fits post (nI 19) a b := by
  unfold wpY_fits
  simp only [wpY_usesSymbol, wY_fits_185, wY_fits_163, wY_fits_148, wY_fits_143, wpY_in]
  iterate 40 (first | refine br_t (by decide) ?_ | refine br_f (by decide) ?_ | skip)
  repeat' (first | refine br_t (by decide) ?_ | refine br_f (by decide) ?_ | apply And.intro | intro _)
  all_goals first
    | decide
    | (exfalso; exact (by assumption : ¬ True) trivial)
    | (refine hp 0 (Or.inl rfl) (iff_of_false (by decide) (fun hh => ?_)); clear hp; simp only [ly_ok, Int32.lt_iff_toInt_lt, Int32.le_iff_toInt_le, ← Int32.toInt_inj, true_imp_iff, true_or, or_true, ly_t0, ly_t1, ly_t2, ly_t7, ly_t8, ly_t15, ly_t16, ly_t64, ly_tm64] at * <;> omega)
    | (refine hp 1 (Or.inr rfl) (iff_of_true rfl ?_); clear hp; simp only [ly_ok, Int32.lt_iff_toInt_lt, Int32.le_iff_toInt_le, ← Int32.toInt_inj, true_imp_iff, true_or, or_true, ly_t0, ly_t1, ly_t2, ly_t7, ly_t8, ly_t15, ly_t16, ly_t64, ly_tm64] at * <;> omega)
    | (exfalso; clear hp; simp only [ly_ok, Int32.lt_iff_toInt_lt, Int32.le_iff_toInt_le, ← Int32.toInt_inj, true_imp_iff, true_or, or_true, ly_t0, ly_t1, ly_t2, ly_t7, ly_t8, ly_t15, ly_t16, ly_t64, ly_tm64] at * <;> omega)

theorem ly_xfA {post : Int32 → Prop} {op : Nat} (hop : op ≤ 19) {a b : Int32} (hp : ∀ r : Int32, (r = 0 ∨ r = 1) → (r = 1 ↔ ly_ok op a.toInt b.toInt) → post r) : wpX_operandsFit post (nI op) a b := by
  have h : op = 0 ∨ op = 1 ∨ op = 2 ∨ op = 3 ∨ op = 4 ∨ op = 5 ∨ op = 6 ∨ op = 7 ∨ op = 8 ∨ op = 9 ∨ op = 10 ∨ op = 11 ∨ op = 12 ∨ op = 13 ∨ op = 14 ∨ op = 15 ∨ op = 16 ∨ op = 17 ∨ op = 18 ∨ op = 19 := by omega
  rcases h with rfl | rfl | rfl | rfl | rfl | rfl | rfl | rfl | rfl | rfl | rfl | rfl | rfl | rfl | rfl | rfl | rfl | rfl | rfl | rfl
  · exact ly_xf0 hp
  · exact ly_xf1 hp
  · exact ly_xf2 hp
  · exact ly_xf3 hp
  · exact ly_xf4 hp
  · exact ly_xf5 hp
  · exact ly_xf6 hp
  · exact ly_xf7 hp
  · exact ly_xf8 hp
  · exact ly_xf9 hp
  · exact ly_xf10 hp
  · exact ly_xf11 hp
  · exact ly_xf12 hp
  · exact ly_xf13 hp
  · exact ly_xf14 hp
  · exact ly_xf15 hp
  · exact ly_xf16 hp
  · exact ly_xf17 hp
  · exact ly_xf18 hp
  · exact ly_xf19 hp

theorem ly_yfA {post : Int32 → Prop} {op : Nat} (hop : op ≤ 19) {a b : Int32} (hp : ∀ r : Int32, (r = 0 ∨ r = 1) → (r = 1 ↔ ly_ok op a.toInt b.toInt) → post r) : wpY_fits post (nI op) a b := by
  have h : op = 0 ∨ op = 1 ∨ op = 2 ∨ op = 3 ∨ op = 4 ∨ op = 5 ∨ op = 6 ∨ op = 7 ∨ op = 8 ∨ op = 9 ∨ op = 10 ∨ op = 11 ∨ op = 12 ∨ op = 13 ∨ op = 14 ∨ op = 15 ∨ op = 16 ∨ op = 17 ∨ op = 18 ∨ op = 19 := by omega
  rcases h with rfl | rfl | rfl | rfl | rfl | rfl | rfl | rfl | rfl | rfl | rfl | rfl | rfl | rfl | rfl | rfl | rfl | rfl | rfl | rfl
  · exact ly_yf0 hp
  · exact ly_yf1 hp
  · exact ly_yf2 hp
  · exact ly_yf3 hp
  · exact ly_yf4 hp
  · exact ly_yf5 hp
  · exact ly_yf6 hp
  · exact ly_yf7 hp
  · exact ly_yf8 hp
  · exact ly_yf9 hp
  · exact ly_yf10 hp
  · exact ly_yf11 hp
  · exact ly_yf12 hp
  · exact ly_yf13 hp
  · exact ly_yf14 hp
  · exact ly_yf15 hp
  · exact ly_yf16 hp
  · exact ly_yf17 hp
  · exact ly_yf18 hp
  · exact ly_yf19 hp
end
section
/-! the small methods -/
theorem ly_xfN {post : Int32 → Prop} {o a b : Int32} (h : o < 0 ∨ nI 20 ≤ o) (hp : post 0) : wpX_operandsFit post o a b := by
  unfold wpX_operandsFit
  rcases h with h | h
  · exact br_t h hp
  · refine br_c (fun _ => hp) (fun h0 => br_t ?_ hp)
    obtain ⟨j, hj, rfl⟩ := nI_of h0
    rw [nI_leI (by omega) hj] at h
    exact nI_lt (a := 19) (by omega) hj
theorem ly_yfN {post : Int32 → Prop} {o a b : Int32} (h : o < 0 ∨ nI 20 ≤ o) (hp : post 0) : wpY_fits post o a b := by
  unfold wpY_fits
  exact ly_yi0 19 (by omega) h (br_t rfl hp)
theorem i_vc_item {k : Nat} {u : SX} {v : SY} (I : i_Rel k u v) (hk : k + 5 ≤ 2560) (v1 : Int32) (v2 : Int32) (v3 : Int32) (v4 : Int32) : wpX_item (fun r u' => wpY_item (fun r' v' => r' = r ∧ i_Rel (k + 5) u' v') v v1 v2 v3 v4) u v1 v2 v3 v4 := by
  obtain ⟨xbase, xstrip, xllen, xtend, xaend, xlcnt, xlrnd, xlinked, xblamed, xouts, xpc, xsteps, xran, xops, xA, xB, xcnt, xrole, xloc, xglo, xweak, xuse, xrep, xunit, xtgt, xstay, xlong, xlist, xchosen, xplace, ximg, xreg, xstore, xout, ymany, ytend, yend, ymade, yrounds, yentry, ylist, yplace, ysym, yimg, ystay, ywide, ymem, yreg, yout, rfl, rfl, hW, hF, hb, hr, hl⟩ := I
  have fin : i_Rel (k + 5) (xbase, xstrip, xllen, xtend, xaend, xlcnt, xlrnd, xlinked, xblamed, xouts, xpc, xsteps, xran, xops, xA, xB, xcnt, xrole, xloc, xglo, xweak, xuse, xrep, xunit, xtgt, xstay, xlong, xlist, xchosen, xplace, ximg, xreg, xstore, xout) (xbase, xstrip, ymany, xblamed, ytend, yend, ymade, yrounds, yentry, xlinked, xran, xpc, xsteps, xouts, xops, xA, xB, xcnt, xrole, ylist, yplace, ysym, yimg, ystay, ywide, ymem, yreg, yout) := ⟨xbase, xstrip, xllen, xtend, xaend, xlcnt, xlrnd, xlinked, xblamed, xouts, xpc, xsteps, xran, xops, xA, xB, xcnt, xrole, xloc, xglo, xweak, xuse, xrep, xunit, xtgt, xstay, xlong, xlist, xchosen, xplace, ximg, xreg, xstore, xout, ymany, ytend, yend, ymade, yrounds, yentry, ylist, yplace, ysym, yimg, ystay, ywide, ymem, yreg, yout, rfl, rfl, hW, hF, hb, hr, hl⟩
  unfold wpX_item wpY_item
  dsimp only
  rcases ly_ix3 v1 (n := 6) (by omega) with h6 | ⟨m, hm, rfl⟩
  · exact ly_xmod0 h6 (br_t rfl (ly_ymod0 h6 (br_t rfl ⟨rfl, fin⟩)))
  · refine ly_xmod1 hm (br_f (by decide) ?_)
    rcases ly_ix3 v2 (n := 20) (by omega) with ho | ⟨op, hop, rfl⟩
    · exact ly_xfN ho (br_t rfl (ly_ymod1 hm (br_f (by decide) (ly_yfN ho (br_t rfl ⟨rfl, fin⟩)))))
    · refine ly_xfA (by omega) (fun r r01 r1 => ?_)
      rcases r01 with rfl | rfl
      · refine br_t rfl (ly_ymod1 hm (br_f (by decide) (ly_yfA (by omega) (fun r' r01' r1' => ?_))))
        rcases r01' with rfl | rfl
        · exact br_t rfl ⟨rfl, fin⟩
        · exact absurd (r1.mpr (r1'.mp rfl)) (by decide)
      · have hft := ly_ok_ft (a := v3) (b := v4) (by omega) (r1.mp rfl)
        obtain ⟨hc, ec⟩ := hW m hm
        have em : (nI m).toNatClampNeg = m := nI_clamp (by omega)
        have ec' : xcnt (nI m).toNatClampNeg = nI (ly_c xcnt m) := by rw [em]; exact ec
        have yy : ∀ (post : Int32 → Prop), post 1 → wpY_fits post (nI op) v3 v4 := by
          intro post hp
          refine ly_yfA (by omega) (fun r' r01' r1' => ?_)
          rcases r01' with rfl | rfl
          · exact absurd (r1'.mpr (r1.mp rfl)) (by decide)
          · exact hp
        refine br_f (by decide) ⟨vp_in_nI hm (by omega), ?_⟩
        by_cases hlt : ly_c xcnt m < 24
        · have hi : 24 * m + ly_c xcnt m < 144 := by omega
          have ei : (nI (24 * m + ly_c xcnt m)).toNatClampNeg = 24 * m + ly_c xcnt m := nI_clamp (by omega)
          refine br_t (by rw [ec']; exact nI_lt (b := 24) hlt (by omega)) ⟨vp_in_nI hm (by omega), nm_r ec' (nm_r (ly_idx _ _) ⟨vp_in_nI hi (by omega), nm_r (congrArg (fun z => upd xops z (nI op)) ei) ⟨vp_in_nI hi (by omega), nm_r (congrArg (fun z => upd xA z v3) ei) ⟨vp_in_nI hi (by omega), nm_r (congrArg (fun z => upd xB z v4) ei) ⟨vp_in_nI hm (by omega), nm_r (e' := upd xcnt m (nI (ly_c xcnt m + 1))) (by rw [em, nI_1]) ?_⟩⟩⟩⟩)⟩
          refine ly_ymod1 hm (br_f (by decide) (yy _ (br_f (by decide) ⟨vp_in_nI hm (by omega), br_f (by rw [ec']; exact fun z => by have := ly_inj (b := 24) (by omega) (by omega) z; omega) ⟨vp_in_nI hm (by omega), nm_r (e' := nI (24 * m + ly_c xcnt m)) (by rw [ec', ly_idy, nI_add]) ⟨vp_in_nI hi (by omega), nm_r (congrArg (fun z => upd xops z (nI op)) ei) ⟨vp_in_nI hi (by omega), nm_r (congrArg (fun z => upd xA z v3) ei) ⟨vp_in_nI hi (by omega), nm_r (congrArg (fun z => upd xB z v4) ei) ⟨vp_in_nI hm (by omega), vp_in_nI hm (by omega), nm_r (e' := upd xcnt m (nI (ly_c xcnt m + 1))) (by rw [ec', em, nI_1]) ⟨vp_in_nI hm (by omega), ?_, ?_⟩⟩⟩⟩⟩⟩⟩)))
          · rw [em, pk_us, nI_pred]
          · exact ⟨xbase, xstrip, xllen, xtend, xaend, xlcnt, xlrnd, xlinked, xblamed, xouts, xpc, xsteps, xran, upd xops (24 * m + ly_c xcnt m) (nI op), upd xA (24 * m + ly_c xcnt m) v3, upd xB (24 * m + ly_c xcnt m) v4, upd xcnt m (nI (ly_c xcnt m + 1)), xrole, xloc, xglo, xweak, xuse, xrep, xunit, xtgt, xstay, xlong, xlist, xchosen, xplace, ximg, xreg, xstore, xout, ymany, ytend, yend, ymade, yrounds, yentry, ylist, yplace, ysym, yimg, ystay, ywide, ymem, yreg, yout, rfl, rfl, ly_W_upd hW (by omega), ly_F_upd hF hft _, hb, hr, hl⟩
        · refine br_f (by rw [ec']; exact nI_nlt (b := 24) (by omega) (by omega)) (ly_ymod1 hm (br_f (by decide) (yy _ (br_f (by decide) ⟨vp_in_nI hm (by omega), br_t (by rw [ec', show ly_c xcnt m = 24 by omega]; rfl) ⟨rfl, fin⟩⟩))))

theorem i_vc_clear {k : Nat} {u : SX} {v : SY} (I : i_Rel k u v) (hk : k + 5 ≤ 2560) (v1 : Int32) : wpX_clear (fun r u' => wpY_clear (fun r' v' => r' = r ∧ i_Rel (k + 5) u' v') v v1) u v1 := by
  obtain ⟨xbase, xstrip, xllen, xtend, xaend, xlcnt, xlrnd, xlinked, xblamed, xouts, xpc, xsteps, xran, xops, xA, xB, xcnt, xrole, xloc, xglo, xweak, xuse, xrep, xunit, xtgt, xstay, xlong, xlist, xchosen, xplace, ximg, xreg, xstore, xout, ymany, ytend, yend, ymade, yrounds, yentry, ylist, yplace, ysym, yimg, ystay, ywide, ymem, yreg, yout, rfl, rfl, hW, hF, hb, hr, hl⟩ := I
  have fin : i_Rel (k + 5) (xbase, xstrip, xllen, xtend, xaend, xlcnt, xlrnd, xlinked, xblamed, xouts, xpc, xsteps, xran, xops, xA, xB, xcnt, xrole, xloc, xglo, xweak, xuse, xrep, xunit, xtgt, xstay, xlong, xlist, xchosen, xplace, ximg, xreg, xstore, xout) (xbase, xstrip, ymany, xblamed, ytend, yend, ymade, yrounds, yentry, xlinked, xran, xpc, xsteps, xouts, xops, xA, xB, xcnt, xrole, ylist, yplace, ysym, yimg, ystay, ywide, ymem, yreg, yout) := ⟨xbase, xstrip, xllen, xtend, xaend, xlcnt, xlrnd, xlinked, xblamed, xouts, xpc, xsteps, xran, xops, xA, xB, xcnt, xrole, xloc, xglo, xweak, xuse, xrep, xunit, xtgt, xstay, xlong, xlist, xchosen, xplace, ximg, xreg, xstore, xout, ymany, ytend, yend, ymade, yrounds, yentry, ylist, yplace, ysym, yimg, ystay, ywide, ymem, yreg, yout, rfl, rfl, hW, hF, hb, hr, hl⟩
  unfold wpX_clear wpY_clear
  dsimp only
  rcases ly_ix3 v1 (n := 6) (by omega) with h6 | ⟨m, hm, rfl⟩
  · exact ly_xmod0 h6 (br_t rfl (ly_ymod0 h6 (br_t rfl ⟨rfl, fin⟩)))
  · have em : (nI m).toNatClampNeg = m := nI_clamp (by omega)
    refine ly_xmod1 hm (br_f (by decide) ⟨vp_in_nI hm (by omega), nm_e ⟨vp_in_nI hm (by omega), nm_r (e' := upd xcnt m (nI 0)) (by rw [em]; rfl) ?_⟩⟩)
    refine ly_ymod1 hm (br_f (by decide) ⟨vp_in_nI hm (by omega), nm_e ⟨vp_in_nI hm (by omega), nm_r (e' := upd xcnt m (nI 0)) (by rw [em]; rfl) ⟨rfl, ?_⟩⟩⟩)
    exact ⟨xbase, xstrip, xllen, xtend, xaend, xlcnt, xlrnd, xlinked, xblamed, xouts, xpc, xsteps, xran, xops, xA, xB, upd xcnt m (nI 0), xrole, xloc, xglo, xweak, xuse, xrep, xunit, xtgt, xstay, xlong, xlist, xchosen, xplace, ximg, xreg, xstore, xout, ymany, ytend, yend, ymade, yrounds, yentry, ylist, yplace, ysym, yimg, ystay, ywide, ymem, yreg, yout, rfl, rfl, ly_W_upd hW (by omega), hF, hb, hr, hl⟩
theorem i_vc_role {k : Nat} {u : SX} {v : SY} (I : i_Rel k u v) (hk : k + 5 ≤ 2560) (v1 : Int32) (v2 : Int32) : wpX_role (fun r u' => wpY_role (fun r' v' => r' = r ∧ i_Rel (k + 5) u' v') v v1 v2) u v1 v2 := by
  obtain ⟨xbase, xstrip, xllen, xtend, xaend, xlcnt, xlrnd, xlinked, xblamed, xouts, xpc, xsteps, xran, xops, xA, xB, xcnt, xrole, xloc, xglo, xweak, xuse, xrep, xunit, xtgt, xstay, xlong, xlist, xchosen, xplace, ximg, xreg, xstore, xout, ymany, ytend, yend, ymade, yrounds, yentry, ylist, yplace, ysym, yimg, ystay, ywide, ymem, yreg, yout, rfl, rfl, hW, hF, hb, hr, hl⟩ := I
  have fin : i_Rel (k + 5) (xbase, xstrip, xllen, xtend, xaend, xlcnt, xlrnd, xlinked, xblamed, xouts, xpc, xsteps, xran, xops, xA, xB, xcnt, xrole, xloc, xglo, xweak, xuse, xrep, xunit, xtgt, xstay, xlong, xlist, xchosen, xplace, ximg, xreg, xstore, xout) (xbase, xstrip, ymany, xblamed, ytend, yend, ymade, yrounds, yentry, xlinked, xran, xpc, xsteps, xouts, xops, xA, xB, xcnt, xrole, ylist, yplace, ysym, yimg, ystay, ywide, ymem, yreg, yout) := ⟨xbase, xstrip, xllen, xtend, xaend, xlcnt, xlrnd, xlinked, xblamed, xouts, xpc, xsteps, xran, xops, xA, xB, xcnt, xrole, xloc, xglo, xweak, xuse, xrep, xunit, xtgt, xstay, xlong, xlist, xchosen, xplace, ximg, xreg, xstore, xout, ymany, ytend, yend, ymade, yrounds, yentry, ylist, yplace, ysym, yimg, ystay, ywide, ymem, yreg, yout, rfl, rfl, hW, hF, hb, hr, hl⟩
  unfold wpX_role wpY_role
  dsimp only
  rcases ly_ix3 v1 (n := 6) (by omega) with h6 | ⟨m, hm, rfl⟩
  · exact ly_xmod0 h6 (br_t rfl (ly_ymod0 h6 (br_t rfl ⟨rfl, fin⟩)))
  · refine ly_xmod1 hm (br_f (by decide) ?_)
    rcases ly_ix3 v2 (n := 3) (by omega) with h3 | ⟨h, hh, rfl⟩
    · have hy : ∀ post : Int32 → Prop, post 0 → wpY_in post v2 0 2 := fun post hp => ly_yi0 2 (by omega) h3 hp
      have E := ly_ymod1 (post := fun r_1 => (r_1 = 0 → (0 : Int32) = 0 ∧ i_Rel (k + 5) (xbase, xstrip, xllen, xtend, xaend, xlcnt, xlrnd, xlinked, xblamed, xouts, xpc, xsteps, xran, xops, xA, xB, xcnt, xrole, xloc, xglo, xweak, xuse, xrep, xunit, xtgt, xstay, xlong, xlist, xchosen, xplace, ximg, xreg, xstore, xout) (xbase, xstrip, ymany, xblamed, ytend, yend, ymade, yrounds, yentry, xlinked, xran, xpc, xsteps, xouts, xops, xA, xB, xcnt, xrole, ylist, yplace, ysym, yimg, ystay, ywide, ymem, yreg, yout)) ∧ (¬ r_1 = 0 → wpY_in (fun r_3 => (r_3 = 0 → (0 : Int32) = 0 ∧ i_Rel (k + 5) (xbase, xstrip, xllen, xtend, xaend, xlcnt, xlrnd, xlinked, xblamed, xouts, xpc, xsteps, xran, xops, xA, xB, xcnt, xrole, xloc, xglo, xweak, xuse, xrep, xunit, xtgt, xstay, xlong, xlist, xchosen, xplace, ximg, xreg, xstore, xout) (xbase, xstrip, ymany, xblamed, ytend, yend, ymade, yrounds, yentry, xlinked, xran, xpc, xsteps, xouts, xops, xA, xB, xcnt, xrole, ylist, yplace, ysym, yimg, ystay, ywide, ymem, yreg, yout)) ∧ (¬ r_3 = 0 → vp_in (nI m) 6 ∧ ∀ a : Nat → Int32, a = upd xrole (nI m).toNatClampNeg v2 → (1 : Int32) = 0 ∧ i_Rel (k + 5) (xbase, xstrip, xllen, xtend, xaend, xlcnt, xlrnd, xlinked, xblamed, xouts, xpc, xsteps, xran, xops, xA, xB, xcnt, xrole, xloc, xglo, xweak, xuse, xrep, xunit, xtgt, xstay, xlong, xlist, xchosen, xplace, ximg, xreg, xstore, xout) (xbase, xstrip, ymany, xblamed, ytend, yend, ymade, yrounds, yentry, xlinked, xran, xpc, xsteps, xouts, xops, xA, xB, xcnt, a, ylist, yplace, ysym, yimg, ystay, ywide, ymem, yreg, yout))) v2 0 2)) hm (br_f (by decide) (hy _ (br_t rfl ⟨rfl, fin⟩)))
      rcases h3 with h3 | h3
      · exact br_t h3 E
      · refine br_c (fun _ => E) (fun h0 => br_f ?_ E)
        obtain ⟨j, hj, rfl⟩ := nI_of h0
        rw [nI_leI (by omega) hj] at h3
        exact nI_ge (a := 2) (by omega) hj
    · refine br_f (nI_pos (by omega)) (br_t (nI_le (b := 2) (by omega) (by omega)) ⟨vp_in_nI hm (by omega), nm_e ?_⟩)
      refine ly_ymod1 hm (br_f (by decide) (ly_yi1 2 hh (by omega) (br_f (by decide) ⟨vp_in_nI hm (by omega), nm_e ⟨rfl, ?_⟩⟩)))
      exact ⟨xbase, xstrip, xllen, xtend, xaend, xlcnt, xlrnd, xlinked, xblamed, xouts, xpc, xsteps, xran, xops, xA, xB, xcnt, upd xrole (nI m).toNatClampNeg (nI h), xloc, xglo, xweak, xuse, xrep, xunit, xtgt, xstay, xlong, xlist, xchosen, xplace, ximg, xreg, xstore, xout, ymany, ytend, yend, ymade, yrounds, yentry, ylist, yplace, ysym, yimg, ystay, ywide, ymem, yreg, yout, rfl, rfl, hW, hF, hb, hr, hl⟩
theorem i_vc_layout {k : Nat} {u : SX} {v : SY} (I : i_Rel k u v) (hk : k + 5 ≤ 2560) (v1 : Int32) (v2 : Int32) : wpX_layout (fun r u' => wpY_layout (fun r' v' => r' = r ∧ i_Rel (k + 5) u' v') v v1 (lw_bz v2)) u v1 (lw_bz v2) := by
  obtain ⟨xbase, xstrip, xllen, xtend, xaend, xlcnt, xlrnd, xlinked, xblamed, xouts, xpc, xsteps, xran, xops, xA, xB, xcnt, xrole, xloc, xglo, xweak, xuse, xrep, xunit, xtgt, xstay, xlong, xlist, xchosen, xplace, ximg, xreg, xstore, xout, ymany, ytend, yend, ymade, yrounds, yentry, ylist, yplace, ysym, yimg, ystay, ywide, ymem, yreg, yout, rfl, rfl, hW, hF, hb, hr, hl⟩ := I
  have fin : i_Rel (k + 5) (xbase, xstrip, xllen, xtend, xaend, xlcnt, xlrnd, xlinked, xblamed, xouts, xpc, xsteps, xran, xops, xA, xB, xcnt, xrole, xloc, xglo, xweak, xuse, xrep, xunit, xtgt, xstay, xlong, xlist, xchosen, xplace, ximg, xreg, xstore, xout) (xbase, xstrip, ymany, xblamed, ytend, yend, ymade, yrounds, yentry, xlinked, xran, xpc, xsteps, xouts, xops, xA, xB, xcnt, xrole, ylist, yplace, ysym, yimg, ystay, ywide, ymem, yreg, yout) := ⟨xbase, xstrip, xllen, xtend, xaend, xlcnt, xlrnd, xlinked, xblamed, xouts, xpc, xsteps, xran, xops, xA, xB, xcnt, xrole, xloc, xglo, xweak, xuse, xrep, xunit, xtgt, xstay, xlong, xlist, xchosen, xplace, ximg, xreg, xstore, xout, ymany, ytend, yend, ymade, yrounds, yentry, ylist, yplace, ysym, yimg, ystay, ywide, ymem, yreg, yout, rfl, rfl, hW, hF, hb, hr, hl⟩
  unfold wpX_layout wpY_layout
  dsimp only
  rcases ly_ix3 v1 (n := 101) (by omega) with h3 | ⟨b, hb', rfl⟩
  · have E : ∀ P : Prop, wpY_in (fun r_1 => (r_1 = 0 → (0 : Int32) = 0 ∧ i_Rel (k + 5) (xbase, xstrip, xllen, xtend, xaend, xlcnt, xlrnd, xlinked, xblamed, xouts, xpc, xsteps, xran, xops, xA, xB, xcnt, xrole, xloc, xglo, xweak, xuse, xrep, xunit, xtgt, xstay, xlong, xlist, xchosen, xplace, ximg, xreg, xstore, xout) (xbase, xstrip, ymany, xblamed, ytend, yend, ymade, yrounds, yentry, xlinked, xran, xpc, xsteps, xouts, xops, xA, xB, xcnt, xrole, ylist, yplace, ysym, yimg, ystay, ywide, ymem, yreg, yout)) ∧ (¬ r_1 = 0 → P)) v1 0 100 := fun P => ly_yi0 (post := fun r_1 => (r_1 = 0 → (0 : Int32) = 0 ∧ i_Rel (k + 5) (xbase, xstrip, xllen, xtend, xaend, xlcnt, xlrnd, xlinked, xblamed, xouts, xpc, xsteps, xran, xops, xA, xB, xcnt, xrole, xloc, xglo, xweak, xuse, xrep, xunit, xtgt, xstay, xlong, xlist, xchosen, xplace, ximg, xreg, xstore, xout) (xbase, xstrip, ymany, xblamed, ytend, yend, ymade, yrounds, yentry, xlinked, xran, xpc, xsteps, xouts, xops, xA, xB, xcnt, xrole, ylist, yplace, ysym, yimg, ystay, ywide, ymem, yreg, yout)) ∧ (¬ r_1 = 0 → P)) 100 (by omega) h3 (br_t rfl ⟨rfl, fin⟩)
    rcases h3 with h3 | h3
    · exact br_t h3 (E _)
    · refine br_c (fun _ => E _) (fun h0 => br_f ?_ (E _))
      obtain ⟨j, hj, rfl⟩ := nI_of h0
      rw [nI_leI (by omega) hj] at h3
      exact nI_ge (a := 100) (by omega) hj
  · refine br_f (nI_pos (by omega)) (br_t (nI_le (b := 100) (by omega) (by omega)) ⟨lw_bz_n v2, ly_fitb (lw_bz_01 v2), ?_⟩)
    refine ly_yi1 100 hb' (by omega) (br_f (by decide) ⟨lw_bz_n v2, ly_fitb (lw_bz_01 v2), rfl, ?_⟩)
    exact ⟨nI b, lw_bz v2, xllen, xtend, xaend, xlcnt, xlrnd, xlinked, xblamed, xouts, xpc, xsteps, xran, xops, xA, xB, xcnt, xrole, xloc, xglo, xweak, xuse, xrep, xunit, xtgt, xstay, xlong, xlist, xchosen, xplace, ximg, xreg, xstore, xout, ymany, ytend, yend, ymade, yrounds, yentry, ylist, yplace, ysym, yimg, ystay, ywide, ymem, yreg, yout, rfl, rfl, hW, hF, ⟨b, by omega, rfl⟩, hr, hl⟩
theorem i_vc_culprit {k : Nat} {u : SX} {v : SY} (I : i_Rel k u v) (hk : k + 5 ≤ 2560) : wpX_culprit (fun r => wpY_culprit (fun r' => r' = r ∧ i_Rel (k + 5) u v) v) u := by
  obtain ⟨xbase, xstrip, xllen, xtend, xaend, xlcnt, xlrnd, xlinked, xblamed, xouts, xpc, xsteps, xran, xops, xA, xB, xcnt, xrole, xloc, xglo, xweak, xuse, xrep, xunit, xtgt, xstay, xlong, xlist, xchosen, xplace, ximg, xreg, xstore, xout, ymany, ytend, yend, ymade, yrounds, yentry, ylist, yplace, ysym, yimg, ystay, ywide, ymem, yreg, yout, rfl, rfl, hW, hF, hb, hr, hl⟩ := I
  exact ⟨rfl, ⟨xbase, xstrip, xllen, xtend, xaend, xlcnt, xlrnd, xlinked, xblamed, xouts, xpc, xsteps, xran, xops, xA, xB, xcnt, xrole, xloc, xglo, xweak, xuse, xrep, xunit, xtgt, xstay, xlong, xlist, xchosen, xplace, ximg, xreg, xstore, xout, ymany, ytend, yend, ymade, yrounds, yentry, ylist, yplace, ysym, yimg, ystay, ywide, ymem, yreg, yout, rfl, rfl, hW, hF, hb, hr, hl⟩⟩
end
section
/-! the methods that only read -/
theorem ly_ngt {x : Int32} {N : Nat} (hN : N + 1 < 2 ^ 31) (h : nI (N + 1) ≤ x) (h0 : ¬ x < 0) : nI N < x := by
  obtain ⟨j, hj, rfl⟩ := nI_of h0
  rw [nI_leI hN hj] at h
  exact nI_lt (by omega) hj
theorem i_vc_listed {k : Nat} {u : SX} {v : SY} (I : i_Rel k u v) (hk : k + 5 ≤ 2560) (v1 : Int32) : wpX_listed (fun r => wpY_listed (fun r' => r' = r ∧ i_Rel (k + 5) u v) v v1) u v1 := by
  obtain ⟨xbase, xstrip, xllen, xtend, xaend, xlcnt, xlrnd, xlinked, xblamed, xouts, xpc, xsteps, xran, xops, xA, xB, xcnt, xrole, xloc, xglo, xweak, xuse, xrep, xunit, xtgt, xstay, xlong, xlist, xchosen, xplace, ximg, xreg, xstore, xout, ymany, ytend, yend, ymade, yrounds, yentry, ylist, yplace, ysym, yimg, ystay, ywide, ymem, yreg, yout, rfl, rfl, hW, hF, hb, hr, hl⟩ := I
  have fin : i_Rel (k + 5) (xbase, xstrip, xllen, xtend, xaend, xlcnt, xlrnd, xlinked, xblamed, xouts, xpc, xsteps, xran, xops, xA, xB, xcnt, xrole, xloc, xglo, xweak, xuse, xrep, xunit, xtgt, xstay, xlong, xlist, xchosen, xplace, ximg, xreg, xstore, xout) (xbase, xstrip, ymany, xblamed, ytend, yend, ymade, yrounds, yentry, xlinked, xran, xpc, xsteps, xouts, xops, xA, xB, xcnt, xrole, ylist, yplace, ysym, yimg, ystay, ywide, ymem, yreg, yout) := ⟨xbase, xstrip, xllen, xtend, xaend, xlcnt, xlrnd, xlinked, xblamed, xouts, xpc, xsteps, xran, xops, xA, xB, xcnt, xrole, xloc, xglo, xweak, xuse, xrep, xunit, xtgt, xstay, xlong, xlist, xchosen, xplace, ximg, xreg, xstore, xout, ymany, ytend, yend, ymade, yrounds, yentry, ylist, yplace, ysym, yimg, ystay, ywide, ymem, yreg, yout, rfl, rfl, hW, hF, hb, hr, hl⟩
  unfold wpX_listed wpY_listed
  dsimp only
  by_cases hL : xlinked = 0
  · exact br_t hL (br_t hL ⟨rfl, fin⟩)
  · obtain ⟨n, hn, rfl, rfl, hlist, _⟩ := hl hL
    rcases ly_ix3 v1 (n := n) (by omega) with h | ⟨j, hj, rfl⟩
    · rcases h with h | h
      · exact br_f hL (br_t h (br_f hL (br_t h ⟨rfl, fin⟩)))
      · exact br_f hL (br_c (fun h0 => br_f hL (br_t h0 ⟨rfl, fin⟩)) (fun h0 => br_f (Int32.not_lt.mpr h) (br_f hL (br_f h0 (br_t h ⟨rfl, fin⟩)))))
    · refine br_f hL (br_f (nI_pos (by omega)) (br_t (nI_lt hj (by omega)) ⟨vp_in_nI (by omega) (by omega), br_f hL (br_f (nI_pos (by omega)) (br_f (nI_ge hj (by omega)) ⟨vp_in_nI (by omega) (by omega), ?_, fin⟩))⟩))
      rw [ly_cl (by omega)]; exact (hlist j hj).symm
theorem i_vc_address {k : Nat} {u : SX} {v : SY} (I : i_Rel k u v) (hk : k + 5 ≤ 2560) (v1 : Int32) : wpX_address (fun r => wpY_address (fun r' => r' = r ∧ i_Rel (k + 5) u v) v v1) u v1 := by
  obtain ⟨xbase, xstrip, xllen, xtend, xaend, xlcnt, xlrnd, xlinked, xblamed, xouts, xpc, xsteps, xran, xops, xA, xB, xcnt, xrole, xloc, xglo, xweak, xuse, xrep, xunit, xtgt, xstay, xlong, xlist, xchosen, xplace, ximg, xreg, xstore, xout, ymany, ytend, yend, ymade, yrounds, yentry, ylist, yplace, ysym, yimg, ystay, ywide, ymem, yreg, yout, rfl, rfl, hW, hF, hb, hr, hl⟩ := I
  have fin : i_Rel (k + 5) (xbase, xstrip, xllen, xtend, xaend, xlcnt, xlrnd, xlinked, xblamed, xouts, xpc, xsteps, xran, xops, xA, xB, xcnt, xrole, xloc, xglo, xweak, xuse, xrep, xunit, xtgt, xstay, xlong, xlist, xchosen, xplace, ximg, xreg, xstore, xout) (xbase, xstrip, ymany, xblamed, ytend, yend, ymade, yrounds, yentry, xlinked, xran, xpc, xsteps, xouts, xops, xA, xB, xcnt, xrole, ylist, yplace, ysym, yimg, ystay, ywide, ymem, yreg, yout) := ⟨xbase, xstrip, xllen, xtend, xaend, xlcnt, xlrnd, xlinked, xblamed, xouts, xpc, xsteps, xran, xops, xA, xB, xcnt, xrole, xloc, xglo, xweak, xuse, xrep, xunit, xtgt, xstay, xlong, xlist, xchosen, xplace, ximg, xreg, xstore, xout, ymany, ytend, yend, ymade, yrounds, yentry, ylist, yplace, ysym, yimg, ystay, ywide, ymem, yreg, yout, rfl, rfl, hW, hF, hb, hr, hl⟩
  unfold wpX_address wpY_address
  dsimp only
  by_cases hL : xlinked = 0
  · exact br_t hL (br_t hL ⟨rfl, fin⟩)
  · obtain ⟨n, hn, _, _, _, _, _, _, _, hpl, _, _, hch⟩ := hl hL
    refine br_f hL ?_
    rcases ly_ix3 v1 (n := 16) (by omega) with h | ⟨j, hj, rfl⟩
    · exact ly_xsym0 h (br_t rfl (br_f hL (ly_ysym0 h (br_t rfl ⟨rfl, fin⟩))))
    · have ej : (nI j).toNatClampNeg = j := ly_cl (by omega)
      refine ly_xsym1 hj (br_f (by decide) ⟨vp_in_nI (by omega) (by omega), ?_⟩)
      rw [ej]
      rcases hch j hj with ⟨e1, e2, _⟩ | ⟨t, ht, e1, e2⟩
      · refine br_t e1 (br_f hL (ly_ysym1 hj (br_f (by decide) ⟨vp_in_nI (by omega) (by omega), ?_, fin⟩)))
        exact e2
      · refine br_f (by rw [e1]; exact ly_m1 (by omega)) ⟨vp_in_nI (by omega) (by omega), by rw [e1]; exact vp_in_nI ht (by omega), br_f hL (ly_ysym1 hj (br_f (by decide) ⟨vp_in_nI (by omega) (by omega), ?_, fin⟩))⟩
        rw [e2, e1, ly_cl (by omega)]; exact (hpl t ht).symm
theorem i_vc_where {k : Nat} {u : SX} {v : SY} (I : i_Rel k u v) (hk : k + 5 ≤ 2560) (v1 : Int32) (v2 : Int32) : wpX_where (fun r => wpY_where (fun r' => r' = r ∧ i_Rel (k + 5) u v) v v1 v2) u v1 v2 := by
  obtain ⟨xbase, xstrip, xllen, xtend, xaend, xlcnt, xlrnd, xlinked, xblamed, xouts, xpc, xsteps, xran, xops, xA, xB, xcnt, xrole, xloc, xglo, xweak, xuse, xrep, xunit, xtgt, xstay, xlong, xlist, xchosen, xplace, ximg, xreg, xstore, xout, ymany, ytend, yend, ymade, yrounds, yentry, ylist, yplace, ysym, yimg, ystay, ywide, ymem, yreg, yout, rfl, rfl, hW, hF, hb, hr, hl⟩ := I
  have fin : i_Rel (k + 5) (xbase, xstrip, xllen, xtend, xaend, xlcnt, xlrnd, xlinked, xblamed, xouts, xpc, xsteps, xran, xops, xA, xB, xcnt, xrole, xloc, xglo, xweak, xuse, xrep, xunit, xtgt, xstay, xlong, xlist, xchosen, xplace, ximg, xreg, xstore, xout) (xbase, xstrip, ymany, xblamed, ytend, yend, ymade, yrounds, yentry, xlinked, xran, xpc, xsteps, xouts, xops, xA, xB, xcnt, xrole, ylist, yplace, ysym, yimg, ystay, ywide, ymem, yreg, yout) := ⟨xbase, xstrip, xllen, xtend, xaend, xlcnt, xlrnd, xlinked, xblamed, xouts, xpc, xsteps, xran, xops, xA, xB, xcnt, xrole, xloc, xglo, xweak, xuse, xrep, xunit, xtgt, xstay, xlong, xlist, xchosen, xplace, ximg, xreg, xstore, xout, ymany, ytend, yend, ymade, yrounds, yentry, ylist, yplace, ysym, yimg, ystay, ywide, ymem, yreg, yout, rfl, rfl, hW, hF, hb, hr, hl⟩
  unfold wpX_where wpY_where
  dsimp only
  by_cases hL : xlinked = 0
  · exact br_t hL (br_t hL ⟨rfl, fin⟩)
  · obtain ⟨n, hn, _, _, _, _, _, _, _, hpl, _, _, hch⟩ := hl hL
    refine br_f hL ?_
    rcases ly_ix3 v1 (n := 6) (by omega) with h | ⟨m, hm, rfl⟩
    · exact ly_xmod0 h (br_t rfl (br_f hL (ly_ymod0 h (br_t rfl ⟨rfl, fin⟩))))
    · refine ly_xmod1 hm (br_f (by decide) ?_)
      rcases ly_ix3 v2 (n := 24) (by omega) with h | ⟨j, hj, rfl⟩
      · have E := fun (P : Prop) => br_f (A := (-1 : Int32) = -1 ∧ i_Rel (k + 5) (xbase, xstrip, xllen, xtend, xaend, xlcnt, xlrnd, xlinked, xblamed, xouts, xpc, xsteps, xran, xops, xA, xB, xcnt, xrole, xloc, xglo, xweak, xuse, xrep, xunit, xtgt, xstay, xlong, xlist, xchosen, xplace, ximg, xreg, xstore, xout) (xbase, xstrip, ymany, xblamed, ytend, yend, ymade, yrounds, yentry, xlinked, xran, xpc, xsteps, xouts, xops, xA, xB, xcnt, xrole, ylist, yplace, ysym, yimg, ystay, ywide, ymem, yreg, yout)) hL (ly_ymod1 (post := fun r_2 => (r_2 = 0 → (-1 : Int32) = -1 ∧ i_Rel (k + 5) (xbase, xstrip, xllen, xtend, xaend, xlcnt, xlrnd, xlinked, xblamed, xouts, xpc, xsteps, xran, xops, xA, xB, xcnt, xrole, xloc, xglo, xweak, xuse, xrep, xunit, xtgt, xstay, xlong, xlist, xchosen, xplace, ximg, xreg, xstore, xout) (xbase, xstrip, ymany, xblamed, ytend, yend, ymade, yrounds, yentry, xlinked, xran, xpc, xsteps, xouts, xops, xA, xB, xcnt, xrole, ylist, yplace, ysym, yimg, ystay, ywide, ymem, yreg, yout)) ∧ (¬ r_2 = 0 → wpY_in (fun r_4 => (r_4 = 0 → (-1 : Int32) = -1 ∧ i_Rel (k + 5) (xbase, xstrip, xllen, xtend, xaend, xlcnt, xlrnd, xlinked, xblamed, xouts, xpc, xsteps, xran, xops, xA, xB, xcnt, xrole, xloc, xglo, xweak, xuse, xrep, xunit, xtgt, xstay, xlong, xlist, xchosen, xplace, ximg, xreg, xstore, xout) (xbase, xstrip, ymany, xblamed, ytend, yend, ymade, yrounds, yentry, xlinked, xran, xpc, xsteps, xouts, xops, xA, xB, xcnt, xrole, ylist, yplace, ysym, yimg, ystay, ywide, ymem, yreg, yout)) ∧ (¬ r_4 = 0 → P)) v2 0 23)) hm (br_f (by decide) (ly_yi0 (post := fun r_4 => (r_4 = 0 → (-1 : Int32) = -1 ∧ i_Rel (k + 5) (xbase, xstrip, xllen, xtend, xaend, xlcnt, xlrnd, xlinked, xblamed, xouts, xpc, xsteps, xran, xops, xA, xB, xcnt, xrole, xloc, xglo, xweak, xuse, xrep, xunit, xtgt, xstay, xlong, xlist, xchosen, xplace, ximg, xreg, xstore, xout) (xbase, xstrip, ymany, xblamed, ytend, yend, ymade, yrounds, yentry, xlinked, xran, xpc, xsteps, xouts, xops, xA, xB, xcnt, xrole, ylist, yplace, ysym, yimg, ystay, ywide, ymem, yreg, yout)) ∧ (¬ r_4 = 0 → P)) 23 (by omega) h (br_t rfl ⟨rfl, fin⟩))))
        rcases h with h | h
        · exact br_t h (E _)
        · exact br_c (fun _ => E _) (fun h0 => br_f (Int32.not_lt.mpr h) (E _))
      · have ei : (nI (24 * m + j)).toNatClampNeg = 24 * m + j := ly_cl (by omega)
        refine br_f (nI_pos (by omega)) (br_t (nI_lt (b := 24) hj (by omega)) ?_)
        rw [ly_idx]
        refine ⟨vp_in_nI (by omega) (by omega), br_f hL (ly_ymod1 hm (br_f (by decide) (ly_yi1 23 hj (by omega) (br_f (by decide) ?_))))⟩
        rw [ly_idy, nI_add]
        refine ⟨vp_in_nI (by omega) (by omega), ?_, fin⟩
        rw [ei]; exact (hpl _ (by omega)).symm
theorem i_vc_word {k : Nat} {u : SX} {v : SY} (I : i_Rel k u v) (hk : k + 5 ≤ 2560) (v1 : Int32) : wpX_word (fun r => wpY_word (fun r' => r' = r ∧ i_Rel (k + 5) u v) v v1) u v1 := by
  obtain ⟨xbase, xstrip, xllen, xtend, xaend, xlcnt, xlrnd, xlinked, xblamed, xouts, xpc, xsteps, xran, xops, xA, xB, xcnt, xrole, xloc, xglo, xweak, xuse, xrep, xunit, xtgt, xstay, xlong, xlist, xchosen, xplace, ximg, xreg, xstore, xout, ymany, ytend, yend, ymade, yrounds, yentry, ylist, yplace, ysym, yimg, ystay, ywide, ymem, yreg, yout, rfl, rfl, hW, hF, hb, hr, hl⟩ := I
  have fin : i_Rel (k + 5) (xbase, xstrip, xllen, xtend, xaend, xlcnt, xlrnd, xlinked, xblamed, xouts, xpc, xsteps, xran, xops, xA, xB, xcnt, xrole, xloc, xglo, xweak, xuse, xrep, xunit, xtgt, xstay, xlong, xlist, xchosen, xplace, ximg, xreg, xstore, xout) (xbase, xstrip, ymany, xblamed, ytend, yend, ymade, yrounds, yentry, xlinked, xran, xpc, xsteps, xouts, xops, xA, xB, xcnt, xrole, ylist, yplace, ysym, yimg, ystay, ywide, ymem, yreg, yout) := ⟨xbase, xstrip, xllen, xtend, xaend, xlcnt, xlrnd, xlinked, xblamed, xouts, xpc, xsteps, xran, xops, xA, xB, xcnt, xrole, xloc, xglo, xweak, xuse, xrep, xunit, xtgt, xstay, xlong, xlist, xchosen, xplace, ximg, xreg, xstore, xout, ymany, ytend, yend, ymade, yrounds, yentry, ylist, yplace, ysym, yimg, ystay, ywide, ymem, yreg, yout, rfl, rfl, hW, hF, hb, hr, hl⟩
  unfold wpX_word wpY_word
  dsimp only
  by_cases hL : xlinked = 0
  · exact br_t hL (br_t hL ⟨rfl, fin⟩)
  · obtain ⟨n, hn, _, _, _, _, _, _, _, _, him, _, hch⟩ := hl hL
    refine br_f hL ?_
    rcases ly_ix3 v1 (n := 256) (by omega) with h | ⟨j, hj, rfl⟩
    · exact ly_xadr0 h (br_t rfl (br_f hL (ly_yadr0 h (br_t rfl ⟨rfl, fin⟩))))
    · refine ly_xadr1 hj (br_f (by decide) ⟨vp_in_nI (by omega) (by omega), br_f hL (ly_yadr1 hj (br_f (by decide) ⟨vp_in_nI (by omega) (by omega), ?_, fin⟩))⟩)
      rw [ly_cl (by omega)]; exact (him j hj).symm
theorem i_vc_memory {k : Nat} {u : SX} {v : SY} (I : i_Rel k u v) (hk : k + 5 ≤ 2560) (v1 : Int32) : wpX_memory (fun r => wpY_memory (fun r' => r' = r ∧ i_Rel (k + 5) u v) v v1) u v1 := by
  obtain ⟨xbase, xstrip, xllen, xtend, xaend, xlcnt, xlrnd, xlinked, xblamed, xouts, xpc, xsteps, xran, xops, xA, xB, xcnt, xrole, xloc, xglo, xweak, xuse, xrep, xunit, xtgt, xstay, xlong, xlist, xchosen, xplace, ximg, xreg, xstore, xout, ymany, ytend, yend, ymade, yrounds, yentry, ylist, yplace, ysym, yimg, ystay, ywide, ymem, yreg, yout, rfl, rfl, hW, hF, hb, hr, hl⟩ := I
  have fin : i_Rel (k + 5) (xbase, xstrip, xllen, xtend, xaend, xlcnt, xlrnd, xlinked, xblamed, xouts, xpc, xsteps, xran, xops, xA, xB, xcnt, xrole, xloc, xglo, xweak, xuse, xrep, xunit, xtgt, xstay, xlong, xlist, xchosen, xplace, ximg, xreg, xstore, xout) (xbase, xstrip, ymany, xblamed, ytend, yend, ymade, yrounds, yentry, xlinked, xran, xpc, xsteps, xouts, xops, xA, xB, xcnt, xrole, ylist, yplace, ysym, yimg, ystay, ywide, ymem, yreg, yout) := ⟨xbase, xstrip, xllen, xtend, xaend, xlcnt, xlrnd, xlinked, xblamed, xouts, xpc, xsteps, xran, xops, xA, xB, xcnt, xrole, xloc, xglo, xweak, xuse, xrep, xunit, xtgt, xstay, xlong, xlist, xchosen, xplace, ximg, xreg, xstore, xout, ymany, ytend, yend, ymade, yrounds, yentry, ylist, yplace, ysym, yimg, ystay, ywide, ymem, yreg, yout, rfl, rfl, hW, hF, hb, hr, hl⟩
  unfold wpX_memory wpY_memory
  dsimp only
  by_cases hL : xran = 0
  · exact br_t hL (br_t hL ⟨rfl, fin⟩)
  · obtain ⟨hreg, hmem, o, ho, eo, hout⟩ := hr
    refine br_f hL ?_
    rcases ly_ix3 v1 (n := 256) (by omega) with h | ⟨j, hj, rfl⟩
    · exact ly_xadr0 h (br_t rfl (br_f hL (ly_yadr0 h (br_t rfl ⟨rfl, fin⟩))))
    · refine ly_xadr1 hj (br_f (by decide) ⟨vp_in_nI (by omega) (by omega), br_f hL (ly_yadr1 hj (br_f (by decide) ⟨vp_in_nI (by omega) (by omega), ?_, fin⟩))⟩)
      rw [ly_cl (by omega)]; exact (hmem j hj).symm
theorem i_vc_size {k : Nat} {u : SX} {v : SY} (I : i_Rel k u v) (hk : k + 5 ≤ 2560) (v1 : Int32) : wpX_size (fun r => wpY_size (fun r' => r' = r ∧ i_Rel (k + 5) u v) v v1) u v1 := by
  obtain ⟨xbase, xstrip, xllen, xtend, xaend, xlcnt, xlrnd, xlinked, xblamed, xouts, xpc, xsteps, xran, xops, xA, xB, xcnt, xrole, xloc, xglo, xweak, xuse, xrep, xunit, xtgt, xstay, xlong, xlist, xchosen, xplace, ximg, xreg, xstore, xout, ymany, ytend, yend, ymade, yrounds, yentry, ylist, yplace, ysym, yimg, ystay, ywide, ymem, yreg, yout, rfl, rfl, hW, hF, hb, hr, hl⟩ := I
  have fin : i_Rel (k + 5) (xbase, xstrip, xllen, xtend, xaend, xlcnt, xlrnd, xlinked, xblamed, xouts, xpc, xsteps, xran, xops, xA, xB, xcnt, xrole, xloc, xglo, xweak, xuse, xrep, xunit, xtgt, xstay, xlong, xlist, xchosen, xplace, ximg, xreg, xstore, xout) (xbase, xstrip, ymany, xblamed, ytend, yend, ymade, yrounds, yentry, xlinked, xran, xpc, xsteps, xouts, xops, xA, xB, xcnt, xrole, ylist, yplace, ysym, yimg, ystay, ywide, ymem, yreg, yout) := ⟨xbase, xstrip, xllen, xtend, xaend, xlcnt, xlrnd, xlinked, xblamed, xouts, xpc, xsteps, xran, xops, xA, xB, xcnt, xrole, xloc, xglo, xweak, xuse, xrep, xunit, xtgt, xstay, xlong, xlist, xchosen, xplace, ximg, xreg, xstore, xout, ymany, ytend, yend, ymade, yrounds, yentry, ylist, yplace, ysym, yimg, ystay, ywide, ymem, yreg, yout, rfl, rfl, hW, hF, hb, hr, hl⟩
  unfold wpX_size wpY_size
  dsimp only
  by_cases hL : xlinked = 0
  · exact br_t hL (br_t hL ⟨rfl, fin⟩)
  · obtain ⟨n, hn, _, _, _, e1, e2, e3, e4, _⟩ := hl hL
    refine br_f hL ?_
    rcases ly_ix3 v1 (n := 4) (by omega) with h | ⟨j, hj, rfl⟩
    · have E := fun (P : Prop) => br_f (A := (-1 : Int32) = -1 ∧ i_Rel (k + 5) (xbase, xstrip, xllen, xtend, xaend, xlcnt, xlrnd, xlinked, xblamed, xouts, xpc, xsteps, xran, xops, xA, xB, xcnt, xrole, xloc, xglo, xweak, xuse, xrep, xunit, xtgt, xstay, xlong, xlist, xchosen, xplace, ximg, xreg, xstore, xout) (xbase, xstrip, ymany, xblamed, ytend, yend, ymade, yrounds, yentry, xlinked, xran, xpc, xsteps, xouts, xops, xA, xB, xcnt, xrole, ylist, yplace, ysym, yimg, ystay, ywide, ymem, yreg, yout)) hL (ly_yi0 (post := fun r_2 => (r_2 = 0 → (-1 : Int32) = -1 ∧ i_Rel (k + 5) (xbase, xstrip, xllen, xtend, xaend, xlcnt, xlrnd, xlinked, xblamed, xouts, xpc, xsteps, xran, xops, xA, xB, xcnt, xrole, xloc, xglo, xweak, xuse, xrep, xunit, xtgt, xstay, xlong, xlist, xchosen, xplace, ximg, xreg, xstore, xout) (xbase, xstrip, ymany, xblamed, ytend, yend, ymade, yrounds, yentry, xlinked, xran, xpc, xsteps, xouts, xops, xA, xB, xcnt, xrole, ylist, yplace, ysym, yimg, ystay, ywide, ymem, yreg, yout)) ∧ (¬ r_2 = 0 → P)) 3 (by omega) h (br_t rfl ⟨rfl, fin⟩))
      rcases h with h | h
      · exact br_t h (E _)
      · exact br_c (fun _ => E _) (fun h0 => br_t (ly_ngt (N := 3) (by omega) h h0) (E _))
    · have hj4 : j = 0 ∨ j = 1 ∨ j = 2 ∨ j = 3 := by omega
      rcases hj4 with rfl | rfl | rfl | rfl
      · exact br_f (by decide) (br_f (by decide) (br_t rfl (br_f hL (ly_yi1 3 (by omega) (by omega) (br_f (by decide) (br_t rfl ⟨e1.symm, fin⟩))))))
      · exact br_f (by decide) (br_f (by decide) (br_f (by decide) (br_t rfl (br_f hL (ly_yi1 3 (by omega) (by omega) (br_f (by decide) (br_f (by decide) (br_t rfl ⟨e2.symm, fin⟩))))))))
      · exact br_f (by decide) (br_f (by decide) (br_f (by decide) (br_f (by decide) (br_t rfl (br_f hL (ly_yi1 3 (by omega) (by omega) (br_f (by decide) (br_f (by decide) (br_f (by decide) (br_t rfl ⟨e3.symm, fin⟩))))))))))
      · exact br_f (by decide) (br_f (by decide) (br_f (by decide) (br_f (by decide) (br_f (by decide) (br_t rfl (br_f hL (ly_yi1 3 (by omega) (by omega) (br_f (by decide) (br_f (by decide) (br_f (by decide) (br_f (by decide) ⟨e4.symm, fin⟩)))))))))))
theorem i_vc_state {k : Nat} {u : SX} {v : SY} (I : i_Rel k u v) (hk : k + 5 ≤ 2560) (v1 : Int32) : wpX_state (fun r => wpY_state (fun r' => r' = r ∧ i_Rel (k + 5) u v) v v1) u v1 := by
  obtain ⟨xbase, xstrip, xllen, xtend, xaend, xlcnt, xlrnd, xlinked, xblamed, xouts, xpc, xsteps, xran, xops, xA, xB, xcnt, xrole, xloc, xglo, xweak, xuse, xrep, xunit, xtgt, xstay, xlong, xlist, xchosen, xplace, ximg, xreg, xstore, xout, ymany, ytend, yend, ymade, yrounds, yentry, ylist, yplace, ysym, yimg, ystay, ywide, ymem, yreg, yout, rfl, rfl, hW, hF, hb, hr, hl⟩ := I
  have fin : i_Rel (k + 5) (xbase, xstrip, xllen, xtend, xaend, xlcnt, xlrnd, xlinked, xblamed, xouts, xpc, xsteps, xran, xops, xA, xB, xcnt, xrole, xloc, xglo, xweak, xuse, xrep, xunit, xtgt, xstay, xlong, xlist, xchosen, xplace, ximg, xreg, xstore, xout) (xbase, xstrip, ymany, xblamed, ytend, yend, ymade, yrounds, yentry, xlinked, xran, xpc, xsteps, xouts, xops, xA, xB, xcnt, xrole, ylist, yplace, ysym, yimg, ystay, ywide, ymem, yreg, yout) := ⟨xbase, xstrip, xllen, xtend, xaend, xlcnt, xlrnd, xlinked, xblamed, xouts, xpc, xsteps, xran, xops, xA, xB, xcnt, xrole, xloc, xglo, xweak, xuse, xrep, xunit, xtgt, xstay, xlong, xlist, xchosen, xplace, ximg, xreg, xstore, xout, ymany, ytend, yend, ymade, yrounds, yentry, ylist, yplace, ysym, yimg, ystay, ywide, ymem, yreg, yout, rfl, rfl, hW, hF, hb, hr, hl⟩
  unfold wpX_state wpY_state
  dsimp only
  by_cases hL : xran = 0
  · exact br_t hL (br_t hL ⟨rfl, fin⟩)
  · obtain ⟨hreg, hmem, o, ho, rfl, hout⟩ := hr
    refine br_f hL ?_
    by_cases h0 : v1 < 0
    · exact br_t h0 (br_f hL (br_f (Int32.not_le.mpr h0) ⟨rfl, fin⟩))
    · obtain ⟨j, hj, rfl⟩ := nI_of h0
      refine br_f h0 ?_
      have hy0 : (0 : Int32) ≤ nI j := nI_pos' hj
      by_cases h51 : j < 51
      · refine br_t (nI_lt (b := 51) h51 (by omega)) ?_
        by_cases h8 : j < 8
        · refine br_f (nI_ge (b := 8) h8 (by omega)) ⟨vp_in_nI h8 (by omega), br_f hL (br_t hy0 (br_f (nI_ge (b := 8) h8 (by omega)) ⟨vp_in_nI h8 (by omega), ?_, fin⟩))⟩
          rw [ly_cl (by omega)]; exact (hreg j h8).symm
        · refine br_t (nI_le (a := 8) (by omega) hj) (br_f (nI_nlt (b := 8) (by omega) hj) ?_)
          by_cases h11 : j < 11
          · refine br_f (nI_nlt (a := 10) (by omega) (by omega)) ?_
            have hj3 : j = 8 ∨ j = 9 ∨ j = 10 := by omega
            have Y8 := nI_le (a := 8) (b := j) (by omega) hj
            have Y11 := nI_ge (b := 11) (a := j) h11 (by omega)
            rcases hj3 with rfl | rfl | rfl
            · exact br_t rfl (br_f hL (br_t hy0 (br_t Y8 (br_f Y11 (br_t rfl ⟨rfl, fin⟩)))))
            · exact br_f (by decide) (br_t rfl (br_f hL (br_t hy0 (br_t Y8 (br_f Y11 (br_f (by decide) (br_t rfl ⟨rfl, fin⟩)))))))
            · exact br_f (by decide) (br_f (by decide) (br_t rfl (br_f hL (br_t hy0 (br_t Y8 (br_f Y11 (br_f (by decide) (br_f (by decide) ⟨rfl, fin⟩))))))))
          · have es : nI j - 11 = nI (j - 11) := pk_sub (b := 11) (by omega)
            refine br_t (nI_lt (a := 10) (by omega) hj) ?_
            rw [es]
            refine ⟨vp_in_nI (by omega) (by omega), br_f hL (br_t hy0 (br_t (nI_le (a := 8) (by omega) hj) (br_t (nI_le (a := 11) (by omega) hj) (nm_e (br_f (nI_ge (b := 40) (by omega) (by omega)) ?_)))))⟩
            rw [ly_cl (by omega)]
            have hx := hout (j - 11) (by omega)
            by_cases hlt : j - 11 < o
            · rw [if_pos hlt] at hx
              exact br_f (nI_ge hlt (by omega)) ⟨vp_in_nI (by omega) (by omega), hx.symm, fin⟩
            · rw [if_neg hlt] at hx
              exact br_t (nI_le (by omega) (by omega)) ⟨hx.symm, fin⟩
      · exact br_f (nI_nlt (b := 51) (by omega) hj) (br_f hL (br_t hy0 (br_t (nI_le (a := 8) (by omega) hj) (br_t (nI_le (a := 11) (by omega) hj) (nm_r (pk_sub (b := 11) (by omega)) (br_t (nI_le (a := 40) (by omega) (by omega)) ⟨rfl, fin⟩))))))
end
section
/-! one step of a run, by the op: each side to its result -/
theorem ly_loaded {post : Int32 → Prop} {xbase xstrip xllen xtend xaend xlcnt xlrnd xlinked xblamed xouts xpc xsteps xran : Int32} {xops xA xB xcnt xrole xloc xglo xweak xuse xrep xunit xtgt xstay xlong xlist xchosen xplace ximg xreg xstore xout : Nat → Int32} {c : Nat} (hc : c < 256) (H : post (xstore c)) : wpX_loaded post (xbase, xstrip, xllen, xtend, xaend, xlcnt, xlrnd, xlinked, xblamed, xouts, xpc, xsteps, xran, xops, xA, xB, xcnt, xrole, xloc, xglo, xweak, xuse, xrep, xunit, xtgt, xstay, xlong, xlist, xchosen, xplace, ximg, xreg, xstore, xout) (nI c) := by
  unfold wpX_loaded
  exact ly_xadr1 hc (br_f (by decide) ⟨vp_in_nI hc (by omega), by rw [ly_cl (i := c) (by omega)]; exact H⟩)
theorem ly_keep {post : SX → Prop} {xbase xstrip xllen xtend xaend xlcnt xlrnd xlinked xblamed xouts xpc xsteps xran : Int32} {xops xA xB xcnt xrole xloc xglo xweak xuse xrep xunit xtgt xstay xlong xlist xchosen xplace ximg xreg xstore xout : Nat → Int32} {c : Nat} (hc : c < 256) (v : Int32) (H : post (xbase, xstrip, xllen, xtend, xaend, xlcnt, xlrnd, xlinked, xblamed, xouts, xpc, xsteps, xran, xops, xA, xB, xcnt, xrole, xloc, xglo, xweak, xuse, xrep, xunit, xtgt, xstay, xlong, xlist, xchosen, xplace, ximg, xreg, upd xstore c v, xout)) : wpX_keep post (xbase, xstrip, xllen, xtend, xaend, xlcnt, xlrnd, xlinked, xblamed, xouts, xpc, xsteps, xran, xops, xA, xB, xcnt, xrole, xloc, xglo, xweak, xuse, xrep, xunit, xtgt, xstay, xlong, xlist, xchosen, xplace, ximg, xreg, xstore, xout) (nI c) v := by
  unfold wpX_keep
  exact ly_xadr1 hc (br_f (by decide) ⟨vp_in_nI hc (by omega), nm_r (e' := upd xstore c v) (by rw [ly_cl (i := c) (by omega)]) H⟩)
theorem ly_X1 {post : Int32 → SX → Prop} {xbase xstrip xllen xtend xaend xlcnt xlrnd xlinked xblamed xouts xpc xsteps xran : Int32} {xops xA xB xcnt xrole xloc xglo xweak xuse xrep xunit xtgt xstay xlong xlist xchosen xplace ximg xreg xstore xout : Nat → Int32} {a b : Nat} (ha : a < 8) (hb : b < 8) {z n v nx : Int32} (H : post 0 (xbase, xstrip, xllen, xtend, xaend, xlcnt, xlrnd, xlinked, xblamed, xouts, nx, xsteps, xran, xops, xA, xB, xcnt, xrole, xloc, xglo, xweak, xuse, xrep, xunit, xtgt, xstay, xlong, xlist, xchosen, xplace, ximg, upd xreg a v, xstore, xout)) : wX_step_184 post (nI 1) z (nI a) n (nI b) v nx xbase xstrip xllen xtend xaend xlcnt xlrnd xlinked xblamed xouts xpc xsteps xran xops xA xB xcnt xrole xloc xglo xweak xuse xrep xunit xtgt xstay xlong xlist xchosen xplace ximg xreg xstore xout := br_t (by decide) (br_f (by decide) (br_f (by decide) (br_t rfl (⟨vp_in_nI ha (by omega), nm_r (e' := upd xreg a v) (by rw [ly_cl (i := a) (by omega)]) H⟩))))
theorem ly_X12 {post : Int32 → SX → Prop} {xbase xstrip xllen xtend xaend xlcnt xlrnd xlinked xblamed xouts xpc xsteps xran : Int32} {xops xA xB xcnt xrole xloc xglo xweak xuse xrep xunit xtgt xstay xlong xlist xchosen xplace ximg xreg xstore xout : Nat → Int32} {a b : Nat} (ha : a < 8) (hb : b < 8) {z n v nx : Int32} (H : post 0 (xbase, xstrip, xllen, xtend, xaend, xlcnt, xlrnd, xlinked, xblamed, xouts, nx, xsteps, xran, xops, xA, xB, xcnt, xrole, xloc, xglo, xweak, xuse, xrep, xunit, xtgt, xstay, xlong, xlist, xchosen, xplace, ximg, upd xreg a v, xstore, xout)) : wX_step_184 post (nI 12) z (nI a) n (nI b) v nx xbase xstrip xllen xtend xaend xlcnt xlrnd xlinked xblamed xouts xpc xsteps xran xops xA xB xcnt xrole xloc xglo xweak xuse xrep xunit xtgt xstay xlong xlist xchosen xplace ximg xreg xstore xout := br_f (by decide) (br_t (by decide) (br_f (by decide) (br_f (by decide) (br_f (by decide) (br_f (by decide) (br_f (by decide) (br_f (by decide) (br_f (by decide) (br_f (by decide) (br_f (by decide) (br_f (by decide) (br_f (by decide) (br_f (by decide) (br_f (by decide) (br_t rfl (⟨vp_in_nI ha (by omega), nm_r (e' := upd xreg a v) (by rw [ly_cl (i := a) (by omega)]) H⟩))))))))))))))))
theorem ly_X2 {post : Int32 → SX → Prop} {xbase xstrip xllen xtend xaend xlcnt xlrnd xlinked xblamed xouts xpc xsteps xran : Int32} {xops xA xB xcnt xrole xloc xglo xweak xuse xrep xunit xtgt xstay xlong xlist xchosen xplace ximg xreg xstore xout : Nat → Int32} {a b : Nat} (ha : a < 8) (hb : b < 8) {z n v nx : Int32} (H : post 0 (xbase, xstrip, xllen, xtend, xaend, xlcnt, xlrnd, xlinked, xblamed, xouts, nx, xsteps, xran, xops, xA, xB, xcnt, xrole, xloc, xglo, xweak, xuse, xrep, xunit, xtgt, xstay, xlong, xlist, xchosen, xplace, ximg, upd xreg a (xreg a + xreg b), xstore, xout)) : wX_step_184 post (nI 2) z (nI a) n (nI b) v nx xbase xstrip xllen xtend xaend xlcnt xlrnd xlinked xblamed xouts xpc xsteps xran xops xA xB xcnt xrole xloc xglo xweak xuse xrep xunit xtgt xstay xlong xlist xchosen xplace ximg xreg xstore xout := br_t (by decide) (br_f (by decide) (br_f (by decide) (br_f (by decide) (br_t rfl (⟨vp_in_nI ha (by omega), vp_in_nI hb (by omega), vp_in_nI ha (by omega), nm_r (e' := upd xreg a (xreg a + xreg b)) (by rw [ly_cl (i := a) (by omega), ly_cl (i := b) (by omega)]) H⟩)))))
theorem ly_X3 {post : Int32 → SX → Prop} {xbase xstrip xllen xtend xaend xlcnt xlrnd xlinked xblamed xouts xpc xsteps xran : Int32} {xops xA xB xcnt xrole xloc xglo xweak xuse xrep xunit xtgt xstay xlong xlist xchosen xplace ximg xreg xstore xout : Nat → Int32} {a b : Nat} (ha : a < 8) (hb : b < 8) {z n v nx : Int32} (H : post 0 (xbase, xstrip, xllen, xtend, xaend, xlcnt, xlrnd, xlinked, xblamed, xouts, nx, xsteps, xran, xops, xA, xB, xcnt, xrole, xloc, xglo, xweak, xuse, xrep, xunit, xtgt, xstay, xlong, xlist, xchosen, xplace, ximg, upd xreg a (xreg a - xreg b), xstore, xout)) : wX_step_184 post (nI 3) z (nI a) n (nI b) v nx xbase xstrip xllen xtend xaend xlcnt xlrnd xlinked xblamed xouts xpc xsteps xran xops xA xB xcnt xrole xloc xglo xweak xuse xrep xunit xtgt xstay xlong xlist xchosen xplace ximg xreg xstore xout := br_t (by decide) (br_f (by decide) (br_f (by decide) (br_f (by decide) (br_f (by decide) (br_t rfl (⟨vp_in_nI ha (by omega), vp_in_nI hb (by omega), vp_in_nI ha (by omega), nm_r (e' := upd xreg a (xreg a - xreg b)) (by rw [ly_cl (i := a) (by omega), ly_cl (i := b) (by omega)]) H⟩))))))
theorem ly_X4 {post : Int32 → SX → Prop} {xbase xstrip xllen xtend xaend xlcnt xlrnd xlinked xblamed xouts xpc xsteps xran : Int32} {xops xA xB xcnt xrole xloc xglo xweak xuse xrep xunit xtgt xstay xlong xlist xchosen xplace ximg xreg xstore xout : Nat → Int32} {a b : Nat} (ha : a < 8) (hb : b < 8) {z n v nx : Int32} (H : post 0 (xbase, xstrip, xllen, xtend, xaend, xlcnt, xlrnd, xlinked, xblamed, xouts, nx, xsteps, xran, xops, xA, xB, xcnt, xrole, xloc, xglo, xweak, xuse, xrep, xunit, xtgt, xstay, xlong, xlist, xchosen, xplace, ximg, upd xreg a (xreg a * xreg b), xstore, xout)) : wX_step_184 post (nI 4) z (nI a) n (nI b) v nx xbase xstrip xllen xtend xaend xlcnt xlrnd xlinked xblamed xouts xpc xsteps xran xops xA xB xcnt xrole xloc xglo xweak xuse xrep xunit xtgt xstay xlong xlist xchosen xplace ximg xreg xstore xout := br_t (by decide) (br_f (by decide) (br_f (by decide) (br_f (by decide) (br_f (by decide) (br_f (by decide) (br_t rfl (⟨vp_in_nI ha (by omega), vp_in_nI hb (by omega), vp_in_nI ha (by omega), nm_r (e' := upd xreg a (xreg a * xreg b)) (by rw [ly_cl (i := a) (by omega), ly_cl (i := b) (by omega)]) H⟩)))))))
theorem ly_X5 {post : Int32 → SX → Prop} {xbase xstrip xllen xtend xaend xlcnt xlrnd xlinked xblamed xouts xpc xsteps xran : Int32} {xops xA xB xcnt xrole xloc xglo xweak xuse xrep xunit xtgt xstay xlong xlist xchosen xplace ximg xreg xstore xout : Nat → Int32} {a b : Nat} (ha : a < 8) (hb : b < 8) {z n v nx : Int32} (H : post 0 (xbase, xstrip, xllen, xtend, xaend, xlcnt, xlrnd, xlinked, xblamed, xouts, nx, xsteps, xran, xops, xA, xB, xcnt, xrole, xloc, xglo, xweak, xuse, xrep, xunit, xtgt, xstay, xlong, xlist, xchosen, xplace, ximg, upd xreg a (if xreg b ≤ xreg a then 0 else 1), xstore, xout)) : wX_step_184 post (nI 5) z (nI a) n (nI b) v nx xbase xstrip xllen xtend xaend xlcnt xlrnd xlinked xblamed xouts xpc xsteps xran xops xA xB xcnt xrole xloc xglo xweak xuse xrep xunit xtgt xstay xlong xlist xchosen xplace ximg xreg xstore xout := by
  have ea : (nI a).toNatClampNeg = a := ly_cl (by omega)
  have eb : (nI b).toNatClampNeg = b := ly_cl (by omega)
  by_cases h : xreg b ≤ xreg a
  · rw [if_pos h] at H
    exact br_t (by decide) (br_f (by decide) (br_f (by decide) (br_f (by decide) (br_f (by decide) (br_f (by decide) (br_f (by decide) (br_t rfl (⟨vp_in_nI ha (by omega), vp_in_nI hb (by omega), br_t (by rw [ea, eb]; exact h) ⟨vp_in_nI ha (by omega), nm_r (e' := upd xreg a 0) (by rw [ea]) H⟩⟩))))))))
  · rw [if_neg h] at H
    exact br_t (by decide) (br_f (by decide) (br_f (by decide) (br_f (by decide) (br_f (by decide) (br_f (by decide) (br_f (by decide) (br_t rfl (⟨vp_in_nI ha (by omega), vp_in_nI hb (by omega), br_f (by rw [ea, eb]; exact h) ⟨vp_in_nI ha (by omega), nm_r (e' := upd xreg a 1) (by rw [ea]) H⟩⟩))))))))
theorem ly_X6 {post : Int32 → SX → Prop} {xbase xstrip xllen xtend xaend xlcnt xlrnd xlinked xblamed xouts xpc xsteps xran : Int32} {xops xA xB xcnt xrole xloc xglo xweak xuse xrep xunit xtgt xstay xlong xlist xchosen xplace ximg xreg xstore xout : Nat → Int32} {a b : Nat} (ha : a < 8) (hb : b < 8) {z n v nx : Int32} {c : Nat} (hc : c < 256) (hr : xreg b = nI c) (H : post 0 (xbase, xstrip, xllen, xtend, xaend, xlcnt, xlrnd, xlinked, xblamed, xouts, nx, xsteps, xran, xops, xA, xB, xcnt, xrole, xloc, xglo, xweak, xuse, xrep, xunit, xtgt, xstay, xlong, xlist, xchosen, xplace, ximg, upd xreg a (xstore c), xstore, xout)) : wX_step_184 post (nI 6) z (nI a) n (nI b) v nx xbase xstrip xllen xtend xaend xlcnt xlrnd xlinked xblamed xouts xpc xsteps xran xops xA xB xcnt xrole xloc xglo xweak xuse xrep xunit xtgt xstay xlong xlist xchosen xplace ximg xreg xstore xout := by
  have ea : (nI a).toNatClampNeg = a := ly_cl (by omega)
  have eb : (nI b).toNatClampNeg = b := ly_cl (by omega)
  have ec : (nI c).toNatClampNeg = c := ly_cl (by omega)
  refine br_t (by decide) (br_f (by decide) (br_f (by decide) (br_f (by decide) (br_f (by decide) (br_f (by decide) (br_f (by decide) (br_f (by decide) (br_t rfl (⟨vp_in_nI hb (by omega), ?_⟩)))))))))
  rw [eb, hr]
  refine ly_loaded (hc := hc) (H := ?_) ..
  exact ⟨vp_in_nI ha (by omega), nm_r (e' := upd xreg a (xstore c)) (by rw [ea]) H⟩
theorem ly_X7 {post : Int32 → SX → Prop} {xbase xstrip xllen xtend xaend xlcnt xlrnd xlinked xblamed xouts xpc xsteps xran : Int32} {xops xA xB xcnt xrole xloc xglo xweak xuse xrep xunit xtgt xstay xlong xlist xchosen xplace ximg xreg xstore xout : Nat → Int32} {a b : Nat} (ha : a < 8) (hb : b < 8) {z n v nx : Int32} {c : Nat} (hc : c < 256) (hr : xreg b = nI c) (H : post 0 (xbase, xstrip, xllen, xtend, xaend, xlcnt, xlrnd, xlinked, xblamed, xouts, nx, xsteps, xran, xops, xA, xB, xcnt, xrole, xloc, xglo, xweak, xuse, xrep, xunit, xtgt, xstay, xlong, xlist, xchosen, xplace, ximg, xreg, upd xstore c (xreg a), xout)) : wX_step_184 post (nI 7) z (nI a) n (nI b) v nx xbase xstrip xllen xtend xaend xlcnt xlrnd xlinked xblamed xouts xpc xsteps xran xops xA xB xcnt xrole xloc xglo xweak xuse xrep xunit xtgt xstay xlong xlist xchosen xplace ximg xreg xstore xout := by
  have ea : (nI a).toNatClampNeg = a := ly_cl (by omega)
  have eb : (nI b).toNatClampNeg = b := ly_cl (by omega)
  have ec : (nI c).toNatClampNeg = c := ly_cl (by omega)
  refine br_t (by decide) (br_f (by decide) (br_f (by decide) (br_f (by decide) (br_f (by decide) (br_f (by decide) (br_f (by decide) (br_f (by decide) (br_f (by decide) (br_t rfl (⟨vp_in_nI hb (by omega), vp_in_nI ha (by omega), ?_⟩))))))))))
  rw [ea, eb, hr]
  exact ly_keep (hc := hc) (H := H)
theorem ly_X8 {post : Int32 → SX → Prop} {xbase xstrip xllen xtend xaend xlcnt xlrnd xlinked xblamed xouts xpc xsteps xran : Int32} {xops xA xB xcnt xrole xloc xglo xweak xuse xrep xunit xtgt xstay xlong xlist xchosen xplace ximg xreg xstore xout : Nat → Int32} {a b : Nat} (ha : a < 8) (hb : b < 8) {z n v nx : Int32} (H : post 0 (xbase, xstrip, xllen, xtend, xaend, xlcnt, xlrnd, xlinked, xblamed, xouts, if z = 0 then xpc + n else v, xsteps, xran, xops, xA, xB, xcnt, xrole, xloc, xglo, xweak, xuse, xrep, xunit, xtgt, xstay, xlong, xlist, xchosen, xplace, ximg, xreg, xstore, xout)) : wX_step_184 post (nI 8) z (nI a) n (nI b) v nx xbase xstrip xllen xtend xaend xlcnt xlrnd xlinked xblamed xouts xpc xsteps xran xops xA xB xcnt xrole xloc xglo xweak xuse xrep xunit xtgt xstay xlong xlist xchosen xplace ximg xreg xstore xout := by
  have ea : (nI a).toNatClampNeg = a := ly_cl (by omega)
  by_cases hz : z = 0
  · rw [if_pos hz] at H
    exact br_f (by decide) (br_f (by decide) (br_t hz (br_f (by decide) (br_f (by decide) (br_t rfl (H))))))
  · rw [if_neg hz] at H
    exact br_f (by decide) (br_f (by decide) (br_f hz (br_f (by decide) (br_f (by decide) (br_t rfl (H))))))
theorem ly_X10 {post : Int32 → SX → Prop} {xbase xstrip xllen xtend xaend xlcnt xlrnd xlinked xblamed xouts xpc xsteps xran : Int32} {xops xA xB xcnt xrole xloc xglo xweak xuse xrep xunit xtgt xstay xlong xlist xchosen xplace ximg xreg xstore xout : Nat → Int32} {a b : Nat} (ha : a < 8) (hb : b < 8) {z n v nx : Int32} (H : post 0 (xbase, xstrip, xllen, xtend, xaend, xlcnt, xlrnd, xlinked, xblamed, xouts, if z = 0 then xpc + n else v, xsteps, xran, xops, xA, xB, xcnt, xrole, xloc, xglo, xweak, xuse, xrep, xunit, xtgt, xstay, xlong, xlist, xchosen, xplace, ximg, upd xreg 7 nx, xstore, xout)) : wX_step_184 post (nI 10) z (nI a) n (nI b) v nx xbase xstrip xllen xtend xaend xlcnt xlrnd xlinked xblamed xouts xpc xsteps xran xops xA xB xcnt xrole xloc xglo xweak xuse xrep xunit xtgt xstay xlong xlist xchosen xplace ximg xreg xstore xout := by
  have ea : (nI a).toNatClampNeg = a := ly_cl (by omega)
  by_cases hz : z = 0
  · rw [if_pos hz] at H
    exact br_f (by decide) (br_f (by decide) (br_t hz (br_f (by decide) (br_f (by decide) (br_f (by decide) (br_f (by decide) (br_t rfl (nm_e H))))))))
  · rw [if_neg hz] at H
    exact br_f (by decide) (br_f (by decide) (br_f hz (br_f (by decide) (br_f (by decide) (br_f (by decide) (br_f (by decide) (br_t rfl (nm_e H))))))))
theorem ly_X11 {post : Int32 → SX → Prop} {xbase xstrip xllen xtend xaend xlcnt xlrnd xlinked xblamed xouts xpc xsteps xran : Int32} {xops xA xB xcnt xrole xloc xglo xweak xuse xrep xunit xtgt xstay xlong xlist xchosen xplace ximg xreg xstore xout : Nat → Int32} {a b : Nat} (ha : a < 8) (hb : b < 8) {z n v nx : Int32} (H : post 0 (xbase, xstrip, xllen, xtend, xaend, xlcnt, xlrnd, xlinked, xblamed, xouts, xreg 7, xsteps, xran, xops, xA, xB, xcnt, xrole, xloc, xglo, xweak, xuse, xrep, xunit, xtgt, xstay, xlong, xlist, xchosen, xplace, ximg, xreg, xstore, xout)) : wX_step_184 post (nI 11) z (nI a) n (nI b) v nx xbase xstrip xllen xtend xaend xlcnt xlrnd xlinked xblamed xouts xpc xsteps xran xops xA xB xcnt xrole xloc xglo xweak xuse xrep xunit xtgt xstay xlong xlist xchosen xplace ximg xreg xstore xout := by
  by_cases hz : z = 0
  · exact br_f (by decide) (br_f (by decide) (br_t hz (br_f (by decide) (br_t (by decide) (H)))))
  · exact br_f (by decide) (br_f (by decide) (br_f hz (br_f (by decide) (br_t (by decide) (H)))))
theorem ly_X9 {post : Int32 → SX → Prop} {xbase xstrip xllen xtend xaend xlcnt xlrnd xlinked xblamed xouts xpc xsteps xran : Int32} {xops xA xB xcnt xrole xloc xglo xweak xuse xrep xunit xtgt xstay xlong xlist xchosen xplace ximg xreg xstore xout : Nat → Int32} {a b : Nat} (ha : a < 8) (hb : b < 8) {z n v nx : Int32} (H : post 0 (xbase, xstrip, xllen, xtend, xaend, xlcnt, xlrnd, xlinked, xblamed, xouts, if xreg a = 0 then (if z = 0 then xpc + n else v) else nx, xsteps, xran, xops, xA, xB, xcnt, xrole, xloc, xglo, xweak, xuse, xrep, xunit, xtgt, xstay, xlong, xlist, xchosen, xplace, ximg, xreg, xstore, xout)) : wX_step_184 post (nI 9) z (nI a) n (nI b) v nx xbase xstrip xllen xtend xaend xlcnt xlrnd xlinked xblamed xouts xpc xsteps xran xops xA xB xcnt xrole xloc xglo xweak xuse xrep xunit xtgt xstay xlong xlist xchosen xplace ximg xreg xstore xout := by
  have ea : (nI a).toNatClampNeg = a := ly_cl (by omega)
  by_cases hz : z = 0
  · rw [if_pos hz] at H
    by_cases hr : xreg a = 0
    · rw [if_pos hr] at H
      exact br_f (by decide) (br_f (by decide) (br_t hz (br_f (by decide) (br_f (by decide) (br_f (by decide) (br_t rfl (⟨vp_in_nI ha (by omega), br_t (by rw [ea]; exact hr) H⟩)))))))
    · rw [if_neg hr] at H
      exact br_f (by decide) (br_f (by decide) (br_t hz (br_f (by decide) (br_f (by decide) (br_f (by decide) (br_t rfl (⟨vp_in_nI ha (by omega), br_f (by rw [ea]; exact hr) H⟩)))))))
  · rw [if_neg hz] at H
    by_cases hr : xreg a = 0
    · rw [if_pos hr] at H
      exact br_f (by decide) (br_f (by decide) (br_f hz (br_f (by decide) (br_f (by decide) (br_f (by decide) (br_t rfl (⟨vp_in_nI ha (by omega), br_t (by rw [ea]; exact hr) H⟩)))))))
    · rw [if_neg hr] at H
      exact br_f (by decide) (br_f (by decide) (br_f hz (br_f (by decide) (br_f (by decide) (br_f (by decide) (br_t rfl (⟨vp_in_nI ha (by omega), br_f (by rw [ea]; exact hr) H⟩)))))))
theorem ly_X13 {post : Int32 → SX → Prop} {xbase xstrip xllen xtend xaend xlcnt xlrnd xlinked xblamed xouts xpc xsteps xran : Int32} {xops xA xB xcnt xrole xloc xglo xweak xuse xrep xunit xtgt xstay xlong xlist xchosen xplace ximg xreg xstore xout : Nat → Int32} {a b : Nat} (ha : a < 8) (hb : b < 8) {z n v nx : Int32} {w : Nat} (hw : xouts = nI w) (hwb : w ≤ 300) (H : post 0 (xbase, xstrip, xllen, xtend, xaend, xlcnt, xlrnd, xlinked, xblamed, nI (w + 1), nx, xsteps, xran, xops, xA, xB, xcnt, xrole, xloc, xglo, xweak, xuse, xrep, xunit, xtgt, xstay, xlong, xlist, xchosen, xplace, ximg, xreg, xstore, if w < 40 then upd xout w (xreg a) else xout)) : wX_step_184 post (nI 13) z (nI a) n (nI b) v nx xbase xstrip xllen xtend xaend xlcnt xlrnd xlinked xblamed xouts xpc xsteps xran xops xA xB xcnt xrole xloc xglo xweak xuse xrep xunit xtgt xstay xlong xlist xchosen xplace ximg xreg xstore xout := by
  have ea : (nI a).toNatClampNeg = a := ly_cl (by omega)
  have ew : (nI w).toNatClampNeg = w := ly_cl (by omega)
  subst hw
  by_cases h : w < 40
  · rw [if_pos h] at H
    exact br_f (by decide) (br_t (by decide) (br_f (by decide) (br_t (by decide) (⟨vp_in_nI ha (by omega), br_f (nI_ge (b := 40) h (by omega)) ⟨vp_in_nI h (by omega), nm_r (e' := upd xout w (xreg a)) (by rw [ea, ew]) (nm_r (nI_1 w) H)⟩⟩))))
  · rw [if_neg h] at H
    exact br_f (by decide) (br_t (by decide) (br_f (by decide) (br_t (by decide) (⟨vp_in_nI ha (by omega), br_t (nI_le (a := 40) (by omega) (by omega)) (nm_r (nI_1 w) H)⟩))))
theorem ly_Y1 {post : Int32 → SY → Prop} {yorg ystrip ymany yculp ytend yend ymade yrounds yentry ylinked yran ypc ysteps youts : Int32} {yops yA yB ycnt yrole ylist yplace ysym yimg ystay ywide ymem yreg yout : Nat → Int32} {a : Nat} (ha : a < 8) {s : Nat} (hs : ysteps = nI s) {n nx z v x y : Int32} (H : post 0 (yorg, ystrip, ymany, yculp, ytend, yend, ymade, yrounds, yentry, ylinked, yran, nx, nI (s + 1), youts, yops, yA, yB, ycnt, yrole, ylist, yplace, ysym, yimg, ystay, ywide, ymem, upd yreg a v, yout)) : wY_step_187 post (nI 1) (nI a) n nx z v x y yorg ystrip ymany yculp ytend yend ymade yrounds yentry ylinked yran ypc ysteps youts yops yA yB ycnt yrole ylist yplace ysym yimg ystay ywide ymem yreg yout := by
  subst hs
  have ea : (nI a).toNatClampNeg = a := ly_cl (by omega)
  exact nm_r (nI_1 s) (br_f (by decide) (br_t rfl (⟨vp_in_nI ha (by omega), nm_r (e' := upd yreg a v) (by rw [ea]) (br_f (by decide) (br_f (by decide) (br_f (by decide) (br_f (by decide) (br_f (by decide) (br_f (by decide) (br_f (by decide) (br_f (by decide) (br_f (by decide) (br_f (by decide) (br_t rfl (br_f (by decide) (br_f (by decide) (H))))))))))))))⟩)))
theorem ly_Y12 {post : Int32 → SY → Prop} {yorg ystrip ymany yculp ytend yend ymade yrounds yentry ylinked yran ypc ysteps youts : Int32} {yops yA yB ycnt yrole ylist yplace ysym yimg ystay ywide ymem yreg yout : Nat → Int32} {a : Nat} (ha : a < 8) {s : Nat} (hs : ysteps = nI s) {n nx z v x y : Int32} (H : post 0 (yorg, ystrip, ymany, yculp, ytend, yend, ymade, yrounds, yentry, ylinked, yran, nx, nI (s + 1), youts, yops, yA, yB, ycnt, yrole, ylist, yplace, ysym, yimg, ystay, ywide, ymem, upd yreg a v, yout)) : wY_step_187 post (nI 12) (nI a) n nx z v x y yorg ystrip ymany yculp ytend yend ymade yrounds yentry ylinked yran ypc ysteps youts yops yA yB ycnt yrole ylist yplace ysym yimg ystay ywide ymem yreg yout := by
  subst hs
  have ea : (nI a).toNatClampNeg = a := ly_cl (by omega)
  exact nm_r (nI_1 s) (br_f (by decide) (br_f (by decide) (br_t rfl (⟨vp_in_nI ha (by omega), nm_r (e' := upd yreg a v) (by rw [ea]) (br_f (by decide) (br_f (by decide) (br_f (by decide) (br_f (by decide) (br_f (by decide) (br_f (by decide) (br_f (by decide) (br_f (by decide) (br_f (by decide) (br_f (by decide) (br_t rfl (br_f (by decide) (br_f (by decide) (H))))))))))))))⟩))))
theorem ly_Y2 {post : Int32 → SY → Prop} {yorg ystrip ymany yculp ytend yend ymade yrounds yentry ylinked yran ypc ysteps youts : Int32} {yops yA yB ycnt yrole ylist yplace ysym yimg ystay ywide ymem yreg yout : Nat → Int32} {a : Nat} (ha : a < 8) {s : Nat} (hs : ysteps = nI s) {n nx z v x y : Int32} (H : post 0 (yorg, ystrip, ymany, yculp, ytend, yend, ymade, yrounds, yentry, ylinked, yran, nx, nI (s + 1), youts, yops, yA, yB, ycnt, yrole, ylist, yplace, ysym, yimg, ystay, ywide, ymem, upd yreg a (x + y), yout)) : wY_step_187 post (nI 2) (nI a) n nx z v x y yorg ystrip ymany yculp ytend yend ymade yrounds yentry ylinked yran ypc ysteps youts yops yA yB ycnt yrole ylist yplace ysym yimg ystay ywide ymem yreg yout := by
  subst hs
  have ea : (nI a).toNatClampNeg = a := ly_cl (by omega)
  exact nm_r (nI_1 s) (br_f (by decide) (br_f (by decide) (br_f (by decide) (br_t rfl (⟨vp_in_nI ha (by omega), nm_r (e' := upd yreg a (x + y)) (by rw [ea]) (br_f (by decide) (br_f (by decide) (br_f (by decide) (br_f (by decide) (br_f (by decide) (br_f (by decide) (br_f (by decide) (br_f (by decide) (br_f (by decide) (br_t rfl (br_f (by decide) (br_f (by decide) (H)))))))))))))⟩)))))
theorem ly_Y3 {post : Int32 → SY → Prop} {yorg ystrip ymany yculp ytend yend ymade yrounds yentry ylinked yran ypc ysteps youts : Int32} {yops yA yB ycnt yrole ylist yplace ysym yimg ystay ywide ymem yreg yout : Nat → Int32} {a : Nat} (ha : a < 8) {s : Nat} (hs : ysteps = nI s) {n nx z v x y : Int32} (H : post 0 (yorg, ystrip, ymany, yculp, ytend, yend, ymade, yrounds, yentry, ylinked, yran, nx, nI (s + 1), youts, yops, yA, yB, ycnt, yrole, ylist, yplace, ysym, yimg, ystay, ywide, ymem, upd yreg a (x - y), yout)) : wY_step_187 post (nI 3) (nI a) n nx z v x y yorg ystrip ymany yculp ytend yend ymade yrounds yentry ylinked yran ypc ysteps youts yops yA yB ycnt yrole ylist yplace ysym yimg ystay ywide ymem yreg yout := by
  subst hs
  have ea : (nI a).toNatClampNeg = a := ly_cl (by omega)
  exact nm_r (nI_1 s) (br_f (by decide) (br_f (by decide) (br_f (by decide) (br_f (by decide) (br_t rfl (⟨vp_in_nI ha (by omega), nm_r (e' := upd yreg a (x - y)) (by rw [ea]) (br_f (by decide) (br_f (by decide) (br_f (by decide) (br_f (by decide) (br_f (by decide) (br_f (by decide) (br_f (by decide) (br_f (by decide) (br_t rfl (br_f (by decide) (br_f (by decide) (H))))))))))))⟩))))))
theorem ly_Y4 {post : Int32 → SY → Prop} {yorg ystrip ymany yculp ytend yend ymade yrounds yentry ylinked yran ypc ysteps youts : Int32} {yops yA yB ycnt yrole ylist yplace ysym yimg ystay ywide ymem yreg yout : Nat → Int32} {a : Nat} (ha : a < 8) {s : Nat} (hs : ysteps = nI s) {n nx z v x y : Int32} (H : post 0 (yorg, ystrip, ymany, yculp, ytend, yend, ymade, yrounds, yentry, ylinked, yran, nx, nI (s + 1), youts, yops, yA, yB, ycnt, yrole, ylist, yplace, ysym, yimg, ystay, ywide, ymem, upd yreg a (x * y), yout)) : wY_step_187 post (nI 4) (nI a) n nx z v x y yorg ystrip ymany yculp ytend yend ymade yrounds yentry ylinked yran ypc ysteps youts yops yA yB ycnt yrole ylist yplace ysym yimg ystay ywide ymem yreg yout := by
  subst hs
  have ea : (nI a).toNatClampNeg = a := ly_cl (by omega)
  exact nm_r (nI_1 s) (br_f (by decide) (br_f (by decide) (br_f (by decide) (br_f (by decide) (br_f (by decide) (br_t rfl (⟨vp_in_nI ha (by omega), nm_r (e' := upd yreg a (x * y)) (by rw [ea]) (br_f (by decide) (br_f (by decide) (br_f (by decide) (br_f (by decide) (br_f (by decide) (br_f (by decide) (br_f (by decide) (br_t rfl (br_f (by decide) (br_f (by decide) (H)))))))))))⟩)))))))
theorem ly_Y5 {post : Int32 → SY → Prop} {yorg ystrip ymany yculp ytend yend ymade yrounds yentry ylinked yran ypc ysteps youts : Int32} {yops yA yB ycnt yrole ylist yplace ysym yimg ystay ywide ymem yreg yout : Nat → Int32} {a : Nat} (ha : a < 8) {s : Nat} (hs : ysteps = nI s) {n nx z v x y : Int32} (H : post 0 (yorg, ystrip, ymany, yculp, ytend, yend, ymade, yrounds, yentry, ylinked, yran, nx, nI (s + 1), youts, yops, yA, yB, ycnt, yrole, ylist, yplace, ysym, yimg, ystay, ywide, ymem, upd yreg a (if y ≤ x then 0 else 1), yout)) : wY_step_187 post (nI 5) (nI a) n nx z v x y yorg ystrip ymany yculp ytend yend ymade yrounds yentry ylinked yran ypc ysteps youts yops yA yB ycnt yrole ylist yplace ysym yimg ystay ywide ymem yreg yout := by
  subst hs
  have ea : (nI a).toNatClampNeg = a := ly_cl (by omega)
  by_cases h : y ≤ x
  · rw [if_pos h] at H
    exact nm_r (nI_1 s) (br_f (by decide) (br_f (by decide) (br_f (by decide) (br_f (by decide) (br_f (by decide) (br_f (by decide) (br_t rfl (br_t h ⟨vp_in_nI ha (by omega), nm_r (e' := upd yreg a 0) (by rw [ea]) (br_f (by decide) (br_f (by decide) (br_f (by decide) (br_f (by decide) (br_f (by decide) (br_f (by decide) (br_t rfl (br_f (by decide) (br_f (by decide) (H))))))))))⟩))))))))
  · rw [if_neg h] at H
    exact nm_r (nI_1 s) (br_f (by decide) (br_f (by decide) (br_f (by decide) (br_f (by decide) (br_f (by decide) (br_f (by decide) (br_t rfl (br_f h ⟨vp_in_nI ha (by omega), nm_r (e' := upd yreg a 1) (by rw [ea]) (br_f (by decide) (br_f (by decide) (br_f (by decide) (br_f (by decide) (br_f (by decide) (br_f (by decide) (br_t rfl (br_f (by decide) (br_f (by decide) (H))))))))))⟩))))))))
theorem ly_Y6 {post : Int32 → SY → Prop} {yorg ystrip ymany yculp ytend yend ymade yrounds yentry ylinked yran ypc ysteps youts : Int32} {yops yA yB ycnt yrole ylist yplace ysym yimg ystay ywide ymem yreg yout : Nat → Int32} {a : Nat} (ha : a < 8) {s : Nat} (hs : ysteps = nI s) {n nx z v x y : Int32} {c : Nat} (hc : c < 256) (hy : y = nI c) (H : post 0 (yorg, ystrip, ymany, yculp, ytend, yend, ymade, yrounds, yentry, ylinked, yran, nx, nI (s + 1), youts, yops, yA, yB, ycnt, yrole, ylist, yplace, ysym, yimg, ystay, ywide, ymem, upd yreg a (ymem c), yout)) : wY_step_187 post (nI 6) (nI a) n nx z v x y yorg ystrip ymany yculp ytend yend ymade yrounds yentry ylinked yran ypc ysteps youts yops yA yB ycnt yrole ylist yplace ysym yimg ystay ywide ymem yreg yout := by
  subst hs
  have ea : (nI a).toNatClampNeg = a := ly_cl (by omega)
  subst hy
  exact nm_r (nI_1 s) (br_f (by decide) (br_f (by decide) (br_f (by decide) (br_f (by decide) (br_f (by decide) (br_f (by decide) (br_f (by decide) (br_t rfl (⟨vp_in_nI hc (by omega), vp_in_nI ha (by omega), nm_r (e' := upd yreg a (ymem c)) (by rw [ea, ly_cl (i := c) (by omega)]) (br_f (by decide) (br_f (by decide) (br_f (by decide) (br_f (by decide) (br_f (by decide) (br_t rfl (br_f (by decide) (br_f (by decide) (H)))))))))⟩)))))))))
theorem ly_Y7 {post : Int32 → SY → Prop} {yorg ystrip ymany yculp ytend yend ymade yrounds yentry ylinked yran ypc ysteps youts : Int32} {yops yA yB ycnt yrole ylist yplace ysym yimg ystay ywide ymem yreg yout : Nat → Int32} {a : Nat} (ha : a < 8) {s : Nat} (hs : ysteps = nI s) {n nx z v x y : Int32} {c : Nat} (hc : c < 256) (hy : y = nI c) (H : post 0 (yorg, ystrip, ymany, yculp, ytend, yend, ymade, yrounds, yentry, ylinked, yran, nx, nI (s + 1), youts, yops, yA, yB, ycnt, yrole, ylist, yplace, ysym, yimg, ystay, ywide, upd ymem c x, yreg, yout)) : wY_step_187 post (nI 7) (nI a) n nx z v x y yorg ystrip ymany yculp ytend yend ymade yrounds yentry ylinked yran ypc ysteps youts yops yA yB ycnt yrole ylist yplace ysym yimg ystay ywide ymem yreg yout := by
  subst hs
  have ea : (nI a).toNatClampNeg = a := ly_cl (by omega)
  subst hy
  exact nm_r (nI_1 s) (br_f (by decide) (br_f (by decide) (br_f (by decide) (br_f (by decide) (br_f (by decide) (br_f (by decide) (br_f (by decide) (br_f (by decide) (br_t rfl (⟨vp_in_nI hc (by omega), nm_r (e' := upd ymem c x) (by rw [ly_cl (i := c) (by omega)]) (br_f (by decide) (br_f (by decide) (br_f (by decide) (br_f (by decide) (br_t rfl (br_f (by decide) (br_f (by decide) (H))))))))⟩))))))))))
theorem ly_Y13 {post : Int32 → SY → Prop} {yorg ystrip ymany yculp ytend yend ymade yrounds yentry ylinked yran ypc ysteps youts : Int32} {yops yA yB ycnt yrole ylist yplace ysym yimg ystay ywide ymem yreg yout : Nat → Int32} {a : Nat} (ha : a < 8) {s : Nat} (hs : ysteps = nI s) {n nx z v x y : Int32} {w : Nat} (hw : youts = nI w) (hwb : w ≤ 300) (H : post 0 (yorg, ystrip, ymany, yculp, ytend, yend, ymade, yrounds, yentry, ylinked, yran, nx, nI (s + 1), nI (w + 1), yops, yA, yB, ycnt, yrole, ylist, yplace, ysym, yimg, ystay, ywide, ymem, yreg, if w < 40 then upd yout w x else yout)) : wY_step_187 post (nI 13) (nI a) n nx z v x y yorg ystrip ymany yculp ytend yend ymade yrounds yentry ylinked yran ypc ysteps youts yops yA yB ycnt yrole ylist yplace ysym yimg ystay ywide ymem yreg yout := by
  subst hs
  have ea : (nI a).toNatClampNeg = a := ly_cl (by omega)
  have ew : (nI w).toNatClampNeg = w := ly_cl (by omega)
  subst hw
  by_cases h : w < 40
  · rw [if_pos h] at H
    exact nm_r (nI_1 s) (br_f (by decide) (br_f (by decide) (br_f (by decide) (br_f (by decide) (br_f (by decide) (br_f (by decide) (br_f (by decide) (br_f (by decide) (br_f (by decide) (br_t rfl (br_f (nI_ge (b := 40) h (by omega)) ⟨vp_in_nI h (by omega), nm_r (e' := upd yout w x) (by rw [ew]) (nm_r (nI_1 w) (br_f (by decide) (br_f (by decide) (br_f (by decide) (br_t rfl (br_f (by decide) (br_f (by decide) (H))))))))⟩)))))))))))
  · rw [if_neg h] at H
    exact nm_r (nI_1 s) (br_f (by decide) (br_f (by decide) (br_f (by decide) (br_f (by decide) (br_f (by decide) (br_f (by decide) (br_f (by decide) (br_f (by decide) (br_f (by decide) (br_t rfl (br_t (nI_le (a := 40) (by omega) (by omega)) (nm_r (nI_1 w) (br_f (by decide) (br_f (by decide) (br_f (by decide) (br_t rfl (br_f (by decide) (br_f (by decide) (H)))))))))))))))))))
theorem ly_Y8 {post : Int32 → SY → Prop} {yorg ystrip ymany yculp ytend yend ymade yrounds yentry ylinked yran ypc ysteps youts : Int32} {yops yA yB ycnt yrole ylist yplace ysym yimg ystay ywide ymem yreg yout : Nat → Int32} {a : Nat} (ha : a < 8) {s : Nat} (hs : ysteps = nI s) {n nx z v x y : Int32} (H : post 0 (yorg, ystrip, ymany, yculp, ytend, yend, ymade, yrounds, yentry, ylinked, yran, if z = 0 then ypc + n else v, nI (s + 1), youts, yops, yA, yB, ycnt, yrole, ylist, yplace, ysym, yimg, ystay, ywide, ymem, yreg, yout)) : wY_step_187 post (nI 8) (nI a) n nx z v x y yorg ystrip ymany yculp ytend yend ymade yrounds yentry ylinked yran ypc ysteps youts yops yA yB ycnt yrole ylist yplace ysym yimg ystay ywide ymem yreg yout := by
  subst hs
  have ea : (nI a).toNatClampNeg = a := ly_cl (by omega)
  by_cases hz : z = 0
  · rw [if_pos hz] at H
    exact nm_r (nI_1 s) (br_f (by decide) (br_f (by decide) (br_f (by decide) (br_f (by decide) (br_f (by decide) (br_f (by decide) (br_f (by decide) (br_f (by decide) (br_f (by decide) (br_f (by decide) (br_t rfl (br_f (by decide) (br_t hz (br_f (by decide) (br_f (by decide) (H))))))))))))))))
  · rw [if_neg hz] at H
    exact nm_r (nI_1 s) (br_f (by decide) (br_f (by decide) (br_f (by decide) (br_f (by decide) (br_f (by decide) (br_f (by decide) (br_f (by decide) (br_f (by decide) (br_f (by decide) (br_f (by decide) (br_t rfl (br_f (by decide) (br_f hz (br_f (by decide) (br_f (by decide) (H))))))))))))))))
theorem ly_Y10 {post : Int32 → SY → Prop} {yorg ystrip ymany yculp ytend yend ymade yrounds yentry ylinked yran ypc ysteps youts : Int32} {yops yA yB ycnt yrole ylist yplace ysym yimg ystay ywide ymem yreg yout : Nat → Int32} {a : Nat} (ha : a < 8) {s : Nat} (hs : ysteps = nI s) {n nx z v x y : Int32} (H : post 0 (yorg, ystrip, ymany, yculp, ytend, yend, ymade, yrounds, yentry, ylinked, yran, if z = 0 then ypc + n else v, nI (s + 1), youts, yops, yA, yB, ycnt, yrole, ylist, yplace, ysym, yimg, ystay, ywide, ymem, upd yreg 7 nx, yout)) : wY_step_187 post (nI 10) (nI a) n nx z v x y yorg ystrip ymany yculp ytend yend ymade yrounds yentry ylinked yran ypc ysteps youts yops yA yB ycnt yrole ylist yplace ysym yimg ystay ywide ymem yreg yout := by
  subst hs
  have ea : (nI a).toNatClampNeg = a := ly_cl (by omega)
  by_cases hz : z = 0
  · rw [if_pos hz] at H
    exact nm_r (nI_1 s) (br_f (by decide) (br_f (by decide) (br_f (by decide) (br_f (by decide) (br_f (by decide) (br_f (by decide) (br_f (by decide) (br_f (by decide) (br_f (by decide) (br_f (by decide) (br_f (by decide) (br_t rfl (br_f (by decide) (br_t hz (br_f (by decide) (br_t rfl (nm_e (H))))))))))))))))))
  · rw [if_neg hz] at H
    exact nm_r (nI_1 s) (br_f (by decide) (br_f (by decide) (br_f (by decide) (br_f (by decide) (br_f (by decide) (br_f (by decide) (br_f (by decide) (br_f (by decide) (br_f (by decide) (br_f (by decide) (br_f (by decide) (br_t rfl (br_f (by decide) (br_f hz (br_f (by decide) (br_t rfl (nm_e (H))))))))))))))))))
theorem ly_Y9 {post : Int32 → SY → Prop} {yorg ystrip ymany yculp ytend yend ymade yrounds yentry ylinked yran ypc ysteps youts : Int32} {yops yA yB ycnt yrole ylist yplace ysym yimg ystay ywide ymem yreg yout : Nat → Int32} {a : Nat} (ha : a < 8) {s : Nat} (hs : ysteps = nI s) {n nx z v x y : Int32} (H : post 0 (yorg, ystrip, ymany, yculp, ytend, yend, ymade, yrounds, yentry, ylinked, yran, if x = 0 then (if z = 0 then ypc + n else v) else nx, nI (s + 1), youts, yops, yA, yB, ycnt, yrole, ylist, yplace, ysym, yimg, ystay, ywide, ymem, yreg, yout)) : wY_step_187 post (nI 9) (nI a) n nx z v x y yorg ystrip ymany yculp ytend yend ymade yrounds yentry ylinked yran ypc ysteps youts yops yA yB ycnt yrole ylist yplace ysym yimg ystay ywide ymem yreg yout := by
  subst hs
  have ea : (nI a).toNatClampNeg = a := ly_cl (by omega)
  by_cases hr : x = 0
  · rw [if_pos hr] at H
    by_cases hz : z = 0
    · rw [if_pos hz] at H
      exact nm_r (nI_1 s) (br_f (by decide) (br_f (by decide) (br_f (by decide) (br_f (by decide) (br_f (by decide) (br_f (by decide) (br_f (by decide) (br_f (by decide) (br_f (by decide) (br_f (by decide) (br_f (by decide) (br_f (by decide) (br_t rfl (br_t hr (br_f (by decide) (br_t hz (br_f (by decide) (br_f (by decide) (H)))))))))))))))))))
    · rw [if_neg hz] at H
      exact nm_r (nI_1 s) (br_f (by decide) (br_f (by decide) (br_f (by decide) (br_f (by decide) (br_f (by decide) (br_f (by decide) (br_f (by decide) (br_f (by decide) (br_f (by decide) (br_f (by decide) (br_f (by decide) (br_f (by decide) (br_t rfl (br_t hr (br_f (by decide) (br_f hz (br_f (by decide) (br_f (by decide) (H)))))))))))))))))))
  · rw [if_neg hr] at H
    exact nm_r (nI_1 s) (br_f (by decide) (br_f (by decide) (br_f (by decide) (br_f (by decide) (br_f (by decide) (br_f (by decide) (br_f (by decide) (br_f (by decide) (br_f (by decide) (br_f (by decide) (br_f (by decide) (br_f (by decide) (br_t rfl (br_f hr (br_t rfl (br_f (by decide) (br_f (by decide) (H))))))))))))))))))
theorem ly_Y11 {post : Int32 → SY → Prop} {yorg ystrip ymany yculp ytend yend ymade yrounds yentry ylinked yran ypc ysteps youts : Int32} {yops yA yB ycnt yrole ylist yplace ysym yimg ystay ywide ymem yreg yout : Nat → Int32} {a : Nat} (ha : a < 8) {s : Nat} (hs : ysteps = nI s) {n nx z v x y : Int32} (H : post 0 (yorg, ystrip, ymany, yculp, ytend, yend, ymade, yrounds, yentry, ylinked, yran, yreg 7, nI (s + 1), youts, yops, yA, yB, ycnt, yrole, ylist, yplace, ysym, yimg, ystay, ywide, ymem, yreg, yout)) : wY_step_187 post (nI 11) (nI a) n nx z v x y yorg ystrip ymany yculp ytend yend ymade yrounds yentry ylinked yran ypc ysteps youts yops yA yB ycnt yrole ylist yplace ysym yimg ystay ywide ymem yreg yout := by
  subst hs
  have ea : (nI a).toNatClampNeg = a := ly_cl (by omega)
  exact nm_r (nI_1 s) (br_f (by decide) (br_f (by decide) (br_f (by decide) (br_f (by decide) (br_f (by decide) (br_f (by decide) (br_f (by decide) (br_f (by decide) (br_f (by decide) (br_f (by decide) (br_f (by decide) (br_f (by decide) (br_f (by decide) (br_t rfl (br_t rfl (nm_e (br_f (by decide) (H))))))))))))))))))
theorem ly_Y14 {post : Int32 → SY → Prop} {yorg ystrip ymany yculp ytend yend ymade yrounds yentry ylinked yran ypc ysteps youts : Int32} {yops yA yB ycnt yrole ylist yplace ysym yimg ystay ywide ymem yreg yout : Nat → Int32} {a : Nat} (ha : a < 8) {s : Nat} (hs : ysteps = nI s) {n nx z v x y : Int32} (H : post 5 (yorg, ystrip, ymany, yculp, ytend, yend, ymade, yrounds, yentry, ylinked, yran, ypc, nI (s + 1), youts, yops, yA, yB, ycnt, yrole, ylist, yplace, ysym, yimg, ystay, ywide, ymem, yreg, yout)) : wY_step_187 post (nI 14) (nI a) n nx z v x y yorg ystrip ymany yculp ytend yend ymade yrounds yentry ylinked yran ypc ysteps youts yops yA yB ycnt yrole ylist yplace ysym yimg ystay ywide ymem yreg yout := by
  subst hs
  have ea : (nI a).toNatClampNeg = a := ly_cl (by omega)
  exact nm_r (nI_1 s) (br_t rfl H)
end
section
/-! bits of a word, and a whole step -/
theorem ly_b31 : ∀ i, i < 32 → bt 31 i = decide (i < 5) := by decide +kernel
theorem ly_b7 : ∀ i, i < 32 → bt 7 i = decide (i < 3) := by decide +kernel
theorem ly_b1 : ∀ i, i < 32 → bt 1 i = decide (i = 0) := by decide +kernel
theorem ly_b65536 : ∀ i, i < 32 → bt 65536 i = decide (i = 16) := by decide +kernel
theorem ly_wop (w : Int32) : ((w.toUInt32 >>> ((24 : Int32).toUInt32 &&& Int32.toUInt32 31)).toInt32) &&& 31 = (w >>> ((24 : Int32) &&& 31)) &&& 31 := by
  apply b_ext
  intro i hi
  have e1 : bt ((w.toUInt32 >>> ((24 : Int32).toUInt32 &&& Int32.toUInt32 31)).toInt32) i = bt w (24 + i) := b_ushr 24 (by omega) w i
  have e2 : bt (w >>> ((24 : Int32) &&& 31)) i = if 24 + i < 32 then bt w (24 + i) else bt w 31 := b_sshr 24 (by omega) w hi
  rw [b_and, b_and, ly_b31 i hi, e1, e2]
  by_cases h : i < 5
  · rw [if_pos (by omega)]
  · rw [decide_eq_false h, Bool.and_false, Bool.and_false]
theorem ly_wrg (w : Int32) : ((w.toUInt32 >>> ((20 : Int32).toUInt32 &&& Int32.toUInt32 31)).toInt32) &&& 7 = (w >>> ((20 : Int32) &&& 31)) &&& 7 := by
  apply b_ext
  intro i hi
  have e1 : bt ((w.toUInt32 >>> ((20 : Int32).toUInt32 &&& Int32.toUInt32 31)).toInt32) i = bt w (20 + i) := b_ushr 20 (by omega) w i
  have e2 : bt (w >>> ((20 : Int32) &&& 31)) i = if 20 + i < 32 then bt w (20 + i) else bt w 31 := b_sshr 20 (by omega) w hi
  rw [b_and, b_and, ly_b7 i hi, e1, e2]
  by_cases h : i < 3
  · rw [if_pos (by omega)]
  · rw [decide_eq_false h, Bool.and_false, Bool.and_false]
theorem ly_wlg (w : Int32) : (w &&& 65536) = 0 ∧ ((w >>> ((16 : Int32) &&& 31)) &&& 1) = 0 ∨ (w &&& 65536) = 65536 ∧ ((w >>> ((16 : Int32) &&& 31)) &&& 1) = 1 := by
  have e2 : ∀ i, i < 32 → bt (w >>> ((16 : Int32) &&& 31)) i = if 16 + i < 32 then bt w (16 + i) else bt w 31 := fun i hi => b_sshr 16 (by omega) w hi
  cases hb : bt w 16 with
  | false =>
    refine Or.inl ⟨b_ext (fun i hi => ?_), b_ext (fun i hi => ?_)⟩
    · rw [b_and, ly_b65536 i hi, b_0]
      by_cases h : i = 16
      · subst h; rw [hb]; rfl
      · rw [decide_eq_false h, Bool.and_false]
    · rw [b_and, ly_b1 i hi, b_0, e2 i hi]
      by_cases h : i = 0
      · subst h; rw [if_pos (by omega)]; rw [show 16 + 0 = 16 from rfl, hb]; rfl
      · rw [decide_eq_false h, Bool.and_false]
  | true =>
    refine Or.inr ⟨b_ext (fun i hi => ?_), b_ext (fun i hi => ?_)⟩
    · rw [b_and, ly_b65536 i hi]
      by_cases h : i = 16
      · subst h; rw [hb]; rfl
      · rw [decide_eq_false h, Bool.and_false]
    · rw [b_and, ly_b1 i hi, e2 i hi]
      by_cases h : i = 0
      · subst h; rw [if_pos (by omega)]; rw [show 16 + 0 = 16 from rfl, hb]; rfl
      · rw [decide_eq_false h, Bool.and_false]
def ly_ST (s : Nat) (WX : (Int32 → SX → Prop) → Prop) (WY : (Int32 → SY → Prop) → Prop) (mX : Int32 → Int32 → Int32 → (Nat → Int32) → (Nat → Int32) → (Nat → Int32) → SX) (mY : Int32 → Int32 → Int32 → (Nat → Int32) → (Nat → Int32) → (Nat → Int32) → SY) : Prop :=
  ∃ (r pc : Int32) (s' o : Nat) (rg yrg st ym ou you : Nat → Int32), (r = 0 → s' = s + 1) ∧ s' ≤ s + 1 ∧ o ≤ s' ∧ ly_AG 8 rg yrg ∧ ly_AG 256 st ym ∧ (∀ k, k < 40 → ou k = if k < o then you k else 0) ∧ (∀ post, post r (mX (nI o) pc (nI s') rg st ou) → WX post) ∧ (∀ post, post r (mY pc (nI s') (nI o) ym yrg you) → WY post)
theorem ly_X125 {post : Int32 → SX → Prop} {xbase xstrip xllen xtend xaend xlcnt xlrnd xlinked xblamed xouts xran : Int32} {xops xA xB xcnt xrole xloc xglo xweak xuse xrep xunit xtgt xstay xlong xlist xchosen xplace ximg xreg xstore xout : Nat → Int32} {q a b p s : Nat} (hq : q < 14) (hp : p < 256) (z n : Int32) (hz : ¬ z = 0 → p + 1 < 256) (H : wX_step_184 post (nI q) z (nI a) n (nI b) (if z = 0 then n else xstore (p + 1)) (if z = 0 then nI p + 1 else nI p + 2) xbase xstrip xllen xtend xaend xlcnt xlrnd xlinked xblamed xouts (nI p) (nI (s + 1)) xran xops xA xB xcnt xrole xloc xglo xweak xuse xrep xunit xtgt xstay xlong xlist xchosen xplace ximg xreg xstore xout) : wX_step_125 post (nI q) z (nI a) n (nI b) xbase xstrip xllen xtend xaend xlcnt xlrnd xlinked xblamed xouts (nI p) (nI s) xran xops xA xB xcnt xrole xloc xglo xweak xuse xrep xunit xtgt xstay xlong xlist xchosen xplace ximg xreg xstore xout := by
  refine nm_r (nI_1 s) (br_f (fun e => by have := ly_inj (b := 14) (by omega) (by omega) e; omega) ?_)
  by_cases h : z = 0
  · rw [if_pos h, if_pos h] at H
    exact br_t h (br_t h H)
  · rw [if_neg h, if_neg h] at H
    have hz' := hz h
    have e : nI p + 1 = nI (p + 1) := nI_1 p
    refine br_f h ⟨by rw [e]; exact vp_in_nI hz' (by omega), ?_⟩
    rw [e, ly_cl (i := p + 1) (by omega)]
    exact br_f h H
theorem ly_Y139 {post : Int32 → SY → Prop} {yorg ystrip ymany yculp ytend yend ymade yrounds yentry ylinked yran ysteps youts : Int32} {yops yA yB ycnt yrole ylist yplace ysym yimg ystay ywide ymem yreg yout : Nat → Int32} {q a b p : Nat} (ha : a < 8) (hb : b < 8) (hp : p < 256) (z n : Int32) (hz : ¬ z = 0 → p + 1 < 256) (H : wY_step_187 post (nI q) (nI a) n (if z = 0 then nI p + 1 else nI p + 2) z (if z = 0 then n else ymem (p + 1)) (yreg a) (yreg b) yorg ystrip ymany yculp ytend yend ymade yrounds yentry ylinked yran (nI p) ysteps youts yops yA yB ycnt yrole ylist yplace ysym yimg ystay ywide ymem yreg yout) : wY_step_139 post (nI q) (nI a) n (nI b) (nI p + 1) z yorg ystrip ymany yculp ytend yend ymade yrounds yentry ylinked yran (nI p) ysteps youts yops yA yB ycnt yrole ylist yplace ysym yimg ystay ywide ymem yreg yout := by
  have ea : (nI a).toNatClampNeg = a := ly_cl (by omega)
  have eb : (nI b).toNatClampNeg = b := ly_cl (by omega)
  by_cases h : z = 0
  · rw [if_pos h, if_pos h] at H
    exact br_t h ⟨vp_in_nI ha (by omega), nm_r (congrArg yreg ea) ⟨vp_in_nI hb (by omega), nm_r (congrArg yreg eb) (br_t h H)⟩⟩
  · rw [if_neg h, if_neg h] at H
    have hz' := hz h
    have e : nI p + 1 = nI (p + 1) := nI_1 p
    have e2 : nI p + 1 + 1 = nI p + 2 := by rw [Int32.add_assoc]; rfl
    refine br_f h ⟨by rw [e]; exact vp_in_nI hz' (by omega), ?_⟩
    have e3 : (nI p + 1).toNatClampNeg = p + 1 := by rw [e]; exact ly_cl (by omega)
    rw [e3]
    exact ⟨vp_in_nI ha (by omega), nm_r (congrArg yreg ea) ⟨vp_in_nI hb (by omega), nm_r (congrArg yreg eb) (br_f h (nm_r e2 H))⟩⟩

theorem ly_core1 {xbase xstrip xllen xtend xaend xlcnt xlrnd xlinked xblamed xran : Int32} {xops xA xB xcnt xrole xloc xglo xweak xuse xrep xunit xtgt xstay xlong xlist xchosen xplace ximg xreg xstore xout : Nat → Int32} {ymany ytend yend ymade yrounds yentry : Int32} {ylist yplace ysym yimg ystay ywide ymem yreg yout : Nat → Int32} {a b p s o : Nat} (ha : a < 8) (hb : b < 8) (hp : p < 256) (z n : Int32) (hz : ¬ z = 0 → p + 1 < 256) (ho : o ≤ s) (hs : s < 300) (hreg : ly_AG 8 xreg yreg) (hmem : ly_AG 256 xstore ymem) (hout : ∀ k, k < 40 → xout k = if k < o then yout k else 0) : ly_ST s (fun post => wX_step_125 post (nI 1) z (nI a) n (nI b) xbase xstrip xllen xtend xaend xlcnt xlrnd xlinked xblamed (nI o) (nI p) (nI s) xran xops xA xB xcnt xrole xloc xglo xweak xuse xrep xunit xtgt xstay xlong xlist xchosen xplace ximg xreg xstore xout) (fun post => wY_step_139 post (nI 1) (nI a) n (nI b) (nI p + 1) z xbase xstrip ymany xblamed ytend yend ymade yrounds yentry xlinked xran (nI p) (nI s) (nI o) xops xA xB xcnt xrole ylist yplace ysym yimg ystay ywide ymem yreg yout) (fun xouts xpc xsteps xreg xstore xout => (xbase, xstrip, xllen, xtend, xaend, xlcnt, xlrnd, xlinked, xblamed, xouts, xpc, xsteps, xran, xops, xA, xB, xcnt, xrole, xloc, xglo, xweak, xuse, xrep, xunit, xtgt, xstay, xlong, xlist, xchosen, xplace, ximg, xreg, xstore, xout)) (fun ypc ysteps youts ymem yreg yout => (xbase, xstrip, ymany, xblamed, ytend, yend, ymade, yrounds, yentry, xlinked, xran, ypc, ysteps, youts, xops, xA, xB, xcnt, xrole, ylist, yplace, ysym, yimg, ystay, ywide, ymem, yreg, yout)) := by
  have hA : yreg a = xreg a := (hreg a ha).symm
  have hB : yreg b = xreg b := (hreg b hb).symm
  have hV : (if z = 0 then n else ymem (p + 1)) = (if z = 0 then n else xstore (p + 1)) := by
    by_cases h : z = 0
    · rw [if_pos h, if_pos h]
    · rw [if_neg h, if_neg h]; exact (hmem _ (hz h)).symm
  refine ⟨0, (if z = 0 then nI p + 1 else nI p + 2), s + 1, o, (upd xreg a (if z = 0 then n else xstore (p + 1))), (upd yreg a (if z = 0 then n else xstore (p + 1))), xstore, ymem, xout, yout, fun _ => rfl, Nat.le_refl _, by omega, ?_, ?_, ?_, fun post H => ly_X125 (hq := by omega) (hp := hp) (z := z) (n := n) (hz := hz) (H := ?_), fun post H => ly_Y139 (ha := ha) (hb := hb) (hp := hp) (z := z) (n := n) (hz := hz) (H := ?_)⟩
  · exact ly_AG_upd hreg _ _
  · exact hmem
  · exact hout
  · exact ly_X1 (ha := ha) (hb := hb) (z := z) (n := n) (H := H)
  · rw [hA, hB, hV]; exact ly_Y1 (ha := ha) (hs := rfl) (H := H)
theorem ly_core12 {xbase xstrip xllen xtend xaend xlcnt xlrnd xlinked xblamed xran : Int32} {xops xA xB xcnt xrole xloc xglo xweak xuse xrep xunit xtgt xstay xlong xlist xchosen xplace ximg xreg xstore xout : Nat → Int32} {ymany ytend yend ymade yrounds yentry : Int32} {ylist yplace ysym yimg ystay ywide ymem yreg yout : Nat → Int32} {a b p s o : Nat} (ha : a < 8) (hb : b < 8) (hp : p < 256) (z n : Int32) (hz : ¬ z = 0 → p + 1 < 256) (ho : o ≤ s) (hs : s < 300) (hreg : ly_AG 8 xreg yreg) (hmem : ly_AG 256 xstore ymem) (hout : ∀ k, k < 40 → xout k = if k < o then yout k else 0) : ly_ST s (fun post => wX_step_125 post (nI 12) z (nI a) n (nI b) xbase xstrip xllen xtend xaend xlcnt xlrnd xlinked xblamed (nI o) (nI p) (nI s) xran xops xA xB xcnt xrole xloc xglo xweak xuse xrep xunit xtgt xstay xlong xlist xchosen xplace ximg xreg xstore xout) (fun post => wY_step_139 post (nI 12) (nI a) n (nI b) (nI p + 1) z xbase xstrip ymany xblamed ytend yend ymade yrounds yentry xlinked xran (nI p) (nI s) (nI o) xops xA xB xcnt xrole ylist yplace ysym yimg ystay ywide ymem yreg yout) (fun xouts xpc xsteps xreg xstore xout => (xbase, xstrip, xllen, xtend, xaend, xlcnt, xlrnd, xlinked, xblamed, xouts, xpc, xsteps, xran, xops, xA, xB, xcnt, xrole, xloc, xglo, xweak, xuse, xrep, xunit, xtgt, xstay, xlong, xlist, xchosen, xplace, ximg, xreg, xstore, xout)) (fun ypc ysteps youts ymem yreg yout => (xbase, xstrip, ymany, xblamed, ytend, yend, ymade, yrounds, yentry, xlinked, xran, ypc, ysteps, youts, xops, xA, xB, xcnt, xrole, ylist, yplace, ysym, yimg, ystay, ywide, ymem, yreg, yout)) := by
  have hA : yreg a = xreg a := (hreg a ha).symm
  have hB : yreg b = xreg b := (hreg b hb).symm
  have hV : (if z = 0 then n else ymem (p + 1)) = (if z = 0 then n else xstore (p + 1)) := by
    by_cases h : z = 0
    · rw [if_pos h, if_pos h]
    · rw [if_neg h, if_neg h]; exact (hmem _ (hz h)).symm
  refine ⟨0, (if z = 0 then nI p + 1 else nI p + 2), s + 1, o, (upd xreg a (if z = 0 then n else xstore (p + 1))), (upd yreg a (if z = 0 then n else xstore (p + 1))), xstore, ymem, xout, yout, fun _ => rfl, Nat.le_refl _, by omega, ?_, ?_, ?_, fun post H => ly_X125 (hq := by omega) (hp := hp) (z := z) (n := n) (hz := hz) (H := ?_), fun post H => ly_Y139 (ha := ha) (hb := hb) (hp := hp) (z := z) (n := n) (hz := hz) (H := ?_)⟩
  · exact ly_AG_upd hreg _ _
  · exact hmem
  · exact hout
  · exact ly_X12 (ha := ha) (hb := hb) (z := z) (n := n) (H := H)
  · rw [hA, hB, hV]; exact ly_Y12 (ha := ha) (hs := rfl) (H := H)
theorem ly_core2 {xbase xstrip xllen xtend xaend xlcnt xlrnd xlinked xblamed xran : Int32} {xops xA xB xcnt xrole xloc xglo xweak xuse xrep xunit xtgt xstay xlong xlist xchosen xplace ximg xreg xstore xout : Nat → Int32} {ymany ytend yend ymade yrounds yentry : Int32} {ylist yplace ysym yimg ystay ywide ymem yreg yout : Nat → Int32} {a b p s o : Nat} (ha : a < 8) (hb : b < 8) (hp : p < 256) (z n : Int32) (hz : ¬ z = 0 → p + 1 < 256) (ho : o ≤ s) (hs : s < 300) (hreg : ly_AG 8 xreg yreg) (hmem : ly_AG 256 xstore ymem) (hout : ∀ k, k < 40 → xout k = if k < o then yout k else 0) : ly_ST s (fun post => wX_step_125 post (nI 2) z (nI a) n (nI b) xbase xstrip xllen xtend xaend xlcnt xlrnd xlinked xblamed (nI o) (nI p) (nI s) xran xops xA xB xcnt xrole xloc xglo xweak xuse xrep xunit xtgt xstay xlong xlist xchosen xplace ximg xreg xstore xout) (fun post => wY_step_139 post (nI 2) (nI a) n (nI b) (nI p + 1) z xbase xstrip ymany xblamed ytend yend ymade yrounds yentry xlinked xran (nI p) (nI s) (nI o) xops xA xB xcnt xrole ylist yplace ysym yimg ystay ywide ymem yreg yout) (fun xouts xpc xsteps xreg xstore xout => (xbase, xstrip, xllen, xtend, xaend, xlcnt, xlrnd, xlinked, xblamed, xouts, xpc, xsteps, xran, xops, xA, xB, xcnt, xrole, xloc, xglo, xweak, xuse, xrep, xunit, xtgt, xstay, xlong, xlist, xchosen, xplace, ximg, xreg, xstore, xout)) (fun ypc ysteps youts ymem yreg yout => (xbase, xstrip, ymany, xblamed, ytend, yend, ymade, yrounds, yentry, xlinked, xran, ypc, ysteps, youts, xops, xA, xB, xcnt, xrole, ylist, yplace, ysym, yimg, ystay, ywide, ymem, yreg, yout)) := by
  have hA : yreg a = xreg a := (hreg a ha).symm
  have hB : yreg b = xreg b := (hreg b hb).symm
  have hV : (if z = 0 then n else ymem (p + 1)) = (if z = 0 then n else xstore (p + 1)) := by
    by_cases h : z = 0
    · rw [if_pos h, if_pos h]
    · rw [if_neg h, if_neg h]; exact (hmem _ (hz h)).symm
  refine ⟨0, (if z = 0 then nI p + 1 else nI p + 2), s + 1, o, (upd xreg a (xreg a + xreg b)), (upd yreg a (xreg a + xreg b)), xstore, ymem, xout, yout, fun _ => rfl, Nat.le_refl _, by omega, ?_, ?_, ?_, fun post H => ly_X125 (hq := by omega) (hp := hp) (z := z) (n := n) (hz := hz) (H := ?_), fun post H => ly_Y139 (ha := ha) (hb := hb) (hp := hp) (z := z) (n := n) (hz := hz) (H := ?_)⟩
  · exact ly_AG_upd hreg _ _
  · exact hmem
  · exact hout
  · exact ly_X2 (ha := ha) (hb := hb) (z := z) (n := n) (H := H)
  · rw [hA, hB, hV]; exact ly_Y2 (ha := ha) (hs := rfl) (H := H)
theorem ly_core3 {xbase xstrip xllen xtend xaend xlcnt xlrnd xlinked xblamed xran : Int32} {xops xA xB xcnt xrole xloc xglo xweak xuse xrep xunit xtgt xstay xlong xlist xchosen xplace ximg xreg xstore xout : Nat → Int32} {ymany ytend yend ymade yrounds yentry : Int32} {ylist yplace ysym yimg ystay ywide ymem yreg yout : Nat → Int32} {a b p s o : Nat} (ha : a < 8) (hb : b < 8) (hp : p < 256) (z n : Int32) (hz : ¬ z = 0 → p + 1 < 256) (ho : o ≤ s) (hs : s < 300) (hreg : ly_AG 8 xreg yreg) (hmem : ly_AG 256 xstore ymem) (hout : ∀ k, k < 40 → xout k = if k < o then yout k else 0) : ly_ST s (fun post => wX_step_125 post (nI 3) z (nI a) n (nI b) xbase xstrip xllen xtend xaend xlcnt xlrnd xlinked xblamed (nI o) (nI p) (nI s) xran xops xA xB xcnt xrole xloc xglo xweak xuse xrep xunit xtgt xstay xlong xlist xchosen xplace ximg xreg xstore xout) (fun post => wY_step_139 post (nI 3) (nI a) n (nI b) (nI p + 1) z xbase xstrip ymany xblamed ytend yend ymade yrounds yentry xlinked xran (nI p) (nI s) (nI o) xops xA xB xcnt xrole ylist yplace ysym yimg ystay ywide ymem yreg yout) (fun xouts xpc xsteps xreg xstore xout => (xbase, xstrip, xllen, xtend, xaend, xlcnt, xlrnd, xlinked, xblamed, xouts, xpc, xsteps, xran, xops, xA, xB, xcnt, xrole, xloc, xglo, xweak, xuse, xrep, xunit, xtgt, xstay, xlong, xlist, xchosen, xplace, ximg, xreg, xstore, xout)) (fun ypc ysteps youts ymem yreg yout => (xbase, xstrip, ymany, xblamed, ytend, yend, ymade, yrounds, yentry, xlinked, xran, ypc, ysteps, youts, xops, xA, xB, xcnt, xrole, ylist, yplace, ysym, yimg, ystay, ywide, ymem, yreg, yout)) := by
  have hA : yreg a = xreg a := (hreg a ha).symm
  have hB : yreg b = xreg b := (hreg b hb).symm
  have hV : (if z = 0 then n else ymem (p + 1)) = (if z = 0 then n else xstore (p + 1)) := by
    by_cases h : z = 0
    · rw [if_pos h, if_pos h]
    · rw [if_neg h, if_neg h]; exact (hmem _ (hz h)).symm
  refine ⟨0, (if z = 0 then nI p + 1 else nI p + 2), s + 1, o, (upd xreg a (xreg a - xreg b)), (upd yreg a (xreg a - xreg b)), xstore, ymem, xout, yout, fun _ => rfl, Nat.le_refl _, by omega, ?_, ?_, ?_, fun post H => ly_X125 (hq := by omega) (hp := hp) (z := z) (n := n) (hz := hz) (H := ?_), fun post H => ly_Y139 (ha := ha) (hb := hb) (hp := hp) (z := z) (n := n) (hz := hz) (H := ?_)⟩
  · exact ly_AG_upd hreg _ _
  · exact hmem
  · exact hout
  · exact ly_X3 (ha := ha) (hb := hb) (z := z) (n := n) (H := H)
  · rw [hA, hB, hV]; exact ly_Y3 (ha := ha) (hs := rfl) (H := H)
theorem ly_core4 {xbase xstrip xllen xtend xaend xlcnt xlrnd xlinked xblamed xran : Int32} {xops xA xB xcnt xrole xloc xglo xweak xuse xrep xunit xtgt xstay xlong xlist xchosen xplace ximg xreg xstore xout : Nat → Int32} {ymany ytend yend ymade yrounds yentry : Int32} {ylist yplace ysym yimg ystay ywide ymem yreg yout : Nat → Int32} {a b p s o : Nat} (ha : a < 8) (hb : b < 8) (hp : p < 256) (z n : Int32) (hz : ¬ z = 0 → p + 1 < 256) (ho : o ≤ s) (hs : s < 300) (hreg : ly_AG 8 xreg yreg) (hmem : ly_AG 256 xstore ymem) (hout : ∀ k, k < 40 → xout k = if k < o then yout k else 0) : ly_ST s (fun post => wX_step_125 post (nI 4) z (nI a) n (nI b) xbase xstrip xllen xtend xaend xlcnt xlrnd xlinked xblamed (nI o) (nI p) (nI s) xran xops xA xB xcnt xrole xloc xglo xweak xuse xrep xunit xtgt xstay xlong xlist xchosen xplace ximg xreg xstore xout) (fun post => wY_step_139 post (nI 4) (nI a) n (nI b) (nI p + 1) z xbase xstrip ymany xblamed ytend yend ymade yrounds yentry xlinked xran (nI p) (nI s) (nI o) xops xA xB xcnt xrole ylist yplace ysym yimg ystay ywide ymem yreg yout) (fun xouts xpc xsteps xreg xstore xout => (xbase, xstrip, xllen, xtend, xaend, xlcnt, xlrnd, xlinked, xblamed, xouts, xpc, xsteps, xran, xops, xA, xB, xcnt, xrole, xloc, xglo, xweak, xuse, xrep, xunit, xtgt, xstay, xlong, xlist, xchosen, xplace, ximg, xreg, xstore, xout)) (fun ypc ysteps youts ymem yreg yout => (xbase, xstrip, ymany, xblamed, ytend, yend, ymade, yrounds, yentry, xlinked, xran, ypc, ysteps, youts, xops, xA, xB, xcnt, xrole, ylist, yplace, ysym, yimg, ystay, ywide, ymem, yreg, yout)) := by
  have hA : yreg a = xreg a := (hreg a ha).symm
  have hB : yreg b = xreg b := (hreg b hb).symm
  have hV : (if z = 0 then n else ymem (p + 1)) = (if z = 0 then n else xstore (p + 1)) := by
    by_cases h : z = 0
    · rw [if_pos h, if_pos h]
    · rw [if_neg h, if_neg h]; exact (hmem _ (hz h)).symm
  refine ⟨0, (if z = 0 then nI p + 1 else nI p + 2), s + 1, o, (upd xreg a (xreg a * xreg b)), (upd yreg a (xreg a * xreg b)), xstore, ymem, xout, yout, fun _ => rfl, Nat.le_refl _, by omega, ?_, ?_, ?_, fun post H => ly_X125 (hq := by omega) (hp := hp) (z := z) (n := n) (hz := hz) (H := ?_), fun post H => ly_Y139 (ha := ha) (hb := hb) (hp := hp) (z := z) (n := n) (hz := hz) (H := ?_)⟩
  · exact ly_AG_upd hreg _ _
  · exact hmem
  · exact hout
  · exact ly_X4 (ha := ha) (hb := hb) (z := z) (n := n) (H := H)
  · rw [hA, hB, hV]; exact ly_Y4 (ha := ha) (hs := rfl) (H := H)
theorem ly_core5 {xbase xstrip xllen xtend xaend xlcnt xlrnd xlinked xblamed xran : Int32} {xops xA xB xcnt xrole xloc xglo xweak xuse xrep xunit xtgt xstay xlong xlist xchosen xplace ximg xreg xstore xout : Nat → Int32} {ymany ytend yend ymade yrounds yentry : Int32} {ylist yplace ysym yimg ystay ywide ymem yreg yout : Nat → Int32} {a b p s o : Nat} (ha : a < 8) (hb : b < 8) (hp : p < 256) (z n : Int32) (hz : ¬ z = 0 → p + 1 < 256) (ho : o ≤ s) (hs : s < 300) (hreg : ly_AG 8 xreg yreg) (hmem : ly_AG 256 xstore ymem) (hout : ∀ k, k < 40 → xout k = if k < o then yout k else 0) : ly_ST s (fun post => wX_step_125 post (nI 5) z (nI a) n (nI b) xbase xstrip xllen xtend xaend xlcnt xlrnd xlinked xblamed (nI o) (nI p) (nI s) xran xops xA xB xcnt xrole xloc xglo xweak xuse xrep xunit xtgt xstay xlong xlist xchosen xplace ximg xreg xstore xout) (fun post => wY_step_139 post (nI 5) (nI a) n (nI b) (nI p + 1) z xbase xstrip ymany xblamed ytend yend ymade yrounds yentry xlinked xran (nI p) (nI s) (nI o) xops xA xB xcnt xrole ylist yplace ysym yimg ystay ywide ymem yreg yout) (fun xouts xpc xsteps xreg xstore xout => (xbase, xstrip, xllen, xtend, xaend, xlcnt, xlrnd, xlinked, xblamed, xouts, xpc, xsteps, xran, xops, xA, xB, xcnt, xrole, xloc, xglo, xweak, xuse, xrep, xunit, xtgt, xstay, xlong, xlist, xchosen, xplace, ximg, xreg, xstore, xout)) (fun ypc ysteps youts ymem yreg yout => (xbase, xstrip, ymany, xblamed, ytend, yend, ymade, yrounds, yentry, xlinked, xran, ypc, ysteps, youts, xops, xA, xB, xcnt, xrole, ylist, yplace, ysym, yimg, ystay, ywide, ymem, yreg, yout)) := by
  have hA : yreg a = xreg a := (hreg a ha).symm
  have hB : yreg b = xreg b := (hreg b hb).symm
  have hV : (if z = 0 then n else ymem (p + 1)) = (if z = 0 then n else xstore (p + 1)) := by
    by_cases h : z = 0
    · rw [if_pos h, if_pos h]
    · rw [if_neg h, if_neg h]; exact (hmem _ (hz h)).symm
  refine ⟨0, (if z = 0 then nI p + 1 else nI p + 2), s + 1, o, (upd xreg a (if xreg b ≤ xreg a then 0 else 1)), (upd yreg a (if xreg b ≤ xreg a then 0 else 1)), xstore, ymem, xout, yout, fun _ => rfl, Nat.le_refl _, by omega, ?_, ?_, ?_, fun post H => ly_X125 (hq := by omega) (hp := hp) (z := z) (n := n) (hz := hz) (H := ?_), fun post H => ly_Y139 (ha := ha) (hb := hb) (hp := hp) (z := z) (n := n) (hz := hz) (H := ?_)⟩
  · exact ly_AG_upd hreg _ _
  · exact hmem
  · exact hout
  · exact ly_X5 (ha := ha) (hb := hb) (z := z) (n := n) (H := H)
  · rw [hA, hB, hV]; exact ly_Y5 (ha := ha) (hs := rfl) (H := H)
theorem ly_core6 {xbase xstrip xllen xtend xaend xlcnt xlrnd xlinked xblamed xran : Int32} {xops xA xB xcnt xrole xloc xglo xweak xuse xrep xunit xtgt xstay xlong xlist xchosen xplace ximg xreg xstore xout : Nat → Int32} {ymany ytend yend ymade yrounds yentry : Int32} {ylist yplace ysym yimg ystay ywide ymem yreg yout : Nat → Int32} {a b p s o : Nat} (ha : a < 8) (hb : b < 8) (hp : p < 256) (z n : Int32) (hz : ¬ z = 0 → p + 1 < 256) (ho : o ≤ s) (hs : s < 300) (hreg : ly_AG 8 xreg yreg) (hmem : ly_AG 256 xstore ymem) (hout : ∀ k, k < 40 → xout k = if k < o then yout k else 0) {c : Nat} (hc : c < 256) (hr : xreg b = nI c) : ly_ST s (fun post => wX_step_125 post (nI 6) z (nI a) n (nI b) xbase xstrip xllen xtend xaend xlcnt xlrnd xlinked xblamed (nI o) (nI p) (nI s) xran xops xA xB xcnt xrole xloc xglo xweak xuse xrep xunit xtgt xstay xlong xlist xchosen xplace ximg xreg xstore xout) (fun post => wY_step_139 post (nI 6) (nI a) n (nI b) (nI p + 1) z xbase xstrip ymany xblamed ytend yend ymade yrounds yentry xlinked xran (nI p) (nI s) (nI o) xops xA xB xcnt xrole ylist yplace ysym yimg ystay ywide ymem yreg yout) (fun xouts xpc xsteps xreg xstore xout => (xbase, xstrip, xllen, xtend, xaend, xlcnt, xlrnd, xlinked, xblamed, xouts, xpc, xsteps, xran, xops, xA, xB, xcnt, xrole, xloc, xglo, xweak, xuse, xrep, xunit, xtgt, xstay, xlong, xlist, xchosen, xplace, ximg, xreg, xstore, xout)) (fun ypc ysteps youts ymem yreg yout => (xbase, xstrip, ymany, xblamed, ytend, yend, ymade, yrounds, yentry, xlinked, xran, ypc, ysteps, youts, xops, xA, xB, xcnt, xrole, ylist, yplace, ysym, yimg, ystay, ywide, ymem, yreg, yout)) := by
  have hA : yreg a = xreg a := (hreg a ha).symm
  have hB : yreg b = xreg b := (hreg b hb).symm
  have hV : (if z = 0 then n else ymem (p + 1)) = (if z = 0 then n else xstore (p + 1)) := by
    by_cases h : z = 0
    · rw [if_pos h, if_pos h]
    · rw [if_neg h, if_neg h]; exact (hmem _ (hz h)).symm
  refine ⟨0, (if z = 0 then nI p + 1 else nI p + 2), s + 1, o, (upd xreg a (xstore c)), (upd yreg a (ymem c)), xstore, ymem, xout, yout, fun _ => rfl, Nat.le_refl _, by omega, ?_, ?_, ?_, fun post H => ly_X125 (hq := by omega) (hp := hp) (z := z) (n := n) (hz := hz) (H := ?_), fun post H => ly_Y139 (ha := ha) (hb := hb) (hp := hp) (z := z) (n := n) (hz := hz) (H := ?_)⟩
  · rw [hmem c hc]; exact ly_AG_upd hreg _ _
  · exact hmem
  · exact hout
  · exact ly_X6 (ha := ha) (hb := hb) (z := z) (n := n) (hc := hc) (hr := hr) (H := H)
  · rw [hA, hB, hV]; exact ly_Y6 (ha := ha) (hs := rfl) (hc := hc) (hy := hr) (H := H)
theorem ly_core7 {xbase xstrip xllen xtend xaend xlcnt xlrnd xlinked xblamed xran : Int32} {xops xA xB xcnt xrole xloc xglo xweak xuse xrep xunit xtgt xstay xlong xlist xchosen xplace ximg xreg xstore xout : Nat → Int32} {ymany ytend yend ymade yrounds yentry : Int32} {ylist yplace ysym yimg ystay ywide ymem yreg yout : Nat → Int32} {a b p s o : Nat} (ha : a < 8) (hb : b < 8) (hp : p < 256) (z n : Int32) (hz : ¬ z = 0 → p + 1 < 256) (ho : o ≤ s) (hs : s < 300) (hreg : ly_AG 8 xreg yreg) (hmem : ly_AG 256 xstore ymem) (hout : ∀ k, k < 40 → xout k = if k < o then yout k else 0) {c : Nat} (hc : c < 256) (hr : xreg b = nI c) : ly_ST s (fun post => wX_step_125 post (nI 7) z (nI a) n (nI b) xbase xstrip xllen xtend xaend xlcnt xlrnd xlinked xblamed (nI o) (nI p) (nI s) xran xops xA xB xcnt xrole xloc xglo xweak xuse xrep xunit xtgt xstay xlong xlist xchosen xplace ximg xreg xstore xout) (fun post => wY_step_139 post (nI 7) (nI a) n (nI b) (nI p + 1) z xbase xstrip ymany xblamed ytend yend ymade yrounds yentry xlinked xran (nI p) (nI s) (nI o) xops xA xB xcnt xrole ylist yplace ysym yimg ystay ywide ymem yreg yout) (fun xouts xpc xsteps xreg xstore xout => (xbase, xstrip, xllen, xtend, xaend, xlcnt, xlrnd, xlinked, xblamed, xouts, xpc, xsteps, xran, xops, xA, xB, xcnt, xrole, xloc, xglo, xweak, xuse, xrep, xunit, xtgt, xstay, xlong, xlist, xchosen, xplace, ximg, xreg, xstore, xout)) (fun ypc ysteps youts ymem yreg yout => (xbase, xstrip, ymany, xblamed, ytend, yend, ymade, yrounds, yentry, xlinked, xran, ypc, ysteps, youts, xops, xA, xB, xcnt, xrole, ylist, yplace, ysym, yimg, ystay, ywide, ymem, yreg, yout)) := by
  have hA : yreg a = xreg a := (hreg a ha).symm
  have hB : yreg b = xreg b := (hreg b hb).symm
  have hV : (if z = 0 then n else ymem (p + 1)) = (if z = 0 then n else xstore (p + 1)) := by
    by_cases h : z = 0
    · rw [if_pos h, if_pos h]
    · rw [if_neg h, if_neg h]; exact (hmem _ (hz h)).symm
  refine ⟨0, (if z = 0 then nI p + 1 else nI p + 2), s + 1, o, xreg, yreg, (upd xstore c (xreg a)), (upd ymem c (xreg a)), xout, yout, fun _ => rfl, Nat.le_refl _, by omega, ?_, ?_, ?_, fun post H => ly_X125 (hq := by omega) (hp := hp) (z := z) (n := n) (hz := hz) (H := ?_), fun post H => ly_Y139 (ha := ha) (hb := hb) (hp := hp) (z := z) (n := n) (hz := hz) (H := ?_)⟩
  · exact hreg
  · exact ly_AG_upd hmem _ _
  · exact hout
  · exact ly_X7 (ha := ha) (hb := hb) (z := z) (n := n) (hc := hc) (hr := hr) (H := H)
  · rw [hA, hB, hV]; exact ly_Y7 (ha := ha) (hs := rfl) (hc := hc) (hy := hr) (H := H)
theorem ly_core8 {xbase xstrip xllen xtend xaend xlcnt xlrnd xlinked xblamed xran : Int32} {xops xA xB xcnt xrole xloc xglo xweak xuse xrep xunit xtgt xstay xlong xlist xchosen xplace ximg xreg xstore xout : Nat → Int32} {ymany ytend yend ymade yrounds yentry : Int32} {ylist yplace ysym yimg ystay ywide ymem yreg yout : Nat → Int32} {a b p s o : Nat} (ha : a < 8) (hb : b < 8) (hp : p < 256) (z n : Int32) (hz : ¬ z = 0 → p + 1 < 256) (ho : o ≤ s) (hs : s < 300) (hreg : ly_AG 8 xreg yreg) (hmem : ly_AG 256 xstore ymem) (hout : ∀ k, k < 40 → xout k = if k < o then yout k else 0) : ly_ST s (fun post => wX_step_125 post (nI 8) z (nI a) n (nI b) xbase xstrip xllen xtend xaend xlcnt xlrnd xlinked xblamed (nI o) (nI p) (nI s) xran xops xA xB xcnt xrole xloc xglo xweak xuse xrep xunit xtgt xstay xlong xlist xchosen xplace ximg xreg xstore xout) (fun post => wY_step_139 post (nI 8) (nI a) n (nI b) (nI p + 1) z xbase xstrip ymany xblamed ytend yend ymade yrounds yentry xlinked xran (nI p) (nI s) (nI o) xops xA xB xcnt xrole ylist yplace ysym yimg ystay ywide ymem yreg yout) (fun xouts xpc xsteps xreg xstore xout => (xbase, xstrip, xllen, xtend, xaend, xlcnt, xlrnd, xlinked, xblamed, xouts, xpc, xsteps, xran, xops, xA, xB, xcnt, xrole, xloc, xglo, xweak, xuse, xrep, xunit, xtgt, xstay, xlong, xlist, xchosen, xplace, ximg, xreg, xstore, xout)) (fun ypc ysteps youts ymem yreg yout => (xbase, xstrip, ymany, xblamed, ytend, yend, ymade, yrounds, yentry, xlinked, xran, ypc, ysteps, youts, xops, xA, xB, xcnt, xrole, ylist, yplace, ysym, yimg, ystay, ywide, ymem, yreg, yout)) := by
  have hA : yreg a = xreg a := (hreg a ha).symm
  have hB : yreg b = xreg b := (hreg b hb).symm
  have hV : (if z = 0 then n else ymem (p + 1)) = (if z = 0 then n else xstore (p + 1)) := by
    by_cases h : z = 0
    · rw [if_pos h, if_pos h]
    · rw [if_neg h, if_neg h]; exact (hmem _ (hz h)).symm
  refine ⟨0, (if z = 0 then nI p + n else (if z = 0 then n else xstore (p + 1))), s + 1, o, xreg, yreg, xstore, ymem, xout, yout, fun _ => rfl, Nat.le_refl _, by omega, ?_, ?_, ?_, fun post H => ly_X125 (hq := by omega) (hp := hp) (z := z) (n := n) (hz := hz) (H := ?_), fun post H => ly_Y139 (ha := ha) (hb := hb) (hp := hp) (z := z) (n := n) (hz := hz) (H := ?_)⟩
  · exact hreg
  · exact hmem
  · exact hout
  · exact ly_X8 (ha := ha) (hb := hb) (z := z) (n := n) (H := H)
  · rw [hA, hB, hV]; exact ly_Y8 (ha := ha) (hs := rfl) (H := H)
theorem ly_core9 {xbase xstrip xllen xtend xaend xlcnt xlrnd xlinked xblamed xran : Int32} {xops xA xB xcnt xrole xloc xglo xweak xuse xrep xunit xtgt xstay xlong xlist xchosen xplace ximg xreg xstore xout : Nat → Int32} {ymany ytend yend ymade yrounds yentry : Int32} {ylist yplace ysym yimg ystay ywide ymem yreg yout : Nat → Int32} {a b p s o : Nat} (ha : a < 8) (hb : b < 8) (hp : p < 256) (z n : Int32) (hz : ¬ z = 0 → p + 1 < 256) (ho : o ≤ s) (hs : s < 300) (hreg : ly_AG 8 xreg yreg) (hmem : ly_AG 256 xstore ymem) (hout : ∀ k, k < 40 → xout k = if k < o then yout k else 0) : ly_ST s (fun post => wX_step_125 post (nI 9) z (nI a) n (nI b) xbase xstrip xllen xtend xaend xlcnt xlrnd xlinked xblamed (nI o) (nI p) (nI s) xran xops xA xB xcnt xrole xloc xglo xweak xuse xrep xunit xtgt xstay xlong xlist xchosen xplace ximg xreg xstore xout) (fun post => wY_step_139 post (nI 9) (nI a) n (nI b) (nI p + 1) z xbase xstrip ymany xblamed ytend yend ymade yrounds yentry xlinked xran (nI p) (nI s) (nI o) xops xA xB xcnt xrole ylist yplace ysym yimg ystay ywide ymem yreg yout) (fun xouts xpc xsteps xreg xstore xout => (xbase, xstrip, xllen, xtend, xaend, xlcnt, xlrnd, xlinked, xblamed, xouts, xpc, xsteps, xran, xops, xA, xB, xcnt, xrole, xloc, xglo, xweak, xuse, xrep, xunit, xtgt, xstay, xlong, xlist, xchosen, xplace, ximg, xreg, xstore, xout)) (fun ypc ysteps youts ymem yreg yout => (xbase, xstrip, ymany, xblamed, ytend, yend, ymade, yrounds, yentry, xlinked, xran, ypc, ysteps, youts, xops, xA, xB, xcnt, xrole, ylist, yplace, ysym, yimg, ystay, ywide, ymem, yreg, yout)) := by
  have hA : yreg a = xreg a := (hreg a ha).symm
  have hB : yreg b = xreg b := (hreg b hb).symm
  have hV : (if z = 0 then n else ymem (p + 1)) = (if z = 0 then n else xstore (p + 1)) := by
    by_cases h : z = 0
    · rw [if_pos h, if_pos h]
    · rw [if_neg h, if_neg h]; exact (hmem _ (hz h)).symm
  refine ⟨0, (if xreg a = 0 then (if z = 0 then nI p + n else (if z = 0 then n else xstore (p + 1))) else (if z = 0 then nI p + 1 else nI p + 2)), s + 1, o, xreg, yreg, xstore, ymem, xout, yout, fun _ => rfl, Nat.le_refl _, by omega, ?_, ?_, ?_, fun post H => ly_X125 (hq := by omega) (hp := hp) (z := z) (n := n) (hz := hz) (H := ?_), fun post H => ly_Y139 (ha := ha) (hb := hb) (hp := hp) (z := z) (n := n) (hz := hz) (H := ?_)⟩
  · exact hreg
  · exact hmem
  · exact hout
  · exact ly_X9 (ha := ha) (hb := hb) (z := z) (n := n) (H := H)
  · rw [hA, hB, hV]; exact ly_Y9 (ha := ha) (hs := rfl) (H := H)
theorem ly_core10 {xbase xstrip xllen xtend xaend xlcnt xlrnd xlinked xblamed xran : Int32} {xops xA xB xcnt xrole xloc xglo xweak xuse xrep xunit xtgt xstay xlong xlist xchosen xplace ximg xreg xstore xout : Nat → Int32} {ymany ytend yend ymade yrounds yentry : Int32} {ylist yplace ysym yimg ystay ywide ymem yreg yout : Nat → Int32} {a b p s o : Nat} (ha : a < 8) (hb : b < 8) (hp : p < 256) (z n : Int32) (hz : ¬ z = 0 → p + 1 < 256) (ho : o ≤ s) (hs : s < 300) (hreg : ly_AG 8 xreg yreg) (hmem : ly_AG 256 xstore ymem) (hout : ∀ k, k < 40 → xout k = if k < o then yout k else 0) : ly_ST s (fun post => wX_step_125 post (nI 10) z (nI a) n (nI b) xbase xstrip xllen xtend xaend xlcnt xlrnd xlinked xblamed (nI o) (nI p) (nI s) xran xops xA xB xcnt xrole xloc xglo xweak xuse xrep xunit xtgt xstay xlong xlist xchosen xplace ximg xreg xstore xout) (fun post => wY_step_139 post (nI 10) (nI a) n (nI b) (nI p + 1) z xbase xstrip ymany xblamed ytend yend ymade yrounds yentry xlinked xran (nI p) (nI s) (nI o) xops xA xB xcnt xrole ylist yplace ysym yimg ystay ywide ymem yreg yout) (fun xouts xpc xsteps xreg xstore xout => (xbase, xstrip, xllen, xtend, xaend, xlcnt, xlrnd, xlinked, xblamed, xouts, xpc, xsteps, xran, xops, xA, xB, xcnt, xrole, xloc, xglo, xweak, xuse, xrep, xunit, xtgt, xstay, xlong, xlist, xchosen, xplace, ximg, xreg, xstore, xout)) (fun ypc ysteps youts ymem yreg yout => (xbase, xstrip, ymany, xblamed, ytend, yend, ymade, yrounds, yentry, xlinked, xran, ypc, ysteps, youts, xops, xA, xB, xcnt, xrole, ylist, yplace, ysym, yimg, ystay, ywide, ymem, yreg, yout)) := by
  have hA : yreg a = xreg a := (hreg a ha).symm
  have hB : yreg b = xreg b := (hreg b hb).symm
  have hV : (if z = 0 then n else ymem (p + 1)) = (if z = 0 then n else xstore (p + 1)) := by
    by_cases h : z = 0
    · rw [if_pos h, if_pos h]
    · rw [if_neg h, if_neg h]; exact (hmem _ (hz h)).symm
  refine ⟨0, (if z = 0 then nI p + n else (if z = 0 then n else xstore (p + 1))), s + 1, o, (upd xreg 7 (if z = 0 then nI p + 1 else nI p + 2)), (upd yreg 7 (if z = 0 then nI p + 1 else nI p + 2)), xstore, ymem, xout, yout, fun _ => rfl, Nat.le_refl _, by omega, ?_, ?_, ?_, fun post H => ly_X125 (hq := by omega) (hp := hp) (z := z) (n := n) (hz := hz) (H := ?_), fun post H => ly_Y139 (ha := ha) (hb := hb) (hp := hp) (z := z) (n := n) (hz := hz) (H := ?_)⟩
  · exact ly_AG_upd hreg _ _
  · exact hmem
  · exact hout
  · exact ly_X10 (ha := ha) (hb := hb) (z := z) (n := n) (H := H)
  · rw [hA, hB, hV]; exact ly_Y10 (ha := ha) (hs := rfl) (H := H)
theorem ly_core11 {xbase xstrip xllen xtend xaend xlcnt xlrnd xlinked xblamed xran : Int32} {xops xA xB xcnt xrole xloc xglo xweak xuse xrep xunit xtgt xstay xlong xlist xchosen xplace ximg xreg xstore xout : Nat → Int32} {ymany ytend yend ymade yrounds yentry : Int32} {ylist yplace ysym yimg ystay ywide ymem yreg yout : Nat → Int32} {a b p s o : Nat} (ha : a < 8) (hb : b < 8) (hp : p < 256) (z n : Int32) (hz : ¬ z = 0 → p + 1 < 256) (ho : o ≤ s) (hs : s < 300) (hreg : ly_AG 8 xreg yreg) (hmem : ly_AG 256 xstore ymem) (hout : ∀ k, k < 40 → xout k = if k < o then yout k else 0) : ly_ST s (fun post => wX_step_125 post (nI 11) z (nI a) n (nI b) xbase xstrip xllen xtend xaend xlcnt xlrnd xlinked xblamed (nI o) (nI p) (nI s) xran xops xA xB xcnt xrole xloc xglo xweak xuse xrep xunit xtgt xstay xlong xlist xchosen xplace ximg xreg xstore xout) (fun post => wY_step_139 post (nI 11) (nI a) n (nI b) (nI p + 1) z xbase xstrip ymany xblamed ytend yend ymade yrounds yentry xlinked xran (nI p) (nI s) (nI o) xops xA xB xcnt xrole ylist yplace ysym yimg ystay ywide ymem yreg yout) (fun xouts xpc xsteps xreg xstore xout => (xbase, xstrip, xllen, xtend, xaend, xlcnt, xlrnd, xlinked, xblamed, xouts, xpc, xsteps, xran, xops, xA, xB, xcnt, xrole, xloc, xglo, xweak, xuse, xrep, xunit, xtgt, xstay, xlong, xlist, xchosen, xplace, ximg, xreg, xstore, xout)) (fun ypc ysteps youts ymem yreg yout => (xbase, xstrip, ymany, xblamed, ytend, yend, ymade, yrounds, yentry, xlinked, xran, ypc, ysteps, youts, xops, xA, xB, xcnt, xrole, ylist, yplace, ysym, yimg, ystay, ywide, ymem, yreg, yout)) := by
  have hA : yreg a = xreg a := (hreg a ha).symm
  have hB : yreg b = xreg b := (hreg b hb).symm
  have hV : (if z = 0 then n else ymem (p + 1)) = (if z = 0 then n else xstore (p + 1)) := by
    by_cases h : z = 0
    · rw [if_pos h, if_pos h]
    · rw [if_neg h, if_neg h]; exact (hmem _ (hz h)).symm
  refine ⟨0, (xreg 7), s + 1, o, xreg, yreg, xstore, ymem, xout, yout, fun _ => rfl, Nat.le_refl _, by omega, ?_, ?_, ?_, fun post H => ly_X125 (hq := by omega) (hp := hp) (z := z) (n := n) (hz := hz) (H := ?_), fun post H => ly_Y139 (ha := ha) (hb := hb) (hp := hp) (z := z) (n := n) (hz := hz) (H := ?_)⟩
  · exact hreg
  · exact hmem
  · exact hout
  · exact ly_X11 (ha := ha) (hb := hb) (z := z) (n := n) (H := H)
  · rw [hA, hB, hV]; exact ly_Y11 (ha := ha) (hs := rfl) (H := by rw [← hreg 7 (by omega)]; exact H)
theorem ly_core13 {xbase xstrip xllen xtend xaend xlcnt xlrnd xlinked xblamed xran : Int32} {xops xA xB xcnt xrole xloc xglo xweak xuse xrep xunit xtgt xstay xlong xlist xchosen xplace ximg xreg xstore xout : Nat → Int32} {ymany ytend yend ymade yrounds yentry : Int32} {ylist yplace ysym yimg ystay ywide ymem yreg yout : Nat → Int32} {a b p s o : Nat} (ha : a < 8) (hb : b < 8) (hp : p < 256) (z n : Int32) (hz : ¬ z = 0 → p + 1 < 256) (ho : o ≤ s) (hs : s < 300) (hreg : ly_AG 8 xreg yreg) (hmem : ly_AG 256 xstore ymem) (hout : ∀ k, k < 40 → xout k = if k < o then yout k else 0) : ly_ST s (fun post => wX_step_125 post (nI 13) z (nI a) n (nI b) xbase xstrip xllen xtend xaend xlcnt xlrnd xlinked xblamed (nI o) (nI p) (nI s) xran xops xA xB xcnt xrole xloc xglo xweak xuse xrep xunit xtgt xstay xlong xlist xchosen xplace ximg xreg xstore xout) (fun post => wY_step_139 post (nI 13) (nI a) n (nI b) (nI p + 1) z xbase xstrip ymany xblamed ytend yend ymade yrounds yentry xlinked xran (nI p) (nI s) (nI o) xops xA xB xcnt xrole ylist yplace ysym yimg ystay ywide ymem yreg yout) (fun xouts xpc xsteps xreg xstore xout => (xbase, xstrip, xllen, xtend, xaend, xlcnt, xlrnd, xlinked, xblamed, xouts, xpc, xsteps, xran, xops, xA, xB, xcnt, xrole, xloc, xglo, xweak, xuse, xrep, xunit, xtgt, xstay, xlong, xlist, xchosen, xplace, ximg, xreg, xstore, xout)) (fun ypc ysteps youts ymem yreg yout => (xbase, xstrip, ymany, xblamed, ytend, yend, ymade, yrounds, yentry, xlinked, xran, ypc, ysteps, youts, xops, xA, xB, xcnt, xrole, ylist, yplace, ysym, yimg, ystay, ywide, ymem, yreg, yout)) := by
  have hA : yreg a = xreg a := (hreg a ha).symm
  have hB : yreg b = xreg b := (hreg b hb).symm
  have hV : (if z = 0 then n else ymem (p + 1)) = (if z = 0 then n else xstore (p + 1)) := by
    by_cases h : z = 0
    · rw [if_pos h, if_pos h]
    · rw [if_neg h, if_neg h]; exact (hmem _ (hz h)).symm
  refine ⟨0, (if z = 0 then nI p + 1 else nI p + 2), s + 1, (o + 1), xreg, yreg, xstore, ymem, (if o < 40 then upd xout o (xreg a) else xout), (if o < 40 then upd yout o (xreg a) else yout), fun _ => rfl, Nat.le_refl _, by omega, ?_, ?_, ?_, fun post H => ly_X125 (hq := by omega) (hp := hp) (z := z) (n := n) (hz := hz) (H := ?_), fun post H => ly_Y139 (ha := ha) (hb := hb) (hp := hp) (z := z) (n := n) (hz := hz) (H := ?_)⟩
  · exact hreg
  · exact hmem
  · intro k hk
    by_cases h : o < 40
    · rw [if_pos h, if_pos h]
      by_cases e : k = o
      · subst e; rw [pk_us, pk_us, if_pos (by omega)]
      · rw [pk_un e, pk_un e, hout k hk]
        by_cases h1 : k < o
        · rw [if_pos h1, if_pos (by omega)]
        · rw [if_neg h1, if_neg (by omega)]
    · rw [if_neg h, if_neg h, hout k hk, if_pos (by omega), if_pos (by omega)]
  · exact ly_X13 (ha := ha) (hb := hb) (z := z) (n := n) (hw := rfl) (hwb := by omega) (H := H)
  · rw [hA, hB, hV]; exact ly_Y13 (ha := ha) (hs := rfl) (hw := rfl) (hwb := by omega) (H := H)
theorem ly_core14 {xbase xstrip xllen xtend xaend xlcnt xlrnd xlinked xblamed xran : Int32} {xops xA xB xcnt xrole xloc xglo xweak xuse xrep xunit xtgt xstay xlong xlist xchosen xplace ximg xreg xstore xout : Nat → Int32} {ymany ytend yend ymade yrounds yentry : Int32} {ylist yplace ysym yimg ystay ywide ymem yreg yout : Nat → Int32} {a b p s o : Nat} (ha : a < 8) (hb : b < 8) (hp : p < 256) (z n : Int32) (hz : ¬ z = 0 → p + 1 < 256) (ho : o ≤ s) (hs : s < 300) (hreg : ly_AG 8 xreg yreg) (hmem : ly_AG 256 xstore ymem) (hout : ∀ k, k < 40 → xout k = if k < o then yout k else 0) : ly_ST s (fun post => wX_step_125 post (nI 14) z (nI a) n (nI b) xbase xstrip xllen xtend xaend xlcnt xlrnd xlinked xblamed (nI o) (nI p) (nI s) xran xops xA xB xcnt xrole xloc xglo xweak xuse xrep xunit xtgt xstay xlong xlist xchosen xplace ximg xreg xstore xout) (fun post => wY_step_139 post (nI 14) (nI a) n (nI b) (nI p + 1) z xbase xstrip ymany xblamed ytend yend ymade yrounds yentry xlinked xran (nI p) (nI s) (nI o) xops xA xB xcnt xrole ylist yplace ysym yimg ystay ywide ymem yreg yout) (fun xouts xpc xsteps xreg xstore xout => (xbase, xstrip, xllen, xtend, xaend, xlcnt, xlrnd, xlinked, xblamed, xouts, xpc, xsteps, xran, xops, xA, xB, xcnt, xrole, xloc, xglo, xweak, xuse, xrep, xunit, xtgt, xstay, xlong, xlist, xchosen, xplace, ximg, xreg, xstore, xout)) (fun ypc ysteps youts ymem yreg yout => (xbase, xstrip, ymany, xblamed, ytend, yend, ymade, yrounds, yentry, xlinked, xran, ypc, ysteps, youts, xops, xA, xB, xcnt, xrole, ylist, yplace, ysym, yimg, ystay, ywide, ymem, yreg, yout)) := by
  refine ⟨5, nI p, s + 1, o, xreg, yreg, xstore, ymem, xout, yout, fun h => absurd h (by decide), Nat.le_refl _, by omega, hreg, hmem, hout, fun post H => nm_r (nI_1 s) (br_t rfl H), fun post H => ly_Y139 (ha := ha) (hb := hb) (hp := hp) (z := z) (n := n) (hz := hz) (H := ?_)⟩
  exact ly_Y14 (ha := ha) (hs := rfl) (H := H)
theorem ly_core {xbase xstrip xllen xtend xaend xlcnt xlrnd xlinked xblamed xran : Int32} {xops xA xB xcnt xrole xloc xglo xweak xuse xrep xunit xtgt xstay xlong xlist xchosen xplace ximg xreg xstore xout : Nat → Int32} {ymany ytend yend ymade yrounds yentry : Int32} {ylist yplace ysym yimg ystay ywide ymem yreg yout : Nat → Int32} {a b p s o : Nat} (ha : a < 8) (hb : b < 8) (hp : p < 256) (z n : Int32) (hz : ¬ z = 0 → p + 1 < 256) (ho : o ≤ s) (hs : s < 300) (hreg : ly_AG 8 xreg yreg) (hmem : ly_AG 256 xstore ymem) (hout : ∀ k, k < 40 → xout k = if k < o then yout k else 0) {q : Nat} (h1 : 1 ≤ q) (h14 : q ≤ 14) (hr : q = 6 ∨ q = 7 → ∃ c : Nat, c < 256 ∧ xreg b = nI c) : ly_ST s (fun post => wX_step_125 post (nI q) z (nI a) n (nI b) xbase xstrip xllen xtend xaend xlcnt xlrnd xlinked xblamed (nI o) (nI p) (nI s) xran xops xA xB xcnt xrole xloc xglo xweak xuse xrep xunit xtgt xstay xlong xlist xchosen xplace ximg xreg xstore xout) (fun post => wY_step_139 post (nI q) (nI a) n (nI b) (nI p + 1) z xbase xstrip ymany xblamed ytend yend ymade yrounds yentry xlinked xran (nI p) (nI s) (nI o) xops xA xB xcnt xrole ylist yplace ysym yimg ystay ywide ymem yreg yout) (fun xouts xpc xsteps xreg xstore xout => (xbase, xstrip, xllen, xtend, xaend, xlcnt, xlrnd, xlinked, xblamed, xouts, xpc, xsteps, xran, xops, xA, xB, xcnt, xrole, xloc, xglo, xweak, xuse, xrep, xunit, xtgt, xstay, xlong, xlist, xchosen, xplace, ximg, xreg, xstore, xout)) (fun ypc ysteps youts ymem yreg yout => (xbase, xstrip, ymany, xblamed, ytend, yend, ymade, yrounds, yentry, xlinked, xran, ypc, ysteps, youts, xops, xA, xB, xcnt, xrole, ylist, yplace, ysym, yimg, ystay, ywide, ymem, yreg, yout)) := by
  have h : q = 1 ∨ q = 2 ∨ q = 3 ∨ q = 4 ∨ q = 5 ∨ q = 6 ∨ q = 7 ∨ q = 8 ∨ q = 9 ∨ q = 10 ∨ q = 11 ∨ q = 12 ∨ q = 13 ∨ q = 14 := by omega
  rcases h with rfl | rfl | rfl | rfl | rfl | rfl | rfl | rfl | rfl | rfl | rfl | rfl | rfl | rfl
  · exact ly_core1 (ha := ha) (hb := hb) (hp := hp) (z := z) (n := n) (hz := hz) (ho := ho) (hs := hs) (hreg := hreg) (hmem := hmem) (hout := hout) 
  · exact ly_core2 (ha := ha) (hb := hb) (hp := hp) (z := z) (n := n) (hz := hz) (ho := ho) (hs := hs) (hreg := hreg) (hmem := hmem) (hout := hout) 
  · exact ly_core3 (ha := ha) (hb := hb) (hp := hp) (z := z) (n := n) (hz := hz) (ho := ho) (hs := hs) (hreg := hreg) (hmem := hmem) (hout := hout) 
  · exact ly_core4 (ha := ha) (hb := hb) (hp := hp) (z := z) (n := n) (hz := hz) (ho := ho) (hs := hs) (hreg := hreg) (hmem := hmem) (hout := hout) 
  · exact ly_core5 (ha := ha) (hb := hb) (hp := hp) (z := z) (n := n) (hz := hz) (ho := ho) (hs := hs) (hreg := hreg) (hmem := hmem) (hout := hout) 
  · obtain ⟨c, hc, hr⟩ := hr (by omega)
    exact ly_core6 (ha := ha) (hb := hb) (hp := hp) (z := z) (n := n) (hz := hz) (ho := ho) (hs := hs) (hreg := hreg) (hmem := hmem) (hout := hout) (hc := hc) (hr := hr) 
  · obtain ⟨c, hc, hr⟩ := hr (by omega)
    exact ly_core7 (ha := ha) (hb := hb) (hp := hp) (z := z) (n := n) (hz := hz) (ho := ho) (hs := hs) (hreg := hreg) (hmem := hmem) (hout := hout) (hc := hc) (hr := hr) 
  · exact ly_core8 (ha := ha) (hb := hb) (hp := hp) (z := z) (n := n) (hz := hz) (ho := ho) (hs := hs) (hreg := hreg) (hmem := hmem) (hout := hout) 
  · exact ly_core9 (ha := ha) (hb := hb) (hp := hp) (z := z) (n := n) (hz := hz) (ho := ho) (hs := hs) (hreg := hreg) (hmem := hmem) (hout := hout) 
  · exact ly_core10 (ha := ha) (hb := hb) (hp := hp) (z := z) (n := n) (hz := hz) (ho := ho) (hs := hs) (hreg := hreg) (hmem := hmem) (hout := hout) 
  · exact ly_core11 (ha := ha) (hb := hb) (hp := hp) (z := z) (n := n) (hz := hz) (ho := ho) (hs := hs) (hreg := hreg) (hmem := hmem) (hout := hout) 
  · exact ly_core12 (ha := ha) (hb := hb) (hp := hp) (z := z) (n := n) (hz := hz) (ho := ho) (hs := hs) (hreg := hreg) (hmem := hmem) (hout := hout) 
  · exact ly_core13 (ha := ha) (hb := hb) (hp := hp) (z := z) (n := n) (hz := hz) (ho := ho) (hs := hs) (hreg := hreg) (hmem := hmem) (hout := hout) 
  · exact ly_core14 (ha := ha) (hb := hb) (hp := hp) (z := z) (n := n) (hz := hz) (ho := ho) (hs := hs) (hreg := hreg) (hmem := hmem) (hout := hout) 
end
section
/-! a step, the loop of a run, run -/
theorem ly_ST_map {s : Nat} {WX WX' : (Int32 → SX → Prop) → Prop} {WY WY' : (Int32 → SY → Prop) → Prop} {mX : Int32 → Int32 → Int32 → (Nat → Int32) → (Nat → Int32) → (Nat → Int32) → SX} {mY : Int32 → Int32 → Int32 → (Nat → Int32) → (Nat → Int32) → (Nat → Int32) → SY} (h : ly_ST s WX WY mX mY) (hx : ∀ post, WX post → WX' post) (hy : ∀ post, WY post → WY' post) : ly_ST s WX' WY' mX mY := by
  obtain ⟨r, pc, s', o, rg, yrg, st, ym, ou, you, h1, h2, h3, h4, h5, h6, h7, h8⟩ := h
  exact ⟨r, pc, s', o, rg, yrg, st, ym, ou, you, h1, h2, h3, h4, h5, h6, fun post H => hx post (h7 post H), fun post H => hy post (h8 post H)⟩
theorem ly_s77 {xbase xstrip xllen xtend xaend xlcnt xlrnd xlinked xblamed xran : Int32} {xops xA xB xcnt xrole xloc xglo xweak xuse xrep xunit xtgt xstay xlong xlist xchosen xplace ximg xreg xstore xout : Nat → Int32} {ymany ytend yend ymade yrounds yentry : Int32} {ylist yplace ysym yimg ystay ywide ymem yreg yout : Nat → Int32} {a b p s o : Nat} (ha : a < 8) (hb : b < 8) (hp : p < 256) (z w : Int32) (hz : ¬ z = 0 → p + 1 < 256) (ho : o ≤ s) (hs : s < 300) (hreg : ly_AG 8 xreg yreg) (hmem : ly_AG 256 xstore ymem) (hout : ∀ k, k < 40 → xout k = if k < o then yout k else 0)
    {q : Nat} (h1 : 1 ≤ q) (h14 : q ≤ 14) (ea : ((w.toUInt32 >>> ((20 : Int32).toUInt32 &&& Int32.toUInt32 31)).toInt32) &&& 7 = nI a) (eb : w.toInt16.toInt32 &&& 7 = nI b) : ly_ST s (fun post => wX_step_77 post w (nI q) z xbase xstrip xllen xtend xaend xlcnt xlrnd xlinked xblamed (nI o) (nI p) (nI s) xran xops xA xB xcnt xrole xloc xglo xweak xuse xrep xunit xtgt xstay xlong xlist xchosen xplace ximg xreg xstore xout) (fun post => wY_step_107 post (nI q) (nI a) w.toInt16.toInt32 (nI b) (nI p + 1) z xbase xstrip ymany xblamed ytend yend ymade yrounds yentry xlinked xran (nI p) (nI s) (nI o) xops xA xB xcnt xrole ylist yplace ysym yimg ystay ywide ymem yreg yout) (fun xouts xpc xsteps xreg xstore xout => (xbase, xstrip, xllen, xtend, xaend, xlcnt, xlrnd, xlinked, xblamed, xouts, xpc, xsteps, xran, xops, xA, xB, xcnt, xrole, xloc, xglo, xweak, xuse, xrep, xunit, xtgt, xstay, xlong, xlist, xchosen, xplace, ximg, xreg, xstore, xout)) (fun ypc ysteps youts ymem yreg yout => (xbase, xstrip, ymany, xblamed, ytend, yend, ymade, yrounds, yentry, xlinked, xran, ypc, ysteps, youts, xops, xA, xB, xcnt, xrole, ylist, yplace, ysym, yimg, ystay, ywide, ymem, yreg, yout)) := by
  have eB : (nI b).toNatClampNeg = b := ly_cl (by omega)
  by_cases h67 : q = 6 ∨ q = 7
  · -- X and Y both come to the test of the address
    have hx : ∀ post : Int32 → SX → Prop, wX_step_109 post (nI q) z (nI a) w.toInt16.toInt32 (nI b) xbase xstrip xllen xtend xaend xlcnt xlrnd xlinked xblamed (nI o) (nI p) (nI s) xran xops xA xB xcnt xrole xloc xglo xweak xuse xrep xunit xtgt xstay xlong xlist xchosen xplace ximg xreg xstore xout → wX_step_77 post w (nI q) z xbase xstrip xllen xtend xaend xlcnt xlrnd xlinked xblamed (nI o) (nI p) (nI s) xran xops xA xB xcnt xrole xloc xglo xweak xuse xrep xunit xtgt xstay xlong xlist xchosen xplace ximg xreg xstore xout := by
      intro post H
      rcases h67 with rfl | rfl
      · exact nm_r ea (nm_r eb (br_t rfl H))
      · exact nm_r ea (nm_r eb (br_f (by decide) (br_t rfl H)))
    have hy : ∀ post : Int32 → SY → Prop, wY_step_119 post (nI q) (nI a) w.toInt16.toInt32 (nI b) (nI p + 1) z xbase xstrip ymany xblamed ytend yend ymade yrounds yentry xlinked xran (nI p) (nI s) (nI o) xops xA xB xcnt xrole ylist yplace ysym yimg ystay ywide ymem yreg yout → wY_step_107 post (nI q) (nI a) w.toInt16.toInt32 (nI b) (nI p + 1) z xbase xstrip ymany xblamed ytend yend ymade yrounds yentry xlinked xran (nI p) (nI s) (nI o) xops xA xB xcnt xrole ylist yplace ysym yimg ystay ywide ymem yreg yout := by
      intro post H
      rcases h67 with rfl | rfl
      · exact br_t rfl H
      · exact br_f (by decide) (br_t rfl H)
    rcases ly_ix3 (xreg b) (n := 256) (by omega) with h | ⟨c, hc, hr⟩
    · refine ⟨7, nI p, s, o, xreg, yreg, xstore, ymem, xout, yout, fun h => absurd h (by decide), by omega, ho, hreg, hmem, hout, fun post H => hx post ⟨vp_in_nI hb (by omega), ?_⟩, fun post H => hy post ⟨vp_in_nI hb (by omega), ?_⟩⟩
      · rw [eB]; exact ly_xadr0 h (br_t rfl H)
      · rw [eB, ← hreg b hb]; exact ly_yadr0 h (br_t rfl H)
    · refine ly_ST_map (ly_core (ha := ha) (hb := hb) (hp := hp) (z := z) (n := w.toInt16.toInt32) (hz := hz) (ho := ho) (hs := hs) (hreg := hreg) (hmem := hmem) (hout := hout) (h1 := h1) (h14 := h14) (hr := fun _ => ⟨c, hc, hr⟩)) (fun post H => hx post ⟨vp_in_nI hb (by omega), ?_⟩) (fun post H => hy post ⟨vp_in_nI hb (by omega), ?_⟩)
      · rw [eB, hr]; exact ly_xadr1 hc (br_f (by decide) H)
      · rw [eB, ← hreg b hb, hr]; exact ly_yadr1 hc (br_f (by decide) H)
  · have n6 : ¬ nI q = 6 := fun e => by have := ly_inj (b := 6) (by omega) (by omega) e; omega
    have n7 : ¬ nI q = 7 := fun e => by have := ly_inj (b := 7) (by omega) (by omega) e; omega
    exact ly_ST_map (ly_core (ha := ha) (hb := hb) (hp := hp) (z := z) (n := w.toInt16.toInt32) (hz := hz) (ho := ho) (hs := hs) (hreg := hreg) (hmem := hmem) (hout := hout) (h1 := h1) (h14 := h14) (hr := fun h => absurd h h67)) (fun post H => nm_r ea (nm_r eb (br_f n6 (br_f n7 H)))) (fun post H => br_f n6 (br_f n7 H))
theorem ly_step {xbase xstrip xllen xtend xaend xlcnt xlrnd xlinked xblamed xpc xran : Int32} {xops xA xB xcnt xrole xloc xglo xweak xuse xrep xunit xtgt xstay xlong xlist xchosen xplace ximg xreg xstore xout : Nat → Int32} {ymany ytend yend ymade yrounds yentry : Int32} {ylist yplace ysym yimg ystay ywide ymem yreg yout : Nat → Int32} {s o : Nat} (ho : o ≤ s) (hs : s < 300) (hreg : ly_AG 8 xreg yreg) (hmem : ly_AG 256 xstore ymem) (hout : ∀ k, k < 40 → xout k = if k < o then yout k else 0) : ly_ST s (fun post => wpX_step post (xbase, xstrip, xllen, xtend, xaend, xlcnt, xlrnd, xlinked, xblamed, nI o, xpc, nI s, xran, xops, xA, xB, xcnt, xrole, xloc, xglo, xweak, xuse, xrep, xunit, xtgt, xstay, xlong, xlist, xchosen, xplace, ximg, xreg, xstore, xout)) (fun post => wpY_step post (xbase, xstrip, ymany, xblamed, ytend, yend, ymade, yrounds, yentry, xlinked, xran, xpc, nI s, nI o, xops, xA, xB, xcnt, xrole, ylist, yplace, ysym, yimg, ystay, ywide, ymem, yreg, yout)) (fun xouts xpc xsteps xreg xstore xout => (xbase, xstrip, xllen, xtend, xaend, xlcnt, xlrnd, xlinked, xblamed, xouts, xpc, xsteps, xran, xops, xA, xB, xcnt, xrole, xloc, xglo, xweak, xuse, xrep, xunit, xtgt, xstay, xlong, xlist, xchosen, xplace, ximg, xreg, xstore, xout)) (fun ypc ysteps youts ymem yreg yout => (xbase, xstrip, ymany, xblamed, ytend, yend, ymade, yrounds, yentry, xlinked, xran, ypc, ysteps, youts, xops, xA, xB, xcnt, xrole, ylist, yplace, ysym, yimg, ystay, ywide, ymem, yreg, yout)) := by
  rcases ly_ix3 xpc (n := 256) (by omega) with h | ⟨p, hp, rfl⟩
  · refine ⟨7, xpc, s, o, xreg, yreg, xstore, ymem, xout, yout, fun h => absurd h (by decide), by omega, ho, hreg, hmem, hout, fun post H => ?_, fun post H => ?_⟩
    · (try dsimp only); unfold wpX_step; exact ly_xadr0 h (br_t rfl H)
    · (try dsimp only); unfold wpY_step; exact ly_yadr0 h (br_t rfl H)
  · obtain ⟨q, hq, eq⟩ := pk_andE (xstore p >>> ((24 : Int32) &&& 31)) (m := 31) 5 (by decide)
    obtain ⟨a, ha, ea⟩ := pk_andE (xstore p >>> ((20 : Int32) &&& 31)) (m := 7) 3 (by decide)
    obtain ⟨b, hb, eb⟩ := pk_andE (xstore p).toInt16.toInt32 (m := 7) 3 (by decide)
    have eP : (nI p).toNatClampNeg = p := ly_cl (by omega)
    have ew : xstore (nI p).toNatClampNeg = xstore p := by rw [eP]
    have ewy : ymem (nI p).toNatClampNeg = xstore p := by rw [eP]; exact (hmem p hp).symm
    have eqx := (ly_wop (xstore p)).trans eq
    have eax := (ly_wrg (xstore p)).trans ea
    have hq' : q < 32 := hq
    by_cases h14 : 1 ≤ q ∧ q ≤ 14
    · have c1 : ¬ nI q < 1 := nI_nlt (b := 1) h14.1 (by omega)
      have c2 : nI q ≤ 14 := nI_le (b := 14) h14.2 (by omega)
      have c3 : ¬ (14 : Int32) < nI q := nI_nlt (a := 14) h14.2 (by omega)
      rcases ly_wlg (xstore p) with ⟨l1, l2⟩ | ⟨l1, l2⟩
      · refine ly_ST_map (ly_s77 (ha := ha) (hb := hb) (hp := hp) (z := 0) (w := xstore p) (hz := fun h => absurd rfl h) (ho := ho) (hs := hs) (hreg := hreg) (hmem := hmem) (hout := hout) (h1 := h14.1) (h14 := h14.2) (ea := eax) (eb := eb)) (fun post H => ?_) (fun post H => ?_)
        · (try dsimp only); unfold wpX_step
          exact ly_xadr1 hp (br_f (by decide) ⟨vp_in_nI hp (by omega), nm_r ew (nm_r eqx (br_f c1 (br_t c2 (br_t l1 (br_t rfl H)))))⟩)
        · (try dsimp only); unfold wpY_step
          exact ly_yadr1 hp (br_f (by decide) ⟨vp_in_nI hp (by omega), nm_r ewy (nm_r eq (nm_r ea (nm_r eb (nm_e (br_f (by rw [l2]; decide) (br_f c1 (br_f c3 (br_f (by decide) (br_t rfl H)))))))))⟩)
      · have lx : ¬ (xstore p &&& 65536) = 0 := by rw [l1]; decide
        by_cases h255 : p = 255
        · subst h255
          refine ⟨7, nI 255, s, o, xreg, yreg, xstore, ymem, xout, yout, fun h => absurd h (by decide), by omega, ho, hreg, hmem, hout, fun post H => ?_, fun post H => ?_⟩
          · (try dsimp only); unfold wpX_step
            exact ly_xadr1 hp (br_f (by decide) ⟨vp_in_nI hp (by omega), nm_r ew (nm_r eqx (br_f c1 (br_t c2 (br_f lx (br_f (by decide) (ly_xadr0 (Or.inr (by decide)) (br_t rfl H)))))))⟩)
          · (try dsimp only); unfold wpY_step
            exact ly_yadr1 hp (br_f (by decide) ⟨vp_in_nI hp (by omega), nm_r ewy (nm_r eq (nm_r ea (nm_r eb (nm_e (br_t l2 (br_f c1 (br_f c3 (br_f (by decide) (br_f (by decide) (br_t rfl H))))))))))⟩)
        · have e1 : nI p + 1 = nI (p + 1) := nI_1 p
          have n255 : ¬ nI p = 255 := fun e => h255 (ly_inj (b := 255) (by omega) (by omega) e)
          refine ly_ST_map (ly_s77 (ha := ha) (hb := hb) (hp := hp) (z := 1) (w := xstore p) (hz := fun _ => by omega) (ho := ho) (hs := hs) (hreg := hreg) (hmem := hmem) (hout := hout) (h1 := h14.1) (h14 := h14.2) (ea := eax) (eb := eb)) (fun post H => ?_) (fun post H => ?_)
          · (try dsimp only); unfold wpX_step
            refine ly_xadr1 hp (br_f (by decide) ⟨vp_in_nI hp (by omega), nm_r ew (nm_r eqx (br_f c1 (br_t c2 (br_f lx (br_f (by decide) ?_)))))⟩)
            rw [e1]
            exact ly_xadr1 (by omega) (br_f (by decide) H)
          · (try dsimp only); unfold wpY_step
            exact ly_yadr1 hp (br_f (by decide) ⟨vp_in_nI hp (by omega), nm_r ewy (nm_r eq (nm_r ea (nm_r eb (nm_e (br_t l2 (br_f c1 (br_f c3 (br_f (by decide) (br_f (by decide) (br_f n255 H))))))))))⟩)
    · refine ⟨8, nI p, s, o, xreg, yreg, xstore, ymem, xout, yout, fun h => absurd h (by decide), by omega, ho, hreg, hmem, hout, fun post H => ?_, fun post H => ?_⟩
      · (try dsimp only); unfold wpX_step
        refine ly_xadr1 hp (br_f (by decide) ⟨vp_in_nI hp (by omega), nm_r ew (nm_r eqx ?_)⟩)
        by_cases h0 : q < 1
        · exact br_t (nI_lt (b := 1) h0 (by omega)) H
        · exact br_f (nI_nlt (b := 1) (by omega) (by omega)) (br_f (nI_ge (a := 14) (by omega) (by omega)) H)
      · (try dsimp only); unfold wpY_step
        have hin : ∀ z0 : Int32, wY_step_77 post (nI q) (nI a) (xstore p).toInt16.toInt32 (nI b) (nI p + 1) z0 xbase xstrip ymany xblamed ytend yend ymade yrounds yentry xlinked xran (nI p) (nI s) (nI o) xops xA xB xcnt xrole ylist yplace ysym yimg ystay ywide ymem yreg yout := by
          intro z0
          by_cases h0 : q < 1
          · exact br_t (nI_lt (b := 1) h0 (by omega)) (br_t rfl H)
          · exact br_f (nI_nlt (b := 1) (by omega) (by omega)) (br_t (nI_lt (a := 14) (by omega) (by omega)) (br_t rfl H))
        exact ly_yadr1 hp (br_f (by decide) ⟨vp_in_nI hp (by omega), nm_r ewy (nm_r eq (nm_r ea (nm_r eb (nm_e (br_c (fun _ => hin 1) (fun _ => hin 0))))))⟩)
theorem ly_loop {xbase xstrip xllen xtend xaend xlcnt xlrnd xlinked xblamed xran : Int32} {xops xA xB xcnt xrole xloc xglo xweak xuse xrep xunit xtgt xstay xlong xlist xchosen xplace ximg : Nat → Int32} {ymany ytend yend ymade yrounds yentry : Int32} {ylist yplace ysym yimg ystay ywide : Nat → Int32} (Q : Int32 → SX → Prop) (P : Int32 → SX → Int32 → SY → Prop)
    (fin : ∀ (r xpc : Int32) (s o : Nat) (xreg yreg xstore ymem xout yout : Nat → Int32), o ≤ s → s ≤ 300 → ly_AG 8 xreg yreg → ly_AG 256 xstore ymem → (∀ k, k < 40 → xout k = if k < o then yout k else 0) → P r (xbase, xstrip, xllen, xtend, xaend, xlcnt, xlrnd, xlinked, xblamed, nI o, xpc, nI s, xran, xops, xA, xB, xcnt, xrole, xloc, xglo, xweak, xuse, xrep, xunit, xtgt, xstay, xlong, xlist, xchosen, xplace, ximg, xreg, xstore, xout) r (xbase, xstrip, ymany, xblamed, ytend, yend, ymade, yrounds, yentry, xlinked, xran, xpc, nI s, nI o, xops, xA, xB, xcnt, xrole, ylist, yplace, ysym, yimg, ystay, ywide, ymem, yreg, yout)) :
    ∀ (d s o : Nat) (xpc : Int32) (xreg yreg xstore ymem xout yout : Nat → Int32), s + d = 300 → o ≤ s → ly_AG 8 xreg yreg → ly_AG 256 xstore ymem → (∀ k, k < 40 → xout k = if k < o then yout k else 0) → (∀ r u', (∃ n, wY_run_82 (P r u') n 0 xbase xstrip ymany xblamed ytend yend ymade yrounds yentry xlinked xran xpc (nI s) (nI o) xops xA xB xcnt xrole ylist yplace ysym yimg ystay ywide ymem yreg yout) → Q r u') → wX_run_15 Q (d + 1) (nI s) xbase xstrip xllen xtend xaend xlcnt xlrnd xlinked xblamed (nI o) xpc (nI s) xran xops xA xB xcnt xrole xloc xglo xweak xuse xrep xunit xtgt xstay xlong xlist xchosen xplace ximg xreg xstore xout := by
  intro d
  induction d with
  | zero =>
    intro s o xpc xreg yreg xstore ymem xout yout hd ho hreg hmem hout HY
    have e : s = 300 := by omega
    subst e
    exact br_t (by decide) (HY 6 _ ⟨2, br_t rfl (br_t rfl (br_f (by decide) (fin 6 xpc 300 o xreg yreg xstore ymem xout yout ho (by omega) hreg hmem hout)))⟩)
  | succ d ih =>
    intro s o xpc xreg yreg xstore ymem xout yout hd ho hreg hmem hout HY
    have ns : ¬ nI s = 300 := fun e => by have := ly_inj (b := 300) (by omega) (by omega) e; omega
    obtain ⟨r, pc', s', o', rg, yrg, st, ym, ou, you, h1, h2, h3, h4, h5, h6, h7, h8⟩ := ly_step (xbase := xbase) (xstrip := xstrip) (xllen := xllen) (xtend := xtend) (xaend := xaend) (xlcnt := xlcnt) (xlrnd := xlrnd) (xlinked := xlinked) (xblamed := xblamed) (xpc := xpc) (xran := xran) (xops := xops) (xA := xA) (xB := xB) (xcnt := xcnt) (xrole := xrole) (xloc := xloc) (xglo := xglo) (xweak := xweak) (xuse := xuse) (xrep := xrep) (xunit := xunit) (xtgt := xtgt) (xstay := xstay) (xlong := xlong) (xlist := xlist) (xchosen := xchosen) (xplace := xplace) (ximg := ximg) (ymany := ymany) (ytend := ytend) (yend := yend) (ymade := ymade) (yrounds := yrounds) (yentry := yentry) (ylist := ylist) (yplace := yplace) (ysym := ysym) (yimg := yimg) (ystay := ystay) (ywide := ywide) ho (by omega : s < 300) hreg hmem hout
    refine br_f (nI_ge (b := 300) (by omega) (by omega)) (h7 _ ?_)
    by_cases hr : r = 0
    · have e := h1 hr
      subst hr
      subst e
      exact br_t rfl (nm_r (nI_1 s) (ih (s + 1) o' pc' rg yrg st ym ou you (by omega) h3 h4 h5 h6 (fun r u' ⟨n, hn⟩ => HY r u' ⟨n + 1, br_t rfl (br_f ns (h8 _ hn))⟩)))
    · exact br_f hr (HY r _ ⟨2, br_t rfl (br_f ns (h8 _ (br_f hr (fin r pc' s' o' rg yrg st ym ou you h3 (by omega) h4 h5 h6))))⟩)
end
section
/-! how a run begins, and run -/
theorem ly_b55 {post : SX → Prop} {xbase xstrip xllen xtend xaend xlcnt xlrnd xlinked xblamed xouts xpc xsteps xran : Int32} {xops xA xB xcnt xrole xloc xglo xweak xuse xrep xunit xtgt xstay xlong xlist xchosen xplace ximg xreg xstore : Nat → Int32} {t : Nat} (ht : t < 144) (hc : xchosen 0 = nI t) (H : ∀ ou : Nat → Int32, (∀ i, i < 40 → ou i = 0) → post (xbase, xstrip, xllen, xtend, xaend, xlcnt, xlrnd, xlinked, xblamed, 0, xplace t, 0, xran, xops, xA, xB, xcnt, xrole, xloc, xglo, xweak, xuse, xrep, xunit, xtgt, xstay, xlong, xlist, xchosen, xplace, ximg, xreg, xstore, ou)) : ∀ (d k : Nat) (ou : Nat → Int32), k + d = 40 → (∀ i, i < k → ou i = 0) → wX_beginRun_55 post xbase xstrip xllen xtend xaend xlcnt xlrnd xlinked xblamed xouts xpc xsteps xran (d + 1) (nI k) xops xA xB xcnt xrole xloc xglo xweak xuse xrep xunit xtgt xstay xlong xlist xchosen xplace ximg xreg xstore ou := by
  intro d
  induction d with
  | zero =>
    intro k ou hd ho
    have e : k = 40 := by omega
    subst e
    refine br_t (by decide) ?_
    rw [hc]
    exact br_f (ly_m1 (by omega)) ⟨vp_in_nI ht (by omega), nm_r (e' := xplace t) (by rw [ly_cl (i := t) (by omega)]) (H ou ho)⟩
  | succ d ih =>
    intro k ou hd ho
    refine br_f (nI_ge (b := 40) (by omega) (by omega)) ⟨vp_in_nI (by omega) (by omega), nm_r (e' := upd ou k 0) (by rw [ly_cl (i := k) (by omega)]) (nm_r (nI_1 k) (ih (k + 1) _ (by omega) (fun i hi => ?_)))⟩
    by_cases e : i = k
    · subst e; exact pk_us
    · rw [pk_un e]; exact ho i (by omega)
theorem ly_b34 {post : SX → Prop} {xbase xstrip xllen xtend xaend xlcnt xlrnd xlinked xblamed xouts xpc xsteps xran : Int32} {xops xA xB xcnt xrole xloc xglo xweak xuse xrep xunit xtgt xstay xlong xlist xchosen xplace ximg xstore xout : Nat → Int32} (H : ∀ rg : Nat → Int32, (∀ i, i < 8 → rg i = 0) → ∃ n55, wX_beginRun_55 post xbase xstrip xllen xtend xaend xlcnt xlrnd xlinked xblamed xouts xpc xsteps xran n55 0 xops xA xB xcnt xrole xloc xglo xweak xuse xrep xunit xtgt xstay xlong xlist xchosen xplace ximg rg xstore xout) : ∀ (d k : Nat) (rg : Nat → Int32), k + d = 8 → (∀ i, i < k → rg i = 0) → wX_beginRun_34 post xbase xstrip xllen xtend xaend xlcnt xlrnd xlinked xblamed xouts xpc xsteps xran (d + 1) (nI k) xops xA xB xcnt xrole xloc xglo xweak xuse xrep xunit xtgt xstay xlong xlist xchosen xplace ximg rg xstore xout := by
  intro d
  induction d with
  | zero =>
    intro k ou hd ho
    have e : k = 8 := by omega
    subst e
    exact br_t (by decide) (H ou ho)
  | succ d ih =>
    intro k ou hd ho
    refine br_f (nI_ge (b := 8) (by omega) (by omega)) ⟨vp_in_nI (by omega) (by omega), nm_r (e' := upd ou k 0) (by rw [ly_cl (i := k) (by omega)]) (nm_r (nI_1 k) (ih (k + 1) _ (by omega) (fun i hi => ?_)))⟩
    by_cases e : i = k
    · subst e; exact pk_us
    · rw [pk_un e]; exact ho i (by omega)
theorem ly_b7r {post : SX → Prop} {xbase xstrip xllen xtend xaend xlcnt xlrnd xlinked xblamed xouts xpc xsteps xran : Int32} {xops xA xB xcnt xrole xloc xglo xweak xuse xrep xunit xtgt xstay xlong xlist xchosen xplace ximg xreg xout : Nat → Int32} (H : ∀ st : Nat → Int32, (∀ i, i < 256 → st i = ximg i) → ∃ n34, wX_beginRun_34 post xbase xstrip xllen xtend xaend xlcnt xlrnd xlinked xblamed xouts xpc xsteps xran n34 0 xops xA xB xcnt xrole xloc xglo xweak xuse xrep xunit xtgt xstay xlong xlist xchosen xplace ximg xreg st xout) : ∀ (d k : Nat) (st : Nat → Int32), k + d = 256 → (∀ i, i < k → st i = ximg i) → wX_beginRun_7 post xbase xstrip xllen xtend xaend xlcnt xlrnd xlinked xblamed xouts xpc xsteps xran (d + 1) (nI k) xops xA xB xcnt xrole xloc xglo xweak xuse xrep xunit xtgt xstay xlong xlist xchosen xplace ximg xreg st xout := by
  intro d
  induction d with
  | zero =>
    intro k ou hd ho
    have e : k = 256 := by omega
    subst e
    exact br_t (by decide) (H ou ho)
  | succ d ih =>
    intro k ou hd ho
    refine br_f (nI_ge (b := 256) (by omega) (by omega)) ⟨vp_in_nI (by omega) (by omega), vp_in_nI (by omega) (by omega), nm_r (e' := upd ou k (ximg k)) (by rw [ly_cl (i := k) (by omega)]) (nm_r (nI_1 k) (ih (k + 1) _ (by omega) (fun i hi => ?_)))⟩
    by_cases e : i = k
    · subst e; exact pk_us
    · rw [pk_un e]; exact ho i (by omega)
theorem ly_begin {post : SX → Prop} {xbase xstrip xllen xtend xaend xlcnt xlrnd xlinked xblamed xouts xpc xsteps xran : Int32} {xops xA xB xcnt xrole xloc xglo xweak xuse xrep xunit xtgt xstay xlong xlist xchosen xplace ximg xreg xstore xout : Nat → Int32} {t : Nat} (ht : t < 144) (hc : xchosen 0 = nI t) (H : ∀ st rg ou : Nat → Int32, (∀ i, i < 256 → st i = ximg i) → (∀ i, i < 8 → rg i = 0) → (∀ i, i < 40 → ou i = 0) → post (xbase, xstrip, xllen, xtend, xaend, xlcnt, xlrnd, xlinked, xblamed, 0, xplace t, 0, 1, xops, xA, xB, xcnt, xrole, xloc, xglo, xweak, xuse, xrep, xunit, xtgt, xstay, xlong, xlist, xchosen, xplace, ximg, rg, st, ou)) : wpX_beginRun post (xbase, xstrip, xllen, xtend, xaend, xlcnt, xlrnd, xlinked, xblamed, xouts, xpc, xsteps, xran, xops, xA, xB, xcnt, xrole, xloc, xglo, xweak, xuse, xrep, xunit, xtgt, xstay, xlong, xlist, xchosen, xplace, ximg, xreg, xstore, xout) :=
  ⟨257, ly_b7r (H := fun st hst => ⟨9, ly_b34 (H := fun rg hrg => ⟨41, ly_b55 (ht := ht) (hc := hc) (H := fun ou hou => H st rg ou hst hrg hou) 40 0 xout (by omega) (fun i hi => by omega)⟩) 8 0 xreg (by omega) (fun i hi => by omega)⟩) 256 0 xstore (by omega) (fun i hi => by omega)⟩
theorem ly_y43 {yorg ystrip ymany yculp ytend yend ymade yrounds yentry ylinked yran ypc ysteps youts : Int32} {yops yA yB ycnt yrole ylist yplace ysym yimg ystay ywide ymem yout : Nat → Int32} : ∀ (d k : Nat) (rg : Nat → Int32), k + d = 8 → (∀ i, i < k → rg i = 0) → ∃ yrg : Nat → Int32, (∀ i, i < 8 → yrg i = 0) ∧ ∀ post : Int32 → SY → Prop, (∃ n82, wY_run_82 post n82 0 yorg ystrip ymany yculp ytend yend ymade yrounds yentry ylinked yran yentry 0 0 yops yA yB ycnt yrole ylist yplace ysym yimg ystay ywide ymem yrg yout) → wY_run_43 post yorg ystrip ymany yculp ytend yend ymade yrounds yentry ylinked yran ypc ysteps youts (d + 1) (nI k) yops yA yB ycnt yrole ylist yplace ysym yimg ystay ywide ymem rg yout := by
  intro d
  induction d with
  | zero =>
    intro k ou hd ho
    have e : k = 8 := by omega
    subst e
    exact ⟨ou, ho, fun post H => br_t (by decide) H⟩
  | succ d ih =>
    intro k ou hd ho
    obtain ⟨yrg, h1, h2⟩ := ih (k + 1) (upd ou k 0) (by omega) (fun i hi => by
      by_cases e : i = k
      · subst e; exact pk_us
      · rw [pk_un e]; exact ho i (by omega))
    exact ⟨yrg, h1, fun post H => br_f (nI_ge (b := 8) (by omega) (by omega)) ⟨vp_in_nI (by omega) (by omega), nm_r (e' := upd ou k 0) (by rw [ly_cl (i := k) (by omega)]) (nm_r (nI_1 k) (h2 post H))⟩⟩
theorem ly_y16 {yorg ystrip ymany yculp ytend yend ymade yrounds yentry ylinked yran ypc ysteps youts : Int32} {yops yA yB ycnt yrole ylist yplace ysym yimg ystay ywide yreg yout : Nat → Int32} : ∀ (d k : Nat) (m : Nat → Int32), k + d = 256 → (∀ i, i < k → m i = yimg i) → ∃ ym yrg : Nat → Int32, (∀ i, i < 256 → ym i = yimg i) ∧ (∀ i, i < 8 → yrg i = 0) ∧ ∀ post : Int32 → SY → Prop, (∃ n82, wY_run_82 post n82 0 yorg ystrip ymany yculp ytend yend ymade yrounds yentry ylinked yran yentry 0 0 yops yA yB ycnt yrole ylist yplace ysym yimg ystay ywide ym yrg yout) → wY_run_16 post yorg ystrip ymany yculp ytend yend ymade yrounds yentry ylinked yran ypc ysteps youts (d + 1) (nI k) yops yA yB ycnt yrole ylist yplace ysym yimg ystay ywide m yreg yout := by
  intro d
  induction d with
  | zero =>
    intro k ou hd ho
    have e : k = 256 := by omega
    subst e
    obtain ⟨yrg, h1, h2⟩ := ly_y43 (yorg := yorg) (ystrip := ystrip) (ymany := ymany) (yculp := yculp) (ytend := ytend) (yend := yend) (ymade := ymade) (yrounds := yrounds) (yentry := yentry) (ylinked := ylinked) (yran := yran) (ypc := ypc) (ysteps := ysteps) (youts := youts) (yops := yops) (yA := yA) (yB := yB) (ycnt := ycnt) (yrole := yrole) (ylist := ylist) (yplace := yplace) (ysym := ysym) (yimg := yimg) (ystay := ystay) (ywide := ywide) (ymem := ou) (yout := yout) 8 0 yreg (by omega) (fun i hi => by omega)
    exact ⟨ou, yrg, ho, h1, fun post H => br_t (by decide) ⟨9, h2 post H⟩⟩
  | succ d ih =>
    intro k ou hd ho
    obtain ⟨ym, yrg, h0, h1, h2⟩ := ih (k + 1) (upd ou k (yimg k)) (by omega) (fun i hi => by
      by_cases e : i = k
      · subst e; exact pk_us
      · rw [pk_un e]; exact ho i (by omega))
    exact ⟨ym, yrg, h0, h1, fun post H => br_f (nI_ge (b := 256) (by omega) (by omega)) ⟨vp_in_nI (by omega) (by omega), vp_in_nI (by omega) (by omega), nm_r (e' := upd ou k (yimg k)) (by rw [ly_cl (i := k) (by omega)]) (nm_r (nI_1 k) (h2 post H))⟩⟩
theorem i_vc_run {k : Nat} {u : SX} {v : SY} (I : i_Rel k u v) (hk : k + 5 ≤ 2560) : wpX_run (fun r u' => wpY_run (fun r' v' => r' = r ∧ i_Rel (k + 5) u' v') v) u := by
  obtain ⟨xbase, xstrip, xllen, xtend, xaend, xlcnt, xlrnd, xlinked, xblamed, xouts, xpc, xsteps, xran, xops, xA, xB, xcnt, xrole, xloc, xglo, xweak, xuse, xrep, xunit, xtgt, xstay, xlong, xlist, xchosen, xplace, ximg, xreg, xstore, xout, ymany, ytend, yend, ymade, yrounds, yentry, ylist, yplace, ysym, yimg, ystay, ywide, ymem, yreg, yout, rfl, rfl, hW, hF, hb, hr, hl⟩ := I
  have fin : i_Rel (k + 5) (xbase, xstrip, xllen, xtend, xaend, xlcnt, xlrnd, xlinked, xblamed, xouts, xpc, xsteps, xran, xops, xA, xB, xcnt, xrole, xloc, xglo, xweak, xuse, xrep, xunit, xtgt, xstay, xlong, xlist, xchosen, xplace, ximg, xreg, xstore, xout) (xbase, xstrip, ymany, xblamed, ytend, yend, ymade, yrounds, yentry, xlinked, xran, xpc, xsteps, xouts, xops, xA, xB, xcnt, xrole, ylist, yplace, ysym, yimg, ystay, ywide, ymem, yreg, yout) := ⟨xbase, xstrip, xllen, xtend, xaend, xlcnt, xlrnd, xlinked, xblamed, xouts, xpc, xsteps, xran, xops, xA, xB, xcnt, xrole, xloc, xglo, xweak, xuse, xrep, xunit, xtgt, xstay, xlong, xlist, xchosen, xplace, ximg, xreg, xstore, xout, ymany, ytend, yend, ymade, yrounds, yentry, ylist, yplace, ysym, yimg, ystay, ywide, ymem, yreg, yout, rfl, rfl, hW, hF, hb, hr, hl⟩
  unfold wpX_run
  dsimp only
  by_cases hL : xlinked = 0
  · exact br_t hL (br_t hL ⟨rfl, fin⟩)
  · obtain ⟨n, hn, en1, en2, hlist, e1, e2, e3, e4, hpl, him, hent, hch⟩ := hl hL
    obtain ⟨t, ht, ec, es⟩ : ∃ t : Nat, t < 144 ∧ xchosen 0 = nI t ∧ ysym 0 = yplace t := by
      rcases hch 0 (by omega) with ⟨_, _, h⟩ | h
      · exact absurd rfl h
      · exact h
    have epc : yentry = xplace t := by rw [hent, es]; exact (hpl t ht).symm
    refine br_f hL (ly_begin (ht := ht) (hc := ec) (H := fun st rg ou hst hrg hou => ⟨301, ?_⟩))
    obtain ⟨ym, yrg, h0, h1, h2⟩ := ly_y16 (yorg := xbase) (ystrip := xstrip) (ymany := ymany) (yculp := xblamed) (ytend := ytend) (yend := yend) (ymade := ymade) (yrounds := yrounds) (yentry := yentry) (ylinked := xlinked) (yran := 1) (ypc := xpc) (ysteps := xsteps) (youts := xouts) (yops := xops) (yA := xA) (yB := xB) (ycnt := xcnt) (yrole := xrole) (ylist := ylist) (yplace := yplace) (ysym := ysym) (yimg := yimg) (ystay := ystay) (ywide := ywide) (yreg := yreg) (yout := yout) 256 0 ymem (by omega) (fun i hi => by omega)
    rw [epc] at h2
    refine ly_loop (Q := fun r u' => wpY_run (fun r' v' => r' = r ∧ i_Rel (k + 5) u' v') (xbase, xstrip, ymany, xblamed, ytend, yend, ymade, yrounds, yentry, xlinked, xran, xpc, xsteps, xouts, xops, xA, xB, xcnt, xrole, ylist, yplace, ysym, yimg, ystay, ywide, ymem, yreg, yout)) (P := fun r u' r' v' => r' = r ∧ i_Rel (k + 5) u' v') (ymany := ymany) (ytend := ytend) (yend := yend) (ymade := ymade) (yrounds := yrounds) (yentry := xplace t) (ylist := ylist) (yplace := yplace) (ysym := ysym) (yimg := yimg) (ystay := ystay) (ywide := ywide) ?_ 300 0 0 (xplace t) rg yrg st ym ou yout (by omega) (by omega) (fun i hi => by rw [hrg i hi, h1 i hi]) (fun i hi => by rw [hst i hi, h0 i hi]; exact him i hi) (fun i hi => by rw [hou i hi, if_neg (by omega)]) ?_
    · intro r xpc s o xreg yreg xstore ymem xout yout ho hs hreg hmem hout
      refine ⟨rfl, ⟨xbase, xstrip, xllen, xtend, xaend, xlcnt, xlrnd, xlinked, xblamed, nI o, xpc, nI s, 1, xops, xA, xB, xcnt, xrole, xloc, xglo, xweak, xuse, xrep, xunit, xtgt, xstay, xlong, xlist, xchosen, xplace, ximg, xreg, xstore, xout, ymany, ytend, yend, ymade, yrounds, xplace t, ylist, yplace, ysym, yimg, ystay, ywide, ymem, yreg, yout, rfl, rfl, hW, hF, hb, ⟨hreg, hmem, o, by omega, rfl, hout⟩, fun _ => ⟨n, hn, en1, en2, hlist, e1, e2, e3, e4, hpl, him, ?_, hch⟩⟩⟩
      rw [es]; exact hpl t ht
    · intro r u' H
      subst epc
      exact br_f hL ⟨257, h2 _ H⟩
end
section
/-! the pure model of a link: labels, uses, faulty modules, sections -/
def ly_lb (o a : Nat → Int32) (s : Int32) (k : Nat) : Bool := decide (o k = 0 ∧ a k = s)
def ly_l3 (o a b : Nat → Int32) (s t : Int32) (k : Nat) : Bool := decide (o k = 0 ∧ a k = s ∧ b k = t)
def ly_us (o : Int32) : Bool := decide (o = 8 ∨ o = 9 ∨ o = 10 ∨ o = 12 ∨ o = 16)
def ly_sy (o a b : Int32) : Int32 := if o = 16 then a else b
def ly_up (o a b : Nat → Int32) (s : Int32) (k : Nat) : Bool := ly_us (o k) && decide (ly_sy (o k) (a k) (b k) = s)
def ly_yl (o a cnt : Nat → Int32) (m : Nat) (s : Int32) : Int32 := ly_fd (ly_lb o a s) (ly_c cnt m) (24 * m)
def ly_xl (o a b cnt : Nat → Int32) (m : Nat) (s t : Int32) : Int32 := ly_fd (ly_l3 o a b s t) (ly_c cnt m) (24 * m)
def ly_e3 (o a b cnt : Nat → Int32) (m : Nat) (s t : Int32) : Bool := ly_ex (ly_l3 o a b s t) (24 * m) (ly_c cnt m)
def ly_eu (o a b cnt : Nat → Int32) (m : Nat) (s : Int32) : Bool := ly_ex (ly_up o a b s) (24 * m) (ly_c cnt m)
def ly_ak (o a b cnt : Nat → Int32) (m : Nat) (s : Int32) : Bool := ly_eu o a b cnt m s && !ly_e3 o a b cnt m s 0
def ly_df (o a b cnt : Nat → Int32) (m : Nat) (s : Int32) : Bool := ly_e3 o a b cnt m s 1 || ly_e3 o a b cnt m s 2
def ly_fp (o a : Nat → Int32) (m k : Nat) : Bool := decide (o k = 0) && ly_ex (ly_lb o a (a k)) (24 * m) (k - 24 * m)
def ly_fy (o a cnt : Nat → Int32) (m : Nat) : Bool := ly_ex (ly_fp o a m) (24 * m) (ly_c cnt m)
def ly_sn (o a : Nat → Int32) (m : Nat) : Nat → Nat
  | 0 => 0
  | d + 1 => if o (24 * m + d) = 19 then (a (24 * m + d)).toNatClampNeg else ly_sn o a m d
def ly_un (o a : Nat → Int32) (i : Nat) : Nat := 2 * (i / 24) + ly_sn o a (i / 24) (i % 24 + 1)
/-- the list: wanted, defined, listed, of several global, first of a kind -/
def ly_wt (o a b cnt : Nat → Int32) (g : Nat → Nat) (n s : Nat) : Bool := decide (s = 0) || ly_ex (fun i => ly_ak o a b cnt (g i) (nI s)) 0 n
def ly_dd (o a b cnt : Nat → Int32) (g : Nat → Nat) (n s : Nat) : Bool := ly_ex (fun i => ly_df o a b cnt (g i) (nI s)) 0 n
def ly_li (g : Nat → Nat) (n m : Nat) : Bool := ly_ex (fun i => decide (g i = m)) 0 n
def ly_on (o a b cnt : Nat → Int32) (g : Nat → Nat) (s : Int32) : Nat → Bool
  | 0 => false
  | i + 1 => ly_on o a b cnt g s i || ly_e3 o a b cnt (g i) s 1
def ly_sv (o a b cnt : Nat → Int32) (g : Nat → Nat) (s : Int32) : Nat → Bool
  | 0 => false
  | i + 1 => ly_sv o a b cnt g s i || (ly_on o a b cnt g s i && ly_e3 o a b cnt (g i) s 1)
def ly_fl (o a b cnt : Nat → Int32) (g : Nat → Nat) (s t : Int32) : Nat → Int32
  | 0 => -1
  | i + 1 => if ly_fl o a b cnt g s t i = -1 then ly_xl o a b cnt (g i) s t else ly_fl o a b cnt g s t i
def ly_co (o a b cnt : Nat → Int32) (g : Nat → Nat) (n : Nat) (s : Int32) : Int32 := if ly_fl o a b cnt g s 1 n = -1 then ly_fl o a b cnt g s 2 n else ly_fl o a b cnt g s 1 n
/-- the archive -/
def ly_nx (miss : Nat → Bool) (inn : Nat → Int32) : Nat → Nat → Int32
  | 0, _ => -1
  | d + 1, s => if miss s = true ∧ ¬ inn s = -1 then inn s else ly_nx miss inn d (s + 1)
def ly_ms (o a b cnt : Nat → Int32) (g : Nat → Nat) (n s : Nat) : Bool := ly_wt o a b cnt g n s && !ly_dd o a b cnt g n s
def ly_ia (o a b cnt role : Nat → Int32) (s : Nat) : Int32 := ly_fd (fun m => decide (role m = 2) && ly_df o a b cnt m (nI s)) 6 0
def ly_na (o a b cnt role : Nat → Int32) (g : Nat → Nat) (n : Nat) : Int32 := ly_nx (ly_ms o a b cnt g n) (ly_ia o a b cnt role) 16 0
def ly_ar (o a b cnt role : Nat → Int32) : Nat → (Nat → Nat) → Nat → Int32 × (Nat → Nat) × Nat
  | 0, g, n => (-1, g, n)
  | f + 1, g, n => if ly_na o a b cnt role g n = -1 then (-1, g, n) else if ly_fy o a cnt (ly_na o a b cnt role g n).toNatClampNeg = true then (ly_na o a b cnt role g n, g, n) else ly_ar o a b cnt role f (ly_uN g n (ly_na o a b cnt role g n).toNatClampNeg) (n + 1)
def ly_tk (role : Nat → Int32) : Nat → Nat × (Nat → Nat)
  | 0 => (0, fun _ => 0)
  | j + 1 => if role j = 1 then ((ly_tk role j).1 + 1, ly_uN (ly_tk role j).2 (ly_tk role j).1 j) else ly_tk role j
/-! facts -/
theorem ly_nfu {o a cnt : Nat → Int32} {m : Nat} (h : ly_fy o a cnt m = false) {s : Int32} {i j : Nat} (hi : 24 * m ≤ i) (hi2 : i < 24 * m + ly_c cnt m) (hj : 24 * m ≤ j) (hj2 : j < 24 * m + ly_c cnt m) (li : ly_lb o a s i = true) (lj : ly_lb o a s j = true) : i = j := by
  have key : ∀ i j, 24 * m ≤ i → i < j → j < 24 * m + ly_c cnt m → ly_lb o a s i = true → ly_lb o a s j = true → False := by
    intro i j h1 h2 h3 l1 l2
    have hf := ly_ex_f.mp h j (by omega) h3
    obtain ⟨oj, aj⟩ := of_decide_eq_true l2
    have e : ly_ex (ly_lb o a (a j)) (24 * m) (j - 24 * m) = true := ly_ex_iff.mpr ⟨i, h1, by omega, by rw [aj]; exact l1⟩
    unfold ly_fp at hf
    rw [e, decide_eq_true oj] at hf
    exact absurd hf (by decide)
  rcases Nat.lt_trichotomy i j with h1 | h1 | h1
  · exact (key i j hi h1 hj2 li lj).elim
  · exact h1
  · exact (key j i hj h1 hi2 lj li).elim
/-- a module that isn't faulty: its label of a kind is its label, if that is of the kind -/
theorem ly_xl_yl {o a b cnt : Nat → Int32} {m : Nat} (h : ly_fy o a cnt m = false) (hm : m < 6) (hc : ly_c cnt m ≤ 24) (s : Int32) :
    (ly_yl o a cnt m s = -1 ∧ ∀ t, ly_xl o a b cnt m s t = -1) ∨ ∃ k, 24 * m ≤ k ∧ k < 24 * m + ly_c cnt m ∧ o k = 0 ∧ a k = s ∧ ly_yl o a cnt m s = nI k ∧ ∀ t, ly_xl o a b cnt m s t = if b k = t then nI k else -1 := by
  rcases ly_fd_c (ly_lb o a s) (ly_c cnt m) (24 * m) with ⟨e, hn⟩ | ⟨k, h1, h2, h3, h4, e⟩
  · refine Or.inl ⟨e, fun t => ?_⟩
    rcases ly_fd_c (ly_l3 o a b s t) (ly_c cnt m) (24 * m) with ⟨e2, _⟩ | ⟨j, j1, j2, j3, _, _⟩
    · exact e2
    · have := hn j j1 j2
      obtain ⟨p1, p2, _⟩ := of_decide_eq_true j3
      unfold ly_lb at this
      rw [decide_eq_true ⟨p1, p2⟩] at this
      exact absurd this (by decide)
  · obtain ⟨ok, ak⟩ := of_decide_eq_true h3
    refine Or.inr ⟨k, h1, h2, ok, ak, e, fun t => ?_⟩
    rcases ly_fd_c (ly_l3 o a b s t) (ly_c cnt m) (24 * m) with ⟨e2, hn⟩ | ⟨j, j1, j2, j3, _, e2⟩
    · rw [if_neg]
      · exact e2
      · intro hb
        have := hn k h1 h2
        unfold ly_l3 at this
        rw [decide_eq_true ⟨ok, ak, hb⟩] at this
        exact absurd this (by decide)
    · obtain ⟨p1, p2, p3⟩ := of_decide_eq_true j3
      have ejk : j = k := ly_nfu h j1 j2 h1 h2 (s := s) (decide_eq_true ⟨p1, p2⟩) h3
      subst ejk
      rw [if_pos p3]; exact e2
theorem ly_e3_xl {o a b cnt : Nat → Int32} {m : Nat} (hm : m < 6) (hc : ly_c cnt m ≤ 24) (s t : Int32) : ly_e3 o a b cnt m s t = decide (¬ ly_xl o a b cnt m s t = -1) := ly_fd_ex (by omega)
/-- Y's fold over the list -/
theorem ly_on_fl {o a b cnt : Nat → Int32} {g : Nat → Nat} (hW : ly_W cnt) {s : Int32} : ∀ n, (∀ i, i < n → g i < 6) → ly_on o a b cnt g s n = decide (¬ ly_fl o a b cnt g s 1 n = -1) := by
  intro n
  induction n with
  | zero => intro _; rfl
  | succ n ih =>
    intro hg
    have h6 := hg n (by omega)
    show (ly_on o a b cnt g s n || ly_e3 o a b cnt (g n) s 1) = decide (¬ ly_fl o a b cnt g s 1 (n + 1) = -1)
    rw [ih (fun i hi => hg i (by omega)), ly_e3_xl h6 (hW _ h6).1]
    by_cases h : ly_fl o a b cnt g s 1 n = -1
    · have e : ly_fl o a b cnt g s 1 (n + 1) = ly_xl o a b cnt (g n) s 1 := if_pos h
      rw [e, decide_eq_false (fun z => z h), Bool.false_or]
    · have e : ly_fl o a b cnt g s 1 (n + 1) = ly_fl o a b cnt g s 1 n := if_neg h
      rw [e, decide_eq_true h, Bool.true_or]
theorem ly_ft_b {o a b : Int32} (h : ly_ft o a b) (e : o = 0) : b = 0 ∨ b = 1 ∨ b = 2 := by
  obtain ⟨op, h1, h2, h3, _⟩ := h
  have : op = 0 := ly_inj (b := 0) (by omega) (by omega) (h2.symm.trans e)
  obtain ⟨_, j, _, j2, j3⟩ := h3 this
  have hj : j = 0 ∨ j = 1 ∨ j = 2 := by omega
  rcases hj with rfl | rfl | rfl
  · exact Or.inl j3
  · exact Or.inr (Or.inl j3)
  · exact Or.inr (Or.inr j3)
theorem ly_ft_a {o a b : Int32} (h : ly_ft o a b) (e : o = 0) : ∃ f : Nat, f < 16 ∧ a = nI f := by
  obtain ⟨op, h1, h2, h3, _⟩ := h
  have : op = 0 := ly_inj (b := 0) (by omega) (by omega) (h2.symm.trans e)
  obtain ⟨⟨j, _, j2, j3⟩, _⟩ := h3 this
  exact ⟨j, by omega, j3⟩
theorem ly_ft_s {o a b : Int32} (h : ly_ft o a b) (e : ly_us o = true) : ∃ f : Nat, f < 16 ∧ ly_sy o a b = nI f := by
  obtain ⟨op, h1, h2, _, h16, _, _, _, h8⟩ := h
  subst h2
  by_cases e16 : op = 16
  · obtain ⟨j, _, j2, j3⟩ := h16 e16
    subst e16
    exact ⟨j, by omega, by unfold ly_sy; rw [if_pos (by decide)]; exact j3⟩
  · have n16 : ¬ nI op = 16 := fun z => e16 (ly_inj (b := 16) (by omega) (by omega) z)
    have h4 : op = 8 ∨ op = 9 ∨ op = 10 ∨ op = 12 := by
      rcases of_decide_eq_true e with z | z | z | z | z
      · exact Or.inl (ly_inj (b := 8) (by omega) (by omega) z)
      · exact Or.inr (Or.inl (ly_inj (b := 9) (by omega) (by omega) z))
      · exact Or.inr (Or.inr (Or.inl (ly_inj (b := 10) (by omega) (by omega) z)))
      · exact Or.inr (Or.inr (Or.inr (ly_inj (b := 12) (by omega) (by omega) z)))
      · exact absurd z n16
    obtain ⟨j, _, j2, j3⟩ := h8 h4
    exact ⟨j, by omega, by unfold ly_sy; rw [if_neg n16]; exact j3⟩
theorem ly_ft_19 {o a b : Int32} (h : ly_ft o a b) (e : o = 19) : ∃ f : Nat, f < 2 ∧ a = nI f := by
  obtain ⟨op, h1, h2, _, _, _, _, h19, _⟩ := h
  have : op = 19 := ly_inj (b := 19) (by omega) (by omega) (h2.symm.trans e)
  obtain ⟨j, _, j2, j3⟩ := h19 this
  exact ⟨j, by omega, j3⟩
theorem ly_sn_lt {o a b : Nat → Int32} (hF : ly_F o a b) {m : Nat} (hm : m < 6) : ∀ d, d ≤ 24 → ly_sn o a m d < 2 := by
  intro d
  induction d with
  | zero => intro _; exact Nat.zero_lt_two
  | succ d ih =>
    intro hd
    simp only [ly_sn]
    by_cases h : o (24 * m + d) = 19
    · rw [if_pos h]
      obtain ⟨f, hf, e⟩ := ly_ft_19 (hF (24 * m + d) (by omega)) h
      rw [e, nI_clamp (by omega)]; exact hf
    · rw [if_neg h]; exact ih (by omega)
theorem ly_un_lt {o a b : Nat → Int32} (hF : ly_F o a b) {i : Nat} (hi : i < 144) : ly_un o a i < 12 := by
  have h := ly_sn_lt hF (m := i / 24) (by omega) (i % 24 + 1) (by omega)
  unfold ly_un; omega
theorem ly_un_at {o a : Nat → Int32} {m k : Nat} (hk : k < 24) : ly_un o a (24 * m + k) = 2 * m + ly_sn o a m (k + 1) := by
  unfold ly_un
  rw [show (24 * m + k) / 24 = m by omega, show (24 * m + k) % 24 = k by omega]
end
section
/-! X: forgetLink and the survey -/
theorem ly_f68 {post : SX → Prop} {xbase xstrip xllen xtend xaend xlcnt xlrnd xlinked xblamed xouts xpc xsteps xran : Int32} {xops xA xB xcnt xrole xloc xglo xweak xuse xrep xunit xtgt xlong xlist xchosen xplace ximg xreg xstore xout : Nat → Int32} (H : ∀ st : Nat → Int32, (∀ i, i < 12 → st i = 0) → post (xbase, xstrip, xllen, xtend, xaend, xlcnt, xlrnd, xlinked, xblamed, xouts, xpc, xsteps, xran, xops, xA, xB, xcnt, xrole, xloc, xglo, xweak, xuse, xrep, xunit, xtgt, st, xlong, xlist, xchosen, xplace, ximg, xreg, xstore, xout)) : ∀ (d k : Nat) (st : Nat → Int32), k + d = 12 → (∀ i, i < k → st i = 0) → wX_forgetLink_68 post xbase xstrip xllen xtend xaend xlcnt xlrnd xlinked xblamed xouts xpc xsteps xran (d + 1) (nI k) xops xA xB xcnt xrole xloc xglo xweak xuse xrep xunit xtgt st xlong xlist xchosen xplace ximg xreg xstore xout := by
  intro d
  induction d with
  | zero =>
    intro k ou hd ho
    have e : k = 12 := by omega
    subst e
    exact br_t (by decide) (H ou ho)
  | succ d ih =>
    intro k ou hd ho
    refine br_f (nI_ge (b := 12) (by omega) (by omega)) ⟨vp_in_nI (by omega) (by omega), nm_r (e' := upd ou k 0) (by rw [ly_cl (i := k) (by omega), ly_nar0]) (nm_r (nI_1 k) (ih (k + 1) _ (by omega) (fun i hi => ?_)))⟩
    by_cases e : i = k
    · subst e; exact pk_us
    · rw [pk_un e]; exact ho i (by omega)
theorem ly_f32 {post : SX → Prop} {xbase xstrip xllen xtend xaend xlcnt xlrnd xlinked xblamed xouts xpc xsteps xran : Int32} {xops xA xB xcnt xrole xloc xglo xweak xuse xrep xunit xstay xlist xchosen ximg xreg xstore xout : Nat → Int32} (H : ∀ pl tg lo : Nat → Int32, (∀ i, i < 144 → pl i = -1 ∧ tg i = -1 ∧ lo i = 0) → ∃ n68, wX_forgetLink_68 post xbase xstrip xllen xtend xaend xlcnt xlrnd xlinked xblamed xouts xpc xsteps xran n68 0 xops xA xB xcnt xrole xloc xglo xweak xuse xrep xunit tg xstay lo xlist xchosen pl ximg xreg xstore xout) : ∀ (d k : Nat) (pl tg lo : Nat → Int32), k + d = 144 → (∀ i, i < k → pl i = -1 ∧ tg i = -1 ∧ lo i = 0) → wX_forgetLink_32 post xbase xstrip xllen xtend xaend xlcnt xlrnd xlinked xblamed xouts xpc xsteps xran (d + 1) (nI k) xops xA xB xcnt xrole xloc xglo xweak xuse xrep xunit tg xstay lo xlist xchosen pl ximg xreg xstore xout := by
  intro d
  induction d with
  | zero =>
    intro k pl tg lo hd ho
    have e : k = 144 := by omega
    subst e
    exact br_t (by decide) (H pl tg lo ho)
  | succ d ih =>
    intro k pl tg lo hd ho
    have ek : (nI k).toNatClampNeg = k := ly_cl (i := k) (by omega)
    refine br_f (nI_ge (b := 144) (by omega) (by omega)) ⟨vp_in_nI (by omega) (by omega), nm_r (e' := upd pl k (-1)) (by rw [ek]) ⟨vp_in_nI (by omega) (by omega), nm_r (e' := upd tg k (-1)) (by rw [ek]) ⟨vp_in_nI (by omega) (by omega), nm_r (e' := upd lo k 0) (by rw [ek, ly_nar0]) (nm_r (nI_1 k) (ih (k + 1) _ _ _ (by omega) (fun i hi => ?_)))⟩⟩⟩
    by_cases e : i = k
    · subst e; exact ⟨pk_us, pk_us, pk_us⟩
    · rw [pk_un e, pk_un e, pk_un e]; exact ho i (by omega)
theorem ly_forget {post : SX → Prop} {xbase xstrip xllen xtend xaend xlcnt xlrnd xlinked xblamed xouts xpc xsteps xran : Int32} {xops xA xB xcnt xrole xloc xglo xweak xuse xrep xunit xtgt xstay xlong xlist xchosen xplace ximg xreg xstore xout : Nat → Int32} (H : ∀ pl tg lo st : Nat → Int32, (∀ i, i < 144 → pl i = -1 ∧ tg i = -1 ∧ lo i = 0) → (∀ i, i < 12 → st i = 0) → post (xbase, xstrip, 0, xtend, xaend, 0, 0, 0, -1, xouts, xpc, xsteps, 0, xops, xA, xB, xcnt, xrole, xloc, xglo, xweak, xuse, xrep, xunit, tg, st, lo, xlist, xchosen, pl, ximg, xreg, xstore, xout)) : wpX_forgetLink post (xbase, xstrip, xllen, xtend, xaend, xlcnt, xlrnd, xlinked, xblamed, xouts, xpc, xsteps, xran, xops, xA, xB, xcnt, xrole, xloc, xglo, xweak, xuse, xrep, xunit, xtgt, xstay, xlong, xlist, xchosen, xplace, ximg, xreg, xstore, xout) :=
  ⟨145, ly_f32 (H := fun pl tg lo h => ⟨13, ly_f68 (H := fun st hst => H pl tg lo st h hst) 12 0 xstay (by omega) (fun i hi => by omega)⟩) 144 0 xplace xtgt xlong (by omega) (fun i hi => by omega)⟩
/-! bits of a mask -/
theorem ly_bb : ∀ f, f < 32 → ∀ i, i < 32 → bt ((1 : Int32) <<< (nI f &&& 31)) i = decide (i = f) := by decide +kernel
theorem ly_and0 {x : Int32} {f : Nat} (hf : f < 32) : (x &&& ((1 : Int32) <<< (nI f &&& 31))) = 0 ↔ bt x f = false := by
  constructor
  · intro h
    have e : bt (x &&& ((1 : Int32) <<< (nI f &&& 31))) f = false := by rw [h, b_0]
    rw [b_and, ly_bb f hf f hf, decide_eq_true rfl, Bool.and_true] at e
    exact e
  · intro h
    apply b_ext
    intro i hi
    rw [b_and, ly_bb f hf i hi, b_0]
    by_cases e : i = f
    · subst e; rw [h]; rfl
    · rw [decide_eq_false e, Bool.and_false]
theorem ly_orb {x : Int32} {f i : Nat} (hf : f < 32) (hi : i < 32) : bt (x ||| ((1 : Int32) <<< (nI f &&& 31))) i = (bt x i || decide (i = f)) := by
  rw [b_or, ly_bb f hf i hi]
/-- what the survey of labels knows of a module after k items -/
def ly_SL (o a b : Nat → Int32) (m k : Nat) (seen loc glo wk rp : Int32) : Prop :=
  (∀ s, s < 32 → bt seen s = ly_ex (ly_lb o a (nI s)) (24 * m) k ∧ bt loc s = ly_ex (ly_l3 o a b (nI s) 0) (24 * m) k ∧ bt glo s = ly_ex (ly_l3 o a b (nI s) 1) (24 * m) k ∧ bt wk s = ly_ex (ly_l3 o a b (nI s) 2) (24 * m) k) ∧ (rp = 0 ↔ ly_ex (ly_fp o a m) (24 * m) k = false)
theorem ly_SL0 (o a b : Nat → Int32) (m : Nat) : ly_SL o a b m 0 0 0 0 0 0 := ⟨fun s _ => ⟨b_0 s, b_0 s, b_0 s, b_0 s⟩, ⟨fun _ => rfl, fun _ => rfl⟩⟩
theorem ly_SLn {o a b : Nat → Int32} {m k : Nat} {seen loc glo wk rp : Int32} (h : ly_SL o a b m k seen loc glo wk rp) (ho : ¬ o (24 * m + k) = 0) : ly_SL o a b m (k + 1) seen loc glo wk rp := by
  have e1 : ∀ s, ly_lb o a s (24 * m + k) = false := fun s => decide_eq_false (fun z => ho z.1)
  have e3 : ∀ s t, ly_l3 o a b s t (24 * m + k) = false := fun s t => decide_eq_false (fun z => ho z.1)
  have ef : ly_fp o a m (24 * m + k) = false := by unfold ly_fp; rw [decide_eq_false ho, Bool.false_and]
  obtain ⟨h1, h2⟩ := h
  refine ⟨fun s hs => ?_, ?_⟩
  · simp only [ly_ex, e1, e3, Bool.or_false]; exact h1 s hs
  · simp only [ly_ex, ef, Bool.or_false]; exact h2
theorem ly_SLy {o a b : Nat → Int32} {m k f : Nat} {seen loc glo wk rp : Int32} (h : ly_SL o a b m k seen loc glo wk rp) (ho : o (24 * m + k) = 0) (hf : f < 16) (ha : a (24 * m + k) = nI f) {t : Int32} (hb : b (24 * m + k) = t) (ht : t = 0 ∨ t = 1 ∨ t = 2) :
    ly_SL o a b m (k + 1) (seen ||| ((1 : Int32) <<< (nI f &&& 31))) (if t = 0 then loc ||| ((1 : Int32) <<< (nI f &&& 31)) else loc) (if t = 1 then glo ||| ((1 : Int32) <<< (nI f &&& 31)) else glo) (if t = 2 then wk ||| ((1 : Int32) <<< (nI f &&& 31)) else wk) (if bt seen f = true then 1 else rp) := by
  obtain ⟨h1, h2⟩ := h
  have e1 : ∀ s, s < 32 → ly_lb o a (nI s) (24 * m + k) = decide (s = f) := by
    intro s hs
    unfold ly_lb
    rw [ho, ha]
    by_cases e : s = f
    · subst e; rw [decide_eq_true rfl, decide_eq_true ⟨rfl, rfl⟩]
    · rw [decide_eq_false e, decide_eq_false (fun z => e (ly_inj (by omega) (by omega) z.2).symm)]
  have e3 : ∀ s t', s < 32 → ly_l3 o a b (nI s) t' (24 * m + k) = (decide (s = f) && decide (t = t')) := by
    intro s t' hs
    unfold ly_l3
    rw [ho, ha, hb]
    by_cases e : s = f
    · subst e; rw [decide_eq_true rfl, Bool.true_and]
      by_cases e' : t = t'
      · rw [decide_eq_true e', decide_eq_true ⟨rfl, rfl, e'⟩]
      · rw [decide_eq_false e', decide_eq_false (fun z => e' z.2.2)]
    · rw [decide_eq_false e, Bool.false_and, decide_eq_false (fun z => e (ly_inj (by omega) (by omega) z.2.1).symm)]
  refine ⟨fun s hs => ?_, ?_⟩
  · obtain ⟨a1, a2, a3, a4⟩ := h1 s hs
    simp only [ly_ex]
    rw [e1 s hs, e3 s 0 hs, e3 s 1 hs, e3 s 2 hs, ← a1, ← a2, ← a3, ← a4, ly_orb (by omega) hs]
    refine ⟨rfl, ?_, ?_, ?_⟩
    · by_cases z : t = 0
      · rw [if_pos z, ly_orb (by omega) hs, decide_eq_true z, Bool.and_true]
      · rw [if_neg z, decide_eq_false z, Bool.and_false, Bool.or_false]
    · by_cases z : t = 1
      · rw [if_pos z, ly_orb (by omega) hs, decide_eq_true z, Bool.and_true]
      · rw [if_neg z, decide_eq_false z, Bool.and_false, Bool.or_false]
    · by_cases z : t = 2
      · rw [if_pos z, ly_orb (by omega) hs, decide_eq_true z, Bool.and_true]
      · rw [if_neg z, decide_eq_false z, Bool.and_false, Bool.or_false]
  · have ef : ly_fp o a m (24 * m + k) = bt seen f := by
      unfold ly_fp
      rw [decide_eq_true ho, Bool.true_and, ha, show 24 * m + k - 24 * m = k by omega]
      exact (h1 f (by omega)).1.symm
    simp only [ly_ex]
    rw [ef]
    cases hs : bt seen f with
    | true => rw [if_pos rfl, Bool.or_true]; exact ⟨fun z => absurd z (by decide), fun z => absurd z (by decide)⟩
    | false => rw [if_neg (by decide), Bool.or_false]; exact h2
theorem ly_s85 {post : SX → Prop} {J : Int32 → Int32 → (Nat → Int32) → (Nat → Int32) → (Nat → Int32) → (Nat → Int32) → (Nat → Int32) → (Nat → Int32) → (Nat → Int32) → (Nat → Int32) → (Nat → Int32) → (Nat → Int32) → (Nat → Int32) → (Nat → Int32) → (Nat → Int32) → (Nat → Int32) → (Nat → Int32) → (Nat → Int32) → (Nat → Int32) → (Nat → Int32) → (Nat → Int32) → (Nat → Int32) → (Nat → Int32) → Prop} {xbase xstrip xllen xtend xaend xlcnt xlrnd xlinked xblamed xouts xpc xsteps xran : Int32} {xops xA xB xcnt xrole xloc xglo xweak xuse xrep xunit xtgt xstay xlong xlist xchosen xplace ximg xreg xstore xout : Nat → Int32} {m k : Nat} (hm : m < 6) (hk : k < 24) (seen bit t : Int32) (hb : xB (24 * m + k) = t) (ht : t = 0 ∨ t = 1 ∨ t = 2)
    (H : J (seen ||| bit) (nI (k + 1)) xops xA xB xcnt xrole (if t = 0 then upd xloc m (xloc m ||| bit) else xloc) (if t = 1 then upd xglo m (xglo m ||| bit) else xglo) (if t = 2 then upd xweak m (xweak m ||| bit) else xweak) xuse xrep xunit xtgt xstay xlong xlist xchosen xplace ximg xreg xstore xout) : wX_surveyLabels_85 post J (nI m) seen (nI k) (nI (24 * m + k)) bit xbase xstrip xllen xtend xaend xlcnt xlrnd xlinked xblamed xouts xpc xsteps xran xops xA xB xcnt xrole xloc xglo xweak xuse xrep xunit xtgt xstay xlong xlist xchosen xplace ximg xreg xstore xout := by
  have em : (nI m).toNatClampNeg = m := ly_cl (by omega)
  have ei : (nI (24 * m + k)).toNatClampNeg = 24 * m + k := ly_cl (by omega)
  have eb : xB (nI (24 * m + k)).toNatClampNeg = t := by rw [ei]; exact hb
  have vm : vp_in (nI m) 6 := vp_in_nI hm (by omega)
  have vi : vp_in (nI (24 * m + k)) 144 := vp_in_nI (by omega) (by omega)
  rcases ht with rfl | rfl | rfl
  · rw [if_pos rfl, if_neg (by decide), if_neg (by decide)] at H
    exact nm_e ⟨vi, br_t eb ⟨vm, vm, nm_r (e' := upd xloc m (xloc m ||| bit)) (by rw [em]) (nm_r (nI_1 k) H)⟩⟩
  · rw [if_neg (by decide), if_pos rfl, if_neg (by decide)] at H
    exact nm_e ⟨vi, br_f (by rw [eb]; decide) ⟨vi, br_t eb ⟨vm, vm, nm_r (e' := upd xglo m (xglo m ||| bit)) (by rw [em]) (nm_r (nI_1 k) H)⟩⟩⟩
  · rw [if_neg (by decide), if_neg (by decide), if_pos rfl] at H
    exact nm_e ⟨vi, br_f (by rw [eb]; decide) ⟨vi, br_f (by rw [eb]; decide) ⟨vm, vm, nm_r (e' := upd xweak m (xweak m ||| bit)) (by rw [em]) (nm_r (nI_1 k) H)⟩⟩⟩
theorem ly_us1 {x : Nat → Int32} {m : Nat} {c : Prop} {y : Int32} (h : Decidable c) : (if c then upd x m (x m ||| y) else x) m = if c then x m ||| y else x m := by
  by_cases z : c
  · rw [if_pos z, if_pos z, pk_us]
  · rw [if_neg z, if_neg z]
theorem ly_us2 {x : Nat → Int32} {m j : Nat} {c : Prop} {y : Int32} (h : Decidable c) (hj : j ≠ m) : (if c then upd x m y else x) j = x j := by
  by_cases z : c
  · rw [if_pos z, pk_un hj]
  · rw [if_neg z]
theorem ly_s32 {post : SX → Prop} {xbase xstrip xllen xtend xaend xlcnt xlrnd xlinked xblamed xouts xpc xsteps xran : Int32} {xops xA xB xcnt xrole xuse xunit xtgt xstay xlong xlist xchosen xplace ximg xreg xstore xout : Nat → Int32} (hW : ly_W xcnt) (hF : ly_F xops xA xB) {m : Nat} (hm : m < 6) (loc0 glo0 wk0 rp0 : Nat → Int32)
    (H : ∀ loc glo wk rp : Nat → Int32, (∀ j, j ≠ m → loc j = loc0 j ∧ glo j = glo0 j ∧ wk j = wk0 j ∧ rp j = rp0 j) → (∃ seen, ly_SL xops xA xB m (ly_c xcnt m) seen (loc m) (glo m) (wk m) (rp m)) → post (xbase, xstrip, xllen, xtend, xaend, xlcnt, xlrnd, xlinked, xblamed, xouts, xpc, xsteps, xran, xops, xA, xB, xcnt, xrole, loc, glo, wk, xuse, rp, xunit, xtgt, xstay, xlong, xlist, xchosen, xplace, ximg, xreg, xstore, xout)) :
    ∀ (d k : Nat) (seen : Int32) (loc glo wk rp : Nat → Int32), k + d = ly_c xcnt m → (∀ j, j ≠ m → loc j = loc0 j ∧ glo j = glo0 j ∧ wk j = wk0 j ∧ rp j = rp0 j) → ly_SL xops xA xB m k seen (loc m) (glo m) (wk m) (rp m) → wX_surveyLabels_32 post (nI m) xbase xstrip xllen xtend xaend xlcnt xlrnd xlinked xblamed xouts xpc xsteps xran (d + 1) seen (nI k) xops xA xB xcnt xrole loc glo wk xuse rp xunit xtgt xstay xlong xlist xchosen xplace ximg xreg xstore xout := by
  have em : (nI m).toNatClampNeg = m := ly_cl (by omega)
  obtain ⟨hc, ec⟩ := hW m hm
  have ec' : xcnt (nI m).toNatClampNeg = nI (ly_c xcnt m) := by rw [em]; exact ec
  have vm : vp_in (nI m) 6 := vp_in_nI hm (by omega)
  intro d
  induction d with
  | zero =>
    intro k seen loc glo wk rp hd ho hs
    have e : k = ly_c xcnt m := by omega
    subst e
    exact ⟨vm, br_t (by rw [ec']; exact Int32.le_refl _) (H loc glo wk rp ho ⟨seen, hs⟩)⟩
  | succ d ih =>
    intro k seen loc glo wk rp hd ho hs
    have hi : 24 * m + k < 144 := by omega
    have ei : (nI (24 * m + k)).toNatClampNeg = 24 * m + k := ly_cl (by omega)
    have vi : vp_in (nI (24 * m + k)) 144 := vp_in_nI hi (by omega)
    refine ⟨vm, br_f (by rw [ec']; exact nI_ge (by omega) (by omega)) (nm_r (ly_idx m k) ⟨vi, ?_⟩)⟩
    rw [ei]
    by_cases h0 : xops (24 * m + k) = 0
    · obtain ⟨f, hf, ef⟩ := ly_ft_a (hF _ hi) h0
      have ht := ly_ft_b (hF _ hi) h0
      refine br_t h0 ⟨vi, nm_r (e' := (1 : Int32) <<< (nI f &&& 31)) (by rw [ef]) ?_⟩
      have hnew := ly_SLy hs h0 hf ef rfl ht
      cases hb : bt seen f with
      | false =>
        rw [hb, if_neg (show ¬ false = true by decide)] at hnew
        refine br_t ((ly_and0 (by omega)).mpr hb) (ly_s85 (hm := hm) (hk := by omega) (seen := seen) (bit := _) (t := _) (hb := rfl) (ht := ht) (H := ih (k + 1) _ _ _ _ _ (by omega) (fun j hj => ?_) ?_))
        · rw [ly_us2 _ hj, ly_us2 _ hj, ly_us2 _ hj]; exact ho j hj
        · rw [ly_us1, ly_us1, ly_us1]; exact hnew
      | true =>
        rw [hb, if_pos (show true = true from rfl)] at hnew
        refine br_f (fun z => by rw [(ly_and0 (by omega)).mp z] at hb; exact absurd hb (by decide)) ⟨vm, nm_r (e' := upd rp m 1) (by rw [em, ly_nar1]) (ly_s85 (hm := hm) (hk := by omega) (seen := seen) (bit := _) (t := _) (hb := rfl) (ht := ht) (H := ih (k + 1) _ _ _ _ _ (by omega) (fun j hj => ?_) ?_))⟩
        · rw [ly_us2 _ hj, ly_us2 _ hj, ly_us2 _ hj, pk_un hj]; exact ho j hj
        · rw [ly_us1, ly_us1, ly_us1, pk_us]; exact hnew
    · exact br_f h0 (nm_r (nI_1 k) (ih (k + 1) seen loc glo wk rp (by omega) ho (ly_SLn hs h0)))
theorem ly_sLab {post : SX → Prop} {xbase xstrip xllen xtend xaend xlcnt xlrnd xlinked xblamed xouts xpc xsteps xran : Int32} {xops xA xB xcnt xrole xloc xglo xweak xuse xrep xunit xtgt xstay xlong xlist xchosen xplace ximg xreg xstore xout : Nat → Int32} (hW : ly_W xcnt) (hF : ly_F xops xA xB) {m : Nat} (hm : m < 6)
    (H : ∀ loc glo wk rp : Nat → Int32, (∀ j, j ≠ m → loc j = xloc j ∧ glo j = xglo j ∧ wk j = xweak j ∧ rp j = xrep j) → (∃ seen, ly_SL xops xA xB m (ly_c xcnt m) seen (loc m) (glo m) (wk m) (rp m)) → post (xbase, xstrip, xllen, xtend, xaend, xlcnt, xlrnd, xlinked, xblamed, xouts, xpc, xsteps, xran, xops, xA, xB, xcnt, xrole, loc, glo, wk, xuse, rp, xunit, xtgt, xstay, xlong, xlist, xchosen, xplace, ximg, xreg, xstore, xout)) : wpX_surveyLabels post (xbase, xstrip, xllen, xtend, xaend, xlcnt, xlrnd, xlinked, xblamed, xouts, xpc, xsteps, xran, xops, xA, xB, xcnt, xrole, xloc, xglo, xweak, xuse, xrep, xunit, xtgt, xstay, xlong, xlist, xchosen, xplace, ximg, xreg, xstore, xout) (nI m) := by
  have em : (nI m).toNatClampNeg = m := ly_cl (by omega)
  have vm : vp_in (nI m) 6 := vp_in_nI hm (by omega)
  refine ⟨vm, nm_r (e' := upd xloc m 0) (by rw [em]) ⟨vm, nm_r (e' := upd xglo m 0) (by rw [em]) ⟨vm, nm_r (e' := upd xweak m 0) (by rw [em]) ⟨vm, nm_r (e' := upd xrep m 0) (by rw [em, ly_nar0]) ⟨ly_c xcnt m + 1, ly_s32 (hW := hW) (hF := hF) (hm := hm) (loc0 := xloc) (glo0 := xglo) (wk0 := xweak) (rp0 := xrep) (H := H) (ly_c xcnt m) 0 0 _ _ _ _ (by omega) (fun j hj => ?_) ?_⟩⟩⟩⟩⟩
  · rw [pk_un hj, pk_un hj, pk_un hj, pk_un hj]; exact ⟨rfl, rfl, rfl, rfl⟩
  · rw [pk_us, pk_us, pk_us, pk_us]; exact ly_SL0 _ _ _ _
end
section
/-! X and Y: the symbol that an item uses; X: the survey of items and of all modules -/
def ly_u (o a b : Int32) : Int32 := if ly_us o = true then ly_sy o a b else -1
theorem ly_us_t {op : Nat} (h : ly_us (nI op) = true) (hop : op ≤ 19) : op = 8 ∨ op = 9 ∨ op = 10 ∨ op = 12 ∨ op = 16 := by
  rcases of_decide_eq_true h with z | z | z | z | z
  · exact Or.inl (ly_inj (b := 8) (by omega) (by omega) z)
  · exact Or.inr (Or.inl (ly_inj (b := 9) (by omega) (by omega) z))
  · exact Or.inr (Or.inr (Or.inl (ly_inj (b := 10) (by omega) (by omega) z)))
  · exact Or.inr (Or.inr (Or.inr (Or.inl (ly_inj (b := 12) (by omega) (by omega) z))))
  · exact Or.inr (Or.inr (Or.inr (Or.inr (ly_inj (b := 16) (by omega) (by omega) z))))
theorem ly_u_f {o a b : Int32} (h : ly_us o = false) : ly_u o a b = -1 := by unfold ly_u; rw [h]; rfl
theorem ly_u_b {o a b : Int32} (h : ly_us o = true) (h16 : ¬ o = 16) : ly_u o a b = b := by unfold ly_u ly_sy; rw [h, if_pos rfl, if_neg h16]
theorem ly_u_a {o a b : Int32} (h16 : o = 16) : ly_u o a b = a := by subst h16; unfold ly_u ly_sy; rw [if_pos (by decide), if_pos rfl]
theorem ly_xused {post : Int32 → Prop} {xbase xstrip xllen xtend xaend xlcnt xlrnd xlinked xblamed xouts xpc xsteps xran : Int32} {xops xA xB xcnt xrole xloc xglo xweak xuse xrep xunit xtgt xstay xlong xlist xchosen xplace ximg xreg xstore xout : Nat → Int32} {i : Nat} (hi : i < 144) (hf : ly_ft (xops i) (xA i) (xB i)) (H : post (ly_u (xops i) (xA i) (xB i))) : wpX_usedSymbol post (xbase, xstrip, xllen, xtend, xaend, xlcnt, xlrnd, xlinked, xblamed, xouts, xpc, xsteps, xran, xops, xA, xB, xcnt, xrole, xloc, xglo, xweak, xuse, xrep, xunit, xtgt, xstay, xlong, xlist, xchosen, xplace, ximg, xreg, xstore, xout) (nI i) := by
  obtain ⟨op, hop, eo, _⟩ := hf
  have ei : (nI i).toNatClampNeg = i := ly_cl (by omega)
  have vi : vp_in (nI i) 144 := vp_in_nI hi (by omega)
  rw [eo] at H
  refine ⟨vi, nm_r (e' := nI op) (by rw [ei]; exact eo) ?_⟩
  rw [ei]
  have h : op = 0 ∨ op = 1 ∨ op = 2 ∨ op = 3 ∨ op = 4 ∨ op = 5 ∨ op = 6 ∨ op = 7 ∨ op = 8 ∨ op = 9 ∨ op = 10 ∨ op = 11 ∨ op = 12 ∨ op = 13 ∨ op = 14 ∨ op = 15 ∨ op = 16 ∨ op = 17 ∨ op = 18 ∨ op = 19 := by omega
  rcases h with rfl | rfl | rfl | rfl | rfl | rfl | rfl | rfl | rfl | rfl | rfl | rfl | rfl | rfl | rfl | rfl | rfl | rfl | rfl | rfl
  · (repeat (first | refine br_t (by decide) ?_ | refine br_f (by decide) ?_)); rw [ly_u_f (by decide)] at H; exact H
  · (repeat (first | refine br_t (by decide) ?_ | refine br_f (by decide) ?_)); rw [ly_u_f (by decide)] at H; exact H
  · (repeat (first | refine br_t (by decide) ?_ | refine br_f (by decide) ?_)); rw [ly_u_f (by decide)] at H; exact H
  · (repeat (first | refine br_t (by decide) ?_ | refine br_f (by decide) ?_)); rw [ly_u_f (by decide)] at H; exact H
  · (repeat (first | refine br_t (by decide) ?_ | refine br_f (by decide) ?_)); rw [ly_u_f (by decide)] at H; exact H
  · (repeat (first | refine br_t (by decide) ?_ | refine br_f (by decide) ?_)); rw [ly_u_f (by decide)] at H; exact H
  · (repeat (first | refine br_t (by decide) ?_ | refine br_f (by decide) ?_)); rw [ly_u_f (by decide)] at H; exact H
  · (repeat (first | refine br_t (by decide) ?_ | refine br_f (by decide) ?_)); rw [ly_u_f (by decide)] at H; exact H
  · (repeat (first | refine br_t (by decide) ?_ | refine br_f (by decide) ?_)); rw [ly_u_b (by decide) (by decide)] at H; exact ⟨vi, H⟩
  · (repeat (first | refine br_t (by decide) ?_ | refine br_f (by decide) ?_)); rw [ly_u_b (by decide) (by decide)] at H; exact ⟨vi, H⟩
  · (repeat (first | refine br_t (by decide) ?_ | refine br_f (by decide) ?_)); rw [ly_u_b (by decide) (by decide)] at H; exact ⟨vi, H⟩
  · (repeat (first | refine br_t (by decide) ?_ | refine br_f (by decide) ?_)); rw [ly_u_f (by decide)] at H; exact H
  · (repeat (first | refine br_t (by decide) ?_ | refine br_f (by decide) ?_)); rw [ly_u_b (by decide) (by decide)] at H; exact ⟨vi, H⟩
  · (repeat (first | refine br_t (by decide) ?_ | refine br_f (by decide) ?_)); rw [ly_u_f (by decide)] at H; exact H
  · (repeat (first | refine br_t (by decide) ?_ | refine br_f (by decide) ?_)); rw [ly_u_f (by decide)] at H; exact H
  · (repeat (first | refine br_t (by decide) ?_ | refine br_f (by decide) ?_)); rw [ly_u_f (by decide)] at H; exact H
  · (repeat (first | refine br_t (by decide) ?_ | refine br_f (by decide) ?_)); rw [ly_u_a (by decide)] at H; exact ⟨vi, H⟩
  · (repeat (first | refine br_t (by decide) ?_ | refine br_f (by decide) ?_)); rw [ly_u_f (by decide)] at H; exact H
  · (repeat (first | refine br_t (by decide) ?_ | refine br_f (by decide) ?_)); rw [ly_u_f (by decide)] at H; exact H
  · (repeat (first | refine br_t (by decide) ?_ | refine br_f (by decide) ?_)); rw [ly_u_f (by decide)] at H; exact H
theorem ly_yuses {post : Int32 → Prop} {op : Nat} (hop : op ≤ 19) (H : post (if ly_us (nI op) = true then 1 else 0)) : wpY_usesSymbol post (nI op) := by
  unfold wpY_usesSymbol wpY_in
  have h : op = 0 ∨ op = 1 ∨ op = 2 ∨ op = 3 ∨ op = 4 ∨ op = 5 ∨ op = 6 ∨ op = 7 ∨ op = 8 ∨ op = 9 ∨ op = 10 ∨ op = 11 ∨ op = 12 ∨ op = 13 ∨ op = 14 ∨ op = 15 ∨ op = 16 ∨ op = 17 ∨ op = 18 ∨ op = 19 := by omega
  rcases h with rfl | rfl | rfl | rfl | rfl | rfl | rfl | rfl | rfl | rfl | rfl | rfl | rfl | rfl | rfl | rfl | rfl | rfl | rfl | rfl
  · rw [if_neg (by decide)] at H; (repeat (first | refine br_t (by decide) ?_ | refine br_f (by decide) ?_)); exact H
  · rw [if_neg (by decide)] at H; (repeat (first | refine br_t (by decide) ?_ | refine br_f (by decide) ?_)); exact H
  · rw [if_neg (by decide)] at H; (repeat (first | refine br_t (by decide) ?_ | refine br_f (by decide) ?_)); exact H
  · rw [if_neg (by decide)] at H; (repeat (first | refine br_t (by decide) ?_ | refine br_f (by decide) ?_)); exact H
  · rw [if_neg (by decide)] at H; (repeat (first | refine br_t (by decide) ?_ | refine br_f (by decide) ?_)); exact H
  · rw [if_neg (by decide)] at H; (repeat (first | refine br_t (by decide) ?_ | refine br_f (by decide) ?_)); exact H
  · rw [if_neg (by decide)] at H; (repeat (first | refine br_t (by decide) ?_ | refine br_f (by decide) ?_)); exact H
  · rw [if_neg (by decide)] at H; (repeat (first | refine br_t (by decide) ?_ | refine br_f (by decide) ?_)); exact H
  · rw [if_pos (by decide)] at H; (repeat (first | refine br_t (by decide) ?_ | refine br_f (by decide) ?_)); exact H
  · rw [if_pos (by decide)] at H; (repeat (first | refine br_t (by decide) ?_ | refine br_f (by decide) ?_)); exact H
  · rw [if_pos (by decide)] at H; (repeat (first | refine br_t (by decide) ?_ | refine br_f (by decide) ?_)); exact H
  · rw [if_neg (by decide)] at H; (repeat (first | refine br_t (by decide) ?_ | refine br_f (by decide) ?_)); exact H
  · rw [if_pos (by decide)] at H; (repeat (first | refine br_t (by decide) ?_ | refine br_f (by decide) ?_)); exact H
  · rw [if_neg (by decide)] at H; (repeat (first | refine br_t (by decide) ?_ | refine br_f (by decide) ?_)); exact H
  · rw [if_neg (by decide)] at H; (repeat (first | refine br_t (by decide) ?_ | refine br_f (by decide) ?_)); exact H
  · rw [if_neg (by decide)] at H; (repeat (first | refine br_t (by decide) ?_ | refine br_f (by decide) ?_)); exact H
  · rw [if_pos (by decide)] at H; (repeat (first | refine br_t (by decide) ?_ | refine br_f (by decide) ?_)); exact H
  · rw [if_neg (by decide)] at H; (repeat (first | refine br_t (by decide) ?_ | refine br_f (by decide) ?_)); exact H
  · rw [if_neg (by decide)] at H; (repeat (first | refine br_t (by decide) ?_ | refine br_f (by decide) ?_)); exact H
  · rw [if_neg (by decide)] at H; (repeat (first | refine br_t (by decide) ?_ | refine br_f (by decide) ?_)); exact H
theorem ly_ysymOf {post : Int32 → Prop} {yorg ystrip ymany yculp ytend yend ymade yrounds yentry ylinked yran ypc ysteps youts : Int32} {yops yA yB ycnt yrole ylist yplace ysym yimg ystay ywide ymem yreg yout : Nat → Int32} {i : Nat} (hi : i < 144) (H : post (ly_sy (yops i) (yA i) (yB i))) : wpY_symbolOf post (yorg, ystrip, ymany, yculp, ytend, yend, ymade, yrounds, yentry, ylinked, yran, ypc, ysteps, youts, yops, yA, yB, ycnt, yrole, ylist, yplace, ysym, yimg, ystay, ywide, ymem, yreg, yout) (nI i) := by
  have ei : (nI i).toNatClampNeg = i := ly_cl (by omega)
  have vi : vp_in (nI i) 144 := vp_in_nI hi (by omega)
  unfold wpY_symbolOf
  dsimp only
  rw [ei]
  unfold ly_sy at H
  by_cases h : yops i = 16
  · rw [if_pos h] at H; exact ⟨vi, br_t h ⟨vi, H⟩⟩
  · rw [if_neg h] at H; exact ⟨vi, br_f h ⟨vi, H⟩⟩
theorem ly_u_ne {o a b : Int32} (hf : ly_ft o a b) : ly_u o a b = -1 ↔ ly_us o = false := by
  cases h : ly_us o with
  | false => exact ⟨fun _ => rfl, fun _ => ly_u_f h⟩
  | true =>
    obtain ⟨f, hf', e⟩ := ly_ft_s hf h
    refine ⟨fun z => ?_, fun z => absurd z (by decide)⟩
    unfold ly_u at z
    rw [if_pos h, e] at z
    exact absurd z (ly_m1 (by omega))
theorem ly_u_t {o a b : Int32} (h : ly_us o = true) : ly_u o a b = ly_sy o a b := if_pos h
/-- the survey of items: section, used symbols, units -/
theorem ly_i47 {post : SX → Prop} {J : Int32 → Int32 → Int32 → (Nat → Int32) → (Nat → Int32) → (Nat → Int32) → (Nat → Int32) → (Nat → Int32) → (Nat → Int32) → (Nat → Int32) → (Nat → Int32) → (Nat → Int32) → (Nat → Int32) → (Nat → Int32) → (Nat → Int32) → (Nat → Int32) → (Nat → Int32) → (Nat → Int32) → (Nat → Int32) → (Nat → Int32) → (Nat → Int32) → (Nat → Int32) → (Nat → Int32) → (Nat → Int32) → Prop} {xbase xstrip xllen xtend xaend xlcnt xlrnd xlinked xblamed xouts xpc xsteps xran : Int32} {xops xA xB xcnt xrole xloc xglo xweak xuse xrep xunit xtgt xstay xlong xlist xchosen xplace ximg xreg xstore xout : Nat → Int32} (hF : ly_F xops xA xB) {m k w : Nat} (hm : m < 6) (hk : k < 24) (used : Int32)
    (H : ∀ used' : Int32, (∀ s, s < 32 → bt used' s = (bt used s || ly_up xops xA xB (nI s) (24 * m + k))) → J used' (nI w) (nI (k + 1)) xops xA xB xcnt xrole xloc xglo xweak xuse xrep (upd xunit (24 * m + k) (nI (2 * m + w))) xtgt xstay xlong xlist xchosen xplace ximg xreg xstore xout) : wX_surveyItems_47 post J (nI m) used (nI w) (nI k) (nI (24 * m + k)) xbase xstrip xllen xtend xaend xlcnt xlrnd xlinked xblamed xouts xpc xsteps xran xops xA xB xcnt xrole xloc xglo xweak xuse xrep xunit xtgt xstay xlong xlist xchosen xplace ximg xreg xstore xout := by
  have ei : (nI (24 * m + k)).toNatClampNeg = 24 * m + k := ly_cl (by omega)
  have hi : 24 * m + k < 144 := by omega
  have vi : vp_in (nI (24 * m + k)) 144 := vp_in_nI hi (by omega)
  refine ⟨vi, nm_r (e' := upd xunit (24 * m + k) (nI (2 * m + w))) (by rw [ei, ly_idx2]) (ly_xused (hi := hi) (hf := hF _ hi) (H := ?_))⟩
  cases hu : ly_us (xops (24 * m + k)) with
  | false =>
    refine br_t (ly_u_f hu) (nm_r (nI_1 k) (H used (fun s hs => ?_)))
    unfold ly_up; rw [hu, Bool.false_and, Bool.or_false]
  | true =>
    obtain ⟨f, hf, ef⟩ := ly_ft_s (hF _ hi) hu
    rw [ly_u_t hu, ef]
    refine br_f (ly_m1 (by omega)) (nm_e (nm_r (nI_1 k) (H _ (fun s hs => ?_))))
    rw [ly_orb (by omega) hs]
    unfold ly_up
    rw [hu, Bool.true_and, ef]
    by_cases e : s = f
    · subst e; rw [decide_eq_true rfl, decide_eq_true rfl]
    · rw [decide_eq_false e, decide_eq_false (fun z => e (ly_inj (by omega) (by omega) z).symm)]
theorem ly_i7 {post : SX → Prop} {xbase xstrip xllen xtend xaend xlcnt xlrnd xlinked xblamed xouts xpc xsteps xran : Int32} {xops xA xB xcnt xrole xloc xglo xweak xuse xrep xtgt xstay xlong xlist xchosen xplace ximg xreg xstore xout : Nat → Int32} (hW : ly_W xcnt) (hF : ly_F xops xA xB) {m : Nat} (hm : m < 6) (un0 : Nat → Int32)
    (H : ∀ un us : Nat → Int32, (∀ i, i < 24 * m → un i = un0 i) → (∀ i, i < ly_c xcnt m → un (24 * m + i) = nI (ly_un xops xA (24 * m + i))) → (∀ j, j ≠ m → us j = xuse j) → (∀ s, s < 32 → bt (us m) s = (ly_eu xops xA xB xcnt m (nI s) && !bt (xloc m) s)) → post (xbase, xstrip, xllen, xtend, xaend, xlcnt, xlrnd, xlinked, xblamed, xouts, xpc, xsteps, xran, xops, xA, xB, xcnt, xrole, xloc, xglo, xweak, us, xrep, un, xtgt, xstay, xlong, xlist, xchosen, xplace, ximg, xreg, xstore, xout)) :
    ∀ (d k : Nat) (used : Int32) (un : Nat → Int32), k + d = ly_c xcnt m → (∀ i, i < 24 * m → un i = un0 i) → (∀ i, i < k → un (24 * m + i) = nI (ly_un xops xA (24 * m + i))) → (∀ s, s < 32 → bt used s = ly_ex (ly_up xops xA xB (nI s)) (24 * m) k) → wX_surveyItems_7 post (nI m) xbase xstrip xllen xtend xaend xlcnt xlrnd xlinked xblamed xouts xpc xsteps xran (d + 1) used (nI (ly_sn xops xA m k)) (nI k) xops xA xB xcnt xrole xloc xglo xweak xuse xrep un xtgt xstay xlong xlist xchosen xplace ximg xreg xstore xout := by
  have em : (nI m).toNatClampNeg = m := ly_cl (by omega)
  obtain ⟨hc, ec⟩ := hW m hm
  have ec' : xcnt (nI m).toNatClampNeg = nI (ly_c xcnt m) := by rw [em]; exact ec
  have vm : vp_in (nI m) 6 := vp_in_nI hm (by omega)
  intro d
  induction d with
  | zero =>
    intro k used un hd h0 h1 h2
    have e : k = ly_c xcnt m := by omega
    subst e
    refine ⟨vm, br_t (by rw [ec']; exact Int32.le_refl _) ⟨vm, vm, nm_r (e' := upd xuse m (used &&& (xloc m ^^^ (-1)))) (by rw [em]) (H un _ h0 h1 (fun j hj => pk_un hj) (fun s hs => ?_))⟩⟩
    rw [pk_us, b_and, b_xor, b_m1 s hs, h2 s hs, Bool.xor_true]; rfl
  | succ d ih =>
    intro k used un hd h0 h1 h2
    have hi : 24 * m + k < 144 := by omega
    have ei : (nI (24 * m + k)).toNatClampNeg = 24 * m + k := ly_cl (by omega)
    have vi : vp_in (nI (24 * m + k)) 144 := vp_in_nI hi (by omega)
    have go : wX_surveyItems_47 post (wX_surveyItems_7 post (nI m) xbase xstrip xllen xtend xaend xlcnt xlrnd xlinked xblamed xouts xpc xsteps xran (d + 1)) (nI m) used (nI (ly_sn xops xA m (k + 1))) (nI k) (nI (24 * m + k)) xbase xstrip xllen xtend xaend xlcnt xlrnd xlinked xblamed xouts xpc xsteps xran xops xA xB xcnt xrole xloc xglo xweak xuse xrep un xtgt xstay xlong xlist xchosen xplace ximg xreg xstore xout := by
      refine ly_i47 (hF := hF) (hm := hm) (hk := by omega) (used := used) (H := fun used' hu => ih (k + 1) used' _ (by omega) (fun i hi' => ?_) (fun i hi' => ?_) (fun s hs => ?_))
      · rw [pk_un (by omega)]; exact h0 i hi'
      · by_cases e : i = k
        · subst e; rw [pk_us, ly_un_at (by omega)]
        · rw [pk_un (by omega)]; exact h1 i (by omega)
      · rw [hu s hs, h2 s hs]; rfl
    refine ⟨vm, br_f (by rw [ec']; exact nI_ge (by omega) (by omega)) (nm_r (ly_idx m k) ⟨vi, ?_⟩)⟩
    rw [ei]
    by_cases h19 : xops (24 * m + k) = 19
    · obtain ⟨f, hf, ef⟩ := ly_ft_19 (hF _ hi) h19
      refine br_t h19 ⟨vi, nm_r (e' := nI (ly_sn xops xA m (k + 1))) ?_ go⟩
      show _ = nI (if xops (24 * m + k) = 19 then (xA (24 * m + k)).toNatClampNeg else ly_sn xops xA m k)
      rw [if_pos h19, ef, nI_clamp (by omega)]
    · have e : ly_sn xops xA m k = ly_sn xops xA m (k + 1) := (if_neg h19).symm
      rw [e]
      exact br_f h19 go
theorem ly_sItem {post : SX → Prop} {xbase xstrip xllen xtend xaend xlcnt xlrnd xlinked xblamed xouts xpc xsteps xran : Int32} {xops xA xB xcnt xrole xloc xglo xweak xuse xrep xunit xtgt xstay xlong xlist xchosen xplace ximg xreg xstore xout : Nat → Int32} (hW : ly_W xcnt) (hF : ly_F xops xA xB) {m : Nat} (hm : m < 6)
    (H : ∀ un us : Nat → Int32, (∀ i, i < 24 * m → un i = xunit i) → (∀ i, i < ly_c xcnt m → un (24 * m + i) = nI (ly_un xops xA (24 * m + i))) → (∀ j, j ≠ m → us j = xuse j) → (∀ s, s < 32 → bt (us m) s = (ly_eu xops xA xB xcnt m (nI s) && !bt (xloc m) s)) → post (xbase, xstrip, xllen, xtend, xaend, xlcnt, xlrnd, xlinked, xblamed, xouts, xpc, xsteps, xran, xops, xA, xB, xcnt, xrole, xloc, xglo, xweak, us, xrep, un, xtgt, xstay, xlong, xlist, xchosen, xplace, ximg, xreg, xstore, xout)) : wpX_surveyItems post (xbase, xstrip, xllen, xtend, xaend, xlcnt, xlrnd, xlinked, xblamed, xouts, xpc, xsteps, xran, xops, xA, xB, xcnt, xrole, xloc, xglo, xweak, xuse, xrep, xunit, xtgt, xstay, xlong, xlist, xchosen, xplace, ximg, xreg, xstore, xout) (nI m) :=
  ⟨ly_c xcnt m + 1, ly_i7 (hW := hW) (hF := hF) (hm := hm) (un0 := xunit) (H := H) (ly_c xcnt m) 0 0 xunit (by omega) (fun i hi => rfl) (fun i hi => by omega) (fun s hs => b_0 s)⟩
/-- all that the survey knows, of the modules below M -/
def ly_SV (o a b cnt loc glo wk us rp un : Nat → Int32) (M : Nat) : Prop := ∀ m, m < M → (∀ s, s < 32 → bt (loc m) s = ly_e3 o a b cnt m (nI s) 0 ∧ bt (glo m) s = ly_e3 o a b cnt m (nI s) 1 ∧ bt (wk m) s = ly_e3 o a b cnt m (nI s) 2 ∧ bt (us m) s = ly_ak o a b cnt m (nI s)) ∧ (rp m = 0 ↔ ly_fy o a cnt m = false) ∧ ∀ i, i < ly_c cnt m → un (24 * m + i) = nI (ly_un o a (24 * m + i))
theorem ly_sMod {post : SX → Prop} {xbase xstrip xllen xtend xaend xlcnt xlrnd xlinked xblamed xouts xpc xsteps xran : Int32} {xops xA xB xcnt xrole xtgt xstay xlong xlist xchosen xplace ximg xreg xstore xout : Nat → Int32} (hW : ly_W xcnt) (hF : ly_F xops xA xB)
    (H : ∀ loc glo wk us rp un : Nat → Int32, ly_SV xops xA xB xcnt loc glo wk us rp un 6 → post (xbase, xstrip, xllen, xtend, xaend, xlcnt, xlrnd, xlinked, xblamed, xouts, xpc, xsteps, xran, xops, xA, xB, xcnt, xrole, loc, glo, wk, us, rp, un, xtgt, xstay, xlong, xlist, xchosen, xplace, ximg, xreg, xstore, xout)) :
    ∀ (d m : Nat) (loc glo wk us rp un : Nat → Int32), m + d = 6 → ly_SV xops xA xB xcnt loc glo wk us rp un m → wX_surveyModules_2 post (d + 1) (nI m) xbase xstrip xllen xtend xaend xlcnt xlrnd xlinked xblamed xouts xpc xsteps xran xops xA xB xcnt xrole loc glo wk us rp un xtgt xstay xlong xlist xchosen xplace ximg xreg xstore xout := by
  intro d
  induction d with
  | zero =>
    intro m loc glo wk us rp un hd h
    have e : m = 6 := by omega
    subst e
    exact br_t (by decide) (H loc glo wk us rp un h)
  | succ d ih =>
    intro m loc glo wk us rp un hd h
    refine br_f (nI_ge (b := 6) (by omega) (by omega)) (ly_sLab (hW := hW) (hF := hF) (hm := by omega) (H := fun loc' glo' wk' rp' h1 ⟨seen, h2⟩ => ly_sItem (hW := hW) (hF := hF) (hm := by omega) (H := fun un' us' h3 h4 h5 h6 => nm_r (nI_1 m) (ih (m + 1) _ _ _ _ _ _ (by omega) (fun j hj => ?_)))))
    by_cases e : j = m
    · subst e
      refine ⟨fun s hs => ?_, h2.2, h4⟩
      obtain ⟨_, a1, a2, a3⟩ := h2.1 s hs
      refine ⟨a1, a2, a3, ?_⟩
      rw [h6 s hs, a1]; rfl
    · obtain ⟨b1, b2, b3⟩ := h j (by omega)
      obtain ⟨c1, c2, c3, c4⟩ := h1 j e
      refine ⟨fun s hs => ?_, by rw [c4]; exact b2, fun i hi => ?_⟩
      · rw [c1, c2, c3, h5 j e]; exact b1 s hs
      · have := (hW j (by omega)).1
        rw [h3 _ (by omega)]; exact b3 i hi
theorem ly_survey {post : SX → Prop} {xbase xstrip xllen xtend xaend xlcnt xlrnd xlinked xblamed xouts xpc xsteps xran : Int32} {xops xA xB xcnt xrole xloc xglo xweak xuse xrep xunit xtgt xstay xlong xlist xchosen xplace ximg xreg xstore xout : Nat → Int32} (hW : ly_W xcnt) (hF : ly_F xops xA xB)
    (H : ∀ loc glo wk us rp un : Nat → Int32, ly_SV xops xA xB xcnt loc glo wk us rp un 6 → post (xbase, xstrip, xllen, xtend, xaend, xlcnt, xlrnd, xlinked, xblamed, xouts, xpc, xsteps, xran, xops, xA, xB, xcnt, xrole, loc, glo, wk, us, rp, un, xtgt, xstay, xlong, xlist, xchosen, xplace, ximg, xreg, xstore, xout)) : wpX_surveyModules post (xbase, xstrip, xllen, xtend, xaend, xlcnt, xlrnd, xlinked, xblamed, xouts, xpc, xsteps, xran, xops, xA, xB, xcnt, xrole, xloc, xglo, xweak, xuse, xrep, xunit, xtgt, xstay, xlong, xlist, xchosen, xplace, ximg, xreg, xstore, xout) :=
  ⟨7, ly_sMod (hW := hW) (hF := hF) (H := H) 6 0 xloc xglo xweak xuse xrep xunit (by omega) (fun j hj => by omega)⟩
end
section
/-! Y: what it looks up -/
def ly_bi (b : Bool) : Int32 := if b = true then 1 else 0
theorem ly_bi_or (a b : Bool) : ly_bi a ||| ly_bi b = ly_bi (a || b) := by cases a <;> cases b <;> decide
theorem ly_bi01 (b : Bool) : ly_bi b = 0 ∨ ly_bi b = 1 := by cases b; exact Or.inl rfl; exact Or.inr rfl
theorem ly_bi_t {b : Bool} (h : b = true) : ¬ ly_bi b = 0 := by subst h; decide
theorem ly_bi_f {b : Bool} (h : b = false) : ly_bi b = 0 := by subst h; rfl
theorem ly_ex_or (p q : Nat → Bool) (i : Nat) : ∀ d, ly_ex (fun k => p k || q k) i d = (ly_ex p i d || ly_ex q i d) := by
  intro d
  induction d with
  | zero => rfl
  | succ d ih =>
    simp only [ly_ex, ih]
    cases ly_ex p i d <;> cases ly_ex q i d <;> cases p (i + d) <;> cases q (i + d) <;> rfl
theorem ly_ex_y {p : Nat → Bool} {i d k : Nat} (h1 : i ≤ k) (h2 : k < i + d) (h : p k = true) : ly_ex p i d = true := ly_ex_iff.mpr ⟨k, h1, h2, h⟩
/-- the list, with modules that aren't faulty -/
def ly_LS (o a cnt list : Nat → Int32) (g : Nat → Nat) (n : Nat) : Prop := n ≤ 6 ∧ ∀ i, i < n → g i < 6 ∧ list i = nI (g i) ∧ ly_fy o a cnt (g i) = false
theorem ly_ylast {post : Int32 → Prop} {yorg ystrip ymany yculp ytend yend ymade yrounds yentry ylinked yran ypc ysteps youts : Int32} {yops yA yB ycnt yrole ylist yplace ysym yimg ystay ywide ymem yreg yout : Nat → Int32} (hW : ly_W ycnt) {m : Nat} (hm : m < 6) (H : post (nI (24 * m + ly_c ycnt m))) : wpY_last post (yorg, ystrip, ymany, yculp, ytend, yend, ymade, yrounds, yentry, ylinked, yran, ypc, ysteps, youts, yops, yA, yB, ycnt, yrole, ylist, yplace, ysym, yimg, ystay, ywide, ymem, yreg, yout) (nI m) := by
  refine ⟨vp_in_nI hm (by omega), ?_⟩
  rw [ly_cl (i := m) (by omega), (hW m hm).2, ly_idy, nI_add]
  exact H
theorem ly_yl5 {post : Int32 → Prop} {yorg ystrip ymany yculp ytend yend ymade yrounds yentry ylinked yran ypc ysteps youts : Int32} {yops yA yB ycnt yrole ylist yplace ysym yimg ystay ywide ymem yreg yout : Nat → Int32} (hW : ly_W ycnt) {m : Nat} (hm : m < 6) (s : Int32) : ∀ (d k : Nat), k + d = 24 * m + ly_c ycnt m → post (ly_fd (ly_lb yops yA s) d k) → wY_labelIn_5 post (nI m) s yorg ystrip ymany yculp ytend yend ymade yrounds yentry ylinked yran ypc ysteps youts yops yA yB ycnt yrole ylist yplace ysym yimg ystay ywide ymem yreg yout (d + 1) (nI k) := by
  have hc := (hW m hm).1
  intro d
  induction d with
  | zero =>
    intro k hd H
    rw [wY_labelIn_5]
    exact ly_ylast (hW := hW) (hm := hm) (H := br_t (by rw [show k = 24 * m + ly_c ycnt m by omega]; exact Int32.le_refl _) H)
  | succ d ih =>
    intro k hd H
    have ek : (nI k).toNatClampNeg = k := ly_cl (by omega)
    have vk : vp_in (nI k) 144 := vp_in_nI (by omega) (by omega)
    rw [wY_labelIn_5]
    refine ly_ylast (hW := hW) (hm := hm) (H := br_f (nI_ge (by omega) (by omega)) ⟨vk, ?_⟩)
    rw [ek]
    by_cases h0 : yops k = 0
    · refine br_t h0 ⟨vk, ?_⟩
      by_cases h1 : yA k = s
      · rw [show ly_fd (ly_lb yops yA s) (d + 1) k = nI k from if_pos (decide_eq_true ⟨h0, h1⟩)] at H
        exact br_t h1 H
      · rw [show ly_fd (ly_lb yops yA s) (d + 1) k = ly_fd (ly_lb yops yA s) d (k + 1) from if_neg (fun z => h1 (of_decide_eq_true z).2)] at H
        exact br_f h1 (nm_r (nI_1 k) (ih (k + 1) (by omega) H))
    · rw [show ly_fd (ly_lb yops yA s) (d + 1) k = ly_fd (ly_lb yops yA s) d (k + 1) from if_neg (fun z => h0 (of_decide_eq_true z).1)] at H
      exact br_f h0 (nm_r (nI_1 k) (ih (k + 1) (by omega) H))
theorem ly_ylab {post : Int32 → Prop} {yorg ystrip ymany yculp ytend yend ymade yrounds yentry ylinked yran ypc ysteps youts : Int32} {yops yA yB ycnt yrole ylist yplace ysym yimg ystay ywide ymem yreg yout : Nat → Int32} (hW : ly_W ycnt) {m : Nat} (hm : m < 6) (s : Int32) (H : post (ly_yl yops yA ycnt m s)) : wpY_labelIn post (yorg, ystrip, ymany, yculp, ytend, yend, ymade, yrounds, yentry, ylinked, yran, ypc, ysteps, youts, yops, yA, yB, ycnt, yrole, ylist, yplace, ysym, yimg, ystay, ywide, ymem, yreg, yout) (nI m) s :=
  nm_r (ly_idy m) ⟨ly_c ycnt m + 1, ly_yl5 (hW := hW) (hm := hm) (s := s) (ly_c ycnt m) (24 * m) rfl H⟩
theorem ly_ylo0 {post : Int32 → Prop} {yorg ystrip ymany yculp ytend yend ymade yrounds yentry ylinked yran ypc ysteps youts : Int32} {yops yA yB ycnt yrole ylist yplace ysym yimg ystay ywide ymem yreg yout : Nat → Int32} (H : post 0) : wpY_isLocal post (yorg, ystrip, ymany, yculp, ytend, yend, ymade, yrounds, yentry, ylinked, yran, ypc, ysteps, youts, yops, yA, yB, ycnt, yrole, ylist, yplace, ysym, yimg, ystay, ywide, ymem, yreg, yout) (-1) := br_t (by decide) H
theorem ly_ylo1 {post : Int32 → Prop} {yorg ystrip ymany yculp ytend yend ymade yrounds yentry ylinked yran ypc ysteps youts : Int32} {yops yA yB ycnt yrole ylist yplace ysym yimg ystay ywide ymem yreg yout : Nat → Int32} {k : Nat} (hk : k < 144) (H : post (if yB k = 0 then 1 else 0)) : wpY_isLocal post (yorg, ystrip, ymany, yculp, ytend, yend, ymade, yrounds, yentry, ylinked, yran, ypc, ysteps, youts, yops, yA, yB, ycnt, yrole, ylist, yplace, ysym, yimg, ystay, ywide, ymem, yreg, yout) (nI k) := by
  refine br_f (nI_pos (by omega)) ⟨vp_in_nI hk (by omega), ?_⟩
  rw [ly_cl (i := k) (by omega)]
  by_cases h : yB k = 0
  · rw [if_pos h] at H; exact br_t h H
  · rw [if_neg h] at H; exact br_f h H
theorem ly_yfa5 {post : Int32 → Prop} {yorg ystrip ymany yculp ytend yend ymade yrounds yentry ylinked yran ypc ysteps youts : Int32} {yops yA yB ycnt yrole ylist yplace ysym yimg ystay ywide ymem yreg yout : Nat → Int32} (hW : ly_W ycnt) {m : Nat} (hm : m < 6) (H : post (ly_bi (ly_fy yops yA ycnt m))) : ∀ (d k : Nat), k + d = 24 * m + ly_c ycnt m → 24 * m ≤ k → (∀ j, 24 * m ≤ j → j < k → ly_fp yops yA m j = false) → wY_faulty_5 post (nI m) yorg ystrip ymany yculp ytend yend ymade yrounds yentry ylinked yran ypc ysteps youts yops yA yB ycnt yrole ylist yplace ysym yimg ystay ywide ymem yreg yout (d + 1) (nI k) := by
  have hc := (hW m hm).1
  intro d
  induction d with
  | zero =>
    intro k hd h24 hn
    rw [wY_faulty_5]
    refine ly_ylast (hW := hW) (hm := hm) (H := br_t (by rw [show k = 24 * m + ly_c ycnt m by omega]; exact Int32.le_refl _) ?_)
    rw [show ly_fy yops yA ycnt m = false from ly_ex_f.mpr (fun j h1 h2 => hn j h1 (by omega))] at H
    exact H
  | succ d ih =>
    intro k hd h24 hn
    have ek : (nI k).toNatClampNeg = k := ly_cl (by omega)
    have vk : vp_in (nI k) 144 := vp_in_nI (by omega) (by omega)
    rw [wY_faulty_5]
    refine ly_ylast (hW := hW) (hm := hm) (H := br_f (nI_ge (by omega) (by omega)) ⟨vk, ?_⟩)
    rw [ek]
    by_cases h0 : yops k = 0
    · refine br_t h0 ⟨vk, ly_ylab (hW := hW) (hm := hm) (s := yA k) (H := ?_)⟩
      rcases ly_fd_c (ly_lb yops yA (yA k)) (ly_c ycnt m) (24 * m) with ⟨_, hno⟩ | ⟨j, j1, j2, j3, j4, e⟩
      · have := hno k h24 (by omega)
        unfold ly_lb at this
        rw [decide_eq_true ⟨h0, rfl⟩] at this
        exact absurd this (by decide)
      · have e' : ly_yl yops yA ycnt m (yA k) = nI j := e
        rw [e']
        by_cases hjk : j = k
        · subst hjk
          refine br_t rfl (nm_r (nI_1 j) (ih (j + 1) (by omega) (by omega) (fun l l1 l2 => ?_)))
          by_cases el : l = j
          · subst el
            unfold ly_fp
            rw [ly_ex_f.mpr (fun q q1 q2 => j4 q q1 (by omega)), Bool.and_false]
          · exact hn l l1 (by omega)
        · have hlt : j < k := by
            rcases Nat.lt_or_ge j k with h | h
            · exact h
            · have := j4 k h24 (by omega)
              unfold ly_lb at this
              rw [decide_eq_true ⟨h0, rfl⟩] at this
              exact absurd this (by decide)
          have hp : ly_fp yops yA m k = true := by
            unfold ly_fp
            rw [decide_eq_true h0, Bool.true_and]
            exact ly_ex_y j1 (by omega) j3
          rw [show ly_fy yops yA ycnt m = true from ly_ex_y h24 (by omega) hp] at H
          exact br_f (fun z => hjk (ly_inj (by omega) (by omega) z)) H
    · refine br_f h0 (nm_r (nI_1 k) (ih (k + 1) (by omega) (by omega) (fun l l1 l2 => ?_)))
      by_cases el : l = k
      · subst el
        unfold ly_fp
        rw [decide_eq_false h0, Bool.false_and]
      · exact hn l l1 (by omega)
theorem ly_yfa {post : Int32 → Prop} {yorg ystrip ymany yculp ytend yend ymade yrounds yentry ylinked yran ypc ysteps youts : Int32} {yops yA yB ycnt yrole ylist yplace ysym yimg ystay ywide ymem yreg yout : Nat → Int32} (hW : ly_W ycnt) {m : Nat} (hm : m < 6) (H : post (ly_bi (ly_fy yops yA ycnt m))) : wpY_faulty post (yorg, ystrip, ymany, yculp, ytend, yend, ymade, yrounds, yentry, ylinked, yran, ypc, ysteps, youts, yops, yA, yB, ycnt, yrole, ylist, yplace, ysym, yimg, ystay, ywide, ymem, yreg, yout) (nI m) :=
  nm_r (ly_idy m) ⟨ly_c ycnt m + 1, ly_yfa5 (hW := hW) (hm := hm) (H := H) (ly_c ycnt m) (24 * m) rfl (Nat.le_refl _) (fun j h1 h2 => by omega)⟩
theorem ly_yde5 {post : Int32 → Prop} {yorg ystrip ymany yculp ytend yend ymade yrounds yentry ylinked yran ypc ysteps youts : Int32} {yops yA yB ycnt yrole ylist yplace ysym yimg ystay ywide ymem yreg yout : Nat → Int32} (hW : ly_W ycnt) (hF : ly_F yops yA yB) {m : Nat} (hm : m < 6) (s : Int32) (H : post (ly_bi (ly_df yops yA yB ycnt m s))) : ∀ (d k : Nat), k + d = 24 * m + ly_c ycnt m → 24 * m ≤ k → (∀ j, 24 * m ≤ j → j < k → (ly_l3 yops yA yB s 1 j || ly_l3 yops yA yB s 2 j) = false) → wY_defines_5 post (nI m) s yorg ystrip ymany yculp ytend yend ymade yrounds yentry ylinked yran ypc ysteps youts yops yA yB ycnt yrole ylist yplace ysym yimg ystay ywide ymem yreg yout (d + 1) (nI k) := by
  have hc := (hW m hm).1
  have edf : ly_df yops yA yB ycnt m s = ly_ex (fun j => ly_l3 yops yA yB s 1 j || ly_l3 yops yA yB s 2 j) (24 * m) (ly_c ycnt m) := (ly_ex_or _ _ _ _).symm
  intro d
  induction d with
  | zero =>
    intro k hd h24 hn
    rw [wY_defines_5]
    refine ly_ylast (hW := hW) (hm := hm) (H := br_t (by rw [show k = 24 * m + ly_c ycnt m by omega]; exact Int32.le_refl _) ?_)
    rw [edf, ly_ex_f.mpr (fun j h1 h2 => hn j h1 (by omega))] at H
    exact H
  | succ d ih =>
    intro k hd h24 hn
    have ek : (nI k).toNatClampNeg = k := ly_cl (by omega)
    have vk : vp_in (nI k) 144 := vp_in_nI (by omega) (by omega)
    have next : (ly_l3 yops yA yB s 1 k || ly_l3 yops yA yB s 2 k) = false → wY_defines_5 post (nI m) s yorg ystrip ymany yculp ytend yend ymade yrounds yentry ylinked yran ypc ysteps youts yops yA yB ycnt yrole ylist yplace ysym yimg ystay ywide ymem yreg yout (d + 1) (nI (k + 1)) := fun hf => ih (k + 1) (by omega) (by omega) (fun l l1 l2 => by
      by_cases el : l = k
      · subst el; exact hf
      · exact hn l l1 (by omega))
    rw [wY_defines_5]
    refine ly_ylast (hW := hW) (hm := hm) (H := br_f (nI_ge (by omega) (by omega)) ⟨vk, ?_⟩)
    rw [ek]
    by_cases h0 : yops k = 0
    · refine br_t h0 ⟨vk, ?_⟩
      by_cases h1 : yA k = s
      · refine br_t h1 ⟨vk, ?_⟩
        rcases ly_ft_b (hF k (by omega)) h0 with hb | hb | hb
        · refine br_t (by rw [hb]; decide) (nm_r (nI_1 k) (next ?_))
          unfold ly_l3
          rw [hb, decide_eq_false (fun z => absurd z.2.2 (by decide)), decide_eq_false (fun z => absurd z.2.2 (by decide))]; rfl
        · rw [edf, ly_ex_y (k := k) h24 (by omega) (by show (ly_l3 yops yA yB s 1 k || ly_l3 yops yA yB s 2 k) = true; unfold ly_l3; rw [decide_eq_true ⟨h0, h1, hb⟩, Bool.true_or])] at H
          exact br_f (by rw [hb]; decide) H
        · rw [edf, ly_ex_y (k := k) h24 (by omega) (by show (ly_l3 yops yA yB s 1 k || ly_l3 yops yA yB s 2 k) = true; unfold ly_l3; rw [decide_eq_true (p := _ ∧ _ ∧ _ = (2 : Int32)) ⟨h0, h1, hb⟩, Bool.or_true])] at H
          exact br_f (by rw [hb]; decide) H
      · refine br_f h1 (nm_r (nI_1 k) (next ?_))
        unfold ly_l3
        rw [decide_eq_false (fun z => h1 z.2.1), decide_eq_false (fun z => h1 z.2.1)]; rfl
    · refine br_f h0 (nm_r (nI_1 k) (next ?_))
      unfold ly_l3
      rw [decide_eq_false (fun z => h0 z.1), decide_eq_false (fun z => h0 z.1)]; rfl
theorem ly_yde {post : Int32 → Prop} {yorg ystrip ymany yculp ytend yend ymade yrounds yentry ylinked yran ypc ysteps youts : Int32} {yops yA yB ycnt yrole ylist yplace ysym yimg ystay ywide ymem yreg yout : Nat → Int32} (hW : ly_W ycnt) (hF : ly_F yops yA yB) {m : Nat} (hm : m < 6) (s : Int32) (H : post (ly_bi (ly_df yops yA yB ycnt m s))) : wpY_defines post (yorg, ystrip, ymany, yculp, ytend, yend, ymade, yrounds, yentry, ylinked, yran, ypc, ysteps, youts, yops, yA, yB, ycnt, yrole, ylist, yplace, ysym, yimg, ystay, ywide, ymem, yreg, yout) (nI m) s :=
  nm_r (ly_idy m) ⟨ly_c ycnt m + 1, ly_yde5 (hW := hW) (hF := hF) (hm := hm) (s := s) (H := H) (ly_c ycnt m) (24 * m) rfl (Nat.le_refl _) (fun j h1 h2 => by omega)⟩
theorem ly_yas20 {post : Int32 → Prop} {yorg ystrip ymany yculp ytend yend ymade yrounds yentry ylinked yran ypc ysteps youts : Int32} {yops yA yB ycnt yrole ylist yplace ysym yimg ystay ywide ymem yreg yout : Nat → Int32} (hW : ly_W ycnt) (hF : ly_F yops yA yB) {m : Nat} (hm : m < 6) (s : Int32) (H : post (ly_bi (ly_eu yops yA yB ycnt m s))) : ∀ (d k : Nat), k + d = 24 * m + ly_c ycnt m → 24 * m ≤ k → (∀ j, 24 * m ≤ j → j < k → ly_up yops yA yB s j = false) → wY_asks_20 post (nI m) s yorg ystrip ymany yculp ytend yend ymade yrounds yentry ylinked yran ypc ysteps youts yops yA yB ycnt yrole ylist yplace ysym yimg ystay ywide ymem yreg yout (d + 1) (nI k) := by
  have hc := (hW m hm).1
  intro d
  induction d with
  | zero =>
    intro k hd h24 hn
    rw [wY_asks_20]
    refine ly_ylast (hW := hW) (hm := hm) (H := br_t (by rw [show k = 24 * m + ly_c ycnt m by omega]; exact Int32.le_refl _) ?_)
    rw [show ly_eu yops yA yB ycnt m s = false from ly_ex_f.mpr (fun j h1 h2 => hn j h1 (by omega))] at H
    exact H
  | succ d ih =>
    intro k hd h24 hn
    have ek : (nI k).toNatClampNeg = k := ly_cl (by omega)
    have vk : vp_in (nI k) 144 := vp_in_nI (by omega) (by omega)
    have next : ly_up yops yA yB s k = false → wY_asks_20 post (nI m) s yorg ystrip ymany yculp ytend yend ymade yrounds yentry ylinked yran ypc ysteps youts yops yA yB ycnt yrole ylist yplace ysym yimg ystay ywide ymem yreg yout (d + 1) (nI (k + 1)) := fun hf => ih (k + 1) (by omega) (by omega) (fun l l1 l2 => by
      by_cases el : l = k
      · subst el; exact hf
      · exact hn l l1 (by omega))
    rw [wY_asks_20]
    refine ly_ylast (hW := hW) (hm := hm) (H := br_f (nI_ge (by omega) (by omega)) ⟨vk, ?_⟩)
    rw [ek]
    obtain ⟨op, hop, eo, _⟩ := hF k (by omega)
    rw [eo]
    refine ly_yuses hop ?_
    cases hu : ly_us (nI op) with
    | false =>
      refine br_t rfl (nm_r (nI_1 k) (next ?_))
      unfold ly_up; rw [eo, hu, Bool.false_and]
    | true =>
      refine br_f (by decide) (ly_ysymOf (hi := by omega) (H := ?_))
      by_cases hs : ly_sy (yops k) (yA k) (yB k) = s
      · rw [show ly_eu yops yA yB ycnt m s = true from ly_ex_y h24 (by omega) (by unfold ly_up; rw [hs, eo, hu, decide_eq_true rfl]; rfl)] at H
        exact br_t hs H
      · refine br_f hs (nm_r (nI_1 k) (next ?_))
        unfold ly_up; rw [decide_eq_false hs, Bool.and_false]
theorem ly_yas {post : Int32 → Prop} {yorg ystrip ymany yculp ytend yend ymade yrounds yentry ylinked yran ypc ysteps youts : Int32} {yops yA yB ycnt yrole ylist yplace ysym yimg ystay ywide ymem yreg yout : Nat → Int32} (hW : ly_W ycnt) (hF : ly_F yops yA yB) {m : Nat} (hm : m < 6) (hf : ly_fy yops yA ycnt m = false) (s : Int32) (H : post (ly_bi (ly_ak yops yA yB ycnt m s))) : wpY_asks post (yorg, ystrip, ymany, yculp, ytend, yend, ymade, yrounds, yentry, ylinked, yran, ypc, ysteps, youts, yops, yA, yB, ycnt, yrole, ylist, yplace, ysym, yimg, ystay, ywide, ymem, yreg, yout) (nI m) s := by
  have hc := (hW m hm).1
  refine ly_ylab (hW := hW) (hm := hm) (s := s) (H := ?_)
  have go : ly_e3 yops yA yB ycnt m s 0 = false → ∃ n20, wY_asks_20 post (nI m) s yorg ystrip ymany yculp ytend yend ymade yrounds yentry ylinked yran ypc ysteps youts yops yA yB ycnt yrole ylist yplace ysym yimg ystay ywide ymem yreg yout n20 (nI (24 * m)) := by
    intro he
    unfold ly_ak at H
    rw [he] at H
    exact ⟨ly_c ycnt m + 1, ly_yas20 (hW := hW) (hF := hF) (hm := hm) (s := s) (H := by rw [show (ly_eu yops yA yB ycnt m s) = (ly_eu yops yA yB ycnt m s && !false) from (Bool.and_true _).symm]; exact H) (ly_c ycnt m) (24 * m) rfl (Nat.le_refl _) (fun j h1 h2 => by omega)⟩
  have e3 := ly_e3_xl (o := yops) (a := yA) (b := yB) hm hc s 0
  rcases ly_xl_yl (b := yB) hf hm hc s with ⟨e, h⟩ | ⟨k, k1, k2, k3, k4, e, h⟩
  · rw [h 0, decide_eq_false (fun z => z rfl)] at e3
    rw [e]
    exact ly_ylo0 (H := br_t rfl (nm_r (ly_idy m) (go e3)))
  · rw [e]
    refine ly_ylo1 (hk := by omega) (H := ?_)
    rw [h 0] at e3
    by_cases hb : yB k = 0
    · rw [if_pos hb] at e3 ⊢
      rw [decide_eq_true (ly_m1 (by omega))] at e3
      unfold ly_ak at H
      rw [e3, show (ly_eu yops yA yB ycnt m s && !true) = false from Bool.and_false _] at H
      exact br_f (by decide) H
    · rw [if_neg hb] at e3 ⊢
      rw [decide_eq_false (fun z => z rfl)] at e3
      exact br_t rfl (nm_r (ly_idy m) (go e3))
theorem ly_ywt12 {post : Int32 → Prop} {yorg ystrip yculp ytend yend ymade yrounds yentry ylinked yran ypc ysteps youts : Int32} {yops yA yB ycnt yrole ylist yplace ysym yimg ystay ywide ymem yreg yout : Nat → Int32} (hW : ly_W ycnt) (hF : ly_F yops yA yB) {g : Nat → Nat} {n : Nat} (hL : ly_LS yops yA ycnt ylist g n) {s : Nat} (H : post (ly_bi (ly_wt yops yA yB ycnt g n s))) : ∀ (d i : Nat), i + d = n → wY_wanted_12 post (nI s) yorg ystrip (nI n) yculp ytend yend ymade yrounds yentry ylinked yran ypc ysteps youts yops yA yB ycnt yrole ylist yplace ysym yimg ystay ywide ymem yreg yout (d + 1) (ly_bi (ly_wt yops yA yB ycnt g i s)) (nI i) := by
  obtain ⟨hn, hg⟩ := hL
  intro d
  induction d with
  | zero =>
    intro i hd
    have e : i = n := by omega
    subst e
    exact br_t (Int32.le_refl _) ⟨ly_narb (ly_bi01 _), H⟩
  | succ d ih =>
    intro i hd
    obtain ⟨g1, g2, g3⟩ := hg i (by omega)
    refine br_f (nI_ge (by omega) (by omega)) ⟨vp_in_nI (by omega) (by omega), ?_⟩
    rw [ly_cl (i := i) (by omega), g2]
    refine ly_yas (hW := hW) (hF := hF) (hm := g1) (hf := g3) (s := nI s) (H := nm_r (e' := ly_bi (ly_wt yops yA yB ycnt g (i + 1) s)) ?_ (nm_r (nI_1 i) (ih (i + 1) (by omega))))
    rw [ly_bi_or]
    refine congrArg ly_bi ?_
    show (ly_wt yops yA yB ycnt g i s || _) = (decide (s = 0) || (ly_ex (fun i => ly_ak yops yA yB ycnt (g i) (nI s)) 0 i || ly_ak yops yA yB ycnt (g (0 + i)) (nI s)))
    unfold ly_wt
    rw [Nat.zero_add, Bool.or_assoc]
theorem ly_ywt {post : Int32 → Prop} {yorg ystrip yculp ytend yend ymade yrounds yentry ylinked yran ypc ysteps youts : Int32} {yops yA yB ycnt yrole ylist yplace ysym yimg ystay ywide ymem yreg yout : Nat → Int32} (hW : ly_W ycnt) (hF : ly_F yops yA yB) {g : Nat → Nat} {n : Nat} (hL : ly_LS yops yA ycnt ylist g n) {s : Nat} (hs : s < 16) (H : post (ly_bi (ly_wt yops yA yB ycnt g n s))) : wpY_wanted post (yorg, ystrip, nI n, yculp, ytend, yend, ymade, yrounds, yentry, ylinked, yran, ypc, ysteps, youts, yops, yA, yB, ycnt, yrole, ylist, yplace, ysym, yimg, ystay, ywide, ymem, yreg, yout) (nI s) := by
  by_cases h : s = 0
  · subst h
    exact br_t rfl ⟨n + 1, ly_ywt12 (hW := hW) (hF := hF) (hL := hL) (H := H) n 0 (by omega)⟩
  · have e : ly_bi (ly_wt yops yA yB ycnt g 0 s) = 0 := by
      unfold ly_wt; rw [decide_eq_false h]; rfl
    have := (ly_ywt12 (hW := hW) (hF := hF) (hL := hL) (H := H) n 0 (by omega) : wY_wanted_12 post (nI s) yorg ystrip (nI n) yculp ytend yend ymade yrounds yentry ylinked yran ypc ysteps youts yops yA yB ycnt yrole ylist yplace ysym yimg ystay ywide ymem yreg yout (n + 1) (ly_bi (ly_wt yops yA yB ycnt g 0 s)) (nI 0))
    rw [e] at this
    exact br_f (fun z => h (ly_inj (b := 0) (by omega) (by omega) z)) ⟨n + 1, this⟩
theorem ly_ydd4 {post : Int32 → Prop} {yorg ystrip yculp ytend yend ymade yrounds yentry ylinked yran ypc ysteps youts : Int32} {yops yA yB ycnt yrole ylist yplace ysym yimg ystay ywide ymem yreg yout : Nat → Int32} (hW : ly_W ycnt) (hF : ly_F yops yA yB) {g : Nat → Nat} {n : Nat} (hL : ly_LS yops yA ycnt ylist g n) {s : Nat} (H : post (ly_bi (ly_dd yops yA yB ycnt g n s))) : ∀ (d i : Nat), i + d = n → wY_defined_4 post (nI s) yorg ystrip (nI n) yculp ytend yend ymade yrounds yentry ylinked yran ypc ysteps youts yops yA yB ycnt yrole ylist yplace ysym yimg ystay ywide ymem yreg yout (d + 1) (ly_bi (ly_dd yops yA yB ycnt g i s)) (nI i) := by
  obtain ⟨hn, hg⟩ := hL
  intro d
  induction d with
  | zero =>
    intro i hd
    have e : i = n := by omega
    subst e
    exact br_t (Int32.le_refl _) ⟨ly_narb (ly_bi01 _), H⟩
  | succ d ih =>
    intro i hd
    obtain ⟨g1, g2, g3⟩ := hg i (by omega)
    refine br_f (nI_ge (by omega) (by omega)) ⟨vp_in_nI (by omega) (by omega), ?_⟩
    rw [ly_cl (i := i) (by omega), g2]
    refine ly_yde (hW := hW) (hF := hF) (hm := g1) (s := nI s) (H := nm_r (e' := ly_bi (ly_dd yops yA yB ycnt g (i + 1) s)) ?_ (nm_r (nI_1 i) (ih (i + 1) (by omega))))
    rw [ly_bi_or]
    refine congrArg ly_bi ?_
    show (ly_dd yops yA yB ycnt g i s || _) = (ly_ex (fun i => ly_df yops yA yB ycnt (g i) (nI s)) 0 i || ly_df yops yA yB ycnt (g (0 + i)) (nI s))
    rw [Nat.zero_add]; rfl
theorem ly_ydd {post : Int32 → Prop} {yorg ystrip yculp ytend yend ymade yrounds yentry ylinked yran ypc ysteps youts : Int32} {yops yA yB ycnt yrole ylist yplace ysym yimg ystay ywide ymem yreg yout : Nat → Int32} (hW : ly_W ycnt) (hF : ly_F yops yA yB) {g : Nat → Nat} {n : Nat} (hL : ly_LS yops yA ycnt ylist g n) {s : Nat} (H : post (ly_bi (ly_dd yops yA yB ycnt g n s))) : wpY_defined post (yorg, ystrip, nI n, yculp, ytend, yend, ymade, yrounds, yentry, ylinked, yran, ypc, ysteps, youts, yops, yA, yB, ycnt, yrole, ylist, yplace, ysym, yimg, ystay, ywide, ymem, yreg, yout) (nI s) :=
  ⟨n + 1, ly_ydd4 (hW := hW) (hF := hF) (hL := hL) (H := H) n 0 (by omega)⟩
theorem ly_yli4 {post : Int32 → Prop} {yorg ystrip yculp ytend yend ymade yrounds yentry ylinked yran ypc ysteps youts : Int32} {yops yA yB ycnt yrole ylist yplace ysym yimg ystay ywide ymem yreg yout : Nat → Int32} {g : Nat → Nat} {n : Nat} (hn : n ≤ 6) (hg : ∀ i, i < n → g i < 6 ∧ ylist i = nI (g i)) {m : Nat} (hm : m < 6) (H : post (ly_bi (ly_li g n m))) : ∀ (d i : Nat), i + d = n → wY_listedNow_4 post (nI m) yorg ystrip (nI n) yculp ytend yend ymade yrounds yentry ylinked yran ypc ysteps youts yops yA yB ycnt yrole ylist yplace ysym yimg ystay ywide ymem yreg yout (d + 1) (ly_bi (ly_li g i m)) (nI i) := by
  intro d
  induction d with
  | zero =>
    intro i hd
    have e : i = n := by omega
    subst e
    exact br_t (Int32.le_refl _) ⟨ly_narb (ly_bi01 _), H⟩
  | succ d ih =>
    intro i hd
    obtain ⟨g1, g2⟩ := hg i (by omega)
    refine br_f (nI_ge (by omega) (by omega)) ⟨vp_in_nI (by omega) (by omega), ?_⟩
    rw [ly_cl (i := i) (by omega), g2]
    have es : ly_li g (i + 1) m = (ly_li g i m || decide (g i = m)) := by
      show (_ || decide (g (0 + i) = m)) = _
      rw [Nat.zero_add]; rfl
    by_cases h : g i = m
    · refine br_t (by rw [h]) (nm_r (e' := ly_bi (ly_li g (i + 1) m)) ?_ (nm_r (nI_1 i) (ih (i + 1) (by omega))))
      rw [es, decide_eq_true h]; exact ly_bi_or _ true
    · refine br_f (fun z => h (ly_inj (by omega) (by omega) z)) (nm_r (e' := ly_bi (ly_li g (i + 1) m)) ?_ (nm_r (nI_1 i) (ih (i + 1) (by omega))))
      rw [es, decide_eq_false h]; exact ly_bi_or _ false
theorem ly_yli {post : Int32 → Prop} {yorg ystrip yculp ytend yend ymade yrounds yentry ylinked yran ypc ysteps youts : Int32} {yops yA yB ycnt yrole ylist yplace ysym yimg ystay ywide ymem yreg yout : Nat → Int32} {g : Nat → Nat} {n : Nat} (hn : n ≤ 6) (hg : ∀ i, i < n → g i < 6 ∧ ylist i = nI (g i)) {m : Nat} (hm : m < 6) (H : post (ly_bi (ly_li g n m))) : wpY_listedNow post (yorg, ystrip, nI n, yculp, ytend, yend, ymade, yrounds, yentry, ylinked, yran, ypc, ysteps, youts, yops, yA, yB, ycnt, yrole, ylist, yplace, ysym, yimg, ystay, ywide, ymem, yreg, yout) (nI m) :=
  ⟨n + 1, ly_yli4 (hn := hn) (hg := hg) (hm := hm) (H := H) n 0 (by omega)⟩
end
section
/-! Y: fetched, chosen, target, sections, units -/
theorem ly_fl_s {o a b cnt : Nat → Int32} {g : Nat → Nat} {s t : Int32} {i : Nat} : ly_fl o a b cnt g s t (i + 1) = if ly_fl o a b cnt g s t i = -1 then ly_xl o a b cnt (g i) s t else ly_fl o a b cnt g s t i := rfl
theorem ly_fl_c {o a b cnt : Nat → Int32} {g : Nat → Nat} {s t : Int32} : ∀ n, ly_fl o a b cnt g s t n = -1 ∨ ∃ j k, j < n ∧ 24 * g j ≤ k ∧ k < 24 * g j + ly_c cnt (g j) ∧ o k = 0 ∧ a k = s ∧ b k = t ∧ ly_fl o a b cnt g s t n = nI k := by
  intro n
  induction n with
  | zero => exact Or.inl rfl
  | succ n ih =>
    rw [ly_fl_s]
    rcases ih with e | ⟨j, k, h1, h2, h3, h4, h5, h6, e⟩
    · rw [if_pos e]
      rcases ly_fd_c (ly_l3 o a b s t) (ly_c cnt (g n)) (24 * g n) with ⟨e2, _⟩ | ⟨k, k1, k2, k3, _, e2⟩
      · exact Or.inl e2
      · obtain ⟨p1, p2, p3⟩ := of_decide_eq_true k3
        exact Or.inr ⟨n, k, by omega, k1, k2, p1, p2, p3, e2⟩
    · by_cases hz : ly_fl o a b cnt g s t n = -1
      · rw [if_pos hz]
        rcases ly_fd_c (ly_l3 o a b s t) (ly_c cnt (g n)) (24 * g n) with ⟨e2, _⟩ | ⟨k, k1, k2, k3, _, e2⟩
        · exact Or.inl e2
        · obtain ⟨p1, p2, p3⟩ := of_decide_eq_true k3
          exact Or.inr ⟨n, k, by omega, k1, k2, p1, p2, p3, e2⟩
      · rw [if_neg hz]
        exact Or.inr ⟨j, k, by omega, h2, h3, h4, h5, h6, e⟩
def ly_cy (o a b cnt : Nat → Int32) (g : Nat → Nat) (n : Nat) (s : Int32) : Int32 := if ly_sv o a b cnt g s n = true then -2 else ly_co o a b cnt g n s
theorem ly_ych7 {post : Int32 → Prop} {yorg ystrip yculp ytend yend ymade yrounds yentry ylinked yran ypc ysteps youts : Int32} {yops yA yB ycnt yrole ylist yplace ysym yimg ystay ywide ymem yreg yout : Nat → Int32} (hW : ly_W ycnt) (hF : ly_F yops yA yB) {g : Nat → Nat} {n : Nat} (hL : ly_LS yops yA ycnt ylist g n) (s : Int32) (H : post (ly_cy yops yA yB ycnt g n s)) : ∀ (d i : Nat), i + d = n → wY_chosen_7 post s yorg ystrip (nI n) yculp ytend yend ymade yrounds yentry ylinked yran ypc ysteps youts yops yA yB ycnt yrole ylist yplace ysym yimg ystay ywide ymem yreg yout (d + 1) (if ly_sv yops yA yB ycnt g s i = true then -2 else ly_fl yops yA yB ycnt g s 1 i) (ly_fl yops yA yB ycnt g s 2 i) (nI i) := by
  obtain ⟨hn, hg⟩ := hL
  intro d
  induction d with
  | zero =>
    intro i hd
    have e : i = n := by omega
    subst e
    refine br_t (Int32.le_refl _) ?_
    unfold ly_cy ly_co at H
    cases hs : ly_sv yops yA yB ycnt g s i with
    | true =>
      rw [hs, if_pos rfl] at H
      exact br_f (by rw [if_pos rfl]; decide) H
    | false =>
      rw [hs, if_neg (by decide)] at H
      by_cases h1 : ly_fl yops yA yB ycnt g s 1 i = -1
      · rw [if_pos h1] at H; exact br_t h1 H
      · rw [if_neg h1] at H; exact br_f h1 H
  | succ d ih =>
    intro i hd
    obtain ⟨g1, g2, g3⟩ := hg i (by omega)
    have hc := (hW _ g1).1
    refine br_f (nI_ge (by omega) (by omega)) ⟨vp_in_nI (by omega) (by omega), ?_⟩
    rw [ly_cl (i := i) (by omega), g2]
    refine ly_ylab (hW := hW) (hm := g1) (s := s) (H := ?_)
    have IH := ih (i + 1) (by omega)
    have eS : ly_sv yops yA yB ycnt g s (i + 1) = (ly_sv yops yA yB ycnt g s i || (decide (¬ ly_fl yops yA yB ycnt g s 1 i = -1) && decide (¬ ly_xl yops yA yB ycnt (g i) s 1 = -1))) := by
      show (_ || (_ && _)) = _
      rw [ly_on_fl hW i (fun j hj => (hg j (by omega)).1), ly_e3_xl g1 hc]
    -- no label that counts
    have same : ly_xl yops yA yB ycnt (g i) s 1 = -1 → ly_xl yops yA yB ycnt (g i) s 2 = -1 → wY_chosen_7 post s yorg ystrip (nI n) yculp ytend yend ymade yrounds yentry ylinked yran ypc ysteps youts yops yA yB ycnt yrole ylist yplace ysym yimg ystay ywide ymem yreg yout (d + 1) (if ly_sv yops yA yB ycnt g s i = true then -2 else ly_fl yops yA yB ycnt g s 1 i) (ly_fl yops yA yB ycnt g s 2 i) (nI (i + 1)) := by
      intro x1 x2
      rw [ly_fl_s (t := 1), ly_fl_s (t := 2), eS, x1, x2, decide_eq_false (p := ¬ (-1 : Int32) = -1) (fun z => z rfl), Bool.and_false, Bool.or_false] at IH
      have f1 : (if ly_fl yops yA yB ycnt g s 1 i = -1 then -1 else ly_fl yops yA yB ycnt g s 1 i) = ly_fl yops yA yB ycnt g s 1 i := by
        by_cases z : ly_fl yops yA yB ycnt g s 1 i = -1
        · rw [if_pos z, z]
        · rw [if_neg z]
      have f2 : (if ly_fl yops yA yB ycnt g s 2 i = -1 then -1 else ly_fl yops yA yB ycnt g s 2 i) = ly_fl yops yA yB ycnt g s 2 i := by
        by_cases z : ly_fl yops yA yB ycnt g s 2 i = -1
        · rw [if_pos z, z]
        · rw [if_neg z]
      rw [f1, f2] at IH
      exact IH
    rcases ly_xl_yl (b := yB) g3 g1 hc s with ⟨e, h⟩ | ⟨k, k1, k2, k3, k4, e, h⟩
    · rw [e]
      exact br_t (by decide) (nm_r (nI_1 i) (same (h 1) (h 2)))
    · rw [e]
      have hk : k < 144 := by omega
      have vk : vp_in (nI k) 144 := vp_in_nI hk (by omega)
      refine br_f (nI_pos (by omega)) ⟨vk, ?_⟩
      rw [ly_cl (i := k) (by omega)]
      rcases ly_ft_b (hF k hk) k3 with hb | hb | hb
      · exact br_t hb (nm_r (nI_1 i) (same (by rw [h 1, hb]; exact if_neg (by decide)) (by rw [h 2, hb]; exact if_neg (by decide))))
      · have x1 : ly_xl yops yA yB ycnt (g i) s 1 = nI k := by rw [h 1, if_pos hb]
        have x2 : ly_xl yops yA yB ycnt (g i) s 2 = -1 := by rw [h 2, hb]; exact if_neg (by decide)
        refine br_f (by rw [hb]; decide) ⟨vk, br_t hb ?_⟩
        have f2 : ly_fl yops yA yB ycnt g s 2 (i + 1) = ly_fl yops yA yB ycnt g s 2 i := by
          rw [ly_fl_s, x2]
          by_cases z : ly_fl yops yA yB ycnt g s 2 i = -1
          · rw [if_pos z, z]
          · rw [if_neg z]
        rw [f2, eS, x1, decide_eq_true (p := ¬ nI k = -1) (ly_m1 (by omega)), Bool.and_true, ly_fl_s, x1] at IH
        cases hs : ly_sv yops yA yB ycnt g s i with
        | true =>
          rw [hs, Bool.true_or, if_pos rfl] at IH
          exact br_f (by rw [if_pos rfl]; decide) (nm_r (nI_1 i) IH)
        | false =>
          rw [hs, Bool.false_or] at IH
          by_cases z : ly_fl yops yA yB ycnt g s 1 i = -1
          · rw [decide_eq_false (fun w => w z), if_neg (by decide), if_pos z] at IH
            exact br_t z (nm_r (nI_1 i) IH)
          · rw [decide_eq_true z, if_pos rfl] at IH
            exact br_f z (nm_r (nI_1 i) IH)
      · have x1 : ly_xl yops yA yB ycnt (g i) s 1 = -1 := by rw [h 1, hb]; exact if_neg (by decide)
        have x2 : ly_xl yops yA yB ycnt (g i) s 2 = nI k := by rw [h 2, if_pos hb]
        refine br_f (by rw [hb]; decide) ⟨vk, br_f (by rw [hb]; decide) ?_⟩
        have f1 : ly_fl yops yA yB ycnt g s 1 (i + 1) = ly_fl yops yA yB ycnt g s 1 i := by
          rw [ly_fl_s, x1]
          by_cases z : ly_fl yops yA yB ycnt g s 1 i = -1
          · rw [if_pos z, z]
          · rw [if_neg z]
        rw [f1, eS, x1, decide_eq_false (p := ¬ (-1 : Int32) = -1) (fun z => z rfl), Bool.and_false, Bool.or_false, ly_fl_s, x2] at IH
        rcases ly_fl_c (o := yops) (a := yA) (b := yB) (cnt := ycnt) (g := g) (s := s) (t := 2) i with z | ⟨j, q, q0, q1, q2, _, _, _, z⟩
        · rw [if_pos z] at IH
          exact br_f (by rw [z]; decide) (nm_r (nI_1 i) IH)
        · have := (hg j (by omega)).1
          have := (hW _ this).1
          rw [z, if_neg (ly_m1 (by omega))] at IH
          rw [z]
          exact br_t (nI_pos' (by omega)) (nm_r (nI_1 i) IH)
theorem ly_ych {post : Int32 → Prop} {yorg ystrip yculp ytend yend ymade yrounds yentry ylinked yran ypc ysteps youts : Int32} {yops yA yB ycnt yrole ylist yplace ysym yimg ystay ywide ymem yreg yout : Nat → Int32} (hW : ly_W ycnt) (hF : ly_F yops yA yB) {g : Nat → Nat} {n : Nat} (hL : ly_LS yops yA ycnt ylist g n) (s : Int32) (H : post (ly_cy yops yA yB ycnt g n s)) : wpY_chosen post (yorg, ystrip, nI n, yculp, ytend, yend, ymade, yrounds, yentry, ylinked, yran, ypc, ysteps, youts, yops, yA, yB, ycnt, yrole, ylist, yplace, ysym, yimg, ystay, ywide, ymem, yreg, yout) s :=
  ⟨n + 1, ly_ych7 (hW := hW) (hF := hF) (hL := hL) (s := s) (H := H) n 0 (by omega)⟩
def ly_tg (o a b cnt : Nat → Int32) (g : Nat → Nat) (n i : Nat) : Int32 := if ly_xl o a b cnt (i / 24) (ly_sy (o i) (a i) (b i)) 0 = -1 then ly_co o a b cnt g n (ly_sy (o i) (a i) (b i)) else ly_xl o a b cnt (i / 24) (ly_sy (o i) (a i) (b i)) 0
theorem ly_ydiv {i : Nat} (hi : i < 144) : nI i / 24 = nI (i / 24) := pk_div (d := 24) (by omega) (by omega) (by omega)
theorem ly_ytg {post : Int32 → Prop} {yorg ystrip yculp ytend yend ymade yrounds yentry ylinked yran ypc ysteps youts : Int32} {yops yA yB ycnt yrole ylist yplace ysym yimg ystay ywide ymem yreg yout : Nat → Int32} (hW : ly_W ycnt) (hF : ly_F yops yA yB) {g : Nat → Nat} {n : Nat} (hL : ly_LS yops yA ycnt ylist g n) {i : Nat} (hi : i < 144) (hf : ly_fy yops yA ycnt (i / 24) = false) (hs : ly_sv yops yA yB ycnt g (ly_sy (yops i) (yA i) (yB i)) n = false) (H : post (ly_tg yops yA yB ycnt g n i)) : wpY_target post (yorg, ystrip, nI n, yculp, ytend, yend, ymade, yrounds, yentry, ylinked, yran, ypc, ysteps, youts, yops, yA, yB, ycnt, yrole, ylist, yplace, ysym, yimg, ystay, ywide, ymem, yreg, yout) (nI i) := by
  unfold wpY_target
  dsimp only
  refine ly_ysymOf (hi := hi) (H := ⟨by decide, ?_⟩)
  rw [ly_ydiv hi]
  have hm : i / 24 < 6 := by omega
  have hc := (hW _ hm).1
  refine ly_ylab (hW := hW) (hm := hm) (s := _) (H := ?_)
  unfold ly_tg at H
  have go : ly_xl yops yA yB ycnt (i / 24) (ly_sy (yops i) (yA i) (yB i)) 0 = -1 → wpY_chosen post (yorg, ystrip, nI n, yculp, ytend, yend, ymade, yrounds, yentry, ylinked, yran, ypc, ysteps, youts, yops, yA, yB, ycnt, yrole, ylist, yplace, ysym, yimg, ystay, ywide, ymem, yreg, yout) (ly_sy (yops i) (yA i) (yB i)) := by
    intro e
    rw [if_pos e] at H
    refine ly_ych (hW := hW) (hF := hF) (hL := hL) (s := _) (H := ?_)
    unfold ly_cy
    rw [hs, if_neg (by decide)]
    exact H
  rcases ly_xl_yl (b := yB) hf hm hc (ly_sy (yops i) (yA i) (yB i)) with ⟨e, h⟩ | ⟨k, k1, k2, k3, k4, e, h⟩
  · rw [e]
    exact ly_ylo0 (H := br_t rfl (go (h 0)))
  · rw [e]
    refine ly_ylo1 (hk := by omega) (H := ?_)
    by_cases hb : yB k = 0
    · rw [if_pos hb]
      rw [h 0, if_pos hb, if_neg (ly_m1 (by omega))] at H
      exact br_f (by decide) H
    · rw [if_neg hb]
      exact br_t rfl (go (by rw [h 0, if_neg hb]))
theorem ly_yse10 {post : Int32 → Prop} {yorg ystrip ymany yculp ytend yend ymade yrounds yentry ylinked yran ypc ysteps youts : Int32} {yops yA yB ycnt yrole ylist yplace ysym yimg ystay ywide ymem yreg yout : Nat → Int32} (hF : ly_F yops yA yB) {m j : Nat} (hm : m < 6) (hj : j < 24) (H : post (nI (ly_sn yops yA m (j + 1)))) : ∀ (d q : Nat), q + d = j + 1 → wY_sectionOf_10 post (nI (24 * m + j)) yorg ystrip ymany yculp ytend yend ymade yrounds yentry ylinked yran ypc ysteps youts yops yA yB ycnt yrole ylist yplace ysym yimg ystay ywide ymem yreg yout (d + 1) (nI (ly_sn yops yA m q)) (nI (24 * m + q)) := by
  intro d
  induction d with
  | zero =>
    intro q hd
    have e : q = j + 1 := by omega
    subst e
    exact br_t (nI_lt (by omega) (by omega)) H
  | succ d ih =>
    intro q hd
    have ek : (nI (24 * m + q)).toNatClampNeg = 24 * m + q := ly_cl (by omega)
    have vk : vp_in (nI (24 * m + q)) 144 := vp_in_nI (by omega) (by omega)
    refine br_f (nI_nlt (by omega) (by omega)) ⟨vk, ?_⟩
    rw [ek]
    by_cases h19 : yops (24 * m + q) = 19
    · obtain ⟨f, hf, ef⟩ := ly_ft_19 (hF _ (by omega)) h19
      refine br_t h19 ⟨vk, nm_r (e' := nI (ly_sn yops yA m (q + 1))) ?_ (nm_r (nI_1 _) (ih (q + 1) (by omega)))⟩
      show _ = nI (if yops (24 * m + q) = 19 then (yA (24 * m + q)).toNatClampNeg else ly_sn yops yA m q)
      rw [if_pos h19, ef, nI_clamp (by omega)]
    · have e : ly_sn yops yA m q = ly_sn yops yA m (q + 1) := (if_neg h19).symm
      rw [e]
      exact br_f h19 (nm_r (nI_1 _) (ih (q + 1) (by omega)))
theorem ly_yse {post : Int32 → Prop} {yorg ystrip ymany yculp ytend yend ymade yrounds yentry ylinked yran ypc ysteps youts : Int32} {yops yA yB ycnt yrole ylist yplace ysym yimg ystay ywide ymem yreg yout : Nat → Int32} (hF : ly_F yops yA yB) {m j : Nat} (hm : m < 6) (hj : j < 24) (H : post (nI (ly_sn yops yA m (j + 1)))) : wpY_sectionOf post (yorg, ystrip, ymany, yculp, ytend, yend, ymade, yrounds, yentry, ylinked, yran, ypc, ysteps, youts, yops, yA, yB, ycnt, yrole, ylist, yplace, ysym, yimg, ystay, ywide, ymem, yreg, yout) (nI (24 * m + j)) := by
  refine ⟨by decide, nm_r (e' := nI (24 * m + 0)) ?_ ⟨j + 1 + 1, ly_yse10 (hF := hF) (hm := hm) (hj := hj) (H := H) (j + 1) 0 (by omega)⟩⟩
  rw [ly_ydiv (by omega), show (24 * m + j) / 24 = m by omega, Int32.mul_comm, ly_idy]
  rfl
theorem ly_yun {post : Int32 → Prop} {yorg ystrip ymany yculp ytend yend ymade yrounds yentry ylinked yran ypc ysteps youts : Int32} {yops yA yB ycnt yrole ylist yplace ysym yimg ystay ywide ymem yreg yout : Nat → Int32} (hF : ly_F yops yA yB) {i : Nat} (hi : i < 144) (H : post (nI (ly_un yops yA i))) : wpY_unitOf post (yorg, ystrip, ymany, yculp, ytend, yend, ymade, yrounds, yentry, ylinked, yran, ypc, ysteps, youts, yops, yA, yB, ycnt, yrole, ylist, yplace, ysym, yimg, ystay, ywide, ymem, yreg, yout) (nI i) := by
  refine ⟨by decide, ?_⟩
  have e : i = 24 * (i / 24) + i % 24 := by omega
  have h := ly_yse (post := fun r_2 => post (2 * (nI i / 24) + r_2)) (yorg := yorg) (ystrip := ystrip) (ymany := ymany) (yculp := yculp) (ytend := ytend) (yend := yend) (ymade := ymade) (yrounds := yrounds) (yentry := yentry) (ylinked := ylinked) (yran := yran) (ypc := ypc) (ysteps := ysteps) (youts := youts) (yops := yops) (yA := yA) (yB := yB) (ycnt := ycnt) (yrole := yrole) (ylist := ylist) (yplace := yplace) (ysym := ysym) (yimg := yimg) (ystay := ystay) (ywide := ywide) (ymem := ymem) (yreg := yreg) (yout := yout) (hF := hF) (m := i / 24) (j := i % 24) (hm := by omega) (hj := by omega) (H := by
    show post (2 * (nI i / 24) + nI (ly_sn yops yA (i / 24) (i % 24 + 1)))
    rw [ly_ydiv hi, Int32.mul_comm, ly_idx2]
    exact H)
  rw [← e] at h
  exact h
/-! the archive -/
theorem ly_dd_li {o a b cnt : Nat → Int32} {g : Nat → Nat} {n s m : Nat} (h : ly_dd o a b cnt g n s = false) (hl : ly_li g n m = true) : ly_df o a b cnt m (nI s) = false := by
  obtain ⟨i, _, i2, i3⟩ := ly_ex_iff.mp hl
  have e := of_decide_eq_true i3
  have := ly_ex_f.mp h i (by omega) i2
  rw [← e]; exact this
theorem ly_yf29 {post : Int32 → Prop} {J : Int32 → Prop} {yorg ystrip yculp ytend yend ymade yrounds yentry ylinked yran ypc ysteps youts : Int32} {yops yA yB ycnt yrole ylist yplace ysym yimg ystay ywide ymem yreg yout : Nat → Int32} (hW : ly_W ycnt) (hF : ly_F yops yA yB) {g : Nat → Nat} {n : Nat} (hL : ly_LS yops yA ycnt ylist g n) {s : Nat} (hs : ly_dd yops yA yB ycnt g n s = false) : ∀ (d m : Nat), m + d = 6 → (¬ ly_fd (fun m => decide (yrole m = 2) && ly_df yops yA yB ycnt m (nI s)) d m = -1 → post (ly_fd (fun m => decide (yrole m = 2) && ly_df yops yA yB ycnt m (nI s)) d m)) → (ly_fd (fun m => decide (yrole m = 2) && ly_df yops yA yB ycnt m (nI s)) d m = -1 → J (nI (s + 1))) → wY_fetched_29 post J (nI s) yorg ystrip (nI n) yculp ytend yend ymade yrounds yentry ylinked yran ypc ysteps youts yops yA yB ycnt yrole ylist yplace ysym yimg ystay ywide ymem yreg yout (d + 1) (nI m) := by
  intro d
  induction d with
  | zero =>
    intro m hd H1 H2
    have e : m = 6 := by omega
    subst e
    exact br_t (by decide) (nm_r (nI_1 s) (H2 rfl))
  | succ d ih =>
    intro m hd H1 H2
    have ek : (nI m).toNatClampNeg = m := ly_cl (by omega)
    have next : (decide (yrole m = 2) && ly_df yops yA yB ycnt m (nI s)) = false → wY_fetched_29 post J (nI s) yorg ystrip (nI n) yculp ytend yend ymade yrounds yentry ylinked yran ypc ysteps youts yops yA yB ycnt yrole ylist yplace ysym yimg ystay ywide ymem yreg yout (d + 1) (nI (m + 1)) := by
      intro hf
      have e : ly_fd (fun m => decide (yrole m = 2) && ly_df yops yA yB ycnt m (nI s)) (d + 1) m = ly_fd (fun m => decide (yrole m = 2) && ly_df yops yA yB ycnt m (nI s)) d (m + 1) := if_neg (by dsimp only; rw [hf]; decide)
      rw [e] at H1 H2
      exact ih (m + 1) (by omega) H1 H2
    refine br_f (nI_ge (b := 6) (by omega) (by omega)) ⟨vp_in_nI (by omega) (by omega), ?_⟩
    rw [ek]
    by_cases h2 : yrole m = 2
    · refine br_t h2 (ly_yli (hn := hL.1) (hg := fun i hi => ⟨(hL.2 i hi).1, (hL.2 i hi).2.1⟩) (hm := by omega) (H := ?_))
      cases hl : ly_li g n m with
      | true => exact br_f (by decide) (nm_r (nI_1 m) (next (by rw [ly_dd_li hs hl, Bool.and_false])))
      | false =>
        refine br_t rfl (ly_yde (hW := hW) (hF := hF) (hm := by omega) (s := nI s) (H := ?_))
        cases hdf : ly_df yops yA yB ycnt m (nI s) with
        | false => exact br_t rfl (nm_r (nI_1 m) (next (by rw [hdf, Bool.and_false])))
        | true =>
          have e : ly_fd (fun m => decide (yrole m = 2) && ly_df yops yA yB ycnt m (nI s)) (d + 1) m = nI m := if_pos (by dsimp only; rw [hdf, decide_eq_true h2]; rfl)
          rw [e] at H1
          exact br_f (by decide) (H1 (ly_m1 (by omega)))
    · exact br_f h2 (nm_r (nI_1 m) (next (by rw [decide_eq_false h2, Bool.false_and])))
theorem ly_yfe2 {post : Int32 → Prop} {yorg ystrip yculp ytend yend ymade yrounds yentry ylinked yran ypc ysteps youts : Int32} {yops yA yB ycnt yrole ylist yplace ysym yimg ystay ywide ymem yreg yout : Nat → Int32} (hW : ly_W ycnt) (hF : ly_F yops yA yB) {g : Nat → Nat} {n : Nat} (hL : ly_LS yops yA ycnt ylist g n) : ∀ (d s : Nat), s + d = 16 → post (ly_nx (ly_ms yops yA yB ycnt g n) (ly_ia yops yA yB ycnt yrole) d s) → wY_fetched_2 post yorg ystrip (nI n) yculp ytend yend ymade yrounds yentry ylinked yran ypc ysteps youts yops yA yB ycnt yrole ylist yplace ysym yimg ystay ywide ymem yreg yout (d + 1) (nI s) := by
  intro d
  induction d with
  | zero =>
    intro s hd H
    have e : s = 16 := by omega
    subst e
    exact br_t (by decide) H
  | succ d ih =>
    intro s hd H
    have next : ¬ (ly_ms yops yA yB ycnt g n s = true ∧ ¬ ly_ia yops yA yB ycnt yrole s = -1) → wY_fetched_2 post yorg ystrip (nI n) yculp ytend yend ymade yrounds yentry ylinked yran ypc ysteps youts yops yA yB ycnt yrole ylist yplace ysym yimg ystay ywide ymem yreg yout (d + 1) (nI (s + 1)) := by
      intro hf
      rw [show ly_nx (ly_ms yops yA yB ycnt g n) (ly_ia yops yA yB ycnt yrole) (d + 1) s = ly_nx (ly_ms yops yA yB ycnt g n) (ly_ia yops yA yB ycnt yrole) d (s + 1) from if_neg hf] at H
      exact ih (s + 1) (by omega) H
    refine br_f (nI_ge (b := 16) (by omega) (by omega)) (ly_ywt (hW := hW) (hF := hF) (hL := hL) (hs := by omega) (H := ?_))
    cases hw : ly_wt yops yA yB ycnt g n s with
    | false => exact br_t rfl (nm_r (nI_1 s) (next (fun z => by have := z.1; unfold ly_ms at this; rw [hw, Bool.false_and] at this; exact absurd this (by decide))))
    | true =>
      refine br_f (by decide) (ly_ydd (hW := hW) (hF := hF) (hL := hL) (H := ?_))
      cases hdd : ly_dd yops yA yB ycnt g n s with
      | true => exact br_f (by decide) (nm_r (nI_1 s) (next (fun z => by have := z.1; unfold ly_ms at this; rw [hw, hdd] at this; exact absurd this (by decide))))
      | false =>
        have hm : ly_ms yops yA yB ycnt g n s = true := by unfold ly_ms; rw [hw, hdd]; rfl
        refine br_t rfl ⟨7, ly_yf29 (hW := hW) (hF := hF) (hL := hL) (hs := hdd) 6 0 (by omega) (fun z => ?_) (fun z => next (fun w => w.2 z))⟩
        rw [show ly_nx (ly_ms yops yA yB ycnt g n) (ly_ia yops yA yB ycnt yrole) (d + 1) s = ly_ia yops yA yB ycnt yrole s from if_pos ⟨hm, z⟩] at H
        exact H
theorem ly_yfe {post : Int32 → Prop} {yorg ystrip yculp ytend yend ymade yrounds yentry ylinked yran ypc ysteps youts : Int32} {yops yA yB ycnt yrole ylist yplace ysym yimg ystay ywide ymem yreg yout : Nat → Int32} (hW : ly_W ycnt) (hF : ly_F yops yA yB) {g : Nat → Nat} {n : Nat} (hL : ly_LS yops yA ycnt ylist g n) (H : post (ly_na yops yA yB ycnt yrole g n)) : wpY_fetched post (yorg, ystrip, nI n, yculp, ytend, yend, ymade, yrounds, yentry, ylinked, yran, ypc, ysteps, youts, yops, yA, yB, ycnt, yrole, ylist, yplace, ysym, yimg, ystay, ywide, ymem, yreg, yout) :=
  ⟨17, ly_yfe2 (hW := hW) (hF := hF) (hL := hL) 16 0 (by omega) H⟩
end
section
/-! X: what it looks up -/
theorem ly_xw4 {post : Int32 → Prop} {xbase xstrip xtend xaend xlcnt xlrnd xlinked xblamed xouts xpc xsteps xran : Int32} {xops xA xB xcnt xrole xloc xglo xweak xuse xrep xunit xtgt xstay xlong xlist xchosen xplace ximg xreg xstore xout : Nat → Int32} (hV : ly_SV xops xA xB xcnt xloc xglo xweak xuse xrep xunit 6) {g : Nat → Nat} {n : Nat} (hL : ly_LS xops xA xcnt xlist g n) (H : ∀ w : Int32, (∀ s, s < 32 → bt w s = ly_wt xops xA xB xcnt g n s) → post w) : ∀ (d i : Nat) (w : Int32), i + d = n → (∀ s, s < 32 → bt w s = ly_wt xops xA xB xcnt g i s) → wX_wantedSymbols_4 post xbase xstrip (nI n) xtend xaend xlcnt xlrnd xlinked xblamed xouts xpc xsteps xran xops xA xB xcnt xrole xloc xglo xweak xuse xrep xunit xtgt xstay xlong xlist xchosen xplace ximg xreg xstore xout (d + 1) w (nI i) := by
  obtain ⟨hn, hg⟩ := hL
  intro d
  induction d with
  | zero =>
    intro i w hd hw
    have e : i = n := by omega
    subst e
    exact br_t (Int32.le_refl _) (H w hw)
  | succ d ih =>
    intro i w hd hw
    obtain ⟨g1, g2, g3⟩ := hg i (by omega)
    refine br_f (nI_ge (by omega) (by omega)) ⟨vp_in_nI (by omega) (by omega), ?_⟩
    rw [ly_cl (i := i) (by omega), g2]
    refine ⟨vp_in_nI g1 (by omega), ?_⟩
    rw [ly_cl (i := g i) (by omega)]
    refine nm_e (nm_r (nI_1 i) (ih (i + 1) _ (by omega) (fun s hs => ?_)))
    rw [b_or, hw s hs, ((hV _ g1).1 s hs).2.2.2]
    show _ = (decide (s = 0) || (ly_ex (fun i => ly_ak xops xA xB xcnt (g i) (nI s)) 0 i || ly_ak xops xA xB xcnt (g (0 + i)) (nI s)))
    unfold ly_wt
    rw [Nat.zero_add, Bool.or_assoc]
theorem ly_xw {post : Int32 → Prop} {xbase xstrip xtend xaend xlcnt xlrnd xlinked xblamed xouts xpc xsteps xran : Int32} {xops xA xB xcnt xrole xloc xglo xweak xuse xrep xunit xtgt xstay xlong xlist xchosen xplace ximg xreg xstore xout : Nat → Int32} (hV : ly_SV xops xA xB xcnt xloc xglo xweak xuse xrep xunit 6) {g : Nat → Nat} {n : Nat} (hL : ly_LS xops xA xcnt xlist g n) (H : ∀ w : Int32, (∀ s, s < 32 → bt w s = ly_wt xops xA xB xcnt g n s) → post w) : wpX_wantedSymbols post (xbase, xstrip, nI n, xtend, xaend, xlcnt, xlrnd, xlinked, xblamed, xouts, xpc, xsteps, xran, xops, xA, xB, xcnt, xrole, xloc, xglo, xweak, xuse, xrep, xunit, xtgt, xstay, xlong, xlist, xchosen, xplace, ximg, xreg, xstore, xout) :=
  ⟨n + 1, ly_xw4 (hV := hV) (hL := hL) (H := H) n 0 1 (by omega) (fun s hs => by rw [ly_b1 s hs]; unfold ly_wt; rw [show ly_ex (fun i => ly_ak xops xA xB xcnt (g i) (nI s)) 0 0 = false from rfl, Bool.or_false])⟩
theorem ly_xd4 {post : Int32 → Prop} {xbase xstrip xtend xaend xlcnt xlrnd xlinked xblamed xouts xpc xsteps xran : Int32} {xops xA xB xcnt xrole xloc xglo xweak xuse xrep xunit xtgt xstay xlong xlist xchosen xplace ximg xreg xstore xout : Nat → Int32} (hV : ly_SV xops xA xB xcnt xloc xglo xweak xuse xrep xunit 6) {g : Nat → Nat} {n : Nat} (hL : ly_LS xops xA xcnt xlist g n) (H : ∀ w : Int32, (∀ s, s < 32 → bt w s = ly_dd xops xA xB xcnt g n s) → post w) : ∀ (d i : Nat) (w : Int32), i + d = n → (∀ s, s < 32 → bt w s = ly_dd xops xA xB xcnt g i s) → wX_definedSymbols_4 post xbase xstrip (nI n) xtend xaend xlcnt xlrnd xlinked xblamed xouts xpc xsteps xran xops xA xB xcnt xrole xloc xglo xweak xuse xrep xunit xtgt xstay xlong xlist xchosen xplace ximg xreg xstore xout (d + 1) w (nI i) := by
  obtain ⟨hn, hg⟩ := hL
  intro d
  induction d with
  | zero =>
    intro i w hd hw
    have e : i = n := by omega
    subst e
    exact br_t (Int32.le_refl _) (H w hw)
  | succ d ih =>
    intro i w hd hw
    obtain ⟨g1, g2, g3⟩ := hg i (by omega)
    have vi : vp_in (nI i) 6 := vp_in_nI (by omega) (by omega)
    have vg : vp_in (nI (g i)) 6 := vp_in_nI g1 (by omega)
    refine br_f (nI_ge (by omega) (by omega)) ⟨vi, ?_⟩
    rw [ly_cl (i := i) (by omega), g2]
    refine ⟨vg, vi, vg, ?_⟩
    rw [ly_cl (i := g i) (by omega)]
    refine nm_e (nm_r (nI_1 i) (ih (i + 1) _ (by omega) (fun s hs => ?_)))
    rw [b_or, b_or, hw s hs, ((hV _ g1).1 s hs).2.1, ((hV _ g1).1 s hs).2.2.1]
    show _ = (ly_ex (fun i => ly_df xops xA xB xcnt (g i) (nI s)) 0 i || ly_df xops xA xB xcnt (g (0 + i)) (nI s))
    rw [Nat.zero_add]; rfl
theorem ly_xd {post : Int32 → Prop} {xbase xstrip xtend xaend xlcnt xlrnd xlinked xblamed xouts xpc xsteps xran : Int32} {xops xA xB xcnt xrole xloc xglo xweak xuse xrep xunit xtgt xstay xlong xlist xchosen xplace ximg xreg xstore xout : Nat → Int32} (hV : ly_SV xops xA xB xcnt xloc xglo xweak xuse xrep xunit 6) {g : Nat → Nat} {n : Nat} (hL : ly_LS xops xA xcnt xlist g n) (H : ∀ w : Int32, (∀ s, s < 32 → bt w s = ly_dd xops xA xB xcnt g n s) → post w) : wpX_definedSymbols post (xbase, xstrip, nI n, xtend, xaend, xlcnt, xlrnd, xlinked, xblamed, xouts, xpc, xsteps, xran, xops, xA, xB, xcnt, xrole, xloc, xglo, xweak, xuse, xrep, xunit, xtgt, xstay, xlong, xlist, xchosen, xplace, ximg, xreg, xstore, xout) :=
  ⟨n + 1, ly_xd4 (hV := hV) (hL := hL) (H := H) n 0 0 (by omega) (fun s hs => b_0 s)⟩
theorem ly_xs6 {post : Int32 → Prop} {xbase xstrip xtend xaend xlcnt xlrnd xlinked xblamed xouts xpc xsteps xran : Int32} {xops xA xB xcnt xrole xloc xglo xweak xuse xrep xunit xtgt xstay xlong xlist xchosen xplace ximg xreg xstore xout : Nat → Int32} (hV : ly_SV xops xA xB xcnt xloc xglo xweak xuse xrep xunit 6) {g : Nat → Nat} {n : Nat} (hL : ly_LS xops xA xcnt xlist g n) (H : ∀ w : Int32, (∀ s, s < 32 → bt w s = ly_sv xops xA xB xcnt g (nI s) n) → post w) : ∀ (d i : Nat) (v w : Int32), i + d = n → (∀ s, s < 32 → bt v s = ly_on xops xA xB xcnt g (nI s) i) → (∀ s, s < 32 → bt w s = ly_sv xops xA xB xcnt g (nI s) i) → wX_severalTimesGlobal_6 post xbase xstrip (nI n) xtend xaend xlcnt xlrnd xlinked xblamed xouts xpc xsteps xran xops xA xB xcnt xrole xloc xglo xweak xuse xrep xunit xtgt xstay xlong xlist xchosen xplace ximg xreg xstore xout (d + 1) v w (nI i) := by
  obtain ⟨hn, hg⟩ := hL
  intro d
  induction d with
  | zero =>
    intro i v w hd hv hw
    have e : i = n := by omega
    subst e
    exact br_t (Int32.le_refl _) (H w hw)
  | succ d ih =>
    intro i v w hd hv hw
    obtain ⟨g1, g2, g3⟩ := hg i (by omega)
    have vi : vp_in (nI i) 6 := vp_in_nI (by omega) (by omega)
    have vg : vp_in (nI (g i)) 6 := vp_in_nI g1 (by omega)
    refine br_f (nI_ge (by omega) (by omega)) ⟨vi, ?_⟩
    rw [ly_cl (i := i) (by omega), g2]
    refine ⟨vg, ?_⟩
    rw [ly_cl (i := g i) (by omega)]
    refine nm_e ⟨vi, vg, nm_e (nm_r (nI_1 i) (ih (i + 1) _ _ (by omega) (fun s hs => ?_) (fun s hs => ?_)))⟩
    · rw [b_or, hv s hs, ((hV _ g1).1 s hs).2.1]; rfl
    · rw [b_or, b_and, hv s hs, hw s hs, ((hV _ g1).1 s hs).2.1]; rfl
theorem ly_xs {post : Int32 → Prop} {xbase xstrip xtend xaend xlcnt xlrnd xlinked xblamed xouts xpc xsteps xran : Int32} {xops xA xB xcnt xrole xloc xglo xweak xuse xrep xunit xtgt xstay xlong xlist xchosen xplace ximg xreg xstore xout : Nat → Int32} (hV : ly_SV xops xA xB xcnt xloc xglo xweak xuse xrep xunit 6) {g : Nat → Nat} {n : Nat} (hL : ly_LS xops xA xcnt xlist g n) (H : ∀ w : Int32, (∀ s, s < 32 → bt w s = ly_sv xops xA xB xcnt g (nI s) n) → post w) : wpX_severalTimesGlobal post (xbase, xstrip, nI n, xtend, xaend, xlcnt, xlrnd, xlinked, xblamed, xouts, xpc, xsteps, xran, xops, xA, xB, xcnt, xrole, xloc, xglo, xweak, xuse, xrep, xunit, xtgt, xstay, xlong, xlist, xchosen, xplace, ximg, xreg, xstore, xout) :=
  ⟨n + 1, ly_xs6 (hV := hV) (hL := hL) (H := H) n 0 0 0 (by omega) (fun s hs => b_0 s) (fun s hs => b_0 s)⟩
theorem ly_xl2 {post : Int32 → Prop} {w : Int32} {P : Nat → Bool} (hw : ∀ s, s < 32 → bt w s = P s) : ∀ (d s : Nat), s + d = 16 → post (ly_fd P d s) → wX_leastSymbol_2 post w (d + 1) (nI s) := by
  intro d
  induction d with
  | zero =>
    intro s hd H
    have e : s = 16 := by omega
    subst e
    exact br_t (by decide) H
  | succ d ih =>
    intro s hd H
    refine br_f (nI_ge (b := 16) (by omega) (by omega)) ?_
    cases hp : P s with
    | false =>
      rw [show ly_fd P (d + 1) s = ly_fd P d (s + 1) from if_neg (by rw [hp]; decide)] at H
      exact br_t ((ly_and0 (by omega)).mpr (by rw [hw s (by omega)]; exact hp)) (nm_r (nI_1 s) (ih (s + 1) (by omega) H))
    | true =>
      rw [show ly_fd P (d + 1) s = nI s from if_pos hp] at H
      exact br_f (fun z => by have := (ly_and0 (by omega)).mp z; rw [hw s (by omega), hp] at this; exact absurd this (by decide)) H
theorem ly_xleast {post : Int32 → Prop} {w : Int32} {P : Nat → Bool} (hw : ∀ s, s < 32 → bt w s = P s) (H : post (ly_fd P 16 0)) : wpX_leastSymbol post w := ⟨17, ly_xl2 hw 16 0 (by omega) H⟩
/-- a mask is 0: none -/
theorem ly_mask0 {w : Int32} {P : Nat → Bool} (hw : ∀ s, s < 32 → bt w s = P s) (h16 : ∀ s, 16 ≤ s → s < 32 → P s = false) : w = 0 ↔ ly_fd P 16 0 = -1 := by
  rcases ly_fd_c P 16 0 with ⟨e, h⟩ | ⟨j, _, j2, j3, _, e⟩
  · refine ⟨fun _ => e, fun _ => b_ext (fun i hi => ?_)⟩
    rw [hw i hi, b_0]
    by_cases z : i < 16
    · exact h i (by omega) (by omega)
    · exact h16 i (by omega) hi
  · refine ⟨fun z => ?_, fun z => ?_⟩
    · have := hw j (by omega)
      rw [z, b_0, j3] at this
      exact absurd this (by decide)
    · rw [e] at z; exact absurd z (ly_m1 (by omega))
theorem ly_x27 {post : Int32 → Prop} {J : Int32 → Prop} {xbase xstrip xllen xtend xaend xlcnt xlrnd xlinked xblamed xouts xpc xsteps xran : Int32} {xops xA xB xcnt xrole xloc xglo xweak xuse xrep xunit xtgt xstay xlong xlist xchosen xplace ximg xreg xstore xout : Nat → Int32} (hV : ly_SV xops xA xB xcnt xloc xglo xweak xuse xrep xunit 6) {w : Int32} {M : Nat → Bool} (hw : ∀ s, s < 32 → bt w s = M s) {s : Nat} (hs : s < 16) : ∀ (d m : Nat), m + d = 6 → (M s = true → ¬ ly_fd (fun m => decide (xrole m = 2) && ly_df xops xA xB xcnt m (nI s)) d m = -1 → post (ly_fd (fun m => decide (xrole m = 2) && ly_df xops xA xB xcnt m (nI s)) d m)) → (¬ (M s = true ∧ ¬ ly_fd (fun m => decide (xrole m = 2) && ly_df xops xA xB xcnt m (nI s)) d m = -1) → J (nI (s + 1))) → wX_nextFromArchive_27 post J w (nI s) ((1 : Int32) <<< (nI s &&& 31)) xbase xstrip xllen xtend xaend xlcnt xlrnd xlinked xblamed xouts xpc xsteps xran xops xA xB xcnt xrole xloc xglo xweak xuse xrep xunit xtgt xstay xlong xlist xchosen xplace ximg xreg xstore xout (d + 1) (nI m) := by
  intro d
  induction d with
  | zero =>
    intro m hd H1 H2
    have e : m = 6 := by omega
    subst e
    exact br_t (by decide) (nm_r (nI_1 s) (H2 (fun z => z.2 rfl)))
  | succ d ih =>
    intro m hd H1 H2
    have ek : (nI m).toNatClampNeg = m := ly_cl (by omega)
    have vm : vp_in (nI m) 6 := vp_in_nI (by omega) (by omega)
    refine br_f (nI_ge (b := 6) (by omega) (by omega)) ⟨vm, vm, nm_e ⟨vm, ?_⟩⟩
    rw [ek]
    have hbit : bt (w &&& (xglo m ||| xweak m)) s = (M s && ly_df xops xA xB xcnt m (nI s)) := by
      rw [b_and, b_or, hw s (by omega), ((hV m (by omega)).1 s (by omega)).2.1, ((hV m (by omega)).1 s (by omega)).2.2.1]; rfl
    have next : ¬ (M s = true ∧ (decide (xrole m = 2) && ly_df xops xA xB xcnt m (nI s)) = true) → wX_nextFromArchive_27 post J w (nI s) ((1 : Int32) <<< (nI s &&& 31)) xbase xstrip xllen xtend xaend xlcnt xlrnd xlinked xblamed xouts xpc xsteps xran xops xA xB xcnt xrole xloc xglo xweak xuse xrep xunit xtgt xstay xlong xlist xchosen xplace ximg xreg xstore xout (d + 1) (nI (m + 1)) := by
      intro hf
      refine ih (m + 1) (by omega) (fun z1 z2 => ?_) (fun z => H2 (fun y => z ⟨y.1, fun x => y.2 ?_⟩))
      · have e : ly_fd (fun m => decide (xrole m = 2) && ly_df xops xA xB xcnt m (nI s)) (d + 1) m = ly_fd (fun m => decide (xrole m = 2) && ly_df xops xA xB xcnt m (nI s)) d (m + 1) := if_neg (fun y => hf ⟨z1, y⟩)
        rw [e] at H1
        exact H1 z1 z2
      · have e : ly_fd (fun m => decide (xrole m = 2) && ly_df xops xA xB xcnt m (nI s)) (d + 1) m = ly_fd (fun m => decide (xrole m = 2) && ly_df xops xA xB xcnt m (nI s)) d (m + 1) := if_neg (fun q => hf ⟨y.1, q⟩)
        rw [e]; exact x
    by_cases h2 : xrole m = 2
    · refine br_t h2 ?_
      cases hb : (M s && ly_df xops xA xB xcnt m (nI s)) with
      | false =>
        refine br_t ((ly_and0 (by omega)).mpr (hbit.trans hb)) (nm_r (nI_1 m) (next (fun z => ?_)))
        have z2 := z.2
        rw [decide_eq_true h2, Bool.true_and] at z2
        rw [z.1, z2] at hb
        exact absurd hb (by decide)
      | true =>
        have hM : M s = true := by revert hb; cases M s <;> simp
        have hD : ly_df xops xA xB xcnt m (nI s) = true := by revert hb; cases ly_df xops xA xB xcnt m (nI s) <;> simp
        have e : ly_fd (fun m => decide (xrole m = 2) && ly_df xops xA xB xcnt m (nI s)) (d + 1) m = nI m := if_pos (by dsimp only; rw [hD, decide_eq_true h2]; rfl)
        rw [e] at H1
        exact br_f (fun z => by have := (ly_and0 (by omega)).mp z; rw [hbit, hb] at this; exact absurd this (by decide)) (H1 hM (ly_m1 (by omega)))
    · exact br_f h2 (nm_r (nI_1 m) (next (fun z => by have := z.2; rw [decide_eq_false h2, Bool.false_and] at this; exact absurd this (by decide))))
theorem ly_x14 {post : Int32 → Prop} {xbase xstrip xllen xtend xaend xlcnt xlrnd xlinked xblamed xouts xpc xsteps xran : Int32} {xops xA xB xcnt xrole xloc xglo xweak xuse xrep xunit xtgt xstay xlong xlist xchosen xplace ximg xreg xstore xout : Nat → Int32} (hV : ly_SV xops xA xB xcnt xloc xglo xweak xuse xrep xunit 6) {w : Int32} {M : Nat → Bool} (hw : ∀ s, s < 32 → bt w s = M s) : ∀ (d s : Nat), s + d = 16 → post (ly_nx M (ly_ia xops xA xB xcnt xrole) d s) → wX_nextFromArchive_14 post w xbase xstrip xllen xtend xaend xlcnt xlrnd xlinked xblamed xouts xpc xsteps xran xops xA xB xcnt xrole xloc xglo xweak xuse xrep xunit xtgt xstay xlong xlist xchosen xplace ximg xreg xstore xout (d + 1) (nI s) := by
  intro d
  induction d with
  | zero =>
    intro s hd H
    have e : s = 16 := by omega
    subst e
    exact br_t (by decide) H
  | succ d ih =>
    intro s hd H
    refine br_f (nI_ge (b := 16) (by omega) (by omega)) (nm_e ⟨7, ly_x27 (hV := hV) (hw := hw) (hs := by omega) 6 0 (by omega) (fun z1 z2 => ?_) (fun z => ih (s + 1) (by omega) ?_)⟩)
    · rw [show ly_nx M (ly_ia xops xA xB xcnt xrole) (d + 1) s = ly_ia xops xA xB xcnt xrole s from if_pos ⟨z1, z2⟩] at H
      exact H
    · rw [show ly_nx M (ly_ia xops xA xB xcnt xrole) (d + 1) s = ly_nx M (ly_ia xops xA xB xcnt xrole) d (s + 1) from if_neg z] at H
      exact H
theorem ly_xna {post : Int32 → Prop} {xbase xstrip xtend xaend xlcnt xlrnd xlinked xblamed xouts xpc xsteps xran : Int32} {xops xA xB xcnt xrole xloc xglo xweak xuse xrep xunit xtgt xstay xlong xlist xchosen xplace ximg xreg xstore xout : Nat → Int32} (hV : ly_SV xops xA xB xcnt xloc xglo xweak xuse xrep xunit 6) {g : Nat → Nat} {n : Nat} (hL : ly_LS xops xA xcnt xlist g n) (H : post (ly_na xops xA xB xcnt xrole g n)) : wpX_nextFromArchive post (xbase, xstrip, nI n, xtend, xaend, xlcnt, xlrnd, xlinked, xblamed, xouts, xpc, xsteps, xran, xops, xA, xB, xcnt, xrole, xloc, xglo, xweak, xuse, xrep, xunit, xtgt, xstay, xlong, xlist, xchosen, xplace, ximg, xreg, xstore, xout) := by
  unfold wpX_nextFromArchive
  dsimp only
  refine ly_xw (hV := hV) (hL := hL) (H := fun w hw => ly_xd (hV := hV) (hL := hL) (H := fun v hv => nm_e ⟨17, ly_x14 (hV := hV) (M := ly_ms xops xA xB xcnt g n) (hw := fun s hs => ?_) 16 0 (by omega) H⟩))
  rw [b_and, b_xor, b_m1 s hs, hw s hs, hv s hs, Bool.xor_true]; rfl
/-! labels -/
theorem ly_xla3 {post : Int32 → Prop} {xbase xstrip xllen xtend xaend xlcnt xlrnd xlinked xblamed xouts xpc xsteps xran : Int32} {xops xA xB xcnt xrole xloc xglo xweak xuse xrep xunit xtgt xstay xlong xlist xchosen xplace ximg xreg xstore xout : Nat → Int32} (hW : ly_W xcnt) {m : Nat} (hm : m < 6) (s t : Int32) : ∀ (d k : Nat), k + d = ly_c xcnt m → post (ly_fd (ly_l3 xops xA xB s t) d (24 * m + k)) → wX_labelIn_3 post (nI m) s t xbase xstrip xllen xtend xaend xlcnt xlrnd xlinked xblamed xouts xpc xsteps xran xops xA xB xcnt xrole xloc xglo xweak xuse xrep xunit xtgt xstay xlong xlist xchosen xplace ximg xreg xstore xout (d + 1) (nI k) := by
  obtain ⟨hc, ec⟩ := hW m hm
  have em : (nI m).toNatClampNeg = m := ly_cl (by omega)
  have ec' : xcnt (nI m).toNatClampNeg = nI (ly_c xcnt m) := by rw [em]; exact ec
  have vm : vp_in (nI m) 6 := vp_in_nI hm (by omega)
  intro d
  induction d with
  | zero =>
    intro k hd H
    have e : k = ly_c xcnt m := by omega
    subst e
    exact ⟨vm, br_t (by rw [ec']; exact Int32.le_refl _) H⟩
  | succ d ih =>
    intro k hd H
    have hi : 24 * m + k < 144 := by omega
    have ei : (nI (24 * m + k)).toNatClampNeg = 24 * m + k := ly_cl (by omega)
    have vi : vp_in (nI (24 * m + k)) 144 := vp_in_nI hi (by omega)
    refine ⟨vm, br_f (by rw [ec']; exact nI_ge (by omega) (by omega)) (nm_r (ly_idx m k) ⟨vi, ?_⟩)⟩
    rw [ei]
    have next : ¬ (xops (24 * m + k) = 0 ∧ xA (24 * m + k) = s ∧ xB (24 * m + k) = t) → wX_labelIn_3 post (nI m) s t xbase xstrip xllen xtend xaend xlcnt xlrnd xlinked xblamed xouts xpc xsteps xran xops xA xB xcnt xrole xloc xglo xweak xuse xrep xunit xtgt xstay xlong xlist xchosen xplace ximg xreg xstore xout (d + 1) (nI (k + 1)) := by
      intro hf
      rw [show ly_fd (ly_l3 xops xA xB s t) (d + 1) (24 * m + k) = ly_fd (ly_l3 xops xA xB s t) d (24 * m + k + 1) from if_neg (fun z => hf (of_decide_eq_true z))] at H
      exact ih (k + 1) (by omega) H
    by_cases h0 : xops (24 * m + k) = 0
    · refine br_t h0 ⟨vi, ?_⟩
      by_cases h1 : xA (24 * m + k) = s
      · refine br_t h1 ⟨vi, ?_⟩
        by_cases h2 : xB (24 * m + k) = t
        · rw [show ly_fd (ly_l3 xops xA xB s t) (d + 1) (24 * m + k) = nI (24 * m + k) from if_pos (decide_eq_true ⟨h0, h1, h2⟩)] at H
          exact br_t h2 H
        · exact br_f h2 (nm_r (nI_1 k) (next (fun z => h2 z.2.2)))
      · exact br_f h1 (nm_r (nI_1 k) (next (fun z => h1 z.2.1)))
    · exact br_f h0 (nm_r (nI_1 k) (next (fun z => h0 z.1)))
theorem ly_xla {post : Int32 → Prop} {xbase xstrip xllen xtend xaend xlcnt xlrnd xlinked xblamed xouts xpc xsteps xran : Int32} {xops xA xB xcnt xrole xloc xglo xweak xuse xrep xunit xtgt xstay xlong xlist xchosen xplace ximg xreg xstore xout : Nat → Int32} (hW : ly_W xcnt) {m : Nat} (hm : m < 6) (s t : Int32) (H : post (ly_xl xops xA xB xcnt m s t)) : wpX_labelIn post (xbase, xstrip, xllen, xtend, xaend, xlcnt, xlrnd, xlinked, xblamed, xouts, xpc, xsteps, xran, xops, xA, xB, xcnt, xrole, xloc, xglo, xweak, xuse, xrep, xunit, xtgt, xstay, xlong, xlist, xchosen, xplace, ximg, xreg, xstore, xout) (nI m) s t :=
  ⟨ly_c xcnt m + 1, ly_xla3 (hW := hW) (hm := hm) (s := s) (t := t) (ly_c xcnt m) 0 (by omega) H⟩
theorem ly_fl_k {o a b cnt : Nat → Int32} {g : Nat → Nat} {s t : Int32} {i : Nat} (h : ¬ ly_fl o a b cnt g s t i = -1) : ∀ d, ly_fl o a b cnt g s t (i + d) = ly_fl o a b cnt g s t i := by
  intro d
  induction d with
  | zero => rfl
  | succ d ih =>
    show ly_fl o a b cnt g s t (i + d + 1) = _
    rw [ly_fl_s, ih, if_neg h]
theorem ly_xf2l {post : Int32 → Prop} {xbase xstrip xtend xaend xlcnt xlrnd xlinked xblamed xouts xpc xsteps xran : Int32} {xops xA xB xcnt xrole xloc xglo xweak xuse xrep xunit xtgt xstay xlong xlist xchosen xplace ximg xreg xstore xout : Nat → Int32} (hW : ly_W xcnt) {g : Nat → Nat} {n : Nat} (hL : ly_LS xops xA xcnt xlist g n) (s t : Int32) (H : post (ly_fl xops xA xB xcnt g s t n)) : ∀ (d i : Nat), i + d = n → ly_fl xops xA xB xcnt g s t i = -1 → wX_firstInList_2 post s t xbase xstrip (nI n) xtend xaend xlcnt xlrnd xlinked xblamed xouts xpc xsteps xran xops xA xB xcnt xrole xloc xglo xweak xuse xrep xunit xtgt xstay xlong xlist xchosen xplace ximg xreg xstore xout (d + 1) (nI i) := by
  obtain ⟨hn, hg⟩ := hL
  intro d
  induction d with
  | zero =>
    intro i hd hi
    have e : i = n := by omega
    subst e
    rw [hi] at H
    exact br_t (Int32.le_refl _) H
  | succ d ih =>
    intro i hd hi
    obtain ⟨g1, g2, g3⟩ := hg i (by omega)
    refine br_f (nI_ge (by omega) (by omega)) ⟨vp_in_nI (by omega) (by omega), ?_⟩
    rw [ly_cl (i := i) (by omega), g2]
    have es : ly_fl xops xA xB xcnt g s t (i + 1) = ly_xl xops xA xB xcnt (g i) s t := by rw [ly_fl_s, if_pos hi]
    refine ly_xla (hW := hW) (hm := g1) (s := s) (t := t) (H := ?_)
    by_cases z : ly_xl xops xA xB xcnt (g i) s t = -1
    · exact br_t z (nm_r (nI_1 i) (ih (i + 1) (by omega) (es.trans z)))
    · have e := ly_fl_k (o := xops) (a := xA) (b := xB) (cnt := xcnt) (g := g) (s := s) (t := t) (i := i + 1) (by rw [es]; exact z) d
      rw [show i + 1 + d = n by omega, es] at e
      rw [e] at H
      exact br_f z H
theorem ly_xfl {post : Int32 → Prop} {xbase xstrip xtend xaend xlcnt xlrnd xlinked xblamed xouts xpc xsteps xran : Int32} {xops xA xB xcnt xrole xloc xglo xweak xuse xrep xunit xtgt xstay xlong xlist xchosen xplace ximg xreg xstore xout : Nat → Int32} (hW : ly_W xcnt) {g : Nat → Nat} {n : Nat} (hL : ly_LS xops xA xcnt xlist g n) (s t : Int32) (H : post (ly_fl xops xA xB xcnt g s t n)) : wpX_firstInList post (xbase, xstrip, nI n, xtend, xaend, xlcnt, xlrnd, xlinked, xblamed, xouts, xpc, xsteps, xran, xops, xA, xB, xcnt, xrole, xloc, xglo, xweak, xuse, xrep, xunit, xtgt, xstay, xlong, xlist, xchosen, xplace, ximg, xreg, xstore, xout) s t :=
  ⟨n + 1, ly_xf2l (hW := hW) (hL := hL) (s := s) (t := t) (H := H) n 0 (by omega) rfl⟩
end
section
/-! the list: pure facts -/
theorem ly_nx_c (M : Nat → Bool) (inn : Nat → Int32) : ∀ d s, ly_nx M inn d s = -1 ∨ ∃ q, q < s + d ∧ M q = true ∧ ¬ inn q = -1 ∧ ly_nx M inn d s = inn q := by
  intro d
  induction d with
  | zero => intro s; exact Or.inl rfl
  | succ d ih =>
    intro s
    by_cases h : M s = true ∧ ¬ inn s = -1
    · exact Or.inr ⟨s, by omega, h.1, h.2, if_pos h⟩
    · have e : ly_nx M inn (d + 1) s = ly_nx M inn d (s + 1) := if_neg h
      rw [e]
      rcases ih (s + 1) with h1 | ⟨q, h1, h2⟩
      · exact Or.inl h1
      · exact Or.inr ⟨q, by omega, h2⟩
theorem ly_na_c {o a b cnt role : Nat → Int32} (g : Nat → Nat) (n : Nat) : ly_na o a b cnt role g n = -1 ∨ ∃ m, m < 6 ∧ ly_na o a b cnt role g n = nI m ∧ ly_li g n m = false := by
  rcases ly_nx_c (ly_ms o a b cnt g n) (ly_ia o a b cnt role) 16 0 with h | ⟨q, h1, h2, h3, e⟩
  · exact Or.inl h
  · rcases ly_fd_c (fun m => decide (role m = 2) && ly_df o a b cnt m (nI q)) 6 0 with ⟨z, _⟩ | ⟨m, _, m2, m3, _, z⟩
    · exact absurd z h3
    · refine Or.inr ⟨m, by omega, e.trans z, ?_⟩
      cases hl : ly_li g n m with
      | false => rfl
      | true =>
        unfold ly_ms at h2
        have hd : ly_dd o a b cnt g n q = false := by
          revert h2; cases ly_dd o a b cnt g n q <;> simp
        rw [ly_dd_li hd hl, Bool.and_false] at m3
        exact absurd m3 (by decide)
/-- as many as are listed: no module twice -/
def ly_DI (g : Nat → Nat) (n : Nat) : Prop := ly_ct (ly_li g n) 6 = n
theorem ly_li_u {g : Nat → Nat} {n m j : Nat} : ly_li (ly_uN g n m) (n + 1) j = (ly_li g n j || decide (m = j)) := by
  show (ly_ex (fun i => decide (ly_uN g n m i = j)) 0 n || decide (ly_uN g n m (0 + n) = j)) = _
  rw [Nat.zero_add, ly_uNs]
  rw [ly_ex_congr (q := fun i => decide (g i = j)) (fun i _ hi => by rw [ly_uNn (by omega)])]
  rfl
theorem ly_DI_u {g : Nat → Nat} {n m : Nat} (h : ly_DI g n) (hm : m < 6) (hl : ly_li g n m = false) : ly_DI (ly_uN g n m) (n + 1) := by
  unfold ly_DI at *
  rw [ly_ct_one (p := ly_li g n) (q := ly_li (ly_uN g n m) (n + 1)) hm (fun j _ hj => ?_) ?_ hl, h]
  · rw [ly_li_u, decide_eq_true rfl, Bool.or_true]
  · rw [ly_li_u, decide_eq_false (fun z => hj z.symm), Bool.or_false]
theorem ly_DI_lt {g : Nat → Nat} {n m : Nat} (h : ly_DI g n) (hm : m < 6) (hl : ly_li g n m = false) : n < 6 := by
  have := ly_ct_full (p := ly_li g n) hm hl
  unfold ly_DI at h
  omega
theorem ly_DI_le {g : Nat → Nat} {n : Nat} (h : ly_DI g n) : n ≤ 6 := by
  have := ly_ct_le (ly_li g n) 6
  unfold ly_DI at h
  omega
theorem ly_LS_u {o a cnt list : Nat → Int32} {g : Nat → Nat} {n m : Nat} (h : ly_LS o a cnt list g n) (hm : m < 6) (hn : n < 6) (hf : ly_fy o a cnt m = false) : ly_LS o a cnt (upd list n (nI m)) (ly_uN g n m) (n + 1) := by
  refine ⟨by omega, fun i hi => ?_⟩
  by_cases e : i = n
  · subst e; rw [ly_uNs, pk_us]; exact ⟨hm, rfl, hf⟩
  · rw [ly_uNn e, pk_un e]; exact h.2 i (by omega)
/-- the taken ones -/
theorem ly_tk_le (role : Nat → Int32) : ∀ j, (ly_tk role j).1 ≤ j := by
  intro j
  induction j with
  | zero => exact Nat.le_refl _
  | succ j ih =>
    simp only [ly_tk]
    by_cases h : role j = 1
    · rw [if_pos h]; show _ + 1 ≤ _; omega
    · rw [if_neg h]; omega
theorem ly_tk_y {role : Nat → Int32} {j : Nat} (h : role j = 1) : ly_tk role (j + 1) = ((ly_tk role j).1 + 1, ly_uN (ly_tk role j).2 (ly_tk role j).1 j) := if_pos h
theorem ly_tk_n {role : Nat → Int32} {j : Nat} (h : ¬ role j = 1) : ly_tk role (j + 1) = ly_tk role j := if_neg h
theorem ly_tk_c (role : Nat → Int32) : ∀ j, (∀ i, i < (ly_tk role j).1 → (ly_tk role j).2 i < j ∧ role ((ly_tk role j).2 i) = 1) ∧ (∀ i l, i < l → l < (ly_tk role j).1 → (ly_tk role j).2 i < (ly_tk role j).2 l) ∧ (∀ m, m < j → role m = 1 → ∃ i, i < (ly_tk role j).1 ∧ (ly_tk role j).2 i = m) := by
  intro j
  induction j with
  | zero => exact ⟨fun i hi => absurd hi (Nat.not_lt_zero i), fun i l _ hl => absurd hl (Nat.not_lt_zero l), fun m hm => absurd hm (Nat.not_lt_zero m)⟩
  | succ j ih =>
    obtain ⟨h1, h2, h3⟩ := ih
    by_cases h : role j = 1
    · rw [ly_tk_y h]
      dsimp only
      refine ⟨fun i hi => ?_, fun i l hil hl => ?_, fun m hm hr => ?_⟩
      · by_cases e : i = (ly_tk role j).1
        · subst e; rw [ly_uNs]; exact ⟨by omega, h⟩
        · rw [ly_uNn e]; have := h1 i (by omega); exact ⟨by omega, this.2⟩
      · by_cases e : l = (ly_tk role j).1
        · subst e; rw [ly_uNs, ly_uNn (by omega)]; exact (h1 i hil).1
        · rw [ly_uNn e, ly_uNn (by omega)]; exact h2 i l hil (by omega)
      · by_cases e : m = j
        · exact ⟨(ly_tk role j).1, by omega, by rw [ly_uNs, e]⟩
        · obtain ⟨i, i1, i2⟩ := h3 m (by omega) hr
          exact ⟨i, by omega, by rw [ly_uNn (by omega)]; exact i2⟩
    · rw [ly_tk_n h]
      refine ⟨fun i hi => ⟨by have := (h1 i hi).1; omega, (h1 i hi).2⟩, h2, fun m hm hr => ?_⟩
      have e : m ≠ j := fun e => h (e ▸ hr)
      exact h3 m (by omega) hr
theorem ly_ct_false : ∀ N : Nat, ly_ct (fun _ => false) N = 0 := by
  intro N
  induction N with
  | zero => rfl
  | succ N ih => simp only [ly_ct, ih]; rfl
theorem ly_tk_di (role : Nat → Int32) : ∀ j, j ≤ 6 → ly_DI (ly_tk role j).2 (ly_tk role j).1 := by
  intro j
  induction j with
  | zero => intro _; exact ly_ct_false 6
  | succ j ih =>
    intro hj
    by_cases h : role j = 1
    · rw [ly_tk_y h]
      refine ly_DI_u (ih (by omega)) (by omega) (ly_ex_f.mpr (fun i _ hi => decide_eq_false (fun e => ?_)))
      have := ((ly_tk_c role j).1 i (by omega)).1
      omega
    · rw [ly_tk_n h]; exact ih (by omega)
/-- the first taken module that is faulty -/
def ly_tf (o a cnt role : Nat → Int32) : Int32 := ly_fd (fun m => decide (role m = 1) && ly_fy o a cnt m) 6 0
theorem ly_tf_y {o a cnt role : Nat → Int32} {m : Nat} (hm : m < 6) (hr : role m = 1) (hf : ly_fy o a cnt m = true) (hl : ∀ j, j < m → (decide (role j = 1) && ly_fy o a cnt j) = false) : ly_tf o a cnt role = nI m := by
  rcases ly_fd_c (fun m => decide (role m = 1) && ly_fy o a cnt m) 6 0 with ⟨_, h⟩ | ⟨j, _, j2, j3, j4, e⟩
  · have := h m (by omega) (by omega)
    rw [decide_eq_true hr, hf] at this
    exact absurd this (by decide)
  · have e1 : j = m := by
      rcases Nat.lt_trichotomy j m with z | z | z
      · rw [hl j z] at j3; exact absurd j3 (by decide)
      · exact z
      · have := j4 m (by omega) z
        rw [decide_eq_true hr, hf] at this
        exact absurd this (by decide)
    subst e1
    exact e
theorem ly_tf_n {o a cnt role : Nat → Int32} (h : ∀ j, j < 6 → (decide (role j = 1) && ly_fy o a cnt j) = false) : ly_tf o a cnt role = -1 := by
  rcases ly_fd_c (fun m => decide (role m = 1) && ly_fy o a cnt m) 6 0 with ⟨e, _⟩ | ⟨j, _, j2, j3, _, _⟩
  · exact e
  · rw [h j (by omega)] at j3; exact absurd j3 (by decide)
/-! X -/
theorem ly_xadd1 {post : Int32 → SX → Prop} {xbase xstrip xtend xaend xlcnt xlrnd xlinked xblamed xouts xpc xsteps xran : Int32} {xops xA xB xcnt xrole xloc xglo xweak xuse xrep xunit xtgt xstay xlong xlist xchosen xplace ximg xreg xstore xout : Nat → Int32} (hV : ly_SV xops xA xB xcnt xloc xglo xweak xuse xrep xunit 6) {m n : Nat} (hm : m < 6) (hn : n < 6) (hf : ly_fy xops xA xcnt m = false) (H : post 1 (xbase, xstrip, nI (n + 1), xtend, xaend, xlcnt, xlrnd, xlinked, xblamed, xouts, xpc, xsteps, xran, xops, xA, xB, xcnt, xrole, xloc, xglo, xweak, xuse, xrep, xunit, xtgt, xstay, xlong, upd xlist n (nI m), xchosen, xplace, ximg, xreg, xstore, xout)) : wpX_addToList post (xbase, xstrip, nI n, xtend, xaend, xlcnt, xlrnd, xlinked, xblamed, xouts, xpc, xsteps, xran, xops, xA, xB, xcnt, xrole, xloc, xglo, xweak, xuse, xrep, xunit, xtgt, xstay, xlong, xlist, xchosen, xplace, ximg, xreg, xstore, xout) (nI m) := by
  refine ⟨vp_in_nI hm (by omega), ?_⟩
  rw [ly_cl (i := m) (by omega)]
  exact br_t ((hV m hm).2.1.mpr hf) (br_f (nI_ge (b := 6) hn (by omega)) ⟨vp_in_nI hn (by omega), nm_r (e' := upd xlist n (nI m)) (by rw [ly_cl (i := n) (by omega)]) (nm_r (nI_1 n) H)⟩)
theorem ly_xadd0 {post : Int32 → SX → Prop} {xbase xstrip xllen xtend xaend xlcnt xlrnd xlinked xblamed xouts xpc xsteps xran : Int32} {xops xA xB xcnt xrole xloc xglo xweak xuse xrep xunit xtgt xstay xlong xlist xchosen xplace ximg xreg xstore xout : Nat → Int32} (hV : ly_SV xops xA xB xcnt xloc xglo xweak xuse xrep xunit 6) {m : Nat} (hm : m < 6) (hf : ly_fy xops xA xcnt m = true) (H : post 0 (xbase, xstrip, xllen, xtend, xaend, xlcnt, xlrnd, xlinked, nI m, xouts, xpc, xsteps, xran, xops, xA, xB, xcnt, xrole, xloc, xglo, xweak, xuse, xrep, xunit, xtgt, xstay, xlong, xlist, xchosen, xplace, ximg, xreg, xstore, xout)) : wpX_addToList post (xbase, xstrip, xllen, xtend, xaend, xlcnt, xlrnd, xlinked, xblamed, xouts, xpc, xsteps, xran, xops, xA, xB, xcnt, xrole, xloc, xglo, xweak, xuse, xrep, xunit, xtgt, xstay, xlong, xlist, xchosen, xplace, ximg, xreg, xstore, xout) (nI m) := by
  refine ⟨vp_in_nI hm (by omega), ?_⟩
  rw [ly_cl (i := m) (by omega)]
  exact br_f (fun z => by have := (hV m hm).2.1.mp z; rw [hf] at this; exact absurd this (by decide)) H
theorem ly_xl36 {post : Int32 → SX → Prop} {xbase xstrip xtend xaend xlcnt xlrnd xlinked xblamed xouts xpc xsteps xran : Int32} {xops xA xB xcnt xrole xloc xglo xweak xuse xrep xunit xtgt xstay xlong xchosen xplace ximg xreg xstore xout : Nat → Int32} (hV : ly_SV xops xA xB xcnt xloc xglo xweak xuse xrep xunit 6) : ∀ (f k : Nat) (g : Nat → Nat) (n : Nat) (xlist : Nat → Int32), k + f = 6 → ly_LS xops xA xcnt xlist g n → ly_DI g n → (∀ (l : Int32) (li : Nat → Int32), ¬ (ly_ar xops xA xB xcnt xrole f g n).1 = -1 → post 1 (xbase, xstrip, l, xtend, xaend, xlcnt, xlrnd, xlinked, (ly_ar xops xA xB xcnt xrole f g n).1, xouts, xpc, xsteps, xran, xops, xA, xB, xcnt, xrole, xloc, xglo, xweak, xuse, xrep, xunit, xtgt, xstay, xlong, li, xchosen, xplace, ximg, xreg, xstore, xout)) → (∀ li : Nat → Int32, (ly_ar xops xA xB xcnt xrole f g n).1 = -1 → ly_LS xops xA xcnt li (ly_ar xops xA xB xcnt xrole f g n).2.1 (ly_ar xops xA xB xcnt xrole f g n).2.2 → post 0 (xbase, xstrip, nI (ly_ar xops xA xB xcnt xrole f g n).2.2, xtend, xaend, xlcnt, xlrnd, xlinked, xblamed, xouts, xpc, xsteps, xran, xops, xA, xB, xcnt, xrole, xloc, xglo, xweak, xuse, xrep, xunit, xtgt, xstay, xlong, li, xchosen, xplace, ximg, xreg, xstore, xout)) → wX_listModules_36 post (f + 1) (nI k) xbase xstrip (nI n) xtend xaend xlcnt xlrnd xlinked xblamed xouts xpc xsteps xran xops xA xB xcnt xrole xloc xglo xweak xuse xrep xunit xtgt xstay xlong xlist xchosen xplace ximg xreg xstore xout := by
  intro f
  induction f with
  | zero =>
    intro k g n xlist hk hL hD H1 H2
    have e : k = 6 := by omega
    subst e
    exact br_t (by decide) (H2 xlist rfl hL)
  | succ f ih =>
    intro k g n xlist hk hL hD H1 H2
    refine br_f (nI_ge (b := 6) (by omega) (by omega)) (ly_xna (hV := hV) (hL := hL) (H := ?_))
    rcases ly_na_c (o := xops) (a := xA) (b := xB) (cnt := xcnt) (role := xrole) g n with h | ⟨m, hm, h, hl⟩
    · have e : ly_ar xops xA xB xcnt xrole (f + 1) g n = (-1, g, n) := if_pos h
      rw [e] at H2
      exact br_t h (H2 xlist rfl hL)
    · have hn := ly_DI_lt hD hm hl
      have hm1 : ¬ nI m = -1 := ly_m1 (by omega)
      rw [h]
      refine br_f hm1 ?_
      cases hf : ly_fy xops xA xcnt m with
      | true =>
        have e : ly_ar xops xA xB xcnt xrole (f + 1) g n = (nI m, g, n) := by
          simp only [ly_ar]
          rw [h, if_neg hm1, ly_cl (i := m) (by omega), if_pos hf]
        rw [e] at H1
        exact ly_xadd0 (hV := hV) (hm := hm) (hf := hf) (H := br_t rfl (H1 _ _ hm1))
      | false =>
        have e : ly_ar xops xA xB xcnt xrole (f + 1) g n = ly_ar xops xA xB xcnt xrole f (ly_uN g n m) (n + 1) := by
          simp only [ly_ar]
          rw [h, if_neg hm1, ly_cl (i := m) (by omega), if_neg (by rw [hf]; decide)]
        rw [e] at H1 H2
        exact ly_xadd1 (hV := hV) (hm := hm) (hn := hn) (hf := hf) (H := br_f (by decide) (nm_r (nI_1 k) (ih (k + 1) _ _ _ (by omega) (ly_LS_u hL hm hn hf) (ly_DI_u hD hm hl) H1 H2)))
/-- what the listing answers: a faulty module, or the list -/
def ly_ll (o a b cnt role : Nat → Int32) : Int32 × (Nat → Nat) × Nat := if ly_tf o a cnt role = -1 then ly_ar o a b cnt role 6 (ly_tk role 6).2 (ly_tk role 6).1 else (ly_tf o a cnt role, fun _ => 0, 0)
theorem ly_xl2m {post : Int32 → SX → Prop} {xbase xstrip xtend xaend xlcnt xlrnd xlinked xblamed xouts xpc xsteps xran : Int32} {xops xA xB xcnt xrole xloc xglo xweak xuse xrep xunit xtgt xstay xlong xchosen xplace ximg xreg xstore xout : Nat → Int32} (hV : ly_SV xops xA xB xcnt xloc xglo xweak xuse xrep xunit 6) (H1 : ∀ (l : Int32) (li : Nat → Int32), ¬ (ly_ll xops xA xB xcnt xrole).1 = -1 → post 1 (xbase, xstrip, l, xtend, xaend, xlcnt, xlrnd, xlinked, (ly_ll xops xA xB xcnt xrole).1, xouts, xpc, xsteps, xran, xops, xA, xB, xcnt, xrole, xloc, xglo, xweak, xuse, xrep, xunit, xtgt, xstay, xlong, li, xchosen, xplace, ximg, xreg, xstore, xout)) (H2 : ∀ li : Nat → Int32, (ly_ll xops xA xB xcnt xrole).1 = -1 → ly_LS xops xA xcnt li (ly_ll xops xA xB xcnt xrole).2.1 (ly_ll xops xA xB xcnt xrole).2.2 → post 0 (xbase, xstrip, nI (ly_ll xops xA xB xcnt xrole).2.2, xtend, xaend, xlcnt, xlrnd, xlinked, xblamed, xouts, xpc, xsteps, xran, xops, xA, xB, xcnt, xrole, xloc, xglo, xweak, xuse, xrep, xunit, xtgt, xstay, xlong, li, xchosen, xplace, ximg, xreg, xstore, xout)) : ∀ (d j : Nat) (xlist : Nat → Int32), j + d = 6 → (∀ m, m < j → (decide (xrole m = 1) && ly_fy xops xA xcnt m) = false) → ly_LS xops xA xcnt xlist (ly_tk xrole j).2 (ly_tk xrole j).1 → wX_listModules_2 post (d + 1) (nI j) xbase xstrip (nI (ly_tk xrole j).1) xtend xaend xlcnt xlrnd xlinked xblamed xouts xpc xsteps xran xops xA xB xcnt xrole xloc xglo xweak xuse xrep xunit xtgt xstay xlong xlist xchosen xplace ximg xreg xstore xout := by
  intro d
  induction d with
  | zero =>
    intro j xlist hd hn hL
    have e : j = 6 := by omega
    subst e
    have et : ly_tf xops xA xcnt xrole = -1 := ly_tf_n hn
    have el : ly_ll xops xA xB xcnt xrole = ly_ar xops xA xB xcnt xrole 6 (ly_tk xrole 6).2 (ly_tk xrole 6).1 := if_pos et
    rw [el] at H1 H2
    exact br_t (by decide) ⟨7, ly_xl36 (hV := hV) 6 0 _ _ xlist (by omega) hL (ly_tk_di xrole 6 (by omega)) H1 H2⟩
  | succ d ih =>
    intro j xlist hd hn hL
    have hj : j < 6 := by omega
    have hle := ly_tk_le xrole j
    refine br_f (nI_ge (b := 6) hj (by omega)) ⟨vp_in_nI hj (by omega), ?_⟩
    rw [ly_cl (i := j) (by omega)]
    have next : (decide (xrole j = 1) && ly_fy xops xA xcnt j) = false → ∀ m, m < j + 1 → (decide (xrole m = 1) && ly_fy xops xA xcnt m) = false := by
      intro hf m hm
      by_cases e : m = j
      · subst e; exact hf
      · exact hn m (by omega)
    by_cases h1 : xrole j = 1
    · refine br_t h1 ?_
      cases hf : ly_fy xops xA xcnt j with
      | true =>
        have et : ly_tf xops xA xcnt xrole = nI j := ly_tf_y hj h1 hf hn
        have el : (ly_ll xops xA xB xcnt xrole).1 = nI j := by
          unfold ly_ll
          rw [et, if_neg (ly_m1 (by omega))]
        rw [el] at H1
        exact ly_xadd0 (hV := hV) (hm := hj) (hf := hf) (H := br_t rfl (H1 _ _ (ly_m1 (by omega))))
      | false =>
        have IH := ih (j + 1) (upd xlist (ly_tk xrole j).1 (nI j)) (by omega) (next (by rw [hf, Bool.and_false])) (by rw [ly_tk_y h1]; exact ly_LS_u hL hj (by omega) hf)
        rw [ly_tk_y h1] at IH
        exact ly_xadd1 (hV := hV) (hm := hj) (hn := by omega) (hf := hf) (H := br_f (by decide) (nm_r (nI_1 j) IH))
    · have IH := ih (j + 1) xlist (by omega) (next (by rw [decide_eq_false h1, Bool.false_and])) (by rw [ly_tk_n h1]; exact hL)
      rw [ly_tk_n h1] at IH
      exact br_f h1 (nm_r (nI_1 j) IH)
theorem ly_xlm {post : Int32 → SX → Prop} {xbase xstrip xtend xaend xlcnt xlrnd xlinked xblamed xouts xpc xsteps xran : Int32} {xops xA xB xcnt xrole xloc xglo xweak xuse xrep xunit xtgt xstay xlong xlist xchosen xplace ximg xreg xstore xout : Nat → Int32} (hV : ly_SV xops xA xB xcnt xloc xglo xweak xuse xrep xunit 6) (H1 : ∀ (l : Int32) (li : Nat → Int32), ¬ (ly_ll xops xA xB xcnt xrole).1 = -1 → post 1 (xbase, xstrip, l, xtend, xaend, xlcnt, xlrnd, xlinked, (ly_ll xops xA xB xcnt xrole).1, xouts, xpc, xsteps, xran, xops, xA, xB, xcnt, xrole, xloc, xglo, xweak, xuse, xrep, xunit, xtgt, xstay, xlong, li, xchosen, xplace, ximg, xreg, xstore, xout)) (H2 : ∀ li : Nat → Int32, (ly_ll xops xA xB xcnt xrole).1 = -1 → ly_LS xops xA xcnt li (ly_ll xops xA xB xcnt xrole).2.1 (ly_ll xops xA xB xcnt xrole).2.2 → post 0 (xbase, xstrip, nI (ly_ll xops xA xB xcnt xrole).2.2, xtend, xaend, xlcnt, xlrnd, xlinked, xblamed, xouts, xpc, xsteps, xran, xops, xA, xB, xcnt, xrole, xloc, xglo, xweak, xuse, xrep, xunit, xtgt, xstay, xlong, li, xchosen, xplace, ximg, xreg, xstore, xout)) : wpX_listModules post (xbase, xstrip, 0, xtend, xaend, xlcnt, xlrnd, xlinked, xblamed, xouts, xpc, xsteps, xran, xops, xA, xB, xcnt, xrole, xloc, xglo, xweak, xuse, xrep, xunit, xtgt, xstay, xlong, xlist, xchosen, xplace, ximg, xreg, xstore, xout) :=
  ⟨7, ly_xl2m (hV := hV) (H1 := H1) (H2 := H2) 6 0 xlist (by omega) (fun m hm => absurd hm (Nat.not_lt_zero m)) ⟨Nat.zero_le _, fun i hi => absurd hi (Nat.not_lt_zero i)⟩⟩
end
section
/-! Y: the list -/
theorem ly_y113 {post : Int32 → SY → Prop} {yorg ystrip yculp ytend yend ymade yrounds yentry ylinked yran ypc ysteps youts : Int32} {yops yA yB ycnt yrole yplace ysym yimg ystay ywide ymem yreg yout : Nat → Int32} (hW : ly_W ycnt) (hF : ly_F yops yA yB) : ∀ (f : Nat) (g : Nat → Nat) (n : Nat) (ylist : Nat → Int32), 6 ≤ n + f → ly_LS yops yA ycnt ylist g n → ly_DI g n → (∀ (l : Int32) (li : Nat → Int32), ¬ (ly_ar yops yA yB ycnt yrole f g n).1 = -1 → post 1 (yorg, ystrip, l, (ly_ar yops yA yB ycnt yrole f g n).1, ytend, yend, ymade, yrounds, yentry, ylinked, yran, ypc, ysteps, youts, yops, yA, yB, ycnt, yrole, li, yplace, ysym, yimg, ystay, ywide, ymem, yreg, yout)) → (∀ li : Nat → Int32, (ly_ar yops yA yB ycnt yrole f g n).1 = -1 → ly_LS yops yA ycnt li (ly_ar yops yA yB ycnt yrole f g n).2.1 (ly_ar yops yA yB ycnt yrole f g n).2.2 → ly_DI (ly_ar yops yA yB ycnt yrole f g n).2.1 (ly_ar yops yA yB ycnt yrole f g n).2.2 → ∃ n162, wY_link_162 post yorg ystrip (nI (ly_ar yops yA yB ycnt yrole f g n).2.2) yculp ytend yend ymade yrounds yentry ylinked yran ypc ysteps youts yops yA yB ycnt yrole li yplace ysym yimg ystay ywide ymem yreg yout n162 0) → wY_link_113 post yorg ystrip yculp ytend yend ymade yrounds yentry ylinked yran ypc ysteps youts (f + 1) (ly_na yops yA yB ycnt yrole g n) (nI n) yops yA yB ycnt yrole ylist yplace ysym yimg ystay ywide ymem yreg yout := by
  intro f
  induction f with
  | zero =>
    intro g n ylist hk hL hD H1 H2
    rcases ly_na_c (o := yops) (a := yA) (b := yB) (cnt := ycnt) (role := yrole) g n with h | ⟨m, hm, h, hl⟩
    · rw [h]
      exact br_t (by decide) (H2 ylist rfl hL hD)
    · have := ly_DI_lt hD hm hl
      omega
  | succ f ih =>
    intro g n ylist hk hL hD H1 H2
    rcases ly_na_c (o := yops) (a := yA) (b := yB) (cnt := ycnt) (role := yrole) g n with h | ⟨m, hm, h, hl⟩
    · have e : ly_ar yops yA yB ycnt yrole (f + 1) g n = (-1, g, n) := if_pos h
      rw [e] at H2
      rw [h]
      exact br_t (by decide) (H2 ylist rfl hL hD)
    · have hn := ly_DI_lt hD hm hl
      have hm1 : ¬ nI m = -1 := ly_m1 (by omega)
      rw [h]
      refine br_f (nI_pos (by omega)) ⟨vp_in_nI hn (by omega), nm_r (e' := upd ylist n (nI m)) (by rw [ly_cl (i := n) (by omega)]) (nm_r (nI_1 n) (ly_yfa (hW := hW) (hm := hm) (H := ?_)))⟩
      cases hf : ly_fy yops yA ycnt m with
      | true =>
        have e : ly_ar yops yA yB ycnt yrole (f + 1) g n = (nI m, g, n) := by
          simp only [ly_ar]
          rw [h, if_neg hm1, ly_cl (i := m) (by omega), if_pos hf]
        rw [e] at H1
        exact br_f (by decide) (H1 _ _ hm1)
      | false =>
        have e : ly_ar yops yA yB ycnt yrole (f + 1) g n = ly_ar yops yA yB ycnt yrole f (ly_uN g n m) (n + 1) := by
          simp only [ly_ar]
          rw [h, if_neg hm1, ly_cl (i := m) (by omega), if_neg (by rw [hf]; decide)]
        rw [e] at H1 H2
        have hL' := ly_LS_u hL hm hn hf
        exact br_t rfl (ly_yfe (hW := hW) (hF := hF) (hL := hL') (H := ih _ _ _ (by omega) hL' (ly_DI_u hD hm hl) H1 H2))
theorem ly_y69 {post : Int32 → SY → Prop} {yorg ystrip yculp ytend yend ymade yrounds yentry ylinked yran ypc ysteps youts : Int32} {yops yA yB ycnt yrole ylist yplace ysym yimg ystay ywide ymem yreg yout : Nat → Int32} (hW : ly_W ycnt) (hF : ly_F yops yA yB) (hl : ∀ i, i < (ly_tk yrole 6).1 → ylist i = nI ((ly_tk yrole 6).2 i)) (H1 : ∀ (l : Int32) (li : Nat → Int32), ¬ (ly_ll yops yA yB ycnt yrole).1 = -1 → post 1 (yorg, ystrip, l, (ly_ll yops yA yB ycnt yrole).1, ytend, yend, ymade, yrounds, yentry, ylinked, yran, ypc, ysteps, youts, yops, yA, yB, ycnt, yrole, li, yplace, ysym, yimg, ystay, ywide, ymem, yreg, yout)) (H2 : ∀ li : Nat → Int32, (ly_ll yops yA yB ycnt yrole).1 = -1 → ly_LS yops yA ycnt li (ly_ll yops yA yB ycnt yrole).2.1 (ly_ll yops yA yB ycnt yrole).2.2 → ly_DI (ly_ll yops yA yB ycnt yrole).2.1 (ly_ll yops yA yB ycnt yrole).2.2 → ∃ n162, wY_link_162 post yorg ystrip (nI (ly_ll yops yA yB ycnt yrole).2.2) yculp ytend yend ymade yrounds yentry ylinked yran ypc ysteps youts yops yA yB ycnt yrole li yplace ysym yimg ystay ywide ymem yreg yout n162 0) : ∀ (d i : Nat), i + d = (ly_tk yrole 6).1 → (∀ j, j < i → ly_fy yops yA ycnt ((ly_tk yrole 6).2 j) = false) → wY_link_69 post yorg ystrip (nI (ly_tk yrole 6).1) yculp ytend yend ymade yrounds yentry ylinked yran ypc ysteps youts yops yA yB ycnt yrole ylist yplace ysym yimg ystay ywide ymem yreg yout (d + 1) (nI i) := by
  have hle := ly_tk_le yrole 6
  obtain ⟨t1, t2, t3⟩ := ly_tk_c yrole 6
  intro d
  induction d with
  | zero =>
    intro i hd hn
    have e : i = (ly_tk yrole 6).1 := by omega
    have et : ly_tf yops yA ycnt yrole = -1 := by
      refine ly_tf_n (fun m hm => ?_)
      by_cases hr : yrole m = 1
      · obtain ⟨j, j1, j2⟩ := t3 m hm hr
        rw [← j2, hn j (by omega), Bool.and_false]
      · rw [decide_eq_false hr, Bool.false_and]
    have el : ly_ll yops yA yB ycnt yrole = ly_ar yops yA yB ycnt yrole 6 (ly_tk yrole 6).2 (ly_tk yrole 6).1 := if_pos et
    rw [el] at H1 H2
    have hL : ly_LS yops yA ycnt ylist (ly_tk yrole 6).2 (ly_tk yrole 6).1 := ⟨hle, fun j hj => ⟨(t1 j hj).1, hl j hj, hn j (by omega)⟩⟩
    exact br_t (by rw [e]; exact Int32.le_refl _) (ly_yfe (hW := hW) (hF := hF) (hL := hL) (H := ⟨7, ly_y113 (hW := hW) (hF := hF) 6 _ _ ylist (by omega) hL (ly_tk_di yrole 6 (by omega)) H1 H2⟩))
  | succ d ih =>
    intro i hd hn
    have hi : i < (ly_tk yrole 6).1 := by omega
    obtain ⟨g1, g2⟩ := t1 i hi
    refine br_f (nI_ge hi (by omega)) ⟨vp_in_nI (by omega) (by omega), ?_⟩
    rw [ly_cl (i := i) (by omega), hl i hi]
    refine ly_yfa (hW := hW) (hm := g1) (H := ?_)
    cases hf : ly_fy yops yA ycnt ((ly_tk yrole 6).2 i) with
    | false =>
      refine br_t rfl (nm_r (nI_1 i) (ih (i + 1) (by omega) (fun j hj => ?_)))
      by_cases e : j = i
      · subst e; exact hf
      · exact hn j (by omega)
    | true =>
      have et : ly_tf yops yA ycnt yrole = nI ((ly_tk yrole 6).2 i) := by
        refine ly_tf_y g1 g2 hf (fun m hm => ?_)
        by_cases hr : yrole m = 1
        · obtain ⟨j, j1, j2⟩ := t3 m (by omega) hr
          have hji : j < i := by
            rcases Nat.lt_trichotomy j i with z | z | z
            · exact z
            · subst z; omega
            · have := t2 i j z j1; omega
          rw [← j2, hn j hji, Bool.and_false]
        · rw [decide_eq_false hr, Bool.false_and]
      have el : (ly_ll yops yA yB ycnt yrole).1 = nI ((ly_tk yrole 6).2 i) := by
        unfold ly_ll
        rw [et, if_neg (ly_m1 (by omega))]
      rw [el] at H1
      exact br_f (by decide) ⟨vp_in_nI (by omega) (by omega), H1 _ _ (ly_m1 (by omega))⟩
theorem ly_y22 {post : Int32 → SY → Prop} {yorg ystrip yculp ytend yend ymade yrounds yentry ylinked yran ypc ysteps youts : Int32} {yops yA yB ycnt yrole yplace ysym yimg ystay ywide ymem yreg yout : Nat → Int32} (H : ∀ li : Nat → Int32, (∀ i, i < (ly_tk yrole 6).1 → li i = nI ((ly_tk yrole 6).2 i)) → ∃ n69, wY_link_69 post yorg ystrip (nI (ly_tk yrole 6).1) yculp ytend yend ymade yrounds yentry ylinked yran ypc ysteps youts yops yA yB ycnt yrole li yplace ysym yimg ystay ywide ymem yreg yout n69 0) : ∀ (d j : Nat) (ylist : Nat → Int32), j + d = 6 → (∀ i, i < (ly_tk yrole j).1 → ylist i = nI ((ly_tk yrole j).2 i)) → wY_link_22 post yorg ystrip yculp ytend yend ymade yrounds yentry ylinked yran ypc ysteps youts (d + 1) (nI j) (nI (ly_tk yrole j).1) yops yA yB ycnt yrole ylist yplace ysym yimg ystay ywide ymem yreg yout := by
  intro d
  induction d with
  | zero =>
    intro j ylist hd hl
    have e : j = 6 := by omega
    subst e
    exact br_t (by decide) (H ylist hl)
  | succ d ih =>
    intro j ylist hd hl
    have hle := ly_tk_le yrole j
    refine br_f (nI_ge (b := 6) (by omega) (by omega)) ⟨vp_in_nI (by omega) (by omega), ?_⟩
    rw [ly_cl (i := j) (by omega)]
    by_cases h1 : yrole j = 1
    · have IH := ih (j + 1) (upd ylist (ly_tk yrole j).1 (nI j)) (by omega) (by
        rw [ly_tk_y h1]
        intro i hi
        dsimp only at hi ⊢
        by_cases e : i = (ly_tk yrole j).1
        · rw [e, pk_us, ly_uNs]
        · rw [pk_un e, ly_uNn e]; exact hl i (by omega))
      rw [ly_tk_y h1] at IH
      exact br_t h1 ⟨vp_in_nI (by omega) (by omega), nm_r (e' := upd ylist (ly_tk yrole j).1 (nI j)) (by rw [ly_cl (i := (ly_tk yrole j).1) (by omega)]) (nm_r (nI_1 _) (nm_r (nI_1 j) IH))⟩
    · have IH := ih (j + 1) ylist (by omega) (by rw [ly_tk_n h1]; exact hl)
      rw [ly_tk_n h1] at IH
      exact br_f h1 (nm_r (nI_1 j) IH)
theorem ly_ylist {post : Int32 → SY → Prop} {yorg ystrip ymany yculp ytend yend ymade yrounds yentry ylinked yran ypc ysteps youts : Int32} {yops yA yB ycnt yrole ylist yplace ysym yimg ystay ywide ymem yreg yout : Nat → Int32} (hW : ly_W ycnt) (hF : ly_F yops yA yB) (H1 : ∀ (l : Int32) (li : Nat → Int32), ¬ (ly_ll yops yA yB ycnt yrole).1 = -1 → post 1 (yorg, ystrip, l, (ly_ll yops yA yB ycnt yrole).1, ytend, yend, ymade, yrounds, yentry, 0, 0, ypc, ysteps, youts, yops, yA, yB, ycnt, yrole, li, yplace, ysym, yimg, ystay, ywide, ymem, yreg, yout)) (H2 : ∀ li : Nat → Int32, (ly_ll yops yA yB ycnt yrole).1 = -1 → ly_LS yops yA ycnt li (ly_ll yops yA yB ycnt yrole).2.1 (ly_ll yops yA yB ycnt yrole).2.2 → ly_DI (ly_ll yops yA yB ycnt yrole).2.1 (ly_ll yops yA yB ycnt yrole).2.2 → ∃ n162, wY_link_162 post yorg ystrip (nI (ly_ll yops yA yB ycnt yrole).2.2) (-1) ytend yend ymade yrounds yentry 0 0 ypc ysteps youts yops yA yB ycnt yrole li yplace ysym yimg ystay ywide ymem yreg yout n162 0) : wpY_link post (yorg, ystrip, ymany, yculp, ytend, yend, ymade, yrounds, yentry, ylinked, yran, ypc, ysteps, youts, yops, yA, yB, ycnt, yrole, ylist, yplace, ysym, yimg, ystay, ywide, ymem, yreg, yout) :=
  ⟨7, ly_y22 (H := fun li hl => ⟨(ly_tk yrole 6).1 + 1, ly_y69 (hW := hW) (hF := hF) (hl := hl) (H1 := H1) (H2 := H2) (ly_tk yrole 6).1 0 (by omega) (fun j hj => absurd hj (Nat.not_lt_zero j))⟩) 6 0 ylist (by omega) (fun i hi => absurd hi (Nat.not_lt_zero i))⟩
/-! checkSymbols: X, and Y's two loops -/
theorem ly_e3_16 {o a b cnt : Nat → Int32} (hW : ly_W cnt) (hF : ly_F o a b) {m : Nat} (hm : m < 6) {s : Nat} (h16 : 16 ≤ s) (hs : s < 32) (t : Int32) : ly_e3 o a b cnt m (nI s) t = false := by
  have hc := (hW m hm).1
  refine ly_ex_f.mpr (fun j h1 h2 => decide_eq_false (fun z => ?_))
  obtain ⟨f, hf, e⟩ := ly_ft_a (hF j (by omega)) z.1
  have := ly_inj (by omega) (by omega) (e.symm.trans z.2.1)
  omega
theorem ly_eu_16 {o a b cnt : Nat → Int32} (hW : ly_W cnt) (hF : ly_F o a b) {m : Nat} (hm : m < 6) {s : Nat} (h16 : 16 ≤ s) (hs : s < 32) : ly_eu o a b cnt m (nI s) = false := by
  have hc := (hW m hm).1
  refine ly_ex_f.mpr (fun j h1 h2 => ?_)
  cases hu : ly_us (o j) with
  | false => unfold ly_up; rw [hu, Bool.false_and]
  | true =>
    obtain ⟨f, hf, e⟩ := ly_ft_s (hF j (by omega)) hu
    unfold ly_up
    rw [e, decide_eq_false (fun z => by have := ly_inj (by omega) (by omega) z; omega), Bool.and_false]
theorem ly_sv_16 {o a b cnt : Nat → Int32} (hW : ly_W cnt) (hF : ly_F o a b) {g : Nat → Nat} {s : Nat} (h16 : 16 ≤ s) (hs : s < 32) : ∀ n, (∀ i, i < n → g i < 6) → ly_sv o a b cnt g (nI s) n = false := by
  intro n
  induction n with
  | zero => intro _; rfl
  | succ n ih =>
    intro hg
    show (_ || (_ && _)) = false
    rw [ih (fun i hi => hg i (by omega)), ly_e3_16 hW hF (hg n (by omega)) h16 hs, Bool.and_false]; rfl
theorem ly_wt_16 {o a b cnt : Nat → Int32} (hW : ly_W cnt) (hF : ly_F o a b) {g : Nat → Nat} {n : Nat} (hg : ∀ i, i < n → g i < 6) {s : Nat} (h16 : 16 ≤ s) (hs : s < 32) : ly_wt o a b cnt g n s = false := by
  unfold ly_wt
  rw [decide_eq_false (by omega), Bool.false_or]
  refine ly_ex_f.mpr (fun j _ h2 => ?_)
  show (ly_eu o a b cnt (g j) (nI s) && _) = false
  rw [ly_eu_16 hW hF (hg j (by omega)) h16 hs, Bool.false_and]
def ly_ds (o a b cnt : Nat → Int32) (g : Nat → Nat) (n : Nat) : Int32 := ly_fd (fun s => ly_sv o a b cnt g (nI s) n) 16 0
def ly_ud (o a b cnt : Nat → Int32) (g : Nat → Nat) (n : Nat) : Int32 := ly_fd (ly_ms o a b cnt g n) 16 0
theorem ly_xck {post : Int32 → SX → Prop} {xbase xstrip xtend xaend xlcnt xlrnd xlinked xblamed xouts xpc xsteps xran : Int32} {xops xA xB xcnt xrole xloc xglo xweak xuse xrep xunit xtgt xstay xlong xlist xchosen xplace ximg xreg xstore xout : Nat → Int32} (hW : ly_W xcnt) (hF : ly_F xops xA xB) (hV : ly_SV xops xA xB xcnt xloc xglo xweak xuse xrep xunit 6) {g : Nat → Nat} {n : Nat} (hL : ly_LS xops xA xcnt xlist g n)
    (H2 : ¬ ly_ds xops xA xB xcnt g n = -1 → post 2 (xbase, xstrip, nI n, xtend, xaend, xlcnt, xlrnd, xlinked, ly_ds xops xA xB xcnt g n, xouts, xpc, xsteps, xran, xops, xA, xB, xcnt, xrole, xloc, xglo, xweak, xuse, xrep, xunit, xtgt, xstay, xlong, xlist, xchosen, xplace, ximg, xreg, xstore, xout)) (H3 : ly_ds xops xA xB xcnt g n = -1 → ¬ ly_ud xops xA xB xcnt g n = -1 → post 3 (xbase, xstrip, nI n, xtend, xaend, xlcnt, xlrnd, xlinked, ly_ud xops xA xB xcnt g n, xouts, xpc, xsteps, xran, xops, xA, xB, xcnt, xrole, xloc, xglo, xweak, xuse, xrep, xunit, xtgt, xstay, xlong, xlist, xchosen, xplace, ximg, xreg, xstore, xout)) (H0 : ly_ds xops xA xB xcnt g n = -1 → ly_ud xops xA xB xcnt g n = -1 → post 0 (xbase, xstrip, nI n, xtend, xaend, xlcnt, xlrnd, xlinked, xblamed, xouts, xpc, xsteps, xran, xops, xA, xB, xcnt, xrole, xloc, xglo, xweak, xuse, xrep, xunit, xtgt, xstay, xlong, xlist, xchosen, xplace, ximg, xreg, xstore, xout)) : wpX_checkSymbols post (xbase, xstrip, nI n, xtend, xaend, xlcnt, xlrnd, xlinked, xblamed, xouts, xpc, xsteps, xran, xops, xA, xB, xcnt, xrole, xloc, xglo, xweak, xuse, xrep, xunit, xtgt, xstay, xlong, xlist, xchosen, xplace, ximg, xreg, xstore, xout) := by
  have hg : ∀ i, i < n → g i < 6 := fun i hi => (hL.2 i hi).1
  unfold wpX_checkSymbols
  dsimp only
  refine ly_xs (hV := hV) (hL := hL) (H := fun w hw => ?_)
  have z := ly_mask0 (P := fun s => ly_sv xops xA xB xcnt g (nI s) n) hw (fun s h1 h2 => ly_sv_16 hW hF h1 h2 n hg)
  refine br_c (fun h => ?_) (fun h => ly_xleast (P := fun s => ly_sv xops xA xB xcnt g (nI s) n) hw (H2 (fun e => h (z.mpr e))))
  have hd := z.mp h
  refine ly_xw (hV := hV) (hL := hL) (H := fun w1 hw1 => ly_xd (hV := hV) (hL := hL) (H := fun v hv => nm_e ?_))
  have hm : ∀ s, s < 32 → bt (w1 &&& (v ^^^ (-1))) s = ly_ms xops xA xB xcnt g n s := fun s hs => by
    rw [b_and, b_xor, b_m1 s hs, hw1 s hs, hv s hs, Bool.xor_true]; rfl
  have z2 := ly_mask0 hm (fun s h1 h2 => by unfold ly_ms; rw [ly_wt_16 hW hF hg h1 h2, Bool.false_and])
  exact br_c (fun h => H0 hd (z2.mp h)) (fun h => ly_xleast hm (H3 hd (fun e => h (z2.mpr e))))
theorem ly_fl_df {o a b cnt : Nat → Int32} (hW : ly_W cnt) {g : Nat → Nat} {s : Nat} : ∀ n, (∀ i, i < n → g i < 6) → (ly_co o a b cnt g n (nI s) = -1 ↔ ly_dd o a b cnt g n s = false) := by
  have key : ∀ t n, (∀ i, i < n → g i < 6) → (ly_fl o a b cnt g (nI s) t n = -1 ↔ ∀ i, i < n → ly_e3 o a b cnt (g i) (nI s) t = false) := by
    intro t n
    induction n with
    | zero => intro _; exact ⟨fun _ i hi => absurd hi (Nat.not_lt_zero i), fun _ => rfl⟩
    | succ n ih =>
      intro hg
      have h6 := hg n (by omega)
      have e3 := ly_e3_xl (o := o) (a := a) (b := b) h6 (hW _ h6).1 (nI s) t
      have IH := ih (fun i hi => hg i (by omega))
      rw [ly_fl_s]
      by_cases z : ly_fl o a b cnt g (nI s) t n = -1
      · rw [if_pos z]
        constructor
        · intro hx i hi
          by_cases ei : i = n
          · subst ei; rw [e3, hx]; rfl
          · exact IH.mp z i (by omega)
        · intro hx
          have := hx n (by omega)
          rw [e3] at this
          by_cases q : ly_xl o a b cnt (g n) (nI s) t = -1
          · exact q
          · rw [decide_eq_true q] at this; exact absurd this (by decide)
      · rw [if_neg z]
        exact ⟨fun h => absurd h z, fun h => absurd (IH.mpr (fun i hi => h i (by omega))) z⟩
  intro n hg
  have k1 := key 1 n hg
  have k2 := key 2 n hg
  unfold ly_co ly_dd
  rw [ly_ex_f]
  constructor
  · intro h i _ hi
    by_cases z : ly_fl o a b cnt g (nI s) 1 n = -1
    · rw [if_pos z] at h
      show (_ || _) = false
      rw [k1.mp z i (by omega), k2.mp h i (by omega)]; rfl
    · rw [if_neg z] at h; exact absurd h z
  · intro h
    have h1 : ly_fl o a b cnt g (nI s) 1 n = -1 := k1.mpr (fun i hi => by
      have := h i (by omega) (by omega)
      have : (ly_e3 o a b cnt (g i) (nI s) 1 || ly_e3 o a b cnt (g i) (nI s) 2) = false := this
      revert this; cases ly_e3 o a b cnt (g i) (nI s) 1 <;> simp)
    have h2 : ly_fl o a b cnt g (nI s) 2 n = -1 := k2.mpr (fun i hi => by
      have := h i (by omega) (by omega)
      have : (ly_e3 o a b cnt (g i) (nI s) 1 || ly_e3 o a b cnt (g i) (nI s) 2) = false := this
      revert this; cases ly_e3 o a b cnt (g i) (nI s) 2 <;> simp)
    rw [if_pos h1]; exact h2
theorem ly_co_c {o a b cnt : Nat → Int32} (hW : ly_W cnt) {g : Nat → Nat} {n : Nat} (hg : ∀ i, i < n → g i < 6) (s : Int32) : ly_co o a b cnt g n s = -1 ∨ ∃ j k, j < n ∧ 24 * g j ≤ k ∧ k < 24 * g j + ly_c cnt (g j) ∧ k < 144 ∧ ly_co o a b cnt g n s = nI k := by
  unfold ly_co
  have key : ∀ t, ly_fl o a b cnt g s t n = -1 ∨ ∃ j k, j < n ∧ 24 * g j ≤ k ∧ k < 24 * g j + ly_c cnt (g j) ∧ k < 144 ∧ ly_fl o a b cnt g s t n = nI k := by
    intro t
    rcases ly_fl_c (o := o) (a := a) (b := b) (cnt := cnt) (g := g) (s := s) (t := t) n with h | ⟨j, k, h1, h2, h3, _, _, _, e⟩
    · exact Or.inl h
    · have := (hW _ (hg j h1)).1
      have := hg j h1
      exact Or.inr ⟨j, k, h1, h2, h3, by omega, e⟩
  by_cases z : ly_fl o a b cnt g s 1 n = -1
  · rw [if_pos z]; exact key 2
  · rw [if_neg z]; exact key 1
theorem ly_y193 {post : Int32 → SY → Prop} {yorg ystrip yculp ytend yend ymade yrounds yentry ylinked yran ypc ysteps youts : Int32} {yops yA yB ycnt yrole ylist yplace ysym yimg ystay ywide ymem yreg yout : Nat → Int32} (hW : ly_W ycnt) (hF : ly_F yops yA yB) {g : Nat → Nat} {n : Nat} (hL : ly_LS yops yA ycnt ylist g n) (hv : ∀ s, s < 16 → ly_sv yops yA yB ycnt g (nI s) n = false)
    (H0 : ∀ P : Int32 → SY → Prop, (∀ (r : Int32) (yorg' ystrip' ymany' yculp' ytend' yend' ymade' yrounds' yentry' ylinked' yran' ypc' ysteps' youts' : Int32) (yops' yA' yB' ycnt' yrole' ylist' yplace' ysym' yimg' ystay' ywide' ymem' yreg' yout' : Nat → Int32), post r (yorg', ystrip', ymany', yculp', ytend', yend', ymade', yrounds', yentry', ylinked', yran', ypc', ysteps', youts', yops', yA', yB', ycnt', yrole', ylist', yplace', ysym', yimg', ystay', ywide', ymem', yreg', yout') → P r (yorg', ystrip', ymany', yculp', ytend', yend', ymade', yrounds', yentry', ylinked', yran', ypc', ysteps', youts', yops', yA', yB', ycnt', yrole', ylist', yplace', ysym', yimg', ystay', ywide', ymem', yreg', yout')) → ly_ud yops yA yB ycnt g n = -1 → wpY_arrange P (yorg, ystrip, nI n, yculp, ytend, yend, ymade, yrounds, yentry, ylinked, yran, ypc, ysteps, youts, yops, yA, yB, ycnt, yrole, ylist, yplace, ysym, yimg, ystay, ywide, ymem, yreg, yout)) (H3 : ¬ ly_ud yops yA yB ycnt g n = -1 → post 3 (yorg, ystrip, nI n, ly_ud yops yA yB ycnt g n, ytend, yend, ymade, yrounds, yentry, ylinked, yran, ypc, ysteps, youts, yops, yA, yB, ycnt, yrole, ylist, yplace, ysym, yimg, ystay, ywide, ymem, yreg, yout)) : ∀ (d s : Nat), s + d = 16 → ly_ud yops yA yB ycnt g n = ly_fd (ly_ms yops yA yB ycnt g n) d s → wY_link_193 post yorg ystrip (nI n) yculp ytend yend ymade yrounds yentry ylinked yran ypc ysteps youts yops yA yB ycnt yrole ylist yplace ysym yimg ystay ywide ymem yreg yout (d + 1) (nI s) := by
  have hg : ∀ i, i < n → g i < 6 := fun i hi => (hL.2 i hi).1
  intro d
  induction d with
  | zero =>
    intro s hd he
    have e : s = 16 := by omega
    subst e
    exact br_t (by decide) (H0 _ (fun r yorg' ystrip' ymany' yculp' ytend' yend' ymade' yrounds' yentry' ylinked' yran' ypc' ysteps' youts' yops' yA' yB' ycnt' yrole' ylist' yplace' ysym' yimg' ystay' ywide' ymem' yreg' yout' h => h) he)
  | succ d ih =>
    intro s hd he
    have next : ly_ms yops yA yB ycnt g n s = false → wY_link_193 post yorg ystrip (nI n) yculp ytend yend ymade yrounds yentry ylinked yran ypc ysteps youts yops yA yB ycnt yrole ylist yplace ysym yimg ystay ywide ymem yreg yout (d + 1) (nI (s + 1)) := fun hf =>
      ih (s + 1) (by omega) (he.trans (if_neg (by rw [hf]; decide)))
    refine br_f (nI_ge (b := 16) (by omega) (by omega)) (ly_ywt (hW := hW) (hF := hF) (hL := hL) (hs := by omega) (H := ?_))
    cases hw : ly_wt yops yA yB ycnt g n s with
    | false => exact br_t rfl (nm_r (nI_1 s) (next (by unfold ly_ms; rw [hw, Bool.false_and])))
    | true =>
      refine br_f (by decide) (ly_ych (hW := hW) (hF := hF) (hL := hL) (s := nI s) (H := ?_))
      have ec : ly_cy yops yA yB ycnt g n (nI s) = ly_co yops yA yB ycnt g n (nI s) := by
        unfold ly_cy; rw [hv s (by omega), if_neg (by decide)]
      rw [ec]
      have hdf := ly_fl_df (o := yops) (a := yA) (b := yB) hW (g := g) (s := s) n hg
      cases hdd : ly_dd yops yA yB ycnt g n s with
      | false =>
        have hm : ly_ms yops yA yB ycnt g n s = true := by unfold ly_ms; rw [hw, hdd]; rfl
        have e : ly_ud yops yA yB ycnt g n = nI s := he.trans (if_pos hm)
        rw [e] at H3
        exact br_t (hdf.mpr hdd) (H3 (ly_m1 (by omega)))
      | true =>
        exact br_f (fun z => by rw [hdf.mp z] at hdd; exact absurd hdd (by decide)) (nm_r (nI_1 s) (next (by unfold ly_ms; rw [hdd]; exact Bool.and_false _)))
theorem ly_y162 {post : Int32 → SY → Prop} {yorg ystrip yculp ytend yend ymade yrounds yentry ylinked yran ypc ysteps youts : Int32} {yops yA yB ycnt yrole ylist yplace ysym yimg ystay ywide ymem yreg yout : Nat → Int32} (hW : ly_W ycnt) (hF : ly_F yops yA yB) {g : Nat → Nat} {n : Nat} (hL : ly_LS yops yA ycnt ylist g n)
    (H0 : ∀ P : Int32 → SY → Prop, (∀ (r : Int32) (yorg' ystrip' ymany' yculp' ytend' yend' ymade' yrounds' yentry' ylinked' yran' ypc' ysteps' youts' : Int32) (yops' yA' yB' ycnt' yrole' ylist' yplace' ysym' yimg' ystay' ywide' ymem' yreg' yout' : Nat → Int32), post r (yorg', ystrip', ymany', yculp', ytend', yend', ymade', yrounds', yentry', ylinked', yran', ypc', ysteps', youts', yops', yA', yB', ycnt', yrole', ylist', yplace', ysym', yimg', ystay', ywide', ymem', yreg', yout') → P r (yorg', ystrip', ymany', yculp', ytend', yend', ymade', yrounds', yentry', ylinked', yran', ypc', ysteps', youts', yops', yA', yB', ycnt', yrole', ylist', yplace', ysym', yimg', ystay', ywide', ymem', yreg', yout')) → (∀ s, s < 16 → ly_sv yops yA yB ycnt g (nI s) n = false) → ly_ds yops yA yB ycnt g n = -1 → ly_ud yops yA yB ycnt g n = -1 → wpY_arrange P (yorg, ystrip, nI n, yculp, ytend, yend, ymade, yrounds, yentry, ylinked, yran, ypc, ysteps, youts, yops, yA, yB, ycnt, yrole, ylist, yplace, ysym, yimg, ystay, ywide, ymem, yreg, yout)) (H3 : ly_ds yops yA yB ycnt g n = -1 → ¬ ly_ud yops yA yB ycnt g n = -1 → post 3 (yorg, ystrip, nI n, ly_ud yops yA yB ycnt g n, ytend, yend, ymade, yrounds, yentry, ylinked, yran, ypc, ysteps, youts, yops, yA, yB, ycnt, yrole, ylist, yplace, ysym, yimg, ystay, ywide, ymem, yreg, yout)) (H2 : ¬ ly_ds yops yA yB ycnt g n = -1 → post 2 (yorg, ystrip, nI n, ly_ds yops yA yB ycnt g n, ytend, yend, ymade, yrounds, yentry, ylinked, yran, ypc, ysteps, youts, yops, yA, yB, ycnt, yrole, ylist, yplace, ysym, yimg, ystay, ywide, ymem, yreg, yout)) : ∀ (d s : Nat), s + d = 16 → ly_ds yops yA yB ycnt g n = ly_fd (fun s => ly_sv yops yA yB ycnt g (nI s) n) d s → wY_link_162 post yorg ystrip (nI n) yculp ytend yend ymade yrounds yentry ylinked yran ypc ysteps youts yops yA yB ycnt yrole ylist yplace ysym yimg ystay ywide ymem yreg yout (d + 1) (nI s) := by
  have hg : ∀ i, i < n → g i < 6 := fun i hi => (hL.2 i hi).1
  intro d
  induction d with
  | zero =>
    intro s hd he
    have e : s = 16 := by omega
    subst e
    have hds : ly_ds yops yA yB ycnt g n = -1 := he
    have hv : ∀ s, s < 16 → ly_sv yops yA yB ycnt g (nI s) n = false := by
      rcases ly_fd_c (fun s => ly_sv yops yA yB ycnt g (nI s) n) 16 0 with ⟨_, h⟩ | ⟨j, _, j2, _, _, z⟩
      · exact fun s hs => h s (by omega) (by omega)
      · exact absurd (z.symm.trans hds) (ly_m1 (by omega))
    exact br_t (by decide) ⟨17, ly_y193 (hW := hW) (hF := hF) (hL := hL) (hv := hv) (H0 := fun P hP hu => H0 P hP hv hds hu) (H3 := H3 hds) 16 0 (by omega) rfl⟩
  | succ d ih =>
    intro s hd he
    refine br_f (nI_ge (b := 16) (by omega) (by omega)) (ly_ych (hW := hW) (hF := hF) (hL := hL) (s := nI s) (H := ?_))
    unfold ly_cy
    cases hs : ly_sv yops yA yB ycnt g (nI s) n with
    | true =>
      rw [if_pos rfl]
      have e : ly_ds yops yA yB ycnt g n = nI s := he.trans (if_pos hs)
      rw [e] at H2
      exact br_t rfl (H2 (ly_m1 (by omega)))
    | false =>
      rw [if_neg (by decide)]
      refine br_f (fun z => ?_) (nm_r (nI_1 s) (ih (s + 1) (by omega) (he.trans (if_neg (by dsimp only; rw [hs]; decide)))))
      rcases ly_co_c (o := yops) (a := yA) (b := yB) hW hg (nI s) with h | ⟨j, k, _, _, _, hk, h⟩
      · rw [h] at z; exact absurd z (by decide)
      · rw [h] at z; exact absurd z (ly_m2 (by omega))
end
section
/-! X: the chosen labels and the targets -/
theorem ly_xch2 {post : SX → Prop} {xbase xstrip xtend xaend xlcnt xlrnd xlinked xblamed xouts xpc xsteps xran : Int32} {xops xA xB xcnt xrole xloc xglo xweak xuse xrep xunit xtgt xstay xlong xlist xplace ximg xreg xstore xout : Nat → Int32} (hW : ly_W xcnt) {g : Nat → Nat} {n : Nat} (hL : ly_LS xops xA xcnt xlist g n) (H : ∀ ch : Nat → Int32, (∀ s, s < 16 → ch s = ly_co xops xA xB xcnt g n (nI s)) → post (xbase, xstrip, nI n, xtend, xaend, xlcnt, xlrnd, xlinked, xblamed, xouts, xpc, xsteps, xran, xops, xA, xB, xcnt, xrole, xloc, xglo, xweak, xuse, xrep, xunit, xtgt, xstay, xlong, xlist, ch, xplace, ximg, xreg, xstore, xout)) : ∀ (d s : Nat) (xchosen : Nat → Int32), s + d = 16 → (∀ q, q < s → xchosen q = ly_co xops xA xB xcnt g n (nI q)) → wX_chooseLabels_2 post xbase xstrip (nI n) xtend xaend xlcnt xlrnd xlinked xblamed xouts xpc xsteps xran (d + 1) (nI s) xops xA xB xcnt xrole xloc xglo xweak xuse xrep xunit xtgt xstay xlong xlist xchosen xplace ximg xreg xstore xout := by
  intro d
  induction d with
  | zero =>
    intro s ch hd hc
    have e : s = 16 := by omega
    subst e
    exact br_t (by decide) (H ch hc)
  | succ d ih =>
    intro s ch hd hc
    have es : (nI s).toNatClampNeg = s := ly_cl (by omega)
    have IH := ih (s + 1) (upd ch s (ly_co xops xA xB xcnt g n (nI s))) (by omega) (fun q hq => by
      by_cases e : q = s
      · subst e; exact pk_us
      · rw [pk_un e]; exact hc q (by omega))
    refine br_f (nI_ge (b := 16) (by omega) (by omega)) (ly_xfl (hW := hW) (hL := hL) (s := nI s) (t := 1) (H := ?_))
    unfold ly_co at IH
    by_cases z : ly_fl xops xA xB xcnt g (nI s) 1 n = -1
    · rw [if_pos z] at IH
      exact br_t z (ly_xfl (hW := hW) (hL := hL) (s := nI s) (t := 2) (H := ⟨vp_in_nI (by omega) (by omega), nm_r (e' := upd ch s (ly_fl xops xA xB xcnt g (nI s) 2 n)) (by rw [es]) (nm_r (nI_1 s) IH)⟩))
    · rw [if_neg z] at IH
      exact br_f z ⟨vp_in_nI (by omega) (by omega), nm_r (e' := upd ch s (ly_fl xops xA xB xcnt g (nI s) 1 n)) (by rw [es]) (nm_r (nI_1 s) IH)⟩
theorem ly_xch {post : SX → Prop} {xbase xstrip xtend xaend xlcnt xlrnd xlinked xblamed xouts xpc xsteps xran : Int32} {xops xA xB xcnt xrole xloc xglo xweak xuse xrep xunit xtgt xstay xlong xlist xchosen xplace ximg xreg xstore xout : Nat → Int32} (hW : ly_W xcnt) {g : Nat → Nat} {n : Nat} (hL : ly_LS xops xA xcnt xlist g n) (H : ∀ ch : Nat → Int32, (∀ s, s < 16 → ch s = ly_co xops xA xB xcnt g n (nI s)) → post (xbase, xstrip, nI n, xtend, xaend, xlcnt, xlrnd, xlinked, xblamed, xouts, xpc, xsteps, xran, xops, xA, xB, xcnt, xrole, xloc, xglo, xweak, xuse, xrep, xunit, xtgt, xstay, xlong, xlist, ch, xplace, ximg, xreg, xstore, xout)) : wpX_chooseLabels post (xbase, xstrip, nI n, xtend, xaend, xlcnt, xlrnd, xlinked, xblamed, xouts, xpc, xsteps, xran, xops, xA, xB, xcnt, xrole, xloc, xglo, xweak, xuse, xrep, xunit, xtgt, xstay, xlong, xlist, xchosen, xplace, ximg, xreg, xstore, xout) :=
  ⟨17, ly_xch2 (hW := hW) (hL := hL) (H := H) 16 0 xchosen (by omega) (fun q hq => absurd hq (Nat.not_lt_zero q))⟩
/-- an item of a listed module that uses a symbol -/
def ly_at (o cnt : Nat → Int32) (g : Nat → Nat) (n i : Nat) : Bool := (ly_li g n (i / 24) && decide (i % 24 < ly_c cnt (i / 24))) && ly_us (o i)
def ly_TP (o cnt : Nat → Int32) (g : Nat → Nat) (i k x : Nat) : Prop := ly_us (o x) = true ∧ x % 24 < ly_c cnt (x / 24) ∧ (ly_li g i (x / 24) = true ∨ (x / 24 = g i ∧ x % 24 < k))
theorem ly_li_s {g : Nat → Nat} {i m : Nat} : ly_li g (i + 1) m = (ly_li g i m || decide (g i = m)) := by
  show (_ || decide (g (0 + i) = m)) = _
  rw [Nat.zero_add]; rfl
theorem ly_x19 {post : SX → Prop} {J : Int32 → (Nat → Int32) → (Nat → Int32) → (Nat → Int32) → (Nat → Int32) → (Nat → Int32) → (Nat → Int32) → (Nat → Int32) → (Nat → Int32) → (Nat → Int32) → (Nat → Int32) → (Nat → Int32) → (Nat → Int32) → (Nat → Int32) → (Nat → Int32) → (Nat → Int32) → (Nat → Int32) → (Nat → Int32) → (Nat → Int32) → (Nat → Int32) → (Nat → Int32) → (Nat → Int32) → Prop} {xbase xstrip xtend xaend xlcnt xlrnd xlinked xblamed xouts xpc xsteps xran : Int32} {xops xA xB xcnt xrole xloc xglo xweak xuse xrep xunit xstay xlong xlist xchosen xplace ximg xreg xstore xout : Nat → Int32} (hW : ly_W xcnt) (hF : ly_F xops xA xB) {g : Nat → Nat} {n : Nat} (hch : ∀ s, s < 16 → xchosen s = ly_co xops xA xB xcnt g n (nI s)) {i : Nat} (hg : g i < 6)
    (H : ∀ tg : Nat → Int32, (∀ x, x < 144 → (ly_TP xops xcnt g i (ly_c xcnt (g i)) x → tg x = ly_tg xops xA xB xcnt g n x) ∧ (¬ ly_TP xops xcnt g i (ly_c xcnt (g i)) x → tg x = -1)) → J (nI (i + 1)) xops xA xB xcnt xrole xloc xglo xweak xuse xrep xunit tg xstay xlong xlist xchosen xplace ximg xreg xstore xout) : ∀ (d k : Nat) (xtgt : Nat → Int32), k + d = ly_c xcnt (g i) → (∀ x, x < 144 → (ly_TP xops xcnt g i k x → xtgt x = ly_tg xops xA xB xcnt g n x) ∧ (¬ ly_TP xops xcnt g i k x → xtgt x = -1)) → wX_findTargets_19 post J (nI i) (nI (g i)) xbase xstrip (nI n) xtend xaend xlcnt xlrnd xlinked xblamed xouts xpc xsteps xran (d + 1) (nI k) xops xA xB xcnt xrole xloc xglo xweak xuse xrep xunit xtgt xstay xlong xlist xchosen xplace ximg xreg xstore xout := by
  obtain ⟨hc, ec⟩ := hW _ hg
  have em : (nI (g i)).toNatClampNeg = g i := ly_cl (by omega)
  have ec' : xcnt (nI (g i)).toNatClampNeg = nI (ly_c xcnt (g i)) := by rw [em]; exact ec
  have vm : vp_in (nI (g i)) 6 := vp_in_nI hg (by omega)
  intro d
  induction d with
  | zero =>
    intro k tg hd hT
    have e : k = ly_c xcnt (g i) := by omega
    subst e
    exact ⟨vm, br_t (by rw [ec']; exact Int32.le_refl _) (nm_r (nI_1 i) (H tg hT))⟩
  | succ d ih =>
    intro k tg hd hT
    have hi : 24 * g i + k < 144 := by omega
    have ei : (nI (24 * g i + k)).toNatClampNeg = 24 * g i + k := ly_cl (by omega)
    have vi : vp_in (nI (24 * g i + k)) 144 := vp_in_nI hi (by omega)
    have q1 : (24 * g i + k) / 24 = g i := by omega
    have q2 : (24 * g i + k) % 24 = k := by omega
    have hTP : ∀ x, x < 144 → x ≠ 24 * g i + k → (ly_TP xops xcnt g i (k + 1) x ↔ ly_TP xops xcnt g i k x) := by
      intro x hx hne
      unfold ly_TP
      constructor
      · rintro ⟨a1, a2, a3⟩
        refine ⟨a1, a2, ?_⟩
        rcases a3 with a3 | a3
        · exact Or.inl a3
        · exact Or.inr ⟨a3.1, by have := a3.1; have := a3.2; omega⟩
      · rintro ⟨a1, a2, a3⟩
        refine ⟨a1, a2, ?_⟩
        rcases a3 with a3 | a3
        · exact Or.inl a3
        · exact Or.inr ⟨a3.1, by have := a3.2; omega⟩
    refine ⟨vm, br_f (by rw [ec']; exact nI_ge (by omega) (by omega)) (nm_r (ly_idx (g i) k) (ly_xused (hi := hi) (hf := hF _ hi) (H := ?_)))⟩
    cases hu : ly_us (xops (24 * g i + k)) with
    | false =>
      refine br_t (ly_u_f hu) (nm_r (nI_1 k) (ih (k + 1) tg (by omega) (fun x hx => ?_)))
      by_cases e : x = 24 * g i + k
      · subst e
        refine ⟨fun z => ?_, fun _ => (hT _ hx).2 (fun z => ?_)⟩
        · have := z.1; rw [hu] at this; exact absurd this (by decide)
        · have := z.1; rw [hu] at this; exact absurd this (by decide)
      · rw [hTP x hx e]; exact hT x hx
    | true =>
      obtain ⟨f, hf, ef⟩ := ly_ft_s (hF _ hi) hu
      rw [ly_u_t hu, ef]
      refine br_f (ly_m1 (by omega)) (ly_xla (hW := hW) (hm := hg) (s := nI f) (t := 0) (H := ?_))
      have etg : ly_tg xops xA xB xcnt g n (24 * g i + k) = if ly_xl xops xA xB xcnt (g i) (nI f) 0 = -1 then ly_co xops xA xB xcnt g n (nI f) else ly_xl xops xA xB xcnt (g i) (nI f) 0 := by
        unfold ly_tg; rw [ef, q1]
      have IH := ih (k + 1) (upd tg (24 * g i + k) (ly_tg xops xA xB xcnt g n (24 * g i + k))) (by omega) (fun x hx => by
        by_cases e : x = 24 * g i + k
        · subst e
          refine ⟨fun _ => pk_us, fun z => absurd (show ly_TP xops xcnt g i (k + 1) (24 * g i + k) from ⟨hu, by rw [q1, q2]; omega, Or.inr ⟨q1, by omega⟩⟩) z⟩
        · rw [hTP x hx e, pk_un e]; exact hT x hx)
      rw [etg] at IH
      by_cases z : ly_xl xops xA xB xcnt (g i) (nI f) 0 = -1
      · rw [if_pos z] at IH
        exact br_t z ⟨vp_in_nI hf (by omega), vi, nm_r (e' := upd tg (24 * g i + k) (ly_co xops xA xB xcnt g n (nI f))) (by rw [ei, ly_cl (i := f) (by omega), hch f hf]) (nm_r (nI_1 k) IH)⟩
      · rw [if_neg z] at IH
        exact br_f z ⟨vi, nm_r (e' := upd tg (24 * g i + k) (ly_xl xops xA xB xcnt (g i) (nI f) 0)) (by rw [ei]) (nm_r (nI_1 k) IH)⟩
theorem ly_xt2 {post : SX → Prop} {xbase xstrip xtend xaend xlcnt xlrnd xlinked xblamed xouts xpc xsteps xran : Int32} {xops xA xB xcnt xrole xloc xglo xweak xuse xrep xunit xstay xlong xlist xchosen xplace ximg xreg xstore xout : Nat → Int32} (hW : ly_W xcnt) (hF : ly_F xops xA xB) {g : Nat → Nat} {n : Nat} (hL : ly_LS xops xA xcnt xlist g n) (hch : ∀ s, s < 16 → xchosen s = ly_co xops xA xB xcnt g n (nI s))
    (H : ∀ tg : Nat → Int32, (∀ x, x < 144 → tg x = if ly_at xops xcnt g n x = true then ly_tg xops xA xB xcnt g n x else -1) → post (xbase, xstrip, nI n, xtend, xaend, xlcnt, xlrnd, xlinked, xblamed, xouts, xpc, xsteps, xran, xops, xA, xB, xcnt, xrole, xloc, xglo, xweak, xuse, xrep, xunit, tg, xstay, xlong, xlist, xchosen, xplace, ximg, xreg, xstore, xout)) : ∀ (d i : Nat) (xtgt : Nat → Int32), i + d = n → (∀ x, x < 144 → (ly_TP xops xcnt g i 0 x → xtgt x = ly_tg xops xA xB xcnt g n x) ∧ (¬ ly_TP xops xcnt g i 0 x → xtgt x = -1)) → wX_findTargets_2 post xbase xstrip (nI n) xtend xaend xlcnt xlrnd xlinked xblamed xouts xpc xsteps xran (d + 1) (nI i) xops xA xB xcnt xrole xloc xglo xweak xuse xrep xunit xtgt xstay xlong xlist xchosen xplace ximg xreg xstore xout := by
  obtain ⟨hn, hg⟩ := hL
  intro d
  induction d with
  | zero =>
    intro i tg hd hT
    have e : i = n := by omega
    subst e
    refine br_t (Int32.le_refl _) (H tg (fun x hx => ?_))
    cases ha : ly_at xops xcnt g i x with
    | true =>
      rw [if_pos rfl]
      unfold ly_at at ha
      rw [Bool.and_eq_true, Bool.and_eq_true, decide_eq_true_eq] at ha
      exact (hT x hx).1 ⟨ha.2, ha.1.2, Or.inl ha.1.1⟩
    | false =>
      rw [if_neg (by decide)]
      refine (hT x hx).2 (fun z => ?_)
      obtain ⟨z1, z2, z3⟩ := z
      rcases z3 with z3 | z3
      · unfold ly_at at ha
        rw [z3, z1, decide_eq_true z2] at ha
        exact absurd ha (by decide)
      · have := z3.2; omega
  | succ d ih =>
    intro i tg hd hT
    obtain ⟨g1, g2, g3⟩ := hg i (by omega)
    refine br_f (nI_ge (by omega) (by omega)) ⟨vp_in_nI (by omega) (by omega), nm_r (e' := nI (g i)) (by rw [ly_cl (i := i) (by omega), g2]) ⟨ly_c xcnt (g i) + 1, ly_x19 (hW := hW) (hF := hF) (hch := hch) (hg := g1) (H := fun tg' hT' => ih (i + 1) tg' (by omega) (fun x hx => ?_)) (ly_c xcnt (g i)) 0 tg (by omega) hT⟩⟩
    have e : ly_TP xops xcnt g (i + 1) 0 x ↔ ly_TP xops xcnt g i (ly_c xcnt (g i)) x := by
      unfold ly_TP
      rw [ly_li_s, Bool.or_eq_true, decide_eq_true_eq]
      constructor
      · rintro ⟨a1, a2, a3⟩
        refine ⟨a1, a2, ?_⟩
        rcases a3 with (a3 | a3) | a3
        · exact Or.inl a3
        · exact Or.inr ⟨a3.symm, by rw [a3]; exact a2⟩
        · have := a3.2; omega
      · rintro ⟨a1, a2, a3⟩
        refine ⟨a1, a2, ?_⟩
        rcases a3 with a3 | a3
        · exact Or.inl (Or.inl a3)
        · exact Or.inl (Or.inr a3.1.symm)
    rw [e]; exact hT' x hx
theorem ly_xtg {post : SX → Prop} {xbase xstrip xtend xaend xlcnt xlrnd xlinked xblamed xouts xpc xsteps xran : Int32} {xops xA xB xcnt xrole xloc xglo xweak xuse xrep xunit xtgt xstay xlong xlist xchosen xplace ximg xreg xstore xout : Nat → Int32} (hW : ly_W xcnt) (hF : ly_F xops xA xB) {g : Nat → Nat} {n : Nat} (hL : ly_LS xops xA xcnt xlist g n) (hch : ∀ s, s < 16 → xchosen s = ly_co xops xA xB xcnt g n (nI s)) (ht0 : ∀ x, x < 144 → xtgt x = -1)
    (H : ∀ tg : Nat → Int32, (∀ x, x < 144 → tg x = if ly_at xops xcnt g n x = true then ly_tg xops xA xB xcnt g n x else -1) → post (xbase, xstrip, nI n, xtend, xaend, xlcnt, xlrnd, xlinked, xblamed, xouts, xpc, xsteps, xran, xops, xA, xB, xcnt, xrole, xloc, xglo, xweak, xuse, xrep, xunit, tg, xstay, xlong, xlist, xchosen, xplace, ximg, xreg, xstore, xout)) : wpX_findTargets post (xbase, xstrip, nI n, xtend, xaend, xlcnt, xlrnd, xlinked, xblamed, xouts, xpc, xsteps, xran, xops, xA, xB, xcnt, xrole, xloc, xglo, xweak, xuse, xrep, xunit, xtgt, xstay, xlong, xlist, xchosen, xplace, ximg, xreg, xstore, xout) :=
  ⟨n + 1, ly_xt2 (hW := hW) (hF := hF) (hL := hL) (hch := hch) (H := H) n 0 xtgt (by omega) (fun x hx => ⟨fun z => by
    rcases z.2.2 with z3 | z3
    · exact absurd (show false = true from z3) (by decide)
    · have := z3.2; omega, fun _ => ht0 x hx⟩)⟩
/-- all that the later parts need of a good list -/
def ly_GD (o a b cnt : Nat → Int32) (g : Nat → Nat) (n : Nat) : Prop := n ≤ 6 ∧ (∀ i, i < n → g i < 6 ∧ ly_fy o a cnt (g i) = false) ∧ (∀ s, s < 16 → ly_sv o a b cnt g (nI s) n = false) ∧ (∀ s, s < 16 → ly_ms o a b cnt g n s = false)
theorem ly_li_g {g : Nat → Nat} {n m : Nat} : ly_li g n m = true ↔ ∃ i, i < n ∧ g i = m := by
  constructor
  · intro h
    obtain ⟨i, _, i2, i3⟩ := ly_ex_iff.mp h
    exact ⟨i, by omega, of_decide_eq_true i3⟩
  · rintro ⟨i, i1, i2⟩
    exact ly_ex_iff.mpr ⟨i, by omega, by omega, decide_eq_true i2⟩
/-- an item that is there -/
def ly_th (cnt : Nat → Int32) (g : Nat → Nat) (n t : Nat) : Prop := t < 144 ∧ ly_li g n (t / 24) = true ∧ t % 24 < ly_c cnt (t / 24)
theorem ly_co_t {o a b cnt : Nat → Int32} (hW : ly_W cnt) {g : Nat → Nat} {n : Nat} (hG : ly_GD o a b cnt g n) {s : Nat} (hs : s < 16) (hw : ly_wt o a b cnt g n s = true) : ∃ t, ly_th cnt g n t ∧ ly_co o a b cnt g n (nI s) = nI t := by
  obtain ⟨hn, hg, hv, hm⟩ := hG
  have hg6 : ∀ i, i < n → g i < 6 := fun i hi => (hg i hi).1
  rcases ly_co_c (o := o) (a := a) (b := b) hW hg6 (nI s) with h | ⟨j, k, j1, j2, j3, j4, e⟩
  · have hd := (ly_fl_df hW n hg6).mp h
    have := hm s hs
    unfold ly_ms at this
    rw [hw, hd] at this
    exact absurd this (by decide)
  · have := hg6 j j1
    have := (hW _ this).1
    have ek : k / 24 = g j := by omega
    exact ⟨k, ⟨j4, by rw [ek]; exact ly_li_g.mpr ⟨j, j1, rfl⟩, by rw [ek]; omega⟩, e⟩
theorem ly_tg_t {o a b cnt : Nat → Int32} (hW : ly_W cnt) (hF : ly_F o a b) {g : Nat → Nat} {n : Nat} (hG : ly_GD o a b cnt g n) {i : Nat} (hi : i < 144) (ha : ly_at o cnt g n i = true) : ∃ t, ly_th cnt g n t ∧ ly_tg o a b cnt g n i = nI t := by
  have ha' := ha
  unfold ly_at at ha'
  rw [Bool.and_eq_true, Bool.and_eq_true, decide_eq_true_eq] at ha'
  obtain ⟨⟨h1, h2⟩, h3⟩ := ha'
  obtain ⟨f, hf, ef⟩ := ly_ft_s (hF i hi) h3
  have hm : i / 24 < 6 := by omega
  have hc := (hW _ hm).1
  unfold ly_tg
  rw [ef]
  by_cases z : ly_xl o a b cnt (i / 24) (nI f) 0 = -1
  · rw [if_pos z]
    refine ly_co_t hW hG hf ?_
    obtain ⟨j, j1, j2⟩ := ly_li_g.mp h1
    unfold ly_wt
    have : ly_ex (fun i => ly_ak o a b cnt (g i) (nI f)) 0 n = true := by
      refine ly_ex_y (k := j) (by omega) (by omega) ?_
      show (ly_eu o a b cnt (g j) (nI f) && !ly_e3 o a b cnt (g j) (nI f) 0) = true
      rw [j2, ly_e3_xl hm hc, z]
      have : ly_eu o a b cnt (i / 24) (nI f) = true := ly_ex_y (k := i) (by omega) (by omega) (by unfold ly_up; rw [h3, ef, decide_eq_true rfl]; rfl)
      rw [this]; rfl
    rw [this, Bool.or_true]
  · rw [if_neg z]
    rcases ly_fd_c (ly_l3 o a b (nI f) 0) (ly_c cnt (i / 24)) (24 * (i / 24)) with ⟨e, _⟩ | ⟨k, k1, k2, _, _, e⟩
    · exact absurd e z
    · have ek : k / 24 = i / 24 := by omega
      exact ⟨k, ⟨by omega, by rw [ek]; exact h1, by rw [ek]; omega⟩, e⟩
end
section
/-! the units that stay: without stripping the listed ones, with it the least closed set -/
def ly_tn (o a b cnt : Nat → Int32) (g : Nat → Nat) (n i : Nat) : Nat := (ly_tg o a b cnt g n i).toNatClampNeg
def ly_en (o a b cnt : Nat → Int32) (g : Nat → Nat) (n : Nat) : Nat := (ly_co o a b cnt g n 0).toNatClampNeg
theorem ly_tn_t {o a b cnt : Nat → Int32} (hW : ly_W cnt) (hF : ly_F o a b) {g : Nat → Nat} {n : Nat} (hG : ly_GD o a b cnt g n) {i : Nat} (hi : i < 144) (ha : ly_at o cnt g n i = true) : ly_th cnt g n (ly_tn o a b cnt g n i) ∧ ly_tg o a b cnt g n i = nI (ly_tn o a b cnt g n i) := by
  obtain ⟨t, h1, h2⟩ := ly_tg_t hW hF hG hi ha
  have e : ly_tn o a b cnt g n i = t := by
    unfold ly_tn; rw [h2]; exact nI_clamp (by have := h1.1; omega)
  rw [e]; exact ⟨h1, h2⟩
theorem ly_en_t {o a b cnt : Nat → Int32} (hW : ly_W cnt) {g : Nat → Nat} {n : Nat} (hG : ly_GD o a b cnt g n) : ly_th cnt g n (ly_en o a b cnt g n) ∧ ly_co o a b cnt g n 0 = nI (ly_en o a b cnt g n) := by
  obtain ⟨t, h1, h2⟩ := ly_co_t (s := 0) hW hG (by omega) (by unfold ly_wt; rw [decide_eq_true rfl, Bool.true_or])
  have h2' : ly_co o a b cnt g n 0 = nI t := h2
  have e : ly_en o a b cnt g n = t := by
    unfold ly_en; rw [h2']; exact nI_clamp (by have := h1.1; omega)
  rw [e]; exact ⟨h1, h2'⟩
def ly_RR (o a b cnt : Nat → Int32) (g : Nat → Nat) (n u : Nat) : Prop := ∀ S : Nat → Prop, S (ly_un o a (ly_en o a b cnt g n)) → (∀ i, i < 144 → ly_at o cnt g n i = true → S (ly_un o a i) → S (ly_un o a (ly_tn o a b cnt g n i))) → S u
theorem ly_RR_0 {o a b cnt : Nat → Int32} {g : Nat → Nat} {n : Nat} : ly_RR o a b cnt g n (ly_un o a (ly_en o a b cnt g n)) := fun _ h _ => h
theorem ly_RR_s {o a b cnt : Nat → Int32} {g : Nat → Nat} {n i : Nat} (hi : i < 144) (ha : ly_at o cnt g n i = true) (h : ly_RR o a b cnt g n (ly_un o a i)) : ly_RR o a b cnt g n (ly_un o a (ly_tn o a b cnt g n i)) := fun S h0 hs => hs i hi ha (h S h0 hs)
def ly_IV (o a b cnt : Nat → Int32) (g : Nat → Nat) (n : Nat) (st : Nat → Int32) : Prop := (∀ u, u < 12 → (st u = 0 ∨ st u = 1) ∧ (¬ st u = 0 → ly_RR o a b cnt g n u)) ∧ ¬ st (ly_un o a (ly_en o a b cnt g n)) = 0
def ly_CL (o a b cnt : Nat → Int32) (g : Nat → Nat) (n : Nat) (st : Nat → Int32) : Prop := ∀ i, i < 144 → ly_at o cnt g n i = true → ¬ st (ly_un o a i) = 0 → ¬ st (ly_un o a (ly_tn o a b cnt g n i)) = 0
def ly_SS (st : Nat → Int32) (u : Nat) : Bool := decide (¬ st u = 0)
theorem ly_IV_R {o a b cnt : Nat → Int32} {g : Nat → Nat} {n : Nat} {st : Nat → Int32} (h : ly_IV o a b cnt g n st) (hc : ly_CL o a b cnt g n st) {u : Nat} (hu : u < 12) : (¬ st u = 0 ↔ ly_RR o a b cnt g n u) :=
  ⟨(h.1 u hu).2, fun hr => hr (fun u => ¬ st u = 0) h.2 hc⟩
theorem ly_IV_u {o a b cnt : Nat → Int32} {g : Nat → Nat} {n : Nat} {st : Nat → Int32} (h : ly_IV o a b cnt g n st) {i : Nat} (hi : i < 144) (ha : ly_at o cnt g n i = true) (hu : ly_un o a i < 12) (hs : ¬ st (ly_un o a i) = 0) : ly_IV o a b cnt g n (upd st (ly_un o a (ly_tn o a b cnt g n i)) 1) := by
  refine ⟨fun u hu' => ?_, ?_⟩
  · by_cases e : u = ly_un o a (ly_tn o a b cnt g n i)
    · subst e; rw [pk_us]
      exact ⟨Or.inr rfl, fun _ => ly_RR_s hi ha ((h.1 _ hu).2 hs)⟩
    · rw [pk_un e]; exact h.1 u hu'
  · by_cases e : ly_un o a (ly_en o a b cnt g n) = ly_un o a (ly_tn o a b cnt g n i)
    · rw [e, pk_us]; decide
    · rw [pk_un e]; exact h.2
/-- a pass that adds none finds it closed -/
theorem ly_ct_cl {o a b cnt : Nat → Int32} (hF : ly_F o a b) {g : Nat → Nat} {n : Nat} {st st' : Nat → Int32} (hm : ∀ u, u < 12 → ¬ st u = 0 → ¬ st' u = 0) (hp : ∀ i, i < 144 → ly_at o cnt g n i = true → ¬ st (ly_un o a i) = 0 → ¬ st' (ly_un o a (ly_tn o a b cnt g n i)) = 0) (ht : ∀ i, i < 144 → ly_at o cnt g n i = true → ly_tn o a b cnt g n i < 144) (hct : ly_ct (ly_SS st') 12 ≤ ly_ct (ly_SS st) 12) : ly_CL o a b cnt g n st ∧ ly_CL o a b cnt g n st' := by
  have mono : ∀ u, u < 12 → ly_SS st u = true → ly_SS st' u = true := fun u hu h => decide_eq_true (hm u hu (of_decide_eq_true h))
  have same : ∀ u, u < 12 → ¬ st' u = 0 → ¬ st u = 0 := by
    intro u hu h h0
    have := ly_ct_str mono hu (decide_eq_true h) (decide_eq_false (fun z => z h0))
    omega
  refine ⟨fun i hi ha hs => ?_, fun i hi ha hs => ?_⟩
  · exact same _ (ly_un_lt hF (ht i hi ha)) (hp i hi ha hs)
  · exact hp i hi ha (same _ (ly_un_lt hF hi) hs)
/-! X -/
theorem ly_xk35 {post : SX → Prop} {J : Int32 → (Nat → Int32) → (Nat → Int32) → (Nat → Int32) → (Nat → Int32) → (Nat → Int32) → (Nat → Int32) → (Nat → Int32) → (Nat → Int32) → (Nat → Int32) → (Nat → Int32) → (Nat → Int32) → (Nat → Int32) → (Nat → Int32) → (Nat → Int32) → (Nat → Int32) → (Nat → Int32) → (Nat → Int32) → (Nat → Int32) → (Nat → Int32) → (Nat → Int32) → (Nat → Int32) → Prop} {xbase xstrip xtend xaend xlcnt xlrnd xlinked xblamed xouts xpc xsteps xran : Int32} {xops xA xB xcnt xrole xloc xglo xweak xuse xrep xunit xtgt xlong xlist xchosen xplace ximg xreg xstore xout : Nat → Int32} (hW : ly_W xcnt) (hF : ly_F xops xA xB) {g : Nat → Nat} {n : Nat} (hG : ly_GD xops xA xB xcnt g n) (hT : ∀ x, x < 144 → xtgt x = if ly_at xops xcnt g n x = true then ly_tg xops xA xB xcnt g n x else -1) (hU : ∀ t, ly_th xcnt g n t → xunit t = nI (ly_un xops xA t)) (st0 : Nat → Int32) {p : Nat}
    (H : ∀ st : Nat → Int32, ly_IV xops xA xB xcnt g n st → (∀ u, u < 12 → ¬ st0 u = 0 → ¬ st u = 0) → (∀ i, i < 144 → ly_at xops xcnt g n i = true → ¬ st0 (ly_un xops xA i) = 0 → ¬ st (ly_un xops xA (ly_tn xops xA xB xcnt g n i)) = 0) → (ly_CL xops xA xB xcnt g n st0 → ∀ u, u < 12 → (¬ st u = 0 → ¬ st0 u = 0)) → J (nI (p + 1)) xops xA xB xcnt xrole xloc xglo xweak xuse xrep xunit xtgt st xlong xlist xchosen xplace ximg xreg xstore xout) :
    ∀ (d j : Nat) (xstay : Nat → Int32), j + d = 144 → ly_IV xops xA xB xcnt g n xstay → (∀ u, u < 12 → ¬ st0 u = 0 → ¬ xstay u = 0) → (∀ i, i < j → ly_at xops xcnt g n i = true → ¬ st0 (ly_un xops xA i) = 0 → ¬ xstay (ly_un xops xA (ly_tn xops xA xB xcnt g n i)) = 0) → (ly_CL xops xA xB xcnt g n st0 → ∀ u, u < 12 → (¬ xstay u = 0 → ¬ st0 u = 0)) → wX_keepReached_35 post J (nI p) xbase xstrip (nI n) xtend xaend xlcnt xlrnd xlinked xblamed xouts xpc xsteps xran (d + 1) (nI j) xops xA xB xcnt xrole xloc xglo xweak xuse xrep xunit xtgt xstay xlong xlist xchosen xplace ximg xreg xstore xout := by
  intro d
  induction d with
  | zero =>
    intro j st hd h1 h2 h3 h4
    have e : j = 144 := by omega
    subst e
    exact br_t (by decide) (nm_r (nI_1 p) (H st h1 h2 h3 h4))
  | succ d ih =>
    intro j st hd h1 h2 h3 h4
    have hj : j < 144 := by omega
    have ej : (nI j).toNatClampNeg = j := ly_cl (by omega)
    have vj : vp_in (nI j) 144 := vp_in_nI hj (by omega)
    refine br_f (nI_ge (b := 144) hj (by omega)) ⟨vj, ?_⟩
    rw [ej]
    cases ha : ly_at xops xcnt g n j with
    | false =>
      have et : xtgt j = -1 := by rw [hT j hj, ha]; rfl
      refine br_t et (nm_r (nI_1 j) (ih (j + 1) st (by omega) h1 h2 (fun i hi ha' hs => ?_) h4))
      by_cases e : i = j
      · subst e; rw [ha] at ha'; exact absurd ha' (by decide)
      · exact h3 i (by omega) ha' hs
    | true =>
      obtain ⟨t1, t2⟩ := ly_tn_t hW hF hG hj ha
      have et : xtgt j = nI (ly_tn xops xA xB xcnt g n j) := by rw [hT j hj, ha, if_pos rfl]; exact t2
      have hthj : ly_th xcnt g n j := by
        unfold ly_at at ha
        rw [Bool.and_eq_true, Bool.and_eq_true, decide_eq_true_eq] at ha
        exact ⟨hj, ha.1.1, ha.1.2⟩
      have hu := ly_un_lt hF hj
      have hu2 := ly_un_lt hF t1.1
      have eu : xunit j = nI (ly_un xops xA j) := hU j hthj
      have eu2 := hU _ t1
      have ht := t1.1
      rw [et, eu]
      refine br_f (ly_m1 (by omega)) ⟨vj, vp_in_nI hu (by omega), ?_⟩
      rw [ly_cl (i := ly_un xops xA j) (by omega)]
      by_cases hs : st (ly_un xops xA j) = 0
      · refine br_t hs (nm_r (nI_1 j) (ih (j + 1) st (by omega) h1 h2 (fun i hi ha' hs' => ?_) h4))
        by_cases e : i = j
        · subst e; exact absurd hs (h2 _ hu hs')
        · exact h3 i (by omega) ha' hs'
      · refine br_f hs ⟨vj, vp_in_nI ht (by omega), ?_⟩
        rw [ly_cl (i := ly_tn xops xA xB xcnt g n j) (by omega), eu2]
        refine ⟨vp_in_nI hu2 (by omega), nm_r (e' := upd st (ly_un xops xA (ly_tn xops xA xB xcnt g n j)) 1) (by rw [ly_cl (by omega), ly_nar1]) (nm_r (nI_1 j) (ih (j + 1) _ (by omega) (ly_IV_u h1 hj ha hu hs) (fun u hu' hs' => ?_) (fun i hi ha' hs' => ?_) (fun hC u hu' hs' => ?_)))⟩
        · by_cases e : u = ly_un xops xA (ly_tn xops xA xB xcnt g n j)
          · rw [e, pk_us]; decide
          · rw [pk_un e]; exact h2 u hu' hs'
        · by_cases e : ly_un xops xA (ly_tn xops xA xB xcnt g n i) = ly_un xops xA (ly_tn xops xA xB xcnt g n j)
          · rw [e, pk_us]; decide
          · rw [pk_un e]
            by_cases e2 : i = j
            · subst e2; exact absurd rfl e
            · exact h3 i (by omega) ha' hs'
        · by_cases e : u = ly_un xops xA (ly_tn xops xA xB xcnt g n j)
          · rw [e]; exact hC j hj ha (h4 hC _ hu hs)
          · rw [pk_un e] at hs'; exact h4 hC u hu' hs'
theorem ly_xk27 {post : SX → Prop} {xbase xstrip xtend xaend xlcnt xlrnd xlinked xblamed xouts xpc xsteps xran : Int32} {xops xA xB xcnt xrole xloc xglo xweak xuse xrep xunit xtgt xlong xlist xchosen xplace ximg xreg xstore xout : Nat → Int32} (hW : ly_W xcnt) (hF : ly_F xops xA xB) {g : Nat → Nat} {n : Nat} (hG : ly_GD xops xA xB xcnt g n) (hT : ∀ x, x < 144 → xtgt x = if ly_at xops xcnt g n x = true then ly_tg xops xA xB xcnt g n x else -1) (hU : ∀ t, ly_th xcnt g n t → xunit t = nI (ly_un xops xA t))
    (H : ∀ st : Nat → Int32, ly_IV xops xA xB xcnt g n st → ly_CL xops xA xB xcnt g n st → post (xbase, xstrip, nI n, xtend, xaend, xlcnt, xlrnd, xlinked, xblamed, xouts, xpc, xsteps, xran, xops, xA, xB, xcnt, xrole, xloc, xglo, xweak, xuse, xrep, xunit, xtgt, st, xlong, xlist, xchosen, xplace, ximg, xreg, xstore, xout)) :
    ∀ (d p : Nat) (xstay : Nat → Int32), p + d = 12 → ly_IV xops xA xB xcnt g n xstay → (ly_CL xops xA xB xcnt g n xstay ∨ p + 1 ≤ ly_ct (ly_SS xstay) 12) → wX_keepReached_27 post xbase xstrip (nI n) xtend xaend xlcnt xlrnd xlinked xblamed xouts xpc xsteps xran (d + 1) (nI p) xops xA xB xcnt xrole xloc xglo xweak xuse xrep xunit xtgt xstay xlong xlist xchosen xplace ximg xreg xstore xout := by
  have ht : ∀ i, i < 144 → ly_at xops xcnt g n i = true → ly_tn xops xA xB xcnt g n i < 144 := fun i hi ha => (ly_tn_t hW hF hG hi ha).1.1
  intro d
  induction d with
  | zero =>
    intro p st hd h1 h2
    have e : p = 12 := by omega
    subst e
    refine br_t (by decide) (H st h1 ?_)
    rcases h2 with h2 | h2
    · exact h2
    · have := ly_ct_le (ly_SS st) 12; omega
  | succ d ih =>
    intro p st hd h1 h2
    refine br_f (nI_ge (b := 12) (by omega) (by omega)) ⟨145, ly_xk35 (hW := hW) (hF := hF) (hG := hG) (hT := hT) (hU := hU) (st0 := st) (H := fun st' h1' h2' h3' h4' => ih (p + 1) st' (by omega) h1' ?_) 144 0 st (by omega) h1 (fun _ _ h => h) (fun i hi => absurd hi (Nat.not_lt_zero i)) (fun _ _ _ h => h)⟩
    rcases h2 with h2 | h2
    · refine Or.inl (fun i hi ha hs => ?_)
      exact h2' _ (ly_un_lt hF (ht i hi ha)) (h2 i hi ha (h4' h2 _ (ly_un_lt hF hi) hs))
    · rcases Nat.lt_or_ge (ly_ct (ly_SS st) 12) (ly_ct (ly_SS st') 12) with z | z
      · exact Or.inr (by omega)
      · exact Or.inl (ly_ct_cl hF h2' h3' ht z).2
/-- which units stay -/
def ly_KP (o a b cnt : Nat → Int32) (g : Nat → Nat) (n : Nat) (strip : Int32) (u : Nat) : Prop := (strip = 0 ∧ ly_li g n (u / 2) = true) ∨ (¬ strip = 0 ∧ ly_RR o a b cnt g n u)
def ly_KS (o a b cnt : Nat → Int32) (g : Nat → Nat) (n : Nat) (strip : Int32) (st : Nat → Int32) : Prop := ∀ u, u < 12 → (st u = 0 ∨ st u = 1) ∧ (¬ st u = 0 ↔ ly_KP o a b cnt g n strip u)
theorem ly_xk14 {post : SX → Prop} {xbase xstrip xtend xaend xlcnt xlrnd xlinked xblamed xouts xpc xsteps xran : Int32} {xops xA xB xcnt xrole xloc xglo xweak xuse xrep xunit xtgt xlong xlist xchosen xplace ximg xreg xstore xout : Nat → Int32} {g : Nat → Nat} {n : Nat} (hL : ly_LS xops xA xcnt xlist g n)
    (H : ∀ st : Nat → Int32, (∀ u, u < 12 → st u = ly_bi (ly_li g n (u / 2))) → post (xbase, xstrip, nI n, xtend, xaend, xlcnt, xlrnd, xlinked, xblamed, xouts, xpc, xsteps, xran, xops, xA, xB, xcnt, xrole, xloc, xglo, xweak, xuse, xrep, xunit, xtgt, st, xlong, xlist, xchosen, xplace, ximg, xreg, xstore, xout)) : ∀ (d i : Nat) (xstay : Nat → Int32), i + d = n → (∀ u, u < 12 → xstay u = ly_bi (ly_li g i (u / 2))) → wX_keepUnits_14 post xbase xstrip (nI n) xtend xaend xlcnt xlrnd xlinked xblamed xouts xpc xsteps xran (d + 1) (nI i) xops xA xB xcnt xrole xloc xglo xweak xuse xrep xunit xtgt xstay xlong xlist xchosen xplace ximg xreg xstore xout := by
  obtain ⟨hn, hg⟩ := hL
  intro d
  induction d with
  | zero =>
    intro i st hd h
    have e : i = n := by omega
    subst e
    exact br_t (Int32.le_refl _) (H st h)
  | succ d ih =>
    intro i st hd h
    obtain ⟨g1, g2, g3⟩ := hg i (by omega)
    have vi : vp_in (nI i) 6 := vp_in_nI (by omega) (by omega)
    have e0 : nI (g i) * 2 + 0 = nI (2 * g i) := ly_idx2 (g i) 0
    have e1 : nI (g i) * 2 + 1 = nI (2 * g i + 1) := ly_idx2 (g i) 1
    refine br_f (nI_ge (by omega) (by omega)) ⟨vi, ?_⟩
    rw [ly_cl (i := i) (by omega), g2, e0, e1]
    refine ⟨vp_in_nI (by omega) (by omega), nm_r (e' := upd st (2 * g i) 1) (by rw [ly_cl (by omega), ly_nar1]) ⟨vi, vp_in_nI (by omega) (by omega), nm_r (e' := upd (upd st (2 * g i) 1) (2 * g i + 1) 1) (by rw [ly_cl (by omega), ly_nar1]) (nm_r (nI_1 i) (ih (i + 1) _ (by omega) (fun u hu => ?_)))⟩⟩
    rw [ly_li_s]
    by_cases a1 : u = 2 * g i + 1
    · rw [a1, pk_us, decide_eq_true (by omega), Bool.or_true]; rfl
    · rw [pk_un a1]
      by_cases a0 : u = 2 * g i
      · rw [a0, pk_us, decide_eq_true (by omega), Bool.or_true]; rfl
      · rw [pk_un a0, decide_eq_false (by omega), Bool.or_false]; exact h u hu
theorem ly_xku {post : SX → Prop} {xbase xstrip xtend xaend xlcnt xlrnd xlinked xblamed xouts xpc xsteps xran : Int32} {xops xA xB xcnt xrole xloc xglo xweak xuse xrep xunit xtgt xstay xlong xlist xchosen xplace ximg xreg xstore xout : Nat → Int32} (hW : ly_W xcnt) (hF : ly_F xops xA xB) {g : Nat → Nat} {n : Nat} (hL : ly_LS xops xA xcnt xlist g n) (hG : ly_GD xops xA xB xcnt g n) (hch : ∀ s, s < 16 → xchosen s = ly_co xops xA xB xcnt g n (nI s)) (hT : ∀ x, x < 144 → xtgt x = if ly_at xops xcnt g n x = true then ly_tg xops xA xB xcnt g n x else -1) (hU : ∀ t, ly_th xcnt g n t → xunit t = nI (ly_un xops xA t)) (h0 : ∀ u, u < 12 → xstay u = 0)
    (H : ∀ st : Nat → Int32, ly_KS xops xA xB xcnt g n xstrip st → post (xbase, xstrip, nI n, xtend, xaend, xlcnt, xlrnd, xlinked, xblamed, xouts, xpc, xsteps, xran, xops, xA, xB, xcnt, xrole, xloc, xglo, xweak, xuse, xrep, xunit, xtgt, st, xlong, xlist, xchosen, xplace, ximg, xreg, xstore, xout)) : wpX_keepUnits post (xbase, xstrip, nI n, xtend, xaend, xlcnt, xlrnd, xlinked, xblamed, xouts, xpc, xsteps, xran, xops, xA, xB, xcnt, xrole, xloc, xglo, xweak, xuse, xrep, xunit, xtgt, xstay, xlong, xlist, xchosen, xplace, ximg, xreg, xstore, xout) := by
  by_cases hs : xstrip = 0
  · refine br_t hs ⟨n + 1, ly_xk14 (hL := hL) (H := fun st hst => H st (fun u hu => ?_)) n 0 xstay (by omega) (fun u hu => by rw [h0 u hu]; rfl)⟩
    rw [hst u hu]
    refine ⟨ly_bi01 _, ⟨fun z => Or.inl ⟨hs, ?_⟩, fun z => ?_⟩⟩
    · cases hl : ly_li g n (u / 2) with
      | true => rfl
      | false => rw [hl] at z; exact absurd rfl z
    · rcases z with z | z
      · rw [z.2]; decide
      · exact absurd hs z.1
  · obtain ⟨t1, t2⟩ := ly_en_t hW hG
    have ec : xchosen 0 = nI (ly_en xops xA xB xcnt g n) := (hch 0 (by omega)).trans t2
    have eu := hU _ t1
    have ht := t1.1
    have hu := ly_un_lt hF ht
    refine br_f hs (nm_r ec (br_f (ly_m1 (by omega)) ⟨vp_in_nI ht (by omega), ?_⟩))
    rw [ly_cl (i := ly_en xops xA xB xcnt g n) (by omega), eu]
    refine ⟨vp_in_nI hu (by omega), nm_r (e' := upd xstay (ly_un xops xA (ly_en xops xA xB xcnt g n)) 1) (by rw [ly_cl (by omega), ly_nar1]) ⟨13, ly_xk27 (hW := hW) (hF := hF) (hG := hG) (hT := hT) (hU := hU) (H := fun st h1 h2 => H st (fun u hu' => ⟨(h1.1 u hu').1, ?_⟩)) 12 0 _ (by omega) ?_ ?_⟩⟩
    · rw [ly_IV_R h1 h2 hu']
      exact ⟨fun z => Or.inr ⟨hs, z⟩, fun z => by
        rcases z with z | z
        · exact absurd z.1 hs
        · exact z.2⟩
    · refine ⟨fun u hu' => ?_, by rw [pk_us]; decide⟩
      by_cases e : u = ly_un xops xA (ly_en xops xA xB xcnt g n)
      · subst e; rw [pk_us]; exact ⟨Or.inr rfl, fun _ => ly_RR_0⟩
      · rw [pk_un e, h0 u hu']; exact ⟨Or.inl rfl, fun z => absurd rfl z⟩
    · refine Or.inr ?_
      have := ly_ct_pos (p := ly_SS (upd xstay (ly_un xops xA (ly_en xops xA xB xcnt g n)) 1)) hu (by unfold ly_SS; rw [pk_us]; decide)
      omega
end
section
/-! Y: the units that stay -/
theorem ly_at_y {o cnt : Nat → Int32} {g : Nat → Nat} {n k m : Nat} (hm : ly_li g n m = true) (h1 : 24 * m ≤ k) (h2 : k < 24 * m + ly_c cnt m) (hc : ly_c cnt m ≤ 24) : ly_at o cnt g n k = ly_us (o k) := by
  unfold ly_at
  have e : k / 24 = m := by omega
  rw [e, hm, decide_eq_true (by omega)]; rfl
theorem ly_yr5 {post : SY → Prop} {yorg ystrip yculp ytend yend ymade yrounds yentry ylinked yran ypc ysteps youts : Int32} {yops yA yB ycnt yrole ylist yplace ysym yimg ywide ymem yreg yout : Nat → Int32} (hW : ly_W ycnt) (hF : ly_F yops yA yB) {g : Nat → Nat} {n : Nat} (hL : ly_LS yops yA ycnt ylist g n) (hG : ly_GD yops yA yB ycnt g n) {m : Nat} (hm : m < 6) (hl : ly_li g n m = true) (hf : ly_fy yops yA ycnt m = false) (st0 : Nat → Int32) (D : Nat → Prop)
    (H : ∀ st : Nat → Int32, ly_IV yops yA yB ycnt g n st → (∀ u, u < 12 → ¬ st0 u = 0 → ¬ st u = 0) → (∀ i, i < 144 → D i ∨ i / 24 = m → ly_at yops ycnt g n i = true → ¬ st0 (ly_un yops yA i) = 0 → ¬ st (ly_un yops yA (ly_tn yops yA yB ycnt g n i)) = 0) → post (yorg, ystrip, nI n, yculp, ytend, yend, ymade, yrounds, yentry, ylinked, yran, ypc, ysteps, youts, yops, yA, yB, ycnt, yrole, ylist, yplace, ysym, yimg, st, ywide, ymem, yreg, yout)) :
    ∀ (d k : Nat) (ystay : Nat → Int32), k + d = 24 * m + ly_c ycnt m → 24 * m ≤ k → ly_IV yops yA yB ycnt g n ystay → (∀ u, u < 12 → ¬ st0 u = 0 → ¬ ystay u = 0) → (∀ i, i < 144 → D i ∨ (i / 24 = m ∧ i < k) → ly_at yops ycnt g n i = true → ¬ st0 (ly_un yops yA i) = 0 → ¬ ystay (ly_un yops yA (ly_tn yops yA yB ycnt g n i)) = 0) → wY_reachFrom_5 post (nI m) yorg ystrip (nI n) yculp ytend yend ymade yrounds yentry ylinked yran ypc ysteps youts (d + 1) (nI k) yops yA yB ycnt yrole ylist yplace ysym yimg ystay ywide ymem yreg yout := by
  have hc := (hW m hm).1
  intro d
  induction d with
  | zero =>
    intro k st hd h24 h1 h2 h3
    rw [wY_reachFrom_5]
    refine ly_ylast (hW := hW) (hm := hm) (H := br_t (by rw [show k = 24 * m + ly_c ycnt m by omega]; exact Int32.le_refl _) (H st h1 h2 (fun i hi hD ha hs => ?_)))
    refine h3 i hi ?_ ha hs
    rcases hD with hD | hD
    · exact Or.inl hD
    · have ha' := ha
      unfold ly_at at ha'
      rw [Bool.and_eq_true, Bool.and_eq_true, decide_eq_true_eq, hD] at ha'
      exact Or.inr ⟨hD, by have := ha'.1.2; omega⟩
  | succ d ih =>
    intro k st hd h24 h1 h2 h3
    have hk : k < 144 := by omega
    have ek : (nI k).toNatClampNeg = k := ly_cl (by omega)
    have vk : vp_in (nI k) 144 := vp_in_nI hk (by omega)
    have eq24 : k / 24 = m := by omega
    have eat := ly_at_y (o := yops) (cnt := ycnt) hl h24 (by omega) hc
    rw [wY_reachFrom_5]
    refine ly_ylast (hW := hW) (hm := hm) (H := br_f (nI_ge (by omega) (by omega)) ⟨vk, ?_⟩)
    rw [ek]
    obtain ⟨op, hop, eo, _⟩ := hF k hk
    rw [eo]
    refine ly_yuses hop ?_
    have next : (ly_at yops ycnt g n k = true → ¬ st0 (ly_un yops yA k) = 0 → ¬ st (ly_un yops yA (ly_tn yops yA yB ycnt g n k)) = 0) → wY_reachFrom_5 post (nI m) yorg ystrip (nI n) yculp ytend yend ymade yrounds yentry ylinked yran ypc ysteps youts (d + 1) (nI (k + 1)) yops yA yB ycnt yrole ylist yplace ysym yimg st ywide ymem yreg yout := by
      intro hk'
      refine ih (k + 1) st (by omega) (by omega) h1 h2 (fun i hi hD ha hs => ?_)
      by_cases e : i = k
      · subst e; exact hk' ha hs
      · refine h3 i hi ?_ ha hs
        rcases hD with hD | hD
        · exact Or.inl hD
        · exact Or.inr ⟨hD.1, by have := hD.2; omega⟩
    cases hu : ly_us (nI op) with
    | false =>
      refine br_t rfl (nm_r (nI_1 k) (next (fun z => ?_)))
      rw [eat, eo, hu] at z
      exact absurd z (by decide)
    | true =>
      have ha : ly_at yops ycnt g n k = true := by rw [eat, eo]; exact hu
      obtain ⟨t1, t2⟩ := ly_tn_t hW hF hG hk ha
      have hun := ly_un_lt hF hk
      have hun2 := ly_un_lt hF t1.1
      have ht := t1.1
      refine br_f (by decide) (ly_yun (hF := hF) (hi := hk) (H := ⟨vp_in_nI hun (by omega), ?_⟩))
      rw [ly_cl (i := ly_un yops yA k) (by omega)]
      by_cases hs : st (ly_un yops yA k) = 0
      · exact br_t hs (nm_r (nI_1 k) (next (fun _ z => absurd hs (h2 _ hun z))))
      · obtain ⟨f, hf', ef⟩ := ly_ft_s (hF k hk) (by rw [eo]; exact hu)
        refine br_f hs (ly_ytg (hW := hW) (hF := hF) (hL := hL) (hi := hk) (hf := by rw [eq24]; exact hf) (hs := by rw [ef]; exact hG.2.2.1 f hf') (H := ?_))
        rw [t2]
        refine ly_yun (hF := hF) (hi := ht) (H := ⟨vp_in_nI hun2 (by omega), nm_r (e' := upd st (ly_un yops yA (ly_tn yops yA yB ycnt g n k)) 1) (by rw [ly_cl (by omega), ly_nar1]) (nm_r (nI_1 k) (ih (k + 1) _ (by omega) (by omega) (ly_IV_u h1 hk ha hun hs) (fun u hu' hs' => ?_) (fun i hi hD ha' hs' => ?_)))⟩)
        · by_cases e : u = ly_un yops yA (ly_tn yops yA yB ycnt g n k)
          · rw [e, pk_us]; decide
          · rw [pk_un e]; exact h2 u hu' hs'
        · by_cases e : ly_un yops yA (ly_tn yops yA yB ycnt g n i) = ly_un yops yA (ly_tn yops yA yB ycnt g n k)
          · rw [e, pk_us]; decide
          · rw [pk_un e]
            refine h3 i hi ?_ ha' hs'
            rcases hD with hD | hD
            · exact Or.inl hD
            · by_cases e2 : i = k
              · subst e2; exact absurd rfl e
              · exact Or.inr ⟨hD.1, by have := hD.2; omega⟩
theorem ly_y81 {post : SY → Prop} {J : Int32 → Int32 → Int32 → Int32 → Int32 → Int32 → Int32 → Int32 → Int32 → Int32 → Int32 → Int32 → Int32 → Int32 → Int32 → Int32 → (Nat → Int32) → (Nat → Int32) → (Nat → Int32) → (Nat → Int32) → (Nat → Int32) → (Nat → Int32) → (Nat → Int32) → (Nat → Int32) → (Nat → Int32) → (Nat → Int32) → (Nat → Int32) → (Nat → Int32) → (Nat → Int32) → (Nat → Int32) → Prop} {yorg ystrip yculp ytend yend ymade yrounds yentry ylinked yran ypc ysteps youts : Int32} {yops yA yB ycnt yrole ylist yplace ysym yimg ywide ymem yreg yout : Nat → Int32} (hW : ly_W ycnt) (hF : ly_F yops yA yB) {g : Nat → Nat} {n : Nat} (hL : ly_LS yops yA ycnt ylist g n) (hG : ly_GD yops yA yB ycnt g n) (x2 : Int32) (st0 : Nat → Int32)
    (H : ∀ st : Nat → Int32, ly_IV yops yA yB ycnt g n st → (∀ u, u < 12 → ¬ st0 u = 0 → ¬ st u = 0) → (∀ i, i < 144 → ly_at yops ycnt g n i = true → ¬ st0 (ly_un yops yA i) = 0 → ¬ st (ly_un yops yA (ly_tn yops yA yB ycnt g n i)) = 0) → ∃ n112, wY_findUnits_112 post J x2 yorg ystrip (nI n) yculp ytend yend ymade yrounds yentry ylinked yran ypc ysteps youts yops yA yB ycnt yrole ylist yplace ysym yimg st ywide ymem yreg yout n112 0 0) :
    ∀ (d i : Nat) (ystay : Nat → Int32), i + d = n → ly_IV yops yA yB ycnt g n ystay → (∀ u, u < 12 → ¬ st0 u = 0 → ¬ ystay u = 0) → (∀ x, x < 144 → ly_li g i (x / 24) = true → ly_at yops ycnt g n x = true → ¬ st0 (ly_un yops yA x) = 0 → ¬ ystay (ly_un yops yA (ly_tn yops yA yB ycnt g n x)) = 0) → wY_findUnits_81 post J x2 (d + 1) (nI i) yorg ystrip (nI n) yculp ytend yend ymade yrounds yentry ylinked yran ypc ysteps youts yops yA yB ycnt yrole ylist yplace ysym yimg ystay ywide ymem yreg yout := by
  intro d
  induction d with
  | zero =>
    intro i st hd h1 h2 h3
    have e : i = n := by omega
    subst e
    refine br_t (Int32.le_refl _) (H st h1 h2 (fun x hx ha hs => h3 x hx ?_ ha hs))
    unfold ly_at at ha
    rw [Bool.and_eq_true, Bool.and_eq_true] at ha
    exact ha.1.1
  | succ d ih =>
    intro i st hd h1 h2 h3
    have hn := hL.1
    obtain ⟨g1, g2, g3⟩ := hL.2 i (by omega)
    refine br_f (nI_ge (by omega) (by omega)) ⟨vp_in_nI (by omega) (by omega), ?_⟩
    rw [ly_cl (i := i) (by omega), g2]
    refine nm_r (ly_idy (g i)) ⟨ly_c ycnt (g i) + 1, ly_yr5 (hW := hW) (hF := hF) (hL := hL) (hG := hG) (hm := g1) (hl := ly_li_g.mpr ⟨i, by omega, rfl⟩) (hf := g3) (st0 := st0) (D := fun x => ly_li g i (x / 24) = true) (H := fun st' h1' h2' h3' => nm_r (nI_1 i) (ih (i + 1) st' (by omega) h1' h2' (fun x hx hli ha hs => h3' x hx ?_ ha hs))) (ly_c ycnt (g i)) (24 * g i) st rfl (Nat.le_refl _) h1 h2 (fun x hx hD ha hs => ?_)⟩
    · rw [ly_li_s, Bool.or_eq_true, decide_eq_true_eq] at hli
      rcases hli with z | z
      · exact Or.inl z
      · exact Or.inr z.symm
    · rcases hD with hD | hD
      · exact h3 x hx hD ha hs
      · have := hD.1; have := hD.2; omega
theorem ly_y112 {post : SY → Prop} {J : Int32 → Int32 → Int32 → Int32 → Int32 → Int32 → Int32 → Int32 → Int32 → Int32 → Int32 → Int32 → Int32 → Int32 → Int32 → Int32 → (Nat → Int32) → (Nat → Int32) → (Nat → Int32) → (Nat → Int32) → (Nat → Int32) → (Nat → Int32) → (Nat → Int32) → (Nat → Int32) → (Nat → Int32) → (Nat → Int32) → (Nat → Int32) → (Nat → Int32) → (Nat → Int32) → (Nat → Int32) → Prop} {yorg ystrip ymany yculp ytend yend ymade yrounds yentry ylinked yran ypc ysteps youts : Int32} {yops yA yB ycnt yrole ylist yplace ysym yimg ystay ywide ymem yreg yout : Nat → Int32} (x2 : Int32) (H : J x2 (nI (ly_ct (ly_SS ystay) 12)) yorg ystrip ymany yculp ytend yend ymade yrounds yentry ylinked yran ypc ysteps youts yops yA yB ycnt yrole ylist yplace ysym yimg ystay ywide ymem yreg yout) : ∀ (d u : Nat), u + d = 12 → wY_findUnits_112 post J x2 yorg ystrip ymany yculp ytend yend ymade yrounds yentry ylinked yran ypc ysteps youts yops yA yB ycnt yrole ylist yplace ysym yimg ystay ywide ymem yreg yout (d + 1) (nI (ly_ct (ly_SS ystay) u)) (nI u) := by
  intro d
  induction d with
  | zero =>
    intro u hd
    have e : u = 12 := by omega
    subst e
    exact br_t (by decide) H
  | succ d ih =>
    intro u hd
    refine br_f (nI_ge (b := 12) (by omega) (by omega)) ⟨vp_in_nI (by omega) (by omega), ?_⟩
    rw [ly_cl (i := u) (by omega)]
    have IH := ih (u + 1) (by omega)
    have es : ly_ct (ly_SS ystay) (u + 1) = ly_ct (ly_SS ystay) u + (if ly_SS ystay u = true then 1 else 0) := rfl
    by_cases h : ystay u = 0
    · rw [es, if_neg (by unfold ly_SS; rw [decide_eq_false (fun z => z h)]; decide)] at IH
      exact br_t h (nm_r (nI_1 u) IH)
    · rw [es, if_pos (show ly_SS ystay u = true from decide_eq_true h)] at IH
      exact br_f h (nm_r (nI_1 _) (nm_r (nI_1 u) IH))
theorem ly_y71 {post : SY → Prop} {yorg ystrip yculp ytend yend ymade yrounds yentry ylinked yran ypc ysteps youts : Int32} {yops yA yB ycnt yrole ylist yplace ysym yimg ywide ymem yreg yout : Nat → Int32} (hW : ly_W ycnt) (hF : ly_F yops yA yB) {g : Nat → Nat} {n : Nat} (hL : ly_LS yops yA ycnt ylist g n) (hG : ly_GD yops yA yB ycnt g n)
    (H : ∀ st : Nat → Int32, ly_IV yops yA yB ycnt g n st → ly_CL yops yA yB ycnt g n st → post (yorg, ystrip, nI n, yculp, ytend, yend, ymade, yrounds, yentry, ylinked, yran, ypc, ysteps, youts, yops, yA, yB, ycnt, yrole, ylist, yplace, ysym, yimg, st, ywide, ymem, yreg, yout)) :
    ∀ (f p : Nat) (ystay : Nat → Int32), ly_IV yops yA yB ycnt g n ystay → (p = ly_ct (ly_SS ystay) 12 → ly_CL yops yA yB ycnt g n ystay) → p ≤ 12 → (p = ly_ct (ly_SS ystay) 12 ∨ 13 ≤ f + ly_ct (ly_SS ystay) 12) → wY_findUnits_71 post (f + 1) (nI p) (nI (ly_ct (ly_SS ystay) 12)) yorg ystrip (nI n) yculp ytend yend ymade yrounds yentry ylinked yran ypc ysteps youts yops yA yB ycnt yrole ylist yplace ysym yimg ystay ywide ymem yreg yout := by
  have ht : ∀ i, i < 144 → ly_at yops ycnt g n i = true → ly_tn yops yA yB ycnt g n i < 144 := fun i hi ha => (ly_tn_t hW hF hG hi ha).1.1
  intro f
  induction f with
  | zero =>
    intro p st h1 h2 hp h3
    have hle := ly_ct_le (ly_SS st) 12
    have e : p = ly_ct (ly_SS st) 12 := by
      rcases h3 with h3 | h3
      · exact h3
      · omega
    exact br_t (by rw [← e]) (H st h1 (h2 e))
  | succ f ih =>
    intro p st h1 h2 hp h3
    have hle := ly_ct_le (ly_SS st) 12
    by_cases e : p = ly_ct (ly_SS st) 12
    · exact br_t (by rw [← e]) (H st h1 (h2 e))
    · refine br_f (fun z => e (ly_inj (by omega) (by omega) z.symm)) ⟨n + 1, ly_y81 (hW := hW) (hF := hF) (hL := hL) (hG := hG) (x2 := _) (st0 := st) (H := fun st' h1' h2' h3' => ⟨13, ly_y112 (x2 := _) (H := ih (ly_ct (ly_SS st) 12) st' h1' (fun z => (ly_ct_cl hF h2' h3' ht (by omega)).2) hle ?_) 12 0 (by omega)⟩) n 0 st (by omega) h1 (fun _ _ h => h) (fun x hx hli => absurd (show false = true from hli) (by decide))⟩
      have hmono : ly_ct (ly_SS st) 12 ≤ ly_ct (ly_SS st') 12 := ly_ct_mono (fun u hu h => decide_eq_true (h2' u hu (of_decide_eq_true h)))
      rcases h3 with h3 | h3
      · exact absurd h3 e
      · omega
theorem ly_y71a {post : SY → Prop} {yorg ystrip yculp ytend yend ymade yrounds yentry ylinked yran ypc ysteps youts : Int32} {yops yA yB ycnt yrole ylist yplace ysym yimg ystay ywide ymem yreg yout : Nat → Int32} (hW : ly_W ycnt) (hF : ly_F yops yA yB) {g : Nat → Nat} {n : Nat} (hL : ly_LS yops yA ycnt ylist g n) (hG : ly_GD yops yA yB ycnt g n)
    (H : ∀ st : Nat → Int32, ly_IV yops yA yB ycnt g n st → ly_CL yops yA yB ycnt g n st → post (yorg, ystrip, nI n, yculp, ytend, yend, ymade, yrounds, yentry, ylinked, yran, ypc, ysteps, youts, yops, yA, yB, ycnt, yrole, ylist, yplace, ysym, yimg, st, ywide, ymem, yreg, yout)) (h1 : ly_IV yops yA yB ycnt g n ystay) : wY_findUnits_71 post 20 (-1) 0 yorg ystrip (nI n) yculp ytend yend ymade yrounds yentry ylinked yran ypc ysteps youts yops yA yB ycnt yrole ylist yplace ysym yimg ystay ywide ymem yreg yout := by
  refine br_f (by decide) ⟨n + 1, ly_y81 (hW := hW) (hF := hF) (hL := hL) (hG := hG) (x2 := _) (st0 := ystay) (H := fun st' h1' h2' h3' => ⟨13, ly_y112 (x2 := _) (H := ly_y71 (hW := hW) (hF := hF) (hL := hL) (hG := hG) (H := H) 18 0 st' h1' (fun z => ?_) (by omega) (Or.inr (by omega))) 12 0 (by omega)⟩) n 0 ystay (by omega) h1 (fun _ _ h => h) (fun x hx hli => absurd (show false = true from hli) (by decide))⟩
  have := ly_ct_pos (p := ly_SS st') (ly_un_lt hF (ly_en_t hW hG).1.1) (decide_eq_true h1'.2)
  omega
theorem ly_yfu2 {post : SY → Prop} {yorg ystrip yculp ytend yend ymade yrounds yentry ylinked yran ypc ysteps youts : Int32} {yops yA yB ycnt yrole ylist yplace ysym yimg ywide ymem yreg yout : Nat → Int32} (hW : ly_W ycnt) (hF : ly_F yops yA yB) {g : Nat → Nat} {n : Nat} (hL : ly_LS yops yA ycnt ylist g n) (hG : ly_GD yops yA yB ycnt g n)
    (H : ∀ st : Nat → Int32, ly_KS yops yA yB ycnt g n ystrip st → post (yorg, ystrip, nI n, yculp, ytend, yend, ymade, yrounds, yentry, ylinked, yran, ypc, ysteps, youts, yops, yA, yB, ycnt, yrole, ylist, yplace, ysym, yimg, st, ywide, ymem, yreg, yout)) :
    ∀ (d u : Nat) (ystay : Nat → Int32), u + d = 12 → (∀ q, q < u → ystay q = if ystrip = 0 then ly_bi (ly_li g n (q / 2)) else 0) → wY_findUnits_2 post yorg ystrip (nI n) yculp ytend yend ymade yrounds yentry ylinked yran ypc ysteps youts (d + 1) (nI u) yops yA yB ycnt yrole ylist yplace ysym yimg ystay ywide ymem yreg yout := by
  intro d
  induction d with
  | zero =>
    intro u st hd h
    have e : u = 12 := by omega
    subst e
    refine br_t (by decide) ?_
    by_cases hs : ystrip = 0
    · refine br_t hs (H st (fun q hq => ?_))
      rw [h q hq, if_pos hs]
      refine ⟨ly_bi01 _, ⟨fun z => Or.inl ⟨hs, ?_⟩, fun z => ?_⟩⟩
      · cases hl : ly_li g n (q / 2) with
        | true => rfl
        | false => rw [hl] at z; exact absurd rfl z
      · rcases z with z | z
        · rw [z.2]; decide
        · exact absurd hs z.1
    · obtain ⟨t1, t2⟩ := ly_en_t hW hG
      have ht := t1.1
      have hu := ly_un_lt hF ht
      refine br_f hs (ly_ych (hW := hW) (hF := hF) (hL := hL) (s := 0) (H := ?_))
      have ec : ly_cy yops yA yB ycnt g n 0 = nI (ly_en yops yA yB ycnt g n) := by
        unfold ly_cy
        rw [show ly_sv yops yA yB ycnt g 0 n = false from hG.2.2.1 0 (by omega), if_neg (by decide)]
        exact t2
      rw [ec]
      refine ly_yun (hF := hF) (hi := ht) (H := ⟨vp_in_nI hu (by omega), nm_r (e' := upd st (ly_un yops yA (ly_en yops yA yB ycnt g n)) 1) (by rw [ly_cl (by omega), ly_nar1]) ⟨20, ly_y71a (hW := hW) (hF := hF) (hL := hL) (hG := hG) (H := fun st' h1 h2 => H st' (fun q hq => ⟨(h1.1 q hq).1, ?_⟩)) (h1 := ?_)⟩⟩)
      · rw [ly_IV_R h1 h2 hq]
        exact ⟨fun z => Or.inr ⟨hs, z⟩, fun z => by
          rcases z with z | z
          · exact absurd z.1 hs
          · exact z.2⟩
      · refine ⟨fun q hq => ?_, by rw [pk_us]; decide⟩
        by_cases e : q = ly_un yops yA (ly_en yops yA yB ycnt g n)
        · subst e; rw [pk_us]; exact ⟨Or.inr rfl, fun _ => ly_RR_0⟩
        · rw [pk_un e, h q hq, if_neg hs]; exact ⟨Or.inl rfl, fun z => absurd rfl z⟩
  | succ d ih =>
    intro u st hd h
    have hu : u < 12 := by omega
    have eu : (nI u).toNatClampNeg = u := ly_cl (by omega)
    have IH := ih (u + 1) (upd st u (if ystrip = 0 then ly_bi (ly_li g n (u / 2)) else 0)) (by omega) (fun q hq => by
      by_cases e : q = u
      · subst e; exact pk_us
      · rw [pk_un e]; exact h q (by omega))
    refine br_f (nI_ge (b := 12) hu (by omega)) ?_
    by_cases hs : ystrip = 0
    · rw [if_pos hs] at IH
      have e2 : nI u / 2 = nI (u / 2) := pk_div (d := 2) (by omega) (by omega) (by omega)
      refine br_t hs ⟨by decide, ?_⟩
      rw [e2]
      refine ly_yli (hn := hL.1) (hg := fun i hi => ⟨(hL.2 i hi).1, (hL.2 i hi).2.1⟩) (hm := by omega) (H := ?_)
      cases hl : ly_li g n (u / 2) with
      | false =>
        rw [hl] at IH
        exact br_t rfl ⟨vp_in_nI hu (by omega), nm_r (e' := upd st u (ly_bi false)) (by rw [eu, ly_nar0]; rfl) (nm_r (nI_1 u) IH)⟩
      | true =>
        rw [hl] at IH
        exact br_f (by decide) ⟨vp_in_nI hu (by omega), nm_r (e' := upd st u (ly_bi true)) (by rw [eu, ly_nar1]; rfl) (nm_r (nI_1 u) IH)⟩
    · rw [if_neg hs] at IH
      exact br_f hs ⟨vp_in_nI hu (by omega), nm_r (e' := upd st u 0) (by rw [eu, ly_nar0]) (nm_r (nI_1 u) IH)⟩
theorem ly_yfu {post : SY → Prop} {yorg ystrip yculp ytend yend ymade yrounds yentry ylinked yran ypc ysteps youts : Int32} {yops yA yB ycnt yrole ylist yplace ysym yimg ystay ywide ymem yreg yout : Nat → Int32} (hW : ly_W ycnt) (hF : ly_F yops yA yB) {g : Nat → Nat} {n : Nat} (hL : ly_LS yops yA ycnt ylist g n) (hG : ly_GD yops yA yB ycnt g n)
    (H : ∀ st : Nat → Int32, ly_KS yops yA yB ycnt g n ystrip st → post (yorg, ystrip, nI n, yculp, ytend, yend, ymade, yrounds, yentry, ylinked, yran, ypc, ysteps, youts, yops, yA, yB, ycnt, yrole, ylist, yplace, ysym, yimg, st, ywide, ymem, yreg, yout)) : wpY_findUnits post (yorg, ystrip, nI n, yculp, ytend, yend, ymade, yrounds, yentry, ylinked, yran, ypc, ysteps, youts, yops, yA, yB, ycnt, yrole, ylist, yplace, ysym, yimg, ystay, ywide, ymem, yreg, yout) :=
  ⟨13, ly_yfu2 (hW := hW) (hF := hF) (hL := hL) (hG := hG) (H := H) 12 0 ystay (by omega) (fun q hq => absurd hq (Nat.not_lt_zero q))⟩
end
section
/-! placing: the pure pass -/
def ly_sz (o a b w : Nat → Int32) (i t : Nat) : Nat :=
  if o i = 0 ∨ o i = 19 then 0 else if o i = 17 then (a i).toNatClampNeg else if o i = 18 then (if t % (a i).toNatClampNeg = 0 then 0 else (a i).toNatClampNeg - t % (a i).toNatClampNeg) else if o i = 1 then (if b i < -128 ∨ 127 < b i then 2 else 1) else if w i = 0 then 1 else 2
theorem ly_sz_le {o a b : Nat → Int32} (hF : ly_F o a b) (w : Nat → Int32) {i : Nat} (hi : i < 144) (t : Nat) : ly_sz o a b w i t ≤ 16 := by
  obtain ⟨op, hop, eo, _, _, h17, h18, _⟩ := hF i hi
  unfold ly_sz
  by_cases c1 : o i = 0 ∨ o i = 19
  · rw [if_pos c1]; omega
  · rw [if_neg c1]
    by_cases c2 : o i = 17
    · rw [if_pos c2]
      obtain ⟨j, _, j2, j3⟩ := h17 (ly_inj (b := 17) (by omega) (by omega) (eo.symm.trans c2))
      rw [j3, nI_clamp (by omega)]; exact j2
    · rw [if_neg c2]
      by_cases c3 : o i = 18
      · rw [if_pos c3]
        obtain ⟨j, j1, j2, j3⟩ := h18 (ly_inj (b := 18) (by omega) (by omega) (eo.symm.trans c3))
        rw [j3, nI_clamp (by omega)]
        split <;> omega
      · rw [if_neg c3]
        by_cases c4 : o i = 1
        · rw [if_pos c4]; split <;> omega
        · rw [if_neg c4]; split <;> omega
def ly_pk (o a b w : Nat → Int32) (m s : Nat) : Nat → Nat × (Nat → Int32) → Nat × (Nat → Int32)
  | 0, z => z
  | k + 1, z => if ly_sn o a m (k + 1) = s then ((ly_pk o a b w m s k z).1 + ly_sz o a b w (24 * m + k) (ly_pk o a b w m s k z).1, upd (ly_pk o a b w m s k z).2 (24 * m + k) (nI (ly_pk o a b w m s k z).1)) else ly_pk o a b w m s k z
def ly_pl (o a b w cnt : Nat → Int32) (kb : Nat → Bool) (g : Nat → Nat) (s : Nat) : Nat → Nat × (Nat → Int32) → Nat × (Nat → Int32)
  | 0, z => z
  | i + 1, z => if kb (2 * g i + s) = true then ly_pk o a b w (g i) s (ly_c cnt (g i)) (ly_pl o a b w cnt kb g s i z) else ly_pl o a b w cnt kb g s i z
theorem ly_pk_y {o a b w : Nat → Int32} {m s k : Nat} {z : Nat × (Nat → Int32)} (h : ly_sn o a m (k + 1) = s) : ly_pk o a b w m s (k + 1) z = ((ly_pk o a b w m s k z).1 + ly_sz o a b w (24 * m + k) (ly_pk o a b w m s k z).1, upd (ly_pk o a b w m s k z).2 (24 * m + k) (nI (ly_pk o a b w m s k z).1)) := if_pos h
theorem ly_pk_n {o a b w : Nat → Int32} {m s k : Nat} {z : Nat × (Nat → Int32)} (h : ¬ ly_sn o a m (k + 1) = s) : ly_pk o a b w m s (k + 1) z = ly_pk o a b w m s k z := if_neg h
theorem ly_pl_y {o a b w cnt : Nat → Int32} {kb : Nat → Bool} {g : Nat → Nat} {s i : Nat} {z : Nat × (Nat → Int32)} (h : kb (2 * g i + s) = true) : ly_pl o a b w cnt kb g s (i + 1) z = ly_pk o a b w (g i) s (ly_c cnt (g i)) (ly_pl o a b w cnt kb g s i z) := if_pos h
theorem ly_pl_n {o a b w cnt : Nat → Int32} {kb : Nat → Bool} {g : Nat → Nat} {s i : Nat} {z : Nat × (Nat → Int32)} (h : kb (2 * g i + s) = false) : ly_pl o a b w cnt kb g s (i + 1) z = ly_pl o a b w cnt kb g s i z := if_neg (by rw [h]; decide)
/-- the end moves by 16 words an item at most -/
theorem ly_pk_le {o a b : Nat → Int32} (hF : ly_F o a b) (w : Nat → Int32) {m s : Nat} (hm : m < 6) : ∀ k, k ≤ 24 → ∀ z, z.1 ≤ (ly_pk o a b w m s k z).1 ∧ (ly_pk o a b w m s k z).1 ≤ z.1 + 16 * k := by
  intro k
  induction k with
  | zero => intro _ z; exact ⟨Nat.le_refl _, Nat.le_refl _⟩
  | succ k ih =>
    intro hk z
    have h := ih (by omega) z
    by_cases e : ly_sn o a m (k + 1) = s
    · rw [ly_pk_y e]
      have := ly_sz_le hF w (i := 24 * m + k) (by omega) (ly_pk o a b w m s k z).1
      dsimp only
      omega
    · rw [ly_pk_n e]; omega
theorem ly_pl_le {o a b cnt : Nat → Int32} (hF : ly_F o a b) (hW : ly_W cnt) (w : Nat → Int32) {kb : Nat → Bool} {g : Nat → Nat} {s : Nat} : ∀ i, (∀ j, j < i → g j < 6) → ∀ z, z.1 ≤ (ly_pl o a b w cnt kb g s i z).1 ∧ (ly_pl o a b w cnt kb g s i z).1 ≤ z.1 + 384 * i := by
  intro i
  induction i with
  | zero => intro _ z; exact ⟨Nat.le_refl _, Nat.le_refl _⟩
  | succ i ih =>
    intro hg z
    have h := ih (fun j hj => hg j (by omega)) z
    have h6 := hg i (by omega)
    have hc := (hW _ h6).1
    cases e : kb (2 * g i + s) with
    | true =>
      rw [ly_pl_y e]
      have := ly_pk_le hF w (s := s) h6 (ly_c cnt (g i)) hc (ly_pl o a b w cnt kb g s i z)
      omega
    | false => rw [ly_pl_n e]; omega
/-- two passes agree where they did, and on all that they place -/
theorem ly_pk_ag {o a b w : Nat → Int32} {m s : Nat} {z z' : Nat × (Nat → Int32)} (h1 : z.1 = z'.1) : ∀ k, k ≤ 24 → (ly_pk o a b w m s k z).1 = (ly_pk o a b w m s k z').1 ∧ ∀ x, (z.2 x = z'.2 x ∨ (x / 24 = m ∧ x % 24 < k ∧ ly_sn o a m (x % 24 + 1) = s)) → (ly_pk o a b w m s k z).2 x = (ly_pk o a b w m s k z').2 x := by
  intro k
  induction k with
  | zero =>
    intro _
    refine ⟨h1, fun x hx => ?_⟩
    rcases hx with hx | hx
    · exact hx
    · have := hx.2.1; omega
  | succ k ih =>
    intro hk
    obtain ⟨i1, i2⟩ := ih (by omega)
    by_cases e : ly_sn o a m (k + 1) = s
    · rw [ly_pk_y e, ly_pk_y e]
      dsimp only
      rw [i1]
      refine ⟨rfl, fun x hx => ?_⟩
      by_cases ex : x = 24 * m + k
      · rw [ex, pk_us, pk_us]
      · rw [pk_un ex, pk_un ex]
        refine i2 x ?_
        rcases hx with hx | hx
        · exact Or.inl hx
        · exact Or.inr ⟨hx.1, by have := hx.1; have := hx.2.1; omega, hx.2.2⟩
    · rw [ly_pk_n e, ly_pk_n e]
      refine ⟨i1, fun x hx => i2 x ?_⟩
      rcases hx with hx | hx
      · exact Or.inl hx
      · refine Or.inr ⟨hx.1, ?_, hx.2.2⟩
        have h2 := hx.2.1
        by_cases ek : x % 24 = k
        · have := hx.2.2; rw [ek] at this; exact absurd this e
        · omega
theorem ly_pl_ag {o a b w cnt : Nat → Int32} (hW : ly_W cnt) {kb : Nat → Bool} {g : Nat → Nat} {s : Nat} {z z' : Nat × (Nat → Int32)} (h1 : z.1 = z'.1) : ∀ i, (∀ j, j < i → g j < 6) → (ly_pl o a b w cnt kb g s i z).1 = (ly_pl o a b w cnt kb g s i z').1 ∧ ∀ x, (z.2 x = z'.2 x ∨ (ly_li g i (x / 24) = true ∧ x % 24 < ly_c cnt (x / 24) ∧ ly_sn o a (x / 24) (x % 24 + 1) = s ∧ kb (2 * (x / 24) + s) = true)) → (ly_pl o a b w cnt kb g s i z).2 x = (ly_pl o a b w cnt kb g s i z').2 x := by
  intro i
  induction i with
  | zero =>
    intro _
    refine ⟨h1, fun x hx => ?_⟩
    rcases hx with hx | hx
    · exact hx
    · exact absurd (show false = true from hx.1) (by decide)
  | succ i ih =>
    intro hg
    obtain ⟨i1, i2⟩ := ih (fun j hj => hg j (by omega))
    have hc := (hW _ (hg i (by omega))).1
    cases e : kb (2 * g i + s) with
    | true =>
      rw [ly_pl_y e, ly_pl_y e]
      obtain ⟨k1, k2⟩ := ly_pk_ag (o := o) (a := a) (b := b) (w := w) (m := g i) (s := s) i1 (ly_c cnt (g i)) hc
      refine ⟨k1, fun x hx => k2 x ?_⟩
      rcases hx with hx | ⟨x1, x2, x3, x4⟩
      · exact Or.inl (i2 x (Or.inl hx))
      · rw [ly_li_s, Bool.or_eq_true, decide_eq_true_eq] at x1
        rcases x1 with x1 | x1
        · exact Or.inl (i2 x (Or.inr ⟨x1, x2, x3, x4⟩))
        · exact Or.inr ⟨x1.symm, by rw [x1]; exact x2, by rw [x1]; exact x3⟩
    | false =>
      rw [ly_pl_n e, ly_pl_n e]
      refine ⟨i1, fun x hx => i2 x ?_⟩
      rcases hx with hx | ⟨x1, x2, x3, x4⟩
      · exact Or.inl hx
      · rw [ly_li_s, Bool.or_eq_true, decide_eq_true_eq] at x1
        rcases x1 with x1 | x1
        · exact Or.inr ⟨x1, x2, x3, x4⟩
        · rw [← x1, e] at x4; exact absurd x4 (by decide)
/-- what isn't placed stays as it was -/
theorem ly_pk_kp {o a b w : Nat → Int32} {m s : Nat} {z : Nat × (Nat → Int32)} {x : Nat} : ∀ k, k ≤ 24 → ¬ (x / 24 = m ∧ x % 24 < k ∧ ly_sn o a m (x % 24 + 1) = s) → (ly_pk o a b w m s k z).2 x = z.2 x := by
  intro k
  induction k with
  | zero => intro _ _; rfl
  | succ k ih =>
    intro hk hx
    have IH := ih (by omega) (fun y => hx ⟨y.1, by have := y.2.1; omega, y.2.2⟩)
    by_cases e : ly_sn o a m (k + 1) = s
    · rw [ly_pk_y e]
      have ne : x ≠ 24 * m + k := by
        intro ex
        refine hx ⟨by omega, by omega, ?_⟩
        rw [show x % 24 = k by omega]; exact e
      dsimp only
      rw [pk_un ne]; exact IH
    · rw [ly_pk_n e]; exact IH
theorem ly_pl_kp {o a b w cnt : Nat → Int32} (hW : ly_W cnt) {kb : Nat → Bool} {g : Nat → Nat} {s : Nat} {z : Nat × (Nat → Int32)} {x : Nat} : ∀ i, (∀ j, j < i → g j < 6) → ¬ (ly_li g i (x / 24) = true ∧ x % 24 < ly_c cnt (x / 24) ∧ ly_sn o a (x / 24) (x % 24 + 1) = s ∧ kb (2 * (x / 24) + s) = true) → (ly_pl o a b w cnt kb g s i z).2 x = z.2 x := by
  intro i
  induction i with
  | zero => intro _ _; rfl
  | succ i ih =>
    intro hg hx
    have hc := (hW _ (hg i (by omega))).1
    have IH := ih (fun j hj => hg j (by omega)) (fun y => hx ⟨by rw [ly_li_s, y.1, Bool.true_or], y.2⟩)
    cases e : kb (2 * g i + s) with
    | true =>
      rw [ly_pl_y e, ly_pk_kp (ly_c cnt (g i)) hc (fun y => hx ⟨by rw [ly_li_s, decide_eq_true y.1.symm, Bool.or_true], by rw [y.1]; exact y.2.1, by rw [y.1]; exact y.2.2, by rw [y.1]; exact e⟩)]
      exact IH
    | false => rw [ly_pl_n e]; exact IH
/-- all that is placed ends before the end -/
def ly_BD (o a b w : Nat → Int32) (z : Nat × (Nat → Int32)) : Prop := ∀ x, x < 144 → z.2 x = -1 ∨ ∃ p : Nat, z.2 x = nI p ∧ p + ly_sz o a b w x p ≤ z.1
theorem ly_pk_bd {o a b : Nat → Int32} (hF : ly_F o a b) {w : Nat → Int32} {m s : Nat} (hm : m < 6) {z : Nat × (Nat → Int32)} (h : ly_BD o a b w z) : ∀ k, k ≤ 24 → ly_BD o a b w (ly_pk o a b w m s k z) := by
  intro k
  induction k with
  | zero => intro _; exact h
  | succ k ih =>
    intro hk
    have IH := ih (by omega)
    by_cases e : ly_sn o a m (k + 1) = s
    · rw [ly_pk_y e]
      intro x hx
      dsimp only
      by_cases ex : x = 24 * m + k
      · rw [ex, pk_us]; exact Or.inr ⟨_, rfl, Nat.le_refl _⟩
      · rw [pk_un ex]
        rcases IH x hx with z1 | ⟨p, p1, p2⟩
        · exact Or.inl z1
        · exact Or.inr ⟨p, p1, by omega⟩
    · rw [ly_pk_n e]; exact IH
theorem ly_pl_bd {o a b cnt : Nat → Int32} (hF : ly_F o a b) (hW : ly_W cnt) {w : Nat → Int32} {kb : Nat → Bool} {g : Nat → Nat} {s : Nat} {z : Nat × (Nat → Int32)} (h : ly_BD o a b w z) : ∀ i, (∀ j, j < i → g j < 6) → ly_BD o a b w (ly_pl o a b w cnt kb g s i z) := by
  intro i
  induction i with
  | zero => intro _; exact h
  | succ i ih =>
    intro hg
    have IH := ih (fun j hj => hg j (by omega))
    have h6 := hg i (by omega)
    cases e : kb (2 * g i + s) with
    | true => rw [ly_pl_y e]; exact ly_pk_bd hF h6 IH _ (hW _ h6).1
    | false => rw [ly_pl_n e]; exact IH
/-- the whole pass, from a place table -/
def ly_p0 (o a b w cnt : Nat → Int32) (kb : Nat → Bool) (g : Nat → Nat) (n base : Nat) (P : Nat → Int32) : Nat × (Nat → Int32) := ly_pl o a b w cnt kb g 0 n (base, P)
def ly_p1 (o a b w cnt : Nat → Int32) (kb : Nat → Bool) (g : Nat → Nat) (n base : Nat) (P : Nat → Int32) : Nat × (Nat → Int32) := ly_pl o a b w cnt kb g 1 n (ly_p0 o a b w cnt kb g n base P)
/-- what is placed -/
def ly_pd (o a cnt : Nat → Int32) (kb : Nat → Bool) (g : Nat → Nat) (n x : Nat) : Prop := ly_li g n (x / 24) = true ∧ x % 24 < ly_c cnt (x / 24) ∧ kb (ly_un o a x) = true
theorem ly_p1_kp {o a b w cnt : Nat → Int32} (hW : ly_W cnt) {kb : Nat → Bool} {g : Nat → Nat} {n base : Nat} (hg : ∀ j, j < n → g j < 6) {P : Nat → Int32} {x : Nat} (hx : ¬ ly_pd o a cnt kb g n x) : (ly_p1 o a b w cnt kb g n base P).2 x = P x := by
  unfold ly_p1 ly_p0
  rw [ly_pl_kp hW n hg (fun y => hx ⟨y.1, y.2.1, by unfold ly_un; rw [y.2.2.1]; exact y.2.2.2⟩), ly_pl_kp hW n hg (fun y => hx ⟨y.1, y.2.1, by unfold ly_un; rw [y.2.2.1]; exact y.2.2.2⟩)]
theorem ly_p1_ag {o a b w cnt : Nat → Int32} (hW : ly_W cnt) (hF : ly_F o a b) {kb : Nat → Bool} {g : Nat → Nat} {n base : Nat} (hg : ∀ j, j < n → g j < 6) {P Q : Nat → Int32} (h : ∀ x, x < 144 → ¬ ly_pd o a cnt kb g n x → P x = Q x) : (ly_p0 o a b w cnt kb g n base P).1 = (ly_p0 o a b w cnt kb g n base Q).1 ∧ (ly_p1 o a b w cnt kb g n base P).1 = (ly_p1 o a b w cnt kb g n base Q).1 ∧ ly_AG 144 (ly_p1 o a b w cnt kb g n base P).2 (ly_p1 o a b w cnt kb g n base Q).2 := by
  obtain ⟨a1, a2⟩ := ly_pl_ag (o := o) (a := a) (b := b) (w := w) (kb := kb) (s := 0) (z := (base, P)) (z' := (base, Q)) hW rfl n hg
  obtain ⟨b1, b2⟩ := ly_pl_ag (o := o) (a := a) (b := b) (w := w) (kb := kb) (s := 1) (z := ly_p0 o a b w cnt kb g n base P) (z' := ly_p0 o a b w cnt kb g n base Q) hW a1 n hg
  refine ⟨a1, b1, fun x hx => b2 x ?_⟩
  have hs := ly_sn_lt hF (m := x / 24) (by omega) (x % 24 + 1) (by omega)
  by_cases hp : ly_pd o a cnt kb g n x
  · obtain ⟨p1, p2, p3⟩ := hp
    unfold ly_un at p3
    by_cases e : ly_sn o a (x / 24) (x % 24 + 1) = 1
    · exact Or.inr ⟨p1, p2, e, by rw [e] at p3; exact p3⟩
    · have e0 : ly_sn o a (x / 24) (x % 24 + 1) = 0 := by omega
      exact Or.inl (a2 x (Or.inr ⟨p1, p2, e0, by rw [e0] at p3; exact p3⟩))
  · exact Or.inl (a2 x (Or.inl (h x hx hp)))
theorem ly_p1_le {o a b cnt : Nat → Int32} (hF : ly_F o a b) (hW : ly_W cnt) (w : Nat → Int32) {kb : Nat → Bool} {g : Nat → Nat} {n base : Nat} (hn : n ≤ 6) (hb : base ≤ 100) (hg : ∀ j, j < n → g j < 6) (P : Nat → Int32) : (ly_p0 o a b w cnt kb g n base P).1 ≤ 2404 ∧ (ly_p1 o a b w cnt kb g n base P).1 ≤ 4708 := by
  have h1 := ly_pl_le hF hW w (kb := kb) (s := 0) n hg (base, P)
  have h2 := ly_pl_le hF hW w (kb := kb) (s := 1) n hg (ly_p0 o a b w cnt kb g n base P)
  unfold ly_p1
  unfold ly_p0 at *
  dsimp only at h1
  omega
end
section
/-! placing: X and Y -/
def ly_h2 (o b w : Nat → Int32) (i : Nat) : Int32 := if o i = 1 then (if b i < -128 ∨ 127 < b i then 1 else 0) else w i
theorem ly_xh2 {post : Int32 → Prop} {xbase xstrip xllen xtend xaend xlcnt xlrnd xlinked xblamed xouts xpc xsteps xran : Int32} {xops xA xB xcnt xrole xloc xglo xweak xuse xrep xunit xtgt xstay xlong xlist xchosen xplace ximg xreg xstore xout : Nat → Int32} {i : Nat} (hi : i < 144) (hl : xlong i = 0 ∨ xlong i = 1) (H : post (ly_h2 xops xB xlong i)) : wpX_hasTwoWords post (xbase, xstrip, xllen, xtend, xaend, xlcnt, xlrnd, xlinked, xblamed, xouts, xpc, xsteps, xran, xops, xA, xB, xcnt, xrole, xloc, xglo, xweak, xuse, xrep, xunit, xtgt, xstay, xlong, xlist, xchosen, xplace, ximg, xreg, xstore, xout) (nI i) := by
  have vi : vp_in (nI i) 144 := vp_in_nI hi (by omega)
  unfold wpX_hasTwoWords
  dsimp only
  rw [ly_cl (i := i) (by omega)]
  unfold ly_h2 at H
  by_cases h1 : xops i = 1
  · rw [if_pos h1] at H
    refine ⟨vi, br_t h1 ⟨vi, ?_⟩⟩
    by_cases h2 : xB i < -128
    · rw [if_pos (Or.inl h2)] at H; exact br_t h2 H
    · refine br_f h2 ⟨vi, ?_⟩
      by_cases h3 : xB i ≤ 127
      · rw [if_neg (fun z => by
          rcases z with z | z
          · exact h2 z
          · exact absurd h3 (Int32.not_le.mpr z))] at H
        exact br_t h3 H
      · rw [if_pos (Or.inr (Int32.not_le.mp h3))] at H; exact br_f h3 H
  · rw [if_neg h1] at H
    exact ⟨vi, br_f h1 ⟨vi, ly_narb hl, H⟩⟩
theorem ly_sz_2 {o a b w : Nat → Int32} {i t : Nat} (n0 : ¬ o i = 0) (n19 : ¬ o i = 19) (n17 : ¬ o i = 17) (n18 : ¬ o i = 18) (hl : w i = 0 ∨ w i = 1) : (ly_h2 o b w i = 0 ∧ ly_sz o a b w i t = 1) ∨ (ly_h2 o b w i = 1 ∧ ly_sz o a b w i t = 2) := by
  have hn : ¬ (o i = 0 ∨ o i = 19) := fun z => z.elim n0 n19
  unfold ly_sz ly_h2
  rw [if_neg hn, if_neg n17, if_neg n18]
  by_cases h1 : o i = 1
  · rw [if_pos h1, if_pos h1]
    by_cases h2 : b i < -128 ∨ 127 < b i
    · rw [if_pos h2, if_pos h2]; exact Or.inr ⟨rfl, rfl⟩
    · rw [if_neg h2, if_neg h2]; exact Or.inl ⟨rfl, rfl⟩
  · rw [if_neg h1, if_neg h1]
    rcases hl with hl | hl
    · rw [if_pos hl]; exact Or.inl ⟨hl, rfl⟩
    · rw [if_neg (by rw [hl]; decide)]; exact Or.inr ⟨hl, rfl⟩
theorem ly_xwo {post : Int32 → Prop} {xbase xstrip xllen xtend xaend xlcnt xlrnd xlinked xblamed xouts xpc xsteps xran : Int32} {xops xA xB xcnt xrole xloc xglo xweak xuse xrep xunit xtgt xstay xlong xlist xchosen xplace ximg xreg xstore xout : Nat → Int32} (hF : ly_F xops xA xB) {i t : Nat} (hi : i < 144) (ht : t ≤ 8000) (hl : xlong i = 0 ∨ xlong i = 1) (H : post (nI (ly_sz xops xA xB xlong i t))) : wpX_wordsOf post (xbase, xstrip, xllen, xtend, xaend, xlcnt, xlrnd, xlinked, xblamed, xouts, xpc, xsteps, xran, xops, xA, xB, xcnt, xrole, xloc, xglo, xweak, xuse, xrep, xunit, xtgt, xstay, xlong, xlist, xchosen, xplace, ximg, xreg, xstore, xout) (nI i) (nI t) := by
  have vi : vp_in (nI i) 144 := vp_in_nI hi (by omega)
  unfold wpX_wordsOf
  dsimp only
  rw [ly_cl (i := i) (by omega)]
  refine ⟨vi, nm_e ?_⟩
  by_cases h0 : xops i = 0
  · rw [show ly_sz xops xA xB xlong i t = 0 from if_pos (Or.inl h0)] at H
    exact br_t h0 H
  · refine br_f h0 ?_
    obtain ⟨op, hop, eo, _, _, h17, h18, _⟩ := hF i hi
    by_cases c17 : xops i = 17
    · obtain ⟨j, _, j2, j3⟩ := h17 (ly_inj (b := 17) (by omega) (by omega) (eo.symm.trans c17))
      unfold ly_sz at H
      rw [if_neg (by rw [c17]; decide), if_pos c17, j3, nI_clamp (by omega)] at H
      refine br_t c17 ⟨vi, ?_⟩
      rw [j3]; exact H
    · refine br_f c17 ?_
      by_cases c18 : xops i = 18
      · obtain ⟨j, j1, j2, j3⟩ := h18 (ly_inj (b := 18) (by omega) (by omega) (eo.symm.trans c18))
        unfold ly_sz at H
        rw [if_neg (by rw [c18]; decide), if_neg c17, if_pos c18, j3, nI_clamp (by omega)] at H
        refine br_t c18 ⟨vi, ?_⟩
        rw [j3]
        refine br_t (nI_le (a := 1) (by omega) (by omega)) ⟨nI_ne0 (by omega) (by omega), nm_r (pk_rem (by omega) (by omega) (by omega)) ?_⟩
        have hmod : t % j < j := Nat.mod_lt _ (by omega)
        by_cases hz : t % j = 0
        · rw [if_pos hz] at H
          exact br_t (by rw [hz]; rfl) H
        · rw [if_neg hz] at H
          refine br_f (nI_ne0 (by omega) (by omega)) ?_
          rw [pk_sub (by omega)]; exact H
      · refine br_f c18 ?_
        by_cases c19 : xops i = 19
        · rw [show ly_sz xops xA xB xlong i t = 0 from if_pos (Or.inr c19)] at H
          exact br_t c19 H
        · refine br_f c19 (ly_xh2 (hi := hi) (hl := hl) (H := ?_))
          rcases ly_sz_2 (a := xA) (b := xB) (w := xlong) (t := t) h0 c19 c17 c18 hl with ⟨z1, z2⟩ | ⟨z1, z2⟩
          · rw [z2] at H; rw [z1]; exact br_t rfl H
          · rw [z2] at H; rw [z1]; exact br_f (by decide) H
theorem ly_sz_c {o a b w w' : Nat → Int32} {i t : Nat} (h : w i = w' i) : ly_sz o a b w i t = ly_sz o a b w' i t := by
  unfold ly_sz; rw [h]
theorem ly_xpu {post : Int32 → SX → Prop} {xbase xstrip xllen xtend xaend xlcnt xlrnd xlinked xblamed xouts xpc xsteps xran : Int32} {xops xA xB xcnt xrole xloc xglo xweak xuse xrep xunit xtgt xstay xlong xlist xchosen ximg xreg xstore xout : Nat → Int32} (hW : ly_W xcnt) (hF : ly_F xops xA xB) {w : Nat → Int32} (hw : ly_AG 144 xlong w) (hw1 : ∀ i, i < 144 → w i = 0 ∨ w i = 1) {m s : Nat} (hm : m < 6) (hs : s < 2) (hU : ∀ k, k < ly_c xcnt m → xunit (24 * m + k) = nI (ly_un xops xA (24 * m + k))) {z : Nat × (Nat → Int32)} (hz : z.1 ≤ 4708)
    (H : post (nI (ly_pk xops xA xB w m s (ly_c xcnt m) z).1) (xbase, xstrip, xllen, xtend, xaend, xlcnt, xlrnd, xlinked, xblamed, xouts, xpc, xsteps, xran, xops, xA, xB, xcnt, xrole, xloc, xglo, xweak, xuse, xrep, xunit, xtgt, xstay, xlong, xlist, xchosen, (ly_pk xops xA xB w m s (ly_c xcnt m) z).2, ximg, xreg, xstore, xout)) : ∀ (d k : Nat), k + d = ly_c xcnt m → wX_placeUnit_6 post (nI m) (nI (2 * m + s)) xbase xstrip xllen xtend xaend xlcnt xlrnd xlinked xblamed xouts xpc xsteps xran (d + 1) (nI (ly_pk xops xA xB w m s k z).1) (nI k) xops xA xB xcnt xrole xloc xglo xweak xuse xrep xunit xtgt xstay xlong xlist xchosen ((ly_pk xops xA xB w m s k z).2) ximg xreg xstore xout := by
  obtain ⟨hc, ec⟩ := hW m hm
  have em : (nI m).toNatClampNeg = m := ly_cl (by omega)
  have ec' : xcnt (nI m).toNatClampNeg = nI (ly_c xcnt m) := by rw [em]; exact ec
  have vm : vp_in (nI m) 6 := vp_in_nI hm (by omega)
  intro d
  induction d with
  | zero =>
    intro k hd
    have e : k = ly_c xcnt m := by omega
    subst e
    exact ⟨vm, br_t (by rw [ec']; exact Int32.le_refl _) H⟩
  | succ d ih =>
    intro k hd
    have hi : 24 * m + k < 144 := by omega
    have ei : (nI (24 * m + k)).toNatClampNeg = 24 * m + k := ly_cl (by omega)
    have vi : vp_in (nI (24 * m + k)) 144 := vp_in_nI hi (by omega)
    have hle := ly_pk_le hF w (s := s) hm k (by omega) z
    have hsn := ly_sn_lt hF hm (k + 1) (by omega)
    have IH := ih (k + 1) (by omega)
    refine ⟨vm, br_f (by rw [ec']; exact nI_ge (by omega) (by omega)) (nm_r (ly_idx m k) ⟨vi, ?_⟩)⟩
    rw [ei, hU k (by omega), ly_un_at (by omega)]
    by_cases e : ly_sn xops xA m (k + 1) = s
    · rw [ly_pk_y e] at IH
      refine br_t (by rw [e]) ⟨vi, nm_e (ly_xwo (hF := hF) (hi := hi) (ht := by omega) (hl := by rw [hw _ hi]; exact hw1 _ hi) (H := nm_r (e' := nI ((ly_pk xops xA xB w m s k z).1 + ly_sz xops xA xB w (24 * m + k) (ly_pk xops xA xB w m s k z).1)) ?_ (nm_r (nI_1 k) IH)))⟩
      rw [nI_add, ly_sz_c (hw _ hi)]
    · rw [ly_pk_n e] at IH
      exact br_f (fun q => e (by have := ly_inj (by omega) (by omega) q; omega)) (nm_r (nI_1 k) IH)
theorem ly_xps5 {post : Int32 → SX → Prop} {xbase xstrip xtend xaend xlcnt xlrnd xlinked xblamed xouts xpc xsteps xran : Int32} {xops xA xB xcnt xrole xloc xglo xweak xuse xrep xunit xtgt xstay xlong xlist xchosen ximg xreg xstore xout : Nat → Int32} (hW : ly_W xcnt) (hF : ly_F xops xA xB) {w : Nat → Int32} (hw : ly_AG 144 xlong w) (hw1 : ∀ i, i < 144 → w i = 0 ∨ w i = 1) {g : Nat → Nat} {n s : Nat} (hL : ly_LS xops xA xcnt xlist g n) (hs : s < 2) (hU : ∀ t, ly_th xcnt g n t → xunit t = nI (ly_un xops xA t)) {kb : Nat → Bool} (hK : ∀ u, u < 12 → (xstay u = 0 ↔ kb u = false)) {z : Nat × (Nat → Int32)} (hz : z.1 ≤ 2404)
    (H : post (nI (ly_pl xops xA xB w xcnt kb g s n z).1) (xbase, xstrip, nI n, xtend, xaend, xlcnt, xlrnd, xlinked, xblamed, xouts, xpc, xsteps, xran, xops, xA, xB, xcnt, xrole, xloc, xglo, xweak, xuse, xrep, xunit, xtgt, xstay, xlong, xlist, xchosen, (ly_pl xops xA xB w xcnt kb g s n z).2, ximg, xreg, xstore, xout)) : ∀ (d i : Nat), i + d = n → wX_placeSection_5 post (nI s) (d + 1) (nI (ly_pl xops xA xB w xcnt kb g s i z).1) (nI i) xbase xstrip (nI n) xtend xaend xlcnt xlrnd xlinked xblamed xouts xpc xsteps xran xops xA xB xcnt xrole xloc xglo xweak xuse xrep xunit xtgt xstay xlong xlist xchosen ((ly_pl xops xA xB w xcnt kb g s i z).2) ximg xreg xstore xout := by
  obtain ⟨hn, hg⟩ := hL
  intro d
  induction d with
  | zero =>
    intro i hd
    have e : i = n := by omega
    subst e
    exact br_t (Int32.le_refl _) H
  | succ d ih =>
    intro i hd
    obtain ⟨g1, g2, g3⟩ := hg i (by omega)
    have vi : vp_in (nI i) 6 := vp_in_nI (by omega) (by omega)
    have hle := ly_pl_le hF hW w (kb := kb) (s := s) i (fun j hj => (hg j (by omega)).1) z
    have hc := (hW _ g1).1
    have IH := ih (i + 1) (by omega)
    refine br_f (nI_ge (by omega) (by omega)) ⟨vi, nm_r (e' := nI (2 * g i + s)) (by rw [ly_cl (i := i) (by omega), g2, ly_idx2]) ⟨vp_in_nI (by omega) (by omega), ?_⟩⟩
    rw [ly_cl (i := 2 * g i + s) (by omega)]
    cases e : kb (2 * g i + s) with
    | false =>
      rw [ly_pl_n e] at IH
      exact br_t ((hK _ (by omega)).mpr e) (nm_r (nI_1 i) IH)
    | true =>
      rw [ly_pl_y e] at IH
      refine br_f (fun q => by have := (hK _ (by omega)).mp q; rw [e] at this; exact absurd this (by decide)) ⟨vi, ?_⟩
      rw [ly_cl (i := i) (by omega), g2]
      exact ⟨ly_c xcnt (g i) + 1, ly_xpu (hW := hW) (hF := hF) (hw := hw) (hw1 := hw1) (hm := g1) (hs := hs) (hU := fun k hk => hU _ ⟨by omega, by rw [show (24 * g i + k) / 24 = g i by omega]; exact ly_li_g.mpr ⟨i, by omega, rfl⟩, by rw [show (24 * g i + k) / 24 = g i by omega]; omega⟩) (z := ly_pl xops xA xB w xcnt kb g s i z) (hz := by omega) (H := nm_r (nI_1 i) IH) (ly_c xcnt (g i)) 0 (by omega)⟩
theorem ly_xps {post : Int32 → SX → Prop} {xbase xstrip xtend xaend xlcnt xlrnd xlinked xblamed xouts xpc xsteps xran : Int32} {xops xA xB xcnt xrole xloc xglo xweak xuse xrep xunit xtgt xstay xlong xlist xchosen xplace ximg xreg xstore xout : Nat → Int32} (hW : ly_W xcnt) (hF : ly_F xops xA xB) {w : Nat → Int32} (hw : ly_AG 144 xlong w) (hw1 : ∀ i, i < 144 → w i = 0 ∨ w i = 1) {g : Nat → Nat} {n s : Nat} (hL : ly_LS xops xA xcnt xlist g n) (hs : s < 2) (hU : ∀ t, ly_th xcnt g n t → xunit t = nI (ly_un xops xA t)) {kb : Nat → Bool} (hK : ∀ u, u < 12 → (xstay u = 0 ↔ kb u = false)) {t : Nat} (hz : t ≤ 2404)
    (H : post (nI (ly_pl xops xA xB w xcnt kb g s n (t, xplace)).1) (xbase, xstrip, nI n, xtend, xaend, xlcnt, xlrnd, xlinked, xblamed, xouts, xpc, xsteps, xran, xops, xA, xB, xcnt, xrole, xloc, xglo, xweak, xuse, xrep, xunit, xtgt, xstay, xlong, xlist, xchosen, (ly_pl xops xA xB w xcnt kb g s n (t, xplace)).2, ximg, xreg, xstore, xout)) : wpX_placeSection post (xbase, xstrip, nI n, xtend, xaend, xlcnt, xlrnd, xlinked, xblamed, xouts, xpc, xsteps, xran, xops, xA, xB, xcnt, xrole, xloc, xglo, xweak, xuse, xrep, xunit, xtgt, xstay, xlong, xlist, xchosen, xplace, ximg, xreg, xstore, xout) (nI s) (nI t) :=
  ⟨n + 1, ly_xps5 (hW := hW) (hF := hF) (hw := hw) (hw1 := hw1) (hL := hL) (hs := hs) (hU := hU) (hK := hK) (z := (t, xplace)) (hz := hz) (H := H) n 0 (by omega)⟩
/-! Y -/
theorem ly_ysz {post : Int32 → Prop} {yorg ystrip ymany yculp ytend yend ymade yrounds yentry ylinked yran ypc ysteps youts : Int32} {yops yA yB ycnt yrole ylist yplace ysym yimg ystay ywide ymem yreg yout : Nat → Int32} (hF : ly_F yops yA yB) {i t : Nat} (hi : i < 144) (ht : t ≤ 8000) (hl : ywide i = 0 ∨ ywide i = 1) (hl1 : ¬ ywide i = 0 → ¬ yops i = 1) (H : post (nI (ly_sz yops yA yB ywide i t))) : wpY_sizeOf post (yorg, ystrip, ymany, yculp, ytend, yend, ymade, yrounds, yentry, ylinked, yran, ypc, ysteps, youts, yops, yA, yB, ycnt, yrole, ylist, yplace, ysym, yimg, ystay, ywide, ymem, yreg, yout) (nI i) (nI t) := by
  have vi : vp_in (nI i) 144 := vp_in_nI hi (by omega)
  unfold wpY_sizeOf
  dsimp only
  rw [ly_cl (i := i) (by omega)]
  refine ⟨vi, nm_e ?_⟩
  obtain ⟨op, hop, eo, _, _, h17, h18, _⟩ := hF i hi
  by_cases h0 : yops i = 0
  · rw [show ly_sz yops yA yB ywide i t = 0 from if_pos (Or.inl h0)] at H
    exact br_t h0 H
  · refine br_f h0 ?_
    by_cases c19 : yops i = 19
    · rw [show ly_sz yops yA yB ywide i t = 0 from if_pos (Or.inr c19)] at H
      exact br_t c19 H
    · refine br_f c19 ?_
      by_cases c17 : yops i = 17
      · obtain ⟨j, _, j2, j3⟩ := h17 (ly_inj (b := 17) (by omega) (by omega) (eo.symm.trans c17))
        unfold ly_sz at H
        rw [if_neg (by rw [c17]; decide), if_pos c17, j3, nI_clamp (by omega)] at H
        refine br_t c17 ⟨vi, ?_⟩
        rw [j3]; exact H
      · refine br_f c17 ?_
        by_cases c18 : yops i = 18
        · obtain ⟨j, j1, j2, j3⟩ := h18 (ly_inj (b := 18) (by omega) (by omega) (eo.symm.trans c18))
          unfold ly_sz at H
          rw [if_neg (by rw [c18]; decide), if_neg c17, if_pos c18, j3, nI_clamp (by omega)] at H
          have hj0 : ¬ nI j = 0 := nI_ne0 (by omega) (by omega)
          have hmod : t % j < j := Nat.mod_lt _ (by omega)
          refine br_t c18 ⟨vi, vi, ?_⟩
          rw [j3]
          refine ⟨hj0, vi, hj0, ?_⟩
          rw [pk_rem (a := t) (d := j) (by omega) (by omega) (by omega), pk_sub (by omega), pk_rem (by omega) (by omega) (by omega)]
          have e : (j - t % j) % j = if t % j = 0 then 0 else j - t % j := by
            by_cases hz : t % j = 0
            · rw [if_pos hz, hz, Nat.sub_zero, Nat.mod_self]
            · rw [if_neg hz]; exact Nat.mod_eq_of_lt (by omega)
          rw [e]; exact H
        · refine br_f c18 ⟨vi, ?_⟩
          unfold ly_sz at H
          rw [if_neg (fun z => by
            rcases z with z | z
            · exact h0 z
            · exact c19 z), if_neg c17, if_neg c18] at H
          by_cases hw : ywide i = 0
          · refine br_t hw ?_
            by_cases h1 : yops i = 1
            · rw [if_pos h1] at H
              refine br_t h1 ⟨vi, ?_⟩
              by_cases b1 : yB i < -128
              · rw [if_pos (Or.inl b1)] at H
                exact br_t b1 (br_t rfl H)
              · by_cases b2 : 127 < yB i
                · rw [if_pos (Or.inr b2)] at H
                  exact br_f b1 (br_t b2 (br_t rfl H))
                · rw [if_neg (fun z => by
                    rcases z with z | z
                    · exact b1 z
                    · exact b2 z)] at H
                  exact br_f b1 (br_f b2 (br_f (by decide) H))
            · rw [if_neg h1, if_pos hw] at H
              exact br_f h1 H
          · rw [if_neg (hl1 hw), if_neg hw] at H
            exact br_f hw H
theorem ly_idy2 (m s : Nat) : 2 * nI m + nI s = nI (2 * m + s) := by rw [Int32.mul_comm, ly_idx2]
theorem ly_ypu {post : Int32 → SY → Prop} {yorg ystrip ymany yculp ytend yend ymade yrounds yentry ylinked yran ypc ysteps youts : Int32} {yops yA yB ycnt yrole ylist ysym yimg ystay ywide ymem yreg yout : Nat → Int32} (hW : ly_W ycnt) (hF : ly_F yops yA yB) {w : Nat → Int32} (hw : ly_AG 144 ywide w) (hw1 : ∀ i, i < 144 → w i = 0 ∨ w i = 1) (hw2 : ∀ i, i < 144 → ¬ w i = 0 → ¬ yops i = 1) {m s : Nat} (hm : m < 6) (hs : s < 2) (hk : ¬ ystay (2 * m + s) = 0) {z : Nat × (Nat → Int32)} (hz : z.1 ≤ 4708)
    (H : post (nI (ly_pk yops yA yB w m s (ly_c ycnt m) z).1) (yorg, ystrip, ymany, yculp, ytend, yend, ymade, yrounds, yentry, ylinked, yran, ypc, ysteps, youts, yops, yA, yB, ycnt, yrole, ylist, (ly_pk yops yA yB w m s (ly_c ycnt m) z).2, ysym, yimg, ystay, ywide, ymem, yreg, yout)) : ∀ (d k : Nat), k + d = ly_c ycnt m → wY_placeUnit_9 post (nI m) (nI s) yorg ystrip ymany yculp ytend yend ymade yrounds yentry ylinked yran ypc ysteps youts (d + 1) (nI (ly_pk yops yA yB w m s k z).1) (nI (24 * m + k)) yops yA yB ycnt yrole ylist ((ly_pk yops yA yB w m s k z).2) ysym yimg ystay ywide ymem yreg yout := by
  have hc := (hW m hm).1
  intro d
  induction d with
  | zero =>
    intro k hd
    have e : k = ly_c ycnt m := by omega
    subst e
    rw [wY_placeUnit_9]
    exact ly_ylast (hW := hW) (hm := hm) (H := br_t (Int32.le_refl _) H)
  | succ d ih =>
    intro k hd
    have hi : 24 * m + k < 144 := by omega
    have vi : vp_in (nI (24 * m + k)) 144 := vp_in_nI hi (by omega)
    have hle := ly_pk_le hF w (s := s) hm k (by omega) z
    have hsn := ly_sn_lt hF hm (k + 1) (by omega)
    have IH := ih (k + 1) (by omega)
    rw [wY_placeUnit_9]
    refine ly_ylast (hW := hW) (hm := hm) (H := br_f (nI_ge (by omega) (by omega)) (ly_yse (hF := hF) (hm := hm) (hj := by omega) (H := ?_)))
    by_cases e : ly_sn yops yA m (k + 1) = s
    · rw [ly_pk_y e] at IH
      refine br_t (by rw [e]) ?_
      rw [ly_idy2]
      refine ⟨vp_in_nI (by omega) (by omega), ?_⟩
      rw [ly_cl (i := 2 * m + s) (by omega)]
      refine br_f hk ⟨vi, nm_r (e' := upd (ly_pk yops yA yB w m s k z).2 (24 * m + k) (nI (ly_pk yops yA yB w m s k z).1)) (by rw [ly_cl (i := 24 * m + k) (by omega)]) (ly_ysz (hF := hF) (hi := hi) (ht := by omega) (hl := by rw [hw _ hi]; exact hw1 _ hi) (hl1 := by rw [hw _ hi]; exact hw2 _ hi) (H := nm_r (e' := nI ((ly_pk yops yA yB w m s k z).1 + ly_sz yops yA yB w (24 * m + k) (ly_pk yops yA yB w m s k z).1)) ?_ (nm_r (nI_1 _) IH)))⟩
      rw [nI_add, ly_sz_c (hw _ hi)]
    · rw [ly_pk_n e] at IH
      exact br_f (fun q => e (ly_inj (by omega) (by omega) q)) (nm_r (nI_1 _) IH)
theorem ly_ypn {post : Int32 → SY → Prop} {yorg ystrip ymany yculp ytend yend ymade yrounds yentry ylinked yran ypc ysteps youts : Int32} {yops yA yB ycnt yrole ylist yplace ysym yimg ystay ywide ymem yreg yout : Nat → Int32} (hW : ly_W ycnt) (hF : ly_F yops yA yB) {m s : Nat} (hm : m < 6) (hs : s < 2) (hk : ystay (2 * m + s) = 0) (x4 : Int32)
    (H : post x4 (yorg, ystrip, ymany, yculp, ytend, yend, ymade, yrounds, yentry, ylinked, yran, ypc, ysteps, youts, yops, yA, yB, ycnt, yrole, ylist, yplace, ysym, yimg, ystay, ywide, ymem, yreg, yout)) : ∀ (d k : Nat), k + d = ly_c ycnt m → wY_placeUnit_9 post (nI m) (nI s) yorg ystrip ymany yculp ytend yend ymade yrounds yentry ylinked yran ypc ysteps youts (d + 1) x4 (nI (24 * m + k)) yops yA yB ycnt yrole ylist yplace ysym yimg ystay ywide ymem yreg yout := by
  have hc := (hW m hm).1
  intro d
  induction d with
  | zero =>
    intro k hd
    have e : k = ly_c ycnt m := by omega
    subst e
    rw [wY_placeUnit_9]
    exact ly_ylast (hW := hW) (hm := hm) (H := br_t (Int32.le_refl _) H)
  | succ d ih =>
    intro k hd
    have IH := ih (k + 1) (by omega)
    have hsn := ly_sn_lt hF hm (k + 1) (by omega)
    rw [wY_placeUnit_9]
    refine ly_ylast (hW := hW) (hm := hm) (H := br_f (nI_ge (by omega) (by omega)) (ly_yse (hF := hF) (hm := hm) (hj := by omega) (H := ?_)))
    by_cases e : ly_sn yops yA m (k + 1) = s
    · refine br_t (by rw [e]) ?_
      rw [ly_idy2]
      refine ⟨vp_in_nI (by omega) (by omega), ?_⟩
      rw [ly_cl (i := 2 * m + s) (by omega)]
      exact br_t hk (nm_r (nI_1 _) IH)
    · exact br_f (fun q => e (ly_inj (by omega) (by omega) q)) (nm_r (nI_1 _) IH)
theorem ly_yp36 {post : SY → Prop} {J : Int32 → Int32 → Int32 → Int32 → Int32 → Int32 → Int32 → Int32 → Int32 → Int32 → Int32 → Int32 → Int32 → Int32 → Int32 → Int32 → (Nat → Int32) → (Nat → Int32) → (Nat → Int32) → (Nat → Int32) → (Nat → Int32) → (Nat → Int32) → (Nat → Int32) → (Nat → Int32) → (Nat → Int32) → (Nat → Int32) → (Nat → Int32) → (Nat → Int32) → (Nat → Int32) → (Nat → Int32) → Prop} {yorg ystrip yculp ytend yend ymade yrounds yentry ylinked yran ypc ysteps youts : Int32} {yops yA yB ycnt yrole ylist ysym yimg ystay ywide ymem yreg yout : Nat → Int32} (hW : ly_W ycnt) (hF : ly_F yops yA yB) {w : Nat → Int32} (hw : ly_AG 144 ywide w) (hw1 : ∀ i, i < 144 → w i = 0 ∨ w i = 1) (hw2 : ∀ i, i < 144 → ¬ w i = 0 → ¬ yops i = 1) {g : Nat → Nat} {n s : Nat} (hL : ly_LS yops yA ycnt ylist g n) (hs : s < 2) {kb : Nat → Bool} (hK : ∀ u, u < 12 → (ystay u = 0 ↔ kb u = false)) {z : Nat × (Nat → Int32)} (hz : z.1 ≤ 2404)
    (H : J (nI (ly_pl yops yA yB w ycnt kb g s n z).1) (nI (s + 1)) yorg ystrip (nI n) yculp (if s = 0 then nI (ly_pl yops yA yB w ycnt kb g s n z).1 else ytend) yend ymade yrounds yentry ylinked yran ypc ysteps youts yops yA yB ycnt yrole ylist ((ly_pl yops yA yB w ycnt kb g s n z).2) ysym yimg ystay ywide ymem yreg yout) : ∀ (d i : Nat), i + d = n → wY_place_36 post J (nI s) (d + 1) (nI (ly_pl yops yA yB w ycnt kb g s i z).1) (nI i) yorg ystrip (nI n) yculp ytend yend ymade yrounds yentry ylinked yran ypc ysteps youts yops yA yB ycnt yrole ylist ((ly_pl yops yA yB w ycnt kb g s i z).2) ysym yimg ystay ywide ymem yreg yout := by
  obtain ⟨hn, hg⟩ := hL
  intro d
  induction d with
  | zero =>
    intro i hd
    have e : i = n := by omega
    subst e
    refine br_t (Int32.le_refl _) ?_
    by_cases h0 : s = 0
    · rw [if_pos h0] at H
      exact br_t (by rw [h0]; rfl) (nm_r (nI_1 s) H)
    · rw [if_neg h0] at H
      exact br_f (nI_ne0 (by omega) (by omega)) (nm_r (nI_1 s) H)
  | succ d ih =>
    intro i hd
    obtain ⟨g1, g2, g3⟩ := hg i (by omega)
    have hle := ly_pl_le hF hW w (kb := kb) (s := s) i (fun j hj => (hg j (by omega)).1) z
    have IH := ih (i + 1) (by omega)
    refine br_f (nI_ge (by omega) (by omega)) ⟨vp_in_nI (by omega) (by omega), ?_⟩
    rw [ly_cl (i := i) (by omega), g2]
    cases e : kb (2 * g i + s) with
    | false =>
      rw [ly_pl_n e] at IH
      exact nm_r (ly_idy (g i)) ⟨ly_c ycnt (g i) + 1, ly_ypn (hW := hW) (hF := hF) (hm := g1) (hs := hs) (hk := (hK _ (by omega)).mpr e) (x4 := _) (H := nm_r (nI_1 i) IH) (ly_c ycnt (g i)) 0 (by omega)⟩
    | true =>
      rw [ly_pl_y e] at IH
      exact nm_r (ly_idy (g i)) ⟨ly_c ycnt (g i) + 1, ly_ypu (hW := hW) (hF := hF) (hw := hw) (hw1 := hw1) (hw2 := hw2) (hm := g1) (hs := hs) (hk := fun q => by have := (hK _ (by omega)).mp q; rw [e] at this; exact absurd this (by decide)) (z := ly_pl yops yA yB w ycnt kb g s i z) (hz := by omega) (H := nm_r (nI_1 i) IH) (ly_c ycnt (g i)) 0 (by omega)⟩
theorem ly_yp7 {post : SY → Prop} {ystrip yculp ytend yend ymade yrounds yentry ylinked yran ypc ysteps youts : Int32} {yops yA yB ycnt yrole ylist ysym yimg ystay ywide ymem yreg yout : Nat → Int32} (hW : ly_W ycnt) (hF : ly_F yops yA yB) {w : Nat → Int32} (hw : ly_AG 144 ywide w) (hw1 : ∀ i, i < 144 → w i = 0 ∨ w i = 1) (hw2 : ∀ i, i < 144 → ¬ w i = 0 → ¬ yops i = 1) {g : Nat → Nat} {n base : Nat} (hL : ly_LS yops yA ycnt ylist g n) (hb : base ≤ 100) {kb : Nat → Bool} (hK : ∀ u, u < 12 → (ystay u = 0 ↔ kb u = false))
    (H : ∀ P : Nat → Int32, (∀ x, x < 144 → P x = -1) → post (nI base, ystrip, nI n, yculp, nI (ly_p0 yops yA yB w ycnt kb g n base P).1, nI (ly_p1 yops yA yB w ycnt kb g n base P).1, ymade, yrounds, yentry, ylinked, yran, ypc, ysteps, youts, yops, yA, yB, ycnt, yrole, ylist, (ly_p1 yops yA yB w ycnt kb g n base P).2, ysym, yimg, ystay, ywide, ymem, yreg, yout)) : ∀ (d k : Nat) (yplace : Nat → Int32), k + d = 144 → (∀ x, x < k → yplace x = -1) → wY_place_7 post (nI base) (nI base) ystrip (nI n) yculp ytend yend ymade yrounds yentry ylinked yran ypc ysteps youts (d + 1) (nI k) yops yA yB ycnt yrole ylist yplace ysym yimg ystay ywide ymem yreg yout := by
  have hg : ∀ j, j < n → g j < 6 := fun j hj => (hL.2 j hj).1
  intro d
  induction d with
  | zero =>
    intro k P hd hP
    have e : k = 144 := by omega
    subst e
    have hle := ly_pl_le hF hW w (kb := kb) (s := 0) n hg (base, P)
    have hn := hL.1
    dsimp only at hle
    refine br_t (by decide) ⟨3, br_f (by decide) ⟨n + 1, ly_yp36 (hW := hW) (hF := hF) (hw := hw) (hw1 := hw1) (hw2 := hw2) (hL := hL) (s := 0) (hs := by omega) (hK := hK) (z := (base, P)) (hz := by dsimp only; omega) (H := ?_) n 0 (by omega)⟩⟩
    rw [if_pos rfl]
    refine br_f (by decide) ⟨n + 1, ly_yp36 (hW := hW) (hF := hF) (hw := hw) (hw1 := hw1) (hw2 := hw2) (hL := hL) (s := 1) (hs := by omega) (hK := hK) (z := ly_pl yops yA yB w ycnt kb g 0 n (base, P)) (hz := by omega) (H := ?_) n 0 (by omega)⟩
    rw [if_neg (by decide)]
    exact br_t (by decide) (H P hP)
  | succ d ih =>
    intro k P hd hP
    refine br_f (nI_ge (b := 144) (by omega) (by omega)) ⟨vp_in_nI (by omega) (by omega), nm_r (e' := upd P k (-1)) (by rw [ly_cl (i := k) (by omega)]) (nm_r (nI_1 k) (ih (k + 1) _ (by omega) (fun x hx => ?_)))⟩
    by_cases e : x = k
    · subst e; exact pk_us
    · rw [pk_un e]; exact hP x (by omega)
theorem ly_ypl {post : SY → Prop} {ystrip yculp ytend yend ymade yrounds yentry ylinked yran ypc ysteps youts : Int32} {yops yA yB ycnt yrole ylist yplace ysym yimg ystay ywide ymem yreg yout : Nat → Int32} (hW : ly_W ycnt) (hF : ly_F yops yA yB) {w : Nat → Int32} (hw : ly_AG 144 ywide w) (hw1 : ∀ i, i < 144 → w i = 0 ∨ w i = 1) (hw2 : ∀ i, i < 144 → ¬ w i = 0 → ¬ yops i = 1) {g : Nat → Nat} {n base : Nat} (hL : ly_LS yops yA ycnt ylist g n) (hb : base ≤ 100) {kb : Nat → Bool} (hK : ∀ u, u < 12 → (ystay u = 0 ↔ kb u = false))
    (H : ∀ P : Nat → Int32, (∀ x, x < 144 → P x = -1) → post (nI base, ystrip, nI n, yculp, nI (ly_p0 yops yA yB w ycnt kb g n base P).1, nI (ly_p1 yops yA yB w ycnt kb g n base P).1, ymade, yrounds, yentry, ylinked, yran, ypc, ysteps, youts, yops, yA, yB, ycnt, yrole, ylist, (ly_p1 yops yA yB w ycnt kb g n base P).2, ysym, yimg, ystay, ywide, ymem, yreg, yout)) : wpY_place post (nI base, ystrip, nI n, yculp, ytend, yend, ymade, yrounds, yentry, ylinked, yran, ypc, ysteps, youts, yops, yA, yB, ycnt, yrole, ylist, yplace, ysym, yimg, ystay, ywide, ymem, yreg, yout) :=
  ⟨145, ly_yp7 (hW := hW) (hF := hF) (hw := hw) (hw1 := hw1) (hw2 := hw2) (hL := hL) (hb := hb) (hK := hK) (H := H) 144 0 yplace (by omega) (fun x hx => absurd hx (Nat.not_lt_zero x))⟩
end
section
/-! making long: X and Y -/
def ly_tw (o P : Nat → Int32) (i t : Nat) : Bool := decide (((o i = 8 ∨ o i = 9 ∨ o i = 10) ∧ (P t - P i < -16 ∨ 15 < P t - P i)) ∨ (o i = 12 ∧ 63 < P t))
def ly_fr (o a b cnt : Nat → Int32) (g : Nat → Nat) (n : Nat) (P w : Nat → Int32) (i : Nat) : Bool := ((decide (¬ P i = -1) && ly_at o cnt g n i) && decide (w i = 0)) && ly_tw o P i (ly_tn o a b cnt g n i)
def ly_wd (o a b cnt : Nat → Int32) (g : Nat → Nat) (n : Nat) (P w : Nat → Int32) : Nat → Int32 := fun x => if ly_fr o a b cnt g n P w x = true then 1 else w x
theorem ly_tw_n {o P : Nat → Int32} {i t : Nat} (h8 : ¬ o i = 8) (h9 : ¬ o i = 9) (h10 : ¬ o i = 10) (h12 : ¬ o i = 12) : ly_tw o P i t = false := decide_eq_false (fun z => by
  rcases z with ⟨z | z | z, _⟩ | ⟨z, _⟩
  · exact h8 z
  · exact h9 z
  · exact h10 z
  · exact h12 z)
theorem ly_tw_j {o P : Nat → Int32} {i t : Nat} (h : o i = 8 ∨ o i = 9 ∨ o i = 10) : ly_tw o P i t = decide (P t - P i < -16 ∨ 15 < P t - P i) := by
  unfold ly_tw
  have h12 : ¬ o i = 12 := by rcases h with z | z | z <;> rw [z] <;> decide
  by_cases c : P t - P i < -16 ∨ 15 < P t - P i
  · rw [decide_eq_true c, decide_eq_true (Or.inl ⟨h, c⟩)]
  · rw [decide_eq_false c, decide_eq_false (fun z => z.elim (fun y => c y.2) (fun y => h12 y.1))]
theorem ly_tw_l {o P : Nat → Int32} {i t : Nat} (h : o i = 12) : ly_tw o P i t = decide (63 < P t) := by
  unfold ly_tw
  by_cases c : 63 < P t
  · rw [decide_eq_true c, decide_eq_true (Or.inr ⟨h, c⟩)]
  · rw [decide_eq_false c, decide_eq_false (fun z => z.elim (fun y => by
      rcases y.1 with z | z | z <;> rw [h] at z <;> exact absurd z (by decide)) (fun y => c y.2))]
theorem ly_x60 {post : Int32 → Prop} {xbase xstrip xllen xtend xaend xlcnt xlrnd xlinked xblamed xouts xpc xsteps xran : Int32} {xops xA xB xcnt xrole xloc xglo xweak xuse xrep xunit xtgt xstay xlong xlist xchosen xplace ximg xreg xstore xout : Nat → Int32} {x3 : Int32} (H : post (ly_bi (decide (x3 < -16 ∨ 15 < x3)))) : wX_isTooFar_60 post x3 xbase xstrip xllen xtend xaend xlcnt xlrnd xlinked xblamed xouts xpc xsteps xran xops xA xB xcnt xrole xloc xglo xweak xuse xrep xunit xtgt xstay xlong xlist xchosen xplace ximg xreg xstore xout := by
  by_cases h1 : x3 < -16
  · rw [decide_eq_true (Or.inl h1)] at H; exact br_t h1 H
  · by_cases h2 : x3 ≤ 15
    · rw [decide_eq_false (fun z => z.elim h1 (fun y => absurd h2 (Int32.not_le.mpr y)))] at H; exact br_f h1 (br_t h2 H)
    · rw [decide_eq_true (Or.inr (Int32.not_le.mp h2))] at H; exact br_f h1 (br_f h2 H)
theorem ly_xtf {post : Int32 → Prop} {xbase xstrip xllen xtend xaend xlcnt xlrnd xlinked xblamed xouts xpc xsteps xran : Int32} {xops xA xB xcnt xrole xloc xglo xweak xuse xrep xunit xtgt xstay xlong xlist xchosen xplace ximg xreg xstore xout : Nat → Int32} (hF : ly_F xops xA xB) {i t : Nat} (hi : i < 144) (ht : t < 144) (et : xtgt i = nI t) (H : post (ly_bi (ly_tw xops xplace i t))) : wpX_isTooFar post (xbase, xstrip, xllen, xtend, xaend, xlcnt, xlrnd, xlinked, xblamed, xouts, xpc, xsteps, xran, xops, xA, xB, xcnt, xrole, xloc, xglo, xweak, xuse, xrep, xunit, xtgt, xstay, xlong, xlist, xchosen, xplace, ximg, xreg, xstore, xout) (nI i) := by
  have vi : vp_in (nI i) 144 := vp_in_nI hi (by omega)
  obtain ⟨op, hop, eo, _⟩ := hF i hi
  unfold wpX_isTooFar
  dsimp only
  rw [ly_cl (i := i) (by omega), et, ly_cl (i := t) (by omega)]
  refine ⟨vi, vp_in_nI ht (by omega), nm_e ⟨vi, nm_e ⟨vi, nm_r eo ?_⟩⟩⟩
  have h : op = 0 ∨ op = 1 ∨ op = 2 ∨ op = 3 ∨ op = 4 ∨ op = 5 ∨ op = 6 ∨ op = 7 ∨ op = 8 ∨ op = 9 ∨ op = 10 ∨ op = 11 ∨ op = 12 ∨ op = 13 ∨ op = 14 ∨ op = 15 ∨ op = 16 ∨ op = 17 ∨ op = 18 ∨ op = 19 := by omega
  rcases h with rfl | rfl | rfl | rfl | rfl | rfl | rfl | rfl | rfl | rfl | rfl | rfl | rfl | rfl | rfl | rfl | rfl | rfl | rfl | rfl
  · rw [ly_tw_n (by rw [eo]; decide) (by rw [eo]; decide) (by rw [eo]; decide) (by rw [eo]; decide)] at H; (repeat (first | refine br_t (by decide) ?_ | refine br_f (by decide) ?_)); exact H
  · rw [ly_tw_n (by rw [eo]; decide) (by rw [eo]; decide) (by rw [eo]; decide) (by rw [eo]; decide)] at H; (repeat (first | refine br_t (by decide) ?_ | refine br_f (by decide) ?_)); exact H
  · rw [ly_tw_n (by rw [eo]; decide) (by rw [eo]; decide) (by rw [eo]; decide) (by rw [eo]; decide)] at H; (repeat (first | refine br_t (by decide) ?_ | refine br_f (by decide) ?_)); exact H
  · rw [ly_tw_n (by rw [eo]; decide) (by rw [eo]; decide) (by rw [eo]; decide) (by rw [eo]; decide)] at H; (repeat (first | refine br_t (by decide) ?_ | refine br_f (by decide) ?_)); exact H
  · rw [ly_tw_n (by rw [eo]; decide) (by rw [eo]; decide) (by rw [eo]; decide) (by rw [eo]; decide)] at H; (repeat (first | refine br_t (by decide) ?_ | refine br_f (by decide) ?_)); exact H
  · rw [ly_tw_n (by rw [eo]; decide) (by rw [eo]; decide) (by rw [eo]; decide) (by rw [eo]; decide)] at H; (repeat (first | refine br_t (by decide) ?_ | refine br_f (by decide) ?_)); exact H
  · rw [ly_tw_n (by rw [eo]; decide) (by rw [eo]; decide) (by rw [eo]; decide) (by rw [eo]; decide)] at H; (repeat (first | refine br_t (by decide) ?_ | refine br_f (by decide) ?_)); exact H
  · rw [ly_tw_n (by rw [eo]; decide) (by rw [eo]; decide) (by rw [eo]; decide) (by rw [eo]; decide)] at H; (repeat (first | refine br_t (by decide) ?_ | refine br_f (by decide) ?_)); exact H
  · rw [ly_tw_j (by rw [eo]; decide)] at H; refine br_f (by decide) (br_f (by decide) (br_t rfl ?_))
    exact ly_x60 (H := H)
  · rw [ly_tw_j (by rw [eo]; decide)] at H; refine br_f (by decide) (br_f (by decide) (br_f (by decide) (br_t rfl ?_)))
    exact ly_x60 (H := H)
  · rw [ly_tw_j (by rw [eo]; decide)] at H; refine br_f (by decide) (br_f (by decide) (br_f (by decide) (br_f (by decide) (br_t rfl ?_))))
    exact ly_x60 (H := H)
  · rw [ly_tw_n (by rw [eo]; decide) (by rw [eo]; decide) (by rw [eo]; decide) (by rw [eo]; decide)] at H; (repeat (first | refine br_t (by decide) ?_ | refine br_f (by decide) ?_)); exact H
  · rw [ly_tw_l eo] at H
    refine br_f (by decide) (br_f (by decide) (br_f (by decide) (br_f (by decide) (br_f (by decide) (br_f (by decide) (br_t rfl ?_))))))
    by_cases h2 : xplace t ≤ 63
    · rw [decide_eq_false (Int32.not_lt.mpr h2)] at H; exact br_t h2 H
    · rw [decide_eq_true (Int32.not_le.mp h2)] at H; exact br_f h2 H
  · rw [ly_tw_n (by rw [eo]; decide) (by rw [eo]; decide) (by rw [eo]; decide) (by rw [eo]; decide)] at H; (repeat (first | refine br_t (by decide) ?_ | refine br_f (by decide) ?_)); exact H
  · rw [ly_tw_n (by rw [eo]; decide) (by rw [eo]; decide) (by rw [eo]; decide) (by rw [eo]; decide)] at H; (repeat (first | refine br_t (by decide) ?_ | refine br_f (by decide) ?_)); exact H
  · rw [ly_tw_n (by rw [eo]; decide) (by rw [eo]; decide) (by rw [eo]; decide) (by rw [eo]; decide)] at H; (repeat (first | refine br_t (by decide) ?_ | refine br_f (by decide) ?_)); exact H
  · rw [ly_tw_n (by rw [eo]; decide) (by rw [eo]; decide) (by rw [eo]; decide) (by rw [eo]; decide)] at H; (repeat (first | refine br_t (by decide) ?_ | refine br_f (by decide) ?_)); exact H
  · rw [ly_tw_n (by rw [eo]; decide) (by rw [eo]; decide) (by rw [eo]; decide) (by rw [eo]; decide)] at H; (repeat (first | refine br_t (by decide) ?_ | refine br_f (by decide) ?_)); exact H
  · rw [ly_tw_n (by rw [eo]; decide) (by rw [eo]; decide) (by rw [eo]; decide) (by rw [eo]; decide)] at H; (repeat (first | refine br_t (by decide) ?_ | refine br_f (by decide) ?_)); exact H
  · rw [ly_tw_n (by rw [eo]; decide) (by rw [eo]; decide) (by rw [eo]; decide) (by rw [eo]; decide)] at H; (repeat (first | refine br_t (by decide) ?_ | refine br_f (by decide) ?_)); exact H
theorem ly_fr_f {o a b cnt : Nat → Int32} {g : Nat → Nat} {n : Nat} {P w : Nat → Int32} {i : Nat} (h : P i = -1 ∨ ly_at o cnt g n i = false ∨ ¬ w i = 0 ∨ ly_tw o P i (ly_tn o a b cnt g n i) = false) : ly_fr o a b cnt g n P w i = false := by
  unfold ly_fr
  rcases h with h | h | h | h
  · rw [decide_eq_false (fun z => z h)]; rfl
  · rw [h, Bool.and_false]; rfl
  · rw [decide_eq_false h, Bool.and_false]; rfl
  · rw [h, Bool.and_false]
theorem ly_fr_e {o a b cnt : Nat → Int32} {g : Nat → Nat} {n : Nat} {P w : Nat → Int32} {i : Nat} (h1 : ¬ P i = -1) (h2 : ly_at o cnt g n i = true) (h3 : w i = 0) : ly_fr o a b cnt g n P w i = ly_tw o P i (ly_tn o a b cnt g n i) := by
  unfold ly_fr
  rw [decide_eq_true h1, h2, decide_eq_true h3]; rfl
theorem ly_ct_y {p : Nat → Bool} {i : Nat} (h : p i = true) : ly_ct p (i + 1) = ly_ct p i + 1 := by
  show _ + (if p i = true then 1 else 0) = _
  rw [if_pos h]
theorem ly_ct_n {p : Nat → Bool} {i : Nat} (h : p i = false) : ly_ct p (i + 1) = ly_ct p i := by
  show _ + (if p i = true then 1 else 0) = _
  rw [if_neg (by rw [h]; decide)]; rfl
/-- the table so far -/
def ly_WS (o a b cnt : Nat → Int32) (g : Nat → Nat) (n : Nat) (P w : Nat → Int32) (i : Nat) (lo : Nat → Int32) : Prop := ∀ x, x < 144 → lo x = if x < i ∧ ly_fr o a b cnt g n P w x = true then 1 else w x
theorem ly_WS_n {o a b cnt : Nat → Int32} {g : Nat → Nat} {n : Nat} {P w : Nat → Int32} {i : Nat} {lo : Nat → Int32} (h : ly_WS o a b cnt g n P w i lo) (hf : ly_fr o a b cnt g n P w i = false) : ly_WS o a b cnt g n P w (i + 1) lo := by
  intro x hx
  rw [h x hx]
  by_cases e : x = i
  · subst e
    rw [if_neg (fun z => by rw [hf] at z; exact absurd z.2 (by decide)), if_neg (fun z => by rw [hf] at z; exact absurd z.2 (by decide))]
  · by_cases c : x < i ∧ ly_fr o a b cnt g n P w x = true
    · rw [if_pos c, if_pos ⟨by have := c.1; omega, c.2⟩]
    · rw [if_neg c, if_neg (fun z => c ⟨by have := z.1; omega, z.2⟩)]
theorem ly_WS_y {o a b cnt : Nat → Int32} {g : Nat → Nat} {n : Nat} {P w : Nat → Int32} {i : Nat} {lo : Nat → Int32} (h : ly_WS o a b cnt g n P w i lo) (hf : ly_fr o a b cnt g n P w i = true) : ly_WS o a b cnt g n P w (i + 1) (upd lo i 1) := by
  intro x hx
  by_cases e : x = i
  · subst e; rw [pk_us, if_pos ⟨by omega, hf⟩]
  · rw [pk_un e, h x hx]
    by_cases c : x < i ∧ ly_fr o a b cnt g n P w x = true
    · rw [if_pos c, if_pos ⟨by have := c.1; omega, c.2⟩]
    · rw [if_neg c, if_neg (fun z => c ⟨by have := z.1; omega, z.2⟩)]
theorem ly_WS_e {o a b cnt : Nat → Int32} {g : Nat → Nat} {n : Nat} {P w lo : Nat → Int32} (h : ly_WS o a b cnt g n P w 144 lo) : ly_AG 144 lo (ly_wd o a b cnt g n P w) := by
  intro x hx
  rw [h x hx]
  unfold ly_wd
  by_cases c : ly_fr o a b cnt g n P w x = true
  · rw [if_pos ⟨hx, c⟩, if_pos c]
  · rw [if_neg (fun z => c z.2), if_neg c]
theorem ly_tw_c {o P Q : Nat → Int32} {i t : Nat} (h1 : P i = Q i) (h2 : P t = Q t) : ly_tw o P i t = ly_tw o Q i t := by
  unfold ly_tw; rw [h1, h2]
theorem ly_xl4 {post : Int32 → SX → Prop} {xbase xstrip xllen xtend xaend xlcnt xlrnd xlinked xblamed xouts xpc xsteps xran : Int32} {xops xA xB xcnt xrole xloc xglo xweak xuse xrep xunit xtgt xstay xlist xchosen xplace ximg xreg xstore xout : Nat → Int32} (hW : ly_W xcnt) (hF : ly_F xops xA xB) {g : Nat → Nat} {n : Nat} (hG : ly_GD xops xA xB xcnt g n) (hT : ∀ x, x < 144 → xtgt x = if ly_at xops xcnt g n x = true then ly_tg xops xA xB xcnt g n x else -1) {P w : Nat → Int32} (hP : ly_AG 144 xplace P)
    (H : ∀ lo : Nat → Int32, ly_AG 144 lo (ly_wd xops xA xB xcnt g n P w) → post (nI (ly_ct (ly_fr xops xA xB xcnt g n P w) 144)) (xbase, xstrip, xllen, xtend, xaend, xlcnt, xlrnd, xlinked, xblamed, xouts, xpc, xsteps, xran, xops, xA, xB, xcnt, xrole, xloc, xglo, xweak, xuse, xrep, xunit, xtgt, xstay, lo, xlist, xchosen, xplace, ximg, xreg, xstore, xout)) : ∀ (d i : Nat) (lo : Nat → Int32), i + d = 144 → ly_WS xops xA xB xcnt g n P w i lo → wX_lengthen_4 post xbase xstrip xllen xtend xaend xlcnt xlrnd xlinked xblamed xouts xpc xsteps xran (d + 1) (nI (ly_ct (ly_fr xops xA xB xcnt g n P w) i)) (nI i) xops xA xB xcnt xrole xloc xglo xweak xuse xrep xunit xtgt xstay lo xlist xchosen xplace ximg xreg xstore xout := by
  intro d
  induction d with
  | zero =>
    intro i lo hd h
    have e : i = 144 := by omega
    subst e
    exact br_t (by decide) (H lo (ly_WS_e h))
  | succ d ih =>
    intro i lo hd h
    have hi : i < 144 := by omega
    have ei : (nI i).toNatClampNeg = i := ly_cl (by omega)
    have vi : vp_in (nI i) 144 := vp_in_nI hi (by omega)
    have elo : lo i = w i := by rw [h i hi, if_neg (fun z => by have := z.1; omega)]
    have next : ly_fr xops xA xB xcnt g n P w i = false → wX_lengthen_4 post xbase xstrip xllen xtend xaend xlcnt xlrnd xlinked xblamed xouts xpc xsteps xran (d + 1) (nI (ly_ct (ly_fr xops xA xB xcnt g n P w) i)) (nI (i + 1)) xops xA xB xcnt xrole xloc xglo xweak xuse xrep xunit xtgt xstay lo xlist xchosen xplace ximg xreg xstore xout := by
      intro hf
      have IH := ih (i + 1) lo (by omega) (ly_WS_n h hf)
      rw [ly_ct_n hf] at IH
      exact IH
    refine br_f (nI_ge (b := 144) hi (by omega)) ⟨vi, ?_⟩
    rw [ei]
    by_cases hp : xplace i = -1
    · exact br_t hp (nm_r (nI_1 i) (next (ly_fr_f (Or.inl ((hP i hi).symm.trans hp)))))
    · refine br_f hp ⟨vi, ?_⟩
      have hp' : ¬ P i = -1 := fun z => hp ((hP i hi).trans z)
      cases ha : ly_at xops xcnt g n i with
      | false =>
        have et : xtgt i = -1 := by rw [hT i hi, ha]; rfl
        exact br_t et (nm_r (nI_1 i) (next (ly_fr_f (Or.inr (Or.inl ha)))))
      | true =>
        obtain ⟨t1, t2⟩ := ly_tn_t hW hF hG hi ha
        have ht := t1.1
        have et : xtgt i = nI (ly_tn xops xA xB xcnt g n i) := by rw [hT i hi, ha, if_pos rfl]; exact t2
        refine br_f (by rw [et]; exact ly_m1 (by omega)) ⟨vi, ?_⟩
        by_cases hw : lo i = 0
        · have hw' : w i = 0 := elo.symm.trans hw
          have ef := ly_fr_e (a := xA) (b := xB) hp' ha hw'
          refine br_t hw (ly_xtf (hF := hF) (hi := hi) (ht := ht) (et := et) (H := ?_))
          rw [ly_tw_c (hP i hi) (hP _ ht), ← ef]
          cases hf : ly_fr xops xA xB xcnt g n P w i with
          | false => exact br_t rfl (nm_r (nI_1 i) (next hf))
          | true =>
            have IH := ih (i + 1) (upd lo i 1) (by omega) (ly_WS_y h hf)
            rw [ly_ct_y hf] at IH
            exact br_f (by decide) ⟨vi, nm_r (e' := upd lo i 1) (by rw [ly_nar1]) (nm_r (nI_1 _) (nm_r (nI_1 i) IH))⟩
        · exact br_f hw (nm_r (nI_1 i) (next (ly_fr_f (Or.inr (Or.inr (Or.inl (fun z => hw (elo.trans z))))))))
theorem ly_xlen {post : Int32 → SX → Prop} {xbase xstrip xllen xtend xaend xlcnt xlrnd xlinked xblamed xouts xpc xsteps xran : Int32} {xops xA xB xcnt xrole xloc xglo xweak xuse xrep xunit xtgt xstay xlong xlist xchosen xplace ximg xreg xstore xout : Nat → Int32} (hW : ly_W xcnt) (hF : ly_F xops xA xB) {g : Nat → Nat} {n : Nat} (hG : ly_GD xops xA xB xcnt g n) (hT : ∀ x, x < 144 → xtgt x = if ly_at xops xcnt g n x = true then ly_tg xops xA xB xcnt g n x else -1) {P w : Nat → Int32} (hP : ly_AG 144 xplace P) (hw : ly_AG 144 xlong w)
    (H : ∀ lo : Nat → Int32, ly_AG 144 lo (ly_wd xops xA xB xcnt g n P w) → post (nI (ly_ct (ly_fr xops xA xB xcnt g n P w) 144)) (xbase, xstrip, xllen, xtend, xaend, xlcnt, xlrnd, xlinked, xblamed, xouts, xpc, xsteps, xran, xops, xA, xB, xcnt, xrole, xloc, xglo, xweak, xuse, xrep, xunit, xtgt, xstay, lo, xlist, xchosen, xplace, ximg, xreg, xstore, xout)) : wpX_lengthen post (xbase, xstrip, xllen, xtend, xaend, xlcnt, xlrnd, xlinked, xblamed, xouts, xpc, xsteps, xran, xops, xA, xB, xcnt, xrole, xloc, xglo, xweak, xuse, xrep, xunit, xtgt, xstay, xlong, xlist, xchosen, xplace, ximg, xreg, xstore, xout) :=
  ⟨145, ly_xl4 (hW := hW) (hF := hF) (hG := hG) (hT := hT) (hP := hP) (H := H) 144 0 xlong (by omega) (fun x hx => by rw [if_neg (fun z => by have := z.1; omega)]; exact hw x hx)⟩
theorem ly_y115 {post : Int32 → SY → Prop} {J : Int32 → Int32 → (Nat → Int32) → (Nat → Int32) → (Nat → Int32) → (Nat → Int32) → (Nat → Int32) → (Nat → Int32) → (Nat → Int32) → (Nat → Int32) → (Nat → Int32) → (Nat → Int32) → (Nat → Int32) → (Nat → Int32) → (Nat → Int32) → (Nat → Int32) → Prop} {yorg ystrip ymany yculp ytend yend ymade yrounds yentry ylinked yran ypc ysteps youts : Int32} {yops yA yB ycnt yrole ylist yplace ysym yimg ystay ywide ymem yreg yout : Nat → Int32} {i c : Nat} (hi : i < 144) (H : J (nI (c + 1)) (nI (i + 1)) yops yA yB ycnt yrole ylist yplace ysym yimg ystay (upd ywide i 1) ymem yreg yout) : wY_widen_115 post J (nI c) (nI i) yorg ystrip ymany yculp ytend yend ymade yrounds yentry ylinked yran ypc ysteps youts yops yA yB ycnt yrole ylist yplace ysym yimg ystay ywide ymem yreg yout :=
  ⟨vp_in_nI hi (by omega), nm_r (e' := upd ywide i 1) (by rw [ly_cl (i := i) (by omega), ly_nar1]) (nm_r (nI_1 c) (nm_r (nI_1 i) H))⟩
theorem ly_y58 {post : Int32 → SY → Prop} {J : Int32 → Int32 → (Nat → Int32) → (Nat → Int32) → (Nat → Int32) → (Nat → Int32) → (Nat → Int32) → (Nat → Int32) → (Nat → Int32) → (Nat → Int32) → (Nat → Int32) → (Nat → Int32) → (Nat → Int32) → (Nat → Int32) → (Nat → Int32) → (Nat → Int32) → Prop} {yorg ystrip yculp ytend yend ymade yrounds yentry ylinked yran ypc ysteps youts : Int32} {yops yA yB ycnt yrole ylist yplace ysym yimg ystay ywide ymem yreg yout : Nat → Int32} (hW : ly_W ycnt) (hF : ly_F yops yA yB) {g : Nat → Nat} {n : Nat} (hL : ly_LS yops yA ycnt ylist g n) (hG : ly_GD yops yA yB ycnt g n) {i c : Nat} (hi : i < 144) (ha : ly_at yops ycnt g n i = true) (ho : yops i = 8 ∨ yops i = 9 ∨ yops i = 10 ∨ yops i = 12)
    (H1 : ly_tw yops yplace i (ly_tn yops yA yB ycnt g n i) = true → J (nI (c + 1)) (nI (i + 1)) yops yA yB ycnt yrole ylist yplace ysym yimg ystay (upd ywide i 1) ymem yreg yout) (H0 : ly_tw yops yplace i (ly_tn yops yA yB ycnt g n i) = false → J (nI c) (nI (i + 1)) yops yA yB ycnt yrole ylist yplace ysym yimg ystay ywide ymem yreg yout) : wY_widen_58 post J (nI c) (nI i) (yops i) 1 yorg ystrip (nI n) yculp ytend yend ymade yrounds yentry ylinked yran ypc ysteps youts yops yA yB ycnt yrole ylist yplace ysym yimg ystay ywide ymem yreg yout := by
  obtain ⟨t1, t2⟩ := ly_tn_t hW hF hG hi ha
  have ht := t1.1
  have ha' := ha
  unfold ly_at at ha'
  rw [Bool.and_eq_true, Bool.and_eq_true, decide_eq_true_eq] at ha'
  obtain ⟨f, hf', ef⟩ := ly_ft_s (hF i hi) ha'.2
  obtain ⟨j, j1, j2⟩ := ly_li_g.mp ha'.1.1
  refine br_f (by decide) (ly_ytg (hW := hW) (hF := hF) (hL := hL) (hi := hi) (hf := by rw [← j2]; exact (hG.2.1 j j1).2) (hs := by rw [ef]; exact hG.2.2.1 f hf') (H := ?_))
  rw [t2]
  refine ⟨vp_in_nI ht (by omega), ?_⟩
  rw [ly_cl (i := ly_tn yops yA yB ycnt g n i) (by omega)]
  refine nm_e ?_
  by_cases h12 : yops i = 12
  · refine br_t h12 ?_
    rw [ly_tw_l h12] at H1 H0
    by_cases h2 : yplace (ly_tn yops yA yB ycnt g n i) ≤ 63
    · exact br_t h2 (nm_r (nI_1 i) (H0 (decide_eq_false (Int32.not_lt.mpr h2))))
    · exact br_f h2 (ly_y115 (hi := hi) (H := H1 (decide_eq_true (Int32.not_le.mp h2))))
  · have hj : yops i = 8 ∨ yops i = 9 ∨ yops i = 10 := by
      rcases ho with z | z | z | z
      · exact Or.inl z
      · exact Or.inr (Or.inl z)
      · exact Or.inr (Or.inr z)
      · exact absurd z h12
    rw [ly_tw_j hj] at H1 H0
    refine br_f h12 ⟨vp_in_nI hi (by omega), ?_⟩
    rw [ly_cl (i := i) (by omega)]
    by_cases c1 : yplace (ly_tn yops yA yB ycnt g n i) - yplace i < -16
    · exact br_t c1 (br_t rfl (ly_y115 (hi := hi) (H := H1 (decide_eq_true (Or.inl c1)))))
    · by_cases c2 : 15 < yplace (ly_tn yops yA yB ycnt g n i) - yplace i
      · exact br_f c1 (br_t c2 (br_t rfl (ly_y115 (hi := hi) (H := H1 (decide_eq_true (Or.inr c2))))))
      · exact br_f c1 (br_f c2 (br_f (by decide) (nm_r (nI_1 i) (H0 (decide_eq_false (fun z => z.elim c1 c2))))))
theorem ly_yw4 {post : Int32 → SY → Prop} {yorg ystrip yculp ytend yend ymade yrounds yentry ylinked yran ypc ysteps youts : Int32} {yops yA yB ycnt yrole ylist yplace ysym yimg ystay ymem yreg yout : Nat → Int32} (hW : ly_W ycnt) (hF : ly_F yops yA yB) {g : Nat → Nat} {n : Nat} (hL : ly_LS yops yA ycnt ylist g n) (hG : ly_GD yops yA yB ycnt g n) {P w : Nat → Int32} (hP : ly_AG 144 yplace P) (hPp : ∀ i, i < 144 → P i = -1 ∨ (∃ p : Nat, p < 2 ^ 31 ∧ P i = nI p) ∧ ly_th ycnt g n i)
    (H : ∀ lo : Nat → Int32, ly_AG 144 lo (ly_wd yops yA yB ycnt g n P w) → post (nI (ly_ct (ly_fr yops yA yB ycnt g n P w) 144)) (yorg, ystrip, nI n, yculp, ytend, yend, ymade, yrounds, yentry, ylinked, yran, ypc, ysteps, youts, yops, yA, yB, ycnt, yrole, ylist, yplace, ysym, yimg, ystay, lo, ymem, yreg, yout)) : ∀ (d i : Nat) (lo : Nat → Int32), i + d = 144 → ly_WS yops yA yB ycnt g n P w i lo → wY_widen_4 post yorg ystrip (nI n) yculp ytend yend ymade yrounds yentry ylinked yran ypc ysteps youts (d + 1) (nI (ly_ct (ly_fr yops yA yB ycnt g n P w) i)) (nI i) yops yA yB ycnt yrole ylist yplace ysym yimg ystay lo ymem yreg yout := by
  intro d
  induction d with
  | zero =>
    intro i lo hd h
    have e : i = 144 := by omega
    subst e
    exact br_t (by decide) (H lo (ly_WS_e h))
  | succ d ih =>
    intro i lo hd h
    have hi : i < 144 := by omega
    have ei : (nI i).toNatClampNeg = i := ly_cl (by omega)
    have vi : vp_in (nI i) 144 := vp_in_nI hi (by omega)
    have elo : lo i = w i := by rw [h i hi, if_neg (fun z => by have := z.1; omega)]
    have next : ly_fr yops yA yB ycnt g n P w i = false → wY_widen_4 post yorg ystrip (nI n) yculp ytend yend ymade yrounds yentry ylinked yran ypc ysteps youts (d + 1) (nI (ly_ct (ly_fr yops yA yB ycnt g n P w) i)) (nI (i + 1)) yops yA yB ycnt yrole ylist yplace ysym yimg ystay lo ymem yreg yout := by
      intro hf
      have IH := ih (i + 1) lo (by omega) (ly_WS_n h hf)
      rw [ly_ct_n hf] at IH
      exact IH
    refine br_f (nI_ge (b := 144) hi (by omega)) ⟨vi, ?_⟩
    rw [ei]
    refine nm_e ⟨vi, ?_⟩
    rw [hP i hi]
    rcases hPp i hi with hp | ⟨⟨p, hpb, hp⟩, hth⟩
    · rw [hp]
      exact br_t (by decide) (br_t rfl (nm_r (nI_1 i) (next (ly_fr_f (Or.inl hp)))))
    · rw [hp]
      refine br_f (nI_pos hpb) ⟨vi, ?_⟩
      by_cases hw : lo i = 0
      · refine br_t hw ?_
        have hw' : w i = 0 := elo.symm.trans hw
        have hp1 : ¬ P i = -1 := by rw [hp]; exact ly_m1 hpb
        -- the four that may be long
        have go : (yops i = 8 ∨ yops i = 9 ∨ yops i = 10 ∨ yops i = 12) → wY_widen_58 post (wY_widen_4 post yorg ystrip (nI n) yculp ytend yend ymade yrounds yentry ylinked yran ypc ysteps youts (d + 1)) (nI (ly_ct (ly_fr yops yA yB ycnt g n P w) i)) (nI i) (yops i) 1 yorg ystrip (nI n) yculp ytend yend ymade yrounds yentry ylinked yran ypc ysteps youts yops yA yB ycnt yrole ylist yplace ysym yimg ystay lo ymem yreg yout := by
          intro ho
          have ha : ly_at yops ycnt g n i = true := by
            unfold ly_at
            rw [hth.2.1, decide_eq_true hth.2.2]
            show ly_us (yops i) = true
            rcases ho with z | z | z | z <;> rw [z] <;> decide
          have ef := ly_fr_e (a := yA) (b := yB) hp1 ha hw'
          have ht := (ly_tn_t hW hF hG hi ha).1.1
          have ec := ly_tw_c (o := yops) (hP i hi) (hP _ ht)
          refine ly_y58 (hW := hW) (hF := hF) (hL := hL) (hG := hG) (hi := hi) (ha := ha) (ho := ho) (H1 := fun z => ?_) (H0 := fun z => ?_)
          · have hf : ly_fr yops yA yB ycnt g n P w i = true := ef.trans (ec.symm.trans z)
            have IH := ih (i + 1) (upd lo i 1) (by omega) (ly_WS_y h hf)
            rw [ly_ct_y hf] at IH
            exact IH
          · exact next (ef.trans (ec.symm.trans z))
        have stop : ¬ yops i = 8 → ¬ yops i = 9 → ¬ yops i = 10 → ¬ yops i = 12 → wY_widen_58 post (wY_widen_4 post yorg ystrip (nI n) yculp ytend yend ymade yrounds yentry ylinked yran ypc ysteps youts (d + 1)) (nI (ly_ct (ly_fr yops yA yB ycnt g n P w) i)) (nI i) (yops i) 0 yorg ystrip (nI n) yculp ytend yend ymade yrounds yentry ylinked yran ypc ysteps youts yops yA yB ycnt yrole ylist yplace ysym yimg ystay lo ymem yreg yout := by
          intro n8 n9 n10 n12
          exact br_t rfl (nm_r (nI_1 i) (next (ly_fr_f (Or.inr (Or.inr (Or.inr (ly_tw_n n8 n9 n10 n12)))))))
        obtain ⟨op, hop, eo, _⟩ := hF i hi
        by_cases c8 : op < 8
        · have q : ∀ j, 8 ≤ j → j ≤ 12 → ¬ yops i = nI j := fun j h1 h2 z => by have := ly_inj (by omega) (by omega) (eo.symm.trans z); omega
          exact br_t (by rw [eo]; exact nI_lt (b := 8) c8 (by omega)) (br_t rfl (br_f (q 12 (by omega) (by omega)) (stop (q 8 (by omega) (by omega)) (q 9 (by omega) (by omega)) (q 10 (by omega) (by omega)) (q 12 (by omega) (by omega)))))
        · by_cases c10 : 10 < op
          · refine br_f (by rw [eo]; exact nI_nlt (b := 8) (by omega) (by omega)) (br_t (by rw [eo]; exact nI_lt (a := 10) c10 (by omega)) (br_t rfl ?_))
            have q : ∀ j, 8 ≤ j → j ≤ 10 → ¬ yops i = nI j := fun j h1 h2 z => by have := ly_inj (by omega) (by omega) (eo.symm.trans z); omega
            by_cases c12 : yops i = 12
            · exact br_t c12 (go (Or.inr (Or.inr (Or.inr c12))))
            · exact br_f c12 (stop (q 8 (by omega) (by omega)) (q 9 (by omega) (by omega)) (q 10 (by omega) (by omega)) c12)
          · have ho : yops i = 8 ∨ yops i = 9 ∨ yops i = 10 ∨ yops i = 12 := by
              have : op = 8 ∨ op = 9 ∨ op = 10 := by omega
              rcases this with rfl | rfl | rfl
              · exact Or.inl eo
              · exact Or.inr (Or.inl eo)
              · exact Or.inr (Or.inr (Or.inl eo))
            exact br_f (by rw [eo]; exact nI_nlt (b := 8) (by omega) (by omega)) (br_f (by rw [eo]; exact nI_nlt (a := 10) (by omega) (by omega)) (br_f (by decide) (go ho)))
      · exact br_f hw (br_t rfl (nm_r (nI_1 i) (next (ly_fr_f (Or.inr (Or.inr (Or.inl (fun z => hw (elo.trans z)))))))))
theorem ly_ywi {post : Int32 → SY → Prop} {yorg ystrip yculp ytend yend ymade yrounds yentry ylinked yran ypc ysteps youts : Int32} {yops yA yB ycnt yrole ylist yplace ysym yimg ystay ywide ymem yreg yout : Nat → Int32} (hW : ly_W ycnt) (hF : ly_F yops yA yB) {g : Nat → Nat} {n : Nat} (hL : ly_LS yops yA ycnt ylist g n) (hG : ly_GD yops yA yB ycnt g n) {P w : Nat → Int32} (hP : ly_AG 144 yplace P) (hPp : ∀ i, i < 144 → P i = -1 ∨ (∃ p : Nat, p < 2 ^ 31 ∧ P i = nI p) ∧ ly_th ycnt g n i) (hw : ly_AG 144 ywide w)
    (H : ∀ lo : Nat → Int32, ly_AG 144 lo (ly_wd yops yA yB ycnt g n P w) → post (nI (ly_ct (ly_fr yops yA yB ycnt g n P w) 144)) (yorg, ystrip, nI n, yculp, ytend, yend, ymade, yrounds, yentry, ylinked, yran, ypc, ysteps, youts, yops, yA, yB, ycnt, yrole, ylist, yplace, ysym, yimg, ystay, lo, ymem, yreg, yout)) : wpY_widen post (yorg, ystrip, nI n, yculp, ytend, yend, ymade, yrounds, yentry, ylinked, yran, ypc, ysteps, youts, yops, yA, yB, ycnt, yrole, ylist, yplace, ysym, yimg, ystay, ywide, ymem, yreg, yout) :=
  ⟨145, ly_yw4 (hW := hW) (hF := hF) (hL := hL) (hG := hG) (hP := hP) (hPp := hPp) (H := H) 144 0 ywide (by omega) (fun x hx => by rw [if_neg (fun z => by have := z.1; omega)]; exact hw x hx)⟩
end
section
/-! the rounds -/
def ly_M1 : Nat → Int32 := fun _ => -1
def ly_Tw (o a b cnt : Nat → Int32) (kb : Nat → Bool) (g : Nat → Nat) (n base : Nat) (w : Nat → Int32) : Nat := (ly_p0 o a b w cnt kb g n base ly_M1).1
def ly_Ew (o a b cnt : Nat → Int32) (kb : Nat → Bool) (g : Nat → Nat) (n base : Nat) (w : Nat → Int32) : Nat := (ly_p1 o a b w cnt kb g n base ly_M1).1
def ly_Pw (o a b cnt : Nat → Int32) (kb : Nat → Bool) (g : Nat → Nat) (n base : Nat) (w : Nat → Int32) : Nat → Int32 := (ly_p1 o a b w cnt kb g n base ly_M1).2
def ly_cf (o a b cnt : Nat → Int32) (kb : Nat → Bool) (g : Nat → Nat) (n base : Nat) (w : Nat → Int32) : Nat := ly_ct (ly_fr o a b cnt g n (ly_Pw o a b cnt kb g n base w) w) 144
def ly_nw (o a b cnt : Nat → Int32) (kb : Nat → Bool) (g : Nat → Nat) (n base : Nat) (w : Nat → Int32) : Nat → Int32 := ly_wd o a b cnt g n (ly_Pw o a b cnt kb g n base w) w
def ly_rl (o a b cnt : Nat → Int32) (kb : Nat → Bool) (g : Nat → Nat) (n base : Nat) : Nat → (Nat → Int32) → Nat → Nat → Bool × (Nat → Int32) × Nat × Nat
  | 0, w, c, r => (true, w, c, r)
  | f + 1, w, c, r => if 256 < ly_Ew o a b cnt kb g n base w then (false, w, c, r) else if ly_cf o a b cnt kb g n base w = 0 then (true, w, c, r) else ly_rl o a b cnt kb g n base f (ly_nw o a b cnt kb g n base w) (c + ly_cf o a b cnt kb g n base w) (r + 1)
def ly_WV (o w : Nat → Int32) : Prop := (∀ i, i < 144 → w i = 0 ∨ w i = 1) ∧ ∀ i, i < 144 → ¬ w i = 0 → ly_us (o i) = true
theorem ly_us_1 {o : Int32} (h : ly_us o = true) : ¬ o = 1 := fun e => by rw [e] at h; exact absurd h (by decide)
theorem ly_ct_ne {p : Nat → Bool} {d : Nat} (h : ¬ ly_ct p d = 0) : ∃ i, i < d ∧ p i = true := by
  induction d with
  | zero => exact absurd rfl h
  | succ d ih =>
    cases hp : p d with
    | true => exact ⟨d, by omega, hp⟩
    | false =>
      rw [ly_ct_n hp] at h
      obtain ⟨i, i1, i2⟩ := ih h
      exact ⟨i, by omega, i2⟩
theorem ly_fr_at {o a b cnt : Nat → Int32} {g : Nat → Nat} {n : Nat} {P w : Nat → Int32} {i : Nat} (h : ly_fr o a b cnt g n P w i = true) : ly_at o cnt g n i = true ∧ w i = 0 := by
  unfold ly_fr at h
  rw [Bool.and_eq_true, Bool.and_eq_true, Bool.and_eq_true, decide_eq_true_eq, decide_eq_true_eq] at h
  exact ⟨h.1.1.2, h.1.2⟩
theorem ly_WV_s {o a b cnt : Nat → Int32} {kb : Nat → Bool} {g : Nat → Nat} {n base : Nat} {w : Nat → Int32} (h : ly_WV o w) : ly_WV o (ly_nw o a b cnt kb g n base w) := by
  refine ⟨fun i hi => ?_, fun i hi hz => ?_⟩
  · unfold ly_nw ly_wd
    by_cases c : ly_fr o a b cnt g n (ly_Pw o a b cnt kb g n base w) w i = true
    · rw [if_pos c]; exact Or.inr rfl
    · rw [if_neg c]; exact h.1 i hi
  · unfold ly_nw ly_wd at hz
    by_cases c : ly_fr o a b cnt g n (ly_Pw o a b cnt kb g n base w) w i = true
    · have := (ly_fr_at c).1
      unfold ly_at at this
      rw [Bool.and_eq_true] at this
      exact this.2
    · rw [if_neg c] at hz; exact h.2 i hi hz
theorem ly_ct_s {o a b cnt : Nat → Int32} {kb : Nat → Bool} {g : Nat → Nat} {n base : Nat} {w : Nat → Int32} (h : ¬ ly_cf o a b cnt kb g n base w = 0) : ly_ct (ly_SS w) 144 + 1 ≤ ly_ct (ly_SS (ly_nw o a b cnt kb g n base w)) 144 := by
  obtain ⟨i, i1, i2⟩ := ly_ct_ne h
  refine ly_ct_str (fun j _ hj => ?_) i1 ?_ ?_
  · unfold ly_SS ly_nw ly_wd
    by_cases c : ly_fr o a b cnt g n (ly_Pw o a b cnt kb g n base w) w j = true
    · rw [if_pos c]; decide
    · rw [if_neg c]; exact hj
  · unfold ly_SS ly_nw ly_wd
    rw [if_pos i2]; decide
  · exact decide_eq_false (fun z => z (ly_fr_at i2).2)
theorem ly_rl_ok {o a b cnt : Nat → Int32} {kb : Nat → Bool} {g : Nat → Nat} {n base : Nat} : ∀ (f : Nat) (w : Nat → Int32) (c r : Nat), ly_WV o w → 145 ≤ ly_ct (ly_SS w) 144 + f → (ly_rl o a b cnt kb g n base f w c r).1 = true → ly_WV o (ly_rl o a b cnt kb g n base f w c r).2.1 ∧ ly_Ew o a b cnt kb g n base (ly_rl o a b cnt kb g n base f w c r).2.1 ≤ 256 := by
  intro f
  induction f with
  | zero =>
    intro w c r _ hf
    have := ly_ct_le (ly_SS w) 144
    omega
  | succ f ih =>
    intro w c r hv hf
    simp only [ly_rl]
    by_cases c1 : 256 < ly_Ew o a b cnt kb g n base w
    · rw [if_pos c1]; intro z; exact absurd (show false = true from z) (by decide)
    · rw [if_neg c1]
      by_cases c2 : ly_cf o a b cnt kb g n base w = 0
      · rw [if_pos c2]; intro _; exact ⟨hv, by dsimp only; omega⟩
      · rw [if_neg c2]
        have := ly_ct_s c2
        exact ih _ _ _ (ly_WV_s hv) (by omega)
theorem ly_Pw_c {o a b cnt : Nat → Int32} (hW : ly_W cnt) (hF : ly_F o a b) {kb : Nat → Bool} {g : Nat → Nat} {n base : Nat} (hg : ∀ j, j < n → g j < 6) (w : Nat → Int32) {i : Nat} (hi : i < 144) : ly_Pw o a b cnt kb g n base w i = -1 ∨ (∃ p : Nat, p + ly_sz o a b w i p ≤ ly_Ew o a b cnt kb g n base w ∧ ly_Pw o a b cnt kb g n base w i = nI p) ∧ ly_th cnt g n i := by
  by_cases hp : ly_pd o a cnt kb g n i
  · have hbd : ly_BD o a b w (ly_p1 o a b w cnt kb g n base ly_M1) := ly_pl_bd hF hW (ly_pl_bd hF hW (fun x _ => Or.inl rfl) n hg) n hg
    rcases hbd i hi with z | ⟨p, p1, p2⟩
    · exact Or.inl z
    · exact Or.inr ⟨⟨p, p2, p1⟩, hi, hp.1, hp.2.1⟩
  · exact Or.inl (ly_p1_kp hW hg hp)
theorem ly_AG_tr {n : Nat} {x y z : Nat → Int32} (h1 : ly_AG n x y) (h2 : ly_AG n y z) : ly_AG n x z := fun i hi => (h1 i hi).trans (h2 i hi)
theorem ly_xrx {post : Int32 → SX → Prop} {xstrip xlinked xblamed xouts xpc xsteps xran : Int32} {xops xA xB xcnt xrole xloc xglo xweak xuse xrep xunit xtgt xstay xlist xchosen ximg xreg xstore xout : Nat → Int32} (hW : ly_W xcnt) (hF : ly_F xops xA xB) {g : Nat → Nat} {n base : Nat} (hL : ly_LS xops xA xcnt xlist g n) (hG : ly_GD xops xA xB xcnt g n) (hb : base ≤ 100) (hT : ∀ x, x < 144 → xtgt x = if ly_at xops xcnt g n x = true then ly_tg xops xA xB xcnt g n x else -1) (hU : ∀ t, ly_th xcnt g n t → xunit t = nI (ly_un xops xA t)) {kb : Nat → Bool} (hK : ∀ u, u < 12 → (xstay u = 0 ↔ kb u = false)) :
    ∀ (f q : Nat) (w : Nat → Int32) (c r : Nat) (xtend xaend : Int32) (xplace xlong : Nat → Int32), q + f = 145 → ly_WV xops w → q ≤ ly_ct (ly_SS w) 144 → ly_AG 144 xlong w → (∀ x, x < 144 → ¬ ly_pd xops xA xcnt kb g n x → xplace x = -1) →
      ((ly_rl xops xA xB xcnt kb g n base f w c r).1 = false → ∀ (xtend xaend xlcnt xlrnd : Int32) (xplace xlong : Nat → Int32), post 4 (nI base, xstrip, nI n, xtend, xaend, xlcnt, xlrnd, xlinked, xblamed, xouts, xpc, xsteps, xran, xops, xA, xB, xcnt, xrole, xloc, xglo, xweak, xuse, xrep, xunit, xtgt, xstay, xlong, xlist, xchosen, xplace, ximg, xreg, xstore, xout)) →
      ((ly_rl xops xA xB xcnt kb g n base f w c r).1 = true → ∀ xplace xlong : Nat → Int32, ly_AG 144 xplace (ly_Pw xops xA xB xcnt kb g n base (ly_rl xops xA xB xcnt kb g n base f w c r).2.1) → ly_AG 144 xlong (ly_rl xops xA xB xcnt kb g n base f w c r).2.1 → post 0 (nI base, xstrip, nI n, nI (ly_Tw xops xA xB xcnt kb g n base (ly_rl xops xA xB xcnt kb g n base f w c r).2.1), nI (ly_Ew xops xA xB xcnt kb g n base (ly_rl xops xA xB xcnt kb g n base f w c r).2.1), nI (ly_rl xops xA xB xcnt kb g n base f w c r).2.2.1, nI (ly_rl xops xA xB xcnt kb g n base f w c r).2.2.2, xlinked, xblamed, xouts, xpc, xsteps, xran, xops, xA, xB, xcnt, xrole, xloc, xglo, xweak, xuse, xrep, xunit, xtgt, xstay, xlong, xlist, xchosen, xplace, ximg, xreg, xstore, xout)) →
      wX_relax_2 post (f + 1) (nI q) (nI base) xstrip (nI n) xtend xaend (nI c) (nI r) xlinked xblamed xouts xpc xsteps xran xops xA xB xcnt xrole xloc xglo xweak xuse xrep xunit xtgt xstay xlong xlist xchosen xplace ximg xreg xstore xout := by
  have hn := hL.1
  have hg : ∀ j, j < n → g j < 6 := fun j hj => (hL.2 j hj).1
  intro f
  induction f with
  | zero =>
    intro q w c r xtend xaend xplace xlong hq _ hct
    have := ly_ct_le (ly_SS w) 144
    omega
  | succ f ih =>
    intro q w c r xtend xaend xplace xlong hq hv hct hw hpl H4 H0
    obtain ⟨e0, e1, eP⟩ := ly_p1_ag (w := w) (base := base) hW hF hg (P := xplace) (Q := ly_M1) hpl
    obtain ⟨b0, b1⟩ := ly_p1_le hF hW w (kb := kb) hn hb hg xplace
    obtain ⟨b0', b1'⟩ := ly_p1_le hF hW w (kb := kb) hn hb hg ly_M1
    refine br_f (nI_nlt (a := 144) (by omega) (by omega)) (ly_xps (hW := hW) (hF := hF) (hw := hw) (hw1 := hv.1) (hL := hL) (s := 0) (hs := by omega) (hU := hU) (hK := hK) (t := base) (hz := by omega) (H := ?_))
    refine ly_xps (hW := hW) (hF := hF) (hw := hw) (hw1 := hv.1) (hL := hL) (s := 1) (hs := by omega) (hU := hU) (hK := hK) (t := (ly_p0 xops xA xB w xcnt kb g n base xplace).1) (hz := b0) (H := ?_)
    have eE : (ly_pl xops xA xB w xcnt kb g 1 n ((ly_p0 xops xA xB w xcnt kb g n base xplace).1, (ly_pl xops xA xB w xcnt kb g 0 n (base, xplace)).2)).1 = ly_Ew xops xA xB xcnt kb g n base w := e1
    have eT : (ly_pl xops xA xB w xcnt kb g 0 n (base, xplace)).1 = ly_Tw xops xA xB xcnt kb g n base w := e0
    have hE : ly_Ew xops xA xB xcnt kb g n base w ≤ 4708 := b1'
    have ePw : ly_AG 144 (ly_pl xops xA xB w xcnt kb g 1 n ((ly_p0 xops xA xB w xcnt kb g n base xplace).1, (ly_pl xops xA xB w xcnt kb g 0 n (base, xplace)).2)).2 (ly_Pw xops xA xB xcnt kb g n base w) := eP
    rw [eE, eT]
    simp only [ly_rl] at H4 H0
    by_cases c1 : 256 < ly_Ew xops xA xB xcnt kb g n base w
    · rw [if_pos c1] at H4
      exact br_f (nI_ge (a := 256) c1 (by omega)) (H4 rfl _ _ _ _ _ _)
    · rw [if_neg c1] at H4 H0
      refine br_t (nI_le (b := 256) (by omega) (by omega)) (ly_xlen (hW := hW) (hF := hF) (hG := hG) (hT := hT) (hP := ePw) (hw := hw) (H := fun lo hlo => ?_))
      have ecf : ly_ct (ly_fr xops xA xB xcnt g n (ly_Pw xops xA xB xcnt kb g n base w) w) 144 = ly_cf xops xA xB xcnt kb g n base w := rfl
      have hcf : ly_cf xops xA xB xcnt kb g n base w ≤ 144 := ly_ct_le _ _
      rw [ecf]
      by_cases c2 : ly_cf xops xA xB xcnt kb g n base w = 0
      · rw [if_pos c2] at H0
        have hnw : ly_AG 144 lo w := fun x hx => by
          rw [hlo x hx]
          unfold ly_wd
          rw [if_neg (by rw [ly_ct_zero c2 x hx]; decide)]
        exact br_t (by rw [c2]; rfl) (H0 rfl _ _ ePw hnw)
      · rw [if_neg c2] at H4 H0
        have hs := ly_ct_s (a := xA) (b := xB) (cnt := xcnt) (kb := kb) (g := g) (n := n) (base := base) c2
        refine br_f (nI_ne0 (by omega) (by omega)) (nm_r (nI_add _ _) (nm_r (nI_1 r) (nm_r (nI_1 q) (ih (q + 1) (ly_nw xops xA xB xcnt kb g n base w) _ _ _ _ _ _ (by omega) (ly_WV_s hv) (by omega) hlo (fun x hx hnp => ?_) H4 H0))))
        exact (ly_p1_kp (base := base) (P := xplace) (w := w) (b := xB) hW hg hnp).trans (hpl x hx hnp)
theorem ly_y38 {post : Int32 → SY → Prop} {ystrip yculp yentry ylinked yran ypc ysteps youts : Int32} {yops yA yB ycnt yrole ylist ysym yimg ystay ymem yreg yout : Nat → Int32} (hW : ly_W ycnt) (hF : ly_F yops yA yB) {g : Nat → Nat} {n base : Nat} (hL : ly_LS yops yA ycnt ylist g n) (hG : ly_GD yops yA yB ycnt g n) (hb : base ≤ 100) {kb : Nat → Bool} (hK : ∀ u, u < 12 → (ystay u = 0 ↔ kb u = false)) :
    ∀ (f : Nat) (w : Nat → Int32) (c r : Nat) (x1 ytend yend : Int32) (yplace ywide : Nat → Int32), ¬ x1 ≤ 0 → ly_WV yops w → 145 ≤ ly_ct (ly_SS w) 144 + f → ly_AG 144 ywide w →
      ((ly_rl yops yA yB ycnt kb g n base f w c r).1 = false → ∀ (ytend yend ymade yrounds : Int32) (yplace ywide : Nat → Int32), post 4 (nI base, ystrip, nI n, yculp, ytend, yend, ymade, yrounds, yentry, ylinked, yran, ypc, ysteps, youts, yops, yA, yB, ycnt, yrole, ylist, yplace, ysym, yimg, ystay, ywide, ymem, yreg, yout)) →
      ((ly_rl yops yA yB ycnt kb g n base f w c r).1 = true → ∀ yplace ywide : Nat → Int32, ly_AG 144 yplace (ly_Pw yops yA yB ycnt kb g n base (ly_rl yops yA yB ycnt kb g n base f w c r).2.1) → ly_AG 144 ywide (ly_rl yops yA yB ycnt kb g n base f w c r).2.1 → ∃ n92, wY_arrange_92 post (nI base) ystrip (nI n) yculp (nI (ly_Tw yops yA yB ycnt kb g n base (ly_rl yops yA yB ycnt kb g n base f w c r).2.1)) (nI (ly_Ew yops yA yB ycnt kb g n base (ly_rl yops yA yB ycnt kb g n base f w c r).2.1)) (nI (ly_rl yops yA yB ycnt kb g n base f w c r).2.2.1) (nI (ly_rl yops yA yB ycnt kb g n base f w c r).2.2.2) yentry ylinked yran ypc ysteps youts n92 0 yops yA yB ycnt yrole ylist yplace ysym yimg ystay ywide ymem yreg yout) →
      wY_arrange_38 post (f + 2) x1 (nI base) ystrip (nI n) yculp ytend yend (nI c) (nI r) yentry ylinked yran ypc ysteps youts yops yA yB ycnt yrole ylist yplace ysym yimg ystay ywide ymem yreg yout := by
  have hn := hL.1
  have hg : ∀ j, j < n → g j < 6 := fun j hj => (hL.2 j hj).1
  intro f
  induction f with
  | zero =>
    intro w c r x1 ytend yend yplace ywide _ _ hct
    have := ly_ct_le (ly_SS w) 144
    omega
  | succ f ih =>
    intro w c r x1 ytend yend yplace ywide hx hv hct hw H4 H0
    refine br_f hx (ly_ypl (hW := hW) (hF := hF) (hw := hw) (hw1 := hv.1) (hw2 := fun i hi hz => ly_us_1 (hv.2 i hi hz)) (hL := hL) (hb := hb) (hK := hK) (H := fun P hP => ?_))
    obtain ⟨e0, e1, eP⟩ := ly_p1_ag (w := w) (base := base) (kb := kb) hW hF hg (P := P) (Q := ly_M1) (fun x hx _ => hP x hx)
    obtain ⟨b0', b1'⟩ := ly_p1_le hF hW w (kb := kb) hn hb hg ly_M1
    have eE : (ly_p1 yops yA yB w ycnt kb g n base P).1 = ly_Ew yops yA yB ycnt kb g n base w := e1
    have eT : (ly_p0 yops yA yB w ycnt kb g n base P).1 = ly_Tw yops yA yB ycnt kb g n base w := e0
    have hE : ly_Ew yops yA yB ycnt kb g n base w ≤ 4708 := b1'
    have ePw : ly_AG 144 (ly_p1 yops yA yB w ycnt kb g n base P).2 (ly_Pw yops yA yB ycnt kb g n base w) := eP
    rw [eE, eT]
    simp only [ly_rl] at H4 H0
    by_cases c1 : 256 < ly_Ew yops yA yB ycnt kb g n base w
    · rw [if_pos c1] at H4
      exact br_f (nI_ge (a := 256) c1 (by omega)) (H4 rfl _ _ _ _ _ _)
    · rw [if_neg c1] at H4 H0
      refine br_t (nI_le (b := 256) (by omega) (by omega)) (ly_ywi (hW := hW) (hF := hF) (hL := hL) (hG := hG) (hP := ePw) (hPp := fun i hi => ?_) (hw := hw) (H := fun lo hlo => ?_))
      · rcases ly_Pw_c (kb := kb) (base := base) hW hF hg w hi with z | ⟨⟨p, p1, p2⟩, hth⟩
        · exact Or.inl z
        · exact Or.inr ⟨⟨p, by omega, p2⟩, hth⟩
      · have ecf : ly_ct (ly_fr yops yA yB ycnt g n (ly_Pw yops yA yB ycnt kb g n base w) w) 144 = ly_cf yops yA yB ycnt kb g n base w := rfl
        have hcf : ly_cf yops yA yB ycnt kb g n base w ≤ 144 := ly_ct_le _ _
        rw [ecf]
        refine nm_r (nI_add _ _) ?_
        by_cases c2 : ly_cf yops yA yB ycnt kb g n base w = 0
        · rw [if_pos c2] at H0
          have hnw : ly_AG 144 lo w := fun x hx => by
            rw [hlo x hx]
            unfold ly_wd
            rw [if_neg (by rw [ly_ct_zero c2 x hx]; decide)]
          rw [c2]
          exact br_t (by decide) (br_t (by decide) (H0 rfl _ _ ePw hnw))
        · rw [if_neg c2] at H4 H0
          have hs := ly_ct_s (a := yA) (b := yB) (cnt := ycnt) (kb := kb) (g := g) (n := n) (base := base) c2
          have hpos : ¬ nI (ly_cf yops yA yB ycnt kb g n base w) ≤ 0 := nI_nle (by omega) (by omega)
          exact br_f hpos (nm_r (nI_1 r) (ih (ly_nw yops yA yB ycnt kb g n base w) _ _ _ _ _ _ _ hpos (ly_WV_s hv) (by omega) hlo H4 H0))
end
section
/-! the image: X and Y -/
def ly_ro (o a : Int32) : Int32 := if o = 8 ∨ o = 10 ∨ o = 11 ∨ o = 14 then 0 else a
def ly_lo (o b p gl : Int32) : Int32 := if o = 8 ∨ o = 9 ∨ o = 10 then gl - p else if o = 12 then gl else if o = 11 ∨ o = 13 ∨ o = 14 then 0 else b
def ly_w1 (o a b p gl : Int32) : Int32 := ((o <<< ((24 : Int32) &&& 31)) + (ly_ro o a <<< ((20 : Int32) &&& 31))) + (ly_lo o b p gl &&& 65535)
def ly_iw (o a b : Int32) (p : Nat) (gl h : Int32) (img : Nat → Int32) : Nat → Int32 :=
  if o = 0 ∨ o = 17 ∨ o = 18 ∨ o = 19 then img else if o = 15 then upd img p b else if o = 16 then upd img p (gl + b) else if h = 0 then upd img p (ly_w1 o a b (nI p) gl) else upd (upd img p (ly_w1 o a b (nI p) gl + 65536)) (p + 1) (if o = 1 then b else gl)
theorem ly_xlow {post : Int32 → Prop} {xbase xstrip xllen xtend xaend xlcnt xlrnd xlinked xblamed xouts xpc xsteps xran : Int32} {xops xA xB xcnt xrole xloc xglo xweak xuse xrep xunit xtgt xstay xlong xlist xchosen xplace ximg xreg xstore xout : Nat → Int32} (hF : ly_F xops xA xB) {i : Nat} (hi : i < 144) (gl : Int32) (H : post (ly_lo (xops i) (xB i) (xplace i) gl)) : wpX_lowPart post (xbase, xstrip, xllen, xtend, xaend, xlcnt, xlrnd, xlinked, xblamed, xouts, xpc, xsteps, xran, xops, xA, xB, xcnt, xrole, xloc, xglo, xweak, xuse, xrep, xunit, xtgt, xstay, xlong, xlist, xchosen, xplace, ximg, xreg, xstore, xout) (nI i) gl := by
  have vi : vp_in (nI i) 144 := vp_in_nI hi (by omega)
  obtain ⟨op, hop, eo, _⟩ := hF i hi
  unfold wpX_lowPart
  dsimp only
  rw [ly_cl (i := i) (by omega)]
  refine ⟨vi, nm_r eo ?_⟩
  unfold ly_lo at H
  rw [eo] at H
  have h : op = 0 ∨ op = 1 ∨ op = 2 ∨ op = 3 ∨ op = 4 ∨ op = 5 ∨ op = 6 ∨ op = 7 ∨ op = 8 ∨ op = 9 ∨ op = 10 ∨ op = 11 ∨ op = 12 ∨ op = 13 ∨ op = 14 ∨ op = 15 ∨ op = 16 ∨ op = 17 ∨ op = 18 ∨ op = 19 := by omega
  rcases h with rfl | rfl | rfl | rfl | rfl | rfl | rfl | rfl | rfl | rfl | rfl | rfl | rfl | rfl | rfl | rfl | rfl | rfl | rfl | rfl
  · rw [if_neg (by decide), if_neg (by decide), if_neg (by decide)] at H; (repeat (first | refine br_t (by decide) ?_ | refine br_f (by decide) ?_)); exact ⟨vi, H⟩
  · rw [if_neg (by decide), if_neg (by decide), if_neg (by decide)] at H; (repeat (first | refine br_t (by decide) ?_ | refine br_f (by decide) ?_)); exact ⟨vi, H⟩
  · rw [if_neg (by decide), if_neg (by decide), if_neg (by decide)] at H; (repeat (first | refine br_t (by decide) ?_ | refine br_f (by decide) ?_)); exact ⟨vi, H⟩
  · rw [if_neg (by decide), if_neg (by decide), if_neg (by decide)] at H; (repeat (first | refine br_t (by decide) ?_ | refine br_f (by decide) ?_)); exact ⟨vi, H⟩
  · rw [if_neg (by decide), if_neg (by decide), if_neg (by decide)] at H; (repeat (first | refine br_t (by decide) ?_ | refine br_f (by decide) ?_)); exact ⟨vi, H⟩
  · rw [if_neg (by decide), if_neg (by decide), if_neg (by decide)] at H; (repeat (first | refine br_t (by decide) ?_ | refine br_f (by decide) ?_)); exact ⟨vi, H⟩
  · rw [if_neg (by decide), if_neg (by decide), if_neg (by decide)] at H; (repeat (first | refine br_t (by decide) ?_ | refine br_f (by decide) ?_)); exact ⟨vi, H⟩
  · rw [if_neg (by decide), if_neg (by decide), if_neg (by decide)] at H; (repeat (first | refine br_t (by decide) ?_ | refine br_f (by decide) ?_)); exact ⟨vi, H⟩
  · rw [if_pos (by decide)] at H; (repeat (first | refine br_t (by decide) ?_ | refine br_f (by decide) ?_)); exact ⟨vi, H⟩
  · rw [if_pos (by decide)] at H; (repeat (first | refine br_t (by decide) ?_ | refine br_f (by decide) ?_)); exact ⟨vi, H⟩
  · rw [if_pos (by decide)] at H; (repeat (first | refine br_t (by decide) ?_ | refine br_f (by decide) ?_)); exact ⟨vi, H⟩
  · rw [if_neg (by decide), if_neg (by decide), if_pos (by decide)] at H; (repeat (first | refine br_t (by decide) ?_ | refine br_f (by decide) ?_)); exact H
  · rw [if_neg (by decide), if_pos (by decide)] at H; (repeat (first | refine br_t (by decide) ?_ | refine br_f (by decide) ?_)); exact H
  · rw [if_neg (by decide), if_neg (by decide), if_pos (by decide)] at H; (repeat (first | refine br_t (by decide) ?_ | refine br_f (by decide) ?_)); exact H
  · rw [if_neg (by decide), if_neg (by decide), if_pos (by decide)] at H; (repeat (first | refine br_t (by decide) ?_ | refine br_f (by decide) ?_)); exact H
  · rw [if_neg (by decide), if_neg (by decide), if_neg (by decide)] at H; (repeat (first | refine br_t (by decide) ?_ | refine br_f (by decide) ?_)); exact ⟨vi, H⟩
  · rw [if_neg (by decide), if_neg (by decide), if_neg (by decide)] at H; (repeat (first | refine br_t (by decide) ?_ | refine br_f (by decide) ?_)); exact ⟨vi, H⟩
  · rw [if_neg (by decide), if_neg (by decide), if_neg (by decide)] at H; (repeat (first | refine br_t (by decide) ?_ | refine br_f (by decide) ?_)); exact ⟨vi, H⟩
  · rw [if_neg (by decide), if_neg (by decide), if_neg (by decide)] at H; (repeat (first | refine br_t (by decide) ?_ | refine br_f (by decide) ?_)); exact ⟨vi, H⟩
  · rw [if_neg (by decide), if_neg (by decide), if_neg (by decide)] at H; (repeat (first | refine br_t (by decide) ?_ | refine br_f (by decide) ?_)); exact ⟨vi, H⟩
theorem ly_xreg {post : Int32 → Prop} {xbase xstrip xllen xtend xaend xlcnt xlrnd xlinked xblamed xouts xpc xsteps xran : Int32} {xops xA xB xcnt xrole xloc xglo xweak xuse xrep xunit xtgt xstay xlong xlist xchosen xplace ximg xreg xstore xout : Nat → Int32} (hF : ly_F xops xA xB) {i : Nat} (hi : i < 144) (H : post (ly_ro (xops i) (xA i))) : wpX_registerOf post (xbase, xstrip, xllen, xtend, xaend, xlcnt, xlrnd, xlinked, xblamed, xouts, xpc, xsteps, xran, xops, xA, xB, xcnt, xrole, xloc, xglo, xweak, xuse, xrep, xunit, xtgt, xstay, xlong, xlist, xchosen, xplace, ximg, xreg, xstore, xout) (nI i) := by
  have vi : vp_in (nI i) 144 := vp_in_nI hi (by omega)
  obtain ⟨op, hop, eo, _⟩ := hF i hi
  unfold wpX_registerOf
  dsimp only
  rw [ly_cl (i := i) (by omega)]
  refine ⟨vi, nm_r eo ?_⟩
  unfold ly_ro at H
  rw [eo] at H
  have h : op = 0 ∨ op = 1 ∨ op = 2 ∨ op = 3 ∨ op = 4 ∨ op = 5 ∨ op = 6 ∨ op = 7 ∨ op = 8 ∨ op = 9 ∨ op = 10 ∨ op = 11 ∨ op = 12 ∨ op = 13 ∨ op = 14 ∨ op = 15 ∨ op = 16 ∨ op = 17 ∨ op = 18 ∨ op = 19 := by omega
  rcases h with rfl | rfl | rfl | rfl | rfl | rfl | rfl | rfl | rfl | rfl | rfl | rfl | rfl | rfl | rfl | rfl | rfl | rfl | rfl | rfl
  · rw [if_neg (by decide)] at H; (repeat (first | refine br_t (by decide) ?_ | refine br_f (by decide) ?_)); exact ⟨vi, H⟩
  · rw [if_neg (by decide)] at H; (repeat (first | refine br_t (by decide) ?_ | refine br_f (by decide) ?_)); exact ⟨vi, H⟩
  · rw [if_neg (by decide)] at H; (repeat (first | refine br_t (by decide) ?_ | refine br_f (by decide) ?_)); exact ⟨vi, H⟩
  · rw [if_neg (by decide)] at H; (repeat (first | refine br_t (by decide) ?_ | refine br_f (by decide) ?_)); exact ⟨vi, H⟩
  · rw [if_neg (by decide)] at H; (repeat (first | refine br_t (by decide) ?_ | refine br_f (by decide) ?_)); exact ⟨vi, H⟩
  · rw [if_neg (by decide)] at H; (repeat (first | refine br_t (by decide) ?_ | refine br_f (by decide) ?_)); exact ⟨vi, H⟩
  · rw [if_neg (by decide)] at H; (repeat (first | refine br_t (by decide) ?_ | refine br_f (by decide) ?_)); exact ⟨vi, H⟩
  · rw [if_neg (by decide)] at H; (repeat (first | refine br_t (by decide) ?_ | refine br_f (by decide) ?_)); exact ⟨vi, H⟩
  · rw [if_pos (by decide)] at H; (repeat (first | refine br_t (by decide) ?_ | refine br_f (by decide) ?_)); exact H
  · rw [if_neg (by decide)] at H; (repeat (first | refine br_t (by decide) ?_ | refine br_f (by decide) ?_)); exact ⟨vi, H⟩
  · rw [if_pos (by decide)] at H; (repeat (first | refine br_t (by decide) ?_ | refine br_f (by decide) ?_)); exact H
  · rw [if_pos (by decide)] at H; (repeat (first | refine br_t (by decide) ?_ | refine br_f (by decide) ?_)); exact H
  · rw [if_neg (by decide)] at H; (repeat (first | refine br_t (by decide) ?_ | refine br_f (by decide) ?_)); exact ⟨vi, H⟩
  · rw [if_neg (by decide)] at H; (repeat (first | refine br_t (by decide) ?_ | refine br_f (by decide) ?_)); exact ⟨vi, H⟩
  · rw [if_pos (by decide)] at H; (repeat (first | refine br_t (by decide) ?_ | refine br_f (by decide) ?_)); exact H
  · rw [if_neg (by decide)] at H; (repeat (first | refine br_t (by decide) ?_ | refine br_f (by decide) ?_)); exact ⟨vi, H⟩
  · rw [if_neg (by decide)] at H; (repeat (first | refine br_t (by decide) ?_ | refine br_f (by decide) ?_)); exact ⟨vi, H⟩
  · rw [if_neg (by decide)] at H; (repeat (first | refine br_t (by decide) ?_ | refine br_f (by decide) ?_)); exact ⟨vi, H⟩
  · rw [if_neg (by decide)] at H; (repeat (first | refine br_t (by decide) ?_ | refine br_f (by decide) ?_)); exact ⟨vi, H⟩
  · rw [if_neg (by decide)] at H; (repeat (first | refine br_t (by decide) ?_ | refine br_f (by decide) ?_)); exact ⟨vi, H⟩
theorem ly_xpw {post : SX → Prop} {xbase xstrip xllen xtend xaend xlcnt xlrnd xlinked xblamed xouts xpc xsteps xran : Int32} {xops xA xB xcnt xrole xloc xglo xweak xuse xrep xunit xtgt xstay xlong xlist xchosen xplace ximg xreg xstore xout : Nat → Int32} {p : Nat} (hp : p < 256) (v : Int32) (H : post (xbase, xstrip, xllen, xtend, xaend, xlcnt, xlrnd, xlinked, xblamed, xouts, xpc, xsteps, xran, xops, xA, xB, xcnt, xrole, xloc, xglo, xweak, xuse, xrep, xunit, xtgt, xstay, xlong, xlist, xchosen, xplace, upd ximg p v, xreg, xstore, xout)) : wpX_putWord post (xbase, xstrip, xllen, xtend, xaend, xlcnt, xlrnd, xlinked, xblamed, xouts, xpc, xsteps, xran, xops, xA, xB, xcnt, xrole, xloc, xglo, xweak, xuse, xrep, xunit, xtgt, xstay, xlong, xlist, xchosen, xplace, ximg, xreg, xstore, xout) (nI p) v := by
  unfold wpX_putWord
  exact ly_xadr1 hp (br_f (by decide) ⟨vp_in_nI hp (by omega), nm_r (e' := upd ximg p v) (by rw [ly_cl (i := p) (by omega)]) H⟩)
theorem ly_x69 {post : SX → Prop} {xbase xstrip xllen xtend xaend xlcnt xlrnd xlinked xblamed xouts xpc xsteps xran : Int32} {xops xA xB xcnt xrole xloc xglo xweak xuse xrep xunit xtgt xstay xlong xlist xchosen xplace ximg xreg xstore xout : Nat → Int32} {p : Nat} (hp : p + 1 < 256) (v z : Int32) (H : post (xbase, xstrip, xllen, xtend, xaend, xlcnt, xlrnd, xlinked, xblamed, xouts, xpc, xsteps, xran, xops, xA, xB, xcnt, xrole, xloc, xglo, xweak, xuse, xrep, xunit, xtgt, xstay, xlong, xlist, xchosen, xplace, upd (upd ximg p (v + 65536)) (p + 1) z, xreg, xstore, xout)) : wX_fillInstruction_69 post (nI p) v z xbase xstrip xllen xtend xaend xlcnt xlrnd xlinked xblamed xouts xpc xsteps xran xops xA xB xcnt xrole xloc xglo xweak xuse xrep xunit xtgt xstay xlong xlist xchosen xplace ximg xreg xstore xout := by
  refine ly_xpw (hp := by omega) (v := v + 65536) (H := ?_)
  dsimp only
  rw [nI_1]
  exact ly_xpw (hp := hp) (v := z) (H := H)
theorem ly_xfi {post : SX → Prop} {xbase xstrip xllen xtend xaend xlcnt xlrnd xlinked xblamed xouts xpc xsteps xran : Int32} {xops xA xB xcnt xrole xloc xglo xweak xuse xrep xunit xtgt xstay xlong xlist xchosen xplace ximg xreg xstore xout : Nat → Int32} (hF : ly_F xops xA xB) {i p : Nat} (hi : i < 144) (ep : xplace i = nI p) (hp : p < 256) (hl : xlong i = 0 ∨ xlong i = 1) (h2 : ¬ ly_h2 xops xB xlong i = 0 → p + 1 < 256) (gl : Int32)
    (H : post (xbase, xstrip, xllen, xtend, xaend, xlcnt, xlrnd, xlinked, xblamed, xouts, xpc, xsteps, xran, xops, xA, xB, xcnt, xrole, xloc, xglo, xweak, xuse, xrep, xunit, xtgt, xstay, xlong, xlist, xchosen, xplace, if ly_h2 xops xB xlong i = 0 then upd ximg p (ly_w1 (xops i) (xA i) (xB i) (nI p) gl) else upd (upd ximg p (ly_w1 (xops i) (xA i) (xB i) (nI p) gl + 65536)) (p + 1) (if xops i = 1 then xB i else gl), xreg, xstore, xout)) : wpX_fillInstruction post (xbase, xstrip, xllen, xtend, xaend, xlcnt, xlrnd, xlinked, xblamed, xouts, xpc, xsteps, xran, xops, xA, xB, xcnt, xrole, xloc, xglo, xweak, xuse, xrep, xunit, xtgt, xstay, xlong, xlist, xchosen, xplace, ximg, xreg, xstore, xout) (nI i) gl := by
  have vi : vp_in (nI i) 144 := vp_in_nI hi (by omega)
  have ei : (nI i).toNatClampNeg = i := ly_cl (by omega)
  unfold wpX_fillInstruction
  dsimp only
  rw [ei]
  refine ⟨vi, nm_r ep (ly_xlow (hF := hF) (hi := hi) (gl := gl) (H := nm_e ⟨vi, ly_xreg (hF := hF) (hi := hi) (H := nm_r (e' := ly_w1 (xops i) (xA i) (xB i) (nI p) gl) ?_ (ly_xh2 (hi := hi) (hl := hl) (H := ?_)))⟩))⟩
  · rw [ep]; rfl
  · by_cases z : ly_h2 xops xB xlong i = 0
    · rw [if_pos z] at H
      exact br_t z (ly_xpw (hp := hp) (v := _) (H := H))
    · rw [if_neg z] at H
      refine br_f z ⟨vi, ?_⟩
      by_cases c1 : xops i = 1
      · rw [if_pos c1] at H
        exact br_t c1 ⟨vi, ly_x69 (hp := h2 z) (v := _) (z := _) (H := H)⟩
      · rw [if_neg c1] at H
        exact br_f c1 (ly_x69 (hp := h2 z) (v := _) (z := _) (H := H))
theorem ly_x25 {post : SX → Prop} {xbase xstrip xllen xtend xaend xlcnt xlrnd xlinked xblamed xouts xpc xsteps xran : Int32} {xops xA xB xcnt xrole xloc xglo xweak xuse xrep xunit xtgt xstay xlong xlist xchosen xplace ximg xreg xstore xout : Nat → Int32} (hF : ly_F xops xA xB) {i p : Nat} (hi : i < 144) (ep : xplace i = nI p) (hp : ¬ (xops i = 0 ∨ xops i = 17 ∨ xops i = 18 ∨ xops i = 19) → p < 256) (hl : xlong i = 0 ∨ xlong i = 1) (h2 : ¬ (xops i = 0 ∨ xops i = 17 ∨ xops i = 18 ∨ xops i = 19) → ¬ ly_h2 xops xB xlong i = 0 → p + 1 < 256) (gl : Int32)
    (H : post (xbase, xstrip, xllen, xtend, xaend, xlcnt, xlrnd, xlinked, xblamed, xouts, xpc, xsteps, xran, xops, xA, xB, xcnt, xrole, xloc, xglo, xweak, xuse, xrep, xunit, xtgt, xstay, xlong, xlist, xchosen, xplace, ly_iw (xops i) (xA i) (xB i) p gl (ly_h2 xops xB xlong i) ximg, xreg, xstore, xout)) : wX_fillItem_25 post (nI i) gl xbase xstrip xllen xtend xaend xlcnt xlrnd xlinked xblamed xouts xpc xsteps xran xops xA xB xcnt xrole xloc xglo xweak xuse xrep xunit xtgt xstay xlong xlist xchosen xplace ximg xreg xstore xout := by
  have vi : vp_in (nI i) 144 := vp_in_nI hi (by omega)
  have ei : (nI i).toNatClampNeg = i := ly_cl (by omega)
  obtain ⟨op, hop, eo, _⟩ := hF i hi
  have inst : ¬ (xops i = 0 ∨ xops i = 17 ∨ xops i = 18 ∨ xops i = 19) → ¬ xops i = 15 → ¬ xops i = 16 → wX_fillItem_165 post (nI i) gl xbase xstrip xllen xtend xaend xlcnt xlrnd xlinked xblamed xouts xpc xsteps xran xops xA xB xcnt xrole xloc xglo xweak xuse xrep xunit xtgt xstay xlong xlist xchosen xplace ximg xreg xstore xout := by
    intro n1 n2 n3
    unfold ly_iw at H
    rw [if_neg n1, if_neg n2, if_neg n3] at H
    exact ly_xfi (hF := hF) (hi := hi) (ep := ep) (hp := hp n1) (hl := hl) (h2 := h2 n1) (gl := gl) (H := H)
  unfold wX_fillItem_25
  rw [ei]
  refine ⟨vi, nm_r eo ?_⟩
  have h : op = 0 ∨ op = 1 ∨ op = 2 ∨ op = 3 ∨ op = 4 ∨ op = 5 ∨ op = 6 ∨ op = 7 ∨ op = 8 ∨ op = 9 ∨ op = 10 ∨ op = 11 ∨ op = 12 ∨ op = 13 ∨ op = 14 ∨ op = 15 ∨ op = 16 ∨ op = 17 ∨ op = 18 ∨ op = 19 := by omega
  rcases h with rfl | rfl | rfl | rfl | rfl | rfl | rfl | rfl | rfl | rfl | rfl | rfl | rfl | rfl | rfl | rfl | rfl | rfl | rfl | rfl
  · unfold ly_iw at H; rw [if_pos (by rw [eo]; decide)] at H; (repeat (first | refine br_t (by decide) ?_ | refine br_f (by decide) ?_)); exact H
  · (repeat (first | refine br_t (by decide) ?_ | refine br_f (by decide) ?_)); exact inst (by rw [eo]; decide) (by rw [eo]; decide) (by rw [eo]; decide)
  · (repeat (first | refine br_t (by decide) ?_ | refine br_f (by decide) ?_)); exact inst (by rw [eo]; decide) (by rw [eo]; decide) (by rw [eo]; decide)
  · (repeat (first | refine br_t (by decide) ?_ | refine br_f (by decide) ?_)); exact inst (by rw [eo]; decide) (by rw [eo]; decide) (by rw [eo]; decide)
  · (repeat (first | refine br_t (by decide) ?_ | refine br_f (by decide) ?_)); exact inst (by rw [eo]; decide) (by rw [eo]; decide) (by rw [eo]; decide)
  · (repeat (first | refine br_t (by decide) ?_ | refine br_f (by decide) ?_)); exact inst (by rw [eo]; decide) (by rw [eo]; decide) (by rw [eo]; decide)
  · (repeat (first | refine br_t (by decide) ?_ | refine br_f (by decide) ?_)); exact inst (by rw [eo]; decide) (by rw [eo]; decide) (by rw [eo]; decide)
  · (repeat (first | refine br_t (by decide) ?_ | refine br_f (by decide) ?_)); exact inst (by rw [eo]; decide) (by rw [eo]; decide) (by rw [eo]; decide)
  · (repeat (first | refine br_t (by decide) ?_ | refine br_f (by decide) ?_)); exact inst (by rw [eo]; decide) (by rw [eo]; decide) (by rw [eo]; decide)
  · (repeat (first | refine br_t (by decide) ?_ | refine br_f (by decide) ?_)); exact inst (by rw [eo]; decide) (by rw [eo]; decide) (by rw [eo]; decide)
  · (repeat (first | refine br_t (by decide) ?_ | refine br_f (by decide) ?_)); exact inst (by rw [eo]; decide) (by rw [eo]; decide) (by rw [eo]; decide)
  · (repeat (first | refine br_t (by decide) ?_ | refine br_f (by decide) ?_)); exact inst (by rw [eo]; decide) (by rw [eo]; decide) (by rw [eo]; decide)
  · (repeat (first | refine br_t (by decide) ?_ | refine br_f (by decide) ?_)); exact inst (by rw [eo]; decide) (by rw [eo]; decide) (by rw [eo]; decide)
  · (repeat (first | refine br_t (by decide) ?_ | refine br_f (by decide) ?_)); exact inst (by rw [eo]; decide) (by rw [eo]; decide) (by rw [eo]; decide)
  · (repeat (first | refine br_t (by decide) ?_ | refine br_f (by decide) ?_)); exact inst (by rw [eo]; decide) (by rw [eo]; decide) (by rw [eo]; decide)
  · unfold ly_iw at H
    have nn : ¬ (xops i = 0 ∨ xops i = 17 ∨ xops i = 18 ∨ xops i = 19) := by rw [eo]; decide
    rw [if_neg nn, if_pos (by rw [eo]; decide)] at H
    (repeat (first | refine br_t (by decide) ?_ | refine br_f (by decide) ?_))
    refine ⟨vi, vi, ?_⟩
    rw [ep]
    exact ly_xpw (hp := hp nn) (v := _) (H := H)
  · unfold ly_iw at H
    have nn : ¬ (xops i = 0 ∨ xops i = 17 ∨ xops i = 18 ∨ xops i = 19) := by rw [eo]; decide
    rw [if_neg nn, if_neg (by rw [eo]; decide), if_pos (by rw [eo]; decide)] at H
    (repeat (first | refine br_t (by decide) ?_ | refine br_f (by decide) ?_))
    refine ⟨vi, vi, ?_⟩
    rw [ep]
    exact ly_xpw (hp := hp nn) (v := _) (H := H)
  · unfold ly_iw at H; rw [if_pos (by rw [eo]; decide)] at H; (repeat (first | refine br_t (by decide) ?_ | refine br_f (by decide) ?_)); exact H
  · unfold ly_iw at H; rw [if_pos (by rw [eo]; decide)] at H; (repeat (first | refine br_t (by decide) ?_ | refine br_f (by decide) ?_)); exact H
  · unfold ly_iw at H; rw [if_pos (by rw [eo]; decide)] at H; (repeat (first | refine br_t (by decide) ?_ | refine br_f (by decide) ?_)); exact H
theorem ly_iw_g {o a b : Int32} {p : Nat} {gl gl' h : Int32} {img : Nat → Int32} (hu : ly_us o = false) (hh : o = 1 ∨ h = 0) : ly_iw o a b p gl h img = ly_iw o a b p gl' h img := by
  have q : ∀ j : Int32, ly_us j = true → ¬ o = j := fun j hj e => by rw [e, hj] at hu; exact absurd hu (by decide)
  have e1 : ∀ x, ly_lo o b (nI p) x = if o = 11 ∨ o = 13 ∨ o = 14 then 0 else b := by
    intro x
    unfold ly_lo
    rw [if_neg (fun z => by
      rcases z with z | z | z
      · exact q 8 (by decide) z
      · exact q 9 (by decide) z
      · exact q 10 (by decide) z), if_neg (q 12 (by decide))]
  unfold ly_iw ly_w1
  rw [e1, e1, if_neg (q 16 (by decide)), if_neg (q 16 (by decide))]
  rcases hh with hh | hh
  · rw [if_pos hh, if_pos hh]
  · rw [if_pos hh, if_pos hh]
/-- the image after the first i items -/
def ly_im (o a b : Nat → Int32) (P w : Nat → Int32) (tn : Nat → Nat) : Nat → (Nat → Int32) → (Nat → Int32)
  | 0, img => img
  | i + 1, img => if P i = -1 then ly_im o a b P w tn i img else ly_iw (o i) (a i) (b i) (P i).toNatClampNeg (P (tn i)) (ly_h2 o b w i) (ly_im o a b P w tn i img)
theorem ly_iw_ag {o a b : Int32} {p : Nat} {gl h : Int32} {m n : Nat → Int32} (hh : ly_AG 256 m n) : ly_AG 256 (ly_iw o a b p gl h m) (ly_iw o a b p gl h n) := by
  unfold ly_iw
  split
  · exact hh
  · split
    · exact ly_AG_upd hh _ _
    · split
      · exact ly_AG_upd hh _ _
      · split
        · exact ly_AG_upd hh _ _
        · exact ly_AG_upd (ly_AG_upd hh _ _) _ _
theorem ly_im_ag {o a b P w : Nat → Int32} {tn : Nat → Nat} {m n : Nat → Int32} (hh : ly_AG 256 m n) : ∀ i, ly_AG 256 (ly_im o a b P w tn i m) (ly_im o a b P w tn i n) := by
  intro i
  induction i with
  | zero => exact hh
  | succ i ih =>
    simp only [ly_im]
    by_cases c : P i = -1
    · rw [if_pos c, if_pos c]; exact ih
    · rw [if_neg c, if_neg c]; exact ly_iw_ag ih
/-- the places of a finished layout -/
def ly_PF (o a b cnt : Nat → Int32) (g : Nat → Nat) (n : Nat) (P w : Nat → Int32) : Prop := ∀ i, i < 144 → P i = -1 ∨ (∃ p : Nat, p + ly_sz o a b w i p ≤ 256 ∧ P i = nI p) ∧ ly_th cnt g n i
theorem ly_h2_c {o b w w' : Nat → Int32} {i : Nat} (h : w i = w' i) : ly_h2 o b w i = ly_h2 o b w' i := by unfold ly_h2; rw [h]
theorem ly_x24 {post : SX → Prop} {xbase xstrip xllen xtend xaend xlcnt xlrnd xlinked xblamed xouts xpc xsteps xran : Int32} {xops xA xB xcnt xrole xloc xglo xweak xuse xrep xunit xtgt xstay xlong xlist xchosen xplace xreg xstore xout : Nat → Int32} (hW : ly_W xcnt) (hF : ly_F xops xA xB) {g : Nat → Nat} {n : Nat} (hG : ly_GD xops xA xB xcnt g n) (hT : ∀ x, x < 144 → xtgt x = if ly_at xops xcnt g n x = true then ly_tg xops xA xB xcnt g n x else -1) {P w : Nat → Int32} (hP : ly_AG 144 xplace P) (hw : ly_AG 144 xlong w) (hv : ly_WV xops w) (hPF : ly_PF xops xA xB xcnt g n P w) (img : Nat → Int32)
    (H : post (xbase, xstrip, xllen, xtend, xaend, xlcnt, xlrnd, xlinked, xblamed, xouts, xpc, xsteps, xran, xops, xA, xB, xcnt, xrole, xloc, xglo, xweak, xuse, xrep, xunit, xtgt, xstay, xlong, xlist, xchosen, xplace, ly_im xops xA xB P w (ly_tn xops xA xB xcnt g n) 144 img, xreg, xstore, xout)) : ∀ (d i : Nat), i + d = 144 → wX_fillImage_24 post (d + 1) (nI i) xbase xstrip xllen xtend xaend xlcnt xlrnd xlinked xblamed xouts xpc xsteps xran xops xA xB xcnt xrole xloc xglo xweak xuse xrep xunit xtgt xstay xlong xlist xchosen xplace (ly_im xops xA xB P w (ly_tn xops xA xB xcnt g n) i img) xreg xstore xout := by
  intro d
  induction d with
  | zero =>
    intro i hd
    have e : i = 144 := by omega
    subst e
    exact br_t (by decide) H
  | succ d ih =>
    intro i hd
    have hi : i < 144 := by omega
    have ei : (nI i).toNatClampNeg = i := ly_cl (by omega)
    have vi : vp_in (nI i) 144 := vp_in_nI hi (by omega)
    have IH := ih (i + 1) (by omega)
    simp only [ly_im] at IH
    refine br_f (nI_ge (b := 144) hi (by omega)) ⟨vi, ?_⟩
    rw [ei, hP i hi]
    rcases hPF i hi with z | ⟨⟨p, p1, p2⟩, hth⟩
    · rw [if_pos z] at IH
      exact br_t z (nm_r (nI_1 i) IH)
    · have hpb : p ≤ 256 := by omega
      have np : ¬ P i = -1 := by rw [p2]; exact ly_m1 (by omega)
      rw [if_neg np] at IH
      refine br_f np ?_
      have ep : xplace i = nI p := (hP i hi).trans p2
      have hlo : xlong i = 0 ∨ xlong i = 1 := by rw [hw i hi]; exact hv.1 i hi
      have eh : ly_h2 xops xB xlong i = ly_h2 xops xB w i := ly_h2_c (hw i hi)
      have epn : (P i).toNatClampNeg = p := by rw [p2]; exact nI_clamp (by omega)
      rw [epn] at IH
      -- room
      have room : ¬ (xops i = 0 ∨ xops i = 17 ∨ xops i = 18 ∨ xops i = 19) → p < 256 ∧ (¬ ly_h2 xops xB xlong i = 0 → p + 1 < 256) := by
        intro nn
        rcases ly_sz_2 (o := xops) (a := xA) (b := xB) (w := w) (i := i) (t := p) (fun e => nn (Or.inl e)) (fun e => nn (Or.inr (Or.inr (Or.inr e)))) (fun e => nn (Or.inr (Or.inl e))) (fun e => nn (Or.inr (Or.inr (Or.inl e)))) (hv.1 i hi) with ⟨q1, q2⟩ | ⟨q1, q2⟩
        · rw [q2] at p1
          exact ⟨by omega, fun z => absurd (eh.trans q1) z⟩
        · rw [q2] at p1
          exact ⟨by omega, fun _ => by omega⟩
      unfold wpX_fillItem
      dsimp only
      rw [ei]
      refine ⟨vi, ?_⟩
      cases ha : ly_at xops xcnt g n i with
      | false =>
        have et : xtgt i = -1 := by rw [hT i hi, ha]; rfl
        have hu : ly_us (xops i) = false := by
          have ha' := ha
          unfold ly_at at ha'
          rw [hth.2.1, decide_eq_true hth.2.2] at ha'
          exact ha'
        refine br_t et (ly_x25 (hF := hF) (hi := hi) (ep := ep) (hp := fun nn => (room nn).1) (hl := hlo) (h2 := fun nn => (room nn).2) (gl := 0) (H := nm_r (nI_1 i) ?_))
        rw [eh, ly_iw_g (gl' := P (ly_tn xops xA xB xcnt g n i)) hu (by
          by_cases c1 : xops i = 1
          · exact Or.inl c1
          · refine Or.inr ?_
            unfold ly_h2
            rw [if_neg c1]
            by_cases c0 : w i = 0
            · exact c0
            · have := hv.2 i hi c0
              rw [hu] at this; exact absurd this (by decide))]
        exact IH
      | true =>
        obtain ⟨t1, t2⟩ := ly_tn_t hW hF hG hi ha
        have ht := t1.1
        have et : xtgt i = nI (ly_tn xops xA xB xcnt g n i) := by rw [hT i hi, ha, if_pos rfl]; exact t2
        refine br_f (by rw [et]; exact ly_m1 (by omega)) ⟨vi, ?_⟩
        rw [et, ly_cl (i := ly_tn xops xA xB xcnt g n i) (by omega)]
        refine ⟨vp_in_nI ht (by omega), ly_x25 (hF := hF) (hi := hi) (ep := ep) (hp := fun nn => (room nn).1) (hl := hlo) (h2 := fun nn => (room nn).2) (gl := _) (H := nm_r (nI_1 i) ?_)⟩
        rw [eh, hP _ ht]
        exact IH
theorem ly_x2f {post : SX → Prop} {xbase xstrip xllen xtend xaend xlcnt xlrnd xlinked xblamed xouts xpc xsteps xran : Int32} {xops xA xB xcnt xrole xloc xglo xweak xuse xrep xunit xtgt xstay xlong xlist xchosen xplace xreg xstore xout : Nat → Int32} (H : ∀ img : Nat → Int32, (∀ x, x < 256 → img x = 0) → ∃ n24, wX_fillImage_24 post n24 0 xbase xstrip xllen xtend xaend xlcnt xlrnd xlinked xblamed xouts xpc xsteps xran xops xA xB xcnt xrole xloc xglo xweak xuse xrep xunit xtgt xstay xlong xlist xchosen xplace img xreg xstore xout) : ∀ (d k : Nat) (img : Nat → Int32), k + d = 256 → (∀ x, x < k → img x = 0) → wX_fillImage_2 post xbase xstrip xllen xtend xaend xlcnt xlrnd xlinked xblamed xouts xpc xsteps xran (d + 1) (nI k) xops xA xB xcnt xrole xloc xglo xweak xuse xrep xunit xtgt xstay xlong xlist xchosen xplace img xreg xstore xout := by
  intro d
  induction d with
  | zero =>
    intro k img hd h
    have e : k = 256 := by omega
    subst e
    exact br_t (by decide) (H img h)
  | succ d ih =>
    intro k img hd h
    refine br_f (nI_ge (b := 256) (by omega) (by omega)) ⟨vp_in_nI (by omega) (by omega), nm_r (e' := upd img k 0) (by rw [ly_cl (i := k) (by omega)]) (nm_r (nI_1 k) (ih (k + 1) _ (by omega) (fun x hx => ?_)))⟩
    by_cases e : x = k
    · subst e; exact pk_us
    · rw [pk_un e]; exact h x (by omega)
theorem ly_xfill {post : SX → Prop} {xbase xstrip xllen xtend xaend xlcnt xlrnd xlinked xblamed xouts xpc xsteps xran : Int32} {xops xA xB xcnt xrole xloc xglo xweak xuse xrep xunit xtgt xstay xlong xlist xchosen xplace ximg xreg xstore xout : Nat → Int32} (hW : ly_W xcnt) (hF : ly_F xops xA xB) {g : Nat → Nat} {n : Nat} (hG : ly_GD xops xA xB xcnt g n) (hT : ∀ x, x < 144 → xtgt x = if ly_at xops xcnt g n x = true then ly_tg xops xA xB xcnt g n x else -1) {P w : Nat → Int32} (hP : ly_AG 144 xplace P) (hw : ly_AG 144 xlong w) (hv : ly_WV xops w) (hPF : ly_PF xops xA xB xcnt g n P w)
    (H : ∀ img : Nat → Int32, ly_AG 256 img (ly_im xops xA xB P w (ly_tn xops xA xB xcnt g n) 144 (fun _ => 0)) → post (xbase, xstrip, xllen, xtend, xaend, xlcnt, xlrnd, xlinked, xblamed, xouts, xpc, xsteps, xran, xops, xA, xB, xcnt, xrole, xloc, xglo, xweak, xuse, xrep, xunit, xtgt, xstay, xlong, xlist, xchosen, xplace, img, xreg, xstore, xout)) : wpX_fillImage post (xbase, xstrip, xllen, xtend, xaend, xlcnt, xlrnd, xlinked, xblamed, xouts, xpc, xsteps, xran, xops, xA, xB, xcnt, xrole, xloc, xglo, xweak, xuse, xrep, xunit, xtgt, xstay, xlong, xlist, xchosen, xplace, ximg, xreg, xstore, xout) :=
  ⟨257, ly_x2f (H := fun img hi => ⟨145, ly_x24 (hW := hW) (hF := hF) (hG := hG) (hT := hT) (hP := hP) (hw := hw) (hv := hv) (hPF := hPF) (img := img) (H := H _ (ly_im_ag (fun x hx => hi x hx) 144)) 144 0 (by omega)⟩) 256 0 ximg (by omega) (fun x hx => absurd hx (Nat.not_lt_zero x))⟩
end
section
/-! Y: the image -/
theorem ly_y228 {post : SY → Prop} {yorg ystrip ymany yculp ytend yend ymade yrounds yentry ylinked yran ypc ysteps youts : Int32} {yops yA yB ycnt yrole ylist yplace ysym yimg ystay ywide ymem yreg yout : Nat → Int32} {p : Nat} (hp : p < 256) (x7 x8 x9 z0 z1 : Int32) (h2 : ¬ x7 = 0 → p + 1 < 256) (H : post (yorg, ystrip, ymany, yculp, ytend, yend, ymade, yrounds, yentry, ylinked, yran, ypc, ysteps, youts, yops, yA, yB, ycnt, yrole, ylist, yplace, ysym, if x7 = 0 then upd yimg p ((z1 + z0) + (x9 &&& 65535)) else upd (upd yimg p ((z1 + z0) + (x9 &&& 65535))) (p + 1) x8, ystay, ywide, ymem, yreg, yout)) : wY_write_228 post (nI p) x7 x8 x9 z0 z1 (nI p) yorg ystrip ymany yculp ytend yend ymade yrounds yentry ylinked yran ypc ysteps youts yops yA yB ycnt yrole ylist yplace ysym yimg ystay ywide ymem yreg yout := by
  refine ⟨vp_in_nI hp (by omega), nm_r (e' := upd yimg p ((z1 + z0) + (x9 &&& 65535))) (by rw [ly_cl (i := p) (by omega)]) ?_⟩
  by_cases z : x7 = 0
  · rw [if_pos z] at H; exact br_t z H
  · rw [if_neg z] at H
    have hz := h2 z
    refine br_f z ?_
    rw [nI_1]
    exact ⟨vp_in_nI hz (by omega), nm_r (e' := upd (upd yimg p ((z1 + z0) + (x9 &&& 65535))) (p + 1) x8) (by rw [ly_cl (i := p + 1) (by omega)]) H⟩
theorem ly_y191 {post : SY → Prop} {yorg ystrip ymany yculp ytend yend ymade yrounds yentry ylinked yran ypc ysteps youts : Int32} {yops yA yB ycnt yrole ylist yplace ysym yimg ystay ywide ymem yreg yout : Nat → Int32} {p : Nat} (hp : p < 256) (x3 x4 x6 x7 G L B : Int32) (h2 : ¬ x7 = 0 → p + 1 < 256) (hB : (if x6 = 0 then (x3 <<< ((24 : Int32) &&& 31)) + 0 else (x3 <<< ((24 : Int32) &&& 31)) + (x4 <<< ((20 : Int32) &&& 31))) = B) (H : post (yorg, ystrip, ymany, yculp, ytend, yend, ymade, yrounds, yentry, ylinked, yran, ypc, ysteps, youts, yops, yA, yB, ycnt, yrole, ylist, yplace, ysym, if x7 = 0 then upd yimg p (B + (L &&& 65535)) else upd (upd yimg p (B + (L &&& 65535) + 65536)) (p + 1) G, ystay, ywide, ymem, yreg, yout)) : wY_write_191 post (nI p) x3 x4 x6 x7 G L yorg ystrip ymany yculp ytend yend ymade yrounds yentry ylinked yran ypc ysteps youts yops yA yB ycnt yrole ylist yplace ysym yimg ystay ywide ymem yreg yout := by
  have go : wY_write_216 post (nI p) x7 G L B 0 (nI p) yorg ystrip ymany yculp ytend yend ymade yrounds yentry ylinked yran ypc ysteps youts yops yA yB ycnt yrole ylist yplace ysym yimg ystay ywide ymem yreg yout ∨ True := Or.inr trivial
  have e1 : ∀ v : Int32, B = v → (v + 0) + (L &&& 65535) = B + (L &&& 65535) := fun v e => by rw [← e, Int32.add_zero]
  have e2 : ∀ v : Int32, B = v → (v + 65536) + (L &&& 65535) = B + (L &&& 65535) + 65536 := fun v e => by rw [← e, Int32.add_assoc, Int32.add_comm 65536, ← Int32.add_assoc]
  have fin : ∀ z1 z0 : Int32, B = z1 + z0 → wY_write_216 post (nI p) x7 G L z0 z1 (nI p) yorg ystrip ymany yculp ytend yend ymade yrounds yentry ylinked yran ypc ysteps youts yops yA yB ycnt yrole ylist yplace ysym yimg ystay ywide ymem yreg yout := by
    intro z1 z0 e
    by_cases z : x7 = 0
    · refine br_t z (ly_y228 (hp := hp) (x7 := x7) (x8 := G) (x9 := L) (z0 := 0) (z1 := z1 + z0) (h2 := h2) (H := ?_))
      rw [if_pos z, e1 _ e]
      rw [if_pos z] at H
      exact H
    · refine br_f z (ly_y228 (hp := hp) (x7 := x7) (x8 := G) (x9 := L) (z0 := 65536) (z1 := z1 + z0) (h2 := h2) (H := ?_))
      rw [if_neg z, e2 _ e]
      rw [if_neg z] at H
      exact H
  by_cases z : x6 = 0
  · rw [if_pos z] at hB
    exact br_t z (fin _ _ hB.symm)
  · rw [if_neg z] at hB
    exact br_f z (fin _ _ hB.symm)
theorem ly_y153 {post : SY → Prop} {yorg ystrip ymany yculp ytend yend ymade yrounds yentry ylinked yran ypc ysteps youts : Int32} {yops yA yB ycnt yrole ylist yplace ysym yimg ystay ywide ymem yreg yout : Nat → Int32} {q : Nat} (h1 : 1 ≤ q) (h14 : q ≤ 14) (x2 x4 x6 x7 G L : Int32) (hL : L = if q = 8 ∨ q = 9 ∨ q = 10 then G - x2 else if q = 11 ∨ q = 13 ∨ q = 14 then 0 else G) (H : wY_write_191 post x2 (nI q) x4 x6 x7 G L yorg ystrip ymany yculp ytend yend ymade yrounds yentry ylinked yran ypc ysteps youts yops yA yB ycnt yrole ylist yplace ysym yimg ystay ywide ymem yreg yout) : wY_write_153 post x2 (nI q) x4 x6 x7 G yorg ystrip ymany yculp ytend yend ymade yrounds yentry ylinked yran ypc ysteps youts yops yA yB ycnt yrole ylist yplace ysym yimg ystay ywide ymem yreg yout := by
  subst hL
  have h : q = 1 ∨ q = 2 ∨ q = 3 ∨ q = 4 ∨ q = 5 ∨ q = 6 ∨ q = 7 ∨ q = 8 ∨ q = 9 ∨ q = 10 ∨ q = 11 ∨ q = 12 ∨ q = 13 ∨ q = 14 := by omega
  rcases h with rfl | rfl | rfl | rfl | rfl | rfl | rfl | rfl | rfl | rfl | rfl | rfl | rfl | rfl
  · rw [if_neg (by omega), if_neg (by omega)] at H; exact (br_t (by decide) (br_t rfl (br_f (by decide) (br_t (by decide) H))))
  · rw [if_neg (by omega), if_neg (by omega)] at H; exact (br_t (by decide) (br_t rfl (br_f (by decide) (br_t (by decide) H))))
  · rw [if_neg (by omega), if_neg (by omega)] at H; exact (br_t (by decide) (br_t rfl (br_f (by decide) (br_t (by decide) H))))
  · rw [if_neg (by omega), if_neg (by omega)] at H; exact (br_t (by decide) (br_t rfl (br_f (by decide) (br_t (by decide) H))))
  · rw [if_neg (by omega), if_neg (by omega)] at H; exact (br_t (by decide) (br_t rfl (br_f (by decide) (br_t (by decide) H))))
  · rw [if_neg (by omega), if_neg (by omega)] at H; exact (br_t (by decide) (br_t rfl (br_f (by decide) (br_t (by decide) H))))
  · rw [if_neg (by omega), if_neg (by omega)] at H; exact (br_t (by decide) (br_t rfl (br_f (by decide) (br_t (by decide) H))))
  · rw [if_pos (by omega)] at H; exact br_f (by decide) (br_f (by decide) (br_f (by decide) H))
  · rw [if_pos (by omega)] at H; exact br_f (by decide) (br_f (by decide) (br_f (by decide) H))
  · rw [if_pos (by omega)] at H; exact br_f (by decide) (br_f (by decide) (br_f (by decide) H))
  · rw [if_neg (by omega), if_pos (by omega)] at H; exact (br_f (by decide) (br_t (by decide) (br_t rfl (br_t rfl H))))
  · rw [if_neg (by omega), if_neg (by omega)] at H; exact (br_f (by decide) (br_t (by decide) (br_t rfl (br_f (by decide) (br_t (by decide) H)))))
  · rw [if_neg (by omega), if_pos (by omega)] at H; exact (br_f (by decide) (br_t (by decide) (br_t rfl (br_f (by decide) (br_f (by decide) H)))))
  · rw [if_neg (by omega), if_pos (by omega)] at H; exact (br_f (by decide) (br_t (by decide) (br_t rfl (br_f (by decide) (br_f (by decide) H)))))
theorem ly_lo_q {q : Nat} (h1 : 1 ≤ q) (h14 : q ≤ 14) (b x2 gl : Int32) : ly_lo (nI q) b x2 gl = if q = 8 ∨ q = 9 ∨ q = 10 then (if ly_us (nI q) = true then gl else b) - x2 else if q = 11 ∨ q = 13 ∨ q = 14 then 0 else (if ly_us (nI q) = true then gl else b) := by
  unfold ly_lo
  have h : q = 1 ∨ q = 2 ∨ q = 3 ∨ q = 4 ∨ q = 5 ∨ q = 6 ∨ q = 7 ∨ q = 8 ∨ q = 9 ∨ q = 10 ∨ q = 11 ∨ q = 12 ∨ q = 13 ∨ q = 14 := by omega
  rcases h with rfl | rfl | rfl | rfl | rfl | rfl | rfl | rfl | rfl | rfl | rfl | rfl | rfl | rfl
  · rw [if_neg (by decide), if_neg (by decide), if_neg (by decide), if_neg (by omega), if_neg (by omega), if_neg (by decide)]
  · rw [if_neg (by decide), if_neg (by decide), if_neg (by decide), if_neg (by omega), if_neg (by omega), if_neg (by decide)]
  · rw [if_neg (by decide), if_neg (by decide), if_neg (by decide), if_neg (by omega), if_neg (by omega), if_neg (by decide)]
  · rw [if_neg (by decide), if_neg (by decide), if_neg (by decide), if_neg (by omega), if_neg (by omega), if_neg (by decide)]
  · rw [if_neg (by decide), if_neg (by decide), if_neg (by decide), if_neg (by omega), if_neg (by omega), if_neg (by decide)]
  · rw [if_neg (by decide), if_neg (by decide), if_neg (by decide), if_neg (by omega), if_neg (by omega), if_neg (by decide)]
  · rw [if_neg (by decide), if_neg (by decide), if_neg (by decide), if_neg (by omega), if_neg (by omega), if_neg (by decide)]
  · rw [if_pos (by decide), if_pos (by omega), if_pos (by decide)]
  · rw [if_pos (by decide), if_pos (by omega), if_pos (by decide)]
  · rw [if_pos (by decide), if_pos (by omega), if_pos (by decide)]
  · rw [if_neg (by decide), if_neg (by decide), if_pos (by decide), if_neg (by omega), if_pos (by omega)]
  · rw [if_neg (by decide), if_pos (by decide), if_neg (by omega), if_neg (by omega), if_pos (by decide)]
  · rw [if_neg (by decide), if_neg (by decide), if_pos (by decide), if_neg (by omega), if_pos (by omega)]
  · rw [if_neg (by decide), if_neg (by decide), if_pos (by decide), if_neg (by omega), if_pos (by omega)]
theorem ly_yw112 {post : SY → Prop} {yorg ystrip yculp ytend yend ymade yrounds yentry ylinked yran ypc ysteps youts : Int32} {yops yA yB ycnt yrole ylist yplace ysym yimg ystay ywide ymem yreg yout : Nat → Int32} (hW : ly_W ycnt) (hF : ly_F yops yA yB) {g : Nat → Nat} {n : Nat} (hL : ly_LS yops yA ycnt ylist g n) (hG : ly_GD yops yA yB ycnt g n) {i p q : Nat} (hi : i < 144) (hth : ly_th ycnt g n i) (h1 : 1 ≤ q) (h14 : q ≤ 14) (eo : yops i = nI q) (hl : ywide i = 0 ∨ ywide i = 1) (hl1 : ¬ ywide i = 0 → ¬ yops i = 1) (hp : p < 256) (h2 : ¬ ly_h2 yops yB ywide i = 0 → p + 1 < 256) (x6 : Int32) (h6 : (if x6 = 0 then (nI q <<< ((24 : Int32) &&& 31)) + 0 else (nI q <<< ((24 : Int32) &&& 31)) + (yA i <<< ((20 : Int32) &&& 31))) = (nI q <<< ((24 : Int32) &&& 31)) + (ly_ro (nI q) (yA i) <<< ((20 : Int32) &&& 31)))
    (hnl : ¬ q = 1 → ly_us (nI q) = false → ly_h2 yops yB ywide i = 0)
    (H : post (yorg, ystrip, nI n, yculp, ytend, yend, ymade, yrounds, yentry, ylinked, yran, ypc, ysteps, youts, yops, yA, yB, ycnt, yrole, ylist, yplace, ysym, ly_iw (yops i) (yA i) (yB i) p (yplace (ly_tn yops yA yB ycnt g n i)) (ly_h2 yops yB ywide i) yimg, ystay, ywide, ymem, yreg, yout)) : wY_write_112 post (nI i) (nI p) (nI q) (yA i) (yB i) x6 yorg ystrip (nI n) yculp ytend yend ymade yrounds yentry ylinked yran ypc ysteps youts yops yA yB ycnt yrole ylist yplace ysym yimg ystay ywide ymem yreg yout := by
  have q0 : ∀ j : Nat, j ≤ 31 → ¬ q = j → ¬ yops i = nI j := fun j hj hne z => hne (ly_inj (by omega) (by omega) (eo.symm.trans z))
  have nn : ¬ (yops i = 0 ∨ yops i = 17 ∨ yops i = 18 ∨ yops i = 19) := fun z => by
    rcases z with z | z | z | z
    · exact q0 0 (by omega) (by omega) z
    · exact q0 17 (by omega) (by omega) z
    · exact q0 18 (by omega) (by omega) z
    · exact q0 19 (by omega) (by omega) z
  have n15 : ¬ yops i = 15 := q0 15 (by omega) (by omega)
  have n16 : ¬ yops i = 16 := q0 16 (by omega) (by omega)
  unfold ly_iw at H
  rw [if_neg nn, if_neg n15, if_neg n16, eo] at H
  -- from the goal on
  have low : ∀ (x7 G : Int32), (x7 = 0 ↔ ly_h2 yops yB ywide i = 0) → G = (if ly_us (nI q) = true then yplace (ly_tn yops yA yB ycnt g n i) else yB i) → wY_write_153 post (nI p) (nI q) (yA i) x6 x7 G yorg ystrip (nI n) yculp ytend yend ymade yrounds yentry ylinked yran ypc ysteps youts yops yA yB ycnt yrole ylist yplace ysym yimg ystay ywide ymem yreg yout := by
    intro x7 G hx hGe
    refine ly_y153 (h1 := h1) (h14 := h14) (L := ly_lo (nI q) (yB i) (nI p) (yplace (ly_tn yops yA yB ycnt g n i))) (hL := by rw [ly_lo_q h1 h14, ← hGe]) (H := ly_y191 (hp := hp) (B := _) (h2 := fun z => h2 (fun y => z (hx.mpr y))) (hB := h6) (H := ?_))
    by_cases z : ly_h2 yops yB ywide i = 0
    · rw [if_pos (hx.mpr z)]
      rw [if_pos z] at H
      exact H
    · rw [if_neg (fun y => z (hx.mp y))]
      rw [if_neg z] at H
      have eg : G = if nI q = 1 then yB i else yplace (ly_tn yops yA yB ycnt g n i) := by
        rw [hGe]
        by_cases c1 : q = 1
        · subst c1; rfl
        · have n1 : ¬ nI q = 1 := fun y => c1 (ly_inj (b := 1) (by omega) (by omega) y)
          rw [if_neg n1]
          cases hu : ly_us (nI q) with
          | true => rfl
          | false => exact absurd (hnl c1 hu) z
      rw [eg]; exact H
  have at129 : ∀ x7 : Int32, (x7 = 0 ↔ ly_h2 yops yB ywide i = 0) → wY_write_129 post (nI i) (nI p) (nI q) (yA i) (yB i) x6 x7 yorg ystrip (nI n) yculp ytend yend ymade yrounds yentry ylinked yran ypc ysteps youts yops yA yB ycnt yrole ylist yplace ysym yimg ystay ywide ymem yreg yout := by
    intro x7 hx
    unfold wY_write_129
    refine ly_yuses (by omega) ?_
    cases hu : ly_us (nI q) with
    | false => exact br_t rfl (low x7 (yB i) hx (by rw [hu]; rfl))
    | true =>
      have ha : ly_at yops ycnt g n i = true := by
        unfold ly_at
        rw [hth.2.1, decide_eq_true hth.2.2, eo]
        exact hu
      obtain ⟨t1, t2⟩ := ly_tn_t hW hF hG hi ha
      have ht := t1.1
      obtain ⟨f, hf', ef⟩ := ly_ft_s (hF i hi) (by rw [eo]; exact hu)
      obtain ⟨j, j1, j2⟩ := ly_li_g.mp hth.2.1
      refine br_f (by decide) (ly_ytg (hW := hW) (hF := hF) (hL := hL) (hi := hi) (hf := by rw [← j2]; exact (hG.2.1 j j1).2) (hs := by rw [ef]; exact hG.2.2.1 f hf') (H := ?_))
      rw [t2]
      refine ⟨vp_in_nI ht (by omega), ?_⟩
      rw [ly_cl (i := ly_tn yops yA yB ycnt g n i) (by omega)]
      exact low x7 _ hx (by rw [hu]; rfl)
  unfold wY_write_112
  refine ly_ysz (hF := hF) (hi := hi) (ht := by omega) (hl := hl) (hl1 := hl1) (H := ?_)
  rcases ly_sz_2 (o := yops) (a := yA) (b := yB) (w := ywide) (i := i) (t := p) (fun e => nn (Or.inl e)) (fun e => nn (Or.inr (Or.inr (Or.inr e)))) (fun e => nn (Or.inr (Or.inl e))) (fun e => nn (Or.inr (Or.inr (Or.inl e)))) hl with ⟨s1, s2⟩ | ⟨s1, s2⟩
  · rw [s2]
    exact br_f (by decide) (at129 0 ⟨fun _ => s1, fun _ => rfl⟩)
  · rw [s2]
    exact br_t rfl (at129 1 ⟨fun z => absurd z (by decide), fun z => by rw [s1] at z; exact absurd z (by decide)⟩)
theorem ly_ywr {post : SY → Prop} {yorg ystrip yculp ytend yend ymade yrounds yentry ylinked yran ypc ysteps youts : Int32} {yops yA yB ycnt yrole ylist yplace ysym yimg ystay ywide ymem yreg yout : Nat → Int32} (hW : ly_W ycnt) (hF : ly_F yops yA yB) {g : Nat → Nat} {n : Nat} (hL : ly_LS yops yA ycnt ylist g n) (hG : ly_GD yops yA yB ycnt g n) {i p : Nat} (hi : i < 144) (hth : ly_th ycnt g n i) (hl : ywide i = 0 ∨ ywide i = 1) (hlu : ¬ ywide i = 0 → ly_us (yops i) = true) (hp : ¬ (yops i = 0 ∨ yops i = 17 ∨ yops i = 18 ∨ yops i = 19) → p < 256) (h2 : ¬ (yops i = 0 ∨ yops i = 17 ∨ yops i = 18 ∨ yops i = 19) → ¬ ly_h2 yops yB ywide i = 0 → p + 1 < 256)
    (H : post (yorg, ystrip, nI n, yculp, ytend, yend, ymade, yrounds, yentry, ylinked, yran, ypc, ysteps, youts, yops, yA, yB, ycnt, yrole, ylist, yplace, ysym, ly_iw (yops i) (yA i) (yB i) p (yplace (ly_tn yops yA yB ycnt g n i)) (ly_h2 yops yB ywide i) yimg, ystay, ywide, ymem, yreg, yout)) : wpY_write post (yorg, ystrip, nI n, yculp, ytend, yend, ymade, yrounds, yentry, ylinked, yran, ypc, ysteps, youts, yops, yA, yB, ycnt, yrole, ylist, yplace, ysym, yimg, ystay, ywide, ymem, yreg, yout) (nI i) (nI p) := by
  have vi : vp_in (nI i) 144 := vp_in_nI hi (by omega)
  have ei : (nI i).toNatClampNeg = i := ly_cl (by omega)
  obtain ⟨op, hop, eo, _⟩ := hF i hi
  have hnl : ∀ q : Nat, yops i = nI q → q ≤ 19 → ¬ q = 1 → ly_us (nI q) = false → ly_h2 yops yB ywide i = 0 := by
    intro q eq hq hq1 hu
    have n1 : ¬ yops i = 1 := fun z => hq1 (ly_inj (b := 1) (by omega) (by omega) (eq.symm.trans z))
    unfold ly_h2
    rw [if_neg n1]
    by_cases c0 : ywide i = 0
    · exact c0
    · have := hlu c0
      rw [eq, hu] at this; exact absurd this (by decide)
  unfold wpY_write
  dsimp only
  rw [ei]
  refine ⟨vi, nm_r eo ⟨vi, nm_e ⟨vi, nm_e ?_⟩⟩⟩
  have h : op = 0 ∨ op = 1 ∨ op = 2 ∨ op = 3 ∨ op = 4 ∨ op = 5 ∨ op = 6 ∨ op = 7 ∨ op = 8 ∨ op = 9 ∨ op = 10 ∨ op = 11 ∨ op = 12 ∨ op = 13 ∨ op = 14 ∨ op = 15 ∨ op = 16 ∨ op = 17 ∨ op = 18 ∨ op = 19 := by omega
  rcases h with rfl | rfl | rfl | rfl | rfl | rfl | rfl | rfl | rfl | rfl | rfl | rfl | rfl | rfl | rfl | rfl | rfl | rfl | rfl | rfl
  · unfold ly_iw at H; rw [if_pos (by rw [eo]; decide)] at H; exact br_t rfl H
  · have nn : ¬ (yops i = 0 ∨ yops i = 17 ∨ yops i = 18 ∨ yops i = 19) := by rw [eo]; decide
    exact br_f (by decide) (br_t (by decide) (br_f (by decide) (br_f (by decide) (br_f (by decide) (br_f (by decide) (br_f (by decide) (ly_yw112 (hW := hW) (hF := hF) (hL := hL) (hG := hG) (hi := hi) (hth := hth) (h1 := by omega) (h14 := by omega) (eo := eo) (hl := hl) (hl1 := fun z => ly_us_1 (hlu z)) (hp := hp nn) (h2 := h2 nn) (x6 := 1) (h6 := by unfold ly_ro; rw [if_neg (by decide), if_neg (by decide)]) (hnl := hnl 1 eo (by omega)) (H := H))))))))
  · have nn : ¬ (yops i = 0 ∨ yops i = 17 ∨ yops i = 18 ∨ yops i = 19) := by rw [eo]; decide
    exact br_f (by decide) (br_t (by decide) (br_f (by decide) (br_f (by decide) (br_f (by decide) (br_f (by decide) (br_f (by decide) (ly_yw112 (hW := hW) (hF := hF) (hL := hL) (hG := hG) (hi := hi) (hth := hth) (h1 := by omega) (h14 := by omega) (eo := eo) (hl := hl) (hl1 := fun z => ly_us_1 (hlu z)) (hp := hp nn) (h2 := h2 nn) (x6 := 1) (h6 := by unfold ly_ro; rw [if_neg (by decide), if_neg (by decide)]) (hnl := hnl 2 eo (by omega)) (H := H))))))))
  · have nn : ¬ (yops i = 0 ∨ yops i = 17 ∨ yops i = 18 ∨ yops i = 19) := by rw [eo]; decide
    exact br_f (by decide) (br_t (by decide) (br_f (by decide) (br_f (by decide) (br_f (by decide) (br_f (by decide) (br_f (by decide) (ly_yw112 (hW := hW) (hF := hF) (hL := hL) (hG := hG) (hi := hi) (hth := hth) (h1 := by omega) (h14 := by omega) (eo := eo) (hl := hl) (hl1 := fun z => ly_us_1 (hlu z)) (hp := hp nn) (h2 := h2 nn) (x6 := 1) (h6 := by unfold ly_ro; rw [if_neg (by decide), if_neg (by decide)]) (hnl := hnl 3 eo (by omega)) (H := H))))))))
  · have nn : ¬ (yops i = 0 ∨ yops i = 17 ∨ yops i = 18 ∨ yops i = 19) := by rw [eo]; decide
    exact br_f (by decide) (br_t (by decide) (br_f (by decide) (br_f (by decide) (br_f (by decide) (br_f (by decide) (br_f (by decide) (ly_yw112 (hW := hW) (hF := hF) (hL := hL) (hG := hG) (hi := hi) (hth := hth) (h1 := by omega) (h14 := by omega) (eo := eo) (hl := hl) (hl1 := fun z => ly_us_1 (hlu z)) (hp := hp nn) (h2 := h2 nn) (x6 := 1) (h6 := by unfold ly_ro; rw [if_neg (by decide), if_neg (by decide)]) (hnl := hnl 4 eo (by omega)) (H := H))))))))
  · have nn : ¬ (yops i = 0 ∨ yops i = 17 ∨ yops i = 18 ∨ yops i = 19) := by rw [eo]; decide
    exact br_f (by decide) (br_t (by decide) (br_f (by decide) (br_f (by decide) (br_f (by decide) (br_f (by decide) (br_f (by decide) (ly_yw112 (hW := hW) (hF := hF) (hL := hL) (hG := hG) (hi := hi) (hth := hth) (h1 := by omega) (h14 := by omega) (eo := eo) (hl := hl) (hl1 := fun z => ly_us_1 (hlu z)) (hp := hp nn) (h2 := h2 nn) (x6 := 1) (h6 := by unfold ly_ro; rw [if_neg (by decide), if_neg (by decide)]) (hnl := hnl 5 eo (by omega)) (H := H))))))))
  · have nn : ¬ (yops i = 0 ∨ yops i = 17 ∨ yops i = 18 ∨ yops i = 19) := by rw [eo]; decide
    exact br_f (by decide) (br_t (by decide) (br_f (by decide) (br_f (by decide) (br_f (by decide) (br_f (by decide) (br_f (by decide) (ly_yw112 (hW := hW) (hF := hF) (hL := hL) (hG := hG) (hi := hi) (hth := hth) (h1 := by omega) (h14 := by omega) (eo := eo) (hl := hl) (hl1 := fun z => ly_us_1 (hlu z)) (hp := hp nn) (h2 := h2 nn) (x6 := 1) (h6 := by unfold ly_ro; rw [if_neg (by decide), if_neg (by decide)]) (hnl := hnl 6 eo (by omega)) (H := H))))))))
  · have nn : ¬ (yops i = 0 ∨ yops i = 17 ∨ yops i = 18 ∨ yops i = 19) := by rw [eo]; decide
    exact br_f (by decide) (br_t (by decide) (br_f (by decide) (br_f (by decide) (br_f (by decide) (br_f (by decide) (br_f (by decide) (ly_yw112 (hW := hW) (hF := hF) (hL := hL) (hG := hG) (hi := hi) (hth := hth) (h1 := by omega) (h14 := by omega) (eo := eo) (hl := hl) (hl1 := fun z => ly_us_1 (hlu z)) (hp := hp nn) (h2 := h2 nn) (x6 := 1) (h6 := by unfold ly_ro; rw [if_neg (by decide), if_neg (by decide)]) (hnl := hnl 7 eo (by omega)) (H := H))))))))
  · have nn : ¬ (yops i = 0 ∨ yops i = 17 ∨ yops i = 18 ∨ yops i = 19) := by rw [eo]; decide
    exact br_f (by decide) (br_t (by decide) (br_f (by decide) (br_f (by decide) (br_f (by decide) (br_t (by decide) (br_t rfl (br_f (by decide) (br_f (by decide) (br_f (by decide) (ly_yw112 (hW := hW) (hF := hF) (hL := hL) (hG := hG) (hi := hi) (hth := hth) (h1 := by omega) (h14 := by omega) (eo := eo) (hl := hl) (hl1 := fun z => ly_us_1 (hlu z)) (hp := hp nn) (h2 := h2 nn) (x6 := 0) (h6 := by unfold ly_ro; rw [if_pos rfl, if_pos (by decide)]; rfl) (hnl := hnl 8 eo (by omega)) (H := H)))))))))))
  · have nn : ¬ (yops i = 0 ∨ yops i = 17 ∨ yops i = 18 ∨ yops i = 19) := by rw [eo]; decide
    exact br_f (by decide) (br_t (by decide) (br_f (by decide) (br_f (by decide) (br_f (by decide) (br_t (by decide) (br_t rfl (br_t rfl (ly_yw112 (hW := hW) (hF := hF) (hL := hL) (hG := hG) (hi := hi) (hth := hth) (h1 := by omega) (h14 := by omega) (eo := eo) (hl := hl) (hl1 := fun z => ly_us_1 (hlu z)) (hp := hp nn) (h2 := h2 nn) (x6 := 1) (h6 := by unfold ly_ro; rw [if_neg (by decide), if_neg (by decide)]) (hnl := hnl 9 eo (by omega)) (H := H)))))))))
  · have nn : ¬ (yops i = 0 ∨ yops i = 17 ∨ yops i = 18 ∨ yops i = 19) := by rw [eo]; decide
    exact br_f (by decide) (br_t (by decide) (br_f (by decide) (br_f (by decide) (br_f (by decide) (br_t (by decide) (br_t rfl (br_f (by decide) (br_f (by decide) (br_f (by decide) (ly_yw112 (hW := hW) (hF := hF) (hL := hL) (hG := hG) (hi := hi) (hth := hth) (h1 := by omega) (h14 := by omega) (eo := eo) (hl := hl) (hl1 := fun z => ly_us_1 (hlu z)) (hp := hp nn) (h2 := h2 nn) (x6 := 0) (h6 := by unfold ly_ro; rw [if_pos rfl, if_pos (by decide)]; rfl) (hnl := hnl 10 eo (by omega)) (H := H)))))))))))
  · have nn : ¬ (yops i = 0 ∨ yops i = 17 ∨ yops i = 18 ∨ yops i = 19) := by rw [eo]; decide
    exact br_f (by decide) (br_t (by decide) (br_f (by decide) (br_f (by decide) (br_f (by decide) (br_t (by decide) (br_t rfl (br_f (by decide) (br_f (by decide) (br_f (by decide) (ly_yw112 (hW := hW) (hF := hF) (hL := hL) (hG := hG) (hi := hi) (hth := hth) (h1 := by omega) (h14 := by omega) (eo := eo) (hl := hl) (hl1 := fun z => ly_us_1 (hlu z)) (hp := hp nn) (h2 := h2 nn) (x6 := 0) (h6 := by unfold ly_ro; rw [if_pos rfl, if_pos (by decide)]; rfl) (hnl := hnl 11 eo (by omega)) (H := H)))))))))))
  · have nn : ¬ (yops i = 0 ∨ yops i = 17 ∨ yops i = 18 ∨ yops i = 19) := by rw [eo]; decide
    exact br_f (by decide) (br_t (by decide) (br_f (by decide) (br_f (by decide) (br_f (by decide) (br_t (by decide) (br_t rfl (br_f (by decide) (br_t rfl (ly_yw112 (hW := hW) (hF := hF) (hL := hL) (hG := hG) (hi := hi) (hth := hth) (h1 := by omega) (h14 := by omega) (eo := eo) (hl := hl) (hl1 := fun z => ly_us_1 (hlu z)) (hp := hp nn) (h2 := h2 nn) (x6 := 1) (h6 := by unfold ly_ro; rw [if_neg (by decide), if_neg (by decide)]) (hnl := hnl 12 eo (by omega)) (H := H))))))))))
  · have nn : ¬ (yops i = 0 ∨ yops i = 17 ∨ yops i = 18 ∨ yops i = 19) := by rw [eo]; decide
    exact br_f (by decide) (br_t (by decide) (br_f (by decide) (br_f (by decide) (br_f (by decide) (br_t (by decide) (br_t rfl (br_f (by decide) (br_f (by decide) (br_t rfl (ly_yw112 (hW := hW) (hF := hF) (hL := hL) (hG := hG) (hi := hi) (hth := hth) (h1 := by omega) (h14 := by omega) (eo := eo) (hl := hl) (hl1 := fun z => ly_us_1 (hlu z)) (hp := hp nn) (h2 := h2 nn) (x6 := 1) (h6 := by unfold ly_ro; rw [if_neg (by decide), if_neg (by decide)]) (hnl := hnl 13 eo (by omega)) (H := H)))))))))))
  · have nn : ¬ (yops i = 0 ∨ yops i = 17 ∨ yops i = 18 ∨ yops i = 19) := by rw [eo]; decide
    exact br_f (by decide) (br_t (by decide) (br_f (by decide) (br_f (by decide) (br_f (by decide) (br_t (by decide) (br_t rfl (br_f (by decide) (br_f (by decide) (br_f (by decide) (ly_yw112 (hW := hW) (hF := hF) (hL := hL) (hG := hG) (hi := hi) (hth := hth) (h1 := by omega) (h14 := by omega) (eo := eo) (hl := hl) (hl1 := fun z => ly_us_1 (hlu z)) (hp := hp nn) (h2 := h2 nn) (x6 := 0) (h6 := by unfold ly_ro; rw [if_pos rfl, if_pos (by decide)]; rfl) (hnl := hnl 14 eo (by omega)) (H := H)))))))))))
  · unfold ly_iw at H
    have nn : ¬ (yops i = 0 ∨ yops i = 17 ∨ yops i = 18 ∨ yops i = 19) := by rw [eo]; decide
    rw [if_neg nn, if_pos (by rw [eo]; decide)] at H
    have hp' := hp nn
    exact br_f (by decide) (br_t (by decide) (br_t rfl ⟨vp_in_nI hp' (by omega), nm_r (e' := upd yimg p (yB i)) (by rw [ly_cl (i := p) (by omega)]) H⟩))
  · unfold ly_iw at H
    have nn : ¬ (yops i = 0 ∨ yops i = 17 ∨ yops i = 18 ∨ yops i = 19) := by rw [eo]; decide
    rw [if_neg nn, if_neg (by rw [eo]; decide), if_pos (by rw [eo]; decide)] at H
    have hp' := hp nn
    have hu : ly_us (yops i) = true := by rw [eo]; decide
    have ha : ly_at yops ycnt g n i = true := by
      unfold ly_at
      rw [hth.2.1, decide_eq_true hth.2.2]
      exact hu
    obtain ⟨t1, t2⟩ := ly_tn_t hW hF hG hi ha
    have ht := t1.1
    obtain ⟨f, hf', ef⟩ := ly_ft_s (hF i hi) hu
    obtain ⟨j, j1, j2⟩ := ly_li_g.mp hth.2.1
    refine br_f (by decide) (br_t (by decide) (br_f (by decide) (br_t rfl (ly_ytg (hW := hW) (hF := hF) (hL := hL) (hi := hi) (hf := by rw [← j2]; exact (hG.2.1 j j1).2) (hs := by rw [ef]; exact hG.2.2.1 f hf') (H := ?_)))))
    rw [t2]
    refine ⟨vp_in_nI ht (by omega), ?_⟩
    rw [ly_cl (i := ly_tn yops yA yB ycnt g n i) (by omega)]
    exact ⟨vp_in_nI hp' (by omega), nm_r (e' := upd yimg p (yplace (ly_tn yops yA yB ycnt g n i) + yB i)) (by rw [ly_cl (i := p) (by omega)]) H⟩
  · unfold ly_iw at H; rw [if_pos (by rw [eo]; decide)] at H; exact br_f (by decide) (br_f (by decide) H)
  · unfold ly_iw at H; rw [if_pos (by rw [eo]; decide)] at H; exact br_f (by decide) (br_f (by decide) H)
  · unfold ly_iw at H; rw [if_pos (by rw [eo]; decide)] at H; exact br_f (by decide) (br_f (by decide) H)
end
section
/-! Y: arrange -/
theorem ly_y164 {post : Int32 → SY → Prop} {yorg ystrip yculp ytend yend ymade yrounds yentry ylinked yran ypc ysteps youts : Int32} {yops yA yB ycnt yrole ylist yplace ysym ystay ywide ymem yreg yout : Nat → Int32} (hW : ly_W ycnt) (hF : ly_F yops yA yB) {g : Nat → Nat} {n : Nat} (hL : ly_LS yops yA ycnt ylist g n) (hG : ly_GD yops yA yB ycnt g n) {P w : Nat → Int32} (hP : ly_AG 144 yplace P) (hw : ly_AG 144 ywide w) (hv : ly_WV yops w) (hPF : ly_PF yops yA yB ycnt g n P w) (img : Nat → Int32)
    (H : post 0 (yorg, ystrip, nI n, yculp, ytend, yend, ymade, yrounds, yentry, 1, yran, ypc, ysteps, youts, yops, yA, yB, ycnt, yrole, ylist, yplace, ysym, ly_im yops yA yB P w (ly_tn yops yA yB ycnt g n) 144 img, ystay, ywide, ymem, yreg, yout)) : ∀ (d i : Nat), i + d = 144 → wY_arrange_164 post (d + 1) (nI i) yorg ystrip (nI n) yculp ytend yend ymade yrounds yentry ylinked yran ypc ysteps youts yops yA yB ycnt yrole ylist yplace ysym (ly_im yops yA yB P w (ly_tn yops yA yB ycnt g n) i img) ystay ywide ymem yreg yout := by
  intro d
  induction d with
  | zero =>
    intro i hd
    have e : i = 144 := by omega
    subst e
    exact br_t (by decide) H
  | succ d ih =>
    intro i hd
    have hi : i < 144 := by omega
    have ei : (nI i).toNatClampNeg = i := ly_cl (by omega)
    have vi : vp_in (nI i) 144 := vp_in_nI hi (by omega)
    have IH := ih (i + 1) (by omega)
    simp only [ly_im] at IH
    refine br_f (nI_ge (b := 144) hi (by omega)) ⟨vi, ?_⟩
    rw [ei, hP i hi]
    rcases hPF i hi with z | ⟨⟨p, p1, p2⟩, hth⟩
    · rw [if_pos z] at IH
      rw [z]
      exact br_t (by decide) (nm_r (nI_1 i) IH)
    · have hpb : p ≤ 256 := by omega
      have np : ¬ P i = -1 := by rw [p2]; exact ly_m1 (by omega)
      rw [if_neg np] at IH
      have epn : (P i).toNatClampNeg = p := by rw [p2]; exact nI_clamp (by omega)
      rw [epn] at IH
      rw [p2]
      have hlo : ywide i = 0 ∨ ywide i = 1 := by rw [hw i hi]; exact hv.1 i hi
      have eh : ly_h2 yops yB ywide i = ly_h2 yops yB w i := ly_h2_c (hw i hi)
      have room : ¬ (yops i = 0 ∨ yops i = 17 ∨ yops i = 18 ∨ yops i = 19) → p < 256 ∧ (¬ ly_h2 yops yB ywide i = 0 → p + 1 < 256) := by
        intro nn
        rcases ly_sz_2 (o := yops) (a := yA) (b := yB) (w := w) (i := i) (t := p) (fun e => nn (Or.inl e)) (fun e => nn (Or.inr (Or.inr (Or.inr e)))) (fun e => nn (Or.inr (Or.inl e))) (fun e => nn (Or.inr (Or.inr (Or.inl e)))) (hv.1 i hi) with ⟨q1, q2⟩ | ⟨q1, q2⟩
        · rw [q2] at p1
          exact ⟨by omega, fun z => absurd (eh.trans q1) z⟩
        · rw [q2] at p1
          exact ⟨by omega, fun _ => by omega⟩
      refine br_f (nI_pos (by omega)) ⟨vi, ly_ywr (hW := hW) (hF := hF) (hL := hL) (hG := hG) (hi := hi) (hth := hth) (hl := hlo) (hlu := fun z => hv.2 i hi (fun y => z ((hw i hi).trans y))) (hp := fun nn => (room nn).1) (h2 := fun nn => (room nn).2) (H := nm_r (nI_1 i) ?_)⟩
      rw [eh]
      by_cases hu : ly_us (yops i) = true
      · have ha : ly_at yops ycnt g n i = true := by
          unfold ly_at
          rw [hth.2.1, decide_eq_true hth.2.2]
          exact hu
        rw [hP _ (ly_tn_t hW hF hG hi ha).1.1]
        exact IH
      · have huf : ly_us (yops i) = false := by
          cases h : ly_us (yops i) with
          | false => rfl
          | true => exact absurd h hu
        rw [ly_iw_g (gl' := P (ly_tn yops yA yB ycnt g n i)) huf (by
          by_cases c1 : yops i = 1
          · exact Or.inl c1
          · refine Or.inr ?_
            unfold ly_h2
            rw [if_neg c1]
            by_cases c0 : w i = 0
            · exact c0
            · exact absurd (hv.2 i hi c0) hu)]
        exact IH
theorem ly_y142 {post : Int32 → SY → Prop} {yorg ystrip ymany yculp ytend yend ymade yrounds yentry ylinked yran ypc ysteps youts : Int32} {yops yA yB ycnt yrole ylist yplace ysym ystay ywide ymem yreg yout : Nat → Int32} (H : ∀ img : Nat → Int32, (∀ x, x < 256 → img x = 0) → ∃ n164, wY_arrange_164 post n164 0 yorg ystrip ymany yculp ytend yend ymade yrounds yentry ylinked yran ypc ysteps youts yops yA yB ycnt yrole ylist yplace ysym img ystay ywide ymem yreg yout) : ∀ (d k : Nat) (img : Nat → Int32), k + d = 256 → (∀ x, x < k → img x = 0) → wY_arrange_142 post yorg ystrip ymany yculp ytend yend ymade yrounds yentry ylinked yran ypc ysteps youts (d + 1) (nI k) yops yA yB ycnt yrole ylist yplace ysym img ystay ywide ymem yreg yout := by
  intro d
  induction d with
  | zero =>
    intro k img hd h
    have e : k = 256 := by omega
    subst e
    exact br_t (by decide) (H img h)
  | succ d ih =>
    intro k img hd h
    refine br_f (nI_ge (b := 256) (by omega) (by omega)) ⟨vp_in_nI (by omega) (by omega), nm_r (e' := upd img k 0) (by rw [ly_cl (i := k) (by omega)]) (nm_r (nI_1 k) (ih (k + 1) _ (by omega) (fun x hx => ?_)))⟩
    by_cases e : x = k
    · subst e; exact pk_us
    · rw [pk_un e]; exact h x (by omega)
def ly_sm (o a b cnt : Nat → Int32) (g : Nat → Nat) (n : Nat) (P : Nat → Int32) (s : Nat) : Int32 := if ly_co o a b cnt g n (nI s) = -1 then -1 else P (ly_co o a b cnt g n (nI s)).toNatClampNeg
theorem ly_y92 {post : Int32 → SY → Prop} {yorg ystrip yculp ytend yend ymade yrounds yentry ylinked yran ypc ysteps youts : Int32} {yops yA yB ycnt yrole ylist yplace yimg ystay ywide ymem yreg yout : Nat → Int32} (hW : ly_W ycnt) (hF : ly_F yops yA yB) {g : Nat → Nat} {n : Nat} (hL : ly_LS yops yA ycnt ylist g n) (hG : ly_GD yops yA yB ycnt g n)
    (H : ∀ sym : Nat → Int32, (∀ s, s < 16 → sym s = ly_sm yops yA yB ycnt g n yplace s) → ∃ n142, wY_arrange_142 post yorg ystrip (nI n) yculp ytend yend ymade yrounds (sym 0) ylinked yran ypc ysteps youts n142 0 yops yA yB ycnt yrole ylist yplace sym yimg ystay ywide ymem yreg yout) : ∀ (d s : Nat) (ysym : Nat → Int32), s + d = 16 → (∀ q, q < s → ysym q = ly_sm yops yA yB ycnt g n yplace q) → wY_arrange_92 post yorg ystrip (nI n) yculp ytend yend ymade yrounds yentry ylinked yran ypc ysteps youts (d + 1) (nI s) yops yA yB ycnt yrole ylist yplace ysym yimg ystay ywide ymem yreg yout := by
  have hg : ∀ j, j < n → g j < 6 := fun j hj => (hL.2 j hj).1
  intro d
  induction d with
  | zero =>
    intro s sym hd h
    have e : s = 16 := by omega
    subst e
    exact br_t (by decide) (nm_e (H sym h))
  | succ d ih =>
    intro s sym hd h
    have es : (nI s).toNatClampNeg = s := ly_cl (by omega)
    have IH := ih (s + 1) (upd sym s (ly_sm yops yA yB ycnt g n yplace s)) (by omega) (fun q hq => by
      by_cases e : q = s
      · subst e; exact pk_us
      · rw [pk_un e]; exact h q (by omega))
    refine br_f (nI_ge (b := 16) (by omega) (by omega)) (ly_ych (hW := hW) (hF := hF) (hL := hL) (s := nI s) (H := ?_))
    have ec : ly_cy yops yA yB ycnt g n (nI s) = ly_co yops yA yB ycnt g n (nI s) := by
      unfold ly_cy
      rw [hG.2.2.1 s (by omega), if_neg (by decide)]
    rw [ec]
    unfold ly_sm at IH
    rcases ly_co_c (o := yops) (a := yA) (b := yB) hW hg (nI s) with z | ⟨j, k, _, _, _, hk, z⟩
    · rw [z, if_pos rfl] at IH
      rw [z]
      exact br_f (by decide) ⟨vp_in_nI (by omega) (by omega), nm_r (e' := upd sym s (-1)) (by rw [es]) (nm_r (nI_1 s) IH)⟩
    · rw [z, if_neg (ly_m1 (by omega)), nI_clamp (by omega)] at IH
      rw [z]
      exact br_t (nI_pos' (by omega)) ⟨vp_in_nI hk (by omega), vp_in_nI (by omega) (by omega), nm_r (e' := upd sym s (yplace k)) (by rw [es, nI_clamp (by omega)]) (nm_r (nI_1 s) IH)⟩
theorem ly_y16a {post : Int32 → SY → Prop} {yorg ystrip ymany yculp ytend yend ymade yrounds yentry ylinked yran ypc ysteps youts : Int32} {yops yA yB ycnt yrole ylist yplace ysym yimg ystay ymem yreg yout : Nat → Int32} (H : ∀ wi : Nat → Int32, (∀ x, x < 144 → wi x = 0) → ∃ n38, wY_arrange_38 post n38 1 yorg ystrip ymany yculp ytend yend ymade yrounds yentry ylinked yran ypc ysteps youts yops yA yB ycnt yrole ylist yplace ysym yimg ystay wi ymem yreg yout) : ∀ (d k : Nat) (wi : Nat → Int32), k + d = 144 → (∀ x, x < k → wi x = 0) → wY_arrange_16 post yorg ystrip ymany yculp ytend yend ymade yrounds yentry ylinked yran ypc ysteps youts (d + 1) (nI k) yops yA yB ycnt yrole ylist yplace ysym yimg ystay wi ymem yreg yout := by
  intro d
  induction d with
  | zero =>
    intro k wi hd h
    have e : k = 144 := by omega
    subst e
    exact br_t (by decide) (H wi h)
  | succ d ih =>
    intro k wi hd h
    refine br_f (nI_ge (b := 144) (by omega) (by omega)) ⟨vp_in_nI (by omega) (by omega), nm_r (e' := upd wi k 0) (by rw [ly_cl (i := k) (by omega), ly_nar0]) (nm_r (nI_1 k) (ih (k + 1) _ (by omega) (fun x hx => ?_)))⟩
    by_cases e : x = k
    · subst e; exact pk_us
    · rw [pk_un e]; exact h x (by omega)
def ly_R0 (o a b cnt : Nat → Int32) (kb : Nat → Bool) (g : Nat → Nat) (n base : Nat) : Bool × (Nat → Int32) × Nat × Nat := ly_rl o a b cnt kb g n base 145 (fun _ => 0) 0 0
theorem ly_R0_ok {o a b cnt : Nat → Int32} {kb : Nat → Bool} {g : Nat → Nat} {n base : Nat} (h : (ly_R0 o a b cnt kb g n base).1 = true) : ly_WV o (ly_R0 o a b cnt kb g n base).2.1 ∧ ly_Ew o a b cnt kb g n base (ly_R0 o a b cnt kb g n base).2.1 ≤ 256 :=
  ly_rl_ok 145 (fun _ => 0) 0 0 ⟨fun _ _ => Or.inl rfl, fun _ _ z => absurd rfl z⟩ (by omega) h
theorem ly_PF_R {o a b cnt : Nat → Int32} (hW : ly_W cnt) (hF : ly_F o a b) {kb : Nat → Bool} {g : Nat → Nat} {n base : Nat} (hg : ∀ j, j < n → g j < 6) {w : Nat → Int32} (hE : ly_Ew o a b cnt kb g n base w ≤ 256) : ly_PF o a b cnt g n (ly_Pw o a b cnt kb g n base w) w := by
  intro i hi
  rcases ly_Pw_c (kb := kb) (base := base) hW hF hg w hi with z | ⟨⟨p, p1, p2⟩, hth⟩
  · exact Or.inl z
  · exact Or.inr ⟨⟨p, by omega, p2⟩, hth⟩
theorem ly_yarr {post : Int32 → SY → Prop} {ystrip yculp ytend yend ymade yrounds yentry ylinked yran ypc ysteps youts : Int32} {yops yA yB ycnt yrole ylist yplace ysym yimg ystay ywide ymem yreg yout : Nat → Int32} (hW : ly_W ycnt) (hF : ly_F yops yA yB) {g : Nat → Nat} {n base : Nat} (hL : ly_LS yops yA ycnt ylist g n) (hG : ly_GD yops yA yB ycnt g n) (hb : base ≤ 100) {kb : Nat → Bool} (hkb : ∀ u, u < 12 → (kb u = true ↔ ly_KP yops yA yB ycnt g n ystrip u))
    (H4 : (ly_R0 yops yA yB ycnt kb g n base).1 = false → ∀ (ytend yend ymade yrounds : Int32) (yplace ystay ywide : Nat → Int32), post 4 (nI base, ystrip, nI n, yculp, ytend, yend, ymade, yrounds, yentry, ylinked, yran, ypc, ysteps, youts, yops, yA, yB, ycnt, yrole, ylist, yplace, ysym, yimg, ystay, ywide, ymem, yreg, yout))
    (H0 : (ly_R0 yops yA yB ycnt kb g n base).1 = true → ∀ (yplace ysym yimg ystay ywide : Nat → Int32), ly_AG 144 yplace (ly_Pw yops yA yB ycnt kb g n base (ly_R0 yops yA yB ycnt kb g n base).2.1) → (∀ s, s < 16 → ysym s = ly_sm yops yA yB ycnt g n yplace s) → ly_AG 256 yimg (ly_im yops yA yB (ly_Pw yops yA yB ycnt kb g n base (ly_R0 yops yA yB ycnt kb g n base).2.1) (ly_R0 yops yA yB ycnt kb g n base).2.1 (ly_tn yops yA yB ycnt g n) 144 (fun _ => 0)) → post 0 (nI base, ystrip, nI n, yculp, nI (ly_Tw yops yA yB ycnt kb g n base (ly_R0 yops yA yB ycnt kb g n base).2.1), nI (ly_Ew yops yA yB ycnt kb g n base (ly_R0 yops yA yB ycnt kb g n base).2.1), nI (ly_R0 yops yA yB ycnt kb g n base).2.2.1, nI (ly_R0 yops yA yB ycnt kb g n base).2.2.2, ysym 0, 1, yran, ypc, ysteps, youts, yops, yA, yB, ycnt, yrole, ylist, yplace, ysym, yimg, ystay, ywide, ymem, yreg, yout)) : wpY_arrange post (nI base, ystrip, nI n, yculp, ytend, yend, ymade, yrounds, yentry, ylinked, yran, ypc, ysteps, youts, yops, yA, yB, ycnt, yrole, ylist, yplace, ysym, yimg, ystay, ywide, ymem, yreg, yout) := by
  have hg : ∀ j, j < n → g j < 6 := fun j hj => (hL.2 j hj).1
  unfold wpY_arrange
  dsimp only
  refine ly_yfu (hW := hW) (hF := hF) (hL := hL) (hG := hG) (H := fun st hst => ⟨145, ly_y16a (H := fun wi hwi => ⟨147, ?_⟩) 144 0 ywide (by omega) (fun x hx => absurd hx (Nat.not_lt_zero x))⟩)
  have hK : ∀ u, u < 12 → (st u = 0 ↔ kb u = false) := by
    intro u hu
    have h1 := hst u hu
    have h2 := hkb u hu
    constructor
    · intro z
      cases hk : kb u with
      | false => rfl
      | true => exact absurd z (h1.2.mpr (h2.mp hk))
    · intro z
      by_cases c : st u = 0
      · exact c
      · have := h2.mpr (h1.2.mp c)
        rw [z] at this; exact absurd this (by decide)
  refine ly_y38 (hW := hW) (hF := hF) (hL := hL) (hG := hG) (hb := hb) (hK := hK) 145 (fun _ => 0) 0 0 1 ytend yend yplace wi (by decide) ⟨fun _ _ => Or.inl rfl, fun _ _ z => absurd rfl z⟩ (by omega) (fun x hx => hwi x hx) (fun hf te e m r pl w2 => H4 hf te e m r pl st w2) (fun ht pl w2 hpl hw2 => ?_)
  obtain ⟨hv, hE⟩ := ly_R0_ok (kb := kb) (base := base) ht
  have hPF := ly_PF_R (kb := kb) (base := base) hW hF hg hE
  exact ⟨17, ly_y92 (hW := hW) (hF := hF) (hL := hL) (hG := hG) (H := fun sym hsym => ⟨257, ly_y142 (H := fun img himg => ⟨145, ly_y164 (hW := hW) (hF := hF) (hL := hL) (hG := hG) (hP := hpl) (hw := hw2) (hv := hv) (hPF := hPF) (img := img) (H := H0 ht pl sym _ st w2 hpl hsym (ly_im_ag (fun x hx => himg x hx) 144)) 144 0 (by omega)⟩) 256 0 yimg (by omega) (fun x hx => absurd hx (Nat.not_lt_zero x))⟩) 16 0 ysym (by omega) (fun q hq => absurd hq (Nat.not_lt_zero q))⟩
end
section
/-! link -/
theorem ly_GD_of {o a b cnt list : Nat → Int32} {g : Nat → Nat} {n : Nat} (hL : ly_LS o a cnt list g n) (hd : ly_ds o a b cnt g n = -1) (hu : ly_ud o a b cnt g n = -1) : ly_GD o a b cnt g n := by
  refine ⟨hL.1, fun i hi => ⟨(hL.2 i hi).1, (hL.2 i hi).2.2⟩, ?_, ?_⟩
  · rcases ly_fd_c (fun s => ly_sv o a b cnt g (nI s) n) 16 0 with ⟨_, h⟩ | ⟨j, _, j2, _, _, z⟩
    · exact fun s hs => h s (by omega) (by omega)
    · exact absurd (z.symm.trans hd) (ly_m1 (by omega))
  · rcases ly_fd_c (ly_ms o a b cnt g n) 16 0 with ⟨_, h⟩ | ⟨j, _, j2, _, _, z⟩
    · exact fun s hs => h s (by omega) (by omega)
    · exact absurd (z.symm.trans hu) (ly_m1 (by omega))
theorem ly_hU {o a b cnt loc glo wk us rp un : Nat → Int32} (hV : ly_SV o a b cnt loc glo wk us rp un 6) {g : Nat → Nat} {n t : Nat} (h : ly_th cnt g n t) : un t = nI (ly_un o a t) := by
  obtain ⟨h1, _, h3⟩ := h
  have := (hV (t / 24) (by omega)).2.2 (t % 24) h3
  rw [show 24 * (t / 24) + t % 24 = t by omega] at this
  exact this
/-- a link that failed: nothing is linked on either side -/
theorem ly_bad {k : Nat} {xbase xstrip xllen xtend xaend xlcnt xlrnd xblamed xouts xpc xsteps : Int32} {xops xA xB xcnt xrole xloc xglo xweak xuse xrep xunit xtgt xstay xlong xlist xchosen xplace ximg xreg xstore xout : Nat → Int32} {ymany ytend yend ymade yrounds yentry : Int32} {ylist yplace ysym yimg ystay ywide ymem yreg yout : Nat → Int32} (hW : ly_W xcnt) (hF : ly_F xops xA xB) (hb : ∃ b : Nat, b ≤ 100 ∧ xbase = nI b) (hr : ly_rn xouts xreg yreg xstore ymem xout yout) : i_Rel k (xbase, xstrip, xllen, xtend, xaend, xlcnt, xlrnd, 0, xblamed, xouts, xpc, xsteps, 0, xops, xA, xB, xcnt, xrole, xloc, xglo, xweak, xuse, xrep, xunit, xtgt, xstay, xlong, xlist, xchosen, xplace, ximg, xreg, xstore, xout) (xbase, xstrip, ymany, xblamed, ytend, yend, ymade, yrounds, yentry, 0, 0, xpc, xsteps, xouts, xops, xA, xB, xcnt, xrole, ylist, yplace, ysym, yimg, ystay, ywide, ymem, yreg, yout) :=
  ⟨_, _, _, _, _, _, _, _, _, _, _, _, _, _, _, _, _, _, _, _, _, _, _, _, _, _, _, _, _, _, _, _, _, _, _, _, _, _, _, _, _, _, _, _, _, _, _, _, _, rfl, rfl, hW, hF, hb, hr, fun h => absurd rfl h⟩
theorem ly_ylk {post : Int32 → SY → Prop} {ystrip ymany yculp ytend yend ymade yrounds yentry ylinked yran ypc ysteps youts : Int32} {yops yA yB ycnt yrole ylist yplace ysym yimg ystay ywide ymem yreg yout : Nat → Int32} (hW : ly_W ycnt) (hF : ly_F yops yA yB) {base : Nat} (hb : base ≤ 100) {g : Nat → Nat} {n : Nat} {f : Int32} (el : ly_ll yops yA yB ycnt yrole = (f, g, n)) {kb : Nat → Bool}
    (hkb : f = -1 → ly_ds yops yA yB ycnt g n = -1 → ly_ud yops yA yB ycnt g n = -1 → ∀ u, u < 12 → (kb u = true ↔ ly_KP yops yA yB ycnt g n ystrip u))
    (H1 : ¬ f = -1 → ∀ (ymany : Int32) (ylist : Nat → Int32), post 1 (nI base, ystrip, ymany, f, ytend, yend, ymade, yrounds, yentry, 0, 0, ypc, ysteps, youts, yops, yA, yB, ycnt, yrole, ylist, yplace, ysym, yimg, ystay, ywide, ymem, yreg, yout))
    (H2 : f = -1 → ¬ ly_ds yops yA yB ycnt g n = -1 → ∀ ylist : Nat → Int32, post 2 (nI base, ystrip, nI n, ly_ds yops yA yB ycnt g n, ytend, yend, ymade, yrounds, yentry, 0, 0, ypc, ysteps, youts, yops, yA, yB, ycnt, yrole, ylist, yplace, ysym, yimg, ystay, ywide, ymem, yreg, yout))
    (H3 : f = -1 → ly_ds yops yA yB ycnt g n = -1 → ¬ ly_ud yops yA yB ycnt g n = -1 → ∀ ylist : Nat → Int32, post 3 (nI base, ystrip, nI n, ly_ud yops yA yB ycnt g n, ytend, yend, ymade, yrounds, yentry, 0, 0, ypc, ysteps, youts, yops, yA, yB, ycnt, yrole, ylist, yplace, ysym, yimg, ystay, ywide, ymem, yreg, yout))
    (H4 : f = -1 → ly_ds yops yA yB ycnt g n = -1 → ly_ud yops yA yB ycnt g n = -1 → (ly_R0 yops yA yB ycnt kb g n base).1 = false → ∀ (ytend yend ymade yrounds : Int32) (ylist yplace ystay ywide : Nat → Int32), post 4 (nI base, ystrip, nI n, -1, ytend, yend, ymade, yrounds, yentry, 0, 0, ypc, ysteps, youts, yops, yA, yB, ycnt, yrole, ylist, yplace, ysym, yimg, ystay, ywide, ymem, yreg, yout))
    (H0 : f = -1 → ly_ds yops yA yB ycnt g n = -1 → ly_ud yops yA yB ycnt g n = -1 → (ly_R0 yops yA yB ycnt kb g n base).1 = true → ∀ (ylist yplace ysym yimg ystay ywide : Nat → Int32), ly_LS yops yA ycnt ylist g n → ly_AG 144 yplace (ly_Pw yops yA yB ycnt kb g n base (ly_R0 yops yA yB ycnt kb g n base).2.1) → (∀ s, s < 16 → ysym s = ly_sm yops yA yB ycnt g n yplace s) → ly_AG 256 yimg (ly_im yops yA yB (ly_Pw yops yA yB ycnt kb g n base (ly_R0 yops yA yB ycnt kb g n base).2.1) (ly_R0 yops yA yB ycnt kb g n base).2.1 (ly_tn yops yA yB ycnt g n) 144 (fun _ => 0)) → post 0 (nI base, ystrip, nI n, -1, nI (ly_Tw yops yA yB ycnt kb g n base (ly_R0 yops yA yB ycnt kb g n base).2.1), nI (ly_Ew yops yA yB ycnt kb g n base (ly_R0 yops yA yB ycnt kb g n base).2.1), nI (ly_R0 yops yA yB ycnt kb g n base).2.2.1, nI (ly_R0 yops yA yB ycnt kb g n base).2.2.2, ysym 0, 1, 0, ypc, ysteps, youts, yops, yA, yB, ycnt, yrole, ylist, yplace, ysym, yimg, ystay, ywide, ymem, yreg, yout)) : wpY_link post (nI base, ystrip, ymany, yculp, ytend, yend, ymade, yrounds, yentry, ylinked, yran, ypc, ysteps, youts, yops, yA, yB, ycnt, yrole, ylist, yplace, ysym, yimg, ystay, ywide, ymem, yreg, yout) := by
  refine ly_ylist (hW := hW) (hF := hF) (H1 := fun l li => ?_) (H2 := fun li => ?_)
  · rw [el]
    exact fun h => H1 h l li
  · rw [el]
    dsimp only
    intro hf hL hD
    refine ⟨17, ly_y162 (hW := hW) (hF := hF) (hL := hL) (H0 := fun P hP hv hds hud => ?_) (H3 := fun hds hud => H3 hf hds hud li) (H2 := fun hds => H2 hf hds li) 16 0 (by omega) rfl⟩
    have hG := ly_GD_of hL hds hud
    refine ly_yarr (hW := hW) (hF := hF) (hL := hL) (hG := hG) (hb := hb) (hkb := hkb hf hds hud) (H4 := fun h te e m r pl st w => ?_) (H0 := fun h pl sym img st w h1 h2 h3 => ?_)
    · exact hP _ _ _ _ _ _ _ _ _ _ _ _ _ _ _ _ _ _ _ _ _ _ _ _ _ _ _ _ _ (H4 hf hds hud h te e m r li pl st w)
    · exact hP _ _ _ _ _ _ _ _ _ _ _ _ _ _ _ _ _ _ _ _ _ _ _ _ _ _ _ _ _ (H0 hf hds hud h li pl sym img st w hL h1 h2 h3)
theorem ly_xlm2 {post : Int32 → SX → Prop} {xbase xstrip xtend xaend xlcnt xlrnd xlinked xblamed xouts xpc xsteps xran : Int32} {xops xA xB xcnt xrole xloc xglo xweak xuse xrep xunit xtgt xstay xlong xlist xchosen xplace ximg xreg xstore xout : Nat → Int32} (hV : ly_SV xops xA xB xcnt xloc xglo xweak xuse xrep xunit 6) {g : Nat → Nat} {n : Nat} {f : Int32} (el : ly_ll xops xA xB xcnt xrole = (f, g, n)) (H1 : ∀ (l : Int32) (li : Nat → Int32), ¬ f = -1 → post 1 (xbase, xstrip, l, xtend, xaend, xlcnt, xlrnd, xlinked, f, xouts, xpc, xsteps, xran, xops, xA, xB, xcnt, xrole, xloc, xglo, xweak, xuse, xrep, xunit, xtgt, xstay, xlong, li, xchosen, xplace, ximg, xreg, xstore, xout)) (H2 : ∀ li : Nat → Int32, f = -1 → ly_LS xops xA xcnt li g n → post 0 (xbase, xstrip, nI n, xtend, xaend, xlcnt, xlrnd, xlinked, xblamed, xouts, xpc, xsteps, xran, xops, xA, xB, xcnt, xrole, xloc, xglo, xweak, xuse, xrep, xunit, xtgt, xstay, xlong, li, xchosen, xplace, ximg, xreg, xstore, xout)) : wpX_listModules post (xbase, xstrip, 0, xtend, xaend, xlcnt, xlrnd, xlinked, xblamed, xouts, xpc, xsteps, xran, xops, xA, xB, xcnt, xrole, xloc, xglo, xweak, xuse, xrep, xunit, xtgt, xstay, xlong, xlist, xchosen, xplace, ximg, xreg, xstore, xout) :=
  ly_xlm (hV := hV) (H1 := by rw [el]; exact H1) (H2 := by rw [el]; exact H2)
theorem ly_xlk {post : Int32 → SX → Prop} {xstrip xllen xtend xaend xlcnt xlrnd xlinked xblamed xouts xpc xsteps xran : Int32} {xops xA xB xcnt xrole xloc xglo xweak xuse xrep xunit xtgt xstay xlong xlist xchosen xplace ximg xreg xstore xout : Nat → Int32} (hW : ly_W xcnt) (hF : ly_F xops xA xB) {base : Nat} (hb : base ≤ 100) {g : Nat → Nat} {n : Nat} {f : Int32} (el : ly_ll xops xA xB xcnt xrole = (f, g, n))
    (H1 : ¬ f = -1 → ∀ (xllen : Int32) (xloc xglo xweak xuse xrep xunit xtgt xstay xlong xlist xplace : Nat → Int32), post 1 (nI base, xstrip, xllen, xtend, xaend, 0, 0, 0, f, xouts, xpc, xsteps, 0, xops, xA, xB, xcnt, xrole, xloc, xglo, xweak, xuse, xrep, xunit, xtgt, xstay, xlong, xlist, xchosen, xplace, ximg, xreg, xstore, xout))
    (H2 : f = -1 → ¬ ly_ds xops xA xB xcnt g n = -1 → ∀ (xloc xglo xweak xuse xrep xunit xtgt xstay xlong xlist xplace : Nat → Int32), post 2 (nI base, xstrip, nI n, xtend, xaend, 0, 0, 0, ly_ds xops xA xB xcnt g n, xouts, xpc, xsteps, 0, xops, xA, xB, xcnt, xrole, xloc, xglo, xweak, xuse, xrep, xunit, xtgt, xstay, xlong, xlist, xchosen, xplace, ximg, xreg, xstore, xout))
    (H3 : f = -1 → ly_ds xops xA xB xcnt g n = -1 → ¬ ly_ud xops xA xB xcnt g n = -1 → ∀ (xloc xglo xweak xuse xrep xunit xtgt xstay xlong xlist xplace : Nat → Int32), post 3 (nI base, xstrip, nI n, xtend, xaend, 0, 0, 0, ly_ud xops xA xB xcnt g n, xouts, xpc, xsteps, 0, xops, xA, xB, xcnt, xrole, xloc, xglo, xweak, xuse, xrep, xunit, xtgt, xstay, xlong, xlist, xchosen, xplace, ximg, xreg, xstore, xout))
    (H4 : f = -1 → ly_ds xops xA xB xcnt g n = -1 → ly_ud xops xA xB xcnt g n = -1 → ∀ kb : Nat → Bool, (∀ u, u < 12 → (kb u = true ↔ ly_KP xops xA xB xcnt g n xstrip u)) → (ly_R0 xops xA xB xcnt kb g n base).1 = false → ∀ (xtend xaend xlcnt xlrnd : Int32) (xloc xglo xweak xuse xrep xunit xtgt xstay xlong xlist xchosen xplace : Nat → Int32), post 4 (nI base, xstrip, nI n, xtend, xaend, xlcnt, xlrnd, 0, -1, xouts, xpc, xsteps, 0, xops, xA, xB, xcnt, xrole, xloc, xglo, xweak, xuse, xrep, xunit, xtgt, xstay, xlong, xlist, xchosen, xplace, ximg, xreg, xstore, xout))
    (H0 : f = -1 → ly_ds xops xA xB xcnt g n = -1 → ly_ud xops xA xB xcnt g n = -1 → ∀ kb : Nat → Bool, (∀ u, u < 12 → (kb u = true ↔ ly_KP xops xA xB xcnt g n xstrip u)) → (ly_R0 xops xA xB xcnt kb g n base).1 = true → ∀ (xloc xglo xweak xuse xrep xunit xtgt xstay xlong xlist xchosen xplace ximg : Nat → Int32), ly_LS xops xA xcnt xlist g n → (∀ s, s < 16 → xchosen s = ly_co xops xA xB xcnt g n (nI s)) → ly_AG 144 xplace (ly_Pw xops xA xB xcnt kb g n base (ly_R0 xops xA xB xcnt kb g n base).2.1) → ly_AG 256 ximg (ly_im xops xA xB (ly_Pw xops xA xB xcnt kb g n base (ly_R0 xops xA xB xcnt kb g n base).2.1) (ly_R0 xops xA xB xcnt kb g n base).2.1 (ly_tn xops xA xB xcnt g n) 144 (fun _ => 0)) → post 0 (nI base, xstrip, nI n, nI (ly_Tw xops xA xB xcnt kb g n base (ly_R0 xops xA xB xcnt kb g n base).2.1), nI (ly_Ew xops xA xB xcnt kb g n base (ly_R0 xops xA xB xcnt kb g n base).2.1), nI (ly_R0 xops xA xB xcnt kb g n base).2.2.1, nI (ly_R0 xops xA xB xcnt kb g n base).2.2.2, 1, -1, xouts, xpc, xsteps, 0, xops, xA, xB, xcnt, xrole, xloc, xglo, xweak, xuse, xrep, xunit, xtgt, xstay, xlong, xlist, xchosen, xplace, ximg, xreg, xstore, xout)) : wpX_link post (nI base, xstrip, xllen, xtend, xaend, xlcnt, xlrnd, xlinked, xblamed, xouts, xpc, xsteps, xran, xops, xA, xB, xcnt, xrole, xloc, xglo, xweak, xuse, xrep, xunit, xtgt, xstay, xlong, xlist, xchosen, xplace, ximg, xreg, xstore, xout) := by
  unfold wpX_link
  dsimp only
  refine ly_forget (H := fun pl tg lo st h144 h12 => ly_survey (hW := hW) (hF := hF) (H := fun loc glo wk us rp un hV => ly_xlm2 (hV := hV) (el := el) (H1 := fun l li hf => ?_) (H2 := fun li hf hL => ?_)))
  · exact br_f (by decide) (br_f (by decide) (br_f (by decide) (H1 hf _ _ _ _ _ _ _ _ _ _ _ _)))
  · refine br_t rfl (ly_xck (hW := hW) (hF := hF) (hV := hV) (hL := hL) (H2 := fun hds => ?_) (H3 := fun hds hud => ?_) (H0 := fun hds hud => ?_))
    · exact br_f (by decide) (br_f (by decide) (H2 hf hds _ _ _ _ _ _ _ _ _ _ _))
    · exact br_f (by decide) (br_f (by decide) (H3 hf hds hud _ _ _ _ _ _ _ _ _ _ _))
    · have hG := ly_GD_of hL hds hud
      have hg : ∀ j, j < n → g j < 6 := fun j hj => (hL.2 j hj).1
      refine br_t rfl (ly_xch (hW := hW) (hL := hL) (H := fun ch hch => ly_xtg (hW := hW) (hF := hF) (hL := hL) (hch := hch) (ht0 := fun x hx => (h144 x hx).2.1) (H := fun tgt hT => ly_xku (hW := hW) (hF := hF) (hL := hL) (hG := hG) (hch := hch) (hT := hT) (hU := fun t ht => ly_hU hV ht) (h0 := h12) (H := fun stay hKS => ⟨146, ?_⟩))))
      have hkb : ∀ u, u < 12 → (ly_SS stay u = true ↔ ly_KP xops xA xB xcnt g n xstrip u) := fun u hu => by
        unfold ly_SS
        rw [decide_eq_true_eq]; exact (hKS u hu).2
      refine ly_xrx (hW := hW) (hF := hF) (hL := hL) (hG := hG) (hb := hb) (hT := hT) (hU := fun t ht => ly_hU hV ht) (kb := ly_SS stay) (hK := fun u hu => ?_) 145 0 (fun _ => 0) 0 0 xtend xaend pl lo (by omega) ⟨fun _ _ => Or.inl rfl, fun _ _ z => absurd rfl z⟩ (by omega) (fun x hx => (h144 x hx).2.2) (fun x hx _ => (h144 x hx).1) (fun hR te ae lc lr pl2 lo2 => ?_) (fun hR pl2 lo2 hpl hlo => ?_)
      · unfold ly_SS
        rw [decide_eq_false_iff_not]
        exact ⟨fun z y => y z, fun z => Decidable.not_not.mp z⟩
      · exact br_f (by decide) (H4 hf hds hud (ly_SS stay) hkb hR _ _ _ _ _ _ _ _ _ _ _ _ _ _ _ _)
      · have hR' : (ly_R0 xops xA xB xcnt (ly_SS stay) g n base).1 = true := hR
        have ok := ly_R0_ok (o := xops) (a := xA) (b := xB) (cnt := xcnt) (kb := ly_SS stay) (g := g) (n := n) (base := base) hR'
        have hpl' : ly_AG 144 pl2 (ly_Pw xops xA xB xcnt (ly_SS stay) g n base (ly_R0 xops xA xB xcnt (ly_SS stay) g n base).2.1) := hpl
        have hlo' : ly_AG 144 lo2 (ly_R0 xops xA xB xcnt (ly_SS stay) g n base).2.1 := hlo
        have hPF := ly_PF_R (o := xops) (a := xA) (b := xB) (cnt := xcnt) (kb := ly_SS stay) (g := g) (n := n) (base := base) hW hF hg ok.2
        have fin := fun img himg => H0 hf hds hud (ly_SS stay) hkb hR' loc glo wk us rp un tgt stay lo2 li ch pl2 img hL hch hpl' himg
        exact br_t rfl (ly_xfill (hW := hW) (hF := hF) (hG := hG) (hT := hT) (hP := hpl') (hw := hlo') (hv := ok.1) (hPF := hPF) (H := fin))
theorem i_vc_link {k : Nat} {u : SX} {v : SY} (I : i_Rel k u v) (hk : k + 5 ≤ 2560) : wpX_link (fun r u' => wpY_link (fun r' v' => r' = r ∧ i_Rel (k + 5) u' v') v) u := by
  obtain ⟨xbase, xstrip, xllen, xtend, xaend, xlcnt, xlrnd, xlinked, xblamed, xouts, xpc, xsteps, xran, xops, xA, xB, xcnt, xrole, xloc, xglo, xweak, xuse, xrep, xunit, xtgt, xstay, xlong, xlist, xchosen, xplace, ximg, xreg, xstore, xout, ymany, ytend, yend, ymade, yrounds, yentry, ylist, yplace, ysym, yimg, ystay, ywide, ymem, yreg, yout, rfl, rfl, hW, hF, ⟨base, hb, rfl⟩, hr, hl⟩ := I
  have hb' : ∃ b : Nat, b ≤ 100 ∧ nI base = nI b := ⟨base, hb, rfl⟩
  obtain ⟨f, g, n, el⟩ : ∃ f g n, ly_ll xops xA xB xcnt xrole = (f, g, n) := ⟨_, _, _, rfl⟩
  refine ly_xlk (hW := hW) (hF := hF) (hb := hb) (el := el) (H1 := fun hf xllen xloc xglo xweak xuse xrep xunit xtgt xstay xlong xlist xplace => ?_) (H2 := fun hf hds xloc xglo xweak xuse xrep xunit xtgt xstay xlong xlist xplace => ?_) (H3 := fun hf hds hud xloc xglo xweak xuse xrep xunit xtgt xstay xlong xlist xplace => ?_) (H4 := fun hf hds hud kb hkb hR xtend xaend xlcnt xlrnd xloc xglo xweak xuse xrep xunit xtgt xstay xlong xlist xchosen xplace => ?_) (H0 := fun hf hds hud kb hkb hR xloc xglo xweak xuse xrep xunit xtgt xstay xlong xlist xchosen xplace ximg hL hch hpl himg => ?_)
  · exact ly_ylk (hW := hW) (hF := hF) (hb := hb) (el := el) (kb := fun _ => true) (hkb := fun h => absurd h hf) (H1 := fun _ ymany ylist => ⟨rfl, ly_bad (hW := hW) (hF := hF) (hb := hb') (hr := hr)⟩) (H2 := fun h => absurd h hf) (H3 := fun h => absurd h hf) (H4 := fun h => absurd h hf) (H0 := fun h => absurd h hf)
  · exact ly_ylk (hW := hW) (hF := hF) (hb := hb) (el := el) (kb := fun _ => true) (hkb := fun _ h => absurd h hds) (H1 := fun h => absurd hf h) (H2 := fun _ _ ylist => ⟨rfl, ly_bad (hW := hW) (hF := hF) (hb := hb') (hr := hr)⟩) (H3 := fun _ h => absurd h hds) (H4 := fun _ h => absurd h hds) (H0 := fun _ h => absurd h hds)
  · exact ly_ylk (hW := hW) (hF := hF) (hb := hb) (el := el) (kb := fun _ => true) (hkb := fun _ _ h => absurd h hud) (H1 := fun h => absurd hf h) (H2 := fun _ h => absurd hds h) (H3 := fun _ _ _ ylist => ⟨rfl, ly_bad (hW := hW) (hF := hF) (hb := hb') (hr := hr)⟩) (H4 := fun _ _ h => absurd h hud) (H0 := fun _ _ h => absurd h hud)
  · exact ly_ylk (hW := hW) (hF := hF) (hb := hb) (el := el) (kb := kb) (hkb := fun _ _ _ => hkb) (H1 := fun h => absurd hf h) (H2 := fun _ h => absurd hds h) (H3 := fun _ _ h => absurd hud h) (H4 := fun _ _ _ _ ytend yend ymade yrounds ylist yplace ystay ywide => ⟨rfl, ly_bad (hW := hW) (hF := hF) (hb := hb') (hr := hr)⟩) (H0 := fun _ _ _ h => absurd (h.symm.trans hR) (by decide))
  · have hg : ∀ j, j < n → g j < 6 := fun j hj => (hL.2 j hj).1
    have hG := ly_GD_of hL hds hud
    refine ly_ylk (hW := hW) (hF := hF) (hb := hb) (el := el) (kb := kb) (hkb := fun _ _ _ => hkb) (H1 := fun h => absurd hf h) (H2 := fun _ h => absurd hds h) (H3 := fun _ _ h => absurd hud h) (H4 := fun _ _ _ h => absurd (h.symm.trans hR) (by decide)) (H0 := fun _ _ _ _ ylist yplace ysym yimg ystay ywide hLy hply hsym himgy => ⟨rfl, ?_⟩)
    refine ⟨_, _, _, _, _, _, _, _, _, _, _, _, _, _, _, _, _, _, _, _, _, _, _, _, _, _, _, _, _, _, _, _, _, _, _, _, _, _, _, _, _, _, _, _, _, _, _, _, _, rfl, rfl, hW, hF, hb', hr, fun _ => ⟨n, hL.1, rfl, rfl, fun i hi => ?_, rfl, rfl, rfl, rfl, fun i hi => ?_, fun i hi => ?_, rfl, fun s hs => ?_⟩⟩
    · rw [(hL.2 i hi).2.1, (hLy.2 i hi).2.1]
    · rw [hply i hi]; exact hpl i hi
    · rw [himgy i hi]; exact himg i hi
    · rw [hch s hs, hsym s hs]
      unfold ly_sm
      rcases ly_co_c (o := xops) (a := xA) (b := xB) hW hg (nI s) with z | ⟨j, q, _, _, _, hq, z⟩
      · refine Or.inl ⟨z, if_pos z, fun e => ?_⟩
        subst e
        have hen := (ly_en_t hW hG).2
        have z' : ly_co xops xA xB xcnt g n 0 = -1 := z
        rw [z'] at hen
        have ht := (ly_en_t (a := xA) (b := xB) hW hG).1.1
        exact absurd hen.symm (ly_m1 (by omega))
      · rw [z]
        exact Or.inr ⟨q, hq, rfl, by rw [if_neg (ly_m1 (by omega)), nI_clamp (by omega)]⟩
end

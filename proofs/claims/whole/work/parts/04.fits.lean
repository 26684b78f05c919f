/-! item's ranges: X's switch and Y's tests -/
def ly_ok (op : Nat) (a b : Int) : Prop :=
  (op = 0 → 0 ≤ a ∧ a ≤ 15 ∧ 0 ≤ b ∧ b ≤ 2) ∧ ((op = 1 ∨ op = 13) → 0 ≤ a ∧ a ≤ 7) ∧ ((2 ≤ op ∧ op ≤ 7) → 0 ≤ a ∧ a ≤ 7 ∧ 0 ≤ b ∧ b ≤ 7) ∧
  ((op = 8 ∨ op = 10) → 0 ≤ b ∧ b ≤ 15) ∧ ((op = 9 ∨ op = 12) → 0 ≤ a ∧ a ≤ 7 ∧ 0 ≤ b ∧ b ≤ 15) ∧ (op = 16 → 0 ≤ a ∧ a ≤ 15 ∧ -64 ≤ b ∧ b ≤ 64) ∧
  (op = 17 → 0 ≤ a ∧ a ≤ 16) ∧ (op = 18 → 2 ≤ a ∧ a ≤ 8) ∧ (op = 19 → 0 ≤ a ∧ a ≤ 1)
theorem ly_toIn {x : Int32} {a b : Nat} (hb : b < 2 ^ 31) (h1 : (a : Int) ≤ x.toInt) (h2 : x.toInt ≤ b) : ly_in x a b := by
  obtain ⟨j, hj, rfl⟩ : ∃ j : Nat, j < 2 ^ 31 ∧ x = nI j := by
    apply nI_of
    rw [Int32.lt_iff_toInt_lt, ly_t0]
    omega
  rw [nI_toInt hj] at h1 h2
  exact ⟨j, by omega, by omega, rfl⟩
theorem ly_ok_ft {op : Nat} {a b : Int32} (hop : op ≤ 19) (h : ly_ok op a.toInt b.toInt) : ly_ft (nI op) a b := by
  obtain ⟨h0, h1, h2, h3, h4, h5, h6, h7, h8⟩ := h
  refine ⟨op, hop, rfl, fun e => ?_, fun e => ?_, fun e => ?_, fun e => ?_, fun e => ?_, fun e => ?_⟩
  · have := h0 e; exact ⟨ly_toIn (by omega) (by omega) (by omega), ly_toIn (by omega) (by omega) (by omega)⟩
  · have := h5 e; exact ly_toIn (by omega) (by omega) (by omega)
  · have := h6 e; exact ly_toIn (by omega) (by omega) (by omega)
  · have := h7 e; exact ly_toIn (by omega) (by omega) (by omega)
  · have := h8 e; exact ly_toIn (by omega) (by omega) (by omega)
  · have : 0 ≤ b.toInt ∧ b.toInt ≤ 15 := by
      rcases e with e | e | e | e
      · exact h3 (Or.inl e)
      · exact (h4 (Or.inl e)).2.2
      · exact h3 (Or.inr e)
      · exact (h4 (Or.inr e)).2.2
    exact ly_toIn (by omega) (by omega) (by omega)
theorem ly_xf0 {post : Int32 → Prop} {a b : Int32} (hp : ∀ r : Int32, (r = 0 ∨ r = 1) → (r = 1 ↔ ly_ok 0 a.toInt b.toInt) → post r) : wpX_operandsFit post (nI 0) a b := by
  unfold wpX_operandsFit
  iterate 25 (first | refine br_t (by decide) ?_ | refine br_f (by decide) ?_ | skip)
  try simp only [wpX_isSymbol]
  repeat' (first | refine br_t (by decide) ?_ | refine br_f (by decide) ?_ | apply And.intro | intro _)
  all_goals first
    | decide
    | (exfalso; exact (by assumption : ¬ True) trivial)
    | (refine hp 0 (Or.inl rfl) (iff_of_false (by decide) (fun hh => ?_)); clear hp; simp only [ly_ok, Int32.lt_iff_toInt_lt, Int32.le_iff_toInt_le, ← Int32.toInt_inj, true_imp_iff, true_or, or_true, ly_t0, ly_t1, ly_t2, ly_t7, ly_t8, ly_t15, ly_t16, ly_t64, ly_tm64] at * <;> omega)
    | (refine hp 1 (Or.inr rfl) (iff_of_true rfl ?_); clear hp; simp only [ly_ok, Int32.lt_iff_toInt_lt, Int32.le_iff_toInt_le, ← Int32.toInt_inj, true_imp_iff, true_or, or_true, ly_t0, ly_t1, ly_t2, ly_t7, ly_t8, ly_t15, ly_t16, ly_t64, ly_tm64] at * <;> omega)
    | (exfalso; clear hp; simp only [ly_ok, Int32.lt_iff_toInt_lt, Int32.le_iff_toInt_le, ← Int32.toInt_inj, true_imp_iff, true_or, or_true, ly_t0, ly_t1, ly_t2, ly_t7, ly_t8, ly_t15, ly_t16, ly_t64, ly_tm64] at * <;> omega)

theorem ly_xf1 {post : Int32 → Prop} {a b : Int32} (hp : ∀ r : Int32, (r = 0 ∨ r = 1) → (r = 1 ↔ ly_ok 1 a.toInt b.toInt) → post r) : wpX_operandsFit post (nI 1) a b := by
  unfold wpX_operandsFit
  iterate 25 (first | refine br_t (by decide) ?_ | refine br_f (by decide) ?_ | skip)
  try simp only [wX_operandsFit_118, wpX_isRegister]
  repeat' (first | refine br_t (by decide) ?_ | refine br_f (by decide) ?_ | apply And.intro | intro _)
  all_goals first
    | decide
    | (exfalso; exact (by assumption : ¬ True) trivial)
    | (refine hp 0 (Or.inl rfl) (iff_of_false (by decide) (fun hh => ?_)); clear hp; simp only [ly_ok, Int32.lt_iff_toInt_lt, Int32.le_iff_toInt_le, ← Int32.toInt_inj, true_imp_iff, true_or, or_true, ly_t0, ly_t1, ly_t2, ly_t7, ly_t8, ly_t15, ly_t16, ly_t64, ly_tm64] at * <;> omega)
    | (refine hp 1 (Or.inr rfl) (iff_of_true rfl ?_); clear hp; simp only [ly_ok, Int32.lt_iff_toInt_lt, Int32.le_iff_toInt_le, ← Int32.toInt_inj, true_imp_iff, true_or, or_true, ly_t0, ly_t1, ly_t2, ly_t7, ly_t8, ly_t15, ly_t16, ly_t64, ly_tm64] at * <;> omega)
    | (exfalso; clear hp; simp only [ly_ok, Int32.lt_iff_toInt_lt, Int32.le_iff_toInt_le, ← Int32.toInt_inj, true_imp_iff, true_or, or_true, ly_t0, ly_t1, ly_t2, ly_t7, ly_t8, ly_t15, ly_t16, ly_t64, ly_tm64] at * <;> omega)

theorem ly_xf2 {post : Int32 → Prop} {a b : Int32} (hp : ∀ r : Int32, (r = 0 ∨ r = 1) → (r = 1 ↔ ly_ok 2 a.toInt b.toInt) → post r) : wpX_operandsFit post (nI 2) a b := by
  unfold wpX_operandsFit
  iterate 25 (first | refine br_t (by decide) ?_ | refine br_f (by decide) ?_ | skip)
  try simp only [wX_operandsFit_123, wpX_isRegister]
  repeat' (first | refine br_t (by decide) ?_ | refine br_f (by decide) ?_ | apply And.intro | intro _)
  all_goals first
    | decide
    | (exfalso; exact (by assumption : ¬ True) trivial)
    | (refine hp 0 (Or.inl rfl) (iff_of_false (by decide) (fun hh => ?_)); clear hp; simp only [ly_ok, Int32.lt_iff_toInt_lt, Int32.le_iff_toInt_le, ← Int32.toInt_inj, true_imp_iff, true_or, or_true, ly_t0, ly_t1, ly_t2, ly_t7, ly_t8, ly_t15, ly_t16, ly_t64, ly_tm64] at * <;> omega)
    | (refine hp 1 (Or.inr rfl) (iff_of_true rfl ?_); clear hp; simp only [ly_ok, Int32.lt_iff_toInt_lt, Int32.le_iff_toInt_le, ← Int32.toInt_inj, true_imp_iff, true_or, or_true, ly_t0, ly_t1, ly_t2, ly_t7, ly_t8, ly_t15, ly_t16, ly_t64, ly_tm64] at * <;> omega)
    | (exfalso; clear hp; simp only [ly_ok, Int32.lt_iff_toInt_lt, Int32.le_iff_toInt_le, ← Int32.toInt_inj, true_imp_iff, true_or, or_true, ly_t0, ly_t1, ly_t2, ly_t7, ly_t8, ly_t15, ly_t16, ly_t64, ly_tm64] at * <;> omega)

theorem ly_xf3 {post : Int32 → Prop} {a b : Int32} (hp : ∀ r : Int32, (r = 0 ∨ r = 1) → (r = 1 ↔ ly_ok 3 a.toInt b.toInt) → post r) : wpX_operandsFit post (nI 3) a b := by
  unfold wpX_operandsFit
  iterate 25 (first | refine br_t (by decide) ?_ | refine br_f (by decide) ?_ | skip)
  try simp only [wX_operandsFit_123, wpX_isRegister]
  repeat' (first | refine br_t (by decide) ?_ | refine br_f (by decide) ?_ | apply And.intro | intro _)
  all_goals first
    | decide
    | (exfalso; exact (by assumption : ¬ True) trivial)
    | (refine hp 0 (Or.inl rfl) (iff_of_false (by decide) (fun hh => ?_)); clear hp; simp only [ly_ok, Int32.lt_iff_toInt_lt, Int32.le_iff_toInt_le, ← Int32.toInt_inj, true_imp_iff, true_or, or_true, ly_t0, ly_t1, ly_t2, ly_t7, ly_t8, ly_t15, ly_t16, ly_t64, ly_tm64] at * <;> omega)
    | (refine hp 1 (Or.inr rfl) (iff_of_true rfl ?_); clear hp; simp only [ly_ok, Int32.lt_iff_toInt_lt, Int32.le_iff_toInt_le, ← Int32.toInt_inj, true_imp_iff, true_or, or_true, ly_t0, ly_t1, ly_t2, ly_t7, ly_t8, ly_t15, ly_t16, ly_t64, ly_tm64] at * <;> omega)
    | (exfalso; clear hp; simp only [ly_ok, Int32.lt_iff_toInt_lt, Int32.le_iff_toInt_le, ← Int32.toInt_inj, true_imp_iff, true_or, or_true, ly_t0, ly_t1, ly_t2, ly_t7, ly_t8, ly_t15, ly_t16, ly_t64, ly_tm64] at * <;> omega)

theorem ly_xf4 {post : Int32 → Prop} {a b : Int32} (hp : ∀ r : Int32, (r = 0 ∨ r = 1) → (r = 1 ↔ ly_ok 4 a.toInt b.toInt) → post r) : wpX_operandsFit post (nI 4) a b := by
  unfold wpX_operandsFit
  iterate 25 (first | refine br_t (by decide) ?_ | refine br_f (by decide) ?_ | skip)
  try simp only [wX_operandsFit_123, wpX_isRegister]
  repeat' (first | refine br_t (by decide) ?_ | refine br_f (by decide) ?_ | apply And.intro | intro _)
  all_goals first
    | decide
    | (exfalso; exact (by assumption : ¬ True) trivial)
    | (refine hp 0 (Or.inl rfl) (iff_of_false (by decide) (fun hh => ?_)); clear hp; simp only [ly_ok, Int32.lt_iff_toInt_lt, Int32.le_iff_toInt_le, ← Int32.toInt_inj, true_imp_iff, true_or, or_true, ly_t0, ly_t1, ly_t2, ly_t7, ly_t8, ly_t15, ly_t16, ly_t64, ly_tm64] at * <;> omega)
    | (refine hp 1 (Or.inr rfl) (iff_of_true rfl ?_); clear hp; simp only [ly_ok, Int32.lt_iff_toInt_lt, Int32.le_iff_toInt_le, ← Int32.toInt_inj, true_imp_iff, true_or, or_true, ly_t0, ly_t1, ly_t2, ly_t7, ly_t8, ly_t15, ly_t16, ly_t64, ly_tm64] at * <;> omega)
    | (exfalso; clear hp; simp only [ly_ok, Int32.lt_iff_toInt_lt, Int32.le_iff_toInt_le, ← Int32.toInt_inj, true_imp_iff, true_or, or_true, ly_t0, ly_t1, ly_t2, ly_t7, ly_t8, ly_t15, ly_t16, ly_t64, ly_tm64] at * <;> omega)

theorem ly_xf5 {post : Int32 → Prop} {a b : Int32} (hp : ∀ r : Int32, (r = 0 ∨ r = 1) → (r = 1 ↔ ly_ok 5 a.toInt b.toInt) → post r) : wpX_operandsFit post (nI 5) a b := by
  unfold wpX_operandsFit
  iterate 25 (first | refine br_t (by decide) ?_ | refine br_f (by decide) ?_ | skip)
  try simp only [wX_operandsFit_123, wpX_isRegister]
  repeat' (first | refine br_t (by decide) ?_ | refine br_f (by decide) ?_ | apply And.intro | intro _)
  all_goals first
    | decide
    | (exfalso; exact (by assumption : ¬ True) trivial)
    | (refine hp 0 (Or.inl rfl) (iff_of_false (by decide) (fun hh => ?_)); clear hp; simp only [ly_ok, Int32.lt_iff_toInt_lt, Int32.le_iff_toInt_le, ← Int32.toInt_inj, true_imp_iff, true_or, or_true, ly_t0, ly_t1, ly_t2, ly_t7, ly_t8, ly_t15, ly_t16, ly_t64, ly_tm64] at * <;> omega)
    | (refine hp 1 (Or.inr rfl) (iff_of_true rfl ?_); clear hp; simp only [ly_ok, Int32.lt_iff_toInt_lt, Int32.le_iff_toInt_le, ← Int32.toInt_inj, true_imp_iff, true_or, or_true, ly_t0, ly_t1, ly_t2, ly_t7, ly_t8, ly_t15, ly_t16, ly_t64, ly_tm64] at * <;> omega)
    | (exfalso; clear hp; simp only [ly_ok, Int32.lt_iff_toInt_lt, Int32.le_iff_toInt_le, ← Int32.toInt_inj, true_imp_iff, true_or, or_true, ly_t0, ly_t1, ly_t2, ly_t7, ly_t8, ly_t15, ly_t16, ly_t64, ly_tm64] at * <;> omega)

theorem ly_xf6 {post : Int32 → Prop} {a b : Int32} (hp : ∀ r : Int32, (r = 0 ∨ r = 1) → (r = 1 ↔ ly_ok 6 a.toInt b.toInt) → post r) : wpX_operandsFit post (nI 6) a b := by
  unfold wpX_operandsFit
  iterate 25 (first | refine br_t (by decide) ?_ | refine br_f (by decide) ?_ | skip)
  try simp only [wX_operandsFit_123, wpX_isRegister]
  repeat' (first | refine br_t (by decide) ?_ | refine br_f (by decide) ?_ | apply And.intro | intro _)
  all_goals first
    | decide
    | (exfalso; exact (by assumption : ¬ True) trivial)
    | (refine hp 0 (Or.inl rfl) (iff_of_false (by decide) (fun hh => ?_)); clear hp; simp only [ly_ok, Int32.lt_iff_toInt_lt, Int32.le_iff_toInt_le, ← Int32.toInt_inj, true_imp_iff, true_or, or_true, ly_t0, ly_t1, ly_t2, ly_t7, ly_t8, ly_t15, ly_t16, ly_t64, ly_tm64] at * <;> omega)
    | (refine hp 1 (Or.inr rfl) (iff_of_true rfl ?_); clear hp; simp only [ly_ok, Int32.lt_iff_toInt_lt, Int32.le_iff_toInt_le, ← Int32.toInt_inj, true_imp_iff, true_or, or_true, ly_t0, ly_t1, ly_t2, ly_t7, ly_t8, ly_t15, ly_t16, ly_t64, ly_tm64] at * <;> omega)
    | (exfalso; clear hp; simp only [ly_ok, Int32.lt_iff_toInt_lt, Int32.le_iff_toInt_le, ← Int32.toInt_inj, true_imp_iff, true_or, or_true, ly_t0, ly_t1, ly_t2, ly_t7, ly_t8, ly_t15, ly_t16, ly_t64, ly_tm64] at * <;> omega)

theorem ly_xf7 {post : Int32 → Prop} {a b : Int32} (hp : ∀ r : Int32, (r = 0 ∨ r = 1) → (r = 1 ↔ ly_ok 7 a.toInt b.toInt) → post r) : wpX_operandsFit post (nI 7) a b := by
  unfold wpX_operandsFit
  iterate 25 (first | refine br_t (by decide) ?_ | refine br_f (by decide) ?_ | skip)
  try simp only [wX_operandsFit_123, wpX_isRegister]
  repeat' (first | refine br_t (by decide) ?_ | refine br_f (by decide) ?_ | apply And.intro | intro _)
  all_goals first
    | decide
    | (exfalso; exact (by assumption : ¬ True) trivial)
    | (refine hp 0 (Or.inl rfl) (iff_of_false (by decide) (fun hh => ?_)); clear hp; simp only [ly_ok, Int32.lt_iff_toInt_lt, Int32.le_iff_toInt_le, ← Int32.toInt_inj, true_imp_iff, true_or, or_true, ly_t0, ly_t1, ly_t2, ly_t7, ly_t8, ly_t15, ly_t16, ly_t64, ly_tm64] at * <;> omega)
    | (refine hp 1 (Or.inr rfl) (iff_of_true rfl ?_); clear hp; simp only [ly_ok, Int32.lt_iff_toInt_lt, Int32.le_iff_toInt_le, ← Int32.toInt_inj, true_imp_iff, true_or, or_true, ly_t0, ly_t1, ly_t2, ly_t7, ly_t8, ly_t15, ly_t16, ly_t64, ly_tm64] at * <;> omega)
    | (exfalso; clear hp; simp only [ly_ok, Int32.lt_iff_toInt_lt, Int32.le_iff_toInt_le, ← Int32.toInt_inj, true_imp_iff, true_or, or_true, ly_t0, ly_t1, ly_t2, ly_t7, ly_t8, ly_t15, ly_t16, ly_t64, ly_tm64] at * <;> omega)

theorem ly_xf8 {post : Int32 → Prop} {a b : Int32} (hp : ∀ r : Int32, (r = 0 ∨ r = 1) → (r = 1 ↔ ly_ok 8 a.toInt b.toInt) → post r) : wpX_operandsFit post (nI 8) a b := by
  unfold wpX_operandsFit
  iterate 25 (first | refine br_t (by decide) ?_ | refine br_f (by decide) ?_ | skip)
  try simp only [wX_operandsFit_143, wpX_isSymbol]
  repeat' (first | refine br_t (by decide) ?_ | refine br_f (by decide) ?_ | apply And.intro | intro _)
  all_goals first
    | decide
    | (exfalso; exact (by assumption : ¬ True) trivial)
    | (refine hp 0 (Or.inl rfl) (iff_of_false (by decide) (fun hh => ?_)); clear hp; simp only [ly_ok, Int32.lt_iff_toInt_lt, Int32.le_iff_toInt_le, ← Int32.toInt_inj, true_imp_iff, true_or, or_true, ly_t0, ly_t1, ly_t2, ly_t7, ly_t8, ly_t15, ly_t16, ly_t64, ly_tm64] at * <;> omega)
    | (refine hp 1 (Or.inr rfl) (iff_of_true rfl ?_); clear hp; simp only [ly_ok, Int32.lt_iff_toInt_lt, Int32.le_iff_toInt_le, ← Int32.toInt_inj, true_imp_iff, true_or, or_true, ly_t0, ly_t1, ly_t2, ly_t7, ly_t8, ly_t15, ly_t16, ly_t64, ly_tm64] at * <;> omega)
    | (exfalso; clear hp; simp only [ly_ok, Int32.lt_iff_toInt_lt, Int32.le_iff_toInt_le, ← Int32.toInt_inj, true_imp_iff, true_or, or_true, ly_t0, ly_t1, ly_t2, ly_t7, ly_t8, ly_t15, ly_t16, ly_t64, ly_tm64] at * <;> omega)

theorem ly_xf9 {post : Int32 → Prop} {a b : Int32} (hp : ∀ r : Int32, (r = 0 ∨ r = 1) → (r = 1 ↔ ly_ok 9 a.toInt b.toInt) → post r) : wpX_operandsFit post (nI 9) a b := by
  unfold wpX_operandsFit
  iterate 25 (first | refine br_t (by decide) ?_ | refine br_f (by decide) ?_ | skip)
  try simp only [wX_operandsFit_148, wpX_isRegister, wpX_isSymbol]
  repeat' (first | refine br_t (by decide) ?_ | refine br_f (by decide) ?_ | apply And.intro | intro _)
  all_goals first
    | decide
    | (exfalso; exact (by assumption : ¬ True) trivial)
    | (refine hp 0 (Or.inl rfl) (iff_of_false (by decide) (fun hh => ?_)); clear hp; simp only [ly_ok, Int32.lt_iff_toInt_lt, Int32.le_iff_toInt_le, ← Int32.toInt_inj, true_imp_iff, true_or, or_true, ly_t0, ly_t1, ly_t2, ly_t7, ly_t8, ly_t15, ly_t16, ly_t64, ly_tm64] at * <;> omega)
    | (refine hp 1 (Or.inr rfl) (iff_of_true rfl ?_); clear hp; simp only [ly_ok, Int32.lt_iff_toInt_lt, Int32.le_iff_toInt_le, ← Int32.toInt_inj, true_imp_iff, true_or, or_true, ly_t0, ly_t1, ly_t2, ly_t7, ly_t8, ly_t15, ly_t16, ly_t64, ly_tm64] at * <;> omega)
    | (exfalso; clear hp; simp only [ly_ok, Int32.lt_iff_toInt_lt, Int32.le_iff_toInt_le, ← Int32.toInt_inj, true_imp_iff, true_or, or_true, ly_t0, ly_t1, ly_t2, ly_t7, ly_t8, ly_t15, ly_t16, ly_t64, ly_tm64] at * <;> omega)

theorem ly_xf10 {post : Int32 → Prop} {a b : Int32} (hp : ∀ r : Int32, (r = 0 ∨ r = 1) → (r = 1 ↔ ly_ok 10 a.toInt b.toInt) → post r) : wpX_operandsFit post (nI 10) a b := by
  unfold wpX_operandsFit
  iterate 25 (first | refine br_t (by decide) ?_ | refine br_f (by decide) ?_ | skip)
  try simp only [wX_operandsFit_143, wpX_isSymbol]
  repeat' (first | refine br_t (by decide) ?_ | refine br_f (by decide) ?_ | apply And.intro | intro _)
  all_goals first
    | decide
    | (exfalso; exact (by assumption : ¬ True) trivial)
    | (refine hp 0 (Or.inl rfl) (iff_of_false (by decide) (fun hh => ?_)); clear hp; simp only [ly_ok, Int32.lt_iff_toInt_lt, Int32.le_iff_toInt_le, ← Int32.toInt_inj, true_imp_iff, true_or, or_true, ly_t0, ly_t1, ly_t2, ly_t7, ly_t8, ly_t15, ly_t16, ly_t64, ly_tm64] at * <;> omega)
    | (refine hp 1 (Or.inr rfl) (iff_of_true rfl ?_); clear hp; simp only [ly_ok, Int32.lt_iff_toInt_lt, Int32.le_iff_toInt_le, ← Int32.toInt_inj, true_imp_iff, true_or, or_true, ly_t0, ly_t1, ly_t2, ly_t7, ly_t8, ly_t15, ly_t16, ly_t64, ly_tm64] at * <;> omega)
    | (exfalso; clear hp; simp only [ly_ok, Int32.lt_iff_toInt_lt, Int32.le_iff_toInt_le, ← Int32.toInt_inj, true_imp_iff, true_or, or_true, ly_t0, ly_t1, ly_t2, ly_t7, ly_t8, ly_t15, ly_t16, ly_t64, ly_tm64] at * <;> omega)

theorem ly_xf11 {post : Int32 → Prop} {a b : Int32} (hp : ∀ r : Int32, (r = 0 ∨ r = 1) → (r = 1 ↔ ly_ok 11 a.toInt b.toInt) → post r) : wpX_operandsFit post (nI 11) a b := by
  unfold wpX_operandsFit
  iterate 25 (first | refine br_t (by decide) ?_ | refine br_f (by decide) ?_ | skip)
  try simp only [ly_ok]
  repeat' (first | refine br_t (by decide) ?_ | refine br_f (by decide) ?_ | apply And.intro | intro _)
  all_goals first
    | decide
    | (exfalso; exact (by assumption : ¬ True) trivial)
    | (refine hp 0 (Or.inl rfl) (iff_of_false (by decide) (fun hh => ?_)); clear hp; simp only [ly_ok, Int32.lt_iff_toInt_lt, Int32.le_iff_toInt_le, ← Int32.toInt_inj, true_imp_iff, true_or, or_true, ly_t0, ly_t1, ly_t2, ly_t7, ly_t8, ly_t15, ly_t16, ly_t64, ly_tm64] at * <;> omega)
    | (refine hp 1 (Or.inr rfl) (iff_of_true rfl ?_); clear hp; simp only [ly_ok, Int32.lt_iff_toInt_lt, Int32.le_iff_toInt_le, ← Int32.toInt_inj, true_imp_iff, true_or, or_true, ly_t0, ly_t1, ly_t2, ly_t7, ly_t8, ly_t15, ly_t16, ly_t64, ly_tm64] at * <;> omega)
    | (exfalso; clear hp; simp only [ly_ok, Int32.lt_iff_toInt_lt, Int32.le_iff_toInt_le, ← Int32.toInt_inj, true_imp_iff, true_or, or_true, ly_t0, ly_t1, ly_t2, ly_t7, ly_t8, ly_t15, ly_t16, ly_t64, ly_tm64] at * <;> omega)

theorem ly_xf12 {post : Int32 → Prop} {a b : Int32} (hp : ∀ r : Int32, (r = 0 ∨ r = 1) → (r = 1 ↔ ly_ok 12 a.toInt b.toInt) → post r) : wpX_operandsFit post (nI 12) a b := by
  unfold wpX_operandsFit
  iterate 25 (first | refine br_t (by decide) ?_ | refine br_f (by decide) ?_ | skip)
  try simp only [wX_operandsFit_148, wpX_isRegister, wpX_isSymbol]
  repeat' (first | refine br_t (by decide) ?_ | refine br_f (by decide) ?_ | apply And.intro | intro _)
  all_goals first
    | decide
    | (exfalso; exact (by assumption : ¬ True) trivial)
    | (refine hp 0 (Or.inl rfl) (iff_of_false (by decide) (fun hh => ?_)); clear hp; simp only [ly_ok, Int32.lt_iff_toInt_lt, Int32.le_iff_toInt_le, ← Int32.toInt_inj, true_imp_iff, true_or, or_true, ly_t0, ly_t1, ly_t2, ly_t7, ly_t8, ly_t15, ly_t16, ly_t64, ly_tm64] at * <;> omega)
    | (refine hp 1 (Or.inr rfl) (iff_of_true rfl ?_); clear hp; simp only [ly_ok, Int32.lt_iff_toInt_lt, Int32.le_iff_toInt_le, ← Int32.toInt_inj, true_imp_iff, true_or, or_true, ly_t0, ly_t1, ly_t2, ly_t7, ly_t8, ly_t15, ly_t16, ly_t64, ly_tm64] at * <;> omega)
    | (exfalso; clear hp; simp only [ly_ok, Int32.lt_iff_toInt_lt, Int32.le_iff_toInt_le, ← Int32.toInt_inj, true_imp_iff, true_or, or_true, ly_t0, ly_t1, ly_t2, ly_t7, ly_t8, ly_t15, ly_t16, ly_t64, ly_tm64] at * <;> omega)

theorem ly_xf13 {post : Int32 → Prop} {a b : Int32} (hp : ∀ r : Int32, (r = 0 ∨ r = 1) → (r = 1 ↔ ly_ok 13 a.toInt b.toInt) → post r) : wpX_operandsFit post (nI 13) a b := by
  unfold wpX_operandsFit
  iterate 25 (first | refine br_t (by decide) ?_ | refine br_f (by decide) ?_ | skip)
  try simp only [wX_operandsFit_118, wpX_isRegister]
  repeat' (first | refine br_t (by decide) ?_ | refine br_f (by decide) ?_ | apply And.intro | intro _)
  all_goals first
    | decide
    | (exfalso; exact (by assumption : ¬ True) trivial)
    | (refine hp 0 (Or.inl rfl) (iff_of_false (by decide) (fun hh => ?_)); clear hp; simp only [ly_ok, Int32.lt_iff_toInt_lt, Int32.le_iff_toInt_le, ← Int32.toInt_inj, true_imp_iff, true_or, or_true, ly_t0, ly_t1, ly_t2, ly_t7, ly_t8, ly_t15, ly_t16, ly_t64, ly_tm64] at * <;> omega)
    | (refine hp 1 (Or.inr rfl) (iff_of_true rfl ?_); clear hp; simp only [ly_ok, Int32.lt_iff_toInt_lt, Int32.le_iff_toInt_le, ← Int32.toInt_inj, true_imp_iff, true_or, or_true, ly_t0, ly_t1, ly_t2, ly_t7, ly_t8, ly_t15, ly_t16, ly_t64, ly_tm64] at * <;> omega)
    | (exfalso; clear hp; simp only [ly_ok, Int32.lt_iff_toInt_lt, Int32.le_iff_toInt_le, ← Int32.toInt_inj, true_imp_iff, true_or, or_true, ly_t0, ly_t1, ly_t2, ly_t7, ly_t8, ly_t15, ly_t16, ly_t64, ly_tm64] at * <;> omega)

theorem ly_xf14 {post : Int32 → Prop} {a b : Int32} (hp : ∀ r : Int32, (r = 0 ∨ r = 1) → (r = 1 ↔ ly_ok 14 a.toInt b.toInt) → post r) : wpX_operandsFit post (nI 14) a b := by
  unfold wpX_operandsFit
  iterate 25 (first | refine br_t (by decide) ?_ | refine br_f (by decide) ?_ | skip)
  try simp only [ly_ok]
  repeat' (first | refine br_t (by decide) ?_ | refine br_f (by decide) ?_ | apply And.intro | intro _)
  all_goals first
    | decide
    | (exfalso; exact (by assumption : ¬ True) trivial)
    | (refine hp 0 (Or.inl rfl) (iff_of_false (by decide) (fun hh => ?_)); clear hp; simp only [ly_ok, Int32.lt_iff_toInt_lt, Int32.le_iff_toInt_le, ← Int32.toInt_inj, true_imp_iff, true_or, or_true, ly_t0, ly_t1, ly_t2, ly_t7, ly_t8, ly_t15, ly_t16, ly_t64, ly_tm64] at * <;> omega)
    | (refine hp 1 (Or.inr rfl) (iff_of_true rfl ?_); clear hp; simp only [ly_ok, Int32.lt_iff_toInt_lt, Int32.le_iff_toInt_le, ← Int32.toInt_inj, true_imp_iff, true_or, or_true, ly_t0, ly_t1, ly_t2, ly_t7, ly_t8, ly_t15, ly_t16, ly_t64, ly_tm64] at * <;> omega)
    | (exfalso; clear hp; simp only [ly_ok, Int32.lt_iff_toInt_lt, Int32.le_iff_toInt_le, ← Int32.toInt_inj, true_imp_iff, true_or, or_true, ly_t0, ly_t1, ly_t2, ly_t7, ly_t8, ly_t15, ly_t16, ly_t64, ly_tm64] at * <;> omega)

theorem ly_xf15 {post : Int32 → Prop} {a b : Int32} (hp : ∀ r : Int32, (r = 0 ∨ r = 1) → (r = 1 ↔ ly_ok 15 a.toInt b.toInt) → post r) : wpX_operandsFit post (nI 15) a b := by
  unfold wpX_operandsFit
  iterate 25 (first | refine br_t (by decide) ?_ | refine br_f (by decide) ?_ | skip)
  try simp only [ly_ok]
  repeat' (first | refine br_t (by decide) ?_ | refine br_f (by decide) ?_ | apply And.intro | intro _)
  all_goals first
    | decide
    | (exfalso; exact (by assumption : ¬ True) trivial)
    | (refine hp 0 (Or.inl rfl) (iff_of_false (by decide) (fun hh => ?_)); clear hp; simp only [ly_ok, Int32.lt_iff_toInt_lt, Int32.le_iff_toInt_le, ← Int32.toInt_inj, true_imp_iff, true_or, or_true, ly_t0, ly_t1, ly_t2, ly_t7, ly_t8, ly_t15, ly_t16, ly_t64, ly_tm64] at * <;> omega)
    | (refine hp 1 (Or.inr rfl) (iff_of_true rfl ?_); clear hp; simp only [ly_ok, Int32.lt_iff_toInt_lt, Int32.le_iff_toInt_le, ← Int32.toInt_inj, true_imp_iff, true_or, or_true, ly_t0, ly_t1, ly_t2, ly_t7, ly_t8, ly_t15, ly_t16, ly_t64, ly_tm64] at * <;> omega)
    | (exfalso; clear hp; simp only [ly_ok, Int32.lt_iff_toInt_lt, Int32.le_iff_toInt_le, ← Int32.toInt_inj, true_imp_iff, true_or, or_true, ly_t0, ly_t1, ly_t2, ly_t7, ly_t8, ly_t15, ly_t16, ly_t64, ly_tm64] at * <;> omega)

theorem ly_xf16 {post : Int32 → Prop} {a b : Int32} (hp : ∀ r : Int32, (r = 0 ∨ r = 1) → (r = 1 ↔ ly_ok 16 a.toInt b.toInt) → post r) : wpX_operandsFit post (nI 16) a b := by
  unfold wpX_operandsFit
  iterate 25 (first | refine br_t (by decide) ?_ | refine br_f (by decide) ?_ | skip)
  try simp only [wpX_isSymbol]
  repeat' (first | refine br_t (by decide) ?_ | refine br_f (by decide) ?_ | apply And.intro | intro _)
  all_goals first
    | decide
    | (exfalso; exact (by assumption : ¬ True) trivial)
    | (refine hp 0 (Or.inl rfl) (iff_of_false (by decide) (fun hh => ?_)); clear hp; simp only [ly_ok, Int32.lt_iff_toInt_lt, Int32.le_iff_toInt_le, ← Int32.toInt_inj, true_imp_iff, true_or, or_true, ly_t0, ly_t1, ly_t2, ly_t7, ly_t8, ly_t15, ly_t16, ly_t64, ly_tm64] at * <;> omega)
    | (refine hp 1 (Or.inr rfl) (iff_of_true rfl ?_); clear hp; simp only [ly_ok, Int32.lt_iff_toInt_lt, Int32.le_iff_toInt_le, ← Int32.toInt_inj, true_imp_iff, true_or, or_true, ly_t0, ly_t1, ly_t2, ly_t7, ly_t8, ly_t15, ly_t16, ly_t64, ly_tm64] at * <;> omega)
    | (exfalso; clear hp; simp only [ly_ok, Int32.lt_iff_toInt_lt, Int32.le_iff_toInt_le, ← Int32.toInt_inj, true_imp_iff, true_or, or_true, ly_t0, ly_t1, ly_t2, ly_t7, ly_t8, ly_t15, ly_t16, ly_t64, ly_tm64] at * <;> omega)

theorem ly_xf17 {post : Int32 → Prop} {a b : Int32} (hp : ∀ r : Int32, (r = 0 ∨ r = 1) → (r = 1 ↔ ly_ok 17 a.toInt b.toInt) → post r) : wpX_operandsFit post (nI 17) a b := by
  unfold wpX_operandsFit
  iterate 25 (first | refine br_t (by decide) ?_ | refine br_f (by decide) ?_ | skip)
  try simp only [ly_ok]
  repeat' (first | refine br_t (by decide) ?_ | refine br_f (by decide) ?_ | apply And.intro | intro _)
  all_goals first
    | decide
    | (exfalso; exact (by assumption : ¬ True) trivial)
    | (refine hp 0 (Or.inl rfl) (iff_of_false (by decide) (fun hh => ?_)); clear hp; simp only [ly_ok, Int32.lt_iff_toInt_lt, Int32.le_iff_toInt_le, ← Int32.toInt_inj, true_imp_iff, true_or, or_true, ly_t0, ly_t1, ly_t2, ly_t7, ly_t8, ly_t15, ly_t16, ly_t64, ly_tm64] at * <;> omega)
    | (refine hp 1 (Or.inr rfl) (iff_of_true rfl ?_); clear hp; simp only [ly_ok, Int32.lt_iff_toInt_lt, Int32.le_iff_toInt_le, ← Int32.toInt_inj, true_imp_iff, true_or, or_true, ly_t0, ly_t1, ly_t2, ly_t7, ly_t8, ly_t15, ly_t16, ly_t64, ly_tm64] at * <;> omega)
    | (exfalso; clear hp; simp only [ly_ok, Int32.lt_iff_toInt_lt, Int32.le_iff_toInt_le, ← Int32.toInt_inj, true_imp_iff, true_or, or_true, ly_t0, ly_t1, ly_t2, ly_t7, ly_t8, ly_t15, ly_t16, ly_t64, ly_tm64] at * <;> omega)

theorem ly_xf18 {post : Int32 → Prop} {a b : Int32} (hp : ∀ r : Int32, (r = 0 ∨ r = 1) → (r = 1 ↔ ly_ok 18 a.toInt b.toInt) → post r) : wpX_operandsFit post (nI 18) a b := by
  unfold wpX_operandsFit
  iterate 25 (first | refine br_t (by decide) ?_ | refine br_f (by decide) ?_ | skip)
  try simp only [ly_ok]
  repeat' (first | refine br_t (by decide) ?_ | refine br_f (by decide) ?_ | apply And.intro | intro _)
  all_goals first
    | decide
    | (exfalso; exact (by assumption : ¬ True) trivial)
    | (refine hp 0 (Or.inl rfl) (iff_of_false (by decide) (fun hh => ?_)); clear hp; simp only [ly_ok, Int32.lt_iff_toInt_lt, Int32.le_iff_toInt_le, ← Int32.toInt_inj, true_imp_iff, true_or, or_true, ly_t0, ly_t1, ly_t2, ly_t7, ly_t8, ly_t15, ly_t16, ly_t64, ly_tm64] at * <;> omega)
    | (refine hp 1 (Or.inr rfl) (iff_of_true rfl ?_); clear hp; simp only [ly_ok, Int32.lt_iff_toInt_lt, Int32.le_iff_toInt_le, ← Int32.toInt_inj, true_imp_iff, true_or, or_true, ly_t0, ly_t1, ly_t2, ly_t7, ly_t8, ly_t15, ly_t16, ly_t64, ly_tm64] at * <;> omega)
    | (exfalso; clear hp; simp only [ly_ok, Int32.lt_iff_toInt_lt, Int32.le_iff_toInt_le, ← Int32.toInt_inj, true_imp_iff, true_or, or_true, ly_t0, ly_t1, ly_t2, ly_t7, ly_t8, ly_t15, ly_t16, ly_t64, ly_tm64] at * <;> omega)

theorem ly_xf19 {post : Int32 → Prop} {a b : Int32} (hp : ∀ r : Int32, (r = 0 ∨ r = 1) → (r = 1 ↔ ly_ok 19 a.toInt b.toInt) → post r) : wpX_operandsFit post (nI 19) a b := by
  unfold wpX_operandsFit
  iterate 25 (first | refine br_t (by decide) ?_ | refine br_f (by decide) ?_ | skip)
  try simp only [ly_ok]
  repeat' (first | refine br_t (by decide) ?_ | refine br_f (by decide) ?_ | apply And.intro | intro _)
  all_goals first
    | decide
    | (exfalso; exact (by assumption : ¬ True) trivial)
    | (refine hp 0 (Or.inl rfl) (iff_of_false (by decide) (fun hh => ?_)); clear hp; simp only [ly_ok, Int32.lt_iff_toInt_lt, Int32.le_iff_toInt_le, ← Int32.toInt_inj, true_imp_iff, true_or, or_true, ly_t0, ly_t1, ly_t2, ly_t7, ly_t8, ly_t15, ly_t16, ly_t64, ly_tm64] at * <;> omega)
    | (refine hp 1 (Or.inr rfl) (iff_of_true rfl ?_); clear hp; simp only [ly_ok, Int32.lt_iff_toInt_lt, Int32.le_iff_toInt_le, ← Int32.toInt_inj, true_imp_iff, true_or, or_true, ly_t0, ly_t1, ly_t2, ly_t7, ly_t8, ly_t15, ly_t16, ly_t64, ly_tm64] at * <;> omega)
    | (exfalso; clear hp; simp only [ly_ok, Int32.lt_iff_toInt_lt, Int32.le_iff_toInt_le, ← Int32.toInt_inj, true_imp_iff, true_or, or_true, ly_t0, ly_t1, ly_t2, ly_t7, ly_t8, ly_t15, ly_t16, ly_t64, ly_tm64] at * <;> omega)

theorem ly_yf0 {post : Int32 → Prop} {a b : Int32} (hp : ∀ r : Int32, (r = 0 ∨ r = 1) → (r = 1 ↔ ly_ok 0 a.toInt b.toInt) → post r) : wpY_fits post (nI 0) a b := by
  unfold wpY_fits
  simp only [wpY_usesSymbol, wY_fits_185, wY_fits_163, wY_fits_148, wY_fits_143, wpY_in]
  iterate 40 (first | refine br_t (by decide) ?_ | refine br_f (by decide) ?_ | skip)
  repeat' (first | refine br_t (by decide) ?_ | refine br_f (by decide) ?_ | apply And.intro | intro _)
  all_goals first
    | decide
    | (exfalso; exact (by assumption : ¬ True) trivial)
    | (refine hp 0 (Or.inl rfl) (iff_of_false (by decide) (fun hh => ?_)); clear hp; simp only [ly_ok, Int32.lt_iff_toInt_lt, Int32.le_iff_toInt_le, ← Int32.toInt_inj, true_imp_iff, true_or, or_true, ly_t0, ly_t1, ly_t2, ly_t7, ly_t8, ly_t15, ly_t16, ly_t64, ly_tm64] at * <;> omega)
    | (refine hp 1 (Or.inr rfl) (iff_of_true rfl ?_); clear hp; simp only [ly_ok, Int32.lt_iff_toInt_lt, Int32.le_iff_toInt_le, ← Int32.toInt_inj, true_imp_iff, true_or, or_true, ly_t0, ly_t1, ly_t2, ly_t7, ly_t8, ly_t15, ly_t16, ly_t64, ly_tm64] at * <;> omega)
    | (exfalso; clear hp; simp only [ly_ok, Int32.lt_iff_toInt_lt, Int32.le_iff_toInt_le, ← Int32.toInt_inj, true_imp_iff, true_or, or_true, ly_t0, ly_t1, ly_t2, ly_t7, ly_t8, ly_t15, ly_t16, ly_t64, ly_tm64] at * <;> omega)

theorem ly_yf1 {post : Int32 → Prop} {a b : Int32} (hp : ∀ r : Int32, (r = 0 ∨ r = 1) → (r = 1 ↔ ly_ok 1 a.toInt b.toInt) → post r) : wpY_fits post (nI 1) a b := by
  unfold wpY_fits
  simp only [wpY_usesSymbol, wY_fits_185, wY_fits_163, wY_fits_148, wY_fits_143, wpY_in]
  iterate 40 (first | refine br_t (by decide) ?_ | refine br_f (by decide) ?_ | skip)
  repeat' (first | refine br_t (by decide) ?_ | refine br_f (by decide) ?_ | apply And.intro | intro _)
  all_goals first
    | decide
    | (exfalso; exact (by assumption : ¬ True) trivial)
    | (refine hp 0 (Or.inl rfl) (iff_of_false (by decide) (fun hh => ?_)); clear hp; simp only [ly_ok, Int32.lt_iff_toInt_lt, Int32.le_iff_toInt_le, ← Int32.toInt_inj, true_imp_iff, true_or, or_true, ly_t0, ly_t1, ly_t2, ly_t7, ly_t8, ly_t15, ly_t16, ly_t64, ly_tm64] at * <;> omega)
    | (refine hp 1 (Or.inr rfl) (iff_of_true rfl ?_); clear hp; simp only [ly_ok, Int32.lt_iff_toInt_lt, Int32.le_iff_toInt_le, ← Int32.toInt_inj, true_imp_iff, true_or, or_true, ly_t0, ly_t1, ly_t2, ly_t7, ly_t8, ly_t15, ly_t16, ly_t64, ly_tm64] at * <;> omega)
    | (exfalso; clear hp; simp only [ly_ok, Int32.lt_iff_toInt_lt, Int32.le_iff_toInt_le, ← Int32.toInt_inj, true_imp_iff, true_or, or_true, ly_t0, ly_t1, ly_t2, ly_t7, ly_t8, ly_t15, ly_t16, ly_t64, ly_tm64] at * <;> omega)

theorem ly_yf2 {post : Int32 → Prop} {a b : Int32} (hp : ∀ r : Int32, (r = 0 ∨ r = 1) → (r = 1 ↔ ly_ok 2 a.toInt b.toInt) → post r) : wpY_fits post (nI 2) a b := by
  unfold wpY_fits
  simp only [wpY_usesSymbol, wY_fits_185, wY_fits_163, wY_fits_148, wY_fits_143, wpY_in]
  iterate 40 (first | refine br_t (by decide) ?_ | refine br_f (by decide) ?_ | skip)
  repeat' (first | refine br_t (by decide) ?_ | refine br_f (by decide) ?_ | apply And.intro | intro _)
  all_goals first
    | decide
    | (exfalso; exact (by assumption : ¬ True) trivial)
    | (refine hp 0 (Or.inl rfl) (iff_of_false (by decide) (fun hh => ?_)); clear hp; simp only [ly_ok, Int32.lt_iff_toInt_lt, Int32.le_iff_toInt_le, ← Int32.toInt_inj, true_imp_iff, true_or, or_true, ly_t0, ly_t1, ly_t2, ly_t7, ly_t8, ly_t15, ly_t16, ly_t64, ly_tm64] at * <;> omega)
    | (refine hp 1 (Or.inr rfl) (iff_of_true rfl ?_); clear hp; simp only [ly_ok, Int32.lt_iff_toInt_lt, Int32.le_iff_toInt_le, ← Int32.toInt_inj, true_imp_iff, true_or, or_true, ly_t0, ly_t1, ly_t2, ly_t7, ly_t8, ly_t15, ly_t16, ly_t64, ly_tm64] at * <;> omega)
    | (exfalso; clear hp; simp only [ly_ok, Int32.lt_iff_toInt_lt, Int32.le_iff_toInt_le, ← Int32.toInt_inj, true_imp_iff, true_or, or_true, ly_t0, ly_t1, ly_t2, ly_t7, ly_t8, ly_t15, ly_t16, ly_t64, ly_tm64] at * <;> omega)

theorem ly_yf3 {post : Int32 → Prop} {a b : Int32} (hp : ∀ r : Int32, (r = 0 ∨ r = 1) → (r = 1 ↔ ly_ok 3 a.toInt b.toInt) → post r) : wpY_fits post (nI 3) a b := by
  unfold wpY_fits
  simp only [wpY_usesSymbol, wY_fits_185, wY_fits_163, wY_fits_148, wY_fits_143, wpY_in]
  iterate 40 (first | refine br_t (by decide) ?_ | refine br_f (by decide) ?_ | skip)
  repeat' (first | refine br_t (by decide) ?_ | refine br_f (by decide) ?_ | apply And.intro | intro _)
  all_goals first
    | decide
    | (exfalso; exact (by assumption : ¬ True) trivial)
    | (refine hp 0 (Or.inl rfl) (iff_of_false (by decide) (fun hh => ?_)); clear hp; simp only [ly_ok, Int32.lt_iff_toInt_lt, Int32.le_iff_toInt_le, ← Int32.toInt_inj, true_imp_iff, true_or, or_true, ly_t0, ly_t1, ly_t2, ly_t7, ly_t8, ly_t15, ly_t16, ly_t64, ly_tm64] at * <;> omega)
    | (refine hp 1 (Or.inr rfl) (iff_of_true rfl ?_); clear hp; simp only [ly_ok, Int32.lt_iff_toInt_lt, Int32.le_iff_toInt_le, ← Int32.toInt_inj, true_imp_iff, true_or, or_true, ly_t0, ly_t1, ly_t2, ly_t7, ly_t8, ly_t15, ly_t16, ly_t64, ly_tm64] at * <;> omega)
    | (exfalso; clear hp; simp only [ly_ok, Int32.lt_iff_toInt_lt, Int32.le_iff_toInt_le, ← Int32.toInt_inj, true_imp_iff, true_or, or_true, ly_t0, ly_t1, ly_t2, ly_t7, ly_t8, ly_t15, ly_t16, ly_t64, ly_tm64] at * <;> omega)

theorem ly_yf4 {post : Int32 → Prop} {a b : Int32} (hp : ∀ r : Int32, (r = 0 ∨ r = 1) → (r = 1 ↔ ly_ok 4 a.toInt b.toInt) → post r) : wpY_fits post (nI 4) a b := by
  unfold wpY_fits
  simp only [wpY_usesSymbol, wY_fits_185, wY_fits_163, wY_fits_148, wY_fits_143, wpY_in]
  iterate 40 (first | refine br_t (by decide) ?_ | refine br_f (by decide) ?_ | skip)
  repeat' (first | refine br_t (by decide) ?_ | refine br_f (by decide) ?_ | apply And.intro | intro _)
  all_goals first
    | decide
    | (exfalso; exact (by assumption : ¬ True) trivial)
    | (refine hp 0 (Or.inl rfl) (iff_of_false (by decide) (fun hh => ?_)); clear hp; simp only [ly_ok, Int32.lt_iff_toInt_lt, Int32.le_iff_toInt_le, ← Int32.toInt_inj, true_imp_iff, true_or, or_true, ly_t0, ly_t1, ly_t2, ly_t7, ly_t8, ly_t15, ly_t16, ly_t64, ly_tm64] at * <;> omega)
    | (refine hp 1 (Or.inr rfl) (iff_of_true rfl ?_); clear hp; simp only [ly_ok, Int32.lt_iff_toInt_lt, Int32.le_iff_toInt_le, ← Int32.toInt_inj, true_imp_iff, true_or, or_true, ly_t0, ly_t1, ly_t2, ly_t7, ly_t8, ly_t15, ly_t16, ly_t64, ly_tm64] at * <;> omega)
    | (exfalso; clear hp; simp only [ly_ok, Int32.lt_iff_toInt_lt, Int32.le_iff_toInt_le, ← Int32.toInt_inj, true_imp_iff, true_or, or_true, ly_t0, ly_t1, ly_t2, ly_t7, ly_t8, ly_t15, ly_t16, ly_t64, ly_tm64] at * <;> omega)

theorem ly_yf5 {post : Int32 → Prop} {a b : Int32} (hp : ∀ r : Int32, (r = 0 ∨ r = 1) → (r = 1 ↔ ly_ok 5 a.toInt b.toInt) → post r) : wpY_fits post (nI 5) a b := by
  unfold wpY_fits
  simp only [wpY_usesSymbol, wY_fits_185, wY_fits_163, wY_fits_148, wY_fits_143, wpY_in]
  iterate 40 (first | refine br_t (by decide) ?_ | refine br_f (by decide) ?_ | skip)
  repeat' (first | refine br_t (by decide) ?_ | refine br_f (by decide) ?_ | apply And.intro | intro _)
  all_goals first
    | decide
    | (exfalso; exact (by assumption : ¬ True) trivial)
    | (refine hp 0 (Or.inl rfl) (iff_of_false (by decide) (fun hh => ?_)); clear hp; simp only [ly_ok, Int32.lt_iff_toInt_lt, Int32.le_iff_toInt_le, ← Int32.toInt_inj, true_imp_iff, true_or, or_true, ly_t0, ly_t1, ly_t2, ly_t7, ly_t8, ly_t15, ly_t16, ly_t64, ly_tm64] at * <;> omega)
    | (refine hp 1 (Or.inr rfl) (iff_of_true rfl ?_); clear hp; simp only [ly_ok, Int32.lt_iff_toInt_lt, Int32.le_iff_toInt_le, ← Int32.toInt_inj, true_imp_iff, true_or, or_true, ly_t0, ly_t1, ly_t2, ly_t7, ly_t8, ly_t15, ly_t16, ly_t64, ly_tm64] at * <;> omega)
    | (exfalso; clear hp; simp only [ly_ok, Int32.lt_iff_toInt_lt, Int32.le_iff_toInt_le, ← Int32.toInt_inj, true_imp_iff, true_or, or_true, ly_t0, ly_t1, ly_t2, ly_t7, ly_t8, ly_t15, ly_t16, ly_t64, ly_tm64] at * <;> omega)

theorem ly_yf6 {post : Int32 → Prop} {a b : Int32} (hp : ∀ r : Int32, (r = 0 ∨ r = 1) → (r = 1 ↔ ly_ok 6 a.toInt b.toInt) → post r) : wpY_fits post (nI 6) a b := by
  unfold wpY_fits
  simp only [wpY_usesSymbol, wY_fits_185, wY_fits_163, wY_fits_148, wY_fits_143, wpY_in]
  iterate 40 (first | refine br_t (by decide) ?_ | refine br_f (by decide) ?_ | skip)
  repeat' (first | refine br_t (by decide) ?_ | refine br_f (by decide) ?_ | apply And.intro | intro _)
  all_goals first
    | decide
    | (exfalso; exact (by assumption : ¬ True) trivial)
    | (refine hp 0 (Or.inl rfl) (iff_of_false (by decide) (fun hh => ?_)); clear hp; simp only [ly_ok, Int32.lt_iff_toInt_lt, Int32.le_iff_toInt_le, ← Int32.toInt_inj, true_imp_iff, true_or, or_true, ly_t0, ly_t1, ly_t2, ly_t7, ly_t8, ly_t15, ly_t16, ly_t64, ly_tm64] at * <;> omega)
    | (refine hp 1 (Or.inr rfl) (iff_of_true rfl ?_); clear hp; simp only [ly_ok, Int32.lt_iff_toInt_lt, Int32.le_iff_toInt_le, ← Int32.toInt_inj, true_imp_iff, true_or, or_true, ly_t0, ly_t1, ly_t2, ly_t7, ly_t8, ly_t15, ly_t16, ly_t64, ly_tm64] at * <;> omega)
    | (exfalso; clear hp; simp only [ly_ok, Int32.lt_iff_toInt_lt, Int32.le_iff_toInt_le, ← Int32.toInt_inj, true_imp_iff, true_or, or_true, ly_t0, ly_t1, ly_t2, ly_t7, ly_t8, ly_t15, ly_t16, ly_t64, ly_tm64] at * <;> omega)

theorem ly_yf7 {post : Int32 → Prop} {a b : Int32} (hp : ∀ r : Int32, (r = 0 ∨ r = 1) → (r = 1 ↔ ly_ok 7 a.toInt b.toInt) → post r) : wpY_fits post (nI 7) a b := by
  unfold wpY_fits
  simp only [wpY_usesSymbol, wY_fits_185, wY_fits_163, wY_fits_148, wY_fits_143, wpY_in]
  iterate 40 (first | refine br_t (by decide) ?_ | refine br_f (by decide) ?_ | skip)
  repeat' (first | refine br_t (by decide) ?_ | refine br_f (by decide) ?_ | apply And.intro | intro _)
  all_goals first
    | decide
    | (exfalso; exact (by assumption : ¬ True) trivial)
    | (refine hp 0 (Or.inl rfl) (iff_of_false (by decide) (fun hh => ?_)); clear hp; simp only [ly_ok, Int32.lt_iff_toInt_lt, Int32.le_iff_toInt_le, ← Int32.toInt_inj, true_imp_iff, true_or, or_true, ly_t0, ly_t1, ly_t2, ly_t7, ly_t8, ly_t15, ly_t16, ly_t64, ly_tm64] at * <;> omega)
    | (refine hp 1 (Or.inr rfl) (iff_of_true rfl ?_); clear hp; simp only [ly_ok, Int32.lt_iff_toInt_lt, Int32.le_iff_toInt_le, ← Int32.toInt_inj, true_imp_iff, true_or, or_true, ly_t0, ly_t1, ly_t2, ly_t7, ly_t8, ly_t15, ly_t16, ly_t64, ly_tm64] at * <;> omega)
    | (exfalso; clear hp; simp only [ly_ok, Int32.lt_iff_toInt_lt, Int32.le_iff_toInt_le, ← Int32.toInt_inj, true_imp_iff, true_or, or_true, ly_t0, ly_t1, ly_t2, ly_t7, ly_t8, ly_t15, ly_t16, ly_t64, ly_tm64] at * <;> omega)

theorem ly_yf8 {post : Int32 → Prop} {a b : Int32} (hp : ∀ r : Int32, (r = 0 ∨ r = 1) → (r = 1 ↔ ly_ok 8 a.toInt b.toInt) → post r) : wpY_fits post (nI 8) a b := by
  unfold wpY_fits
  simp only [wpY_usesSymbol, wY_fits_185, wY_fits_163, wY_fits_148, wY_fits_143, wpY_in]
  iterate 40 (first | refine br_t (by decide) ?_ | refine br_f (by decide) ?_ | skip)
  repeat' (first | refine br_t (by decide) ?_ | refine br_f (by decide) ?_ | apply And.intro | intro _)
  all_goals first
    | decide
    | (exfalso; exact (by assumption : ¬ True) trivial)
    | (refine hp 0 (Or.inl rfl) (iff_of_false (by decide) (fun hh => ?_)); clear hp; simp only [ly_ok, Int32.lt_iff_toInt_lt, Int32.le_iff_toInt_le, ← Int32.toInt_inj, true_imp_iff, true_or, or_true, ly_t0, ly_t1, ly_t2, ly_t7, ly_t8, ly_t15, ly_t16, ly_t64, ly_tm64] at * <;> omega)
    | (refine hp 1 (Or.inr rfl) (iff_of_true rfl ?_); clear hp; simp only [ly_ok, Int32.lt_iff_toInt_lt, Int32.le_iff_toInt_le, ← Int32.toInt_inj, true_imp_iff, true_or, or_true, ly_t0, ly_t1, ly_t2, ly_t7, ly_t8, ly_t15, ly_t16, ly_t64, ly_tm64] at * <;> omega)
    | (exfalso; clear hp; simp only [ly_ok, Int32.lt_iff_toInt_lt, Int32.le_iff_toInt_le, ← Int32.toInt_inj, true_imp_iff, true_or, or_true, ly_t0, ly_t1, ly_t2, ly_t7, ly_t8, ly_t15, ly_t16, ly_t64, ly_tm64] at * <;> omega)

theorem ly_yf9 {post : Int32 → Prop} {a b : Int32} (hp : ∀ r : Int32, (r = 0 ∨ r = 1) → (r = 1 ↔ ly_ok 9 a.toInt b.toInt) → post r) : wpY_fits post (nI 9) a b := by
  unfold wpY_fits
  simp only [wpY_usesSymbol, wY_fits_185, wY_fits_163, wY_fits_148, wY_fits_143, wpY_in]
  iterate 40 (first | refine br_t (by decide) ?_ | refine br_f (by decide) ?_ | skip)
  repeat' (first | refine br_t (by decide) ?_ | refine br_f (by decide) ?_ | apply And.intro | intro _)
  all_goals first
    | decide
    | (exfalso; exact (by assumption : ¬ True) trivial)
    | (refine hp 0 (Or.inl rfl) (iff_of_false (by decide) (fun hh => ?_)); clear hp; simp only [ly_ok, Int32.lt_iff_toInt_lt, Int32.le_iff_toInt_le, ← Int32.toInt_inj, true_imp_iff, true_or, or_true, ly_t0, ly_t1, ly_t2, ly_t7, ly_t8, ly_t15, ly_t16, ly_t64, ly_tm64] at * <;> omega)
    | (refine hp 1 (Or.inr rfl) (iff_of_true rfl ?_); clear hp; simp only [ly_ok, Int32.lt_iff_toInt_lt, Int32.le_iff_toInt_le, ← Int32.toInt_inj, true_imp_iff, true_or, or_true, ly_t0, ly_t1, ly_t2, ly_t7, ly_t8, ly_t15, ly_t16, ly_t64, ly_tm64] at * <;> omega)
    | (exfalso; clear hp; simp only [ly_ok, Int32.lt_iff_toInt_lt, Int32.le_iff_toInt_le, ← Int32.toInt_inj, true_imp_iff, true_or, or_true, ly_t0, ly_t1, ly_t2, ly_t7, ly_t8, ly_t15, ly_t16, ly_t64, ly_tm64] at * <;> omega)

theorem ly_yf10 {post : Int32 → Prop} {a b : Int32} (hp : ∀ r : Int32, (r = 0 ∨ r = 1) → (r = 1 ↔ ly_ok 10 a.toInt b.toInt) → post r) : wpY_fits post (nI 10) a b := by
  unfold wpY_fits
  simp only [wpY_usesSymbol, wY_fits_185, wY_fits_163, wY_fits_148, wY_fits_143, wpY_in]
  iterate 40 (first | refine br_t (by decide) ?_ | refine br_f (by decide) ?_ | skip)
  repeat' (first | refine br_t (by decide) ?_ | refine br_f (by decide) ?_ | apply And.intro | intro _)
  all_goals first
    | decide
    | (exfalso; exact (by assumption : ¬ True) trivial)
    | (refine hp 0 (Or.inl rfl) (iff_of_false (by decide) (fun hh => ?_)); clear hp; simp only [ly_ok, Int32.lt_iff_toInt_lt, Int32.le_iff_toInt_le, ← Int32.toInt_inj, true_imp_iff, true_or, or_true, ly_t0, ly_t1, ly_t2, ly_t7, ly_t8, ly_t15, ly_t16, ly_t64, ly_tm64] at * <;> omega)
    | (refine hp 1 (Or.inr rfl) (iff_of_true rfl ?_); clear hp; simp only [ly_ok, Int32.lt_iff_toInt_lt, Int32.le_iff_toInt_le, ← Int32.toInt_inj, true_imp_iff, true_or, or_true, ly_t0, ly_t1, ly_t2, ly_t7, ly_t8, ly_t15, ly_t16, ly_t64, ly_tm64] at * <;> omega)
    | (exfalso; clear hp; simp only [ly_ok, Int32.lt_iff_toInt_lt, Int32.le_iff_toInt_le, ← Int32.toInt_inj, true_imp_iff, true_or, or_true, ly_t0, ly_t1, ly_t2, ly_t7, ly_t8, ly_t15, ly_t16, ly_t64, ly_tm64] at * <;> omega)

theorem ly_yf11 {post : Int32 → Prop} {a b : Int32} (hp : ∀ r : Int32, (r = 0 ∨ r = 1) → (r = 1 ↔ ly_ok 11 a.toInt b.toInt) → post r) : wpY_fits post (nI 11) a b := by
  unfold wpY_fits
  simp only [wpY_usesSymbol, wY_fits_185, wY_fits_163, wY_fits_148, wY_fits_143, wpY_in]
  iterate 40 (first | refine br_t (by decide) ?_ | refine br_f (by decide) ?_ | skip)
  repeat' (first | refine br_t (by decide) ?_ | refine br_f (by decide) ?_ | apply And.intro | intro _)
  all_goals first
    | decide
    | (exfalso; exact (by assumption : ¬ True) trivial)
    | (refine hp 0 (Or.inl rfl) (iff_of_false (by decide) (fun hh => ?_)); clear hp; simp only [ly_ok, Int32.lt_iff_toInt_lt, Int32.le_iff_toInt_le, ← Int32.toInt_inj, true_imp_iff, true_or, or_true, ly_t0, ly_t1, ly_t2, ly_t7, ly_t8, ly_t15, ly_t16, ly_t64, ly_tm64] at * <;> omega)
    | (refine hp 1 (Or.inr rfl) (iff_of_true rfl ?_); clear hp; simp only [ly_ok, Int32.lt_iff_toInt_lt, Int32.le_iff_toInt_le, ← Int32.toInt_inj, true_imp_iff, true_or, or_true, ly_t0, ly_t1, ly_t2, ly_t7, ly_t8, ly_t15, ly_t16, ly_t64, ly_tm64] at * <;> omega)
    | (exfalso; clear hp; simp only [ly_ok, Int32.lt_iff_toInt_lt, Int32.le_iff_toInt_le, ← Int32.toInt_inj, true_imp_iff, true_or, or_true, ly_t0, ly_t1, ly_t2, ly_t7, ly_t8, ly_t15, ly_t16, ly_t64, ly_tm64] at * <;> omega)

theorem ly_yf12 {post : Int32 → Prop} {a b : Int32} (hp : ∀ r : Int32, (r = 0 ∨ r = 1) → (r = 1 ↔ ly_ok 12 a.toInt b.toInt) → post r) : wpY_fits post (nI 12) a b := by
  unfold wpY_fits
  simp only [wpY_usesSymbol, wY_fits_185, wY_fits_163, wY_fits_148, wY_fits_143, wpY_in]
  iterate 40 (first | refine br_t (by decide) ?_ | refine br_f (by decide) ?_ | skip)
  repeat' (first | refine br_t (by decide) ?_ | refine br_f (by decide) ?_ | apply And.intro | intro _)
  all_goals first
    | decide
    | (exfalso; exact (by assumption : ¬ True) trivial)
    | (refine hp 0 (Or.inl rfl) (iff_of_false (by decide) (fun hh => ?_)); clear hp; simp only [ly_ok, Int32.lt_iff_toInt_lt, Int32.le_iff_toInt_le, ← Int32.toInt_inj, true_imp_iff, true_or, or_true, ly_t0, ly_t1, ly_t2, ly_t7, ly_t8, ly_t15, ly_t16, ly_t64, ly_tm64] at * <;> omega)
    | (refine hp 1 (Or.inr rfl) (iff_of_true rfl ?_); clear hp; simp only [ly_ok, Int32.lt_iff_toInt_lt, Int32.le_iff_toInt_le, ← Int32.toInt_inj, true_imp_iff, true_or, or_true, ly_t0, ly_t1, ly_t2, ly_t7, ly_t8, ly_t15, ly_t16, ly_t64, ly_tm64] at * <;> omega)
    | (exfalso; clear hp; simp only [ly_ok, Int32.lt_iff_toInt_lt, Int32.le_iff_toInt_le, ← Int32.toInt_inj, true_imp_iff, true_or, or_true, ly_t0, ly_t1, ly_t2, ly_t7, ly_t8, ly_t15, ly_t16, ly_t64, ly_tm64] at * <;> omega)

theorem ly_yf13 {post : Int32 → Prop} {a b : Int32} (hp : ∀ r : Int32, (r = 0 ∨ r = 1) → (r = 1 ↔ ly_ok 13 a.toInt b.toInt) → post r) : wpY_fits post (nI 13) a b := by
  unfold wpY_fits
  simp only [wpY_usesSymbol, wY_fits_185, wY_fits_163, wY_fits_148, wY_fits_143, wpY_in]
  iterate 40 (first | refine br_t (by decide) ?_ | refine br_f (by decide) ?_ | skip)
  repeat' (first | refine br_t (by decide) ?_ | refine br_f (by decide) ?_ | apply And.intro | intro _)
  all_goals first
    | decide
    | (exfalso; exact (by assumption : ¬ True) trivial)
    | (refine hp 0 (Or.inl rfl) (iff_of_false (by decide) (fun hh => ?_)); clear hp; simp only [ly_ok, Int32.lt_iff_toInt_lt, Int32.le_iff_toInt_le, ← Int32.toInt_inj, true_imp_iff, true_or, or_true, ly_t0, ly_t1, ly_t2, ly_t7, ly_t8, ly_t15, ly_t16, ly_t64, ly_tm64] at * <;> omega)
    | (refine hp 1 (Or.inr rfl) (iff_of_true rfl ?_); clear hp; simp only [ly_ok, Int32.lt_iff_toInt_lt, Int32.le_iff_toInt_le, ← Int32.toInt_inj, true_imp_iff, true_or, or_true, ly_t0, ly_t1, ly_t2, ly_t7, ly_t8, ly_t15, ly_t16, ly_t64, ly_tm64] at * <;> omega)
    | (exfalso; clear hp; simp only [ly_ok, Int32.lt_iff_toInt_lt, Int32.le_iff_toInt_le, ← Int32.toInt_inj, true_imp_iff, true_or, or_true, ly_t0, ly_t1, ly_t2, ly_t7, ly_t8, ly_t15, ly_t16, ly_t64, ly_tm64] at * <;> omega)

theorem ly_yf14 {post : Int32 → Prop} {a b : Int32} (hp : ∀ r : Int32, (r = 0 ∨ r = 1) → (r = 1 ↔ ly_ok 14 a.toInt b.toInt) → post r) : wpY_fits post (nI 14) a b := by
  unfold wpY_fits
  simp only [wpY_usesSymbol, wY_fits_185, wY_fits_163, wY_fits_148, wY_fits_143, wpY_in]
  iterate 40 (first | refine br_t (by decide) ?_ | refine br_f (by decide) ?_ | skip)
  repeat' (first | refine br_t (by decide) ?_ | refine br_f (by decide) ?_ | apply And.intro | intro _)
  all_goals first
    | decide
    | (exfalso; exact (by assumption : ¬ True) trivial)
    | (refine hp 0 (Or.inl rfl) (iff_of_false (by decide) (fun hh => ?_)); clear hp; simp only [ly_ok, Int32.lt_iff_toInt_lt, Int32.le_iff_toInt_le, ← Int32.toInt_inj, true_imp_iff, true_or, or_true, ly_t0, ly_t1, ly_t2, ly_t7, ly_t8, ly_t15, ly_t16, ly_t64, ly_tm64] at * <;> omega)
    | (refine hp 1 (Or.inr rfl) (iff_of_true rfl ?_); clear hp; simp only [ly_ok, Int32.lt_iff_toInt_lt, Int32.le_iff_toInt_le, ← Int32.toInt_inj, true_imp_iff, true_or, or_true, ly_t0, ly_t1, ly_t2, ly_t7, ly_t8, ly_t15, ly_t16, ly_t64, ly_tm64] at * <;> omega)
    | (exfalso; clear hp; simp only [ly_ok, Int32.lt_iff_toInt_lt, Int32.le_iff_toInt_le, ← Int32.toInt_inj, true_imp_iff, true_or, or_true, ly_t0, ly_t1, ly_t2, ly_t7, ly_t8, ly_t15, ly_t16, ly_t64, ly_tm64] at * <;> omega)

theorem ly_yf15 {post : Int32 → Prop} {a b : Int32} (hp : ∀ r : Int32, (r = 0 ∨ r = 1) → (r = 1 ↔ ly_ok 15 a.toInt b.toInt) → post r) : wpY_fits post (nI 15) a b := by
  unfold wpY_fits
  simp only [wpY_usesSymbol, wY_fits_185, wY_fits_163, wY_fits_148, wY_fits_143, wpY_in]
  iterate 40 (first | refine br_t (by decide) ?_ | refine br_f (by decide) ?_ | skip)
  repeat' (first | refine br_t (by decide) ?_ | refine br_f (by decide) ?_ | apply And.intro | intro _)
  all_goals first
    | decide
    | (exfalso; exact (by assumption : ¬ True) trivial)
    | (refine hp 0 (Or.inl rfl) (iff_of_false (by decide) (fun hh => ?_)); clear hp; simp only [ly_ok, Int32.lt_iff_toInt_lt, Int32.le_iff_toInt_le, ← Int32.toInt_inj, true_imp_iff, true_or, or_true, ly_t0, ly_t1, ly_t2, ly_t7, ly_t8, ly_t15, ly_t16, ly_t64, ly_tm64] at * <;> omega)
    | (refine hp 1 (Or.inr rfl) (iff_of_true rfl ?_); clear hp; simp only [ly_ok, Int32.lt_iff_toInt_lt, Int32.le_iff_toInt_le, ← Int32.toInt_inj, true_imp_iff, true_or, or_true, ly_t0, ly_t1, ly_t2, ly_t7, ly_t8, ly_t15, ly_t16, ly_t64, ly_tm64] at * <;> omega)
    | (exfalso; clear hp; simp only [ly_ok, Int32.lt_iff_toInt_lt, Int32.le_iff_toInt_le, ← Int32.toInt_inj, true_imp_iff, true_or, or_true, ly_t0, ly_t1, ly_t2, ly_t7, ly_t8, ly_t15, ly_t16, ly_t64, ly_tm64] at * <;> omega)

theorem ly_yf16 {post : Int32 → Prop} {a b : Int32} (hp : ∀ r : Int32, (r = 0 ∨ r = 1) → (r = 1 ↔ ly_ok 16 a.toInt b.toInt) → post r) : wpY_fits post (nI 16) a b := by
  unfold wpY_fits
  simp only [wpY_usesSymbol, wY_fits_185, wY_fits_163, wY_fits_148, wY_fits_143, wpY_in]
  iterate 40 (first | refine br_t (by decide) ?_ | refine br_f (by decide) ?_ | skip)
  repeat' (first | refine br_t (by decide) ?_ | refine br_f (by decide) ?_ | apply And.intro | intro _)
  all_goals first
    | decide
    | (exfalso; exact (by assumption : ¬ True) trivial)
    | (refine hp 0 (Or.inl rfl) (iff_of_false (by decide) (fun hh => ?_)); clear hp; simp only [ly_ok, Int32.lt_iff_toInt_lt, Int32.le_iff_toInt_le, ← Int32.toInt_inj, true_imp_iff, true_or, or_true, ly_t0, ly_t1, ly_t2, ly_t7, ly_t8, ly_t15, ly_t16, ly_t64, ly_tm64] at * <;> omega)
    | (refine hp 1 (Or.inr rfl) (iff_of_true rfl ?_); clear hp; simp only [ly_ok, Int32.lt_iff_toInt_lt, Int32.le_iff_toInt_le, ← Int32.toInt_inj, true_imp_iff, true_or, or_true, ly_t0, ly_t1, ly_t2, ly_t7, ly_t8, ly_t15, ly_t16, ly_t64, ly_tm64] at * <;> omega)
    | (exfalso; clear hp; simp only [ly_ok, Int32.lt_iff_toInt_lt, Int32.le_iff_toInt_le, ← Int32.toInt_inj, true_imp_iff, true_or, or_true, ly_t0, ly_t1, ly_t2, ly_t7, ly_t8, ly_t15, ly_t16, ly_t64, ly_tm64] at * <;> omega)

theorem ly_yf17 {post : Int32 → Prop} {a b : Int32} (hp : ∀ r : Int32, (r = 0 ∨ r = 1) → (r = 1 ↔ ly_ok 17 a.toInt b.toInt) → post r) : wpY_fits post (nI 17) a b := by
  unfold wpY_fits
  simp only [wpY_usesSymbol, wY_fits_185, wY_fits_163, wY_fits_148, wY_fits_143, wpY_in]
  iterate 40 (first | refine br_t (by decide) ?_ | refine br_f (by decide) ?_ | skip)
  repeat' (first | refine br_t (by decide) ?_ | refine br_f (by decide) ?_ | apply And.intro | intro _)
  all_goals first
    | decide
    | (exfalso; exact (by assumption : ¬ True) trivial)
    | (refine hp 0 (Or.inl rfl) (iff_of_false (by decide) (fun hh => ?_)); clear hp; simp only [ly_ok, Int32.lt_iff_toInt_lt, Int32.le_iff_toInt_le, ← Int32.toInt_inj, true_imp_iff, true_or, or_true, ly_t0, ly_t1, ly_t2, ly_t7, ly_t8, ly_t15, ly_t16, ly_t64, ly_tm64] at * <;> omega)
    | (refine hp 1 (Or.inr rfl) (iff_of_true rfl ?_); clear hp; simp only [ly_ok, Int32.lt_iff_toInt_lt, Int32.le_iff_toInt_le, ← Int32.toInt_inj, true_imp_iff, true_or, or_true, ly_t0, ly_t1, ly_t2, ly_t7, ly_t8, ly_t15, ly_t16, ly_t64, ly_tm64] at * <;> omega)
    | (exfalso; clear hp; simp only [ly_ok, Int32.lt_iff_toInt_lt, Int32.le_iff_toInt_le, ← Int32.toInt_inj, true_imp_iff, true_or, or_true, ly_t0, ly_t1, ly_t2, ly_t7, ly_t8, ly_t15, ly_t16, ly_t64, ly_tm64] at * <;> omega)

theorem ly_yf18 {post : Int32 → Prop} {a b : Int32} (hp : ∀ r : Int32, (r = 0 ∨ r = 1) → (r = 1 ↔ ly_ok 18 a.toInt b.toInt) → post r) : wpY_fits post (nI 18) a b := by
  unfold wpY_fits
  simp only [wpY_usesSymbol, wY_fits_185, wY_fits_163, wY_fits_148, wY_fits_143, wpY_in]
  iterate 40 (first | refine br_t (by decide) ?_ | refine br_f (by decide) ?_ | skip)
  repeat' (first | refine br_t (by decide) ?_ | refine br_f (by decide) ?_ | apply And.intro | intro _)
  all_goals first
    | decide
    | (exfalso; exact (by assumption : ¬ True) trivial)
    | (refine hp 0 (Or.inl rfl) (iff_of_false (by decide) (fun hh => ?_)); clear hp; simp only [ly_ok, Int32.lt_iff_toInt_lt, Int32.le_iff_toInt_le, ← Int32.toInt_inj, true_imp_iff, true_or, or_true, ly_t0, ly_t1, ly_t2, ly_t7, ly_t8, ly_t15, ly_t16, ly_t64, ly_tm64] at * <;> omega)
    | (refine hp 1 (Or.inr rfl) (iff_of_true rfl ?_); clear hp; simp only [ly_ok, Int32.lt_iff_toInt_lt, Int32.le_iff_toInt_le, ← Int32.toInt_inj, true_imp_iff, true_or, or_true, ly_t0, ly_t1, ly_t2, ly_t7, ly_t8, ly_t15, ly_t16, ly_t64, ly_tm64] at * <;> omega)
    | (exfalso; clear hp; simp only [ly_ok, Int32.lt_iff_toInt_lt, Int32.le_iff_toInt_le, ← Int32.toInt_inj, true_imp_iff, true_or, or_true, ly_t0, ly_t1, ly_t2, ly_t7, ly_t8, ly_t15, ly_t16, ly_t64, ly_tm64] at * <;> omega)

theorem ly_yf19 {post : Int32 → Prop} {a b : Int32} (hp : ∀ r : Int32, (r = 0 ∨ r = 1) → (r = 1 ↔ ly_ok 19 a.toInt b.toInt) → post r) : wpY_fits post (nI 19) a b := by
  unfold wpY_fits
  simp only [wpY_usesSymbol, wY_fits_185, wY_fits_163, wY_fits_148, wY_fits_143, wpY_in]
  iterate 40 (first | refine br_t (by decide) ?_ | refine br_f (by decide) ?_ | skip)
  repeat' (first | refine br_t (by decide) ?_ | refine br_f (by decide) ?_ | apply And.intro | intro _)
  all_goals first
    | decide
    | (exfalso; exact (by assumption : ¬ True) trivial)
    | (refine hp 0 (Or.inl rfl) (iff_of_false (by decide) (fun hh => ?_)); clear hp; simp only [ly_ok, Int32.lt_iff_toInt_lt, Int32.le_iff_toInt_le, ← Int32.toInt_inj, true_imp_iff, true_or, or_true, ly_t0, ly_t1, ly_t2, ly_t7, ly_t8, ly_t15, ly_t16, ly_t64, ly_tm64] at * <;> omega)
    | (refine hp 1 (Or.inr rfl) (iff_of_true rfl ?_); clear hp; simp only [ly_ok, Int32.lt_iff_toInt_lt, Int32.le_iff_toInt_le, ← Int32.toInt_inj, true_imp_iff, true_or, or_true, ly_t0, ly_t1, ly_t2, ly_t7, ly_t8, ly_t15, ly_t16, ly_t64, ly_tm64] at * <;> omega)
    | (exfalso; clear hp; simp only [ly_ok, Int32.lt_iff_toInt_lt, Int32.le_iff_toInt_le, ← Int32.toInt_inj, true_imp_iff, true_or, or_true, ly_t0, ly_t1, ly_t2, ly_t7, ly_t8, ly_t15, ly_t16, ly_t64, ly_tm64] at * <;> omega)

theorem ly_xfA {post : Int32 → Prop} {op : Nat} (hop : op ≤ 19) {a b : Int32} (hp : ∀ r : Int32, (r = 0 ∨ r = 1) → (r = 1 ↔ ly_ok op a.toInt b.toInt) → post r) : wpX_operandsFit post (nI op) a b := by
  have h : op = 0 ∨ op = 1 ∨ op = 2 ∨ op = 3 ∨ op = 4 ∨ op = 5 ∨ op = 6 ∨ op = 7 ∨ op = 8 ∨ op = 9 ∨ op = 10 ∨ op = 11 ∨ op = 12 ∨ op = 13 ∨ op = 14 ∨ op = 15 ∨ op = 16 ∨ op = 17 ∨ op = 18 ∨ op = 19 := by omega
  rcases h with rfl | rfl | rfl | rfl | rfl | rfl | rfl | rfl | rfl | rfl | rfl | rfl | rfl | rfl | rfl | rfl | rfl | rfl | rfl | rfl
  · exact ly_xf0 hp
  · exact ly_xf1 hp
  · exact ly_xf2 hp
  · exact ly_xf3 hp
  · exact ly_xf4 hp
  · exact ly_xf5 hp
  · exact ly_xf6 hp
  · exact ly_xf7 hp
  · exact ly_xf8 hp
  · exact ly_xf9 hp
  · exact ly_xf10 hp
  · exact ly_xf11 hp
  · exact ly_xf12 hp
  · exact ly_xf13 hp
  · exact ly_xf14 hp
  · exact ly_xf15 hp
  · exact ly_xf16 hp
  · exact ly_xf17 hp
  · exact ly_xf18 hp
  · exact ly_xf19 hp

theorem ly_yfA {post : Int32 → Prop} {op : Nat} (hop : op ≤ 19) {a b : Int32} (hp : ∀ r : Int32, (r = 0 ∨ r = 1) → (r = 1 ↔ ly_ok op a.toInt b.toInt) → post r) : wpY_fits post (nI op) a b := by
  have h : op = 0 ∨ op = 1 ∨ op = 2 ∨ op = 3 ∨ op = 4 ∨ op = 5 ∨ op = 6 ∨ op = 7 ∨ op = 8 ∨ op = 9 ∨ op = 10 ∨ op = 11 ∨ op = 12 ∨ op = 13 ∨ op = 14 ∨ op = 15 ∨ op = 16 ∨ op = 17 ∨ op = 18 ∨ op = 19 := by omega
  rcases h with rfl | rfl | rfl | rfl | rfl | rfl | rfl | rfl | rfl | rfl | rfl | rfl | rfl | rfl | rfl | rfl | rfl | rfl | rfl | rfl
  · exact ly_yf0 hp
  · exact ly_yf1 hp
  · exact ly_yf2 hp
  · exact ly_yf3 hp
  · exact ly_yf4 hp
  · exact ly_yf5 hp
  · exact ly_yf6 hp
  · exact ly_yf7 hp
  · exact ly_yf8 hp
  · exact ly_yf9 hp
  · exact ly_yf10 hp
  · exact ly_yf11 hp
  · exact ly_yf12 hp
  · exact ly_yf13 hp
  · exact ly_yf14 hp
  · exact ly_yf15 hp
  · exact ly_yf16 hp
  · exact ly_yf17 hp
  · exact ly_yf18 hp
  · exact ly_yf19 hp

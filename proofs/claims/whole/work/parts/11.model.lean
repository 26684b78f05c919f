/-! the pure model of a link: labels, uses, faulty modules, sections -/
def ly_lb (o a : Nat → Int32) (s : Int32) (k : Nat) : Bool := decide (o k = 0 ∧ a k = s)
def ly_l3 (o a b : Nat → Int32) (s t : Int32) (k : Nat) : Bool := decide (o k = 0 ∧ a k = s ∧ b k = t)
def ly_us (o : Int32) : Bool := decide (o = 8 ∨ o = 9 ∨ o = 10 ∨ o = 12 ∨ o = 16)
def ly_sy (o a b : Int32) : Int32 := if o = 16 then a else b
def ly_up (o a b : Nat → Int32) (s : Int32) (k : Nat) : Bool := ly_us (o k) && decide (ly_sy (o k) (a k) (b k) = s)
def ly_yl (o a cnt : Nat → Int32) (m : Nat) (s : Int32) : Int32 := ly_fd (ly_lb o a s) (ly_c cnt m) (24 * m)
def ly_xl (o a b cnt : Nat → Int32) (m : Nat) (s t : Int32) : Int32 := ly_fd (ly_l3 o a b s t) (ly_c cnt m) (24 * m)
def ly_e3 (o a b cnt : Nat → Int32) (m : Nat) (s t : Int32) : Bool := ly_ex (ly_l3 o a b s t) (24 * m) (ly_c cnt m)
def ly_eu (o a b cnt : Nat → Int32) (m : Nat) (s : Int32) : Bool := ly_ex (ly_up o a b s) (24 * m) (ly_c cnt m)
def ly_ak (o a b cnt : Nat → Int32) (m : Nat) (s : Int32) : Bool := ly_eu o a b cnt m s && !ly_e3 o a b cnt m s 0
def ly_df (o a b cnt : Nat → Int32) (m : Nat) (s : Int32) : Bool := ly_e3 o a b cnt m s 1 || ly_e3 o a b cnt m s 2
def ly_fp (o a : Nat → Int32) (m k : Nat) : Bool := decide (o k = 0) && ly_ex (ly_lb o a (a k)) (24 * m) (k - 24 * m)
def ly_fy (o a cnt : Nat → Int32) (m : Nat) : Bool := ly_ex (ly_fp o a m) (24 * m) (ly_c cnt m)
def ly_sn (o a : Nat → Int32) (m : Nat) : Nat → Nat
  | 0 => 0
  | d + 1 => if o (24 * m + d) = 19 then (a (24 * m + d)).toNatClampNeg else ly_sn o a m d
def ly_un (o a : Nat → Int32) (i : Nat) : Nat := 2 * (i / 24) + ly_sn o a (i / 24) (i % 24 + 1)
/-- the list: wanted, defined, listed, of several global, first of a kind -/
def ly_wt (o a b cnt : Nat → Int32) (g : Nat → Nat) (n s : Nat) : Bool := decide (s = 0) || ly_ex (fun i => ly_ak o a b cnt (g i) (nI s)) 0 n
def ly_dd (o a b cnt : Nat → Int32) (g : Nat → Nat) (n s : Nat) : Bool := ly_ex (fun i => ly_df o a b cnt (g i) (nI s)) 0 n
def ly_li (g : Nat → Nat) (n m : Nat) : Bool := ly_ex (fun i => decide (g i = m)) 0 n
def ly_on (o a b cnt : Nat → Int32) (g : Nat → Nat) (s : Int32) : Nat → Bool
  | 0 => false
  | i + 1 => ly_on o a b cnt g s i || ly_e3 o a b cnt (g i) s 1
def ly_sv (o a b cnt : Nat → Int32) (g : Nat → Nat) (s : Int32) : Nat → Bool
  | 0 => false
  | i + 1 => ly_sv o a b cnt g s i || (ly_on o a b cnt g s i && ly_e3 o a b cnt (g i) s 1)
def ly_fl (o a b cnt : Nat → Int32) (g : Nat → Nat) (s t : Int32) : Nat → Int32
  | 0 => -1
  | i + 1 => if ly_fl o a b cnt g s t i = -1 then ly_xl o a b cnt (g i) s t else ly_fl o a b cnt g s t i
def ly_co (o a b cnt : Nat → Int32) (g : Nat → Nat) (n : Nat) (s : Int32) : Int32 := if ly_fl o a b cnt g s 1 n = -1 then ly_fl o a b cnt g s 2 n else ly_fl o a b cnt g s 1 n
/-- the archive -/
def ly_nx (miss : Nat → Bool) (inn : Nat → Int32) : Nat → Nat → Int32
  | 0, _ => -1
  | d + 1, s => if miss s = true ∧ ¬ inn s = -1 then inn s else ly_nx miss inn d (s + 1)
def ly_ms (o a b cnt : Nat → Int32) (g : Nat → Nat) (n s : Nat) : Bool := ly_wt o a b cnt g n s && !ly_dd o a b cnt g n s
def ly_ia (o a b cnt role : Nat → Int32) (s : Nat) : Int32 := ly_fd (fun m => decide (role m = 2) && ly_df o a b cnt m (nI s)) 6 0
def ly_na (o a b cnt role : Nat → Int32) (g : Nat → Nat) (n : Nat) : Int32 := ly_nx (ly_ms o a b cnt g n) (ly_ia o a b cnt role) 16 0
def ly_ar (o a b cnt role : Nat → Int32) : Nat → (Nat → Nat) → Nat → Int32 × (Nat → Nat) × Nat
  | 0, g, n => (-1, g, n)
  | f + 1, g, n => if ly_na o a b cnt role g n = -1 then (-1, g, n) else if ly_fy o a cnt (ly_na o a b cnt role g n).toNatClampNeg = true then (ly_na o a b cnt role g n, g, n) else ly_ar o a b cnt role f (ly_uN g n (ly_na o a b cnt role g n).toNatClampNeg) (n + 1)
def ly_tk (role : Nat → Int32) : Nat → Nat × (Nat → Nat)
  | 0 => (0, fun _ => 0)
  | j + 1 => if role j = 1 then ((ly_tk role j).1 + 1, ly_uN (ly_tk role j).2 (ly_tk role j).1 j) else ly_tk role j
/-! facts -/
theorem ly_nfu {o a cnt : Nat → Int32} {m : Nat} (h : ly_fy o a cnt m = false) {s : Int32} {i j : Nat} (hi : 24 * m ≤ i) (hi2 : i < 24 * m + ly_c cnt m) (hj : 24 * m ≤ j) (hj2 : j < 24 * m + ly_c cnt m) (li : ly_lb o a s i = true) (lj : ly_lb o a s j = true) : i = j := by
  have key : ∀ i j, 24 * m ≤ i → i < j → j < 24 * m + ly_c cnt m → ly_lb o a s i = true → ly_lb o a s j = true → False := by
    intro i j h1 h2 h3 l1 l2
    have hf := ly_ex_f.mp h j (by omega) h3
    obtain ⟨oj, aj⟩ := of_decide_eq_true l2
    have e : ly_ex (ly_lb o a (a j)) (24 * m) (j - 24 * m) = true := ly_ex_iff.mpr ⟨i, h1, by omega, by rw [aj]; exact l1⟩
    unfold ly_fp at hf
    rw [e, decide_eq_true oj] at hf
    exact absurd hf (by decide)
  rcases Nat.lt_trichotomy i j with h1 | h1 | h1
  · exact (key i j hi h1 hj2 li lj).elim
  · exact h1
  · exact (key j i hj h1 hi2 lj li).elim
/-- a module that isn't faulty: its label of a kind is its label, if that is of the kind -/
theorem ly_xl_yl {o a b cnt : Nat → Int32} {m : Nat} (h : ly_fy o a cnt m = false) (hm : m < 6) (hc : ly_c cnt m ≤ 24) (s : Int32) :
    (ly_yl o a cnt m s = -1 ∧ ∀ t, ly_xl o a b cnt m s t = -1) ∨ ∃ k, 24 * m ≤ k ∧ k < 24 * m + ly_c cnt m ∧ o k = 0 ∧ a k = s ∧ ly_yl o a cnt m s = nI k ∧ ∀ t, ly_xl o a b cnt m s t = if b k = t then nI k else -1 := by
  rcases ly_fd_c (ly_lb o a s) (ly_c cnt m) (24 * m) with ⟨e, hn⟩ | ⟨k, h1, h2, h3, h4, e⟩
  · refine Or.inl ⟨e, fun t => ?_⟩
    rcases ly_fd_c (ly_l3 o a b s t) (ly_c cnt m) (24 * m) with ⟨e2, _⟩ | ⟨j, j1, j2, j3, _, _⟩
    · exact e2
    · have := hn j j1 j2
      obtain ⟨p1, p2, _⟩ := of_decide_eq_true j3
      unfold ly_lb at this
      rw [decide_eq_true ⟨p1, p2⟩] at this
      exact absurd this (by decide)
  · obtain ⟨ok, ak⟩ := of_decide_eq_true h3
    refine Or.inr ⟨k, h1, h2, ok, ak, e, fun t => ?_⟩
    rcases ly_fd_c (ly_l3 o a b s t) (ly_c cnt m) (24 * m) with ⟨e2, hn⟩ | ⟨j, j1, j2, j3, _, e2⟩
    · rw [if_neg]
      · exact e2
      · intro hb
        have := hn k h1 h2
        unfold ly_l3 at this
        rw [decide_eq_true ⟨ok, ak, hb⟩] at this
        exact absurd this (by decide)
    · obtain ⟨p1, p2, p3⟩ := of_decide_eq_true j3
      have ejk : j = k := ly_nfu h j1 j2 h1 h2 (s := s) (decide_eq_true ⟨p1, p2⟩) h3
      subst ejk
      rw [if_pos p3]; exact e2
theorem ly_e3_xl {o a b cnt : Nat → Int32} {m : Nat} (hm : m < 6) (hc : ly_c cnt m ≤ 24) (s t : Int32) : ly_e3 o a b cnt m s t = decide (¬ ly_xl o a b cnt m s t = -1) := ly_fd_ex (by omega)
/-- Y's fold over the list -/
theorem ly_on_fl {o a b cnt : Nat → Int32} {g : Nat → Nat} (hW : ly_W cnt) {s : Int32} : ∀ n, (∀ i, i < n → g i < 6) → ly_on o a b cnt g s n = decide (¬ ly_fl o a b cnt g s 1 n = -1) := by
  intro n
  induction n with
  | zero => intro _; rfl
  | succ n ih =>
    intro hg
    have h6 := hg n (by omega)
    show (ly_on o a b cnt g s n || ly_e3 o a b cnt (g n) s 1) = decide (¬ ly_fl o a b cnt g s 1 (n + 1) = -1)
    rw [ih (fun i hi => hg i (by omega)), ly_e3_xl h6 (hW _ h6).1]
    by_cases h : ly_fl o a b cnt g s 1 n = -1
    · have e : ly_fl o a b cnt g s 1 (n + 1) = ly_xl o a b cnt (g n) s 1 := if_pos h
      rw [e, decide_eq_false (fun z => z h), Bool.false_or]
    · have e : ly_fl o a b cnt g s 1 (n + 1) = ly_fl o a b cnt g s 1 n := if_neg h
      rw [e, decide_eq_true h, Bool.true_or]
theorem ly_ft_b {o a b : Int32} (h : ly_ft o a b) (e : o = 0) : b = 0 ∨ b = 1 ∨ b = 2 := by
  obtain ⟨op, h1, h2, h3, _⟩ := h
  have : op = 0 := ly_inj (b := 0) (by omega) (by omega) (h2.symm.trans e)
  obtain ⟨_, j, _, j2, j3⟩ := h3 this
  have hj : j = 0 ∨ j = 1 ∨ j = 2 := by omega
  rcases hj with rfl | rfl | rfl
  · exact Or.inl j3
  · exact Or.inr (Or.inl j3)
  · exact Or.inr (Or.inr j3)
theorem ly_ft_a {o a b : Int32} (h : ly_ft o a b) (e : o = 0) : ∃ f : Nat, f < 16 ∧ a = nI f := by
  obtain ⟨op, h1, h2, h3, _⟩ := h
  have : op = 0 := ly_inj (b := 0) (by omega) (by omega) (h2.symm.trans e)
  obtain ⟨⟨j, _, j2, j3⟩, _⟩ := h3 this
  exact ⟨j, by omega, j3⟩
theorem ly_ft_s {o a b : Int32} (h : ly_ft o a b) (e : ly_us o = true) : ∃ f : Nat, f < 16 ∧ ly_sy o a b = nI f := by
  obtain ⟨op, h1, h2, _, h16, _, _, _, h8⟩ := h
  subst h2
  by_cases e16 : op = 16
  · obtain ⟨j, _, j2, j3⟩ := h16 e16
    subst e16
    exact ⟨j, by omega, by unfold ly_sy; rw [if_pos (by decide)]; exact j3⟩
  · have n16 : ¬ nI op = 16 := fun z => e16 (ly_inj (b := 16) (by omega) (by omega) z)
    have h4 : op = 8 ∨ op = 9 ∨ op = 10 ∨ op = 12 := by
      rcases of_decide_eq_true e with z | z | z | z | z
      · exact Or.inl (ly_inj (b := 8) (by omega) (by omega) z)
      · exact Or.inr (Or.inl (ly_inj (b := 9) (by omega) (by omega) z))
      · exact Or.inr (Or.inr (Or.inl (ly_inj (b := 10) (by omega) (by omega) z)))
      · exact Or.inr (Or.inr (Or.inr (ly_inj (b := 12) (by omega) (by omega) z)))
      · exact absurd z n16
    obtain ⟨j, _, j2, j3⟩ := h8 h4
    exact ⟨j, by omega, by unfold ly_sy; rw [if_neg n16]; exact j3⟩
theorem ly_ft_19 {o a b : Int32} (h : ly_ft o a b) (e : o = 19) : ∃ f : Nat, f < 2 ∧ a = nI f := by
  obtain ⟨op, h1, h2, _, _, _, _, h19, _⟩ := h
  have : op = 19 := ly_inj (b := 19) (by omega) (by omega) (h2.symm.trans e)
  obtain ⟨j, _, j2, j3⟩ := h19 this
  exact ⟨j, by omega, j3⟩
theorem ly_sn_lt {o a b : Nat → Int32} (hF : ly_F o a b) {m : Nat} (hm : m < 6) : ∀ d, d ≤ 24 → ly_sn o a m d < 2 := by
  intro d
  induction d with
  | zero => intro _; exact Nat.zero_lt_two
  | succ d ih =>
    intro hd
    simp only [ly_sn]
    by_cases h : o (24 * m + d) = 19
    · rw [if_pos h]
      obtain ⟨f, hf, e⟩ := ly_ft_19 (hF (24 * m + d) (by omega)) h
      rw [e, nI_clamp (by omega)]; exact hf
    · rw [if_neg h]; exact ih (by omega)
theorem ly_un_lt {o a b : Nat → Int32} (hF : ly_F o a b) {i : Nat} (hi : i < 144) : ly_un o a i < 12 := by
  have h := ly_sn_lt hF (m := i / 24) (by omega) (i % 24 + 1) (by omega)
  unfold ly_un; omega
theorem ly_un_at {o a : Nat → Int32} {m k : Nat} (hk : k < 24) : ly_un o a (24 * m + k) = 2 * m + ly_sn o a m (k + 1) := by
  unfold ly_un
  rw [show (24 * m + k) / 24 = m by omega, show (24 * m + k) % 24 = k by omega]

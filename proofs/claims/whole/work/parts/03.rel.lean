/-! the relation -/
def ly_rn (xouts : Int32) (xreg yreg xstore ymem xout yout : Nat → Int32) : Prop :=
  ly_AG 8 xreg yreg ∧ ly_AG 256 xstore ymem ∧ ∃ o : Nat, o ≤ 300 ∧ xouts = nI o ∧ ∀ k, k < 40 → xout k = if k < o then yout k else 0
def ly_lk (xllen ymany xtend ytend xaend yend xlcnt ymade xlrnd yrounds yentry : Int32) (xlist ylist xplace yplace ximg yimg xchosen ysym : Nat → Int32) : Prop :=
  ∃ n : Nat, n ≤ 6 ∧ xllen = nI n ∧ ymany = nI n ∧ ly_AG n xlist ylist ∧ xtend = ytend ∧ xaend = yend ∧ xlcnt = ymade ∧ xlrnd = yrounds ∧ ly_AG 144 xplace yplace ∧ ly_AG 256 ximg yimg ∧ yentry = ysym 0 ∧
    ∀ s, s < 16 → (xchosen s = -1 ∧ ysym s = -1 ∧ s ≠ 0) ∨ ∃ t : Nat, t < 144 ∧ xchosen s = nI t ∧ ysym s = yplace t
def i_Rel (_ : Nat) (u : SX) (v : SY) : Prop :=
  ∃ (xbase xstrip xllen xtend xaend xlcnt xlrnd xlinked xblamed xouts xpc xsteps xran : Int32) (xops xA xB xcnt xrole xloc xglo xweak xuse xrep xunit xtgt xstay xlong xlist xchosen xplace ximg xreg xstore xout : Nat → Int32) (ymany ytend yend ymade yrounds yentry : Int32) (ylist yplace ysym yimg ystay ywide ymem yreg yout : Nat → Int32), u = (xbase, xstrip, xllen, xtend, xaend, xlcnt, xlrnd, xlinked, xblamed, xouts, xpc, xsteps, xran, xops, xA, xB, xcnt, xrole, xloc, xglo, xweak, xuse, xrep, xunit, xtgt, xstay, xlong, xlist, xchosen, xplace, ximg, xreg, xstore, xout) ∧ v = (xbase, xstrip, ymany, xblamed, ytend, yend, ymade, yrounds, yentry, xlinked, xran, xpc, xsteps, xouts, xops, xA, xB, xcnt, xrole, ylist, yplace, ysym, yimg, ystay, ywide, ymem, yreg, yout) ∧ ly_W xcnt ∧ ly_F xops xA xB ∧ (∃ b : Nat, b ≤ 100 ∧ xbase = nI b) ∧ ly_rn xouts xreg yreg xstore ymem xout yout ∧
    (¬ xlinked = 0 → ly_lk xllen ymany xtend ytend xaend yend xlcnt ymade xlrnd yrounds yentry xlist ylist xplace yplace ximg yimg xchosen ysym)
theorem i_up {k : Nat} {u : SX} {v : SY} (h : i_Rel k u v) : i_Rel (k + 5) u v := h
theorem i_vc0 : wpX_init (fun u => wpY_init (fun v => i_Rel 0 u v)) := by
  refine ⟨0, 0, 0, 0, 0, 0, 0, 0, (-1), 0, 0, 0, 0, (fun _ => 0), (fun _ => 0), (fun _ => 0), (fun _ => 0), (fun _ => 0), (fun _ => 0), (fun _ => 0), (fun _ => 0), (fun _ => 0), (fun _ => 0), (fun _ => 0), (fun _ => 0), (fun _ => 0), (fun _ => 0), (fun _ => 0), (fun _ => 0), (fun _ => 0), (fun _ => 0), (fun _ => 0), (fun _ => 0), (fun _ => 0), 0, 0, 0, 0, 0, 0, (fun _ => 0), (fun _ => 0), (fun _ => 0), (fun _ => 0), (fun _ => 0), (fun _ => 0), (fun _ => 0), (fun _ => 0), (fun _ => 0), rfl, rfl, ly_W0, ly_F0, ⟨0, by omega, rfl⟩, ⟨fun _ _ => rfl, fun _ _ => rfl, 0, by omega, rfl, fun k _ => (if_neg (by omega)).symm⟩, fun h => absurd rfl h⟩
/-! ranges -/
theorem ly_t0 : (0 : Int32).toInt = 0 := by decide
theorem ly_t1 : (1 : Int32).toInt = 1 := by decide
theorem ly_t2 : (2 : Int32).toInt = 2 := by decide
theorem ly_t5 : (5 : Int32).toInt = 5 := by decide
theorem ly_t6 : (6 : Int32).toInt = 6 := by decide
theorem ly_t7 : (7 : Int32).toInt = 7 := by decide
theorem ly_t8 : (8 : Int32).toInt = 8 := by decide
theorem ly_t15 : (15 : Int32).toInt = 15 := by decide
theorem ly_t16 : (16 : Int32).toInt = 16 := by decide
theorem ly_t23 : (23 : Int32).toInt = 23 := by decide
theorem ly_t24 : (24 : Int32).toInt = 24 := by decide
theorem ly_t64 : (64 : Int32).toInt = 64 := by decide
theorem ly_tm64 : (-64 : Int32).toInt = -64 := by decide
theorem ly_t100 : (100 : Int32).toInt = 100 := by decide
theorem ly_t255 : (255 : Int32).toInt = 255 := by decide
theorem ly_t256 : (256 : Int32).toInt = 256 := by decide
/-- X's four range tests and Y's one: outside, inside -/
theorem ly_rx0 {post : Int32 → Prop} {x : Int32} (N : Nat) (h : x < 0 ∨ nI N ≤ x) (hp : post 0) : (x < 0 → post 0) ∧ (¬ x < 0 → ((nI N ≤ x → post 0) ∧ (¬ nI N ≤ x → post 1))) := by
  rcases h with h | h
  · exact br_t h hp
  · exact br_c (fun _ => hp) (fun _ => br_t h hp)
theorem ly_rx1 {post : Int32 → Prop} {j : Nat} (N : Nat) (h : j < N) (hN : N < 2 ^ 31) (hp : post 1) : (nI j < 0 → post 0) ∧ (¬ nI j < 0 → ((nI N ≤ nI j → post 0) ∧ (¬ nI N ≤ nI j → post 1))) :=
  br_f (nI_pos (by omega)) (br_f (nI_ge h hN) hp)
theorem ly_ry0 {post : Int32 → Prop} {x : Int32} (N : Nat) (hN : N + 1 < 2 ^ 31) (h : x < 0 ∨ nI (N + 1) ≤ x) (hp : post 0) : (x < 0 → post 0) ∧ (¬ x < 0 → ((nI N < x → post 0) ∧ (¬ nI N < x → post 1))) := by
  rcases h with h | h
  · exact br_t h hp
  · refine br_c (fun _ => hp) (fun h0 => br_t ?_ hp)
    obtain ⟨j, hj, rfl⟩ := nI_of h0
    rw [nI_leI hN hj] at h
    exact nI_lt (by omega) hj
theorem ly_ry1 {post : Int32 → Prop} {j : Nat} (N : Nat) (h : j < N + 1) (hN : N < 2 ^ 31) (hp : post 1) : (nI j < 0 → post 0) ∧ (¬ nI j < 0 → ((nI N < nI j → post 0) ∧ (¬ nI N < nI j → post 1))) :=
  br_f (nI_pos (by omega)) (br_f (nI_nlt (by omega) hN) hp)
theorem ly_yi0 {post : Int32 → Prop} {x H : Int32} (N : Nat) (hN : N + 1 < 2 ^ 31) (h : x < 0 ∨ nI (N + 1) ≤ x) (hp : post 0) (hH : H = nI N := by rfl) : wpY_in post x 0 H := by
  subst hH
  exact ly_ry0 N hN h hp
theorem ly_yi1 {post : Int32 → Prop} {j : Nat} {H : Int32} (N : Nat) (h : j < N + 1) (hN : N < 2 ^ 31) (hp : post 1) (hH : H = nI N := by rfl) : wpY_in post (nI j) 0 H := by
  subst hH
  exact ly_ry1 N h hN hp
theorem ly_xmod0 {post : Int32 → Prop} {x : Int32} (h : x < 0 ∨ nI 6 ≤ x) (hp : post 0) : wpX_isModule post x := ly_rx0 6 h hp
theorem ly_xmod1 {post : Int32 → Prop} {j : Nat} (h : j < 6) (hp : post 1) : wpX_isModule post (nI j) := ly_rx1 6 h (by omega) hp
theorem ly_ymod0 {post : Int32 → Prop} {x : Int32} (h : x < 0 ∨ nI 6 ≤ x) (hp : post 0) : wpY_in post x 0 5 := ly_ry0 5 (by omega) h hp
theorem ly_ymod1 {post : Int32 → Prop} {j : Nat} (h : j < 6) (hp : post 1) : wpY_in post (nI j) 0 5 := ly_ry1 5 h (by omega) hp
theorem ly_xsym0 {post : Int32 → Prop} {x : Int32} (h : x < 0 ∨ nI 16 ≤ x) (hp : post 0) : wpX_isSymbol post x := ly_rx0 16 h hp
theorem ly_xsym1 {post : Int32 → Prop} {j : Nat} (h : j < 16) (hp : post 1) : wpX_isSymbol post (nI j) := ly_rx1 16 h (by omega) hp
theorem ly_ysym0 {post : Int32 → Prop} {x : Int32} (h : x < 0 ∨ nI 16 ≤ x) (hp : post 0) : wpY_in post x 0 15 := ly_ry0 15 (by omega) h hp
theorem ly_ysym1 {post : Int32 → Prop} {j : Nat} (h : j < 16) (hp : post 1) : wpY_in post (nI j) 0 15 := ly_ry1 15 h (by omega) hp
theorem ly_xadr0 {post : Int32 → Prop} {x : Int32} (h : x < 0 ∨ nI 256 ≤ x) (hp : post 0) : wpX_isAddress post x := ly_rx0 256 h hp
theorem ly_xadr1 {post : Int32 → Prop} {j : Nat} (h : j < 256) (hp : post 1) : wpX_isAddress post (nI j) := ly_rx1 256 h (by omega) hp
theorem ly_yadr0 {post : Int32 → Prop} {x : Int32} (h : x < 0 ∨ nI 256 ≤ x) (hp : post 0) : wpY_in post x 0 255 := ly_ry0 255 (by omega) h hp
theorem ly_yadr1 {post : Int32 → Prop} {j : Nat} (h : j < 256) (hp : post 1) : wpY_in post (nI j) 0 255 := ly_ry1 255 h (by omega) hp
theorem ly_ix3 (x : Int32) {n : Nat} (hn : n < 2 ^ 31) : (x < 0 ∨ nI n ≤ x) ∨ ∃ j : Nat, j < n ∧ x = nI j := by
  rcases pk_ix x hn with h | h | h
  · exact Or.inl (Or.inl h)
  · exact Or.inl (Or.inr h)
  · exact Or.inr h

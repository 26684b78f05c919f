/-! the units that stay: without stripping the listed ones, with it the least closed set -/
def ly_tn (o a b cnt : Nat → Int32) (g : Nat → Nat) (n i : Nat) : Nat := (ly_tg o a b cnt g n i).toNatClampNeg
def ly_en (o a b cnt : Nat → Int32) (g : Nat → Nat) (n : Nat) : Nat := (ly_co o a b cnt g n 0).toNatClampNeg
theorem ly_tn_t {o a b cnt : Nat → Int32} (hW : ly_W cnt) (hF : ly_F o a b) {g : Nat → Nat} {n : Nat} (hG : ly_GD o a b cnt g n) {i : Nat} (hi : i < 144) (ha : ly_at o cnt g n i = true) : ly_th cnt g n (ly_tn o a b cnt g n i) ∧ ly_tg o a b cnt g n i = nI (ly_tn o a b cnt g n i) := by
  obtain ⟨t, h1, h2⟩ := ly_tg_t hW hF hG hi ha
  have e : ly_tn o a b cnt g n i = t := by
    unfold ly_tn; rw [h2]; exact nI_clamp (by have := h1.1; omega)
  rw [e]; exact ⟨h1, h2⟩
theorem ly_en_t {o a b cnt : Nat → Int32} (hW : ly_W cnt) {g : Nat → Nat} {n : Nat} (hG : ly_GD o a b cnt g n) : ly_th cnt g n (ly_en o a b cnt g n) ∧ ly_co o a b cnt g n 0 = nI (ly_en o a b cnt g n) := by
  obtain ⟨t, h1, h2⟩ := ly_co_t (s := 0) hW hG (by omega) (by unfold ly_wt; rw [decide_eq_true rfl, Bool.true_or])
  have h2' : ly_co o a b cnt g n 0 = nI t := h2
  have e : ly_en o a b cnt g n = t := by
    unfold ly_en; rw [h2']; exact nI_clamp (by have := h1.1; omega)
  rw [e]; exact ⟨h1, h2'⟩
def ly_RR (o a b cnt : Nat → Int32) (g : Nat → Nat) (n u : Nat) : Prop := ∀ S : Nat → Prop, S (ly_un o a (ly_en o a b cnt g n)) → (∀ i, i < 144 → ly_at o cnt g n i = true → S (ly_un o a i) → S (ly_un o a (ly_tn o a b cnt g n i))) → S u
theorem ly_RR_0 {o a b cnt : Nat → Int32} {g : Nat → Nat} {n : Nat} : ly_RR o a b cnt g n (ly_un o a (ly_en o a b cnt g n)) := fun _ h _ => h
theorem ly_RR_s {o a b cnt : Nat → Int32} {g : Nat → Nat} {n i : Nat} (hi : i < 144) (ha : ly_at o cnt g n i = true) (h : ly_RR o a b cnt g n (ly_un o a i)) : ly_RR o a b cnt g n (ly_un o a (ly_tn o a b cnt g n i)) := fun S h0 hs => hs i hi ha (h S h0 hs)
def ly_IV (o a b cnt : Nat → Int32) (g : Nat → Nat) (n : Nat) (st : Nat → Int32) : Prop := (∀ u, u < 12 → (st u = 0 ∨ st u = 1) ∧ (¬ st u = 0 → ly_RR o a b cnt g n u)) ∧ ¬ st (ly_un o a (ly_en o a b cnt g n)) = 0
def ly_CL (o a b cnt : Nat → Int32) (g : Nat → Nat) (n : Nat) (st : Nat → Int32) : Prop := ∀ i, i < 144 → ly_at o cnt g n i = true → ¬ st (ly_un o a i) = 0 → ¬ st (ly_un o a (ly_tn o a b cnt g n i)) = 0
def ly_SS (st : Nat → Int32) (u : Nat) : Bool := decide (¬ st u = 0)
theorem ly_IV_R {o a b cnt : Nat → Int32} {g : Nat → Nat} {n : Nat} {st : Nat → Int32} (h : ly_IV o a b cnt g n st) (hc : ly_CL o a b cnt g n st) {u : Nat} (hu : u < 12) : (¬ st u = 0 ↔ ly_RR o a b cnt g n u) :=
  ⟨(h.1 u hu).2, fun hr => hr (fun u => ¬ st u = 0) h.2 hc⟩
theorem ly_IV_u {o a b cnt : Nat → Int32} {g : Nat → Nat} {n : Nat} {st : Nat → Int32} (h : ly_IV o a b cnt g n st) {i : Nat} (hi : i < 144) (ha : ly_at o cnt g n i = true) (hu : ly_un o a i < 12) (hs : ¬ st (ly_un o a i) = 0) : ly_IV o a b cnt g n (upd st (ly_un o a (ly_tn o a b cnt g n i)) 1) := by
  refine ⟨fun u hu' => ?_, ?_⟩
  · by_cases e : u = ly_un o a (ly_tn o a b cnt g n i)
    · subst e; rw [pk_us]
      exact ⟨Or.inr rfl, fun _ => ly_RR_s hi ha ((h.1 _ hu).2 hs)⟩
    · rw [pk_un e]; exact h.1 u hu'
  · by_cases e : ly_un o a (ly_en o a b cnt g n) = ly_un o a (ly_tn o a b cnt g n i)
    · rw [e, pk_us]; decide
    · rw [pk_un e]; exact h.2
/-- a pass that adds none finds it closed -/
theorem ly_ct_cl {o a b cnt : Nat → Int32} (hF : ly_F o a b) {g : Nat → Nat} {n : Nat} {st st' : Nat → Int32} (hm : ∀ u, u < 12 → ¬ st u = 0 → ¬ st' u = 0) (hp : ∀ i, i < 144 → ly_at o cnt g n i = true → ¬ st (ly_un o a i) = 0 → ¬ st' (ly_un o a (ly_tn o a b cnt g n i)) = 0) (ht : ∀ i, i < 144 → ly_at o cnt g n i = true → ly_tn o a b cnt g n i < 144) (hct : ly_ct (ly_SS st') 12 ≤ ly_ct (ly_SS st) 12) : ly_CL o a b cnt g n st ∧ ly_CL o a b cnt g n st' := by
  have mono : ∀ u, u < 12 → ly_SS st u = true → ly_SS st' u = true := fun u hu h => decide_eq_true (hm u hu (of_decide_eq_true h))
  have same : ∀ u, u < 12 → ¬ st' u = 0 → ¬ st u = 0 := by
    intro u hu h h0
    have := ly_ct_str mono hu (decide_eq_true h) (decide_eq_false (fun z => z h0))
    omega
  refine ⟨fun i hi ha hs => ?_, fun i hi ha hs => ?_⟩
  · exact same _ (ly_un_lt hF (ht i hi ha)) (hp i hi ha hs)
  · exact hp i hi ha (same _ (ly_un_lt hF hi) hs)
/-! X -/
theorem ly_xk35 {post : SX → Prop} {J : Int32 → (Nat → Int32) → (Nat → Int32) → (Nat → Int32) → (Nat → Int32) → (Nat → Int32) → (Nat → Int32) → (Nat → Int32) → (Nat → Int32) → (Nat → Int32) → (Nat → Int32) → (Nat → Int32) → (Nat → Int32) → (Nat → Int32) → (Nat → Int32) → (Nat → Int32) → (Nat → Int32) → (Nat → Int32) → (Nat → Int32) → (Nat → Int32) → (Nat → Int32) → (Nat → Int32) → Prop} {xbase xstrip xtend xaend xlcnt xlrnd xlinked xblamed xouts xpc xsteps xran : Int32} {xops xA xB xcnt xrole xloc xglo xweak xuse xrep xunit xtgt xlong xlist xchosen xplace ximg xreg xstore xout : Nat → Int32} (hW : ly_W xcnt) (hF : ly_F xops xA xB) {g : Nat → Nat} {n : Nat} (hG : ly_GD xops xA xB xcnt g n) (hT : ∀ x, x < 144 → xtgt x = if ly_at xops xcnt g n x = true then ly_tg xops xA xB xcnt g n x else -1) (hU : ∀ t, ly_th xcnt g n t → xunit t = nI (ly_un xops xA t)) (st0 : Nat → Int32) {p : Nat}
    (H : ∀ st : Nat → Int32, ly_IV xops xA xB xcnt g n st → (∀ u, u < 12 → ¬ st0 u = 0 → ¬ st u = 0) → (∀ i, i < 144 → ly_at xops xcnt g n i = true → ¬ st0 (ly_un xops xA i) = 0 → ¬ st (ly_un xops xA (ly_tn xops xA xB xcnt g n i)) = 0) → (ly_CL xops xA xB xcnt g n st0 → ∀ u, u < 12 → (¬ st u = 0 → ¬ st0 u = 0)) → J (nI (p + 1)) xops xA xB xcnt xrole xloc xglo xweak xuse xrep xunit xtgt st xlong xlist xchosen xplace ximg xreg xstore xout) :
    ∀ (d j : Nat) (xstay : Nat → Int32), j + d = 144 → ly_IV xops xA xB xcnt g n xstay → (∀ u, u < 12 → ¬ st0 u = 0 → ¬ xstay u = 0) → (∀ i, i < j → ly_at xops xcnt g n i = true → ¬ st0 (ly_un xops xA i) = 0 → ¬ xstay (ly_un xops xA (ly_tn xops xA xB xcnt g n i)) = 0) → (ly_CL xops xA xB xcnt g n st0 → ∀ u, u < 12 → (¬ xstay u = 0 → ¬ st0 u = 0)) → wX_keepReached_35 post J (nI p) xbase xstrip (nI n) xtend xaend xlcnt xlrnd xlinked xblamed xouts xpc xsteps xran (d + 1) (nI j) xops xA xB xcnt xrole xloc xglo xweak xuse xrep xunit xtgt xstay xlong xlist xchosen xplace ximg xreg xstore xout := by
  intro d
  induction d with
  | zero =>
    intro j st hd h1 h2 h3 h4
    have e : j = 144 := by omega
    subst e
    exact br_t (by decide) (nm_r (nI_1 p) (H st h1 h2 h3 h4))
  | succ d ih =>
    intro j st hd h1 h2 h3 h4
    have hj : j < 144 := by omega
    have ej : (nI j).toNatClampNeg = j := ly_cl (by omega)
    have vj : vp_in (nI j) 144 := vp_in_nI hj (by omega)
    refine br_f (nI_ge (b := 144) hj (by omega)) ⟨vj, ?_⟩
    rw [ej]
    cases ha : ly_at xops xcnt g n j with
    | false =>
      have et : xtgt j = -1 := by rw [hT j hj, ha]; rfl
      refine br_t et (nm_r (nI_1 j) (ih (j + 1) st (by omega) h1 h2 (fun i hi ha' hs => ?_) h4))
      by_cases e : i = j
      · subst e; rw [ha] at ha'; exact absurd ha' (by decide)
      · exact h3 i (by omega) ha' hs
    | true =>
      obtain ⟨t1, t2⟩ := ly_tn_t hW hF hG hj ha
      have et : xtgt j = nI (ly_tn xops xA xB xcnt g n j) := by rw [hT j hj, ha, if_pos rfl]; exact t2
      have hthj : ly_th xcnt g n j := by
        unfold ly_at at ha
        rw [Bool.and_eq_true, Bool.and_eq_true, decide_eq_true_eq] at ha
        exact ⟨hj, ha.1.1, ha.1.2⟩
      have hu := ly_un_lt hF hj
      have hu2 := ly_un_lt hF t1.1
      have eu : xunit j = nI (ly_un xops xA j) := hU j hthj
      have eu2 := hU _ t1
      have ht := t1.1
      rw [et, eu]
      refine br_f (ly_m1 (by omega)) ⟨vj, vp_in_nI hu (by omega), ?_⟩
      rw [ly_cl (i := ly_un xops xA j) (by omega)]
      by_cases hs : st (ly_un xops xA j) = 0
      · refine br_t hs (nm_r (nI_1 j) (ih (j + 1) st (by omega) h1 h2 (fun i hi ha' hs' => ?_) h4))
        by_cases e : i = j
        · subst e; exact absurd hs (h2 _ hu hs')
        · exact h3 i (by omega) ha' hs'
      · refine br_f hs ⟨vj, vp_in_nI ht (by omega), ?_⟩
        rw [ly_cl (i := ly_tn xops xA xB xcnt g n j) (by omega), eu2]
        refine ⟨vp_in_nI hu2 (by omega), nm_r (e' := upd st (ly_un xops xA (ly_tn xops xA xB xcnt g n j)) 1) (by rw [ly_cl (by omega), ly_nar1]) (nm_r (nI_1 j) (ih (j + 1) _ (by omega) (ly_IV_u h1 hj ha hu hs) (fun u hu' hs' => ?_) (fun i hi ha' hs' => ?_) (fun hC u hu' hs' => ?_)))⟩
        · by_cases e : u = ly_un xops xA (ly_tn xops xA xB xcnt g n j)
          · rw [e, pk_us]; decide
          · rw [pk_un e]; exact h2 u hu' hs'
        · by_cases e : ly_un xops xA (ly_tn xops xA xB xcnt g n i) = ly_un xops xA (ly_tn xops xA xB xcnt g n j)
          · rw [e, pk_us]; decide
          · rw [pk_un e]
            by_cases e2 : i = j
            · subst e2; exact absurd rfl e
            · exact h3 i (by omega) ha' hs'
        · by_cases e : u = ly_un xops xA (ly_tn xops xA xB xcnt g n j)
          · rw [e]; exact hC j hj ha (h4 hC _ hu hs)
          · rw [pk_un e] at hs'; exact h4 hC u hu' hs'
theorem ly_xk27 {post : SX → Prop} {xbase xstrip xtend xaend xlcnt xlrnd xlinked xblamed xouts xpc xsteps xran : Int32} {xops xA xB xcnt xrole xloc xglo xweak xuse xrep xunit xtgt xlong xlist xchosen xplace ximg xreg xstore xout : Nat → Int32} (hW : ly_W xcnt) (hF : ly_F xops xA xB) {g : Nat → Nat} {n : Nat} (hG : ly_GD xops xA xB xcnt g n) (hT : ∀ x, x < 144 → xtgt x = if ly_at xops xcnt g n x = true then ly_tg xops xA xB xcnt g n x else -1) (hU : ∀ t, ly_th xcnt g n t → xunit t = nI (ly_un xops xA t))
    (H : ∀ st : Nat → Int32, ly_IV xops xA xB xcnt g n st → ly_CL xops xA xB xcnt g n st → post (xbase, xstrip, nI n, xtend, xaend, xlcnt, xlrnd, xlinked, xblamed, xouts, xpc, xsteps, xran, xops, xA, xB, xcnt, xrole, xloc, xglo, xweak, xuse, xrep, xunit, xtgt, st, xlong, xlist, xchosen, xplace, ximg, xreg, xstore, xout)) :
    ∀ (d p : Nat) (xstay : Nat → Int32), p + d = 12 → ly_IV xops xA xB xcnt g n xstay → (ly_CL xops xA xB xcnt g n xstay ∨ p + 1 ≤ ly_ct (ly_SS xstay) 12) → wX_keepReached_27 post xbase xstrip (nI n) xtend xaend xlcnt xlrnd xlinked xblamed xouts xpc xsteps xran (d + 1) (nI p) xops xA xB xcnt xrole xloc xglo xweak xuse xrep xunit xtgt xstay xlong xlist xchosen xplace ximg xreg xstore xout := by
  have ht : ∀ i, i < 144 → ly_at xops xcnt g n i = true → ly_tn xops xA xB xcnt g n i < 144 := fun i hi ha => (ly_tn_t hW hF hG hi ha).1.1
  intro d
  induction d with
  | zero =>
    intro p st hd h1 h2
    have e : p = 12 := by omega
    subst e
    refine br_t (by decide) (H st h1 ?_)
    rcases h2 with h2 | h2
    · exact h2
    · have := ly_ct_le (ly_SS st) 12; omega
  | succ d ih =>
    intro p st hd h1 h2
    refine br_f (nI_ge (b := 12) (by omega) (by omega)) ⟨145, ly_xk35 (hW := hW) (hF := hF) (hG := hG) (hT := hT) (hU := hU) (st0 := st) (H := fun st' h1' h2' h3' h4' => ih (p + 1) st' (by omega) h1' ?_) 144 0 st (by omega) h1 (fun _ _ h => h) (fun i hi => absurd hi (Nat.not_lt_zero i)) (fun _ _ _ h => h)⟩
    rcases h2 with h2 | h2
    · refine Or.inl (fun i hi ha hs => ?_)
      exact h2' _ (ly_un_lt hF (ht i hi ha)) (h2 i hi ha (h4' h2 _ (ly_un_lt hF hi) hs))
    · rcases Nat.lt_or_ge (ly_ct (ly_SS st) 12) (ly_ct (ly_SS st') 12) with z | z
      · exact Or.inr (by omega)
      · exact Or.inl (ly_ct_cl hF h2' h3' ht z).2
/-- which units stay -/
def ly_KP (o a b cnt : Nat → Int32) (g : Nat → Nat) (n : Nat) (strip : Int32) (u : Nat) : Prop := (strip = 0 ∧ ly_li g n (u / 2) = true) ∨ (¬ strip = 0 ∧ ly_RR o a b cnt g n u)
def ly_KS (o a b cnt : Nat → Int32) (g : Nat → Nat) (n : Nat) (strip : Int32) (st : Nat → Int32) : Prop := ∀ u, u < 12 → (st u = 0 ∨ st u = 1) ∧ (¬ st u = 0 ↔ ly_KP o a b cnt g n strip u)
theorem ly_xk14 {post : SX → Prop} {xbase xstrip xtend xaend xlcnt xlrnd xlinked xblamed xouts xpc xsteps xran : Int32} {xops xA xB xcnt xrole xloc xglo xweak xuse xrep xunit xtgt xlong xlist xchosen xplace ximg xreg xstore xout : Nat → Int32} {g : Nat → Nat} {n : Nat} (hL : ly_LS xops xA xcnt xlist g n)
    (H : ∀ st : Nat → Int32, (∀ u, u < 12 → st u = ly_bi (ly_li g n (u / 2))) → post (xbase, xstrip, nI n, xtend, xaend, xlcnt, xlrnd, xlinked, xblamed, xouts, xpc, xsteps, xran, xops, xA, xB, xcnt, xrole, xloc, xglo, xweak, xuse, xrep, xunit, xtgt, st, xlong, xlist, xchosen, xplace, ximg, xreg, xstore, xout)) : ∀ (d i : Nat) (xstay : Nat → Int32), i + d = n → (∀ u, u < 12 → xstay u = ly_bi (ly_li g i (u / 2))) → wX_keepUnits_14 post xbase xstrip (nI n) xtend xaend xlcnt xlrnd xlinked xblamed xouts xpc xsteps xran (d + 1) (nI i) xops xA xB xcnt xrole xloc xglo xweak xuse xrep xunit xtgt xstay xlong xlist xchosen xplace ximg xreg xstore xout := by
  obtain ⟨hn, hg⟩ := hL
  intro d
  induction d with
  | zero =>
    intro i st hd h
    have e : i = n := by omega
    subst e
    exact br_t (Int32.le_refl _) (H st h)
  | succ d ih =>
    intro i st hd h
    obtain ⟨g1, g2, g3⟩ := hg i (by omega)
    have vi : vp_in (nI i) 6 := vp_in_nI (by omega) (by omega)
    have e0 : nI (g i) * 2 + 0 = nI (2 * g i) := ly_idx2 (g i) 0
    have e1 : nI (g i) * 2 + 1 = nI (2 * g i + 1) := ly_idx2 (g i) 1
    refine br_f (nI_ge (by omega) (by omega)) ⟨vi, ?_⟩
    rw [ly_cl (i := i) (by omega), g2, e0, e1]
    refine ⟨vp_in_nI (by omega) (by omega), nm_r (e' := upd st (2 * g i) 1) (by rw [ly_cl (by omega), ly_nar1]) ⟨vi, vp_in_nI (by omega) (by omega), nm_r (e' := upd (upd st (2 * g i) 1) (2 * g i + 1) 1) (by rw [ly_cl (by omega), ly_nar1]) (nm_r (nI_1 i) (ih (i + 1) _ (by omega) (fun u hu => ?_)))⟩⟩
    rw [ly_li_s]
    by_cases a1 : u = 2 * g i + 1
    · rw [a1, pk_us, decide_eq_true (by omega), Bool.or_true]; rfl
    · rw [pk_un a1]
      by_cases a0 : u = 2 * g i
      · rw [a0, pk_us, decide_eq_true (by omega), Bool.or_true]; rfl
      · rw [pk_un a0, decide_eq_false (by omega), Bool.or_false]; exact h u hu
theorem ly_xku {post : SX → Prop} {xbase xstrip xtend xaend xlcnt xlrnd xlinked xblamed xouts xpc xsteps xran : Int32} {xops xA xB xcnt xrole xloc xglo xweak xuse xrep xunit xtgt xstay xlong xlist xchosen xplace ximg xreg xstore xout : Nat → Int32} (hW : ly_W xcnt) (hF : ly_F xops xA xB) {g : Nat → Nat} {n : Nat} (hL : ly_LS xops xA xcnt xlist g n) (hG : ly_GD xops xA xB xcnt g n) (hch : ∀ s, s < 16 → xchosen s = ly_co xops xA xB xcnt g n (nI s)) (hT : ∀ x, x < 144 → xtgt x = if ly_at xops xcnt g n x = true then ly_tg xops xA xB xcnt g n x else -1) (hU : ∀ t, ly_th xcnt g n t → xunit t = nI (ly_un xops xA t)) (h0 : ∀ u, u < 12 → xstay u = 0)
    (H : ∀ st : Nat → Int32, ly_KS xops xA xB xcnt g n xstrip st → post (xbase, xstrip, nI n, xtend, xaend, xlcnt, xlrnd, xlinked, xblamed, xouts, xpc, xsteps, xran, xops, xA, xB, xcnt, xrole, xloc, xglo, xweak, xuse, xrep, xunit, xtgt, st, xlong, xlist, xchosen, xplace, ximg, xreg, xstore, xout)) : wpX_keepUnits post (xbase, xstrip, nI n, xtend, xaend, xlcnt, xlrnd, xlinked, xblamed, xouts, xpc, xsteps, xran, xops, xA, xB, xcnt, xrole, xloc, xglo, xweak, xuse, xrep, xunit, xtgt, xstay, xlong, xlist, xchosen, xplace, ximg, xreg, xstore, xout) := by
  by_cases hs : xstrip = 0
  · refine br_t hs ⟨n + 1, ly_xk14 (hL := hL) (H := fun st hst => H st (fun u hu => ?_)) n 0 xstay (by omega) (fun u hu => by rw [h0 u hu]; rfl)⟩
    rw [hst u hu]
    refine ⟨ly_bi01 _, ⟨fun z => Or.inl ⟨hs, ?_⟩, fun z => ?_⟩⟩
    · cases hl : ly_li g n (u / 2) with
      | true => rfl
      | false => rw [hl] at z; exact absurd rfl z
    · rcases z with z | z
      · rw [z.2]; decide
      · exact absurd hs z.1
  · obtain ⟨t1, t2⟩ := ly_en_t hW hG
    have ec : xchosen 0 = nI (ly_en xops xA xB xcnt g n) := (hch 0 (by omega)).trans t2
    have eu := hU _ t1
    have ht := t1.1
    have hu := ly_un_lt hF ht
    refine br_f hs (nm_r ec (br_f (ly_m1 (by omega)) ⟨vp_in_nI ht (by omega), ?_⟩))
    rw [ly_cl (i := ly_en xops xA xB xcnt g n) (by omega), eu]
    refine ⟨vp_in_nI hu (by omega), nm_r (e' := upd xstay (ly_un xops xA (ly_en xops xA xB xcnt g n)) 1) (by rw [ly_cl (by omega), ly_nar1]) ⟨13, ly_xk27 (hW := hW) (hF := hF) (hG := hG) (hT := hT) (hU := hU) (H := fun st h1 h2 => H st (fun u hu' => ⟨(h1.1 u hu').1, ?_⟩)) 12 0 _ (by omega) ?_ ?_⟩⟩
    · rw [ly_IV_R h1 h2 hu']
      exact ⟨fun z => Or.inr ⟨hs, z⟩, fun z => by
        rcases z with z | z
        · exact absurd z.1 hs
        · exact z.2⟩
    · refine ⟨fun u hu' => ?_, by rw [pk_us]; decide⟩
      by_cases e : u = ly_un xops xA (ly_en xops xA xB xcnt g n)
      · subst e; rw [pk_us]; exact ⟨Or.inr rfl, fun _ => ly_RR_0⟩
      · rw [pk_un e, h0 u hu']; exact ⟨Or.inl rfl, fun z => absurd rfl z⟩
    · refine Or.inr ?_
      have := ly_ct_pos (p := ly_SS (upd xstay (ly_un xops xA (ly_en xops xA xB xcnt g n)) 1)) hu (by unfold ly_SS; rw [pk_us]; decide)
      omega

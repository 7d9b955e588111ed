/-! minor, principal, coefficient -/
theorem dd_mF : ∀ i, i < 4 → ∀ j, j < 4 → dd_pc (15 - 2 ^ j) = (dd_rl (15 - 2 ^ i) 4).length ∧ 15 / 2 ^ i % 2 = 1 ∧ 15 / 2 ^ j % 2 = 1 := by decide +kernel
theorem dd_mnY (post : Int32 → SY → Prop) (a p : Nat → Int32) (t : Nat → Int64) (i j : Nat) (hi : i < 4) (hj : j < 4) (h : ∀ t', post (Int32.ofInt (dd_mn (dd_A a) (dd_rl (15 - 2 ^ i) 4) (15 - 2 ^ j))) (a, p, t')) : wpY_minor post (a, p, t) (nI i) (nI j) := by
  obtain ⟨f1, f2, f3⟩ := dd_mF i hi j hj
  unfold wpY_minor
  dsimp only
  refine dd_rwT _ (a, p, t) hi ?_
  refine br_f (by decide) ?_
  refine dd_rwT _ (a, p, t) hj ?_
  refine br_f (by decide) ?_
  refine dd_part _ a p t _ _ (15 - 2 ^ i) (15 - 2 ^ j) (dd_F2 15 (by decide) i (by omega) f2) (dd_F2 15 (by decide) j (by omega) f3) (Nat.lt_of_le_of_lt (Nat.sub_le _ _) (by decide)) (Nat.lt_of_le_of_lt (Nat.sub_le _ _) (by decide)) f1 (fun t' => ?_)
  have := h t'
  rw [← Int64.toInt32_ofInt] at this
  exact this
theorem dd_mnY0 (post : Int32 → SY → Prop) (a p : Nat → Int32) (t : Nat → Int64) (v1 v2 : Int32) (h : v1 < 0 ∨ (¬ v1 < 0 ∧ 4 ≤ v1 ∧ 3 < v1)) (hp : post (-1000000000) (a, p, t)) : wpY_minor post (a, p, t) v1 v2 := by
  unfold wpY_minor
  dsimp only
  exact dd_rwF _ _ h (by exact br_t rfl hp)
theorem dd_mnY1 (post : Int32 → SY → Prop) (a p : Nat → Int32) (t : Nat → Int64) (i : Nat) (v2 : Int32) (hi : i < 4) (h : v2 < 0 ∨ (¬ v2 < 0 ∧ 4 ≤ v2 ∧ 3 < v2)) (hp : post (-1000000000) (a, p, t)) : wpY_minor post (a, p, t) (nI i) v2 := by
  unfold wpY_minor
  dsimp only
  exact dd_rwT _ _ hi (by exact br_f (by decide) (dd_rwF _ _ h (by exact br_t rfl hp)))
theorem i_vc_minor {k : Nat} {u : SX} {v : SY} (I : i_Rel k u v) (hk : k + 4 ≤ 2048) (v1 : Int32) (v2 : Int32) : wpX_minor (fun r u' => wpY_minor (fun r' v' => r' = r ∧ i_Rel (k + 4) u' v') v v1 v2) u v1 v2 := by
  obtain ⟨a, w, r, p, t, rfl, rfl, hB⟩ := I
  unfold wpX_minor
  dsimp only
  rcases dd_line v1 with h | ⟨i, hi, rfl⟩
  · exact dd_lnF _ h (by exact br_t rfl (dd_mnY0 _ a p t _ _ h ⟨rfl, dd_rel hB⟩))
  · rcases dd_line v2 with h | ⟨j, hj, rfl⟩
    · exact dd_lnT _ hi (by exact br_f (by decide) (dd_lnF _ h (by exact br_t rfl (dd_mnY1 _ a p t _ _ hi h ⟨rfl, dd_rel hB⟩))))
    · refine dd_lnT _ hi ?_
      refine br_f (by decide) ?_
      refine dd_lnT _ hj ?_
      refine br_f (by decide) ?_
      refine dd_cm _ a w r (fun w1 hw => ?_)
      refine dd_rw _ a w1 r i j hi hj (fun w2 hw2 => ?_)
      refine dd_wdX _ a w2 r ?_
      have e : dd_dt w2 = Int32.ofInt (dd_dI (dd_xr (dd_A a) i j)) := by
        apply dd_dtI
        intro c hc
        rw [hw2 c hc, hw c hc]
        simp only [dd_xr]
        split
        · rfl
        · split
          · rfl
          · simp only [dd_A, Int32.ofInt_toInt]
      have m := dd_minI (dd_A a) i j hi hj
      refine ⟨by decide, ?_⟩
      rw [nI_add, e]
      by_cases z : (i + j) % 2 = 0
      · rw [if_pos z] at m
        refine br_t ((dd_F4 (i + j) (by omega)).mpr z) ?_
        exact dd_mnY _ a p t i j hi hj (fun t' => ⟨by rw [m], dd_rel hB⟩)
      · rw [if_neg z] at m
        refine br_f (fun y => z ((dd_F4 (i + j) (by omega)).mp y)) ?_
        exact dd_mnY _ a p t i j hi hj (fun t' => ⟨by rw [← m, Int32.ofInt_neg], dd_rel hB⟩)
theorem dd_pmX (post : Int32 → SX → Prop) (a w : Nat → Int32) (r : Nat → Int64) (m : Nat) (hm : m < 16) (h : ∀ w', post (Int32.ofInt (dd_mn (dd_A a) (dd_rl m 4) m)) (a, w', r)) : wpX_principalMinor post (a, w, r) (nI m) := by
  unfold wpX_principalMinor
  dsimp only
  refine dd_cm _ a w r (fun w1 hw => ?_)
  refine pk_loop (σ := Nat → Int32) (fun n i w' => wX_principalMinor_6 post (nI m) n (nI i) a w' r) (fun i w' => ∀ c, c < 16 → w' c = Int32.ofInt (dd_xp (dd_A a) m i c)) 4 0 w1 (by omega) ?_ ?_ ?_
  · intro c hc
    rw [hw c hc]
    simp only [dd_xp]
    rw [if_pos ⟨Or.inr (Nat.zero_le _), Or.inr (Nat.zero_le _)⟩]
    simp only [dd_A, Int32.ofInt_toInt]
  · intro n w' g
    refine br_t (show (4 : Int32) ≤ nI 4 from by decide) (dd_wdX _ a w' r ?_)
    rw [dd_dtI w' _ g, dd_priI (dd_A a) m hm]
    exact h w'
  · intro n i w' hi g k
    refine br_f (nI_ge (b := 4) hi (by decide)) (dd_hasT _ m i (by omega) (by omega) ?_)
    have h2 : m / 2 ^ i % 2 < 2 := Nat.mod_lt _ (by decide)
    by_cases e : m / 2 ^ i % 2 = 1
    · refine br_f (by rw [e]; decide) (nm_r (nI_1 i) (k _ (fun c hc => ?_)))
      rw [g c hc]
      congr 1
      have q : ∀ x, (m / 2 ^ x % 2 = 1 ∨ i ≤ x) ↔ (m / 2 ^ x % 2 = 1 ∨ i + 1 ≤ x) := by
        intro x
        constructor
        · rintro (y | y)
          · exact Or.inl y
          · by_cases e' : x = i
            · rw [e']; exact Or.inl e
            · exact Or.inr (by omega)
        · rintro (y | y)
          · exact Or.inl y
          · exact Or.inr (by omega)
      simp only [dd_xp, q]
    · refine br_t (by rw [show m / 2 ^ i % 2 = 0 from by omega]; rfl) (dd_rw _ a w' r i i hi hi (fun w2 hw2 => nm_r (nI_1 i) (k _ (fun c hc => ?_))))
      rw [hw2 c hc]
      by_cases c1 : c = 4 * i + i
      · rw [if_pos c1]
        simp only [dd_xp]
        rw [if_neg, if_pos (by omega)]
        · rfl
        · rintro ⟨y | y, _⟩
          · rw [show c / 4 = i from by omega] at y; exact e y
          · omega
      · rw [if_neg c1]
        by_cases c2 : c / 4 = i ∨ c % 4 = i
        · rw [if_pos c2]
          simp only [dd_xp]
          rw [if_neg, if_neg (by omega)]
          · rfl
          · rintro ⟨y1, y2⟩
            rcases c2 with c2 | c2
            · rw [c2] at y1
              rcases y1 with y1 | y1
              · exact e y1
              · omega
            · rw [c2] at y2
              rcases y2 with y2 | y2
              · exact e y2
              · omega
        · rw [if_neg c2, g c hc]
          congr 1
          have q1 : (m / 2 ^ (c / 4) % 2 = 1 ∨ i ≤ c / 4) ↔ (m / 2 ^ (c / 4) % 2 = 1 ∨ i + 1 ≤ c / 4) := by
            constructor
            · rintro (y | y)
              · exact Or.inl y
              · exact Or.inr (by omega)
            · rintro (y | y)
              · exact Or.inl y
              · exact Or.inr (by omega)
          have q2 : (m / 2 ^ (c % 4) % 2 = 1 ∨ i ≤ c % 4) ↔ (m / 2 ^ (c % 4) % 2 = 1 ∨ i + 1 ≤ c % 4) := by
            constructor
            · rintro (y | y)
              · exact Or.inl y
              · exact Or.inr (by omega)
            · rintro (y | y)
              · exact Or.inl y
              · exact Or.inr (by omega)
          simp only [dd_xp, q1, q2]
theorem dd_cF : ∀ m, m < 16 → dd_pq m 4 = dd_pc m := by decide +kernel
theorem dd_cbX (post : Int32 → Prop) (m : Nat) (hm : m < 16) (h : post (nI (dd_pc m))) : wpX_countBits post (nI m) := by
  refine pk_loop (σ := Nat) (fun n i s => wX_countBits_4 post (nI m) n (nI s) (nI i)) (fun i s => s = dd_pq m i) 4 0 0 (by omega) rfl ?_ ?_
  · intro n s hs
    subst hs
    rw [← dd_cF m hm] at h
    exact br_t (show (4 : Int32) ≤ nI 4 from by decide) h
  · intro n i s hi hs k
    subst hs
    exact br_f (nI_ge (b := 4) hi (by decide)) (nm_r (e' := nI (dd_pq m i + m / 2 ^ i % 2)) (by rw [dd_F1 m (by omega) i (by omega), nI_add]) (nm_r (nI_1 i) (k _ rfl)))
/-- the sum of the principal minors of a size, over the first n sets -/
def dd_sp (A : Nat → Nat → Int) (size : Nat) : Nat → Int
  | 0 => 0
  | n + 1 => dd_sp A size n + (if dd_pc n = size then dd_mn A (dd_rl n 4) n else 0)
theorem dd_spX (post : Int32 → SX → Prop) (a w : Nat → Int32) (r : Nat → Int64) (size : Nat) (hs : size ≤ 4) (h : ∀ w', post (Int32.ofInt (dd_sp (dd_A a) size 16)) (a, w', r)) : wpX_sumOfPrincipals post (a, w, r) (nI size) := by
  refine pk_loop (σ := Int32 × (Nat → Int32)) (fun n m s => wX_sumOfPrincipals_4 post (nI size) n s.1 (nI m) a s.2 r) (fun m s => s.1 = Int32.ofInt (dd_sp (dd_A a) size m)) 16 0 (0, w) (by omega) rfl ?_ ?_
  · intro n s g
    refine br_t (show (15 : Int32) < nI 16 from by decide) ?_
    show post s.1 (a, s.2, r)
    rw [show s.1 = _ from g]
    exact h s.2
  · intro n m s hm g k
    refine br_f (nI_nlt (a := 15) (by omega) (by decide)) (dd_cbX _ m hm ?_)
    have h5 := dd_F5 m (by omega)
    by_cases e : dd_pc m = size
    · refine br_t (by rw [e]) (dd_pmX _ a s.2 r m hm (fun w' => nm_r (e' := Int32.ofInt (dd_sp (dd_A a) size (m + 1))) ?_ (nm_r (nI_1 m) (k (_, w') rfl))))
      rw [show s.1 = _ from g]
      simp only [dd_sp, if_pos e, Int32.ofInt_add]
    · refine br_f (fun y => e ((nI_eq (by omega) (by omega)).mp y)) (nm_r (nI_1 m) (k s ?_))
      show s.1 = _
      rw [show s.1 = _ from g]
      simp only [dd_sp, if_neg e, Int.add_zero]
theorem dd_sp1 (A : Nat → Nat → Int) (size : Nat) (h : 1 ≤ size) : dd_sp A size 1 = 0 := by
  have e : ¬ dd_pc 0 = size := by
    show ¬ 0 = size
    omega
  simp only [dd_sp, if_neg e, Int.add_zero]
theorem dd_prY (post : Int32 → SY → Prop) (a p : Nat → Int32) (t : Nat → Int64) (k : Nat) (h1 : 1 ≤ k) (h4 : k ≤ 4) (h : ∀ t', post (Int32.ofInt (dd_sp (dd_A a) k 16)) (a, p, t')) : wpY_principal post (a, p, t) (nI k) := by
  refine br_f (nI_nlt (b := 1) h1 (by omega)) (br_t (nI_le (b := 4) h4 (by decide)) ?_)
  refine pk_loop (σ := Int64 × (Nat → Int64)) (fun n m s => wY_principal_18 post (nI k) n s.1 (nI m) a p s.2) (fun m s => s.1 = Int64.ofInt (dd_sp (dd_A a) k m)) 16 1 (0, t) (by omega) ?_ ?_ ?_
  · show (0 : Int64) = _
    rw [dd_sp1 _ k h1]
    rfl
  · intro n s g
    refine br_t (show (16 : Int32) ≤ nI 16 from by decide) ?_
    show post s.1.toInt32 (a, p, s.2)
    rw [show s.1 = _ from g, Int64.toInt32_ofInt]
    exact h s.2
  · intro n m s hm g kk
    refine br_f (nI_ge (b := 16) hm (by decide)) (dd_ones _ a p s.2 _ m (by omega) rfl ?_)
    have h5 := dd_F5 m (by omega)
    by_cases e : dd_pc m = k
    · refine br_t (by rw [e]) (dd_part _ a p s.2 _ _ m m rfl rfl hm (by omega) (dd_F9 m hm).symm (fun t' => nm_r (e' := Int64.ofInt (dd_sp (dd_A a) k (m + 1))) ?_ (nm_r (nI_1 m) (kk (_, t') rfl))))
      rw [show s.1 = _ from g]
      simp only [dd_sp, if_pos e, Int64.ofInt_add]
    · refine br_f (fun y => e ((nI_eq (by omega) (by omega)).mp y)) (nm_r (nI_1 m) (kk s ?_))
      show s.1 = _
      rw [show s.1 = _ from g]
      simp only [dd_sp, if_neg e, Int.add_zero]
theorem i_vc_principal {k : Nat} {u : SX} {v : SY} (I : i_Rel k u v) (hk : k + 4 ≤ 2048) (v1 : Int32) : wpX_principal (fun r u' => wpY_principal (fun r' v' => r' = r ∧ i_Rel (k + 4) u' v') v v1) u v1 := by
  obtain ⟨a, w, r, p, t, rfl, rfl, hB⟩ := I
  by_cases h0 : v1 < 1
  · exact br_t h0 (br_t h0 ⟨rfl, dd_rel hB⟩)
  · by_cases h1 : v1 ≤ 4
    · have hz : ¬ v1 < 0 := by
        have e0 : (0 : Int32).toInt = 0 := by decide
        have e1 : (1 : Int32).toInt = 1 := by decide
        simp only [Int32.lt_iff_toInt_lt, e0, e1] at h0 ⊢
        omega
      obtain ⟨j, hj, rfl⟩ := nI_of2 (M := 4) (n := 4) (by decide) hz h1
      have hj1 : 1 ≤ j := by
        apply Classical.byContradiction
        intro y
        exact h0 (nI_lt (b := 1) (by omega) (by decide))
      refine br_f h0 (br_t h1 ?_)
      refine dd_spX _ a w r j hj (fun w' => ?_)
      exact dd_prY _ a p t j hj1 hj (fun t' => ⟨rfl, dd_rel hB⟩)
    · exact br_f h0 (br_f h1 (br_f h0 (br_f h1 ⟨rfl, dd_rel hB⟩)))
theorem dd_sp0 (A : Nat → Nat → Int) : dd_sp A 0 16 = 1 := by
  simp [dd_sp, dd_pc, dd_pq, dd_rl, dd_mn]
theorem dd_coF : ∀ j, j < 5 → ((nI (4 - j) - nI (4 - j) / 2 * 2 = 0) ↔ (nI j - nI j / 2 * 2 = 0)) ∧ (4 : Int32) - nI j = nI (4 - j) := by decide +kernel
theorem i_vc_coefficient {k : Nat} {u : SX} {v : SY} (I : i_Rel k u v) (hk : k + 4 ≤ 2048) (v1 : Int32) : wpX_coefficient (fun r u' => wpY_coefficient (fun r' v' => r' = r ∧ i_Rel (k + 4) u' v') v v1) u v1 := by
  obtain ⟨a, w, r, p, t, rfl, rfl, hB⟩ := I
  by_cases h0 : v1 < 0
  · exact br_t h0 (br_t h0 ⟨rfl, dd_rel hB⟩)
  · by_cases h1 : v1 ≤ 4
    · obtain ⟨j, hj, rfl⟩ := nI_of2 (M := 4) (n := 4) (by decide) h0 h1
      obtain ⟨f1, f2⟩ := dd_coF j (by omega)
      refine br_f h0 (br_t h1 (nm_r f2 ?_))
      refine dd_spX _ a w r (4 - j) (by omega) (fun w' => ⟨by decide, ?_⟩)
      by_cases e : j = 4
      · subst e
        rw [dd_sp0]
        refine br_t (by decide) (br_f h0 (br_t h1 (br_t rfl ?_)))
        unfold wY_coefficient_28
        exact ⟨by decide, br_t (by decide) ⟨rfl, dd_rel hB⟩⟩
      · have ne : ¬ nI j = 4 := fun y => e ((nI_eq (b := 4) (by omega) (by decide)).mp y)
        by_cases z : nI j - nI j / 2 * 2 = 0
        · refine br_t (f1.mpr z) (br_f h0 (br_t h1 (br_f ne ?_)))
          rw [f2]
          refine dd_prY _ a p t (4 - j) (by omega) (by omega) (fun t' => ?_)
          show wY_coefficient_28 _ _ _ _ _ _
          unfold wY_coefficient_28
          exact ⟨by decide, br_t z ⟨rfl, dd_rel hB⟩⟩
        · refine br_f (fun y => z (f1.mp y)) (br_f h0 (br_t h1 (br_f ne ?_)))
          rw [f2]
          refine dd_prY _ a p t (4 - j) (by omega) (by omega) (fun t' => ?_)
          show wY_coefficient_28 _ _ _ _ _ _
          unfold wY_coefficient_28
          exact ⟨by decide, br_f z ⟨rfl, dd_rel hB⟩⟩
    · exact br_f h0 (br_f h1 (br_f h0 (br_f h1 ⟨rfl, dd_rel hB⟩)))

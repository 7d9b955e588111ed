/-! the class's determinant, and its scratch matrix -/
def dd_uP (w : Nat → Int32) (l r : Nat) : Int32 := w l * w (4 + r) - w r * w (4 + l)
def dd_lP (w : Nat → Int32) (l r : Nat) : Int32 := w (8 + l) * w (12 + r) - w (8 + r) * w (12 + l)
def dd_dt (w : Nat → Int32) : Int32 := dd_uP w 0 1 * dd_lP w 2 3 - dd_uP w 0 2 * dd_lP w 1 3 + dd_uP w 0 3 * dd_lP w 1 2 + dd_uP w 1 2 * dd_lP w 0 3 - dd_uP w 1 3 * dd_lP w 0 2 + dd_uP w 2 3 * dd_lP w 0 1
def dd_uI (w : Nat → Int) (l r : Nat) : Int := w l * w (4 + r) - w r * w (4 + l)
def dd_lI (w : Nat → Int) (l r : Nat) : Int := w (8 + l) * w (12 + r) - w (8 + r) * w (12 + l)
def dd_dI (w : Nat → Int) : Int := dd_uI w 0 1 * dd_lI w 2 3 - dd_uI w 0 2 * dd_lI w 1 3 + dd_uI w 0 3 * dd_lI w 1 2 + dd_uI w 1 2 * dd_lI w 0 3 - dd_uI w 1 3 * dd_lI w 0 2 + dd_uI w 2 3 * dd_lI w 0 1
theorem dd_dtI (w : Nat → Int32) (x : Nat → Int) (h : ∀ c, c < 16 → w c = Int32.ofInt (x c)) : dd_dt w = Int32.ofInt (dd_dI x) := by
  simp only [dd_dt, dd_uP, dd_lP, dd_dI, dd_uI, dd_lI, Nat.reduceAdd, Int32.ofInt_add, Int32.ofInt_sub, Int32.ofInt_mul, h 0 (by decide), h 1 (by decide), h 2 (by decide), h 3 (by decide), h 4 (by decide), h 5 (by decide), h 6 (by decide), h 7 (by decide), h 8 (by decide), h 9 (by decide), h 10 (by decide), h 11 (by decide), h 12 (by decide), h 13 (by decide), h 14 (by decide), h 15 (by decide)]
theorem dd_4n (i : Nat) : (4 : Int32) + nI i = nI (4 + i) := by rw [← nI_add]; rfl
theorem dd_8n (i : Nat) : (8 : Int32) + nI i = nI (8 + i) := by rw [← nI_add]; rfl
theorem dd_12n (i : Nat) : (12 : Int32) + nI i = nI (12 + i) := by rw [← nI_add]; rfl
theorem dd_upX (post : Int32 → Prop) (a w : Nat → Int32) (r : Nat → Int64) (l q : Nat) (hl : l < 4) (hq : q < 4) (h : post (dd_uP w l q)) : wpX_upperPair post (a, w, r) (nI l) (nI q) := by
  have y1 := dd_ix (nI l) l 16 rfl (by omega) (by decide)
  have y2 := dd_ix (4 + nI q) (4 + q) 16 (dd_4n q) (by omega) (by decide)
  have y3 := dd_ix (nI q) q 16 rfl (by omega) (by decide)
  have y4 := dd_ix (4 + nI l) (4 + l) 16 (dd_4n l) (by omega) (by decide)
  refine ⟨y1.1, y2.1, y3.1, y4.1, ?_⟩
  rw [y1.2, y2.2, y3.2, y4.2]
  exact h
theorem dd_loX (post : Int32 → Prop) (a w : Nat → Int32) (r : Nat → Int64) (l q : Nat) (hl : l < 4) (hq : q < 4) (h : post (dd_lP w l q)) : wpX_lowerPair post (a, w, r) (nI l) (nI q) := by
  have y1 := dd_ix (8 + nI l) (8 + l) 16 (dd_8n l) (by omega) (by decide)
  have y2 := dd_ix (12 + nI q) (12 + q) 16 (dd_12n q) (by omega) (by decide)
  have y3 := dd_ix (8 + nI q) (8 + q) 16 (dd_8n q) (by omega) (by decide)
  have y4 := dd_ix (12 + nI l) (12 + l) 16 (dd_12n l) (by omega) (by decide)
  refine ⟨y1.1, y2.1, y3.1, y4.1, ?_⟩
  rw [y1.2, y2.2, y3.2, y4.2]
  exact h
theorem dd_wdX (post : Int32 → Prop) (a w : Nat → Int32) (r : Nat → Int64) (h : post (dd_dt w)) : wpX_workDeterminant post (a, w, r) := by
  unfold wpX_workDeterminant
  dsimp only
  refine dd_upX _ a w r 0 1 (by decide) (by decide) ?_
  refine dd_loX _ a w r 2 3 (by decide) (by decide) ?_
  refine nm_e ?_
  refine dd_upX _ a w r 0 2 (by decide) (by decide) ?_
  refine dd_loX _ a w r 1 3 (by decide) (by decide) ?_
  refine nm_e ?_
  refine dd_upX _ a w r 0 3 (by decide) (by decide) ?_
  refine dd_loX _ a w r 1 2 (by decide) (by decide) ?_
  refine nm_e ?_
  refine dd_upX _ a w r 1 2 (by decide) (by decide) ?_
  refine dd_loX _ a w r 0 3 (by decide) (by decide) ?_
  refine nm_e ?_
  refine dd_upX _ a w r 1 3 (by decide) (by decide) ?_
  refine dd_loX _ a w r 0 2 (by decide) (by decide) ?_
  refine nm_e ?_
  refine dd_upX _ a w r 2 3 (by decide) (by decide) ?_
  refine dd_loX _ a w r 0 1 (by decide) (by decide) ?_
  exact nm_e h
theorem dd_cm9 (post : SX → Prop) (J : Int32 → (Nat → Int32) → (Nat → Int32) → (Nat → Int64) → Prop) (a w : Nat → Int32) (r : Nat → Int64) (i : Nat) (hi : i < 4) (hw : ∀ c, c < 4 * i → w c = a (5 * (c / 4) + c % 4))
    (h : ∀ w', (∀ c, c < 4 * (i + 1) → w' c = a (5 * (c / 4) + c % 4)) → J (nI (i + 1)) a w' r) : ∃ n, wX_copyMatrixToWork_9 post J (nI i) n 0 a w r := by
  refine pk_loop (σ := Nat → Int32) (fun n j w' => wX_copyMatrixToWork_9 post J (nI i) n (nI j) a w' r) (fun j w' => ∀ c, c < 4 * i + j → w' c = a (5 * (c / 4) + c % 4)) 4 0 w (by omega) hw ?_ ?_
  · intro n w' g
    exact br_t (show (4 : Int32) ≤ nI 4 from by decide) (nm_r (nI_1 i) (h w' g))
  · intro n j w' hj g k
    have y1 := dd_ix (nI i * 5 + nI j) (5 * i + j) 20 (dd_i5 i j) (by omega) (by decide)
    have y2 := dd_ix (nI i * 4 + nI j) (4 * i + j) 16 (dd_i4 i j) (by omega) (by decide)
    refine br_f (nI_ge (b := 4) hj (by decide)) ⟨y1.1, y2.1, nm_e (nm_r (nI_1 j) (k _ (fun c hc => ?_)))⟩
    rw [y1.2, y2.2]
    by_cases e : c = 4 * i + j
    · rw [e, pk_us]
      congr 1
      omega
    · rw [pk_un e]
      exact g c (by omega)
theorem dd_cm (post : SX → Prop) (a w : Nat → Int32) (r : Nat → Int64) (h : ∀ w', (∀ c, c < 16 → w' c = a (5 * (c / 4) + c % 4)) → post (a, w', r)) : wpX_copyMatrixToWork post (a, w, r) := by
  refine pk_loop (σ := Nat → Int32) (fun n i w' => wX_copyMatrixToWork_2 post n (nI i) a w' r) (fun i w' => ∀ c, c < 4 * i → w' c = a (5 * (c / 4) + c % 4)) 4 0 w (by omega) (fun c hc => by omega) ?_ ?_
  · intro n w' g
    exact br_t (show (4 : Int32) ≤ nI 4 from by decide) (h w' g)
  · intro n i w' hi g k
    exact br_f (nI_ge (b := 4) hi (by decide)) (dd_cm9 post _ a w' r i hi g (fun w2 g2 => k w2 g2))
theorem dd_rw (post : SX → Prop) (a w : Nat → Int32) (r : Nat → Int64) (i j : Nat) (hi : i < 4) (hj : j < 4) (h : ∀ w', (∀ c, c < 16 → w' c = if c = 4 * i + j then 1 else if c / 4 = i ∨ c % 4 = j then 0 else w c) → post (a, w', r)) : wpX_reduceWorkToUnit post (a, w, r) (nI i) (nI j) := by
  refine pk_loop (σ := Nat → Int32) (fun n m w' => wX_reduceWorkToUnit_2 post (nI i) (nI j) n (nI m) a w' r) (fun m w' => ∀ c, c < 16 → w' c = if (c / 4 = i ∧ c % 4 < m) ∨ (c % 4 = j ∧ c / 4 < m) then 0 else w c) 4 0 w (by omega) (fun c hc => by rw [if_neg (by omega)]) ?_ ?_
  · intro n w' g
    have y1 := dd_ix (nI i * 4 + nI j) (4 * i + j) 16 (dd_i4 i j) (by omega) (by decide)
    refine br_t (show (4 : Int32) ≤ nI 4 from by decide) ⟨y1.1, nm_e (h _ (fun c hc => ?_))⟩
    rw [y1.2]
    by_cases e : c = 4 * i + j
    · rw [e, pk_us, if_pos rfl]
    · rw [pk_un e, if_neg e, g c hc]
      by_cases e1 : c / 4 = i ∨ c % 4 = j
      · rw [if_pos e1, if_pos (by omega)]
      · rw [if_neg e1, if_neg (by omega)]
  · intro n m w' hm g k
    have y1 := dd_ix (nI i * 4 + nI m) (4 * i + m) 16 (dd_i4 i m) (by omega) (by decide)
    have y2 := dd_ix (nI m * 4 + nI j) (4 * m + j) 16 (dd_i4 m j) (by omega) (by decide)
    refine br_f (nI_ge (b := 4) hm (by decide)) ⟨y1.1, nm_e ⟨y2.1, nm_e (nm_r (nI_1 m) (k _ (fun c hc => ?_)))⟩⟩
    rw [y1.2, y2.2]
    by_cases e : c = 4 * m + j
    · rw [e, pk_us, if_pos (by omega)]
    · rw [pk_un e]
      by_cases e1 : c = 4 * i + m
      · rw [e1, pk_us, if_pos (by omega)]
      · rw [pk_un e1, g c hc]
        by_cases e2 : (c / 4 = i ∧ c % 4 < m) ∨ (c % 4 = j ∧ c / 4 < m)
        · rw [if_pos e2, if_pos (by omega)]
        · rw [if_neg e2, if_neg (by omega)]
/-! both determinants -/
theorem dd_dd (x : Nat → Int) (A : Nat → Nat → Int) (h : ∀ c, c < 16 → x c = A (c / 4) (c % 4)) : dd_dI x = dd_mn A (dd_rl 15 4) 15 := by
  have e : dd_mn A (dd_rl 15 4) 15 = dd_d4 (A 0) (A 1) (A 2) (A 3) 0 1 2 3 := dd_m4 A 0 1 2 3 0 1 2 3 (by decide) (by decide) (by decide) (by decide)
  rw [e]
  have h0 := h 0 (by decide)
  have h1 := h 1 (by decide)
  have h2 := h 2 (by decide)
  have h3 := h 3 (by decide)
  have h4 := h 4 (by decide)
  have h5 := h 5 (by decide)
  have h6 := h 6 (by decide)
  have h7 := h 7 (by decide)
  have h8 := h 8 (by decide)
  have h9 := h 9 (by decide)
  have h10 := h 10 (by decide)
  have h11 := h 11 (by decide)
  have h12 := h 12 (by decide)
  have h13 := h 13 (by decide)
  have h14 := h 14 (by decide)
  have h15 := h 15 (by decide)
  simp only [Nat.reduceDiv, Nat.reduceMod] at h0 h1 h2 h3 h4 h5 h6 h7 h8 h9 h10 h11 h12 h13 h14 h15
  simp only [dd_dI, dd_uI, dd_lI, dd_d4, dd_d3, dd_d2, Nat.reduceAdd, h0, h1, h2, h3, h4, h5, h6, h7, h8, h9, h10, h11, h12, h13, h14, h15]
  grind
theorem dd_ddX (w a : Nat → Int32) (h : ∀ c, c < 16 → w c = a (5 * (c / 4) + c % 4)) : dd_dt w = Int32.ofInt (dd_mn (dd_A a) (dd_rl 15 4) 15) := by
  rw [dd_dtI w (fun c => dd_A a (c / 4) (c % 4)) (fun c hc => by rw [h c hc]; simp only [dd_A, Int32.ofInt_toInt])]
  rw [dd_dd _ (dd_A a) (fun c hc => rfl)]
theorem dd_detY (post : Int32 → SY → Prop) (a p : Nat → Int32) (t : Nat → Int64) (h : ∀ t', post (Int32.ofInt (dd_mn (dd_A a) (dd_rl 15 4) 15)) (a, p, t')) : wpY_determinant post (a, p, t) := by
  unfold wpY_determinant
  dsimp only
  refine dd_part _ a p t _ _ 15 15 rfl rfl (by decide) (by decide) (by decide) (fun t' => ?_)
  have := h t'
  rw [← Int64.toInt32_ofInt] at this
  exact this
theorem i_vc_determinant {k : Nat} {u : SX} {v : SY} (I : i_Rel k u v) (hk : k + 4 ≤ 2048) : wpX_determinant (fun r u' => wpY_determinant (fun r' v' => r' = r ∧ i_Rel (k + 4) u' v') v) u := by
  obtain ⟨a, w, r, p, t, rfl, rfl, hB⟩ := I
  unfold wpX_determinant
  dsimp only
  refine dd_cm _ a w r (fun w' hw => ?_)
  refine dd_wdX _ a w' r ?_
  refine dd_detY _ a p t (fun t' => ⟨(dd_ddX w' a hw).symm, dd_rel hB⟩)
/-! determinantWith -/
theorem dd_dwY (post : Int32 → SY → Prop) (a p : Nat → Int32) (t : Nat → Int64) (i j : Nat) (v3 : Int32) (hi : i < 4) (hj : j < 4) (n : ¬ v3 < -50 ∧ ¬ 50 < v3) (h : ∀ t', post (Int32.ofInt (dd_mn (dd_A (upd a (5 * i + j) v3)) (dd_rl 15 4) 15)) (a, p, t')) : wpY_determinantWith post (a, p, t) (nI i) (nI j) v3 := by
  have y := dd_ix (5 * nI i + nI j) (5 * i + j) 20 (dd_5i i j) (by omega) (by decide)
  unfold wpY_determinantWith
  dsimp only
  refine dd_ftT _ (a, p, t) hi (by omega) n ?_
  refine br_f (by decide) (br_f (fun z => ?_) ⟨y.1, nm_e ⟨y.1, nm_e ?_⟩⟩)
  · have := (nI_eq (b := 4) (by omega) (by decide)).mp z
    omega
  · rw [y.2]
    refine dd_detY _ _ p t (fun t' => ⟨y.1, nm_r (e' := a) ?_ (h t')⟩)
    funext c
    show upd (upd a (5 * i + j) v3) (5 * i + j) (a (5 * i + j)) c = a c
    by_cases e : c = 5 * i + j
    · rw [e, pk_us]
    · rw [pk_un e, pk_un e]
theorem dd_dwY0 (post : Int32 → SY → Prop) (a p : Nat → Int32) (t : Nat → Int64) (v1 v2 v3 : Int32) (h : ∀ post' : Int32 → Prop, post' 0 → wpY_fits post' (a, p, t) v1 v2 v3) (hp : post (-1000000000) (a, p, t)) : wpY_determinantWith post (a, p, t) v1 v2 v3 := by
  unfold wpY_determinantWith
  dsimp only
  exact h _ (br_t rfl hp)
theorem dd_dwY4 (post : Int32 → SY → Prop) (a p : Nat → Int32) (t : Nat → Int64) (i : Nat) (v3 : Int32) (hi : i < 4) (hp : post (-1000000000) (a, p, t)) : wpY_determinantWith post (a, p, t) (nI i) (nI 4) v3 := by
  unfold wpY_determinantWith
  dsimp only
  by_cases hn : -50 ≤ v3.toInt ∧ v3.toInt ≤ 50
  · refine dd_ftT _ (a, p, t) hi (by omega) (dd_numI _ hn) ?_
    exact br_f (by decide) (br_t rfl hp)
  · exact dd_ftF _ (a, p, t) hi (by omega) (dd_numF _ hn) (by exact br_t rfl hp)
theorem i_vc_determinantWith {k : Nat} {u : SX} {v : SY} (I : i_Rel k u v) (hk : k + 4 ≤ 2048) (v1 : Int32) (v2 : Int32) (v3 : Int32) : wpX_determinantWith (fun r u' => wpY_determinantWith (fun r' v' => r' = r ∧ i_Rel (k + 4) u' v') v v1 v2 v3) u v1 v2 v3 := by
  obtain ⟨a, w, r, p, t, rfl, rfl, hB⟩ := I
  unfold wpX_determinantWith
  dsimp only
  rcases dd_line v1 with h | ⟨i, hi, rfl⟩
  · exact dd_lnF _ h (by exact br_t rfl (dd_dwY0 _ a p t _ _ _ (fun post' h' => dd_ftL _ _ h h') ⟨rfl, dd_rel hB⟩))
  · refine dd_lnT _ hi ?_
    refine br_f (by decide) ?_
    rcases dd_line v2 with h | ⟨j, hj, rfl⟩
    · refine dd_lnF _ h ?_
      refine br_t rfl ?_
      rcases dd_colm v2 with h' | ⟨j, hj, rfl⟩
      · exact dd_dwY0 _ a p t _ _ _ (fun post' h'' => dd_ftC _ _ hi h' h'') ⟨rfl, dd_rel hB⟩
      · by_cases e : j = 4
        · rw [e]
          exact dd_dwY4 _ a p t i v3 hi ⟨rfl, dd_rel hB⟩
        · rcases h with h | ⟨h, h1, h2⟩
          · exact absurd h (nI_pos (by omega))
          · exact absurd h1 (nI_ge (b := 4) (by omega) (by decide))
    · refine dd_lnT _ hj ?_
      refine br_f (by decide) ?_
      by_cases hn : -50 ≤ v3.toInt ∧ v3.toInt ≤ 50
      · have n := dd_numI v3 hn
        refine dd_nmT _ n ?_
        refine br_f (by decide) ?_
        refine dd_cm _ a w r (fun w' hw => ?_)
        have y := dd_ix (nI i * 4 + nI j) (4 * i + j) 16 (dd_i4 i j) (by omega) (by decide)
        refine ⟨y.1, nm_e ?_⟩
        rw [y.2]
        refine dd_wdX _ a _ r ?_
        refine dd_dwY _ a p t i j v3 hi hj n (fun t' => ⟨(dd_ddX _ _ (fun c hc => ?_)).symm, dd_rel hB⟩)
        by_cases e : c = 4 * i + j
        · rw [e, pk_us, show 5 * ((4 * i + j) / 4) + (4 * i + j) % 4 = 5 * i + j from by omega, pk_us]
        · rw [pk_un e, pk_un (by omega)]
          exact hw c hc
      · have n := dd_numF v3 hn
        exact dd_nmF _ n (by exact br_t rfl (dd_dwY0 _ a p t _ _ _ (fun post' h' => dd_ftF _ _ hi (by omega) n h') ⟨rfl, dd_rel hB⟩))
/-! replaced -/
def dd_rp (a : Nat → Int32) (j n c : Nat) : Int32 := if c < 20 ∧ c % 5 = j ∧ c / 5 < n then a (5 * (c / 5) + 4) else a c
theorem dd_rpY (post : Int32 → SY → Prop) (a p : Nat → Int32) (t : Nat → Int64) (j : Nat) (hj : j < 4) (h : ∀ p' t', post (Int32.ofInt (dd_mn (dd_A (dd_rp a j 4)) (dd_rl 15 4) 15)) (a, p', t')) : wpY_replaced post (a, p, t) (nI j) := by
  unfold wpY_replaced
  dsimp only
  refine dd_rwT _ (a, p, t) hj ?_
  refine br_f (by decide) ?_
  refine dd_keep _ a p t (fun k' hk' => ?_)
  refine pk_loop (σ := Nat → Int32) (fun n i a' => wY_replaced_17 post (nI j) n (nI i) a' k' t) (fun n a' => a' = dd_rp a j n) 4 0 a (by omega) ?_ ?_ ?_
  · funext c
    simp only [dd_rp]
    rw [if_neg (by omega)]
  · intro n a' g
    subst g
    refine br_t (show (4 : Int32) ≤ nI 4 from by decide) (dd_detY _ _ k' t (fun t' => ?_))
    refine dd_restore _ _ a k' t' hk' (fun c hc => ?_) (h k' t')
    simp only [dd_rp]
    rw [if_neg (by omega)]
  · intro n i a' hi g k
    subst g
    have y1 := dd_ix (5 * nI i + 4) (5 * i + 4) 20 (dd_5i i 4) (by omega) (by decide)
    have y2 := dd_ix (5 * nI i + nI j) (5 * i + j) 20 (dd_5i i j) (by omega) (by decide)
    refine br_f (nI_ge (b := 4) hi (by decide)) ⟨y1.1, y2.1, nm_e (nm_r (nI_1 i) (k _ ?_))⟩
    rw [y1.2, y2.2]
    funext c
    by_cases e : c = 5 * i + j
    · rw [e, pk_us]
      simp only [dd_rp]
      rw [if_neg (by omega), if_pos (by omega)]
      congr 1
      omega
    · rw [pk_un e]
      simp only [dd_rp]
      by_cases e1 : c < 20 ∧ c % 5 = j ∧ c / 5 < i
      · rw [if_pos e1, if_pos (by omega)]
      · rw [if_neg e1, if_neg (by omega)]
theorem dd_rpY0 (post : Int32 → SY → Prop) (a p : Nat → Int32) (t : Nat → Int64) (v1 : Int32) (h : v1 < 0 ∨ (¬ v1 < 0 ∧ 4 ≤ v1 ∧ 3 < v1)) (hp : post (-1000000000) (a, p, t)) : wpY_replaced post (a, p, t) v1 := by
  unfold wpY_replaced
  dsimp only
  exact dd_rwF _ _ h (by exact br_t rfl hp)
theorem i_vc_replaced {k : Nat} {u : SX} {v : SY} (I : i_Rel k u v) (hk : k + 4 ≤ 2048) (v1 : Int32) : wpX_replaced (fun r u' => wpY_replaced (fun r' v' => r' = r ∧ i_Rel (k + 4) u' v') v v1) u v1 := by
  obtain ⟨a, w, r, p, t, rfl, rfl, hB⟩ := I
  unfold wpX_replaced
  dsimp only
  rcases dd_line v1 with h | ⟨j, hj, rfl⟩
  · exact dd_lnF _ h (by exact br_t rfl (dd_rpY0 _ a p t _ h ⟨rfl, dd_rel hB⟩))
  · refine dd_lnT _ hj ?_
    refine br_f (by decide) ?_
    refine dd_cm _ a w r (fun w1 hw => ?_)
    refine pk_loop (σ := Nat → Int32) (fun n i w' => wX_replaced_16 _ (nI j) n (nI i) a w' r) (fun n w' => ∀ c, c < 16 → w' c = if c % 4 = j ∧ c / 4 < n then a (5 * (c / 4) + 4) else a (5 * (c / 4) + c % 4)) 4 0 w1 (by omega) (fun c hc => by rw [if_neg (by omega)]; exact hw c hc) ?_ ?_
    · intro n w' g
      refine br_t (show (4 : Int32) ≤ nI 4 from by decide) (dd_wdX _ a w' r ?_)
      refine dd_rpY _ a p t j hj (fun p' t' => ⟨(dd_ddX w' _ (fun c hc => ?_)).symm, dd_rel hB⟩)
      rw [g c hc]
      simp only [dd_rp]
      by_cases e : c % 4 = j
      · rw [if_pos (by omega), if_pos (by omega)]
        congr 1
        omega
      · rw [if_neg (by omega), if_neg (by omega)]
    · intro n i w' hi g k
      have y1 := dd_ix (nI i * 5 + 4) (5 * i + 4) 20 (dd_i5 i 4) (by omega) (by decide)
      have y2 := dd_ix (nI i * 4 + nI j) (4 * i + j) 16 (dd_i4 i j) (by omega) (by decide)
      refine br_f (nI_ge (b := 4) hi (by decide)) ⟨y1.1, y2.1, nm_e (nm_r (nI_1 i) (k _ (fun c hc => ?_)))⟩
      rw [y1.2, y2.2]
      by_cases e : c = 4 * i + j
      · rw [e, pk_us, if_pos (by omega)]
        congr 1
        omega
      · rw [pk_un e, g c hc]
        by_cases e1 : c % 4 = j ∧ c / 4 < i
        · rw [if_pos e1, if_pos (by omega)]
        · rw [if_neg e1, if_neg (by omega)]
/-! shifted -/
def dd_sh (a : Nat → Int32) (v : Int32) (n c : Nat) : Int32 := if c < 20 ∧ c % 6 = 0 ∧ c / 6 < n then a c + v else a c
theorem dd_shY (post : Int32 → SY → Prop) (a p : Nat → Int32) (t : Nat → Int64) (v : Int32) (h1 : ¬ v < -50) (h2 : v ≤ 50) (h : ∀ p' t', post (Int32.ofInt (dd_mn (dd_A (dd_sh a v 4)) (dd_rl 15 4) 15)) (a, p', t')) : wpY_shifted post (a, p, t) v := by
  refine br_f h1 (br_t h2 ?_)
  refine dd_keep _ a p t (fun k' hk' => ?_)
  refine pk_loop (σ := Nat → Int32) (fun n i a' => wY_shifted_21 post v n (nI i) a' k' t) (fun n a' => a' = dd_sh a v n) 4 0 a (by omega) ?_ ?_ ?_
  · funext c
    simp only [dd_sh]
    rw [if_neg (by omega)]
  · intro n a' g
    subst g
    refine br_t (show (4 : Int32) ≤ nI 4 from by decide) (dd_detY _ _ k' t (fun t' => ?_))
    refine dd_restore _ _ a k' t' hk' (fun c hc => ?_) (h k' t')
    simp only [dd_sh]
    rw [if_neg (by omega)]
  · intro n i a' hi g k
    subst g
    have y1 := dd_ix (6 * nI i) (6 * i) 20 (pk_mul 6 i) (by omega) (by decide)
    refine br_f (nI_ge (b := 4) hi (by decide)) ⟨y1.1, y1.1, nm_e (nm_r (nI_1 i) (k _ ?_))⟩
    rw [y1.2]
    funext c
    by_cases e : c = 6 * i
    · rw [e, pk_us]
      simp only [dd_sh]
      rw [if_neg (by omega), if_pos (by omega)]
    · rw [pk_un e]
      simp only [dd_sh]
      by_cases e1 : c < 20 ∧ c % 6 = 0 ∧ c / 6 < i
      · rw [if_pos e1, if_pos (by omega)]
      · rw [if_neg e1, if_neg (by omega)]
theorem dd_shF : ∀ c, c < 16 → (c % 5 = 0 ↔ (5 * (c / 4) + c % 4) % 6 = 0) ∧ 5 * (c / 4) + c % 4 < 20 ∧ (5 * (c / 4) + c % 4) / 6 < 4 ∧ c / 5 < 4 := by decide +kernel
theorem i_vc_shifted {k : Nat} {u : SX} {v : SY} (I : i_Rel k u v) (hk : k + 4 ≤ 2048) (v1 : Int32) : wpX_shifted (fun r u' => wpY_shifted (fun r' v' => r' = r ∧ i_Rel (k + 4) u' v') v v1) u v1 := by
  obtain ⟨a, w, r, p, t, rfl, rfl, hB⟩ := I
  unfold wpX_shifted
  dsimp only
  rcases dd_num v1 with h | ⟨h1, h2, h3, _, _⟩
  · rcases h with h | h
    · exact dd_nmF _ (Or.inl h) (by exact br_t rfl (br_t h ⟨rfl, dd_rel hB⟩))
    · by_cases h' : v1 < -50
      · exact dd_nmF _ (Or.inl h') (by exact br_t rfl (br_t h' ⟨rfl, dd_rel hB⟩))
      · exact dd_nmF _ (Or.inr ⟨h', h⟩) (by exact br_t rfl (br_f h' (br_f (Int32.not_le.mpr h) ⟨rfl, dd_rel hB⟩)))
  · refine dd_nmT _ ⟨h1, h2⟩ ?_
    refine br_f (by decide) ?_
    refine dd_cm _ a w r (fun w1 hw => ?_)
    refine pk_loop (σ := Nat → Int32) (fun n i w' => wX_shifted_16 _ v1 n (nI i) a w' r) (fun n w' => ∀ c, c < 16 → w' c = if c % 5 = 0 ∧ c / 5 < n then w1 c + v1 else w1 c) 4 0 w1 (by omega) (fun c hc => by rw [if_neg (by omega)]) ?_ ?_
    · intro n w' g
      refine br_t (show (4 : Int32) ≤ nI 4 from by decide) (dd_wdX _ a w' r ?_)
      refine dd_shY _ a p t v1 h1 h3 (fun p' t' => ⟨(dd_ddX w' _ (fun c hc => ?_)).symm, dd_rel hB⟩)
      rw [g c hc, hw c hc]
      simp only [dd_sh]
      obtain ⟨f1, f2, f3, f4⟩ := dd_shF c hc
      by_cases e : c % 5 = 0
      · rw [if_pos ⟨e, f4⟩, if_pos ⟨f2, f1.mp e, f3⟩]
      · rw [if_neg (fun z => e z.1), if_neg (fun z => e (f1.mpr z.2.1))]
    · intro n i w' hi g k
      have y1 := dd_ix (nI i * 4 + nI i) (4 * i + i) 16 (dd_i4 i i) (by omega) (by decide)
      refine br_f (nI_ge (b := 4) hi (by decide)) ⟨y1.1, y1.1, nm_e (nm_r (nI_1 i) (k _ (fun c hc => ?_)))⟩
      rw [y1.2]
      by_cases e : c = 4 * i + i
      · rw [e, pk_us, if_pos (by omega), g _ (by omega), if_neg (by omega)]
      · rw [pk_un e, g c hc]
        by_cases e1 : c % 5 = 0 ∧ c / 5 < i
        · rw [if_pos e1, if_pos (by omega)]
        · rw [if_neg e1, if_neg (by omega)]

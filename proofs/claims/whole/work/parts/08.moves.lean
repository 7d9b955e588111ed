/-! set, at, swapRows, addRow, transpose -/
theorem dd_line (x : Int32) : (x < 0 ∨ (¬ x < 0 ∧ 4 ≤ x ∧ 3 < x)) ∨ ∃ j, j < 4 ∧ x = nI j := by
  rcases pk_ix x (n := 4) (by decide) with h | h | h
  · exact Or.inl (Or.inl h)
  · left; right
    have h0 : (0 : Int32).toInt = 0 := by decide
    have h3 : (3 : Int32).toInt = 3 := by decide
    have h4 : (4 : Int32).toInt = 4 := by decide
    have h' : (4 : Int32) ≤ x := h
    simp only [Int32.lt_iff_toInt_lt, Int32.le_iff_toInt_le, h0, h3, h4] at h' ⊢
    omega
  · exact Or.inr h
theorem dd_colm (x : Int32) : (x < 0 ∨ (¬ x < 0 ∧ 5 ≤ x ∧ 4 < x)) ∨ ∃ j, j < 5 ∧ x = nI j := by
  rcases pk_ix x (n := 5) (by decide) with h | h | h
  · exact Or.inl (Or.inl h)
  · left; right
    have h0 : (0 : Int32).toInt = 0 := by decide
    have h3 : (4 : Int32).toInt = 4 := by decide
    have h4 : (5 : Int32).toInt = 5 := by decide
    have h' : (5 : Int32) ≤ x := h
    simp only [Int32.lt_iff_toInt_lt, Int32.le_iff_toInt_le, h0, h3, h4] at h' ⊢
    omega
  · exact Or.inr h
theorem dd_lnF (post : Int32 → Prop) {x : Int32} (h : x < 0 ∨ (¬ x < 0 ∧ 4 ≤ x ∧ 3 < x)) (hp : post 0) : wpX_isLine post x := by
  rcases h with h | ⟨h, h1, h2⟩
  · exact br_t h hp
  · exact br_f h (br_t h1 hp)
theorem dd_lnT (post : Int32 → Prop) {j : Nat} (hj : j < 4) (hp : post 1) : wpX_isLine post (nI j) := br_f (nI_pos (by omega)) (br_f (nI_ge (b := 4) hj (by decide)) hp)
theorem dd_rwF (post : Int32 → Prop) (v : SY) {x : Int32} (h : x < 0 ∨ (¬ x < 0 ∧ 4 ≤ x ∧ 3 < x)) (hp : post 0) : wpY_row post v x := by
  obtain ⟨a, p, t⟩ := v
  rcases h with h | ⟨h, h1, h2⟩
  · exact br_t h hp
  · exact br_f h (br_t h2 hp)
theorem dd_rwT (post : Int32 → Prop) (v : SY) {j : Nat} (hj : j < 4) (hp : post 1) : wpY_row post v (nI j) := by
  obtain ⟨a, p, t⟩ := v
  exact br_f (nI_pos (by omega)) (br_f (nI_nlt (a := 3) (by omega) (by decide)) hp)
theorem dd_nmF (post : Int32 → Prop) {x : Int32} (h : x < -50 ∨ (¬ x < -50 ∧ 50 < x)) (hp : post 0) : wpX_isNumber post x := by
  rcases h with h | ⟨h, h1⟩
  · exact br_t h hp
  · exact br_f h (br_t h1 hp)
theorem dd_nmT (post : Int32 → Prop) {x : Int32} (h : ¬ x < -50 ∧ ¬ 50 < x) (hp : post 1) : wpX_isNumber post x := br_f h.1 (br_f h.2 hp)
theorem dd_ftF (post : Int32 → Prop) (v : SY) {i j : Nat} {x : Int32} (hi : i < 4) (hj : j < 5) (h : x < -50 ∨ (¬ x < -50 ∧ 50 < x)) (hp : post 0) : wpY_fits post v (nI i) (nI j) x := by
  obtain ⟨a, p, t⟩ := v
  unfold wpY_fits
  dsimp only
  refine dd_rwT _ (a, p, t) hi ?_
  refine br_f (by decide) (br_f (nI_pos (by omega)) (br_f (nI_nlt (a := 4) (by omega) (by decide)) ?_))
  rcases h with h | ⟨h, h1⟩
  · exact br_t h hp
  · exact br_f h (br_t h1 hp)
theorem dd_ftT (post : Int32 → Prop) (v : SY) {i j : Nat} {x : Int32} (hi : i < 4) (hj : j < 5) (h : ¬ x < -50 ∧ ¬ 50 < x) (hp : post 1) : wpY_fits post v (nI i) (nI j) x := by
  obtain ⟨a, p, t⟩ := v
  unfold wpY_fits
  dsimp only
  exact dd_rwT _ (a, p, t) hi (by exact br_f (by decide) (br_f (nI_pos (by omega)) (br_f (nI_nlt (a := 4) (by omega) (by decide)) (br_f h.1 (br_f h.2 hp)))))
theorem dd_ftL (post : Int32 → Prop) (v : SY) {x y z : Int32} (h : x < 0 ∨ (¬ x < 0 ∧ 4 ≤ x ∧ 3 < x)) (hp : post 0) : wpY_fits post v x y z := by
  obtain ⟨a, p, t⟩ := v
  unfold wpY_fits
  dsimp only
  exact dd_rwF _ (a, p, t) h (by exact br_t rfl hp)
theorem dd_ftC (post : Int32 → Prop) (v : SY) {i : Nat} {y z : Int32} (hi : i < 4) (h : y < 0 ∨ (¬ y < 0 ∧ 5 ≤ y ∧ 4 < y)) (hp : post 0) : wpY_fits post v (nI i) y z := by
  obtain ⟨a, p, t⟩ := v
  unfold wpY_fits
  dsimp only
  refine dd_rwT _ (a, p, t) hi ?_
  refine br_f (by decide) ?_
  rcases h with h | ⟨h, h1, h2⟩
  · exact br_t h hp
  · exact br_f h (br_t h2 hp)
theorem dd_plL (post : Int32 → Prop) {x y : Int32} (h : x < 0 ∨ (¬ x < 0 ∧ 4 ≤ x ∧ 3 < x)) (hp : post 0) : wpX_isPlace post x y := by
  unfold wpX_isPlace
  exact dd_lnF _ h (by exact br_t rfl hp)
theorem dd_plC (post : Int32 → Prop) {i : Nat} {y : Int32} (hi : i < 4) (h : y < 0 ∨ (¬ y < 0 ∧ 5 ≤ y ∧ 4 < y)) (hp : post 0) : wpX_isPlace post (nI i) y := by
  unfold wpX_isPlace
  refine dd_lnT _ hi ?_
  refine br_f (by decide) ?_
  rcases h with h | ⟨h, h1, h2⟩
  · exact br_t h hp
  · exact br_f h (br_t h1 hp)
theorem dd_plT (post : Int32 → Prop) {i j : Nat} (hi : i < 4) (hj : j < 5) (hp : post 1) : wpX_isPlace post (nI i) (nI j) := by
  unfold wpX_isPlace
  exact dd_lnT _ hi (by exact br_f (by decide) (br_f (nI_pos (by omega)) (br_f (nI_ge (b := 5) hj (by decide)) hp)))
theorem dd_setY0 (post : Int32 → SY → Prop) (a p : Nat → Int32) (t : Nat → Int64) (v1 v2 v3 : Int32) (h : ∀ post' : Int32 → Prop, post' 0 → wpY_fits post' (a, p, t) v1 v2 v3) (hp : post 0 (a, p, t)) : wpY_set post (a, p, t) v1 v2 v3 := by
  unfold wpY_set
  dsimp only
  exact h _ (br_t rfl hp)
theorem dd_setY1 (post : Int32 → SY → Prop) (a p : Nat → Int32) (t : Nat → Int64) (i j : Nat) (v3 : Int32) (hi : i < 4) (hj : j < 5) (n : ¬ v3 < -50 ∧ ¬ 50 < v3) (hp : post 1 (upd a (5 * i + j) v3, p, t)) : wpY_set post (a, p, t) (nI i) (nI j) v3 := by
  have y2 := dd_ix (5 * nI i + nI j) (5 * i + j) 20 (dd_5i i j) (by omega) (by decide)
  unfold wpY_set
  dsimp only
  refine dd_ftT _ (a, p, t) hi hj n ?_
  refine br_f (by decide) ⟨y2.1, nm_e ?_⟩
  rw [y2.2]
  exact hp
theorem i_vc_set {k : Nat} {u : SX} {v : SY} (I : i_Rel k u v) (hk : k + 4 ≤ 2048) (v1 : Int32) (v2 : Int32) (v3 : Int32) : wpX_set (fun r u' => wpY_set (fun r' v' => r' = r ∧ i_Rel (k + 4) u' v') v v1 v2 v3) u v1 v2 v3 := by
  obtain ⟨a, w, r, p, t, rfl, rfl, hB⟩ := I
  unfold wpX_set
  dsimp only
  rcases dd_line v1 with h | ⟨i, hi, rfl⟩
  · exact dd_plL _ h (by exact br_t rfl (dd_setY0 _ a p t _ _ _ (fun post' h' => dd_ftL _ _ h h') ⟨rfl, dd_rel hB⟩))
  · rcases dd_colm v2 with h | ⟨j, hj, rfl⟩
    · exact dd_plC _ hi h (by exact br_t rfl (dd_setY0 _ a p t _ _ _ (fun post' h' => dd_ftC _ _ hi h h') ⟨rfl, dd_rel hB⟩))
    · by_cases hn : -50 ≤ v3.toInt ∧ v3.toInt ≤ 50
      · have n := dd_numI v3 hn
        have y1 := dd_ix (nI i * 5 + nI j) (5 * i + j) 20 (dd_i5 i j) (by omega) (by decide)
        refine dd_plT _ hi hj ?_
        refine br_f (by decide) (dd_nmT _ n ?_)
        refine br_f (by decide) ⟨y1.1, nm_e ?_⟩
        rw [y1.2]
        exact dd_setY1 _ a p t i j v3 hi hj n ⟨rfl, dd_rel (dd_upB hB hn)⟩
      · have n := dd_numF v3 hn
        exact dd_plT _ hi hj (by exact br_f (by decide) (dd_nmF _ n (by exact br_t rfl (dd_setY0 _ a p t _ _ _ (fun post' h' => dd_ftF _ _ hi hj n h') ⟨rfl, dd_rel hB⟩))))
theorem dd_atY0 (post : Int32 → Prop) (a p : Nat → Int32) (t : Nat → Int64) (v1 v2 : Int32) (h : v1 < 0 ∨ (¬ v1 < 0 ∧ 4 ≤ v1 ∧ 3 < v1)) (hp : post (-1000000000)) : wpY_at post (a, p, t) v1 v2 := by
  unfold wpY_at
  dsimp only
  exact dd_rwF _ _ h (by exact br_t rfl hp)
theorem dd_atY1 (post : Int32 → Prop) (a p : Nat → Int32) (t : Nat → Int64) (i : Nat) (v2 : Int32) (hi : i < 4) (h : v2 < 0 ∨ (¬ v2 < 0 ∧ 5 ≤ v2 ∧ 4 < v2)) (hp : post (-1000000000)) : wpY_at post (a, p, t) (nI i) v2 := by
  unfold wpY_at
  dsimp only
  refine dd_rwT _ _ hi ?_
  refine br_f (by decide) ?_
  rcases h with h | ⟨h, h1, h2⟩
  · exact br_t h hp
  · exact br_f h (br_t h2 hp)
theorem dd_atY2 (post : Int32 → Prop) (a p : Nat → Int32) (t : Nat → Int64) (i j : Nat) (hi : i < 4) (hj : j < 5) (hp : post (a (5 * i + j))) : wpY_at post (a, p, t) (nI i) (nI j) := by
  have y2 := dd_ix (5 * nI i + nI j) (5 * i + j) 20 (dd_5i i j) (by omega) (by decide)
  unfold wpY_at
  dsimp only
  refine dd_rwT _ _ hi ?_
  refine br_f (by decide) (br_f (nI_pos (by omega)) (br_f (nI_nlt (a := 4) (by omega) (by decide)) ⟨y2.1, ?_⟩))
  rw [y2.2]
  exact hp
theorem i_vc_at {k : Nat} {u : SX} {v : SY} (I : i_Rel k u v) (hk : k + 4 ≤ 2048) (v1 : Int32) (v2 : Int32) : wpX_at (fun r => wpY_at (fun r' => r' = r ∧ i_Rel (k + 4) u v) v v1 v2) u v1 v2 := by
  obtain ⟨a, w, r, p, t, rfl, rfl, hB⟩ := I
  unfold wpX_at
  dsimp only
  rcases dd_line v1 with h | ⟨i, hi, rfl⟩
  · exact dd_plL _ h (by exact br_t rfl (dd_atY0 _ a p t _ _ h ⟨rfl, dd_rel hB⟩))
  · rcases dd_colm v2 with h | ⟨j, hj, rfl⟩
    · exact dd_plC _ hi h (by exact br_t rfl (dd_atY1 _ a p t _ _ hi h ⟨rfl, dd_rel hB⟩))
    · have y1 := dd_ix (nI i * 5 + nI j) (5 * i + j) 20 (dd_i5 i j) (by omega) (by decide)
      refine dd_plT _ hi hj ?_
      refine br_f (by decide) ⟨y1.1, ?_⟩
      rw [y1.2]
      exact dd_atY2 _ a p t i j hi hj ⟨rfl, dd_rel hB⟩
/-! swapRows -/
def dd_sw (a : Nat → Int32) (p q : Nat) : Nat → Int32 := upd (upd a p (a q)) q (a p)
theorem dd_swB {a : Nat → Int32} (h : dd_B a) {p q : Nat} (hp : p < 20) (hq : q < 20) : dd_B (dd_sw a p q) := dd_upB (dd_upB h (h q hq)) (h p hp)
theorem dd_swN (post : SX → Prop) (a w : Nat → Int32) (r : Nat → Int64) (x y : Int32) (p q : Nat) (hx : x = nI p) (hy : y = nI q) (hp : p < 20) (hq : q < 20) (h : post (dd_sw a p q, w, r)) : wpX_swapNumbers post (a, w, r) x y := by
  have y1 := dd_ix x p 20 hx hp (by decide)
  have y2 := dd_ix y q 20 hy hq (by decide)
  refine ⟨y1.1, nm_e ⟨y2.1, y1.1, nm_e ⟨y2.1, nm_e ?_⟩⟩⟩
  rw [y1.2, y2.2]
  exact h
def dd_sr (i k : Nat) : Nat → Nat → (Nat → Int32) → (Nat → Int32)
  | 0, _, a => a
  | d + 1, j, a => dd_sr i k d (j + 1) (dd_sw a (5 * i + j) (5 * k + j))
theorem dd_srB (i k : Nat) (hi : i < 4) (hk : k < 4) : ∀ d j a, j + d = 4 → dd_B a → dd_B (dd_sr i k d j a)
  | 0, _, _, _, h => h
  | d + 1, j, a, hd, h => dd_srB i k hi hk d (j + 1) _ (by omega) (dd_swB h (by omega) (by omega))
theorem dd_srX (post : Int32 → SX → Prop) (w : Nat → Int32) (r : Nat → Int64) (i k : Nat) (hi : i < 4) (hk : k < 4) : ∀ d j a, j + d = 4 → post 1 (dd_sr i k d j a, w, r) → wX_swapRows_18 post (nI i) (nI k) (d + 1) (nI j) a w r := by
  intro d
  induction d with
  | zero =>
    intro j a hd h
    obtain rfl : j = 4 := by omega
    exact br_t (show (4 : Int32) ≤ nI 4 from by decide) h
  | succ d ih =>
    intro j a hd h
    exact br_f (nI_ge (b := 4) (by omega) (by decide)) (dd_swN _ a w r _ _ (5 * i + j) (5 * k + j) (dd_i5 i j) (dd_i5 k j) (by omega) (by omega) (by exact nm_r (nI_1 j) (ih (j + 1) _ (by omega) h)))
theorem dd_srY (post : Int32 → SY → Prop) (p : Nat → Int32) (t : Nat → Int64) (i k : Nat) (hi : i < 4) (hk : k < 4) : ∀ d j a, j + d = 4 → post 1 (dd_sr i k d j a, p, t) → wY_swapRows_20 post (nI i) (nI k) (d + 1) (nI j) a p t := by
  intro d
  induction d with
  | zero =>
    intro j a hd h
    obtain rfl : j = 4 := by omega
    exact br_t (show (4 : Int32) ≤ nI 4 from by decide) h
  | succ d ih =>
    intro j a hd h
    have y1 := dd_ix (5 * nI i + nI j) (5 * i + j) 20 (dd_5i i j) (by omega) (by decide)
    have y2 := dd_ix (5 * nI k + nI j) (5 * k + j) 20 (dd_5i k j) (by omega) (by decide)
    refine br_f (nI_ge (b := 4) (by omega) (by decide)) ⟨y1.1, nm_e ⟨y2.1, y1.1, nm_e ⟨y2.1, nm_e (nm_r (nI_1 j) ?_)⟩⟩⟩
    rw [y1.2, y2.2]
    exact ih (j + 1) _ (by omega) h
theorem dd_swY0 (post : Int32 → SY → Prop) (a p : Nat → Int32) (t : Nat → Int64) (v1 v2 : Int32) (h : v1 < 0 ∨ (¬ v1 < 0 ∧ 4 ≤ v1 ∧ 3 < v1)) (hp : post 0 (a, p, t)) : wpY_swapRows post (a, p, t) v1 v2 := by
  unfold wpY_swapRows
  dsimp only
  exact dd_rwF _ _ h (by exact br_t rfl hp)
theorem dd_swY1 (post : Int32 → SY → Prop) (a p : Nat → Int32) (t : Nat → Int64) (i : Nat) (v2 : Int32) (hi : i < 4) (h : v2 < 0 ∨ (¬ v2 < 0 ∧ 4 ≤ v2 ∧ 3 < v2)) (hp : post 0 (a, p, t)) : wpY_swapRows post (a, p, t) (nI i) v2 := by
  unfold wpY_swapRows
  dsimp only
  exact dd_rwT _ _ hi (by exact br_f (by decide) (dd_rwF _ _ h (by exact br_t rfl hp)))
theorem dd_swY2 (post : Int32 → SY → Prop) (a p : Nat → Int32) (t : Nat → Int64) (i j : Nat) (hi : i < 4) (hj : j < 4) (hp : post 1 (dd_sr i j 4 0 a, p, t)) : wpY_swapRows post (a, p, t) (nI i) (nI j) := by
  unfold wpY_swapRows
  dsimp only
  exact dd_rwT _ _ hi (by exact br_f (by decide) (dd_rwT _ _ hj (by exact br_f (by decide) ⟨5, dd_srY _ p t i j hi hj 4 0 a (by omega) hp⟩)))
theorem i_vc_swapRows {k : Nat} {u : SX} {v : SY} (I : i_Rel k u v) (hk : k + 4 ≤ 2048) (v1 : Int32) (v2 : Int32) : wpX_swapRows (fun r u' => wpY_swapRows (fun r' v' => r' = r ∧ i_Rel (k + 4) u' v') v v1 v2) u v1 v2 := by
  obtain ⟨a, w, r, p, t, rfl, rfl, hB⟩ := I
  unfold wpX_swapRows
  dsimp only
  rcases dd_line v1 with h | ⟨i, hi, rfl⟩
  · exact dd_lnF _ h (by exact br_t rfl (dd_swY0 _ a p t _ _ h ⟨rfl, dd_rel hB⟩))
  · rcases dd_line v2 with h | ⟨j, hj, rfl⟩
    · exact dd_lnT _ hi (by exact br_f (by decide) (dd_lnF _ h (by exact br_t rfl (dd_swY1 _ a p t _ _ hi h ⟨rfl, dd_rel hB⟩))))
    · exact dd_lnT _ hi (by exact br_f (by decide) (dd_lnT _ hj (by exact br_f (by decide) ⟨5, dd_srX _ w r i j hi hj 4 0 a (by omega) (dd_swY2 _ a p t i j hi hj ⟨rfl, dd_rel (dd_srB i j hi hj 4 0 a (by omega) hB)⟩)⟩)))
/-! addRow -/
def dd_sm (a : Nat → Int32) (f : Int32) (i k j : Nat) : Int32 := a (5 * i + j) + f * a (5 * k + j)
def dd_ok (a : Nat → Int32) (f : Int32) (i k j : Nat) : Prop := -50 ≤ (dd_sm a f i k j).toInt ∧ (dd_sm a f i k j).toInt ≤ 50
def dd_ar (f : Int32) (i k : Nat) : Nat → Nat → (Nat → Int32) → (Nat → Int32)
  | 0, _, a => a
  | d + 1, j, a => dd_ar f i k d (j + 1) (upd a (5 * i + j) (dd_sm a f i k j))
theorem dd_arB (a : Nat → Int32) (f : Int32) (i k : Nat) (hi : i < 4) (hk : k < 4) (hn : i ≠ k) (ho : ∀ j, j < 4 → dd_ok a f i k j) : ∀ d j b, j + d = 4 → dd_B b → (∀ j', j ≤ j' → j' < 4 → b (5 * i + j') = a (5 * i + j') ∧ b (5 * k + j') = a (5 * k + j')) → dd_B (dd_ar f i k d j b)
  | 0, _, _, _, h, _ => h
  | d + 1, j, b, hd, h, e => by
    have e1 := e j (Nat.le_refl _) (by omega)
    have e2 : dd_sm b f i k j = dd_sm a f i k j := by simp only [dd_sm, e1.1, e1.2]
    have h1 : dd_B (upd b (5 * i + j) (dd_sm b f i k j)) := dd_upB h (by rw [e2]; exact ho j (by omega))
    refine dd_arB a f i k hi hk hn ho d (j + 1) _ (by omega) h1 (fun j' h2 h3 => ?_)
    rw [pk_un (by omega), pk_un (by omega)]
    exact e j' (by omega) h3
theorem dd_x90 (post : Int32 → SX → Prop) (w : Nat → Int32) (r : Nat → Int64) (f : Int32) (i k : Nat) (hi : i < 4) (hk : k < 4) : ∀ d j a, j + d = 4 → post 1 (dd_ar f i k d j a, w, r) → wX_addRow_90 post (nI i) (nI k) f (d + 1) (nI j) a w r := by
  intro d
  induction d with
  | zero =>
    intro j a hd h
    obtain rfl : j = 4 := by omega
    exact br_t (show (4 : Int32) ≤ nI 4 from by decide) h
  | succ d ih =>
    intro j a hd h
    have y1 := dd_ix (nI i * 5 + nI j) (5 * i + j) 20 (dd_i5 i j) (by omega) (by decide)
    have y2 := dd_ix (nI k * 5 + nI j) (5 * k + j) 20 (dd_i5 k j) (by omega) (by decide)
    refine br_f (nI_ge (b := 4) (by omega) (by decide)) ⟨y1.1, y2.1, y1.1, nm_e (nm_r (nI_1 j) ?_)⟩
    rw [y1.2, y2.2]
    exact ih (j + 1) _ (by omega) h
theorem dd_y103 (post : Int32 → SY → Prop) (p : Nat → Int32) (t : Nat → Int64) (f : Int32) (i k : Nat) (hi : i < 4) (hk : k < 4) : ∀ d j a, j + d = 4 → post 1 (dd_ar f i k d j a, p, t) → wY_addRow_103 post (nI i) (nI k) f 1 (d + 1) (nI j) a p t := by
  intro d
  induction d with
  | zero =>
    intro j a hd h
    obtain rfl : j = 4 := by omega
    exact br_t (show (4 : Int32) ≤ nI 4 from by decide) ⟨rfl, h⟩
  | succ d ih =>
    intro j a hd h
    have y1 := dd_ix (5 * nI i + nI j) (5 * i + j) 20 (dd_5i i j) (by omega) (by decide)
    have y2 := dd_ix (5 * nI k + nI j) (5 * k + j) 20 (dd_5i k j) (by omega) (by decide)
    refine br_f (nI_ge (b := 4) (by omega) (by decide)) (br_f (by decide) ⟨y1.1, y2.1, y1.1, nm_e (nm_r (nI_1 j) ?_)⟩)
    rw [y1.2, y2.2]
    exact ih (j + 1) _ (by omega) h
theorem dd_x38 (post : Int32 → SX → Prop) (a w : Nat → Int32) (r : Nat → Int64) (f : Int32) (i k : Nat) (hi : i < 4) (hk : k < 4) : ∀ d j, j + d = 4 → (((∀ j', j ≤ j' → j' < 4 → dd_ok a f i k j') → ∃ n, wX_addRow_90 post (nI i) (nI k) f n 0 a w r) ∧ ((¬ ∀ j', j ≤ j' → j' < 4 → dd_ok a f i k j') → post 0 (a, w, r))) → wX_addRow_38 post (nI i) (nI k) f a w r (d + 1) (nI j) := by
  intro d
  induction d with
  | zero =>
    intro j hd h
    obtain rfl : j = 4 := by omega
    exact br_t (show (4 : Int32) ≤ nI 4 from by decide) (h.1 (fun j' h1 h2 => by omega))
  | succ d ih =>
    intro j hd h
    have y1 := dd_ix (nI i * 5 + nI j) (5 * i + j) 20 (dd_i5 i j) (by omega) (by decide)
    have y2 := dd_ix (nI k * 5 + nI j) (5 * k + j) 20 (dd_i5 k j) (by omega) (by decide)
    refine br_f (nI_ge (b := 4) (by omega) (by decide)) ⟨y1.1, y2.1, nm_r (e' := dd_sm a f i k j) (by rw [y1.2, y2.2]; rfl) ?_⟩
    by_cases ho : dd_ok a f i k j
    · refine dd_nmT _ (dd_numI _ ho) ?_
      refine br_f (by decide) (nm_r (nI_1 j) (ih (j + 1) (by omega) ⟨fun g => h.1 (fun j' h1 h2 => ?_), fun g => h.2 (fun y => g (fun j' h1 h2 => y j' (by omega) h2))⟩))
      by_cases e : j' = j
      · rw [e]; exact ho
      · exact g j' (by omega) h2
    · exact dd_nmF _ (dd_numF _ ho) (by exact br_t rfl (h.2 (fun y => ho (y j (Nat.le_refl _) (by omega)))))
theorem dd_y410 (post : Int32 → SY → Prop) (a p : Nat → Int32) (t : Nat → Int64) (f : Int32) (i k : Nat) (hp : post 0 (a, p, t)) : ∀ d j, j + d = 4 → wY_addRow_41 post (nI i) (nI k) f a p t (d + 1) 0 (nI j) := by
  intro d
  induction d with
  | zero =>
    intro j hd
    obtain rfl : j = 4 := by omega
    exact br_t (show (4 : Int32) ≤ nI 4 from by decide) ⟨1, br_f (by decide) (br_t rfl ⟨rfl, hp⟩)⟩
  | succ d ih =>
    intro j hd
    exact br_f (nI_ge (b := 4) (by omega) (by decide)) (br_t rfl (nm_r (nI_1 j) (ih (j + 1) (by omega))))
theorem dd_y41 (post : Int32 → SY → Prop) (a p : Nat → Int32) (t : Nat → Int64) (f : Int32) (i k : Nat) (hi : i < 4) (hk : k < 4) : ∀ d j, j + d = 4 → (((∀ j', j ≤ j' → j' < 4 → dd_ok a f i k j') → ∃ n, wY_addRow_103 post (nI i) (nI k) f 1 n 0 a p t) ∧ ((¬ ∀ j', j ≤ j' → j' < 4 → dd_ok a f i k j') → post 0 (a, p, t))) → wY_addRow_41 post (nI i) (nI k) f a p t (d + 1) 1 (nI j) := by
  intro d
  induction d with
  | zero =>
    intro j hd h
    obtain rfl : j = 4 := by omega
    exact br_t (show (4 : Int32) ≤ nI 4 from by decide) (h.1 (fun j' h1 h2 => by omega))
  | succ d ih =>
    intro j hd h
    have y1 := dd_ix (5 * nI i + nI j) (5 * i + j) 20 (dd_5i i j) (by omega) (by decide)
    have y2 := dd_ix (5 * nI k + nI j) (5 * k + j) 20 (dd_5i k j) (by omega) (by decide)
    refine br_f (nI_ge (b := 4) (by omega) (by decide)) (br_f (by decide) ⟨y1.1, y2.1, ?_⟩)
    rw [y1.2, y2.2]
    by_cases ho : dd_ok a f i k j
    · refine dd_ftT _ (a, p, t) hi (by omega) (dd_numI _ ho) ?_
      refine br_f (by decide) (nm_r (nI_1 j) (ih (j + 1) (by omega) ⟨fun g => h.1 (fun j' h1 h2 => ?_), fun g => h.2 (fun y => g (fun j' h1 h2 => y j' (by omega) h2))⟩))
      by_cases e : j' = j
      · rw [e]; exact ho
      · exact g j' (by omega) h2
    · exact dd_ftF _ (a, p, t) hi (by omega) (dd_numF _ ho) (by exact br_t rfl (nm_r (nI_1 j) (dd_y410 post a p t f i k (h.2 (fun y => ho (y j (Nat.le_refl _) (by omega)))) d (j + 1) (by omega))))
theorem i_vc_addRow {k : Nat} {u : SX} {v : SY} (I : i_Rel k u v) (hk : k + 4 ≤ 2048) (v1 : Int32) (v2 : Int32) (v3 : Int32) : wpX_addRow (fun r u' => wpY_addRow (fun r' v' => r' = r ∧ i_Rel (k + 4) u' v') v v1 v2 v3) u v1 v2 v3 := by
  obtain ⟨a, w, r, p, t, rfl, rfl, hB⟩ := I
  unfold wpX_addRow
  dsimp only
  rcases dd_line v1 with h | ⟨i, hi, rfl⟩
  · refine dd_lnF _ h (by exact br_t rfl (br_c (fun _ => ⟨rfl, dd_rel hB⟩) (fun _ => dd_rwF _ (a, p, t) h (by exact br_t rfl ⟨rfl, dd_rel hB⟩))))
  · rcases dd_line v2 with h | ⟨j, hj, rfl⟩
    · refine dd_lnT _ hi (by exact br_f (by decide) (dd_lnF _ h (by exact br_t rfl (br_c (fun _ => ⟨rfl, dd_rel hB⟩) (fun _ => dd_rwT _ (a, p, t) hi (by exact br_f (by decide) (dd_rwF _ (a, p, t) h (by exact br_t rfl ⟨rfl, dd_rel hB⟩))))))))
    · refine dd_lnT _ hi ?_
      refine br_f (by decide) (dd_lnT _ hj ?_)
      refine br_f (by decide) ?_
      by_cases e : nI i = nI j
      · exact br_t e (br_t e ⟨rfl, dd_rel hB⟩)
      · have hn : i ≠ j := fun z => e (by rw [z])
        refine br_f e ?_
        by_cases f1 : v3 < -9
        · exact br_t f1 (br_f e (dd_rwT _ (a, p, t) hi (by exact br_f (by decide) (dd_rwT _ (a, p, t) hj (by exact br_f (by decide) (br_t f1 ⟨rfl, dd_rel hB⟩))))))
        · by_cases f2 : v3 ≤ 9
          · refine br_f f1 (br_t f2 ⟨5, dd_x38 _ a w r v3 i j hi hj 4 0 (by omega) ⟨fun g => ⟨5, dd_x90 _ w r v3 i j hi hj 4 0 a (by omega) ?_⟩, fun g => ?_⟩⟩)
            · exact br_f e (dd_rwT _ (a, p, t) hi (by exact br_f (by decide) (dd_rwT _ (a, p, t) hj (by exact br_f (by decide) (br_f f1 (br_t f2 ⟨5, dd_y41 _ a p t v3 i j hi hj 4 0 (by omega) ⟨fun _ => ⟨5, dd_y103 _ p t v3 i j hi hj 4 0 a (by omega) ⟨rfl, dd_rel (dd_arB a v3 i j hi hj hn (fun j' h => g j' (by omega) h) 4 0 a (by omega) hB (fun _ _ _ => ⟨rfl, rfl⟩))⟩⟩, fun z => absurd g z⟩⟩))))))
            · exact br_f e (dd_rwT _ (a, p, t) hi (by exact br_f (by decide) (dd_rwT _ (a, p, t) hj (by exact br_f (by decide) (br_f f1 (br_t f2 ⟨5, dd_y41 _ a p t v3 i j hi hj 4 0 (by omega) ⟨fun z => absurd z g, fun _ => ⟨rfl, dd_rel hB⟩⟩⟩))))))
          · exact br_f f1 (br_f f2 (br_f e (dd_rwT _ (a, p, t) hi (by exact br_f (by decide) (dd_rwT _ (a, p, t) hj (by exact br_f (by decide) (br_f f1 (br_f f2 ⟨rfl, dd_rel hB⟩))))))))
/-! transpose -/
def dd_tj (i : Nat) : Nat → Nat → (Nat → Int32) → (Nat → Int32)
  | 0, _, a => a
  | d + 1, j, a => dd_tj i d (j + 1) (dd_sw a (5 * i + j) (5 * j + i))
def dd_ti : Nat → Nat → (Nat → Int32) → (Nat → Int32)
  | 0, _, a => a
  | d + 1, i, a => dd_ti d (i + 1) (dd_tj i i 0 a)
def dd_tr (a : Nat → Int32) (c : Nat) : Int32 := if c < 20 ∧ c % 5 < 4 then a (5 * (c % 5) + c / 5) else a c
theorem dd_t9 (post : SX → Prop) (J : Int32 → (Nat → Int32) → (Nat → Int32) → (Nat → Int64) → Prop) (w : Nat → Int32) (r : Nat → Int64) (i : Nat) (hi : i < 4) : ∀ d j a, j + d = i → J (nI (i + 1)) (dd_tj i d j a) w r → wX_transpose_9 post J (nI i) (d + 1) (nI j) a w r := by
  intro d
  induction d with
  | zero =>
    intro j a hd h
    exact br_t (nI_le (by omega) (by omega)) (nm_r (nI_1 i) h)
  | succ d ih =>
    intro j a hd h
    exact br_f (nI_ge (by omega) (by omega)) (dd_swN _ a w r _ _ (5 * i + j) (5 * j + i) (dd_i5 i j) (dd_i5 j i) (by omega) (by omega) (by exact nm_r (nI_1 j) (ih (j + 1) _ (by omega) h)))
theorem dd_tX2 (post : SX → Prop) (w : Nat → Int32) (r : Nat → Int64) : ∀ d i a, i + d = 4 → post (dd_ti d i a, w, r) → wX_transpose_2 post (d + 1) (nI i) a w r := by
  intro d
  induction d with
  | zero =>
    intro i a hd h
    obtain rfl : i = 4 := by omega
    exact br_t (show (4 : Int32) ≤ nI 4 from by decide) h
  | succ d ih =>
    intro i a hd h
    exact br_f (nI_ge (b := 4) (by omega) (by decide)) ⟨i + 1, dd_t9 post _ w r i (by omega) i 0 a (by omega) (ih (i + 1) _ (by omega) h)⟩
theorem dd_trX (a : Nat → Int32) : dd_ti 4 0 a = dd_tr a := by
  funext c
  match c with
  | 0 | 1 | 2 | 3 | 4 | 5 | 6 | 7 | 8 | 9 | 10 | 11 | 12 | 13 | 14 | 15 | 16 | 17 | 18 | 19 => simp [dd_ti, dd_tj, dd_sw, upd, dd_tr]
  | n + 20 =>
    simp [dd_ti, dd_tj, dd_sw, upd, dd_tr]
    intro h
    omega
theorem dd_trB {a : Nat → Int32} (h : dd_B a) : dd_B (dd_tr a) := by
  intro c hc
  simp only [dd_tr]
  split
  · exact h _ (by omega)
  · exact h _ hc
theorem dd_keep (post : SY → Prop) (a k : Nat → Int32) (t : Nat → Int64) (h : ∀ k', (∀ c, c < 20 → k' c = a c) → post (a, k', t)) : wpY_keep post (a, k, t) := by
  refine pk_loop (σ := Nat → Int32) (fun n c k' => wY_keep_2 post n (nI c) a k' t) (fun c k' => ∀ c', c' < c → k' c' = a c') 20 0 k (by omega) (fun c' hc' => by omega) ?_ ?_
  · intro n k' g
    exact br_t (show (20 : Int32) ≤ nI 20 from by decide) (h k' g)
  · intro n c k' hc g kk
    refine br_f (nI_ge (b := 20) hc (by decide)) ⟨vp_in_nI hc (by decide), vp_in_nI hc (by decide), nm_e (nm_r (nI_1 c) (kk _ (fun c' hc' => ?_)))⟩
    rw [nI_clamp (by omega)]
    by_cases e : c' = c
    · rw [e, pk_us]
    · rw [pk_un e]; exact g c' (by omega)
theorem dd_restore (post : SY → Prop) (a b k : Nat → Int32) (t : Nat → Int64) (hk : ∀ c, c < 20 → k c = b c) (ha : ∀ c, 20 ≤ c → a c = b c) (h : post (b, k, t)) : wpY_restore post (a, k, t) := by
  refine pk_loop (σ := Nat → Int32) (fun n c a' => wY_restore_2 post n (nI c) a' k t) (fun c a' => (∀ c', c' < c → a' c' = b c') ∧ (∀ c', 20 ≤ c' → a' c' = b c')) 20 0 a (by omega) ⟨fun c' hc' => by omega, ha⟩ ?_ ?_
  · intro n a' ⟨g1, g2⟩
    have e : a' = b := by
      funext c
      by_cases e : c < 20
      · exact g1 c e
      · exact g2 c (by omega)
    rw [e]
    exact br_t (show (20 : Int32) ≤ nI 20 from by decide) h
  · intro n c a' hc ⟨g1, g2⟩ kk
    refine br_f (nI_ge (b := 20) hc (by decide)) ⟨vp_in_nI hc (by decide), vp_in_nI hc (by decide), nm_e (nm_r (nI_1 c) (kk _ ⟨fun c' hc' => ?_, fun c' hc' => ?_⟩))⟩
    · rw [nI_clamp (by omega)]
      by_cases e : c' = c
      · rw [e, pk_us]; exact hk c hc
      · rw [pk_un e]; exact g1 c' (by omega)
    · rw [nI_clamp (by omega), pk_un (by omega)]
      exact g2 c' hc'
theorem dd_trY (post : SY → Prop) (a k : Nat → Int32) (t : Nat → Int64) (h : ∀ k', post (dd_tr a, k', t)) : wpY_transpose post (a, k, t) := by
  unfold wpY_transpose
  refine dd_keep _ a k t (fun k' hk => ?_)
  refine pk_loop (σ := Nat → Int32) (fun n c a' => wY_transpose_6 post n (nI c) a' k' t) (fun n a' => ∀ c, a' c = if c < 20 ∧ c % 5 < 4 ∧ 4 * (c / 5) + c % 5 < n then a (5 * (c % 5) + c / 5) else a c) 16 0 a (by omega) (fun c => by rw [if_neg (by omega)]) ?_ ?_
  · intro n a' g
    have e : a' = dd_tr a := by
      funext c
      rw [g c]
      simp only [dd_tr]
      by_cases e : c < 20 ∧ c % 5 < 4
      · rw [if_pos e, if_pos (by omega)]
      · rw [if_neg e, if_neg (by omega)]
    rw [e]
    exact br_t (show (16 : Int32) ≤ nI 16 from by decide) (h k')
  · intro n m a' hm g kk
    have d1 : nI m / 4 = nI (m / 4) := pk_div (d := 4) (by omega) (by decide) (by decide)
    have d2 : nI m - nI m / 4 * 4 = nI (m % 4) := pk_rem (d := 4) (by omega) (by decide) (by decide)
    have y1 := dd_ix (5 * (nI m - nI m / 4 * 4) + nI m / 4) (5 * (m % 4) + m / 4) 20 (by rw [d2, d1, dd_5i]) (by omega) (by decide)
    have y2 := dd_ix (5 * (nI m / 4) + (nI m - nI m / 4 * 4)) (5 * (m / 4) + m % 4) 20 (by rw [d2, d1, dd_5i]) (by omega) (by decide)
    refine br_f (nI_ge (b := 16) hm (by decide)) ⟨by decide, by decide, by decide, by decide, y1.1, y2.1, nm_e (nm_r (nI_1 m) (kk _ (fun c => ?_)))⟩
    rw [y1.2, y2.2, hk _ (by omega)]
    by_cases e : c = 5 * (m / 4) + m % 4
    · rw [e, pk_us, if_pos (by omega)]
      congr 1
      omega
    · rw [pk_un e, g c]
      by_cases e1 : c < 20 ∧ c % 5 < 4 ∧ 4 * (c / 5) + c % 5 < m
      · rw [if_pos e1, if_pos (by omega)]
      · rw [if_neg e1, if_neg (by omega)]
theorem i_vc_transpose {k : Nat} {u : SX} {v : SY} (I : i_Rel k u v) (hk : k + 4 ≤ 2048) : wpX_transpose (fun u' => wpY_transpose (fun v' => i_Rel (k + 4) u' v') v) u := by
  obtain ⟨a, w, r, p, t, rfl, rfl, hB⟩ := I
  refine ⟨5, dd_tX2 _ w r 4 0 a (by omega) ?_⟩
  rw [dd_trX]
  exact dd_trY _ a p t (fun k' => dd_rel (dd_trB hB))

/-! the reduced form: its pivots, and which minors vanish -/
def dd_E (B : Nat → Nat → Int) (f c : Nat) : Prop := ∃ pv : Nat → Nat, (∀ q, q < f → pv q < c ∧ B q (pv q) ≠ 0) ∧ (∀ q q', q < q' → q' < f → pv q < pv q') ∧ (∀ q', q' < 4 → ∀ q, q < f → q < q' → B q' (pv q) = 0) ∧ (∀ q, f ≤ q → q < 4 → ∀ c', c' < c → B q c' = 0)
theorem dd_E0 (B : Nat → Nat → Int) : dd_E B 0 0 := ⟨fun _ => 0, fun q h => absurd h (by omega), fun q q' _ h => absurd h (by omega), fun q' _ q h => absurd h (by omega), fun q _ _ c' h => absurd h (by omega)⟩
theorem dd_En {B : Nat → Nat → Int} {f c : Nat} (h : dd_E B f c) (z : ∀ q, f ≤ q → q < 4 → B q c = 0) : dd_E B f (c + 1) := by
  obtain ⟨pv, h1, h2, h3, h4⟩ := h
  refine ⟨pv, fun q hq => ⟨by have := (h1 q hq).1; omega, (h1 q hq).2⟩, h2, h3, fun q hq hq4 c' hc' => ?_⟩
  by_cases e : c' = c
  · rw [e]; exact z q hq hq4
  · exact h4 q hq hq4 c' (by omega)
/-- rows f and p exchanged -/
theorem dd_Esw {B S : Nat → Nat → Int} {f c p : Nat} (hc : c < 5) (hf : f ≤ p) (hp : p < 4) (h : dd_E B f c)
    (s1 : ∀ i, i < 4 → i ≠ f → i ≠ p → ∀ j, j < 5 → S i j = B i j) (s2 : ∀ j, j < 5 → S f j = B p j) (s3 : ∀ j, j < 5 → S p j = B f j) : dd_E S f c ∧ dd_Q B S := by
  constructor
  · obtain ⟨pv, h1, h2, h3, h4⟩ := h
    refine ⟨pv, fun q hq => ⟨(h1 q hq).1, ?_⟩, h2, fun q' hq' q hq hqq => ?_, fun q hq hq4 c' hc' => ?_⟩
    · rw [s1 q (by omega) (by omega) (by omega) _ (by have := (h1 q hq).1; omega)]; exact (h1 q hq).2
    · have hv := (h1 q hq).1
      by_cases e1 : q' = f
      · rw [e1, s2 _ (by omega)]; exact h3 p hp q hq (by omega)
      · by_cases e2 : q' = p
        · rw [e2, s3 _ (by omega)]; exact h3 f (by omega) q hq (by omega)
        · rw [s1 q' hq' e1 e2 _ (by omega)]; exact h3 q' hq' q hq hqq
    · by_cases e1 : q = f
      · rw [e1, s2 _ (by omega)]; exact h4 p hf hp c' hc'
      · by_cases e2 : q = p
        · rw [e2, s3 _ (by omega)]; exact h4 f (by omega) (by omega) c' hc'
        · rw [s1 q hq4 e1 e2 _ (by omega)]; exact h4 q hq hq4 c' hc'
  · apply dd_QR
    · intro i hi
      by_cases e1 : i = f
      · exact ⟨1, 1, 0, p, 0, by decide, hp, by omega, fun j hj => by rw [e1, s2 j hj]; grind⟩
      · by_cases e2 : i = p
        · exact ⟨1, 1, 0, f, 0, by decide, by omega, by omega, fun j hj => by rw [e2, s3 j hj]; grind⟩
        · exact ⟨1, 1, 0, i, 0, by decide, hi, by omega, fun j hj => by rw [s1 i hi e1 e2 j hj]; grind⟩
    · intro i hi
      by_cases e1 : i = f
      · exact ⟨1, 1, 0, p, 0, by decide, hp, by omega, fun j hj => by rw [e1, s3 j hj]; grind⟩
      · by_cases e2 : i = p
        · exact ⟨1, 1, 0, f, 0, by decide, by omega, by omega, fun j hj => by rw [e2, s2 j hj]; grind⟩
        · exact ⟨1, 1, 0, i, 0, by decide, hi, by omega, fun j hj => by rw [s1 i hi e1 e2 j hj]; grind⟩
/-- the column cleared below row f -/
theorem dd_Ecl {S N : Nat → Nat → Int} {f c : Nat} (hc : c < 5) (hf : f < 4) (h : dd_E S f c) (hp : S f c ≠ 0)
    (n1 : ∀ i, i ≤ f → ∀ j, j < 5 → N i j = S i j) (n2 : ∀ i, f < i → i < 4 → ∀ j, j < 5 → N i j = S f c * S i j - S i c * S f j) : dd_E N (f + 1) (c + 1) ∧ dd_Q S N := by
  constructor
  · obtain ⟨pv, h1, h2, h3, h4⟩ := h
    refine ⟨fun q => if q = f then c else pv q, fun q hq => ?_, fun q q' hqq hq' => ?_, fun q' hq' q hq hqq => ?_, fun q hq hq4 c' hc' => ?_⟩
    · by_cases e : q = f
      · simp only [e, if_true]
        exact ⟨by omega, by rw [n1 f (by omega) c hc]; exact hp⟩
      · simp only [e, if_false]
        have := h1 q (by omega)
        exact ⟨by omega, by rw [n1 q (by omega) _ (by omega)]; exact this.2⟩
    · have e : q ≠ f := by omega
      simp only [e, if_false]
      by_cases e' : q' = f
      · simp only [e', if_true]
        exact (h1 q (by omega)).1
      · simp only [e', if_false]
        exact h2 q q' hqq (by omega)
    · by_cases e : q = f
      · simp only [e, if_true]
        rw [n2 q' (by omega) hq' c hc]
        grind
      · simp only [e, if_false]
        have hv := (h1 q (by omega)).1
        by_cases e' : q' ≤ f
        · rw [n1 q' e' _ (by omega)]; exact h3 q' hq' q (by omega) hqq
        · rw [n2 q' (by omega) hq' _ (by omega), h3 q' hq' q (by omega) hqq, h3 f hf q (by omega) (by omega)]
          simp
    · rw [n2 q (by omega) hq4 _ (by omega)]
      by_cases e : c' = c
      · rw [e]; grind
      · rw [h4 q (by omega) hq4 c' (by omega), h4 f (by omega) hf c' (by omega)]
        simp
  · apply dd_QR
    · intro i hi
      by_cases e : i ≤ f
      · exact ⟨1, 1, 0, i, 0, by decide, hi, by omega, fun j hj => by rw [n1 i e j hj]; grind⟩
      · exact ⟨1, S f c, - S i c, i, f, by decide, hi, hf, fun j hj => by rw [n2 i (by omega) hi j hj]; grind⟩
    · intro i hi
      by_cases e : i ≤ f
      · exact ⟨1, 1, 0, i, 0, by decide, hi, by omega, fun j hj => by rw [n1 i e j hj]; grind⟩
      · exact ⟨S f c, 1, S i c, i, f, hp, hi, hf, fun j hj => by rw [n2 i (by omega) hi j hj, n1 f (by omega) j hj]; grind⟩
/-- f is the rank of the first w columns: larger minors vanish, and some minor of size f, its columns in their order, doesn't -/
def dd_U (M : Nat → Nat → Int) (w f : Nat) : Prop := (f < 1 → ∀ p, p < w → dd_Z1 M p) ∧ (f < 2 → ∀ p q, p < w → q < w → dd_Z2 M p q) ∧ (f < 3 → ∀ p q r, p < w → q < w → r < w → dd_Z3 M p q r) ∧ (f < 4 → ∀ p q r s, p < w → q < w → r < w → s < w → dd_Z4 M p q r s)
def dd_V (M : Nat → Nat → Int) (w f : Nat) : Prop := f = 0 ∨ (f = 1 ∧ ∃ p, p < w ∧ ¬ dd_Z1 M p) ∨ (f = 2 ∧ ∃ p q, p < q ∧ q < w ∧ ¬ dd_Z2 M p q) ∨ (f = 3 ∧ ∃ p q r, p < q ∧ q < r ∧ r < w ∧ ¬ dd_Z3 M p q r) ∨ (f = 4 ∧ ∃ p q r s, p < q ∧ q < r ∧ r < s ∧ s < w ∧ ¬ dd_Z4 M p q r s)
theorem dd_UQ {M N : Nat → Nat → Int} {w f : Nat} (hw : w ≤ 5) (g : dd_Q M N) (h : dd_U N w f) : dd_U M w f :=
  ⟨fun hf p a => (g.1 p (by omega)).mpr (h.1 hf p a), fun hf p q a b => (g.2.1 p q (by omega) (by omega)).mpr (h.2.1 hf p q a b), fun hf p q r a b c => (g.2.2.1 p q r (by omega) (by omega) (by omega)).mpr (h.2.2.1 hf p q r a b c), fun hf p q r s a b c d => (g.2.2.2 p q r s (by omega) (by omega) (by omega) (by omega)).mpr (h.2.2.2 hf p q r s a b c d)⟩
theorem dd_VQ {M N : Nat → Nat → Int} {w f : Nat} (hw : w ≤ 5) (g : dd_Q M N) (h : dd_V N w f) : dd_V M w f := by
  rcases h with h | ⟨h, p, a, z⟩ | ⟨h, p, q, a, b, z⟩ | ⟨h, p, q, r, a, b, c, z⟩ | ⟨h, p, q, r, s, a, b, c, d, z⟩
  · exact Or.inl h
  · exact Or.inr (Or.inl ⟨h, p, a, fun y => z ((g.1 p (by omega)).mp y)⟩)
  · exact Or.inr (Or.inr (Or.inl ⟨h, p, q, a, b, fun y => z ((g.2.1 p q (by omega) (by omega)).mp y)⟩))
  · exact Or.inr (Or.inr (Or.inr (Or.inl ⟨h, p, q, r, a, b, c, fun y => z ((g.2.2.1 p q r (by omega) (by omega) (by omega)).mp y)⟩)))
  · exact Or.inr (Or.inr (Or.inr (Or.inr ⟨h, p, q, r, s, a, b, c, d, fun y => z ((g.2.2.2 p q r s (by omega) (by omega) (by omega) (by omega)).mp y)⟩)))
theorem dd_EU {B : Nat → Nat → Int} {w f c : Nat} (h : dd_E B f c) (e : c = w ∨ f = 4) : dd_U B w f := by
  obtain ⟨pv, h1, h2, h3, h4⟩ := h
  have z : f < 4 → ∀ q, f ≤ q → q < 4 → ∀ c', c' < w → B q c' = 0 := by
    intro hf q hq hq4 c' hc'
    exact h4 q hq hq4 c' (by omega)
  refine ⟨fun hf p hp i hi => z (by omega) i (by omega) hi p hp, fun hf p q hp hq i hi j hj => ?_, fun hf p q r hp hq hr i hi j hj k hk => ?_, fun hf p q r s hp hq hr hs i hi j hj k hk l hl => ?_⟩
  · have z := z (by omega)
    simp only [dd_d2]
    by_cases e1 : f ≤ i
    · rw [z i e1 hi p hp, z i e1 hi q hq]; simp
    · by_cases e2 : f ≤ j
      · rw [z j e2 hj p hp, z j e2 hj q hq]; simp
      · rw [show j = i from by omega]; grind
  · have z := z (by omega)
    simp only [dd_d3, dd_d2]
    by_cases e1 : f ≤ i
    · rw [z i e1 hi p hp, z i e1 hi q hq, z i e1 hi r hr]; simp
    · by_cases e2 : f ≤ j
      · rw [z j e2 hj p hp, z j e2 hj q hq, z j e2 hj r hr]; simp
      · by_cases e3 : f ≤ k
        · rw [z k e3 hk p hp, z k e3 hk q hq, z k e3 hk r hr]; simp
        · rcases (by omega : j = i ∨ k = i ∨ k = j) with y | y | y <;> rw [y] <;> grind
  · have z := z (by omega)
    simp only [dd_d4, dd_d3, dd_d2]
    by_cases e1 : f ≤ i
    · rw [z i e1 hi p hp, z i e1 hi q hq, z i e1 hi r hr, z i e1 hi s hs]; simp
    · by_cases e2 : f ≤ j
      · rw [z j e2 hj p hp, z j e2 hj q hq, z j e2 hj r hr, z j e2 hj s hs]; simp
      · by_cases e3 : f ≤ k
        · rw [z k e3 hk p hp, z k e3 hk q hq, z k e3 hk r hr, z k e3 hk s hs]; simp
        · by_cases e4 : f ≤ l
          · rw [z l e4 hl p hp, z l e4 hl q hq, z l e4 hl r hr, z l e4 hl s hs]; simp
          · rcases (by omega : j = i ∨ k = i ∨ k = j ∨ l = i ∨ l = j ∨ l = k) with y | y | y | y | y | y <;> rw [y] <;> grind
theorem dd_EV {B : Nat → Nat → Int} {w f c : Nat} (h : dd_E B f c) (hf : f ≤ 4) (hc : c ≤ w) : dd_V B w f := by
  obtain ⟨pv, h1, h2, h3, h4⟩ := h
  have n2 : 2 ≤ f → dd_d2 (B 0) (B 1) (pv 0) (pv 1) ≠ 0 := by
    intro h
    simp only [dd_d2]
    rw [h3 1 (by omega) 0 (by omega) (by omega), Int.zero_mul, Int.sub_zero]
    exact Int.mul_ne_zero (h1 1 (by omega)).2 (h1 0 (by omega)).2
  have n3 : 3 ≤ f → dd_d3 (B 0) (B 1) (B 2) (pv 0) (pv 1) (pv 2) ≠ 0 := by
    intro h
    simp only [dd_d3]
    rw [h3 2 (by omega) 0 (by omega) (by omega), h3 2 (by omega) 1 (by omega) (by omega), Int.zero_mul, Int.zero_mul, Int.sub_zero, Int.add_zero]
    exact Int.mul_ne_zero (h1 2 (by omega)).2 (n2 (by omega))
  have n4 : 4 ≤ f → dd_d4 (B 0) (B 1) (B 2) (B 3) (pv 0) (pv 1) (pv 2) (pv 3) ≠ 0 := by
    intro h
    simp only [dd_d4]
    rw [h3 3 (by omega) 0 (by omega) (by omega), h3 3 (by omega) 1 (by omega) (by omega), h3 3 (by omega) 2 (by omega) (by omega), Int.zero_mul, Int.zero_mul, Int.zero_mul, Int.sub_zero, Int.add_zero, Int.sub_zero]
    exact Int.mul_ne_zero (h1 3 (by omega)).2 (n3 (by omega))
  rcases (by omega : f = 0 ∨ f = 1 ∨ f = 2 ∨ f = 3 ∨ f = 4) with e | e | e | e | e
  · exact Or.inl e
  · exact Or.inr (Or.inl ⟨e, pv 0, by have := (h1 0 (by omega)).1; omega, fun y => (h1 0 (by omega)).2 (y 0 (by omega))⟩)
  · exact Or.inr (Or.inr (Or.inl ⟨e, pv 0, pv 1, h2 0 1 (by omega) (by omega), by have := (h1 1 (by omega)).1; omega, fun y => n2 (by omega) (y 0 (by omega) 1 (by omega))⟩))
  · exact Or.inr (Or.inr (Or.inr (Or.inl ⟨e, pv 0, pv 1, pv 2, h2 0 1 (by omega) (by omega), h2 1 2 (by omega) (by omega), by have := (h1 2 (by omega)).1; omega, fun y => n3 (by omega) (y 0 (by omega) 1 (by omega) 2 (by omega))⟩)))
  · exact Or.inr (Or.inr (Or.inr (Or.inr ⟨e, pv 0, pv 1, pv 2, pv 3, h2 0 1 (by omega) (by omega), h2 1 2 (by omega) (by omega), h2 2 3 (by omega) (by omega), by have := (h1 3 (by omega)).1; omega, fun y => n4 (by omega) (y 0 (by omega) 1 (by omega) 2 (by omega) 3 (by omega))⟩)))
/-! rows in their order -/
theorem dd_s2 {P : Nat → Nat → Prop} (sw : ∀ i j, P i j → P j i) (eq : ∀ i, P i i) (lt : ∀ i j, i < j → j < 4 → P i j) : ∀ i, i < 4 → ∀ j, j < 4 → P i j := by
  intro i hi j hj
  rcases Nat.lt_trichotomy i j with h | h | h
  · exact lt i j h hj
  · rw [h]; exact eq j
  · exact sw _ _ (lt j i h hi)
theorem dd_s3 {P : Nat → Nat → Nat → Prop} (sw1 : ∀ i j k, P i j k → P j i k) (sw2 : ∀ i j k, P i j k → P i k j) (e1 : ∀ i k, P i i k) (e2 : ∀ i j, P i j j) (lt : ∀ i j k, i < j → j < k → k < 4 → P i j k) : ∀ i, i < 4 → ∀ j, j < 4 → ∀ k, k < 4 → P i j k := by
  have A : ∀ j k, j < k → k < 4 → ∀ i, i < 4 → P i j k := by
    intro j k hjk hk i hi
    rcases Nat.lt_trichotomy i j with h | h | h
    · exact lt i j k h hjk hk
    · rw [h]; exact e1 j k
    · apply sw1
      rcases Nat.lt_trichotomy i k with h' | h' | h'
      · exact lt j i k h h' hk
      · rw [h']; exact e2 j k
      · exact sw2 _ _ _ (lt j k i hjk h' hi)
  intro i hi j hj k hk
  rcases Nat.lt_trichotomy j k with h | h | h
  · exact A j k h hk i hi
  · rw [h]; exact e2 i k
  · exact sw2 _ _ _ (A k j h hj i hi)
theorem dd_s4 {P : Nat → Nat → Nat → Nat → Prop} (sw1 : ∀ i j k l, P i j k l → P j i k l) (sw2 : ∀ i j k l, P i j k l → P i k j l) (sw3 : ∀ i j k l, P i j k l → P i j l k) (e1 : ∀ i k l, P i i k l) (e2 : ∀ i j l, P i j j l) (e3 : ∀ i j k, P i j k k) (lt : ∀ i j k l, i < j → j < k → k < l → l < 4 → P i j k l) : ∀ i, i < 4 → ∀ j, j < 4 → ∀ k, k < 4 → ∀ l, l < 4 → P i j k l := by
  have A : ∀ j k l, j < k → k < l → l < 4 → ∀ i, i < 4 → P i j k l := by
    intro j k l hjk hkl hl i hi
    rcases Nat.lt_trichotomy i j with h | h | h
    · exact lt i j k l h hjk hkl hl
    · rw [h]; exact e1 j k l
    · apply sw1
      rcases Nat.lt_trichotomy i k with h' | h' | h'
      · exact lt j i k l h h' hkl hl
      · rw [h']; exact e2 j k l
      · apply sw2
        rcases Nat.lt_trichotomy i l with h'' | h'' | h''
        · exact lt j k i l hjk h' h'' hl
        · rw [h'']; exact e3 j k l
        · exact sw3 _ _ _ _ (lt j k l i hjk hkl h'' hi)
  have C : ∀ k l, k < l → l < 4 → ∀ i, i < 4 → ∀ j, j < 4 → P i j k l := by
    intro k l hkl hl i hi j hj
    rcases Nat.lt_trichotomy j k with h | h | h
    · exact A j k l h hkl hl i hi
    · rw [h]; exact e2 i k l
    · apply sw2
      rcases Nat.lt_trichotomy j l with h' | h' | h'
      · exact A k j l h h' hl i hi
      · rw [h']; exact e3 i k l
      · exact sw3 _ _ _ _ (A k l j hkl h' hj i hi)
  intro i hi j hj k hk l hl
  rcases Nat.lt_trichotomy k l with h | h | h
  · exact C k l h hl i hi j hj
  · rw [h]; exact e3 i j l
  · exact sw3 _ _ _ _ (C l k h hk i hi j hj)
theorem dd_o2 {M : Nat → Nat → Int} {p q : Nat} (h : ¬ dd_Z2 M p q) : ∃ i j, i < j ∧ j < 4 ∧ dd_d2 (M i) (M j) p q ≠ 0 := by
  apply Classical.byContradiction
  intro c
  apply h
  refine dd_s2 (P := fun i j => dd_d2 (M i) (M j) p q = 0) ?_ ?_ ?_
  · intro i j; simp only [dd_d2]; grind
  · intro i; simp only [dd_d2]; grind
  · intro i j a b; exact Classical.byContradiction fun z => c ⟨i, j, a, b, z⟩
theorem dd_o3 {M : Nat → Nat → Int} {p q r : Nat} (h : ¬ dd_Z3 M p q r) : ∃ i j k, i < j ∧ j < k ∧ k < 4 ∧ dd_d3 (M i) (M j) (M k) p q r ≠ 0 := by
  apply Classical.byContradiction
  intro c
  apply h
  refine dd_s3 (P := fun i j k => dd_d3 (M i) (M j) (M k) p q r = 0) ?_ ?_ ?_ ?_ ?_
  · intro i j k; simp only [dd_d3, dd_d2]; grind
  · intro i j k; simp only [dd_d3, dd_d2]; grind
  · intro i k; simp only [dd_d3, dd_d2]; grind
  · intro i k; simp only [dd_d3, dd_d2]; grind
  · intro i j k a b d; exact Classical.byContradiction fun z => c ⟨i, j, k, a, b, d, z⟩
theorem dd_o4 {M : Nat → Nat → Int} {p q r s : Nat} (h : ¬ dd_Z4 M p q r s) : ∃ i j k l, i < j ∧ j < k ∧ k < l ∧ l < 4 ∧ dd_d4 (M i) (M j) (M k) (M l) p q r s ≠ 0 := by
  apply Classical.byContradiction
  intro c
  apply h
  refine dd_s4 (P := fun i j k l => dd_d4 (M i) (M j) (M k) (M l) p q r s = 0) ?_ ?_ ?_ ?_ ?_ ?_ ?_
  · intro i j k l; simp only [dd_d4, dd_d3, dd_d2]; grind
  · intro i j k l; simp only [dd_d4, dd_d3, dd_d2]; grind
  · intro i j k l; simp only [dd_d4, dd_d3, dd_d2]; grind
  · intro i j k; simp only [dd_d4, dd_d3, dd_d2]; grind
  · intro i j k; simp only [dd_d4, dd_d3, dd_d2]; grind
  · intro i j k; simp only [dd_d4, dd_d3, dd_d2]; grind
  · intro i j k l a b d e; exact Classical.byContradiction fun z => c ⟨i, j, k, l, a, b, d, e, z⟩

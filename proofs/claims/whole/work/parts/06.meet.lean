/-! the two ranks meet -/
def dd_M (A : Nat → Nat → Int) (rows i j : Nat) : Int := if rows / 2 ^ i % 2 = 1 then A i j else 0
theorem dd_G0 : ∀ s, s < 16 → 1 ≤ s → dd_pc s = 1 ∨ dd_pc s = 2 ∨ dd_pc s = 3 ∨ dd_pc s = 4 := by decide +kernel
theorem dd_G1 : ∀ s, s < 16 → dd_pc s = 1 → ∃ i, i < 4 ∧ dd_rl s 4 = [i] ∧ s / 2 ^ i % 2 = 1 := by decide +kernel
theorem dd_G2 : ∀ s, s < 16 → dd_pc s = 2 → ∃ i, i < 4 ∧ ∃ j, j < 4 ∧ dd_rl s 4 = [j, i] ∧ s / 2 ^ i % 2 = 1 ∧ s / 2 ^ j % 2 = 1 := by decide +kernel
theorem dd_G3 : ∀ s, s < 16 → dd_pc s = 3 → ∃ i, i < 4 ∧ ∃ j, j < 4 ∧ ∃ k, k < 4 ∧ dd_rl s 4 = [k, j, i] ∧ s / 2 ^ i % 2 = 1 ∧ s / 2 ^ j % 2 = 1 ∧ s / 2 ^ k % 2 = 1 := by decide +kernel
theorem dd_G4 : ∀ s, s < 16 → dd_pc s = 4 → dd_rl s 4 = [3, 2, 1, 0] ∧ s / 2 ^ 0 % 2 = 1 ∧ s / 2 ^ 1 % 2 = 1 ∧ s / 2 ^ 2 % 2 = 1 ∧ s / 2 ^ 3 % 2 = 1 := by decide +kernel
theorem dd_H1 : ∀ m, m < 32 → dd_pc m = 1 → ∃ p, p < 5 ∧ m = 2 ^ p ∧ (m < 16 → p < 4) := by decide +kernel
theorem dd_H2 : ∀ m, m < 32 → dd_pc m = 2 → ∃ p, p < 5 ∧ ∃ q, q < 5 ∧ p < q ∧ m = 2 ^ p + 2 ^ q ∧ (m < 16 → q < 4) := by decide +kernel
theorem dd_H3 : ∀ m, m < 32 → dd_pc m = 3 → ∃ p, p < 5 ∧ ∃ q, q < 5 ∧ ∃ r, r < 5 ∧ p < q ∧ q < r ∧ m = 2 ^ p + 2 ^ q + 2 ^ r ∧ (m < 16 → r < 4) := by decide +kernel
theorem dd_H4 : ∀ m, m < 32 → dd_pc m = 4 → ∃ p, p < 5 ∧ ∃ q, q < 5 ∧ ∃ r, r < 5 ∧ ∃ s, s < 5 ∧ p < q ∧ q < r ∧ r < s ∧ m = 2 ^ p + 2 ^ q + 2 ^ r + 2 ^ s ∧ (m < 16 → s < 4) := by decide +kernel
theorem dd_H5 : ∀ s, s < 16 → ∀ r, r < 16 → s ||| r = r → ∀ i, i < 4 → s / 2 ^ i % 2 = 1 → r / 2 ^ i % 2 = 1 := by decide +kernel
theorem dd_H6 : ∀ m, m < 32 → m ||| 15 = 15 → m < 16 := by decide +kernel
theorem dd_KU (A : Nat → Nat → Int) (rows w cols f : Nat) (hr : rows < 16) (hw : (w = 4 ∧ cols = 15) ∨ (w = 5 ∧ cols = 31)) (U : dd_U (dd_M A rows) w f) : ∀ s, s < 16 → 1 ≤ s → ∀ m, m < 32 → 1 ≤ m → dd_ft rows cols s m → dd_mn A (dd_rl s 4) m ≠ 0 → dd_pc s ≤ f := by
  intro s hs hs1 m hm hm1 ⟨c1, c2, c3⟩ hz
  apply Classical.byContradiction
  intro hn
  apply hz
  have row : ∀ i, i < 4 → s / 2 ^ i % 2 = 1 → dd_M A rows i = A i := by
    intro i hi hb
    funext j
    simp only [dd_M, if_pos (dd_H5 s hs rows hr c1 i hi hb)]
  have col : w = 4 → m < 16 := by
    intro e
    rcases hw with ⟨_, y⟩ | ⟨y, _⟩
    · rw [y] at c2; exact dd_H6 m hm c2
    · omega
  rcases dd_G0 s hs hs1 with e | e | e | e
  · obtain ⟨i, hi, e1, b1⟩ := dd_G1 s hs e
    obtain ⟨p, hp, e2, b2⟩ := dd_H1 m hm (by omega)
    rw [e1, e2, dd_m1 A i p hp, ← row i hi b1]
    exact U.1 (by omega) p (by omega) i hi
  · obtain ⟨i, hi, j, hj, e1, b1, b2⟩ := dd_G2 s hs e
    obtain ⟨p, hp, q, hq, pq, e2, b⟩ := dd_H2 m hm (by omega)
    rw [e1, e2, dd_m2 A i j p q pq hq, ← row i hi b1, ← row j hj b2]
    exact U.2.1 (by omega) p q (by omega) (by omega) i hi j hj
  · obtain ⟨i, hi, j, hj, k, hk, e1, b1, b2, b3⟩ := dd_G3 s hs e
    obtain ⟨p, hp, q, hq, r, hr, pq, qr, e2, b⟩ := dd_H3 m hm (by omega)
    rw [e1, e2, dd_m3 A i j k p q r pq qr hr, ← row i hi b1, ← row j hj b2, ← row k hk b3]
    exact U.2.2.1 (by omega) p q r (by omega) (by omega) (by omega) i hi j hj k hk
  · obtain ⟨e1, b1, b2, b3, b4⟩ := dd_G4 s hs e
    obtain ⟨p, hp, q, hq, r, hr, l, hl, pq, qr, rl, e2, b⟩ := dd_H4 m hm (by omega)
    rw [e1, e2, dd_m4 A 0 1 2 3 p q r l pq qr rl hl, ← row 0 (by omega) b1, ← row 1 (by omega) b2, ← row 2 (by omega) b3, ← row 3 (by omega) b4]
    exact U.2.2.2 (by omega) p q r l (by omega) (by omega) (by omega) (by omega) 0 (by omega) 1 (by omega) 2 (by omega) 3 (by omega)
def dd_okb (r s c : Nat) (l : List Nat) : Bool := decide (s < 16) && decide (1 ≤ s) && decide (s ||| r = r) && decide (dd_rl s 4 = l) && decide (dd_pc s = c)
theorem dd_okE {r s c : Nat} {l : List Nat} (h : dd_okb r s c l = true) : s < 16 ∧ 1 ≤ s ∧ s ||| r = r ∧ dd_rl s 4 = l ∧ dd_pc s = c := by
  simp only [dd_okb, Bool.and_eq_true, decide_eq_true_eq] at h
  exact ⟨h.1.1.1.1, h.1.1.1.2, h.1.1.2, h.1.2, h.2⟩
def dd_okc (m c x : Nat) : Bool := decide (m < 32) && decide (1 ≤ m) && decide (m ||| 31 = 31) && (decide (4 ≤ x) || decide (m ||| 15 = 15)) && decide (dd_pc m = c)
theorem dd_ocE {m c x : Nat} (h : dd_okc m c x = true) : m < 32 ∧ 1 ≤ m ∧ m ||| 31 = 31 ∧ (x < 4 → m ||| 15 = 15) ∧ dd_pc m = c := by
  simp only [dd_okc, Bool.and_eq_true, Bool.or_eq_true, decide_eq_true_eq] at h
  exact ⟨h.1.1.1.1, h.1.1.1.2, h.1.1.2, fun y => h.1.2.resolve_left (by omega), h.2⟩
def dd_all (n : Nat) (f : Nat → Bool) : Bool := (List.range n).all f
theorem dd_allE {n : Nat} {f : Nat → Bool} (h : dd_all n f = true) : ∀ i, i < n → f i = true := fun i hi => List.all_eq_true.mp h i (List.mem_range.mpr hi)
def dd_im (c x : Bool) : Bool := !c || x
theorem dd_imE {c x : Bool} (h : dd_im c x = true) (hc : c = true) : x = true := by
  subst hc
  exact h
def dd_bt (r i : Nat) : Bool := decide (r / 2 ^ i % 2 = 1)
theorem dd_J1' : dd_all 16 (fun r => dd_all 4 (fun i => dd_im (dd_bt r i) (dd_okb r (2 ^ i) 1 [i]))) = true := by decide +kernel
theorem dd_J2' : dd_all 16 (fun r => dd_all 4 (fun i => dd_all 4 (fun j => dd_im (decide (i < j) && dd_bt r i && dd_bt r j) (dd_okb r (2 ^ i + 2 ^ j) 2 [j, i])))) = true := by decide +kernel
theorem dd_J3' : dd_all 16 (fun r => dd_all 4 (fun i => dd_all 4 (fun j => dd_all 4 (fun k => dd_im (decide (i < j) && decide (j < k) && dd_bt r i && dd_bt r j && dd_bt r k) (dd_okb r (2 ^ i + 2 ^ j + 2 ^ k) 3 [k, j, i]))))) = true := by decide +kernel
theorem dd_J4' : dd_all 16 (fun r => dd_im (dd_bt r 0 && dd_bt r 1 && dd_bt r 2 && dd_bt r 3) (dd_okb r (2 ^ 0 + 2 ^ 1 + 2 ^ 2 + 2 ^ 3) 4 [3, 2, 1, 0])) = true := by decide +kernel
theorem dd_C1' : dd_all 5 (fun p => dd_okc (2 ^ p) 1 p) = true := by decide +kernel
theorem dd_C2' : dd_all 5 (fun p => dd_all 5 (fun q => dd_im (decide (p < q)) (dd_okc (2 ^ p + 2 ^ q) 2 q))) = true := by decide +kernel
theorem dd_C3' : dd_all 5 (fun p => dd_all 5 (fun q => dd_all 5 (fun r => dd_im (decide (p < q) && decide (q < r)) (dd_okc (2 ^ p + 2 ^ q + 2 ^ r) 3 r)))) = true := by decide +kernel
theorem dd_C4' : dd_all 5 (fun p => dd_all 5 (fun q => dd_all 5 (fun r => dd_all 5 (fun s => dd_im (decide (p < q) && decide (q < r) && decide (r < s)) (dd_okc (2 ^ p + 2 ^ q + 2 ^ r + 2 ^ s) 4 s))))) = true := by decide +kernel
theorem dd_J1 (r : Nat) (hr : r < 16) (i : Nat) (hi : i < 4) (h : r / 2 ^ i % 2 = 1) : dd_okb r (2 ^ i) 1 [i] = true :=
  dd_imE (dd_allE (dd_allE dd_J1' r hr) i hi) (by simp [dd_bt, h])
theorem dd_J2 (r : Nat) (hr : r < 16) (i : Nat) (hi : i < 4) (j : Nat) (hj : j < 4) (ij : i < j) (h1 : r / 2 ^ i % 2 = 1) (h2 : r / 2 ^ j % 2 = 1) : dd_okb r (2 ^ i + 2 ^ j) 2 [j, i] = true :=
  dd_imE (dd_allE (dd_allE (dd_allE dd_J2' r hr) i hi) j hj) (by simp [dd_bt, h1, h2, ij])
theorem dd_J3 (r : Nat) (hr : r < 16) (i : Nat) (hi : i < 4) (j : Nat) (hj : j < 4) (k : Nat) (hk : k < 4) (ij : i < j ∧ j < k) (h : r / 2 ^ i % 2 = 1 ∧ r / 2 ^ j % 2 = 1 ∧ r / 2 ^ k % 2 = 1) : dd_okb r (2 ^ i + 2 ^ j + 2 ^ k) 3 [k, j, i] = true :=
  dd_imE (dd_allE (dd_allE (dd_allE (dd_allE dd_J3' r hr) i hi) j hj) k hk) (by simp [dd_bt, h.1, h.2.1, h.2.2, ij.1, ij.2])
theorem dd_J4 (r : Nat) (hr : r < 16) (h1 : r / 2 ^ 0 % 2 = 1) (h2 : r / 2 ^ 1 % 2 = 1) (h3 : r / 2 ^ 2 % 2 = 1) (h4 : r / 2 ^ 3 % 2 = 1) : dd_okb r (2 ^ 0 + 2 ^ 1 + 2 ^ 2 + 2 ^ 3) 4 [3, 2, 1, 0] = true :=
  dd_imE (dd_allE dd_J4' r hr) (by simp only [dd_bt, h1, h2, h3, h4]; rfl)
theorem dd_C1 (p : Nat) (hp : p < 5) : dd_okc (2 ^ p) 1 p = true := dd_allE dd_C1' p hp
theorem dd_C2 (p : Nat) (hp : p < 5) (q : Nat) (hq : q < 5) (h : p < q) : dd_okc (2 ^ p + 2 ^ q) 2 q = true :=
  dd_imE (dd_allE (dd_allE dd_C2' p hp) q hq) (by simp [h])
theorem dd_C3 (p : Nat) (hp : p < 5) (q : Nat) (hq : q < 5) (r : Nat) (hr : r < 5) (h : p < q ∧ q < r) : dd_okc (2 ^ p + 2 ^ q + 2 ^ r) 3 r = true :=
  dd_imE (dd_allE (dd_allE (dd_allE dd_C3' p hp) q hq) r hr) (by simp [h.1, h.2])
theorem dd_C4 (p : Nat) (hp : p < 5) (q : Nat) (hq : q < 5) (r : Nat) (hr : r < 5) (s : Nat) (hs : s < 5) (h : p < q ∧ q < r ∧ r < s) : dd_okc (2 ^ p + 2 ^ q + 2 ^ r + 2 ^ s) 4 s = true :=
  dd_imE (dd_allE (dd_allE (dd_allE (dd_allE dd_C4' p hp) q hq) r hr) s hs) (by simp [h.1, h.2.1, h.2.2])
theorem dd_KV (A : Nat → Nat → Int) (rows w cols f : Nat) (hr : rows < 16) (hw : (w = 4 ∧ cols = 15) ∨ (w = 5 ∧ cols = 31)) (V : dd_V (dd_M A rows) w f) : f = 0 ∨ ∃ s m, s < 16 ∧ 1 ≤ s ∧ m < 32 ∧ 1 ≤ m ∧ dd_ft rows cols s m ∧ dd_mn A (dd_rl s 4) m ≠ 0 ∧ dd_pc s = f := by
  have hw5 : w ≤ 5 := by omega
  have row : ∀ i, rows / 2 ^ i % 2 = 1 → dd_M A rows i = A i := by
    intro i hb
    funext j
    simp only [dd_M, if_pos hb]
  have no : ∀ i, ¬ rows / 2 ^ i % 2 = 1 → ∀ j, dd_M A rows i j = 0 := by
    intro i hb j
    simp only [dd_M, if_neg hb]
  have col : ∀ m x, x < w → m ||| 31 = 31 → (x < 4 → m ||| 15 = 15) → m ||| cols = cols := by
    intro m x h1 h2 h3
    rcases hw with ⟨y, z⟩ | ⟨y, z⟩
    · rw [z]; exact h3 (by omega)
    · rw [z]; exact h2
  rcases V with h | ⟨h, p, a, z⟩ | ⟨h, p, q, a, b, z⟩ | ⟨h, p, q, r, a, b, c, z⟩ | ⟨h, p, q, r, s, a, b, c, d, z⟩
  · exact Or.inl h
  · right
    obtain ⟨i, hi, hz⟩ : ∃ i, i < 4 ∧ dd_M A rows i p ≠ 0 := Classical.byContradiction fun y => z (fun i hi => Classical.byContradiction fun x => y ⟨i, hi, x⟩)
    have b1 : rows / 2 ^ i % 2 = 1 := Classical.byContradiction fun y => hz (no i y p)
    obtain ⟨s1, s2, s3, s4, s5⟩ := dd_okE (dd_J1 rows hr i hi b1)
    obtain ⟨m1, m2, m3, m4, m5⟩ := dd_ocE (dd_C1 p (by omega))
    rw [row i b1] at hz
    exact ⟨_, _, s1, s2, m1, m2, ⟨s3, col _ p a m3 m4, by omega⟩, by rw [s4, dd_m1 A i p (by omega)]; exact hz, by omega⟩
  · right
    obtain ⟨i, j, ij, hj, hz⟩ := dd_o2 z
    have b1 : rows / 2 ^ i % 2 = 1 := Classical.byContradiction fun y => hz (by simp [dd_d2, no i y])
    have b2 : rows / 2 ^ j % 2 = 1 := Classical.byContradiction fun y => hz (by simp [dd_d2, no j y])
    obtain ⟨s1, s2, s3, s4, s5⟩ := dd_okE (dd_J2 rows hr i (by omega) j hj ij b1 b2)
    obtain ⟨m1, m2, m3, m4, m5⟩ := dd_ocE (dd_C2 p (by omega) q (by omega) a)
    rw [row i b1, row j b2] at hz
    exact ⟨_, _, s1, s2, m1, m2, ⟨s3, col _ q b m3 m4, by omega⟩, by rw [s4, dd_m2 A i j p q a (by omega)]; exact hz, by omega⟩
  · right
    obtain ⟨i, j, k, ij, jk, hk, hz⟩ := dd_o3 z
    have b1 : rows / 2 ^ i % 2 = 1 := Classical.byContradiction fun y => hz (by simp [dd_d3, dd_d2, no i y])
    have b2 : rows / 2 ^ j % 2 = 1 := Classical.byContradiction fun y => hz (by simp [dd_d3, dd_d2, no j y])
    have b3 : rows / 2 ^ k % 2 = 1 := Classical.byContradiction fun y => hz (by simp [dd_d3, dd_d2, no k y])
    obtain ⟨s1, s2, s3, s4, s5⟩ := dd_okE (dd_J3 rows hr i (by omega) j (by omega) k hk ⟨ij, jk⟩ ⟨b1, b2, b3⟩)
    obtain ⟨m1, m2, m3, m4, m5⟩ := dd_ocE (dd_C3 p (by omega) q (by omega) r (by omega) ⟨a, b⟩)
    rw [row i b1, row j b2, row k b3] at hz
    exact ⟨_, _, s1, s2, m1, m2, ⟨s3, col _ r c m3 m4, by omega⟩, by rw [s4, dd_m3 A i j k p q r a b (by omega)]; exact hz, by omega⟩
  · right
    obtain ⟨i, j, k, l, ij, jk, kl, hl, hz⟩ := dd_o4 z
    have b1 : rows / 2 ^ i % 2 = 1 := Classical.byContradiction fun y => hz (by simp [dd_d4, dd_d3, dd_d2, no i y])
    have b2 : rows / 2 ^ j % 2 = 1 := Classical.byContradiction fun y => hz (by simp [dd_d4, dd_d3, dd_d2, no j y])
    have b3 : rows / 2 ^ k % 2 = 1 := Classical.byContradiction fun y => hz (by simp [dd_d4, dd_d3, dd_d2, no k y])
    have b4 : rows / 2 ^ l % 2 = 1 := Classical.byContradiction fun y => hz (by simp [dd_d4, dd_d3, dd_d2, no l y])
    obtain ⟨rfl, rfl, rfl, rfl⟩ : i = 0 ∧ j = 1 ∧ k = 2 ∧ l = 3 := by omega
    obtain ⟨s1, s2, s3, s4, s5⟩ := dd_okE (dd_J4 rows hr b1 b2 b3 b4)
    obtain ⟨m1, m2, m3, m4, m5⟩ := dd_ocE (dd_C4 p (by omega) q (by omega) r (by omega) s (by omega) ⟨a, b, c⟩)
    rw [row 0 b1, row 1 b2, row 2 b3, row 3 b4] at hz
    exact ⟨_, _, s1, s2, m1, m2, ⟨s3, col _ s d m3 m4, by omega⟩, by rw [s4, dd_m4 A 0 1 2 3 p q r s a b c (by omega)]; exact hz, by omega⟩

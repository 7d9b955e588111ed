/-! the table's minors are the minors; the reference's rank -/
theorem dd_m1 (A : Nat → Nat → Int) (i : Nat) : ∀ p, p < 5 → dd_mn A [i] (2 ^ p) = A i p := by
  intro p hp
  rcases (by omega : p = 0 ∨ p = 1 ∨ p = 2 ∨ p = 3 ∨ p = 4) with rfl | rfl | rfl | rfl | rfl <;> simp [dd_mn, dd_es, dd_tm, dd_pc, dd_pq]
theorem dd_m2 (A : Nat → Nat → Int) (i j : Nat) : ∀ p q, p < q → q < 5 → dd_mn A [j, i] (2 ^ p + 2 ^ q) = dd_d2 (A i) (A j) p q := by
  intro p q h hq
  rcases (by omega : (p = 0 ∧ q = 1) ∨ (p = 0 ∧ q = 2) ∨ (p = 0 ∧ q = 3) ∨ (p = 0 ∧ q = 4) ∨ (p = 1 ∧ q = 2) ∨ (p = 1 ∧ q = 3) ∨ (p = 1 ∧ q = 4) ∨ (p = 2 ∧ q = 3) ∨ (p = 2 ∧ q = 4) ∨ (p = 3 ∧ q = 4)) with ⟨rfl, rfl⟩ | ⟨rfl, rfl⟩ | ⟨rfl, rfl⟩ | ⟨rfl, rfl⟩ | ⟨rfl, rfl⟩ | ⟨rfl, rfl⟩ | ⟨rfl, rfl⟩ | ⟨rfl, rfl⟩ | ⟨rfl, rfl⟩ | ⟨rfl, rfl⟩ <;> simp [dd_mn, dd_es, dd_tm, dd_pc, dd_pq, dd_d2] <;> grind
theorem dd_m3 (A : Nat → Nat → Int) (i j k : Nat) : ∀ p q r, p < q → q < r → r < 5 → dd_mn A [k, j, i] (2 ^ p + 2 ^ q + 2 ^ r) = dd_d3 (A i) (A j) (A k) p q r := by
  intro p q r h h' hq
  rcases (by omega : (p = 0 ∧ q = 1 ∧ r = 2) ∨ (p = 0 ∧ q = 1 ∧ r = 3) ∨ (p = 0 ∧ q = 1 ∧ r = 4) ∨ (p = 0 ∧ q = 2 ∧ r = 3) ∨ (p = 0 ∧ q = 2 ∧ r = 4) ∨ (p = 0 ∧ q = 3 ∧ r = 4) ∨ (p = 1 ∧ q = 2 ∧ r = 3) ∨ (p = 1 ∧ q = 2 ∧ r = 4) ∨ (p = 1 ∧ q = 3 ∧ r = 4) ∨ (p = 2 ∧ q = 3 ∧ r = 4)) with ⟨rfl, rfl, rfl⟩ | ⟨rfl, rfl, rfl⟩ | ⟨rfl, rfl, rfl⟩ | ⟨rfl, rfl, rfl⟩ | ⟨rfl, rfl, rfl⟩ | ⟨rfl, rfl, rfl⟩ | ⟨rfl, rfl, rfl⟩ | ⟨rfl, rfl, rfl⟩ | ⟨rfl, rfl, rfl⟩ | ⟨rfl, rfl, rfl⟩ <;> simp [dd_mn, dd_es, dd_tm, dd_pc, dd_pq, dd_d3, dd_d2] <;> grind
theorem dd_m4 (A : Nat → Nat → Int) (i j k l : Nat) : ∀ p q r s, p < q → q < r → r < s → s < 5 → dd_mn A [l, k, j, i] (2 ^ p + 2 ^ q + 2 ^ r + 2 ^ s) = dd_d4 (A i) (A j) (A k) (A l) p q r s := by
  intro p q r s h h' h'' hq
  rcases (by omega : (p = 0 ∧ q = 1 ∧ r = 2 ∧ s = 3) ∨ (p = 0 ∧ q = 1 ∧ r = 2 ∧ s = 4) ∨ (p = 0 ∧ q = 1 ∧ r = 3 ∧ s = 4) ∨ (p = 0 ∧ q = 2 ∧ r = 3 ∧ s = 4) ∨ (p = 1 ∧ q = 2 ∧ r = 3 ∧ s = 4)) with ⟨rfl, rfl, rfl, rfl⟩ | ⟨rfl, rfl, rfl, rfl⟩ | ⟨rfl, rfl, rfl, rfl⟩ | ⟨rfl, rfl, rfl, rfl⟩ | ⟨rfl, rfl, rfl, rfl⟩ <;> simp [dd_mn, dd_es, dd_tm, dd_pc, dd_pq, dd_d4, dd_d3, dd_d2] <;> grind
theorem dd_tmB (A : Nat → Nat → Int) (f : Nat → Int) (i m j b : Nat) (h : (A i j).natAbs ≤ 50) (hf : ∀ m, (f m).natAbs ≤ b) : (dd_tm A f i m j).natAbs ≤ 50 * b := by
  have h1 : (A i j * f (m - 2 ^ j)).natAbs ≤ 50 * b := by
    rw [Int.natAbs_mul]
    exact Nat.mul_le_mul h (hf _)
  simp only [dd_tm]
  split
  · split
    · exact h1
    · rw [Int.natAbs_neg]; exact h1
  · simp
theorem dd_esB (A : Nat → Nat → Int) (f : Nat → Int) (i m b : Nat) (h : ∀ j, j < 5 → (A i j).natAbs ≤ 50) (hf : ∀ m, (f m).natAbs ≤ b) : ∀ j, j ≤ 5 → (dd_es A f i m j).natAbs ≤ j * (50 * b)
  | 0, _ => by simp [dd_es]
  | j + 1, hj => by
    have h1 := dd_esB A f i m b h hf j (by omega)
    have h2 := dd_tmB A f i m j b (h j (by omega)) hf
    have h3 := Int.natAbs_add_le (dd_es A f i m j) (dd_tm A f i m j)
    simp only [dd_es]
    rw [Nat.add_mul, Nat.one_mul]
    omega
theorem dd_mnB (A : Nat → Nat → Int) (h : ∀ i, i < 4 → ∀ j, j < 5 → (A i j).natAbs ≤ 50) : ∀ L : List Nat, (∀ i, i ∈ L → i < 4) → ∀ m, (dd_mn A L m).natAbs ≤ 250 ^ L.length
  | [], _, m => by simp [dd_mn]
  | i :: L, hL, m => by
    have h1 := dd_mnB A h L (fun i hi => hL i (List.mem_cons_of_mem _ hi))
    have h2 := dd_esB A (dd_mn A L) i m _ (h i (hL i List.mem_cons_self)) h1 5 (by omega)
    simp only [dd_mn, List.length_cons, Nat.pow_succ]
    omega
theorem dd_rlB (rows : Nat) : ∀ n, ∀ i, i ∈ dd_rl rows n → i < n
  | 0, i, h => by simp [dd_rl] at h
  | n + 1, i, h => by
    simp only [dd_rl] at h
    split at h
    · rcases List.mem_cons.mp h with e | e
      · omega
      · have := dd_rlB rows n i e; omega
    · have := dd_rlB rows n i h; omega
theorem dd_z64 (z : Int) (h : z.natAbs < 2 ^ 63) : Int64.ofInt z = 0 ↔ z = 0 := by
  constructor
  · intro e
    have := congrArg Int64.toInt e
    rw [Int64.toInt_ofInt_of_le (by omega) (by omega)] at this
    exact this
  · intro e; rw [e]; rfl
theorem dd_AB {a : Nat → Int32} (h : dd_B a) : ∀ i, i < 4 → ∀ j, j < 5 → (dd_A a i j).natAbs ≤ 50 := by
  intro i hi j hj
  have := h (5 * i + j) (by omega)
  simp only [dd_A]
  omega
theorem dd_mz {a : Nat → Int32} (h : dd_B a) (s m : Nat) : Int64.ofInt (dd_mn (dd_A a) (dd_rl s 4) m) = 0 ↔ dd_mn (dd_A a) (dd_rl s 4) m = 0 := by
  apply dd_z64
  have h1 := dd_mnB (dd_A a) (dd_AB h) (dd_rl s 4) (dd_rlB s 4) m
  have h2 : 250 ^ (dd_rl s 4).length ≤ 250 ^ 4 := Nat.pow_le_pow_right (by decide) (dd_rlL s 4)
  omega
theorem dd_F8 : ∀ r, r < 32 → ∀ m, m < 32 → ((nI m &&& (nI r ^^^ (-1))) = 0 ↔ m ||| r = r) := by decide +kernel
theorem dd_F9 : ∀ s, s < 16 → (dd_rl s 4).length = dd_pc s := by decide +kernel
def dd_ft (rows cols s m : Nat) : Prop := s ||| rows = rows ∧ m ||| cols = cols ∧ dd_pc s = dd_pc m
theorem dd_69 (post : Int32 → SY → Prop) (J5 J15 : Int32 → Int32 → (Nat → Int32) → (Nat → Int32) → (Nat → Int64) → Prop) (x1 x2 x3 x4 : Int32) (m : Nat) (a p : Nat → Int32) (t : Nat → Int64) (h : J15 x3 (nI (m + 1)) a p t) : wY_rankIn_69 post J5 J15 x1 x2 x3 x4 (nI m) a p t := by
  unfold wY_rankIn_69 wY_rankIn_70
  exact br_t rfl (nm_r (nI_1 m) h)
theorem dd_r15 (post : Int32 → SY → Prop) (J5 : Int32 → Int32 → (Nat → Int32) → (Nat → Int32) → (Nat → Int64) → Prop) (a p : Nat → Int32) (t : Nat → Int64) (hB : dd_B a) (rows cols f s q0 : Nat) (hr : rows < 16) (hc : cols < 32) (hs : s < 16) (hf : f < 5) (hq0 : q0 ≤ f)
    (U : ∀ m, m < 32 → 1 ≤ m → dd_ft rows cols s m → dd_mn (dd_A a) (dd_rl s 4) m ≠ 0 → dd_pc s ≤ f)
    (h : ∀ q t', q ≤ f → q0 ≤ q → (∀ m, m < 32 → 1 ≤ m → dd_ft rows cols s m → dd_mn (dd_A a) (dd_rl s 4) m ≠ 0 → dd_pc s ≤ q) → J5 (nI q) (nI (s + 1)) a p t') :
    ∃ n, wY_rankIn_15 post J5 (nI rows) (nI cols) (nI s) n (nI q0) 1 a p t := by
  refine pk_loop (σ := Nat × (Nat → Int64)) (fun n m st => wY_rankIn_15 post J5 (nI rows) (nI cols) (nI s) n (nI st.1) (nI m) a p st.2) (fun m st => st.1 ≤ f ∧ q0 ≤ st.1 ∧ 1 ≤ m ∧ ∀ m', m' < m → 1 ≤ m' → dd_ft rows cols s m' → dd_mn (dd_A a) (dd_rl s 4) m' ≠ 0 → dd_pc s ≤ st.1) 32 1 (q0, t) (by omega) ⟨hq0, Nat.le_refl _, Nat.le_refl _, fun m' h1 h2 => by omega⟩ ?_ ?_
  · intro n st ⟨g1, g2, g3, g4⟩
    exact br_t (show (32 : Int32) ≤ nI 32 from by decide) (nm_r (nI_1 s) (h st.1 st.2 g1 g2 g4))
  · intro n m st hm ⟨g1, g2, g3, g4⟩ k
    have no : (dd_ft rows cols s m → dd_mn (dd_A a) (dd_rl s 4) m ≠ 0 → dd_pc s ≤ st.1) → wY_rankIn_15 post J5 (nI rows) (nI cols) (nI s) n (nI st.1) (nI (m + 1)) a p st.2 := by
      intro c
      refine k st ⟨g1, g2, by omega, fun m' h1 h2 h3 h4 => ?_⟩
      by_cases e : m' = m
      · subst e; exact c h3 h4
      · exact g4 m' (by omega) h2 h3 h4
    refine br_f (nI_ge (b := 32) hm (by decide)) ?_
    by_cases c1 : s ||| rows = rows
    · refine br_t ((dd_F8 rows (by omega) s (by omega)).mpr c1) ?_
      by_cases c2 : m ||| cols = cols
      · refine br_t ((dd_F8 cols hc m hm).mpr c2) (dd_ones _ a p st.2 _ s (by omega) rfl (dd_ones _ a p st.2 _ m hm rfl ?_))
        have b1 := dd_F5 s (by omega)
        have b2 := dd_F5 m hm
        by_cases c3 : dd_pc s = dd_pc m
        · refine br_t (by rw [c3]) (dd_ones _ a p st.2 _ s (by omega) rfl ?_)
          by_cases c4 : dd_pc s ≤ st.1
          · exact br_t (nI_le c4 (by omega)) (dd_69 _ _ _ _ _ _ _ _ _ _ _ (no (fun _ _ => c4)))
          · refine br_f (nI_ge (by omega) (by omega)) ?_
            unfold wY_rankIn_70
            refine br_f (by decide) (dd_part _ a p st.2 _ _ s m rfl rfl hs hm (by rw [dd_F9 s hs, c3]) (fun t' => ?_))
            by_cases c5 : dd_mn (dd_A a) (dd_rl s 4) m = 0
            · refine br_t ((dd_mz hB s m).mpr c5) (nm_r (nI_1 m) (k (st.1, t') ⟨g1, g2, by omega, fun m' h1 h2 h3 h4 => ?_⟩))
              by_cases e : m' = m
              · subst e; exact absurd c5 h4
              · exact g4 m' (by omega) h2 h3 h4
            · refine br_f (fun y => c5 ((dd_mz hB s m).mp y)) (dd_ones _ a p t' _ s (by omega) rfl (nm_r (nI_1 m) (k (dd_pc s, t') ⟨U m hm (by omega) ⟨c1, c2, c3⟩ c5, ?_, by omega, fun m' h1 h2 h3 h4 => Nat.le_refl _⟩)))
              show q0 ≤ dd_pc s
              omega
        · exact br_f (fun y => c3 ((nI_eq (by omega) (by omega)).mp y)) (dd_69 _ _ _ _ _ _ _ _ _ _ _ (no (fun y _ => absurd y.2.2 c3)))
      · exact br_f (fun y => c2 ((dd_F8 cols hc m hm).mp y)) (dd_69 _ _ _ _ _ _ _ _ _ _ _ (no (fun y _ => absurd y.2.1 c2)))
    · exact br_f (fun y => c1 ((dd_F8 rows (by omega) s (by omega)).mp y)) (dd_69 _ _ _ _ _ _ _ _ _ _ _ (no (fun y _ => absurd y.1 c1)))
theorem dd_rankIn (post : Int32 → SY → Prop) (a p : Nat → Int32) (t : Nat → Int64) (hB : dd_B a) (rows cols f : Nat) (hr : rows < 16) (hc : cols < 32) (hf : f < 5)
    (U : ∀ s, s < 16 → 1 ≤ s → ∀ m, m < 32 → 1 ≤ m → dd_ft rows cols s m → dd_mn (dd_A a) (dd_rl s 4) m ≠ 0 → dd_pc s ≤ f)
    (V : f = 0 ∨ ∃ s m, s < 16 ∧ 1 ≤ s ∧ m < 32 ∧ 1 ≤ m ∧ dd_ft rows cols s m ∧ dd_mn (dd_A a) (dd_rl s 4) m ≠ 0 ∧ dd_pc s = f)
    (h : ∀ t', post (nI f) (a, p, t')) : wpY_rankIn post (a, p, t) (nI rows) (nI cols) := by
  refine pk_loop (σ := Nat × (Nat → Int64)) (fun n s st => wY_rankIn_5 post (nI rows) (nI cols) n (nI st.1) (nI s) a p st.2) (fun s st => st.1 ≤ f ∧ 1 ≤ s ∧ ∀ s', s' < s → 1 ≤ s' → ∀ m, m < 32 → 1 ≤ m → dd_ft rows cols s' m → dd_mn (dd_A a) (dd_rl s' 4) m ≠ 0 → dd_pc s' ≤ st.1) 16 1 (0, t) (by omega) ⟨Nat.zero_le _, Nat.le_refl _, fun s' h1 h2 => by omega⟩ ?_ ?_
  · intro n st ⟨g1, g2, g3⟩
    refine br_t (show (16 : Int32) ≤ nI 16 from by decide) ?_
    have e : st.1 = f := by
      rcases V with v | ⟨s, m, h1, h2, h3, h4, h5, h6, h7⟩
      · omega
      · have := g3 s h1 h2 m h3 h4 h5 h6
        omega
    show post (nI st.1) (a, p, st.2)
    rw [e]
    exact h st.2
  · intro n s st hs ⟨g1, g2, g3⟩ k
    refine br_f (nI_ge (b := 16) hs (by decide)) (dd_r15 post _ a p st.2 hB rows cols f s st.1 hr hc hs hf g1 (U s hs g2) (fun q t' h1 h2 h3 => k (q, t') ⟨h1, by omega, fun s' y1 y2 m y3 y4 y5 y6 => ?_⟩))
    by_cases e : s' = s
    · subst e; exact h3 m y3 y4 y5 y6
    · exact Nat.le_trans (g3 s' (by omega) y2 m y3 y4 y5 y6) h2

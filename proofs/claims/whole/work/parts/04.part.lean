/-! the reference's table of minors -/
def dd_pq (m : Nat) : Nat → Nat
  | 0 => 0
  | j + 1 => dd_pq m j + m / 2 ^ j % 2
def dd_pc (m : Nat) : Nat := dd_pq m 5
def dd_A (a : Nat → Int32) (i j : Nat) : Int := (a (5 * i + j)).toInt
def dd_tm (A : Nat → Nat → Int) (f : Nat → Int) (i m j : Nat) : Int := if m / 2 ^ j % 2 = 1 then (if dd_pc (m / 2 ^ (j + 1)) % 2 = 0 then A i j * f (m - 2 ^ j) else - (A i j * f (m - 2 ^ j))) else 0
def dd_es (A : Nat → Nat → Int) (f : Nat → Int) (i m : Nat) : Nat → Int
  | 0 => 0
  | j + 1 => dd_es A f i m j + dd_tm A f i m j
def dd_mn (A : Nat → Nat → Int) : List Nat → Nat → Int
  | [], _ => 1
  | i :: L, m => dd_es A (dd_mn A L) i m 5
def dd_rl (rows : Nat) : Nat → List Nat
  | 0 => []
  | n + 1 => if rows / 2 ^ n % 2 = 1 then n :: dd_rl rows n else dd_rl rows n
theorem dd_F1 : ∀ m, m < 32 → ∀ j, j < 5 → ((nI m >>> (nI j &&& 31)) &&& 1) = nI (m / 2 ^ j % 2) := by decide +kernel
theorem dd_F2 : ∀ m, m < 32 → ∀ j, j < 5 → m / 2 ^ j % 2 = 1 → (nI m &&& (((1 : Int32) <<< (nI j &&& 31)) ^^^ (-1))) = nI (m - 2 ^ j) := by decide +kernel
theorem dd_F3 : ∀ m, m < 32 → ∀ j, j < 5 → (nI m >>> ((nI j + 1) &&& 31)) = nI (m / 2 ^ (j + 1)) := by decide +kernel
theorem dd_F4 : ∀ m, m < 32 → (nI m - nI m / 2 * 2 = 0 ↔ m % 2 = 0) := by decide +kernel
theorem dd_F5 : ∀ m, m < 32 → dd_pc m < 6 := by decide +kernel
theorem dd_F6 : ∀ m, m < 32 → ∀ j, j < 5 → m / 2 ^ j % 2 = 1 → dd_pc (m - 2 ^ j) + 1 = dd_pc m := by decide +kernel
theorem dd_F7 : ∀ m, m < 32 → dd_pc m = 0 → m = 0 := by decide +kernel
theorem dd_ones (post : Int32 → Prop) (a p : Nat → Int32) (t : Nat → Int64) (x : Int32) (m : Nat) (hm : m < 32) (hx : x = nI m) (h : post (nI (dd_pc m))) : wpY_ones post (a, p, t) x := by
  subst hx
  refine pk_loop (σ := Nat) (fun n i s => wY_ones_4 post (nI m) a p t n (nI s) (nI i)) (fun i s => s = dd_pq m i) 5 0 0 (by omega) rfl ?_ ?_
  · intro n s hs
    subst hs
    exact br_t (show (5 : Int32) ≤ nI 5 from by decide) h
  · intro n i s hi hs k
    subst hs
    exact br_f (nI_ge (b := 5) hi (by decide)) (nm_r (e' := nI (dd_pq m i + m / 2 ^ i % 2)) (by rw [dd_F1 m hm i hi, nI_add]) (nm_r (nI_1 i) (k _ rfl)))
theorem dd_expand (post : Int64 → Prop) (a p : Nat → Int32) (t : Nat → Int64) (i m : Nat) (hi : i < 4) (hm : m < 32) (f : Nat → Int) (ht : ∀ j, j < 5 → m / 2 ^ j % 2 = 1 → t (m - 2 ^ j) = Int64.ofInt (f (m - 2 ^ j))) (h : post (Int64.ofInt (dd_es (dd_A a) f i m 5))) : wpY_expand post (a, p, t) (nI i) (nI m) := by
  refine pk_loop (σ := Int64) (fun n j s => wY_expand_5 post (nI i) (nI m) a p t n s (nI j)) (fun j s => s = Int64.ofInt (dd_es (dd_A a) f i m j)) 5 0 0 (by omega) rfl ?_ ?_
  · intro n s hs
    subst hs
    exact br_t (show (5 : Int32) ≤ nI 5 from by decide) h
  · intro n j s hj hs k
    subst hs
    have e5 := nI_ge (b := 5) hj (by decide)
    by_cases hb : m / 2 ^ j % 2 = 1
    · have h1 := dd_ix (5 * nI i + nI j) (5 * i + j) 20 (dd_5i i j) (by omega) (by decide)
      have h2 := dd_ix (nI m &&& (((1 : Int32) <<< (nI j &&& 31)) ^^^ (-1))) (m - 2 ^ j) 32 (dd_F2 m hm j hj hb) (Nat.lt_of_le_of_lt (Nat.sub_le _ _) hm) (by decide)
      refine br_f e5 (br_t (by rw [dd_F1 m hm j hj, hb]; rfl) ⟨h1.1, h2.1, nm_r (e' := Int64.ofInt (dd_A a i j * f (m - 2 ^ j))) (by rw [h1.2, h2.2, ht j hj hb, Int64.ofInt_mul]; rfl) ?_⟩)
      have hc : m / 2 ^ (j + 1) < 32 := Nat.lt_of_le_of_lt (Nat.div_le_self _ _) hm
      refine dd_ones _ a p t _ (m / 2 ^ (j + 1)) hc (dd_F3 m hm j hj) ⟨by decide, ?_⟩
      have h5 := dd_F5 _ hc
      by_cases hz : dd_pc (m / 2 ^ (j + 1)) % 2 = 0
      · refine br_t ((dd_F4 _ (by omega)).mpr hz) (nm_r (e' := Int64.ofInt (dd_es (dd_A a) f i m (j + 1))) ?_ (nm_r (nI_1 j) (k _ rfl)))
        simp only [dd_es, dd_tm, if_pos hb, if_pos hz, Int64.ofInt_add]
      · refine br_f (fun y => hz ((dd_F4 _ (by omega)).mp y)) (nm_r (e' := Int64.ofInt (dd_es (dd_A a) f i m (j + 1))) ?_ (nm_r (nI_1 j) (k _ rfl)))
        simp only [dd_es, dd_tm, if_pos hb, if_neg hz, Int64.ofInt_add, Int64.ofInt_neg, Int64.sub_eq_add_neg]
    · refine br_f e5 (br_f (fun y => hb ?_) (nm_r (nI_1 j) (k _ ?_)))
      · rw [dd_F1 m hm j hj] at y
        have : m / 2 ^ j % 2 < 2 := Nat.mod_lt _ (by decide)
        exact (nI_eq (by omega) (by decide)).mp (y : _ = nI 1)
      · simp only [dd_es, dd_tm, if_neg hb, Int.add_zero]
def dd_T (a : Nat → Int32) (L : List Nat) (t : Nat → Int64) : Prop := ∀ m, m < 32 → dd_pc m = L.length → t m = Int64.ofInt (dd_mn (dd_A a) L m)
theorem dd_p34 (post : Int64 → SY → Prop) (J : Int32 → Int32 → (Nat → Int32) → (Nat → Int32) → (Nat → Int64) → Prop) (x1 x2 : Int32) (a p : Nat → Int32) (t : Nat → Int64) (L : List Nat) (i : Nat) (hi : i < 4) (hL : L.length < 4) (ht : dd_T a L t)
    (h : ∀ t', dd_T a (i :: L) t' → J (nI (L.length + 1)) (nI (i + 1)) a p t') : ∃ n, wY_part_34 post J x1 x2 (nI (L.length + 1)) (nI i) n 1 a p t := by
  refine pk_loop (σ := Nat → Int64) (fun n s t' => wY_part_34 post J x1 x2 (nI (L.length + 1)) (nI i) n (nI s) a p t') (fun s t' => (∀ m, m < s → 1 ≤ m → dd_pc m = L.length + 1 → t' m = Int64.ofInt (dd_mn (dd_A a) (i :: L) m)) ∧ (∀ m, m < 32 → dd_pc m ≠ L.length + 1 → t' m = t m) ∧ 1 ≤ s) 32 1 t (by omega) ⟨fun m h1 h2 => by omega, fun m _ _ => rfl, by omega⟩ ?_ ?_
  · intro n t' ⟨g1, g2, _⟩
    refine br_t (show (32 : Int32) ≤ nI 32 from by decide) (nm_r (nI_1 i) (h t' (fun m hm hp => g1 m hm ?_ hp)))
    · cases m with
      | zero => exact absurd hp (by show (0 : Nat) ≠ _; simp)
      | succ m => omega
  · intro n s t' hs ⟨g1, g2, g3⟩ k
    refine br_f (nI_ge (b := 32) hs (by decide)) (dd_ones _ a p t' _ s hs rfl ?_)
    have h5 := dd_F5 s hs
    by_cases hp : dd_pc s = L.length + 1
    · refine br_t (by rw [hp]) (dd_expand _ a p t' i s hi hs (dd_mn (dd_A a) L) (fun j hj hb => ?_) ⟨vp_in_nI hs (by decide), nm_e (nm_r (nI_1 s) (k _ ⟨?_, ?_, by omega⟩))⟩)
      · have h6 := dd_F6 s hs j hj hb
        have h7 : s - 2 ^ j < 32 := Nat.lt_of_le_of_lt (Nat.sub_le _ _) hs
        rw [g2 _ h7 (by omega)]
        exact ht _ h7 (by omega)
      · intro m hm h1 hq
        rw [nI_clamp (by omega)]
        by_cases e : m = s
        · rw [e, pk_uLs]; rfl
        · rw [pk_uLn e]; exact g1 m (by omega) h1 hq
      · intro m hm hq
        rw [nI_clamp (by omega), pk_uLn (by intro e; rw [e] at hq; exact hq hp)]
        exact g2 m hm hq
    · refine br_f (fun y => hp ((nI_eq (by omega) (by omega)).mp y)) ⟨vp_in_nI hs (by decide), vp_in_nI hs (by decide), nm_e (nm_r (nI_1 s) (k _ ⟨?_, ?_, by omega⟩))⟩
      · intro m hm h1 hq
        rw [nI_clamp (by omega)]
        by_cases e : m = s
        · exact absurd (e ▸ hq) hp
        · rw [pk_uLn e]; exact g1 m (by omega) h1 hq
      · intro m hm hq
        rw [nI_clamp (by omega)]
        by_cases e : m = s
        · rw [e, pk_uLs]; exact g2 s hs hp
        · rw [pk_uLn e]; exact g2 m hm hq
theorem dd_rlL (rows : Nat) : ∀ n, (dd_rl rows n).length ≤ n
  | 0 => Nat.le_refl 0
  | n + 1 => by
    have := dd_rlL rows n
    simp only [dd_rl]
    split
    · simp only [List.length_cons]; omega
    · omega
theorem dd_p12 (post : Int64 → SY → Prop) (a p : Nat → Int32) (rows cols : Nat) (hr : rows < 16) (hc : cols < 32) (hp : dd_pc cols = (dd_rl rows 4).length) (h : ∀ t', post (Int64.ofInt (dd_mn (dd_A a) (dd_rl rows 4) cols)) (a, p, t')) :
    ∀ d i t, i + d = 4 → dd_T a (dd_rl rows i) t → wY_part_12 post (nI rows) (nI cols) (d + 1) (nI (dd_rl rows i).length) (nI i) a p t := by
  intro d
  induction d with
  | zero =>
    intro i t hi ht
    obtain rfl : i = 4 := by omega
    refine br_t (show (4 : Int32) ≤ nI 4 from by decide) ?_
    have hl := dd_rlL rows 4
    by_cases e : (dd_rl rows 4).length = 0
    · refine br_t (by rw [e]; rfl) ?_
      have e2 : dd_rl rows 4 = [] := List.eq_nil_of_length_eq_zero e
      have := h t
      rw [e2] at this
      exact this
    · refine br_f (nI_ne0 (by omega) (by omega)) ⟨vp_in_nI hc (by decide), ?_⟩
      rw [nI_clamp (by omega), ht cols hc hp]
      exact h t
  | succ d ih =>
    intro i t hi ht
    have hl := dd_rlL rows i
    refine br_f (nI_ge (b := 4) (by omega) (by decide)) ?_
    by_cases hb : rows / 2 ^ i % 2 = 1
    · have e : dd_rl rows (i + 1) = i :: dd_rl rows i := by simp only [dd_rl, if_pos hb]
      refine br_t (by rw [dd_F1 rows (by omega) i (by omega), hb]; rfl) (nm_r (nI_1 _) (dd_p34 post _ _ _ a p t (dd_rl rows i) i (by omega) (by omega) ht (fun t' ht' => ?_)))
      have := ih (i + 1) t' (by omega) (by rw [e]; exact ht')
      rw [e] at this
      exact this
    · have e : dd_rl rows (i + 1) = dd_rl rows i := by simp only [dd_rl, if_neg hb]
      refine br_f (fun y => hb ?_) (nm_r (nI_1 i) ?_)
      · rw [dd_F1 rows (by omega) i (by omega)] at y
        have : rows / 2 ^ i % 2 < 2 := Nat.mod_lt _ (by decide)
        exact (nI_eq (by omega) (by decide)).mp (y : _ = nI 1)
      · have := ih (i + 1) t (by omega) (by rw [e]; exact ht)
        rw [e] at this
        exact this
theorem dd_part (post : Int64 → SY → Prop) (a p : Nat → Int32) (t : Nat → Int64) (x y : Int32) (rows cols : Nat) (hx : x = nI rows) (hy : y = nI cols) (hr : rows < 16) (hc : cols < 32) (hp : dd_pc cols = (dd_rl rows 4).length) (h : ∀ t', post (Int64.ofInt (dd_mn (dd_A a) (dd_rl rows 4) cols)) (a, p, t')) : wpY_part post (a, p, t) x y := by
  subst hx hy
  refine nm_e ⟨5, dd_p12 post a p rows cols hr hc hp h 4 0 _ (by omega) ?_⟩
  intro m hm h0
  rw [dd_F7 m hm h0, pk_uLs]
  rfl

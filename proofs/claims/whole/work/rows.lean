section
/-! rows of the kit that may be pasted (pk_), the relation, and small things -/
theorem pk_us {f : Nat → Int32} {k : Nat} {x : Int32} : upd f k x k = x := if_pos rfl
theorem pk_un {f : Nat → Int32} {k j : Nat} {x : Int32} (h : j ≠ k) : upd f k x j = f j := if_neg h
theorem pk_uLs {f : Nat → Int64} {k : Nat} {x : Int64} : vp_updL f k x k = x := if_pos rfl
theorem pk_uLn {f : Nat → Int64} {k j : Nat} {x : Int64} (h : j ≠ k) : vp_updL f k x j = f j := if_neg h
theorem pk_sub {a b : Nat} (h : b ≤ a) : nI a - nI b = nI (a - b) := by
  obtain ⟨c, rfl⟩ : ∃ c, a = c + b := ⟨a - b, by omega⟩
  rw [← nI_add, Int32.add_sub_cancel, Nat.add_sub_cancel]
theorem pk_mul (a b : Nat) : nI a * nI b = nI (a * b) := (Int32.ofNat_mul a b).symm
theorem pk_div {a d : Nat} (ha : a < 2 ^ 31) (h0 : 0 < d) (hd : d < 2 ^ 31) : nI a / nI d = nI (a / d) := by
  apply Int32.toInt_inj.mp
  rw [lg_idiv_nonneg (by rw [nI_toInt ha]; omega) (by rw [nI_toInt hd]; omega), nI_toInt ha, nI_toInt hd, nI_toInt (Nat.lt_of_le_of_lt (Nat.div_le_self a d) ha)]
  first | rfl | exact (Int.natCast_ediv _ _).symm
theorem pk_rem {a d : Nat} (ha : a < 2 ^ 31) (h0 : 0 < d) (hd : d < 2 ^ 31) : nI a - nI a / nI d * nI d = nI (a % d) := by
  rw [pk_div ha h0 hd, pk_mul, pk_sub (Nat.div_mul_le_self a d)]
  exact congrArg nI (by have := Nat.div_add_mod' a d; omega)
theorem pk_ix (x : Int32) {n : Nat} (hn : n < 2 ^ 31) : x < 0 ∨ nI n ≤ x ∨ ∃ j : Nat, j < n ∧ x = nI j := by
  by_cases h : x < 0
  · exact Or.inl h
  · obtain ⟨j, hj, rfl⟩ := nI_of h
    by_cases h2 : j < n
    · exact Or.inr (Or.inr ⟨j, h2, rfl⟩)
    · exact Or.inr (Or.inl (nI_le (by omega) hj))
theorem pk_le {x y : Int32} {A B : Prop} (a b : Nat) (f : a ≤ b → A) (g : b < a → B) (hx : x = nI a := by rfl) (hy : y = nI b := by rfl) (ha : a < 2 ^ 31 := by omega) (hb : b < 2 ^ 31 := by omega) : (x ≤ y → A) ∧ (¬ x ≤ y → B) := by
  subst hx hy
  rw [nI_leI ha hb]
  exact ⟨f, fun z => g (by omega)⟩
theorem pk_lt {x y : Int32} {A B : Prop} (a b : Nat) (f : a < b → A) (g : b ≤ a → B) (hx : x = nI a := by rfl) (hy : y = nI b := by rfl) (ha : a < 2 ^ 31 := by omega) (hb : b < 2 ^ 31 := by omega) : (x < y → A) ∧ (¬ x < y → B) := by
  subst hx hy
  rw [nI_ltI ha hb]
  exact ⟨f, fun z => g (by omega)⟩
theorem pk_eq {x y : Int32} {A B : Prop} (a b : Nat) (f : a = b → A) (g : a ≠ b → B) (hx : x = nI a := by rfl) (hy : y = nI b := by rfl) (ha : a < 2 ^ 31 := by omega) (hb : b < 2 ^ 31 := by omega) : (x = y → A) ∧ (¬ x = y → B) := by
  subst hx hy
  rw [nI_eq ha hb]
  exact ⟨f, g⟩
theorem pk_in {x : Int32} (n N : Nat) (h : n < N) (hx : x = nI n := by rfl) (hN : N < 2 ^ 31 := by omega) : vp_in x N := by
  subst hx
  exact vp_in_nI h hN
theorem pk_cl {x : Int32} (n : Nat) (hx : x = nI n := by rfl) (h : n < 2 ^ 31 := by omega) : x.toNatClampNeg = n := by
  subst hx
  exact nI_clamp h
theorem pk_loop {σ : Type} (W : Nat → Nat → σ → Prop) (I : Nat → σ → Prop) (e i0 : Nat) (s : σ) (hi : i0 ≤ e) (h0 : I i0 s) (hx : ∀ n s, I e s → W (n + 1) e s)
    (hs : ∀ n i s, i < e → I i s → (∀ s', I (i + 1) s' → W n (i + 1) s') → W (n + 1) i s) : ∃ n, W n i0 s :=
  ⟨e + 1, loop_i W I e hx hs (e + 1) i0 s hi (by omega) h0⟩
def dd_B (a : Nat → Int32) : Prop := ∀ i, i < 20 → -50 ≤ (a i).toInt ∧ (a i).toInt ≤ 50
/-- both sides hold the same numbers, all within -50 .. 50; the scratch arrays are free -/
def i_Rel (k : Nat) (u : SX) (v : SY) : Prop := ∃ (a w : Nat → Int32) (r : Nat → Int64) (p : Nat → Int32) (t : Nat → Int64), u = (a, w, r) ∧ v = (a, p, t) ∧ dd_B a
theorem i_up {k : Nat} {u : SX} {v : SY} (h : i_Rel k u v) : i_Rel (k + 4) u v := h
theorem i_vc0 : wpX_init (fun u => wpY_init (fun v => i_Rel 0 u v)) := ⟨_, _, _, _, _, rfl, rfl, fun i _ => show -50 ≤ (0 : Int32).toInt ∧ (0 : Int32).toInt ≤ 50 from by decide⟩
theorem dd_rel {k : Nat} {a w p : Nat → Int32} {r t : Nat → Int64} (h : dd_B a) : i_Rel k (a, w, r) (a, p, t) := ⟨a, w, r, p, t, rfl, rfl, h⟩
theorem dd_ix (x : Int32) (y n : Nat) (h : x = nI y) (hy : y < n) (hn : n < 2 ^ 31) : vp_in x n ∧ x.toNatClampNeg = y := by
  subst h
  exact ⟨vp_in_nI hy hn, nI_clamp (by omega)⟩
theorem dd_i5 (i j : Nat) : nI i * 5 + nI j = nI (5 * i + j) := by
  rw [show (5 : Int32) = nI 5 from rfl, pk_mul, nI_add, Nat.mul_comm]
theorem dd_5i (i j : Nat) : 5 * nI i + nI j = nI (5 * i + j) := by
  rw [show (5 : Int32) = nI 5 from rfl, pk_mul, nI_add]
theorem dd_i4 (i j : Nat) : nI i * 4 + nI j = nI (4 * i + j) := by
  rw [show (4 : Int32) = nI 4 from rfl, pk_mul, nI_add, Nat.mul_comm]
theorem dd_num (v : Int32) : (v < -50 ∨ 50 < v) ∨ (¬ v < -50 ∧ ¬ 50 < v ∧ v ≤ 50 ∧ -50 ≤ v.toInt ∧ v.toInt ≤ 50) := by
  have h1 : (-50 : Int32).toInt = -50 := by decide
  have h2 : (50 : Int32).toInt = 50 := by decide
  simp only [Int32.lt_iff_toInt_lt, Int32.le_iff_toInt_le, h1, h2]
  omega
theorem dd_numI (v : Int32) (h : -50 ≤ v.toInt ∧ v.toInt ≤ 50) : ¬ v < -50 ∧ ¬ 50 < v := by
  have h1 : (-50 : Int32).toInt = -50 := by decide
  have h2 : (50 : Int32).toInt = 50 := by decide
  simp only [Int32.lt_iff_toInt_lt, h1, h2]
  omega
theorem dd_numF (v : Int32) (h : ¬ (-50 ≤ v.toInt ∧ v.toInt ≤ 50)) : v < -50 ∨ (¬ v < -50 ∧ 50 < v) := by
  have h1 : (-50 : Int32).toInt = -50 := by decide
  have h2 : (50 : Int32).toInt = 50 := by decide
  simp only [Int32.lt_iff_toInt_lt, h1, h2]
  omega
theorem dd_upB {a : Nat → Int32} (h : dd_B a) {k : Nat} {v : Int32} (hv : -50 ≤ v.toInt ∧ v.toInt ≤ 50) : dd_B (upd a k v) := by
  intro i hi
  by_cases e : i = k
  · rw [e, pk_us]; exact hv
  · rw [pk_un e]; exact h i hi
end
section
/-! minors of a matrix of whole numbers: linear in every row, and the same up to rows exchanged and rows multiplied crosswise -/
def dd_d2 (x y : Nat → Int) (p q : Nat) : Int := y q * x p - y p * x q
def dd_d3 (x y z : Nat → Int) (p q r : Nat) : Int := z r * dd_d2 x y p q - z q * dd_d2 x y p r + z p * dd_d2 x y q r
def dd_d4 (x y z w : Nat → Int) (p q r s : Nat) : Int := w s * dd_d3 x y z p q r - w r * dd_d3 x y z p q s + w q * dd_d3 x y z p r s - w p * dd_d3 x y z q r s
def dd_L (F : (Nat → Int) → Int) : Prop := ∃ p q r s : Nat, p < 5 ∧ q < 5 ∧ r < 5 ∧ s < 5 ∧ ∃ c0 c1 c2 c3 : Int, ∀ x : Nat → Int, F x = x p * c0 + x q * c1 + x r * c2 + x s * c3
theorem dd_L11 {p : Nat} (hp : p < 5) : dd_L (fun x => x p) := ⟨p, p, p, p, hp, hp, hp, hp, 1, 0, 0, 0, fun x => by grind⟩
theorem dd_L21 (y : Nat → Int) {p q : Nat} (hp : p < 5) (hq : q < 5) : dd_L (fun x => dd_d2 x y p q) := ⟨p, q, p, p, hp, hq, hp, hp, y q, - y p, 0, 0, fun x => by simp only [dd_d2]; grind⟩
theorem dd_L22 (y : Nat → Int) {p q : Nat} (hp : p < 5) (hq : q < 5) : dd_L (fun x => dd_d2 y x p q) := ⟨p, q, p, p, hp, hq, hp, hp, - y q, y p, 0, 0, fun x => by simp only [dd_d2]; grind⟩
theorem dd_L31 (y z : Nat → Int) {p q r : Nat} (hp : p < 5) (hq : q < 5) (hr : r < 5) : dd_L (fun x => dd_d3 x y z p q r) := ⟨p, q, r, p, hp, hq, hr, hp, dd_d2 y z q r, - dd_d2 y z p r, dd_d2 y z p q, 0, fun x => by simp only [dd_d3, dd_d2]; grind⟩
theorem dd_L32 (y z : Nat → Int) {p q r : Nat} (hp : p < 5) (hq : q < 5) (hr : r < 5) : dd_L (fun x => dd_d3 y x z p q r) := ⟨p, q, r, p, hp, hq, hr, hp, - dd_d2 y z q r, dd_d2 y z p r, - dd_d2 y z p q, 0, fun x => by simp only [dd_d3, dd_d2]; grind⟩
theorem dd_L33 (y z : Nat → Int) {p q r : Nat} (hp : p < 5) (hq : q < 5) (hr : r < 5) : dd_L (fun x => dd_d3 y z x p q r) := ⟨p, q, r, p, hp, hq, hr, hp, dd_d2 y z q r, - dd_d2 y z p r, dd_d2 y z p q, 0, fun x => by simp only [dd_d3, dd_d2]; grind⟩
theorem dd_L41 (y z w : Nat → Int) {p q r s : Nat} (hp : p < 5) (hq : q < 5) (hr : r < 5) (hs : s < 5) : dd_L (fun x => dd_d4 x y z w p q r s) := ⟨p, q, r, s, hp, hq, hr, hs, dd_d3 y z w q r s, - dd_d3 y z w p r s, dd_d3 y z w p q s, - dd_d3 y z w p q r, fun x => by simp only [dd_d4, dd_d3, dd_d2]; grind⟩
theorem dd_L42 (y z w : Nat → Int) {p q r s : Nat} (hp : p < 5) (hq : q < 5) (hr : r < 5) (hs : s < 5) : dd_L (fun x => dd_d4 y x z w p q r s) := ⟨p, q, r, s, hp, hq, hr, hs, - dd_d3 y z w q r s, dd_d3 y z w p r s, - dd_d3 y z w p q s, dd_d3 y z w p q r, fun x => by simp only [dd_d4, dd_d3, dd_d2]; grind⟩
theorem dd_L43 (y z w : Nat → Int) {p q r s : Nat} (hp : p < 5) (hq : q < 5) (hr : r < 5) (hs : s < 5) : dd_L (fun x => dd_d4 y z x w p q r s) := ⟨p, q, r, s, hp, hq, hr, hs, dd_d3 y z w q r s, - dd_d3 y z w p r s, dd_d3 y z w p q s, - dd_d3 y z w p q r, fun x => by simp only [dd_d4, dd_d3, dd_d2]; grind⟩
theorem dd_L44 (y z w : Nat → Int) {p q r s : Nat} (hp : p < 5) (hq : q < 5) (hr : r < 5) (hs : s < 5) : dd_L (fun x => dd_d4 y z w x p q r s) := ⟨p, q, r, s, hp, hq, hr, hs, - dd_d3 y z w q r s, dd_d3 y z w p r s, - dd_d3 y z w p q s, dd_d3 y z w p q r, fun x => by simp only [dd_d4, dd_d3, dd_d2]; grind⟩
/-- every row of N, times a number other than 0, is put together from two rows of O -/
def dd_R (O N : Nat → Nat → Int) : Prop := ∀ i, i < 4 → ∃ (g α β : Int) (j k : Nat), g ≠ 0 ∧ j < 4 ∧ k < 4 ∧ ∀ c, c < 5 → g * N i c = α * O j c + β * O k c
theorem dd_st {O N : Nat → Nat → Int} (h : dd_R O N) (F : (Nat → Int) → Int) (hF : dd_L F) (z : ∀ j, j < 4 → F (O j) = 0) : ∀ i, i < 4 → F (N i) = 0 := by
  intro i hi
  obtain ⟨g, α, β, j, k, hg, hj, hk, e⟩ := h i hi
  obtain ⟨p, q, r, s, hp, hq, hr, hs, c0, c1, c2, c3, f⟩ := hF
  have zj := z j hj
  have zk := z k hk
  have ep := e p hp
  have eq := e q hq
  have er := e r hr
  have es := e s hs
  rw [f] at zj zk ⊢
  have h1 : g * (N i p * c0 + N i q * c1 + N i r * c2 + N i s * c3) = (g * N i p) * c0 + (g * N i q) * c1 + (g * N i r) * c2 + (g * N i s) * c3 := by grind
  rw [ep, eq, er, es] at h1
  have h2 : (α * O j p + β * O k p) * c0 + (α * O j q + β * O k q) * c1 + (α * O j r + β * O k r) * c2 + (α * O j s + β * O k s) * c3 = α * (O j p * c0 + O j q * c1 + O j r * c2 + O j s * c3) + β * (O k p * c0 + O k q * c1 + O k r * c2 + O k s * c3) := by grind
  rw [h2, zj, zk, Int.mul_zero, Int.mul_zero, Int.add_zero] at h1
  exact (Int.mul_eq_zero.mp h1).resolve_left hg
def dd_Z1 (M : Nat → Nat → Int) (p : Nat) : Prop := ∀ i, i < 4 → M i p = 0
def dd_Z2 (M : Nat → Nat → Int) (p q : Nat) : Prop := ∀ i, i < 4 → ∀ j, j < 4 → dd_d2 (M i) (M j) p q = 0
def dd_Z3 (M : Nat → Nat → Int) (p q r : Nat) : Prop := ∀ i, i < 4 → ∀ j, j < 4 → ∀ k, k < 4 → dd_d3 (M i) (M j) (M k) p q r = 0
def dd_Z4 (M : Nat → Nat → Int) (p q r s : Nat) : Prop := ∀ i, i < 4 → ∀ j, j < 4 → ∀ k, k < 4 → ∀ l, l < 4 → dd_d4 (M i) (M j) (M k) (M l) p q r s = 0
theorem dd_t1 {O N : Nat → Nat → Int} (h : dd_R O N) {p : Nat} (hp : p < 5) (z : dd_Z1 O p) : dd_Z1 N p := dd_st h (fun x => x p) (dd_L11 hp) z
theorem dd_t2 {O N : Nat → Nat → Int} (h : dd_R O N) {p q : Nat} (hp : p < 5) (hq : q < 5) (z : dd_Z2 O p q) : dd_Z2 N p q := by
  have z1 : ∀ i, i < 4 → ∀ j, j < 4 → dd_d2 (N i) (O j) p q = 0 := fun i hi j hj => dd_st h (fun x => dd_d2 x (O j) p q) (dd_L21 _ hp hq) (fun i' hi' => z i' hi' j hj) i hi
  exact fun i hi j hj => dd_st h (fun x => dd_d2 (N i) x p q) (dd_L22 _ hp hq) (fun j' hj' => z1 i hi j' hj') j hj
theorem dd_t3 {O N : Nat → Nat → Int} (h : dd_R O N) {p q r : Nat} (hp : p < 5) (hq : q < 5) (hr : r < 5) (z : dd_Z3 O p q r) : dd_Z3 N p q r := by
  have z1 : ∀ i, i < 4 → ∀ j, j < 4 → ∀ k, k < 4 → dd_d3 (N i) (O j) (O k) p q r = 0 := fun i hi j hj k hk => dd_st h (fun x => dd_d3 x (O j) (O k) p q r) (dd_L31 _ _ hp hq hr) (fun i' hi' => z i' hi' j hj k hk) i hi
  have z2 : ∀ i, i < 4 → ∀ j, j < 4 → ∀ k, k < 4 → dd_d3 (N i) (N j) (O k) p q r = 0 := fun i hi j hj k hk => dd_st h (fun x => dd_d3 (N i) x (O k) p q r) (dd_L32 _ _ hp hq hr) (fun j' hj' => z1 i hi j' hj' k hk) j hj
  exact fun i hi j hj k hk => dd_st h (fun x => dd_d3 (N i) (N j) x p q r) (dd_L33 _ _ hp hq hr) (fun k' hk' => z2 i hi j hj k' hk') k hk
theorem dd_t4 {O N : Nat → Nat → Int} (h : dd_R O N) {p q r s : Nat} (hp : p < 5) (hq : q < 5) (hr : r < 5) (hs : s < 5) (z : dd_Z4 O p q r s) : dd_Z4 N p q r s := by
  have z1 : ∀ i, i < 4 → ∀ j, j < 4 → ∀ k, k < 4 → ∀ l, l < 4 → dd_d4 (N i) (O j) (O k) (O l) p q r s = 0 := fun i hi j hj k hk l hl => dd_st h (fun x => dd_d4 x (O j) (O k) (O l) p q r s) (dd_L41 _ _ _ hp hq hr hs) (fun i' hi' => z i' hi' j hj k hk l hl) i hi
  have z2 : ∀ i, i < 4 → ∀ j, j < 4 → ∀ k, k < 4 → ∀ l, l < 4 → dd_d4 (N i) (N j) (O k) (O l) p q r s = 0 := fun i hi j hj k hk l hl => dd_st h (fun x => dd_d4 (N i) x (O k) (O l) p q r s) (dd_L42 _ _ _ hp hq hr hs) (fun j' hj' => z1 i hi j' hj' k hk l hl) j hj
  have z3 : ∀ i, i < 4 → ∀ j, j < 4 → ∀ k, k < 4 → ∀ l, l < 4 → dd_d4 (N i) (N j) (N k) (O l) p q r s = 0 := fun i hi j hj k hk l hl => dd_st h (fun x => dd_d4 (N i) (N j) x (O l) p q r s) (dd_L43 _ _ _ hp hq hr hs) (fun k' hk' => z2 i hi j hj k' hk' l hl) k hk
  exact fun i hi j hj k hk l hl => dd_st h (fun x => dd_d4 (N i) (N j) (N k) x p q r s) (dd_L44 _ _ _ hp hq hr hs) (fun l' hl' => z3 i hi j hj k hk l' hl') l hl
/-- the same minors vanish -/
def dd_Q (M N : Nat → Nat → Int) : Prop := (∀ p, p < 5 → (dd_Z1 M p ↔ dd_Z1 N p)) ∧ (∀ p q, p < 5 → q < 5 → (dd_Z2 M p q ↔ dd_Z2 N p q)) ∧ (∀ p q r, p < 5 → q < 5 → r < 5 → (dd_Z3 M p q r ↔ dd_Z3 N p q r)) ∧ (∀ p q r s, p < 5 → q < 5 → r < 5 → s < 5 → (dd_Z4 M p q r s ↔ dd_Z4 N p q r s))
theorem dd_Qr (M : Nat → Nat → Int) : dd_Q M M := ⟨fun _ _ => Iff.rfl, fun _ _ _ _ => Iff.rfl, fun _ _ _ _ _ _ => Iff.rfl, fun _ _ _ _ _ _ _ _ => Iff.rfl⟩
theorem dd_Qt {M N P : Nat → Nat → Int} (h : dd_Q M N) (g : dd_Q N P) : dd_Q M P := ⟨fun p a => (h.1 p a).trans (g.1 p a), fun p q a b => (h.2.1 p q a b).trans (g.2.1 p q a b), fun p q r a b c => (h.2.2.1 p q r a b c).trans (g.2.2.1 p q r a b c), fun p q r s a b c d => (h.2.2.2 p q r s a b c d).trans (g.2.2.2 p q r s a b c d)⟩
theorem dd_QR {M N : Nat → Nat → Int} (h : dd_R M N) (g : dd_R N M) : dd_Q M N := ⟨fun _ a => ⟨dd_t1 h a, dd_t1 g a⟩, fun _ _ a b => ⟨dd_t2 h a b, dd_t2 g a b⟩, fun _ _ _ a b c => ⟨dd_t3 h a b c, dd_t3 g a b c⟩, fun _ _ _ _ a b c d => ⟨dd_t4 h a b c d, dd_t4 g a b c d⟩⟩
end

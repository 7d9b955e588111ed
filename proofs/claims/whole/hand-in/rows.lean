section
/-! rows of the kit that may be pasted (pk_), the relation, and small things -/
theorem pk_us {f : Nat → Int32} {k : Nat} {x : Int32} : upd f k x k = x := if_pos rfl
theorem pk_un {f : Nat → Int32} {k j : Nat} {x : Int32} (h : j ≠ k) : upd f k x j = f j := if_neg h
theorem pk_uLs {f : Nat → Int64} {k : Nat} {x : Int64} : vp_updL f k x k = x := if_pos rfl
theorem pk_uLn {f : Nat → Int64} {k j : Nat} {x : Int64} (h : j ≠ k) : vp_updL f k x j = f j := if_neg h
theorem pk_sub {a b : Nat} (h : b ≤ a) : nI a - nI b = nI (a - b) := by
  obtain ⟨c, rfl⟩ : ∃ c, a = c + b := ⟨a - b, by omega⟩
  rw [← nI_add, Int32.add_sub_cancel, Nat.add_sub_cancel]
theorem pk_mul (a b : Nat) : nI a * nI b = nI (a * b) := (Int32.ofNat_mul a b).symm
theorem pk_div {a d : Nat} (ha : a < 2 ^ 31) (h0 : 0 < d) (hd : d < 2 ^ 31) : nI a / nI d = nI (a / d) := by
  apply Int32.toInt_inj.mp
  rw [lg_idiv_nonneg (by rw [nI_toInt ha]; omega) (by rw [nI_toInt hd]; omega), nI_toInt ha, nI_toInt hd, nI_toInt (Nat.lt_of_le_of_lt (Nat.div_le_self a d) ha)]
  first | rfl | exact (Int.natCast_ediv _ _).symm
theorem pk_rem {a d : Nat} (ha : a < 2 ^ 31) (h0 : 0 < d) (hd : d < 2 ^ 31) : nI a - nI a / nI d * nI d = nI (a % d) := by
  rw [pk_div ha h0 hd, pk_mul, pk_sub (Nat.div_mul_le_self a d)]
  exact congrArg nI (by have := Nat.div_add_mod' a d; omega)
theorem pk_ix (x : Int32) {n : Nat} (hn : n < 2 ^ 31) : x < 0 ∨ nI n ≤ x ∨ ∃ j : Nat, j < n ∧ x = nI j := by
  by_cases h : x < 0
  · exact Or.inl h
  · obtain ⟨j, hj, rfl⟩ := nI_of h
    by_cases h2 : j < n
    · exact Or.inr (Or.inr ⟨j, h2, rfl⟩)
    · exact Or.inr (Or.inl (nI_le (by omega) hj))
theorem pk_le {x y : Int32} {A B : Prop} (a b : Nat) (f : a ≤ b → A) (g : b < a → B) (hx : x = nI a := by rfl) (hy : y = nI b := by rfl) (ha : a < 2 ^ 31 := by omega) (hb : b < 2 ^ 31 := by omega) : (x ≤ y → A) ∧ (¬ x ≤ y → B) := by
  subst hx hy
  rw [nI_leI ha hb]
  exact ⟨f, fun z => g (by omega)⟩
theorem pk_lt {x y : Int32} {A B : Prop} (a b : Nat) (f : a < b → A) (g : b ≤ a → B) (hx : x = nI a := by rfl) (hy : y = nI b := by rfl) (ha : a < 2 ^ 31 := by omega) (hb : b < 2 ^ 31 := by omega) : (x < y → A) ∧ (¬ x < y → B) := by
  subst hx hy
  rw [nI_ltI ha hb]
  exact ⟨f, fun z => g (by omega)⟩
theorem pk_eq {x y : Int32} {A B : Prop} (a b : Nat) (f : a = b → A) (g : a ≠ b → B) (hx : x = nI a := by rfl) (hy : y = nI b := by rfl) (ha : a < 2 ^ 31 := by omega) (hb : b < 2 ^ 31 := by omega) : (x = y → A) ∧ (¬ x = y → B) := by
  subst hx hy
  rw [nI_eq ha hb]
  exact ⟨f, g⟩
theorem pk_in {x : Int32} (n N : Nat) (h : n < N) (hx : x = nI n := by rfl) (hN : N < 2 ^ 31 := by omega) : vp_in x N := by
  subst hx
  exact vp_in_nI h hN
theorem pk_cl {x : Int32} (n : Nat) (hx : x = nI n := by rfl) (h : n < 2 ^ 31 := by omega) : x.toNatClampNeg = n := by
  subst hx
  exact nI_clamp h
theorem pk_loop {σ : Type} (W : Nat → Nat → σ → Prop) (I : Nat → σ → Prop) (e i0 : Nat) (s : σ) (hi : i0 ≤ e) (h0 : I i0 s) (hx : ∀ n s, I e s → W (n + 1) e s)
    (hs : ∀ n i s, i < e → I i s → (∀ s', I (i + 1) s' → W n (i + 1) s') → W (n + 1) i s) : ∃ n, W n i0 s :=
  ⟨e + 1, loop_i W I e hx hs (e + 1) i0 s hi (by omega) h0⟩
def dd_B (a : Nat → Int32) : Prop := ∀ i, i < 20 → -50 ≤ (a i).toInt ∧ (a i).toInt ≤ 50
/-- both sides hold the same numbers, all within -50 .. 50; the scratch arrays are free -/
def i_Rel (k : Nat) (u : SX) (v : SY) : Prop := ∃ (a w : Nat → Int32) (r : Nat → Int64) (p : Nat → Int32) (t : Nat → Int64), u = (a, w, r) ∧ v = (a, p, t) ∧ dd_B a
theorem i_up {k : Nat} {u : SX} {v : SY} (h : i_Rel k u v) : i_Rel (k + 4) u v := h
theorem i_vc0 : wpX_init (fun u => wpY_init (fun v => i_Rel 0 u v)) := ⟨_, _, _, _, _, rfl, rfl, fun i _ => show -50 ≤ (0 : Int32).toInt ∧ (0 : Int32).toInt ≤ 50 from by decide⟩
theorem dd_rel {k : Nat} {a w p : Nat → Int32} {r t : Nat → Int64} (h : dd_B a) : i_Rel k (a, w, r) (a, p, t) := ⟨a, w, r, p, t, rfl, rfl, h⟩
theorem dd_ix (x : Int32) (y n : Nat) (h : x = nI y) (hy : y < n) (hn : n < 2 ^ 31) : vp_in x n ∧ x.toNatClampNeg = y := by
  subst h
  exact ⟨vp_in_nI hy hn, nI_clamp (by omega)⟩
theorem dd_i5 (i j : Nat) : nI i * 5 + nI j = nI (5 * i + j) := by
  rw [show (5 : Int32) = nI 5 from rfl, pk_mul, nI_add, Nat.mul_comm]
theorem dd_5i (i j : Nat) : 5 * nI i + nI j = nI (5 * i + j) := by
  rw [show (5 : Int32) = nI 5 from rfl, pk_mul, nI_add]
theorem dd_i4 (i j : Nat) : nI i * 4 + nI j = nI (4 * i + j) := by
  rw [show (4 : Int32) = nI 4 from rfl, pk_mul, nI_add, Nat.mul_comm]
theorem dd_num (v : Int32) : (v < -50 ∨ 50 < v) ∨ (¬ v < -50 ∧ ¬ 50 < v ∧ v ≤ 50 ∧ -50 ≤ v.toInt ∧ v.toInt ≤ 50) := by
  have h1 : (-50 : Int32).toInt = -50 := by decide
  have h2 : (50 : Int32).toInt = 50 := by decide
  simp only [Int32.lt_iff_toInt_lt, Int32.le_iff_toInt_le, h1, h2]
  omega
theorem dd_numI (v : Int32) (h : -50 ≤ v.toInt ∧ v.toInt ≤ 50) : ¬ v < -50 ∧ ¬ 50 < v := by
  have h1 : (-50 : Int32).toInt = -50 := by decide
  have h2 : (50 : Int32).toInt = 50 := by decide
  simp only [Int32.lt_iff_toInt_lt, h1, h2]
  omega
theorem dd_numF (v : Int32) (h : ¬ (-50 ≤ v.toInt ∧ v.toInt ≤ 50)) : v < -50 ∨ (¬ v < -50 ∧ 50 < v) := by
  have h1 : (-50 : Int32).toInt = -50 := by decide
  have h2 : (50 : Int32).toInt = 50 := by decide
  simp only [Int32.lt_iff_toInt_lt, h1, h2]
  omega
theorem dd_upB {a : Nat → Int32} (h : dd_B a) {k : Nat} {v : Int32} (hv : -50 ≤ v.toInt ∧ v.toInt ≤ 50) : dd_B (upd a k v) := by
  intro i hi
  by_cases e : i = k
  · rw [e, pk_us]; exact hv
  · rw [pk_un e]; exact h i hi
end
section
/-! minors of a matrix of whole numbers: linear in every row, and the same up to rows exchanged and rows multiplied crosswise -/
def dd_d2 (x y : Nat → Int) (p q : Nat) : Int := y q * x p - y p * x q
def dd_d3 (x y z : Nat → Int) (p q r : Nat) : Int := z r * dd_d2 x y p q - z q * dd_d2 x y p r + z p * dd_d2 x y q r
def dd_d4 (x y z w : Nat → Int) (p q r s : Nat) : Int := w s * dd_d3 x y z p q r - w r * dd_d3 x y z p q s + w q * dd_d3 x y z p r s - w p * dd_d3 x y z q r s
def dd_L (F : (Nat → Int) → Int) : Prop := ∃ p q r s : Nat, p < 5 ∧ q < 5 ∧ r < 5 ∧ s < 5 ∧ ∃ c0 c1 c2 c3 : Int, ∀ x : Nat → Int, F x = x p * c0 + x q * c1 + x r * c2 + x s * c3
theorem dd_L11 {p : Nat} (hp : p < 5) : dd_L (fun x => x p) := ⟨p, p, p, p, hp, hp, hp, hp, 1, 0, 0, 0, fun x => by grind⟩
theorem dd_L21 (y : Nat → Int) {p q : Nat} (hp : p < 5) (hq : q < 5) : dd_L (fun x => dd_d2 x y p q) := ⟨p, q, p, p, hp, hq, hp, hp, y q, - y p, 0, 0, fun x => by simp only [dd_d2]; grind⟩
theorem dd_L22 (y : Nat → Int) {p q : Nat} (hp : p < 5) (hq : q < 5) : dd_L (fun x => dd_d2 y x p q) := ⟨p, q, p, p, hp, hq, hp, hp, - y q, y p, 0, 0, fun x => by simp only [dd_d2]; grind⟩
theorem dd_L31 (y z : Nat → Int) {p q r : Nat} (hp : p < 5) (hq : q < 5) (hr : r < 5) : dd_L (fun x => dd_d3 x y z p q r) := ⟨p, q, r, p, hp, hq, hr, hp, dd_d2 y z q r, - dd_d2 y z p r, dd_d2 y z p q, 0, fun x => by simp only [dd_d3, dd_d2]; grind⟩
theorem dd_L32 (y z : Nat → Int) {p q r : Nat} (hp : p < 5) (hq : q < 5) (hr : r < 5) : dd_L (fun x => dd_d3 y x z p q r) := ⟨p, q, r, p, hp, hq, hr, hp, - dd_d2 y z q r, dd_d2 y z p r, - dd_d2 y z p q, 0, fun x => by simp only [dd_d3, dd_d2]; grind⟩
theorem dd_L33 (y z : Nat → Int) {p q r : Nat} (hp : p < 5) (hq : q < 5) (hr : r < 5) : dd_L (fun x => dd_d3 y z x p q r) := ⟨p, q, r, p, hp, hq, hr, hp, dd_d2 y z q r, - dd_d2 y z p r, dd_d2 y z p q, 0, fun x => by simp only [dd_d3, dd_d2]; grind⟩
theorem dd_L41 (y z w : Nat → Int) {p q r s : Nat} (hp : p < 5) (hq : q < 5) (hr : r < 5) (hs : s < 5) : dd_L (fun x => dd_d4 x y z w p q r s) := ⟨p, q, r, s, hp, hq, hr, hs, dd_d3 y z w q r s, - dd_d3 y z w p r s, dd_d3 y z w p q s, - dd_d3 y z w p q r, fun x => by simp only [dd_d4, dd_d3, dd_d2]; grind⟩
theorem dd_L42 (y z w : Nat → Int) {p q r s : Nat} (hp : p < 5) (hq : q < 5) (hr : r < 5) (hs : s < 5) : dd_L (fun x => dd_d4 y x z w p q r s) := ⟨p, q, r, s, hp, hq, hr, hs, - dd_d3 y z w q r s, dd_d3 y z w p r s, - dd_d3 y z w p q s, dd_d3 y z w p q r, fun x => by simp only [dd_d4, dd_d3, dd_d2]; grind⟩
theorem dd_L43 (y z w : Nat → Int) {p q r s : Nat} (hp : p < 5) (hq : q < 5) (hr : r < 5) (hs : s < 5) : dd_L (fun x => dd_d4 y z x w p q r s) := ⟨p, q, r, s, hp, hq, hr, hs, dd_d3 y z w q r s, - dd_d3 y z w p r s, dd_d3 y z w p q s, - dd_d3 y z w p q r, fun x => by simp only [dd_d4, dd_d3, dd_d2]; grind⟩
theorem dd_L44 (y z w : Nat → Int) {p q r s : Nat} (hp : p < 5) (hq : q < 5) (hr : r < 5) (hs : s < 5) : dd_L (fun x => dd_d4 y z w x p q r s) := ⟨p, q, r, s, hp, hq, hr, hs, - dd_d3 y z w q r s, dd_d3 y z w p r s, - dd_d3 y z w p q s, dd_d3 y z w p q r, fun x => by simp only [dd_d4, dd_d3, dd_d2]; grind⟩
/-- every row of N, times a number other than 0, is put together from two rows of O -/
def dd_R (O N : Nat → Nat → Int) : Prop := ∀ i, i < 4 → ∃ (g α β : Int) (j k : Nat), g ≠ 0 ∧ j < 4 ∧ k < 4 ∧ ∀ c, c < 5 → g * N i c = α * O j c + β * O k c
theorem dd_st {O N : Nat → Nat → Int} (h : dd_R O N) (F : (Nat → Int) → Int) (hF : dd_L F) (z : ∀ j, j < 4 → F (O j) = 0) : ∀ i, i < 4 → F (N i) = 0 := by
  intro i hi
  obtain ⟨g, α, β, j, k, hg, hj, hk, e⟩ := h i hi
  obtain ⟨p, q, r, s, hp, hq, hr, hs, c0, c1, c2, c3, f⟩ := hF
  have zj := z j hj
  have zk := z k hk
  have ep := e p hp
  have eq := e q hq
  have er := e r hr
  have es := e s hs
  rw [f] at zj zk ⊢
  have h1 : g * (N i p * c0 + N i q * c1 + N i r * c2 + N i s * c3) = (g * N i p) * c0 + (g * N i q) * c1 + (g * N i r) * c2 + (g * N i s) * c3 := by grind
  rw [ep, eq, er, es] at h1
  have h2 : (α * O j p + β * O k p) * c0 + (α * O j q + β * O k q) * c1 + (α * O j r + β * O k r) * c2 + (α * O j s + β * O k s) * c3 = α * (O j p * c0 + O j q * c1 + O j r * c2 + O j s * c3) + β * (O k p * c0 + O k q * c1 + O k r * c2 + O k s * c3) := by grind
  rw [h2, zj, zk, Int.mul_zero, Int.mul_zero, Int.add_zero] at h1
  exact (Int.mul_eq_zero.mp h1).resolve_left hg
def dd_Z1 (M : Nat → Nat → Int) (p : Nat) : Prop := ∀ i, i < 4 → M i p = 0
def dd_Z2 (M : Nat → Nat → Int) (p q : Nat) : Prop := ∀ i, i < 4 → ∀ j, j < 4 → dd_d2 (M i) (M j) p q = 0
def dd_Z3 (M : Nat → Nat → Int) (p q r : Nat) : Prop := ∀ i, i < 4 → ∀ j, j < 4 → ∀ k, k < 4 → dd_d3 (M i) (M j) (M k) p q r = 0
def dd_Z4 (M : Nat → Nat → Int) (p q r s : Nat) : Prop := ∀ i, i < 4 → ∀ j, j < 4 → ∀ k, k < 4 → ∀ l, l < 4 → dd_d4 (M i) (M j) (M k) (M l) p q r s = 0
theorem dd_t1 {O N : Nat → Nat → Int} (h : dd_R O N) {p : Nat} (hp : p < 5) (z : dd_Z1 O p) : dd_Z1 N p := dd_st h (fun x => x p) (dd_L11 hp) z
theorem dd_t2 {O N : Nat → Nat → Int} (h : dd_R O N) {p q : Nat} (hp : p < 5) (hq : q < 5) (z : dd_Z2 O p q) : dd_Z2 N p q := by
  have z1 : ∀ i, i < 4 → ∀ j, j < 4 → dd_d2 (N i) (O j) p q = 0 := fun i hi j hj => dd_st h (fun x => dd_d2 x (O j) p q) (dd_L21 _ hp hq) (fun i' hi' => z i' hi' j hj) i hi
  exact fun i hi j hj => dd_st h (fun x => dd_d2 (N i) x p q) (dd_L22 _ hp hq) (fun j' hj' => z1 i hi j' hj') j hj
theorem dd_t3 {O N : Nat → Nat → Int} (h : dd_R O N) {p q r : Nat} (hp : p < 5) (hq : q < 5) (hr : r < 5) (z : dd_Z3 O p q r) : dd_Z3 N p q r := by
  have z1 : ∀ i, i < 4 → ∀ j, j < 4 → ∀ k, k < 4 → dd_d3 (N i) (O j) (O k) p q r = 0 := fun i hi j hj k hk => dd_st h (fun x => dd_d3 x (O j) (O k) p q r) (dd_L31 _ _ hp hq hr) (fun i' hi' => z i' hi' j hj k hk) i hi
  have z2 : ∀ i, i < 4 → ∀ j, j < 4 → ∀ k, k < 4 → dd_d3 (N i) (N j) (O k) p q r = 0 := fun i hi j hj k hk => dd_st h (fun x => dd_d3 (N i) x (O k) p q r) (dd_L32 _ _ hp hq hr) (fun j' hj' => z1 i hi j' hj' k hk) j hj
  exact fun i hi j hj k hk => dd_st h (fun x => dd_d3 (N i) (N j) x p q r) (dd_L33 _ _ hp hq hr) (fun k' hk' => z2 i hi j hj k' hk') k hk
theorem dd_t4 {O N : Nat → Nat → Int} (h : dd_R O N) {p q r s : Nat} (hp : p < 5) (hq : q < 5) (hr : r < 5) (hs : s < 5) (z : dd_Z4 O p q r s) : dd_Z4 N p q r s := by
  have z1 : ∀ i, i < 4 → ∀ j, j < 4 → ∀ k, k < 4 → ∀ l, l < 4 → dd_d4 (N i) (O j) (O k) (O l) p q r s = 0 := fun i hi j hj k hk l hl => dd_st h (fun x => dd_d4 x (O j) (O k) (O l) p q r s) (dd_L41 _ _ _ hp hq hr hs) (fun i' hi' => z i' hi' j hj k hk l hl) i hi
  have z2 : ∀ i, i < 4 → ∀ j, j < 4 → ∀ k, k < 4 → ∀ l, l < 4 → dd_d4 (N i) (N j) (O k) (O l) p q r s = 0 := fun i hi j hj k hk l hl => dd_st h (fun x => dd_d4 (N i) x (O k) (O l) p q r s) (dd_L42 _ _ _ hp hq hr hs) (fun j' hj' => z1 i hi j' hj' k hk l hl) j hj
  have z3 : ∀ i, i < 4 → ∀ j, j < 4 → ∀ k, k < 4 → ∀ l, l < 4 → dd_d4 (N i) (N j) (N k) (O l) p q r s = 0 := fun i hi j hj k hk l hl => dd_st h (fun x => dd_d4 (N i) (N j) x (O l) p q r s) (dd_L43 _ _ _ hp hq hr hs) (fun k' hk' => z2 i hi j hj k' hk' l hl) k hk
  exact fun i hi j hj k hk l hl => dd_st h (fun x => dd_d4 (N i) (N j) (N k) x p q r s) (dd_L44 _ _ _ hp hq hr hs) (fun l' hl' => z3 i hi j hj k hk l' hl') l hl
/-- the same minors vanish -/
def dd_Q (M N : Nat → Nat → Int) : Prop := (∀ p, p < 5 → (dd_Z1 M p ↔ dd_Z1 N p)) ∧ (∀ p q, p < 5 → q < 5 → (dd_Z2 M p q ↔ dd_Z2 N p q)) ∧ (∀ p q r, p < 5 → q < 5 → r < 5 → (dd_Z3 M p q r ↔ dd_Z3 N p q r)) ∧ (∀ p q r s, p < 5 → q < 5 → r < 5 → s < 5 → (dd_Z4 M p q r s ↔ dd_Z4 N p q r s))
theorem dd_Qr (M : Nat → Nat → Int) : dd_Q M M := ⟨fun _ _ => Iff.rfl, fun _ _ _ _ => Iff.rfl, fun _ _ _ _ _ _ => Iff.rfl, fun _ _ _ _ _ _ _ _ => Iff.rfl⟩
theorem dd_Qt {M N P : Nat → Nat → Int} (h : dd_Q M N) (g : dd_Q N P) : dd_Q M P := ⟨fun p a => (h.1 p a).trans (g.1 p a), fun p q a b => (h.2.1 p q a b).trans (g.2.1 p q a b), fun p q r a b c => (h.2.2.1 p q r a b c).trans (g.2.2.1 p q r a b c), fun p q r s a b c d => (h.2.2.2 p q r s a b c d).trans (g.2.2.2 p q r s a b c d)⟩
theorem dd_QR {M N : Nat → Nat → Int} (h : dd_R M N) (g : dd_R N M) : dd_Q M N := ⟨fun _ a => ⟨dd_t1 h a, dd_t1 g a⟩, fun _ _ a b => ⟨dd_t2 h a b, dd_t2 g a b⟩, fun _ _ _ a b c => ⟨dd_t3 h a b c, dd_t3 g a b c⟩, fun _ _ _ _ a b c d => ⟨dd_t4 h a b c d, dd_t4 g a b c d⟩⟩
end
section
/-! the reduced form: its pivots, and which minors vanish -/
def dd_E (B : Nat → Nat → Int) (f c : Nat) : Prop := ∃ pv : Nat → Nat, (∀ q, q < f → pv q < c ∧ B q (pv q) ≠ 0) ∧ (∀ q q', q < q' → q' < f → pv q < pv q') ∧ (∀ q', q' < 4 → ∀ q, q < f → q < q' → B q' (pv q) = 0) ∧ (∀ q, f ≤ q → q < 4 → ∀ c', c' < c → B q c' = 0)
theorem dd_E0 (B : Nat → Nat → Int) : dd_E B 0 0 := ⟨fun _ => 0, fun q h => absurd h (by omega), fun q q' _ h => absurd h (by omega), fun q' _ q h => absurd h (by omega), fun q _ _ c' h => absurd h (by omega)⟩
theorem dd_En {B : Nat → Nat → Int} {f c : Nat} (h : dd_E B f c) (z : ∀ q, f ≤ q → q < 4 → B q c = 0) : dd_E B f (c + 1) := by
  obtain ⟨pv, h1, h2, h3, h4⟩ := h
  refine ⟨pv, fun q hq => ⟨by have := (h1 q hq).1; omega, (h1 q hq).2⟩, h2, h3, fun q hq hq4 c' hc' => ?_⟩
  by_cases e : c' = c
  · rw [e]; exact z q hq hq4
  · exact h4 q hq hq4 c' (by omega)
/-- rows f and p exchanged -/
theorem dd_Esw {B S : Nat → Nat → Int} {f c p : Nat} (hc : c < 5) (hf : f ≤ p) (hp : p < 4) (h : dd_E B f c)
    (s1 : ∀ i, i < 4 → i ≠ f → i ≠ p → ∀ j, j < 5 → S i j = B i j) (s2 : ∀ j, j < 5 → S f j = B p j) (s3 : ∀ j, j < 5 → S p j = B f j) : dd_E S f c ∧ dd_Q B S := by
  constructor
  · obtain ⟨pv, h1, h2, h3, h4⟩ := h
    refine ⟨pv, fun q hq => ⟨(h1 q hq).1, ?_⟩, h2, fun q' hq' q hq hqq => ?_, fun q hq hq4 c' hc' => ?_⟩
    · rw [s1 q (by omega) (by omega) (by omega) _ (by have := (h1 q hq).1; omega)]; exact (h1 q hq).2
    · have hv := (h1 q hq).1
      by_cases e1 : q' = f
      · rw [e1, s2 _ (by omega)]; exact h3 p hp q hq (by omega)
      · by_cases e2 : q' = p
        · rw [e2, s3 _ (by omega)]; exact h3 f (by omega) q hq (by omega)
        · rw [s1 q' hq' e1 e2 _ (by omega)]; exact h3 q' hq' q hq hqq
    · by_cases e1 : q = f
      · rw [e1, s2 _ (by omega)]; exact h4 p hf hp c' hc'
      · by_cases e2 : q = p
        · rw [e2, s3 _ (by omega)]; exact h4 f (by omega) (by omega) c' hc'
        · rw [s1 q hq4 e1 e2 _ (by omega)]; exact h4 q hq hq4 c' hc'
  · apply dd_QR
    · intro i hi
      by_cases e1 : i = f
      · exact ⟨1, 1, 0, p, 0, by decide, hp, by omega, fun j hj => by rw [e1, s2 j hj]; grind⟩
      · by_cases e2 : i = p
        · exact ⟨1, 1, 0, f, 0, by decide, by omega, by omega, fun j hj => by rw [e2, s3 j hj]; grind⟩
        · exact ⟨1, 1, 0, i, 0, by decide, hi, by omega, fun j hj => by rw [s1 i hi e1 e2 j hj]; grind⟩
    · intro i hi
      by_cases e1 : i = f
      · exact ⟨1, 1, 0, p, 0, by decide, hp, by omega, fun j hj => by rw [e1, s3 j hj]; grind⟩
      · by_cases e2 : i = p
        · exact ⟨1, 1, 0, f, 0, by decide, by omega, by omega, fun j hj => by rw [e2, s2 j hj]; grind⟩
        · exact ⟨1, 1, 0, i, 0, by decide, hi, by omega, fun j hj => by rw [s1 i hi e1 e2 j hj]; grind⟩
/-- the column cleared below row f -/
theorem dd_Ecl {S N : Nat → Nat → Int} {f c : Nat} (hc : c < 5) (hf : f < 4) (h : dd_E S f c) (hp : S f c ≠ 0)
    (n1 : ∀ i, i ≤ f → ∀ j, j < 5 → N i j = S i j) (n2 : ∀ i, f < i → i < 4 → ∀ j, j < 5 → N i j = S f c * S i j - S i c * S f j) : dd_E N (f + 1) (c + 1) ∧ dd_Q S N := by
  constructor
  · obtain ⟨pv, h1, h2, h3, h4⟩ := h
    refine ⟨fun q => if q = f then c else pv q, fun q hq => ?_, fun q q' hqq hq' => ?_, fun q' hq' q hq hqq => ?_, fun q hq hq4 c' hc' => ?_⟩
    · by_cases e : q = f
      · simp only [e, if_true]
        exact ⟨by omega, by rw [n1 f (by omega) c hc]; exact hp⟩
      · simp only [e, if_false]
        have := h1 q (by omega)
        exact ⟨by omega, by rw [n1 q (by omega) _ (by omega)]; exact this.2⟩
    · have e : q ≠ f := by omega
      simp only [e, if_false]
      by_cases e' : q' = f
      · simp only [e', if_true]
        exact (h1 q (by omega)).1
      · simp only [e', if_false]
        exact h2 q q' hqq (by omega)
    · by_cases e : q = f
      · simp only [e, if_true]
        rw [n2 q' (by omega) hq' c hc]
        grind
      · simp only [e, if_false]
        have hv := (h1 q (by omega)).1
        by_cases e' : q' ≤ f
        · rw [n1 q' e' _ (by omega)]; exact h3 q' hq' q (by omega) hqq
        · rw [n2 q' (by omega) hq' _ (by omega), h3 q' hq' q (by omega) hqq, h3 f hf q (by omega) (by omega)]
          simp
    · rw [n2 q (by omega) hq4 _ (by omega)]
      by_cases e : c' = c
      · rw [e]; grind
      · rw [h4 q (by omega) hq4 c' (by omega), h4 f (by omega) hf c' (by omega)]
        simp
  · apply dd_QR
    · intro i hi
      by_cases e : i ≤ f
      · exact ⟨1, 1, 0, i, 0, by decide, hi, by omega, fun j hj => by rw [n1 i e j hj]; grind⟩
      · exact ⟨1, S f c, - S i c, i, f, by decide, hi, hf, fun j hj => by rw [n2 i (by omega) hi j hj]; grind⟩
    · intro i hi
      by_cases e : i ≤ f
      · exact ⟨1, 1, 0, i, 0, by decide, hi, by omega, fun j hj => by rw [n1 i e j hj]; grind⟩
      · exact ⟨S f c, 1, S i c, i, f, hp, hi, hf, fun j hj => by rw [n2 i (by omega) hi j hj, n1 f (by omega) j hj]; grind⟩
/-- f is the rank of the first w columns: larger minors vanish, and some minor of size f, its columns in their order, doesn't -/
def dd_U (M : Nat → Nat → Int) (w f : Nat) : Prop := (f < 1 → ∀ p, p < w → dd_Z1 M p) ∧ (f < 2 → ∀ p q, p < w → q < w → dd_Z2 M p q) ∧ (f < 3 → ∀ p q r, p < w → q < w → r < w → dd_Z3 M p q r) ∧ (f < 4 → ∀ p q r s, p < w → q < w → r < w → s < w → dd_Z4 M p q r s)
def dd_V (M : Nat → Nat → Int) (w f : Nat) : Prop := f = 0 ∨ (f = 1 ∧ ∃ p, p < w ∧ ¬ dd_Z1 M p) ∨ (f = 2 ∧ ∃ p q, p < q ∧ q < w ∧ ¬ dd_Z2 M p q) ∨ (f = 3 ∧ ∃ p q r, p < q ∧ q < r ∧ r < w ∧ ¬ dd_Z3 M p q r) ∨ (f = 4 ∧ ∃ p q r s, p < q ∧ q < r ∧ r < s ∧ s < w ∧ ¬ dd_Z4 M p q r s)
theorem dd_UQ {M N : Nat → Nat → Int} {w f : Nat} (hw : w ≤ 5) (g : dd_Q M N) (h : dd_U N w f) : dd_U M w f :=
  ⟨fun hf p a => (g.1 p (by omega)).mpr (h.1 hf p a), fun hf p q a b => (g.2.1 p q (by omega) (by omega)).mpr (h.2.1 hf p q a b), fun hf p q r a b c => (g.2.2.1 p q r (by omega) (by omega) (by omega)).mpr (h.2.2.1 hf p q r a b c), fun hf p q r s a b c d => (g.2.2.2 p q r s (by omega) (by omega) (by omega) (by omega)).mpr (h.2.2.2 hf p q r s a b c d)⟩
theorem dd_VQ {M N : Nat → Nat → Int} {w f : Nat} (hw : w ≤ 5) (g : dd_Q M N) (h : dd_V N w f) : dd_V M w f := by
  rcases h with h | ⟨h, p, a, z⟩ | ⟨h, p, q, a, b, z⟩ | ⟨h, p, q, r, a, b, c, z⟩ | ⟨h, p, q, r, s, a, b, c, d, z⟩
  · exact Or.inl h
  · exact Or.inr (Or.inl ⟨h, p, a, fun y => z ((g.1 p (by omega)).mp y)⟩)
  · exact Or.inr (Or.inr (Or.inl ⟨h, p, q, a, b, fun y => z ((g.2.1 p q (by omega) (by omega)).mp y)⟩))
  · exact Or.inr (Or.inr (Or.inr (Or.inl ⟨h, p, q, r, a, b, c, fun y => z ((g.2.2.1 p q r (by omega) (by omega) (by omega)).mp y)⟩)))
  · exact Or.inr (Or.inr (Or.inr (Or.inr ⟨h, p, q, r, s, a, b, c, d, fun y => z ((g.2.2.2 p q r s (by omega) (by omega) (by omega) (by omega)).mp y)⟩)))
theorem dd_EU {B : Nat → Nat → Int} {w f c : Nat} (h : dd_E B f c) (e : c = w ∨ f = 4) : dd_U B w f := by
  obtain ⟨pv, h1, h2, h3, h4⟩ := h
  have z : f < 4 → ∀ q, f ≤ q → q < 4 → ∀ c', c' < w → B q c' = 0 := by
    intro hf q hq hq4 c' hc'
    exact h4 q hq hq4 c' (by omega)
  refine ⟨fun hf p hp i hi => z (by omega) i (by omega) hi p hp, fun hf p q hp hq i hi j hj => ?_, fun hf p q r hp hq hr i hi j hj k hk => ?_, fun hf p q r s hp hq hr hs i hi j hj k hk l hl => ?_⟩
  · have z := z (by omega)
    simp only [dd_d2]
    by_cases e1 : f ≤ i
    · rw [z i e1 hi p hp, z i e1 hi q hq]; simp
    · by_cases e2 : f ≤ j
      · rw [z j e2 hj p hp, z j e2 hj q hq]; simp
      · rw [show j = i from by omega]; grind
  · have z := z (by omega)
    simp only [dd_d3, dd_d2]
    by_cases e1 : f ≤ i
    · rw [z i e1 hi p hp, z i e1 hi q hq, z i e1 hi r hr]; simp
    · by_cases e2 : f ≤ j
      · rw [z j e2 hj p hp, z j e2 hj q hq, z j e2 hj r hr]; simp
      · by_cases e3 : f ≤ k
        · rw [z k e3 hk p hp, z k e3 hk q hq, z k e3 hk r hr]; simp
        · rcases (by omega : j = i ∨ k = i ∨ k = j) with y | y | y <;> rw [y] <;> grind
  · have z := z (by omega)
    simp only [dd_d4, dd_d3, dd_d2]
    by_cases e1 : f ≤ i
    · rw [z i e1 hi p hp, z i e1 hi q hq, z i e1 hi r hr, z i e1 hi s hs]; simp
    · by_cases e2 : f ≤ j
      · rw [z j e2 hj p hp, z j e2 hj q hq, z j e2 hj r hr, z j e2 hj s hs]; simp
      · by_cases e3 : f ≤ k
        · rw [z k e3 hk p hp, z k e3 hk q hq, z k e3 hk r hr, z k e3 hk s hs]; simp
        · by_cases e4 : f ≤ l
          · rw [z l e4 hl p hp, z l e4 hl q hq, z l e4 hl r hr, z l e4 hl s hs]; simp
          · rcases (by omega : j = i ∨ k = i ∨ k = j ∨ l = i ∨ l = j ∨ l = k) with y | y | y | y | y | y <;> rw [y] <;> grind
theorem dd_EV {B : Nat → Nat → Int} {w f c : Nat} (h : dd_E B f c) (hf : f ≤ 4) (hc : c ≤ w) : dd_V B w f := by
  obtain ⟨pv, h1, h2, h3, h4⟩ := h
  have n2 : 2 ≤ f → dd_d2 (B 0) (B 1) (pv 0) (pv 1) ≠ 0 := by
    intro h
    simp only [dd_d2]
    rw [h3 1 (by omega) 0 (by omega) (by omega), Int.zero_mul, Int.sub_zero]
    exact Int.mul_ne_zero (h1 1 (by omega)).2 (h1 0 (by omega)).2
  have n3 : 3 ≤ f → dd_d3 (B 0) (B 1) (B 2) (pv 0) (pv 1) (pv 2) ≠ 0 := by
    intro h
    simp only [dd_d3]
    rw [h3 2 (by omega) 0 (by omega) (by omega), h3 2 (by omega) 1 (by omega) (by omega), Int.zero_mul, Int.zero_mul, Int.sub_zero, Int.add_zero]
    exact Int.mul_ne_zero (h1 2 (by omega)).2 (n2 (by omega))
  have n4 : 4 ≤ f → dd_d4 (B 0) (B 1) (B 2) (B 3) (pv 0) (pv 1) (pv 2) (pv 3) ≠ 0 := by
    intro h
    simp only [dd_d4]
    rw [h3 3 (by omega) 0 (by omega) (by omega), h3 3 (by omega) 1 (by omega) (by omega), h3 3 (by omega) 2 (by omega) (by omega), Int.zero_mul, Int.zero_mul, Int.zero_mul, Int.sub_zero, Int.add_zero, Int.sub_zero]
    exact Int.mul_ne_zero (h1 3 (by omega)).2 (n3 (by omega))
  rcases (by omega : f = 0 ∨ f = 1 ∨ f = 2 ∨ f = 3 ∨ f = 4) with e | e | e | e | e
  · exact Or.inl e
  · exact Or.inr (Or.inl ⟨e, pv 0, by have := (h1 0 (by omega)).1; omega, fun y => (h1 0 (by omega)).2 (y 0 (by omega))⟩)
  · exact Or.inr (Or.inr (Or.inl ⟨e, pv 0, pv 1, h2 0 1 (by omega) (by omega), by have := (h1 1 (by omega)).1; omega, fun y => n2 (by omega) (y 0 (by omega) 1 (by omega))⟩))
  · exact Or.inr (Or.inr (Or.inr (Or.inl ⟨e, pv 0, pv 1, pv 2, h2 0 1 (by omega) (by omega), h2 1 2 (by omega) (by omega), by have := (h1 2 (by omega)).1; omega, fun y => n3 (by omega) (y 0 (by omega) 1 (by omega) 2 (by omega))⟩)))
  · exact Or.inr (Or.inr (Or.inr (Or.inr ⟨e, pv 0, pv 1, pv 2, pv 3, h2 0 1 (by omega) (by omega), h2 1 2 (by omega) (by omega), h2 2 3 (by omega) (by omega), by have := (h1 3 (by omega)).1; omega, fun y => n4 (by omega) (y 0 (by omega) 1 (by omega) 2 (by omega) 3 (by omega))⟩)))
/-! rows in their order -/
theorem dd_s2 {P : Nat → Nat → Prop} (sw : ∀ i j, P i j → P j i) (eq : ∀ i, P i i) (lt : ∀ i j, i < j → j < 4 → P i j) : ∀ i, i < 4 → ∀ j, j < 4 → P i j := by
  intro i hi j hj
  rcases Nat.lt_trichotomy i j with h | h | h
  · exact lt i j h hj
  · rw [h]; exact eq j
  · exact sw _ _ (lt j i h hi)
theorem dd_s3 {P : Nat → Nat → Nat → Prop} (sw1 : ∀ i j k, P i j k → P j i k) (sw2 : ∀ i j k, P i j k → P i k j) (e1 : ∀ i k, P i i k) (e2 : ∀ i j, P i j j) (lt : ∀ i j k, i < j → j < k → k < 4 → P i j k) : ∀ i, i < 4 → ∀ j, j < 4 → ∀ k, k < 4 → P i j k := by
  have A : ∀ j k, j < k → k < 4 → ∀ i, i < 4 → P i j k := by
    intro j k hjk hk i hi
    rcases Nat.lt_trichotomy i j with h | h | h
    · exact lt i j k h hjk hk
    · rw [h]; exact e1 j k
    · apply sw1
      rcases Nat.lt_trichotomy i k with h' | h' | h'
      · exact lt j i k h h' hk
      · rw [h']; exact e2 j k
      · exact sw2 _ _ _ (lt j k i hjk h' hi)
  intro i hi j hj k hk
  rcases Nat.lt_trichotomy j k with h | h | h
  · exact A j k h hk i hi
  · rw [h]; exact e2 i k
  · exact sw2 _ _ _ (A k j h hj i hi)
theorem dd_s4 {P : Nat → Nat → Nat → Nat → Prop} (sw1 : ∀ i j k l, P i j k l → P j i k l) (sw2 : ∀ i j k l, P i j k l → P i k j l) (sw3 : ∀ i j k l, P i j k l → P i j l k) (e1 : ∀ i k l, P i i k l) (e2 : ∀ i j l, P i j j l) (e3 : ∀ i j k, P i j k k) (lt : ∀ i j k l, i < j → j < k → k < l → l < 4 → P i j k l) : ∀ i, i < 4 → ∀ j, j < 4 → ∀ k, k < 4 → ∀ l, l < 4 → P i j k l := by
  have A : ∀ j k l, j < k → k < l → l < 4 → ∀ i, i < 4 → P i j k l := by
    intro j k l hjk hkl hl i hi
    rcases Nat.lt_trichotomy i j with h | h | h
    · exact lt i j k l h hjk hkl hl
    · rw [h]; exact e1 j k l
    · apply sw1
      rcases Nat.lt_trichotomy i k with h' | h' | h'
      · exact lt j i k l h h' hkl hl
      · rw [h']; exact e2 j k l
      · apply sw2
        rcases Nat.lt_trichotomy i l with h'' | h'' | h''
        · exact lt j k i l hjk h' h'' hl
        · rw [h'']; exact e3 j k l
        · exact sw3 _ _ _ _ (lt j k l i hjk hkl h'' hi)
  have C : ∀ k l, k < l → l < 4 → ∀ i, i < 4 → ∀ j, j < 4 → P i j k l := by
    intro k l hkl hl i hi j hj
    rcases Nat.lt_trichotomy j k with h | h | h
    · exact A j k l h hkl hl i hi
    · rw [h]; exact e2 i k l
    · apply sw2
      rcases Nat.lt_trichotomy j l with h' | h' | h'
      · exact A k j l h h' hl i hi
      · rw [h']; exact e3 i k l
      · exact sw3 _ _ _ _ (A k l j hkl h' hj i hi)
  intro i hi j hj k hk l hl
  rcases Nat.lt_trichotomy k l with h | h | h
  · exact C k l h hl i hi j hj
  · rw [h]; exact e3 i j l
  · exact sw3 _ _ _ _ (C l k h hk i hi j hj)
theorem dd_o2 {M : Nat → Nat → Int} {p q : Nat} (h : ¬ dd_Z2 M p q) : ∃ i j, i < j ∧ j < 4 ∧ dd_d2 (M i) (M j) p q ≠ 0 := by
  apply Classical.byContradiction
  intro c
  apply h
  refine dd_s2 (P := fun i j => dd_d2 (M i) (M j) p q = 0) ?_ ?_ ?_
  · intro i j; simp only [dd_d2]; grind
  · intro i; simp only [dd_d2]; grind
  · intro i j a b; exact Classical.byContradiction fun z => c ⟨i, j, a, b, z⟩
theorem dd_o3 {M : Nat → Nat → Int} {p q r : Nat} (h : ¬ dd_Z3 M p q r) : ∃ i j k, i < j ∧ j < k ∧ k < 4 ∧ dd_d3 (M i) (M j) (M k) p q r ≠ 0 := by
  apply Classical.byContradiction
  intro c
  apply h
  refine dd_s3 (P := fun i j k => dd_d3 (M i) (M j) (M k) p q r = 0) ?_ ?_ ?_ ?_ ?_
  · intro i j k; simp only [dd_d3, dd_d2]; grind
  · intro i j k; simp only [dd_d3, dd_d2]; grind
  · intro i k; simp only [dd_d3, dd_d2]; grind
  · intro i k; simp only [dd_d3, dd_d2]; grind
  · intro i j k a b d; exact Classical.byContradiction fun z => c ⟨i, j, k, a, b, d, z⟩
theorem dd_o4 {M : Nat → Nat → Int} {p q r s : Nat} (h : ¬ dd_Z4 M p q r s) : ∃ i j k l, i < j ∧ j < k ∧ k < l ∧ l < 4 ∧ dd_d4 (M i) (M j) (M k) (M l) p q r s ≠ 0 := by
  apply Classical.byContradiction
  intro c
  apply h
  refine dd_s4 (P := fun i j k l => dd_d4 (M i) (M j) (M k) (M l) p q r s = 0) ?_ ?_ ?_ ?_ ?_ ?_ ?_
  · intro i j k l; simp only [dd_d4, dd_d3, dd_d2]; grind
  · intro i j k l; simp only [dd_d4, dd_d3, dd_d2]; grind
  · intro i j k l; simp only [dd_d4, dd_d3, dd_d2]; grind
  · intro i j k; simp only [dd_d4, dd_d3, dd_d2]; grind
  · intro i j k; simp only [dd_d4, dd_d3, dd_d2]; grind
  · intro i j k; simp only [dd_d4, dd_d3, dd_d2]; grind
  · intro i j k l a b d e; exact Classical.byContradiction fun z => c ⟨i, j, k, l, a, b, d, e, z⟩
end
section
/-! the reference's table of minors -/
def dd_pq (m : Nat) : Nat → Nat
  | 0 => 0
  | j + 1 => dd_pq m j + m / 2 ^ j % 2
def dd_pc (m : Nat) : Nat := dd_pq m 5
def dd_A (a : Nat → Int32) (i j : Nat) : Int := (a (5 * i + j)).toInt
def dd_tm (A : Nat → Nat → Int) (f : Nat → Int) (i m j : Nat) : Int := if m / 2 ^ j % 2 = 1 then (if dd_pc (m / 2 ^ (j + 1)) % 2 = 0 then A i j * f (m - 2 ^ j) else - (A i j * f (m - 2 ^ j))) else 0
def dd_es (A : Nat → Nat → Int) (f : Nat → Int) (i m : Nat) : Nat → Int
  | 0 => 0
  | j + 1 => dd_es A f i m j + dd_tm A f i m j
def dd_mn (A : Nat → Nat → Int) : List Nat → Nat → Int
  | [], _ => 1
  | i :: L, m => dd_es A (dd_mn A L) i m 5
def dd_rl (rows : Nat) : Nat → List Nat
  | 0 => []
  | n + 1 => if rows / 2 ^ n % 2 = 1 then n :: dd_rl rows n else dd_rl rows n
theorem dd_F1 : ∀ m, m < 32 → ∀ j, j < 5 → ((nI m >>> (nI j &&& 31)) &&& 1) = nI (m / 2 ^ j % 2) := by decide +kernel
theorem dd_F2 : ∀ m, m < 32 → ∀ j, j < 5 → m / 2 ^ j % 2 = 1 → (nI m &&& (((1 : Int32) <<< (nI j &&& 31)) ^^^ (-1))) = nI (m - 2 ^ j) := by decide +kernel
theorem dd_F3 : ∀ m, m < 32 → ∀ j, j < 5 → (nI m >>> ((nI j + 1) &&& 31)) = nI (m / 2 ^ (j + 1)) := by decide +kernel
theorem dd_F4 : ∀ m, m < 32 → (nI m - nI m / 2 * 2 = 0 ↔ m % 2 = 0) := by decide +kernel
theorem dd_F5 : ∀ m, m < 32 → dd_pc m < 6 := by decide +kernel
theorem dd_F6 : ∀ m, m < 32 → ∀ j, j < 5 → m / 2 ^ j % 2 = 1 → dd_pc (m - 2 ^ j) + 1 = dd_pc m := by decide +kernel
theorem dd_F7 : ∀ m, m < 32 → dd_pc m = 0 → m = 0 := by decide +kernel
theorem dd_ones (post : Int32 → Prop) (a p : Nat → Int32) (t : Nat → Int64) (x : Int32) (m : Nat) (hm : m < 32) (hx : x = nI m) (h : post (nI (dd_pc m))) : wpY_ones post (a, p, t) x := by
  subst hx
  refine pk_loop (σ := Nat) (fun n i s => wY_ones_4 post (nI m) a p t n (nI s) (nI i)) (fun i s => s = dd_pq m i) 5 0 0 (by omega) rfl ?_ ?_
  · intro n s hs
    subst hs
    exact br_t (show (5 : Int32) ≤ nI 5 from by decide) h
  · intro n i s hi hs k
    subst hs
    exact br_f (nI_ge (b := 5) hi (by decide)) (nm_r (e' := nI (dd_pq m i + m / 2 ^ i % 2)) (by rw [dd_F1 m hm i hi, nI_add]) (nm_r (nI_1 i) (k _ rfl)))
theorem dd_expand (post : Int64 → Prop) (a p : Nat → Int32) (t : Nat → Int64) (i m : Nat) (hi : i < 4) (hm : m < 32) (f : Nat → Int) (ht : ∀ j, j < 5 → m / 2 ^ j % 2 = 1 → t (m - 2 ^ j) = Int64.ofInt (f (m - 2 ^ j))) (h : post (Int64.ofInt (dd_es (dd_A a) f i m 5))) : wpY_expand post (a, p, t) (nI i) (nI m) := by
  refine pk_loop (σ := Int64) (fun n j s => wY_expand_5 post (nI i) (nI m) a p t n s (nI j)) (fun j s => s = Int64.ofInt (dd_es (dd_A a) f i m j)) 5 0 0 (by omega) rfl ?_ ?_
  · intro n s hs
    subst hs
    exact br_t (show (5 : Int32) ≤ nI 5 from by decide) h
  · intro n j s hj hs k
    subst hs
    have e5 := nI_ge (b := 5) hj (by decide)
    by_cases hb : m / 2 ^ j % 2 = 1
    · have h1 := dd_ix (5 * nI i + nI j) (5 * i + j) 20 (dd_5i i j) (by omega) (by decide)
      have h2 := dd_ix (nI m &&& (((1 : Int32) <<< (nI j &&& 31)) ^^^ (-1))) (m - 2 ^ j) 32 (dd_F2 m hm j hj hb) (Nat.lt_of_le_of_lt (Nat.sub_le _ _) hm) (by decide)
      refine br_f e5 (br_t (by rw [dd_F1 m hm j hj, hb]; rfl) ⟨h1.1, h2.1, nm_r (e' := Int64.ofInt (dd_A a i j * f (m - 2 ^ j))) (by rw [h1.2, h2.2, ht j hj hb, Int64.ofInt_mul]; rfl) ?_⟩)
      have hc : m / 2 ^ (j + 1) < 32 := Nat.lt_of_le_of_lt (Nat.div_le_self _ _) hm
      refine dd_ones _ a p t _ (m / 2 ^ (j + 1)) hc (dd_F3 m hm j hj) ⟨by decide, ?_⟩
      have h5 := dd_F5 _ hc
      by_cases hz : dd_pc (m / 2 ^ (j + 1)) % 2 = 0
      · refine br_t ((dd_F4 _ (by omega)).mpr hz) (nm_r (e' := Int64.ofInt (dd_es (dd_A a) f i m (j + 1))) ?_ (nm_r (nI_1 j) (k _ rfl)))
        simp only [dd_es, dd_tm, if_pos hb, if_pos hz, Int64.ofInt_add]
      · refine br_f (fun y => hz ((dd_F4 _ (by omega)).mp y)) (nm_r (e' := Int64.ofInt (dd_es (dd_A a) f i m (j + 1))) ?_ (nm_r (nI_1 j) (k _ rfl)))
        simp only [dd_es, dd_tm, if_pos hb, if_neg hz, Int64.ofInt_add, Int64.ofInt_neg, Int64.sub_eq_add_neg]
    · refine br_f e5 (br_f (fun y => hb ?_) (nm_r (nI_1 j) (k _ ?_)))
      · rw [dd_F1 m hm j hj] at y
        have : m / 2 ^ j % 2 < 2 := Nat.mod_lt _ (by decide)
        exact (nI_eq (by omega) (by decide)).mp (y : _ = nI 1)
      · simp only [dd_es, dd_tm, if_neg hb, Int.add_zero]
def dd_T (a : Nat → Int32) (L : List Nat) (t : Nat → Int64) : Prop := ∀ m, m < 32 → dd_pc m = L.length → t m = Int64.ofInt (dd_mn (dd_A a) L m)
theorem dd_p34 (post : Int64 → SY → Prop) (J : Int32 → Int32 → (Nat → Int32) → (Nat → Int32) → (Nat → Int64) → Prop) (x1 x2 : Int32) (a p : Nat → Int32) (t : Nat → Int64) (L : List Nat) (i : Nat) (hi : i < 4) (hL : L.length < 4) (ht : dd_T a L t)
    (h : ∀ t', dd_T a (i :: L) t' → J (nI (L.length + 1)) (nI (i + 1)) a p t') : ∃ n, wY_part_34 post J x1 x2 (nI (L.length + 1)) (nI i) n 1 a p t := by
  refine pk_loop (σ := Nat → Int64) (fun n s t' => wY_part_34 post J x1 x2 (nI (L.length + 1)) (nI i) n (nI s) a p t') (fun s t' => (∀ m, m < s → 1 ≤ m → dd_pc m = L.length + 1 → t' m = Int64.ofInt (dd_mn (dd_A a) (i :: L) m)) ∧ (∀ m, m < 32 → dd_pc m ≠ L.length + 1 → t' m = t m) ∧ 1 ≤ s) 32 1 t (by omega) ⟨fun m h1 h2 => by omega, fun m _ _ => rfl, by omega⟩ ?_ ?_
  · intro n t' ⟨g1, g2, _⟩
    refine br_t (show (32 : Int32) ≤ nI 32 from by decide) (nm_r (nI_1 i) (h t' (fun m hm hp => g1 m hm ?_ hp)))
    · cases m with
      | zero => exact absurd hp (by show (0 : Nat) ≠ _; simp)
      | succ m => omega
  · intro n s t' hs ⟨g1, g2, g3⟩ k
    refine br_f (nI_ge (b := 32) hs (by decide)) (dd_ones _ a p t' _ s hs rfl ?_)
    have h5 := dd_F5 s hs
    by_cases hp : dd_pc s = L.length + 1
    · refine br_t (by rw [hp]) (dd_expand _ a p t' i s hi hs (dd_mn (dd_A a) L) (fun j hj hb => ?_) ⟨vp_in_nI hs (by decide), nm_e (nm_r (nI_1 s) (k _ ⟨?_, ?_, by omega⟩))⟩)
      · have h6 := dd_F6 s hs j hj hb
        have h7 : s - 2 ^ j < 32 := Nat.lt_of_le_of_lt (Nat.sub_le _ _) hs
        rw [g2 _ h7 (by omega)]
        exact ht _ h7 (by omega)
      · intro m hm h1 hq
        rw [nI_clamp (by omega)]
        by_cases e : m = s
        · rw [e, pk_uLs]; rfl
        · rw [pk_uLn e]; exact g1 m (by omega) h1 hq
      · intro m hm hq
        rw [nI_clamp (by omega), pk_uLn (by intro e; rw [e] at hq; exact hq hp)]
        exact g2 m hm hq
    · refine br_f (fun y => hp ((nI_eq (by omega) (by omega)).mp y)) ⟨vp_in_nI hs (by decide), vp_in_nI hs (by decide), nm_e (nm_r (nI_1 s) (k _ ⟨?_, ?_, by omega⟩))⟩
      · intro m hm h1 hq
        rw [nI_clamp (by omega)]
        by_cases e : m = s
        · exact absurd (e ▸ hq) hp
        · rw [pk_uLn e]; exact g1 m (by omega) h1 hq
      · intro m hm hq
        rw [nI_clamp (by omega)]
        by_cases e : m = s
        · rw [e, pk_uLs]; exact g2 s hs hp
        · rw [pk_uLn e]; exact g2 m hm hq
theorem dd_rlL (rows : Nat) : ∀ n, (dd_rl rows n).length ≤ n
  | 0 => Nat.le_refl 0
  | n + 1 => by
    have := dd_rlL rows n
    simp only [dd_rl]
    split
    · simp only [List.length_cons]; omega
    · omega
theorem dd_p12 (post : Int64 → SY → Prop) (a p : Nat → Int32) (rows cols : Nat) (hr : rows < 16) (hc : cols < 32) (hp : dd_pc cols = (dd_rl rows 4).length) (h : ∀ t', post (Int64.ofInt (dd_mn (dd_A a) (dd_rl rows 4) cols)) (a, p, t')) :
    ∀ d i t, i + d = 4 → dd_T a (dd_rl rows i) t → wY_part_12 post (nI rows) (nI cols) (d + 1) (nI (dd_rl rows i).length) (nI i) a p t := by
  intro d
  induction d with
  | zero =>
    intro i t hi ht
    obtain rfl : i = 4 := by omega
    refine br_t (show (4 : Int32) ≤ nI 4 from by decide) ?_
    have hl := dd_rlL rows 4
    by_cases e : (dd_rl rows 4).length = 0
    · refine br_t (by rw [e]; rfl) ?_
      have e2 : dd_rl rows 4 = [] := List.eq_nil_of_length_eq_zero e
      have := h t
      rw [e2] at this
      exact this
    · refine br_f (nI_ne0 (by omega) (by omega)) ⟨vp_in_nI hc (by decide), ?_⟩
      rw [nI_clamp (by omega), ht cols hc hp]
      exact h t
  | succ d ih =>
    intro i t hi ht
    have hl := dd_rlL rows i
    refine br_f (nI_ge (b := 4) (by omega) (by decide)) ?_
    by_cases hb : rows / 2 ^ i % 2 = 1
    · have e : dd_rl rows (i + 1) = i :: dd_rl rows i := by simp only [dd_rl, if_pos hb]
      refine br_t (by rw [dd_F1 rows (by omega) i (by omega), hb]; rfl) (nm_r (nI_1 _) (dd_p34 post _ _ _ a p t (dd_rl rows i) i (by omega) (by omega) ht (fun t' ht' => ?_)))
      have := ih (i + 1) t' (by omega) (by rw [e]; exact ht')
      rw [e] at this
      exact this
    · have e : dd_rl rows (i + 1) = dd_rl rows i := by simp only [dd_rl, if_neg hb]
      refine br_f (fun y => hb ?_) (nm_r (nI_1 i) ?_)
      · rw [dd_F1 rows (by omega) i (by omega)] at y
        have : rows / 2 ^ i % 2 < 2 := Nat.mod_lt _ (by decide)
        exact (nI_eq (by omega) (by decide)).mp (y : _ = nI 1)
      · have := ih (i + 1) t (by omega) (by rw [e]; exact ht)
        rw [e] at this
        exact this
theorem dd_part (post : Int64 → SY → Prop) (a p : Nat → Int32) (t : Nat → Int64) (x y : Int32) (rows cols : Nat) (hx : x = nI rows) (hy : y = nI cols) (hr : rows < 16) (hc : cols < 32) (hp : dd_pc cols = (dd_rl rows 4).length) (h : ∀ t', post (Int64.ofInt (dd_mn (dd_A a) (dd_rl rows 4) cols)) (a, p, t')) : wpY_part post (a, p, t) x y := by
  subst hx hy
  refine nm_e ⟨5, dd_p12 post a p rows cols hr hc hp h 4 0 _ (by omega) ?_⟩
  intro m hm h0
  rw [dd_F7 m hm h0, pk_uLs]
  rfl
end
section
/-! the table's minors are the minors; the reference's rank -/
theorem dd_m1 (A : Nat → Nat → Int) (i : Nat) : ∀ p, p < 5 → dd_mn A [i] (2 ^ p) = A i p := by
  intro p hp
  rcases (by omega : p = 0 ∨ p = 1 ∨ p = 2 ∨ p = 3 ∨ p = 4) with rfl | rfl | rfl | rfl | rfl <;> simp [dd_mn, dd_es, dd_tm, dd_pc, dd_pq]
theorem dd_m2 (A : Nat → Nat → Int) (i j : Nat) : ∀ p q, p < q → q < 5 → dd_mn A [j, i] (2 ^ p + 2 ^ q) = dd_d2 (A i) (A j) p q := by
  intro p q h hq
  rcases (by omega : (p = 0 ∧ q = 1) ∨ (p = 0 ∧ q = 2) ∨ (p = 0 ∧ q = 3) ∨ (p = 0 ∧ q = 4) ∨ (p = 1 ∧ q = 2) ∨ (p = 1 ∧ q = 3) ∨ (p = 1 ∧ q = 4) ∨ (p = 2 ∧ q = 3) ∨ (p = 2 ∧ q = 4) ∨ (p = 3 ∧ q = 4)) with ⟨rfl, rfl⟩ | ⟨rfl, rfl⟩ | ⟨rfl, rfl⟩ | ⟨rfl, rfl⟩ | ⟨rfl, rfl⟩ | ⟨rfl, rfl⟩ | ⟨rfl, rfl⟩ | ⟨rfl, rfl⟩ | ⟨rfl, rfl⟩ | ⟨rfl, rfl⟩ <;> simp [dd_mn, dd_es, dd_tm, dd_pc, dd_pq, dd_d2] <;> grind
theorem dd_m3 (A : Nat → Nat → Int) (i j k : Nat) : ∀ p q r, p < q → q < r → r < 5 → dd_mn A [k, j, i] (2 ^ p + 2 ^ q + 2 ^ r) = dd_d3 (A i) (A j) (A k) p q r := by
  intro p q r h h' hq
  rcases (by omega : (p = 0 ∧ q = 1 ∧ r = 2) ∨ (p = 0 ∧ q = 1 ∧ r = 3) ∨ (p = 0 ∧ q = 1 ∧ r = 4) ∨ (p = 0 ∧ q = 2 ∧ r = 3) ∨ (p = 0 ∧ q = 2 ∧ r = 4) ∨ (p = 0 ∧ q = 3 ∧ r = 4) ∨ (p = 1 ∧ q = 2 ∧ r = 3) ∨ (p = 1 ∧ q = 2 ∧ r = 4) ∨ (p = 1 ∧ q = 3 ∧ r = 4) ∨ (p = 2 ∧ q = 3 ∧ r = 4)) with ⟨rfl, rfl, rfl⟩ | ⟨rfl, rfl, rfl⟩ | ⟨rfl, rfl, rfl⟩ | ⟨rfl, rfl, rfl⟩ | ⟨rfl, rfl, rfl⟩ | ⟨rfl, rfl, rfl⟩ | ⟨rfl, rfl, rfl⟩ | ⟨rfl, rfl, rfl⟩ | ⟨rfl, rfl, rfl⟩ | ⟨rfl, rfl, rfl⟩ <;> simp [dd_mn, dd_es, dd_tm, dd_pc, dd_pq, dd_d3, dd_d2] <;> grind
theorem dd_m4 (A : Nat → Nat → Int) (i j k l : Nat) : ∀ p q r s, p < q → q < r → r < s → s < 5 → dd_mn A [l, k, j, i] (2 ^ p + 2 ^ q + 2 ^ r + 2 ^ s) = dd_d4 (A i) (A j) (A k) (A l) p q r s := by
  intro p q r s h h' h'' hq
  rcases (by omega : (p = 0 ∧ q = 1 ∧ r = 2 ∧ s = 3) ∨ (p = 0 ∧ q = 1 ∧ r = 2 ∧ s = 4) ∨ (p = 0 ∧ q = 1 ∧ r = 3 ∧ s = 4) ∨ (p = 0 ∧ q = 2 ∧ r = 3 ∧ s = 4) ∨ (p = 1 ∧ q = 2 ∧ r = 3 ∧ s = 4)) with ⟨rfl, rfl, rfl, rfl⟩ | ⟨rfl, rfl, rfl, rfl⟩ | ⟨rfl, rfl, rfl, rfl⟩ | ⟨rfl, rfl, rfl, rfl⟩ | ⟨rfl, rfl, rfl, rfl⟩ <;> simp [dd_mn, dd_es, dd_tm, dd_pc, dd_pq, dd_d4, dd_d3, dd_d2] <;> grind
theorem dd_tmB (A : Nat → Nat → Int) (f : Nat → Int) (i m j b : Nat) (h : (A i j).natAbs ≤ 50) (hf : ∀ m, (f m).natAbs ≤ b) : (dd_tm A f i m j).natAbs ≤ 50 * b := by
  have h1 : (A i j * f (m - 2 ^ j)).natAbs ≤ 50 * b := by
    rw [Int.natAbs_mul]
    exact Nat.mul_le_mul h (hf _)
  simp only [dd_tm]
  split
  · split
    · exact h1
    · rw [Int.natAbs_neg]; exact h1
  · simp
theorem dd_esB (A : Nat → Nat → Int) (f : Nat → Int) (i m b : Nat) (h : ∀ j, j < 5 → (A i j).natAbs ≤ 50) (hf : ∀ m, (f m).natAbs ≤ b) : ∀ j, j ≤ 5 → (dd_es A f i m j).natAbs ≤ j * (50 * b)
  | 0, _ => by simp [dd_es]
  | j + 1, hj => by
    have h1 := dd_esB A f i m b h hf j (by omega)
    have h2 := dd_tmB A f i m j b (h j (by omega)) hf
    have h3 := Int.natAbs_add_le (dd_es A f i m j) (dd_tm A f i m j)
    simp only [dd_es]
    rw [Nat.add_mul, Nat.one_mul]
    omega
theorem dd_mnB (A : Nat → Nat → Int) (h : ∀ i, i < 4 → ∀ j, j < 5 → (A i j).natAbs ≤ 50) : ∀ L : List Nat, (∀ i, i ∈ L → i < 4) → ∀ m, (dd_mn A L m).natAbs ≤ 250 ^ L.length
  | [], _, m => by simp [dd_mn]
  | i :: L, hL, m => by
    have h1 := dd_mnB A h L (fun i hi => hL i (List.mem_cons_of_mem _ hi))
    have h2 := dd_esB A (dd_mn A L) i m _ (h i (hL i List.mem_cons_self)) h1 5 (by omega)
    simp only [dd_mn, List.length_cons, Nat.pow_succ]
    omega
theorem dd_rlB (rows : Nat) : ∀ n, ∀ i, i ∈ dd_rl rows n → i < n
  | 0, i, h => by simp [dd_rl] at h
  | n + 1, i, h => by
    simp only [dd_rl] at h
    split at h
    · rcases List.mem_cons.mp h with e | e
      · omega
      · have := dd_rlB rows n i e; omega
    · have := dd_rlB rows n i h; omega
theorem dd_z64 (z : Int) (h : z.natAbs < 2 ^ 63) : Int64.ofInt z = 0 ↔ z = 0 := by
  constructor
  · intro e
    have := congrArg Int64.toInt e
    rw [Int64.toInt_ofInt_of_le (by omega) (by omega)] at this
    exact this
  · intro e; rw [e]; rfl
theorem dd_AB {a : Nat → Int32} (h : dd_B a) : ∀ i, i < 4 → ∀ j, j < 5 → (dd_A a i j).natAbs ≤ 50 := by
  intro i hi j hj
  have := h (5 * i + j) (by omega)
  simp only [dd_A]
  omega
theorem dd_mz {a : Nat → Int32} (h : dd_B a) (s m : Nat) : Int64.ofInt (dd_mn (dd_A a) (dd_rl s 4) m) = 0 ↔ dd_mn (dd_A a) (dd_rl s 4) m = 0 := by
  apply dd_z64
  have h1 := dd_mnB (dd_A a) (dd_AB h) (dd_rl s 4) (dd_rlB s 4) m
  have h2 : 250 ^ (dd_rl s 4).length ≤ 250 ^ 4 := Nat.pow_le_pow_right (by decide) (dd_rlL s 4)
  omega
theorem dd_F8 : ∀ r, r < 32 → ∀ m, m < 32 → ((nI m &&& (nI r ^^^ (-1))) = 0 ↔ m ||| r = r) := by decide +kernel
theorem dd_F9 : ∀ s, s < 16 → (dd_rl s 4).length = dd_pc s := by decide +kernel
def dd_ft (rows cols s m : Nat) : Prop := s ||| rows = rows ∧ m ||| cols = cols ∧ dd_pc s = dd_pc m
theorem dd_69 (post : Int32 → SY → Prop) (J5 J15 : Int32 → Int32 → (Nat → Int32) → (Nat → Int32) → (Nat → Int64) → Prop) (x1 x2 x3 x4 : Int32) (m : Nat) (a p : Nat → Int32) (t : Nat → Int64) (h : J15 x3 (nI (m + 1)) a p t) : wY_rankIn_69 post J5 J15 x1 x2 x3 x4 (nI m) a p t := by
  unfold wY_rankIn_69 wY_rankIn_70
  exact br_t rfl (nm_r (nI_1 m) h)
theorem dd_r15 (post : Int32 → SY → Prop) (J5 : Int32 → Int32 → (Nat → Int32) → (Nat → Int32) → (Nat → Int64) → Prop) (a p : Nat → Int32) (t : Nat → Int64) (hB : dd_B a) (rows cols f s q0 : Nat) (hr : rows < 16) (hc : cols < 32) (hs : s < 16) (hf : f < 5) (hq0 : q0 ≤ f)
    (U : ∀ m, m < 32 → 1 ≤ m → dd_ft rows cols s m → dd_mn (dd_A a) (dd_rl s 4) m ≠ 0 → dd_pc s ≤ f)
    (h : ∀ q t', q ≤ f → q0 ≤ q → (∀ m, m < 32 → 1 ≤ m → dd_ft rows cols s m → dd_mn (dd_A a) (dd_rl s 4) m ≠ 0 → dd_pc s ≤ q) → J5 (nI q) (nI (s + 1)) a p t') :
    ∃ n, wY_rankIn_15 post J5 (nI rows) (nI cols) (nI s) n (nI q0) 1 a p t := by
  refine pk_loop (σ := Nat × (Nat → Int64)) (fun n m st => wY_rankIn_15 post J5 (nI rows) (nI cols) (nI s) n (nI st.1) (nI m) a p st.2) (fun m st => st.1 ≤ f ∧ q0 ≤ st.1 ∧ 1 ≤ m ∧ ∀ m', m' < m → 1 ≤ m' → dd_ft rows cols s m' → dd_mn (dd_A a) (dd_rl s 4) m' ≠ 0 → dd_pc s ≤ st.1) 32 1 (q0, t) (by omega) ⟨hq0, Nat.le_refl _, Nat.le_refl _, fun m' h1 h2 => by omega⟩ ?_ ?_
  · intro n st ⟨g1, g2, g3, g4⟩
    exact br_t (show (32 : Int32) ≤ nI 32 from by decide) (nm_r (nI_1 s) (h st.1 st.2 g1 g2 g4))
  · intro n m st hm ⟨g1, g2, g3, g4⟩ k
    have no : (dd_ft rows cols s m → dd_mn (dd_A a) (dd_rl s 4) m ≠ 0 → dd_pc s ≤ st.1) → wY_rankIn_15 post J5 (nI rows) (nI cols) (nI s) n (nI st.1) (nI (m + 1)) a p st.2 := by
      intro c
      refine k st ⟨g1, g2, by omega, fun m' h1 h2 h3 h4 => ?_⟩
      by_cases e : m' = m
      · subst e; exact c h3 h4
      · exact g4 m' (by omega) h2 h3 h4
    refine br_f (nI_ge (b := 32) hm (by decide)) ?_
    by_cases c1 : s ||| rows = rows
    · refine br_t ((dd_F8 rows (by omega) s (by omega)).mpr c1) ?_
      by_cases c2 : m ||| cols = cols
      · refine br_t ((dd_F8 cols hc m hm).mpr c2) (dd_ones _ a p st.2 _ s (by omega) rfl (dd_ones _ a p st.2 _ m hm rfl ?_))
        have b1 := dd_F5 s (by omega)
        have b2 := dd_F5 m hm
        by_cases c3 : dd_pc s = dd_pc m
        · refine br_t (by rw [c3]) (dd_ones _ a p st.2 _ s (by omega) rfl ?_)
          by_cases c4 : dd_pc s ≤ st.1
          · exact br_t (nI_le c4 (by omega)) (dd_69 _ _ _ _ _ _ _ _ _ _ _ (no (fun _ _ => c4)))
          · refine br_f (nI_ge (by omega) (by omega)) ?_
            unfold wY_rankIn_70
            refine br_f (by decide) (dd_part _ a p st.2 _ _ s m rfl rfl hs hm (by rw [dd_F9 s hs, c3]) (fun t' => ?_))
            by_cases c5 : dd_mn (dd_A a) (dd_rl s 4) m = 0
            · refine br_t ((dd_mz hB s m).mpr c5) (nm_r (nI_1 m) (k (st.1, t') ⟨g1, g2, by omega, fun m' h1 h2 h3 h4 => ?_⟩))
              by_cases e : m' = m
              · subst e; exact absurd c5 h4
              · exact g4 m' (by omega) h2 h3 h4
            · refine br_f (fun y => c5 ((dd_mz hB s m).mp y)) (dd_ones _ a p t' _ s (by omega) rfl (nm_r (nI_1 m) (k (dd_pc s, t') ⟨U m hm (by omega) ⟨c1, c2, c3⟩ c5, ?_, by omega, fun m' h1 h2 h3 h4 => Nat.le_refl _⟩)))
              show q0 ≤ dd_pc s
              omega
        · exact br_f (fun y => c3 ((nI_eq (by omega) (by omega)).mp y)) (dd_69 _ _ _ _ _ _ _ _ _ _ _ (no (fun y _ => absurd y.2.2 c3)))
      · exact br_f (fun y => c2 ((dd_F8 cols hc m hm).mp y)) (dd_69 _ _ _ _ _ _ _ _ _ _ _ (no (fun y _ => absurd y.2.1 c2)))
    · exact br_f (fun y => c1 ((dd_F8 rows (by omega) s (by omega)).mp y)) (dd_69 _ _ _ _ _ _ _ _ _ _ _ (no (fun y _ => absurd y.1 c1)))
theorem dd_rankIn (post : Int32 → SY → Prop) (a p : Nat → Int32) (t : Nat → Int64) (hB : dd_B a) (rows cols f : Nat) (hr : rows < 16) (hc : cols < 32) (hf : f < 5)
    (U : ∀ s, s < 16 → 1 ≤ s → ∀ m, m < 32 → 1 ≤ m → dd_ft rows cols s m → dd_mn (dd_A a) (dd_rl s 4) m ≠ 0 → dd_pc s ≤ f)
    (V : f = 0 ∨ ∃ s m, s < 16 ∧ 1 ≤ s ∧ m < 32 ∧ 1 ≤ m ∧ dd_ft rows cols s m ∧ dd_mn (dd_A a) (dd_rl s 4) m ≠ 0 ∧ dd_pc s = f)
    (h : ∀ t', post (nI f) (a, p, t')) : wpY_rankIn post (a, p, t) (nI rows) (nI cols) := by
  refine pk_loop (σ := Nat × (Nat → Int64)) (fun n s st => wY_rankIn_5 post (nI rows) (nI cols) n (nI st.1) (nI s) a p st.2) (fun s st => st.1 ≤ f ∧ 1 ≤ s ∧ ∀ s', s' < s → 1 ≤ s' → ∀ m, m < 32 → 1 ≤ m → dd_ft rows cols s' m → dd_mn (dd_A a) (dd_rl s' 4) m ≠ 0 → dd_pc s' ≤ st.1) 16 1 (0, t) (by omega) ⟨Nat.zero_le _, Nat.le_refl _, fun s' h1 h2 => by omega⟩ ?_ ?_
  · intro n st ⟨g1, g2, g3⟩
    refine br_t (show (16 : Int32) ≤ nI 16 from by decide) ?_
    have e : st.1 = f := by
      rcases V with v | ⟨s, m, h1, h2, h3, h4, h5, h6, h7⟩
      · omega
      · have := g3 s h1 h2 m h3 h4 h5 h6
        omega
    show post (nI st.1) (a, p, st.2)
    rw [e]
    exact h st.2
  · intro n s st hs ⟨g1, g2, g3⟩ k
    refine br_f (nI_ge (b := 16) hs (by decide)) (dd_r15 post _ a p st.2 hB rows cols f s st.1 hr hc hs hf g1 (U s hs g2) (fun q t' h1 h2 h3 => k (q, t') ⟨h1, by omega, fun s' y1 y2 m y3 y4 y5 y6 => ?_⟩))
    by_cases e : s' = s
    · subst e; exact h3 m y3 y4 y5 y6
    · exact Nat.le_trans (g3 s' (by omega) y2 m y3 y4 y5 y6) h2
end
section
/-! the two ranks meet -/
def dd_M (A : Nat → Nat → Int) (rows i j : Nat) : Int := if rows / 2 ^ i % 2 = 1 then A i j else 0
theorem dd_G0 : ∀ s, s < 16 → 1 ≤ s → dd_pc s = 1 ∨ dd_pc s = 2 ∨ dd_pc s = 3 ∨ dd_pc s = 4 := by decide +kernel
theorem dd_G1 : ∀ s, s < 16 → dd_pc s = 1 → ∃ i, i < 4 ∧ dd_rl s 4 = [i] ∧ s / 2 ^ i % 2 = 1 := by decide +kernel
theorem dd_G2 : ∀ s, s < 16 → dd_pc s = 2 → ∃ i, i < 4 ∧ ∃ j, j < 4 ∧ dd_rl s 4 = [j, i] ∧ s / 2 ^ i % 2 = 1 ∧ s / 2 ^ j % 2 = 1 := by decide +kernel
theorem dd_G3 : ∀ s, s < 16 → dd_pc s = 3 → ∃ i, i < 4 ∧ ∃ j, j < 4 ∧ ∃ k, k < 4 ∧ dd_rl s 4 = [k, j, i] ∧ s / 2 ^ i % 2 = 1 ∧ s / 2 ^ j % 2 = 1 ∧ s / 2 ^ k % 2 = 1 := by decide +kernel
theorem dd_G4 : ∀ s, s < 16 → dd_pc s = 4 → dd_rl s 4 = [3, 2, 1, 0] ∧ s / 2 ^ 0 % 2 = 1 ∧ s / 2 ^ 1 % 2 = 1 ∧ s / 2 ^ 2 % 2 = 1 ∧ s / 2 ^ 3 % 2 = 1 := by decide +kernel
theorem dd_H1 : ∀ m, m < 32 → dd_pc m = 1 → ∃ p, p < 5 ∧ m = 2 ^ p ∧ (m < 16 → p < 4) := by decide +kernel
theorem dd_H2 : ∀ m, m < 32 → dd_pc m = 2 → ∃ p, p < 5 ∧ ∃ q, q < 5 ∧ p < q ∧ m = 2 ^ p + 2 ^ q ∧ (m < 16 → q < 4) := by decide +kernel
theorem dd_H3 : ∀ m, m < 32 → dd_pc m = 3 → ∃ p, p < 5 ∧ ∃ q, q < 5 ∧ ∃ r, r < 5 ∧ p < q ∧ q < r ∧ m = 2 ^ p + 2 ^ q + 2 ^ r ∧ (m < 16 → r < 4) := by decide +kernel
theorem dd_H4 : ∀ m, m < 32 → dd_pc m = 4 → ∃ p, p < 5 ∧ ∃ q, q < 5 ∧ ∃ r, r < 5 ∧ ∃ s, s < 5 ∧ p < q ∧ q < r ∧ r < s ∧ m = 2 ^ p + 2 ^ q + 2 ^ r + 2 ^ s ∧ (m < 16 → s < 4) := by decide +kernel
theorem dd_H5 : ∀ s, s < 16 → ∀ r, r < 16 → s ||| r = r → ∀ i, i < 4 → s / 2 ^ i % 2 = 1 → r / 2 ^ i % 2 = 1 := by decide +kernel
theorem dd_H6 : ∀ m, m < 32 → m ||| 15 = 15 → m < 16 := by decide +kernel
theorem dd_KU (A : Nat → Nat → Int) (rows w cols f : Nat) (hr : rows < 16) (hw : (w = 4 ∧ cols = 15) ∨ (w = 5 ∧ cols = 31)) (U : dd_U (dd_M A rows) w f) : ∀ s, s < 16 → 1 ≤ s → ∀ m, m < 32 → 1 ≤ m → dd_ft rows cols s m → dd_mn A (dd_rl s 4) m ≠ 0 → dd_pc s ≤ f := by
  intro s hs hs1 m hm hm1 ⟨c1, c2, c3⟩ hz
  apply Classical.byContradiction
  intro hn
  apply hz
  have row : ∀ i, i < 4 → s / 2 ^ i % 2 = 1 → dd_M A rows i = A i := by
    intro i hi hb
    funext j
    simp only [dd_M, if_pos (dd_H5 s hs rows hr c1 i hi hb)]
  have col : w = 4 → m < 16 := by
    intro e
    rcases hw with ⟨_, y⟩ | ⟨y, _⟩
    · rw [y] at c2; exact dd_H6 m hm c2
    · omega
  rcases dd_G0 s hs hs1 with e | e | e | e
  · obtain ⟨i, hi, e1, b1⟩ := dd_G1 s hs e
    obtain ⟨p, hp, e2, b2⟩ := dd_H1 m hm (by omega)
    rw [e1, e2, dd_m1 A i p hp, ← row i hi b1]
    exact U.1 (by omega) p (by omega) i hi
  · obtain ⟨i, hi, j, hj, e1, b1, b2⟩ := dd_G2 s hs e
    obtain ⟨p, hp, q, hq, pq, e2, b⟩ := dd_H2 m hm (by omega)
    rw [e1, e2, dd_m2 A i j p q pq hq, ← row i hi b1, ← row j hj b2]
    exact U.2.1 (by omega) p q (by omega) (by omega) i hi j hj
  · obtain ⟨i, hi, j, hj, k, hk, e1, b1, b2, b3⟩ := dd_G3 s hs e
    obtain ⟨p, hp, q, hq, r, hr, pq, qr, e2, b⟩ := dd_H3 m hm (by omega)
    rw [e1, e2, dd_m3 A i j k p q r pq qr hr, ← row i hi b1, ← row j hj b2, ← row k hk b3]
    exact U.2.2.1 (by omega) p q r (by omega) (by omega) (by omega) i hi j hj k hk
  · obtain ⟨e1, b1, b2, b3, b4⟩ := dd_G4 s hs e
    obtain ⟨p, hp, q, hq, r, hr, l, hl, pq, qr, rl, e2, b⟩ := dd_H4 m hm (by omega)
    rw [e1, e2, dd_m4 A 0 1 2 3 p q r l pq qr rl hl, ← row 0 (by omega) b1, ← row 1 (by omega) b2, ← row 2 (by omega) b3, ← row 3 (by omega) b4]
    exact U.2.2.2 (by omega) p q r l (by omega) (by omega) (by omega) (by omega) 0 (by omega) 1 (by omega) 2 (by omega) 3 (by omega)
def dd_okb (r s c : Nat) (l : List Nat) : Bool := decide (s < 16) && decide (1 ≤ s) && decide (s ||| r = r) && decide (dd_rl s 4 = l) && decide (dd_pc s = c)
theorem dd_okE {r s c : Nat} {l : List Nat} (h : dd_okb r s c l = true) : s < 16 ∧ 1 ≤ s ∧ s ||| r = r ∧ dd_rl s 4 = l ∧ dd_pc s = c := by
  simp only [dd_okb, Bool.and_eq_true, decide_eq_true_eq] at h
  exact ⟨h.1.1.1.1, h.1.1.1.2, h.1.1.2, h.1.2, h.2⟩
def dd_okc (m c x : Nat) : Bool := decide (m < 32) && decide (1 ≤ m) && decide (m ||| 31 = 31) && (decide (4 ≤ x) || decide (m ||| 15 = 15)) && decide (dd_pc m = c)
theorem dd_ocE {m c x : Nat} (h : dd_okc m c x = true) : m < 32 ∧ 1 ≤ m ∧ m ||| 31 = 31 ∧ (x < 4 → m ||| 15 = 15) ∧ dd_pc m = c := by
  simp only [dd_okc, Bool.and_eq_true, Bool.or_eq_true, decide_eq_true_eq] at h
  exact ⟨h.1.1.1.1, h.1.1.1.2, h.1.1.2, fun y => h.1.2.resolve_left (by omega), h.2⟩
def dd_all (n : Nat) (f : Nat → Bool) : Bool := (List.range n).all f
theorem dd_allE {n : Nat} {f : Nat → Bool} (h : dd_all n f = true) : ∀ i, i < n → f i = true := fun i hi => List.all_eq_true.mp h i (List.mem_range.mpr hi)
def dd_im (c x : Bool) : Bool := !c || x
theorem dd_imE {c x : Bool} (h : dd_im c x = true) (hc : c = true) : x = true := by
  subst hc
  exact h
def dd_bt (r i : Nat) : Bool := decide (r / 2 ^ i % 2 = 1)
theorem dd_J1' : dd_all 16 (fun r => dd_all 4 (fun i => dd_im (dd_bt r i) (dd_okb r (2 ^ i) 1 [i]))) = true := by decide +kernel
theorem dd_J2' : dd_all 16 (fun r => dd_all 4 (fun i => dd_all 4 (fun j => dd_im (decide (i < j) && dd_bt r i && dd_bt r j) (dd_okb r (2 ^ i + 2 ^ j) 2 [j, i])))) = true := by decide +kernel
theorem dd_J3' : dd_all 16 (fun r => dd_all 4 (fun i => dd_all 4 (fun j => dd_all 4 (fun k => dd_im (decide (i < j) && decide (j < k) && dd_bt r i && dd_bt r j && dd_bt r k) (dd_okb r (2 ^ i + 2 ^ j + 2 ^ k) 3 [k, j, i]))))) = true := by decide +kernel
theorem dd_J4' : dd_all 16 (fun r => dd_im (dd_bt r 0 && dd_bt r 1 && dd_bt r 2 && dd_bt r 3) (dd_okb r (2 ^ 0 + 2 ^ 1 + 2 ^ 2 + 2 ^ 3) 4 [3, 2, 1, 0])) = true := by decide +kernel
theorem dd_C1' : dd_all 5 (fun p => dd_okc (2 ^ p) 1 p) = true := by decide +kernel
theorem dd_C2' : dd_all 5 (fun p => dd_all 5 (fun q => dd_im (decide (p < q)) (dd_okc (2 ^ p + 2 ^ q) 2 q))) = true := by decide +kernel
theorem dd_C3' : dd_all 5 (fun p => dd_all 5 (fun q => dd_all 5 (fun r => dd_im (decide (p < q) && decide (q < r)) (dd_okc (2 ^ p + 2 ^ q + 2 ^ r) 3 r)))) = true := by decide +kernel
theorem dd_C4' : dd_all 5 (fun p => dd_all 5 (fun q => dd_all 5 (fun r => dd_all 5 (fun s => dd_im (decide (p < q) && decide (q < r) && decide (r < s)) (dd_okc (2 ^ p + 2 ^ q + 2 ^ r + 2 ^ s) 4 s))))) = true := by decide +kernel
theorem dd_J1 (r : Nat) (hr : r < 16) (i : Nat) (hi : i < 4) (h : r / 2 ^ i % 2 = 1) : dd_okb r (2 ^ i) 1 [i] = true :=
  dd_imE (dd_allE (dd_allE dd_J1' r hr) i hi) (by simp [dd_bt, h])
theorem dd_J2 (r : Nat) (hr : r < 16) (i : Nat) (hi : i < 4) (j : Nat) (hj : j < 4) (ij : i < j) (h1 : r / 2 ^ i % 2 = 1) (h2 : r / 2 ^ j % 2 = 1) : dd_okb r (2 ^ i + 2 ^ j) 2 [j, i] = true :=
  dd_imE (dd_allE (dd_allE (dd_allE dd_J2' r hr) i hi) j hj) (by simp [dd_bt, h1, h2, ij])
theorem dd_J3 (r : Nat) (hr : r < 16) (i : Nat) (hi : i < 4) (j : Nat) (hj : j < 4) (k : Nat) (hk : k < 4) (ij : i < j ∧ j < k) (h : r / 2 ^ i % 2 = 1 ∧ r / 2 ^ j % 2 = 1 ∧ r / 2 ^ k % 2 = 1) : dd_okb r (2 ^ i + 2 ^ j + 2 ^ k) 3 [k, j, i] = true :=
  dd_imE (dd_allE (dd_allE (dd_allE (dd_allE dd_J3' r hr) i hi) j hj) k hk) (by simp [dd_bt, h.1, h.2.1, h.2.2, ij.1, ij.2])
theorem dd_J4 (r : Nat) (hr : r < 16) (h1 : r / 2 ^ 0 % 2 = 1) (h2 : r / 2 ^ 1 % 2 = 1) (h3 : r / 2 ^ 2 % 2 = 1) (h4 : r / 2 ^ 3 % 2 = 1) : dd_okb r (2 ^ 0 + 2 ^ 1 + 2 ^ 2 + 2 ^ 3) 4 [3, 2, 1, 0] = true :=
  dd_imE (dd_allE dd_J4' r hr) (by simp only [dd_bt, h1, h2, h3, h4]; rfl)
theorem dd_C1 (p : Nat) (hp : p < 5) : dd_okc (2 ^ p) 1 p = true := dd_allE dd_C1' p hp
theorem dd_C2 (p : Nat) (hp : p < 5) (q : Nat) (hq : q < 5) (h : p < q) : dd_okc (2 ^ p + 2 ^ q) 2 q = true :=
  dd_imE (dd_allE (dd_allE dd_C2' p hp) q hq) (by simp [h])
theorem dd_C3 (p : Nat) (hp : p < 5) (q : Nat) (hq : q < 5) (r : Nat) (hr : r < 5) (h : p < q ∧ q < r) : dd_okc (2 ^ p + 2 ^ q + 2 ^ r) 3 r = true :=
  dd_imE (dd_allE (dd_allE (dd_allE dd_C3' p hp) q hq) r hr) (by simp [h.1, h.2])
theorem dd_C4 (p : Nat) (hp : p < 5) (q : Nat) (hq : q < 5) (r : Nat) (hr : r < 5) (s : Nat) (hs : s < 5) (h : p < q ∧ q < r ∧ r < s) : dd_okc (2 ^ p + 2 ^ q + 2 ^ r + 2 ^ s) 4 s = true :=
  dd_imE (dd_allE (dd_allE (dd_allE (dd_allE dd_C4' p hp) q hq) r hr) s hs) (by simp [h.1, h.2.1, h.2.2])
theorem dd_KV (A : Nat → Nat → Int) (rows w cols f : Nat) (hr : rows < 16) (hw : (w = 4 ∧ cols = 15) ∨ (w = 5 ∧ cols = 31)) (V : dd_V (dd_M A rows) w f) : f = 0 ∨ ∃ s m, s < 16 ∧ 1 ≤ s ∧ m < 32 ∧ 1 ≤ m ∧ dd_ft rows cols s m ∧ dd_mn A (dd_rl s 4) m ≠ 0 ∧ dd_pc s = f := by
  have hw5 : w ≤ 5 := by omega
  have row : ∀ i, rows / 2 ^ i % 2 = 1 → dd_M A rows i = A i := by
    intro i hb
    funext j
    simp only [dd_M, if_pos hb]
  have no : ∀ i, ¬ rows / 2 ^ i % 2 = 1 → ∀ j, dd_M A rows i j = 0 := by
    intro i hb j
    simp only [dd_M, if_neg hb]
  have col : ∀ m x, x < w → m ||| 31 = 31 → (x < 4 → m ||| 15 = 15) → m ||| cols = cols := by
    intro m x h1 h2 h3
    rcases hw with ⟨y, z⟩ | ⟨y, z⟩
    · rw [z]; exact h3 (by omega)
    · rw [z]; exact h2
  rcases V with h | ⟨h, p, a, z⟩ | ⟨h, p, q, a, b, z⟩ | ⟨h, p, q, r, a, b, c, z⟩ | ⟨h, p, q, r, s, a, b, c, d, z⟩
  · exact Or.inl h
  · right
    obtain ⟨i, hi, hz⟩ : ∃ i, i < 4 ∧ dd_M A rows i p ≠ 0 := Classical.byContradiction fun y => z (fun i hi => Classical.byContradiction fun x => y ⟨i, hi, x⟩)
    have b1 : rows / 2 ^ i % 2 = 1 := Classical.byContradiction fun y => hz (no i y p)
    obtain ⟨s1, s2, s3, s4, s5⟩ := dd_okE (dd_J1 rows hr i hi b1)
    obtain ⟨m1, m2, m3, m4, m5⟩ := dd_ocE (dd_C1 p (by omega))
    rw [row i b1] at hz
    exact ⟨_, _, s1, s2, m1, m2, ⟨s3, col _ p a m3 m4, by omega⟩, by rw [s4, dd_m1 A i p (by omega)]; exact hz, by omega⟩
  · right
    obtain ⟨i, j, ij, hj, hz⟩ := dd_o2 z
    have b1 : rows / 2 ^ i % 2 = 1 := Classical.byContradiction fun y => hz (by simp [dd_d2, no i y])
    have b2 : rows / 2 ^ j % 2 = 1 := Classical.byContradiction fun y => hz (by simp [dd_d2, no j y])
    obtain ⟨s1, s2, s3, s4, s5⟩ := dd_okE (dd_J2 rows hr i (by omega) j hj ij b1 b2)
    obtain ⟨m1, m2, m3, m4, m5⟩ := dd_ocE (dd_C2 p (by omega) q (by omega) a)
    rw [row i b1, row j b2] at hz
    exact ⟨_, _, s1, s2, m1, m2, ⟨s3, col _ q b m3 m4, by omega⟩, by rw [s4, dd_m2 A i j p q a (by omega)]; exact hz, by omega⟩
  · right
    obtain ⟨i, j, k, ij, jk, hk, hz⟩ := dd_o3 z
    have b1 : rows / 2 ^ i % 2 = 1 := Classical.byContradiction fun y => hz (by simp [dd_d3, dd_d2, no i y])
    have b2 : rows / 2 ^ j % 2 = 1 := Classical.byContradiction fun y => hz (by simp [dd_d3, dd_d2, no j y])
    have b3 : rows / 2 ^ k % 2 = 1 := Classical.byContradiction fun y => hz (by simp [dd_d3, dd_d2, no k y])
    obtain ⟨s1, s2, s3, s4, s5⟩ := dd_okE (dd_J3 rows hr i (by omega) j (by omega) k hk ⟨ij, jk⟩ ⟨b1, b2, b3⟩)
    obtain ⟨m1, m2, m3, m4, m5⟩ := dd_ocE (dd_C3 p (by omega) q (by omega) r (by omega) ⟨a, b⟩)
    rw [row i b1, row j b2, row k b3] at hz
    exact ⟨_, _, s1, s2, m1, m2, ⟨s3, col _ r c m3 m4, by omega⟩, by rw [s4, dd_m3 A i j k p q r a b (by omega)]; exact hz, by omega⟩
  · right
    obtain ⟨i, j, k, l, ij, jk, kl, hl, hz⟩ := dd_o4 z
    have b1 : rows / 2 ^ i % 2 = 1 := Classical.byContradiction fun y => hz (by simp [dd_d4, dd_d3, dd_d2, no i y])
    have b2 : rows / 2 ^ j % 2 = 1 := Classical.byContradiction fun y => hz (by simp [dd_d4, dd_d3, dd_d2, no j y])
    have b3 : rows / 2 ^ k % 2 = 1 := Classical.byContradiction fun y => hz (by simp [dd_d4, dd_d3, dd_d2, no k y])
    have b4 : rows / 2 ^ l % 2 = 1 := Classical.byContradiction fun y => hz (by simp [dd_d4, dd_d3, dd_d2, no l y])
    obtain ⟨rfl, rfl, rfl, rfl⟩ : i = 0 ∧ j = 1 ∧ k = 2 ∧ l = 3 := by omega
    obtain ⟨s1, s2, s3, s4, s5⟩ := dd_okE (dd_J4 rows hr b1 b2 b3 b4)
    obtain ⟨m1, m2, m3, m4, m5⟩ := dd_ocE (dd_C4 p (by omega) q (by omega) r (by omega) s (by omega) ⟨a, b, c⟩)
    rw [row 0 b1, row 1 b2, row 2 b3, row 3 b4] at hz
    exact ⟨_, _, s1, s2, m1, m2, ⟨s3, col _ s d m3 m4, by omega⟩, by rw [s4, dd_m4 A 0 1 2 3 p q r s a b c (by omega)]; exact hz, by omega⟩
end
section
/-! the class's rank -/
def dd_Rp (r : Nat → Int64) (B : Nat → Nat → Int) : Prop := ∀ i, i < 4 → ∀ j, j < 5 → r (5 * i + j) = Int64.ofInt (B i j)
def dd_Bd (B : Nat → Nat → Int) (n : Nat) : Prop := ∀ i, i < 4 → ∀ j, j < 5 → (B i j).natAbs ≤ n
theorem dd_hasT (post : Int32 → Prop) (m i : Nat) (hm : m < 32) (hi : i < 5) (h : post (nI (m / 2 ^ i % 2))) : wpX_hasBit post (nI m) (nI i) := by
  have h2 : m / 2 ^ i % 2 < 2 := Nat.mod_lt _ (by decide)
  by_cases e : m / 2 ^ i % 2 = 1
  · rw [e] at h
    exact br_t (by rw [dd_F1 m hm i hi, e]; rfl) h
  · have e0 : m / 2 ^ i % 2 = 0 := by omega
    rw [e0] at h
    exact br_f (by rw [dd_F1 m hm i hi, e0]; decide) h
theorem dd_c16 (post : SX → Prop) (J : Int32 → (Nat → Int32) → (Nat → Int32) → (Nat → Int64) → Prop) (x1 : Int32) (a w : Nat → Int32) (r : Nat → Int64) (i b : Nat) (hi : i < 4) (hb : b < 2)
    (h : ∀ r' : Nat → Int64, (∀ j, j < 5 → r' (5 * i + j) = Int64.ofInt (if b = 1 then dd_A a i j else 0)) → (∀ i', i' < 4 → i' ≠ i → ∀ j, j < 5 → r' (5 * i' + j) = r (5 * i' + j)) → J (nI (i + 1)) a w r') :
    ∃ n, wX_copyRowsToReduced_16 post J x1 (nI i) (nI b) n 0 a w r := by
  refine pk_loop (σ := Nat → Int64) (fun n j r' => wX_copyRowsToReduced_16 post J x1 (nI i) (nI b) n (nI j) a w r') (fun j r' => (∀ j', j' < j → r' (5 * i + j') = Int64.ofInt (if b = 1 then dd_A a i j' else 0)) ∧ (∀ i', i' < 4 → i' ≠ i → ∀ j, j < 5 → r' (5 * i' + j) = r (5 * i' + j))) 5 0 r (by omega) ⟨fun j' hj' => by omega, fun i' _ _ j _ => rfl⟩ ?_ ?_
  · intro n r' ⟨g1, g2⟩
    exact br_t (show (5 : Int32) ≤ nI 5 from by decide) (nm_r (nI_1 i) (h r' g1 g2))
  · intro n j r' hj ⟨g1, g2⟩ k
    have h1 := dd_ix (nI i * 5 + nI j) (5 * i + j) 20 (dd_i5 i j) (by omega) (by decide)
    refine br_f (nI_ge (b := 5) hj (by decide)) ?_
    by_cases e : b = 1
    · refine br_f (by rw [e]; decide) ⟨h1.1, h1.1, nm_e (nm_r (nI_1 j) (k _ ⟨fun j' hj' => ?_, fun i' hi' hn j' hj' => ?_⟩))⟩
      · rw [h1.2, if_pos e]
        by_cases e' : j' = j
        · rw [e', pk_uLs]; rfl
        · rw [pk_uLn (by omega), g1 j' (by omega), if_pos e]
      · rw [h1.2, pk_uLn (by omega), g2 i' hi' hn j' hj']
    · refine br_t (by rw [show b = 0 from by omega]; rfl) ⟨h1.1, nm_e (nm_r (nI_1 j) (k _ ⟨fun j' hj' => ?_, fun i' hi' hn j' hj' => ?_⟩))⟩
      · rw [h1.2, if_neg e]
        by_cases e' : j' = j
        · rw [e', pk_uLs]; rfl
        · rw [pk_uLn (by omega), g1 j' (by omega), if_neg e]
      · rw [h1.2, pk_uLn (by omega), g2 i' hi' hn j' hj']
theorem dd_copyR (post : SX → Prop) (a w : Nat → Int32) (r : Nat → Int64) (rows : Nat) (hr : rows < 16) (h : ∀ r', dd_Rp r' (dd_M (dd_A a) rows) → post (a, w, r')) : wpX_copyRowsToReduced post (a, w, r) (nI rows) := by
  refine pk_loop (σ := Nat → Int64) (fun n i r' => wX_copyRowsToReduced_2 post (nI rows) n (nI i) a w r') (fun i r' => ∀ i', i' < i → ∀ j, j < 5 → r' (5 * i' + j) = Int64.ofInt (dd_M (dd_A a) rows i' j)) 4 0 r (by omega) (fun i' hi' => by omega) ?_ ?_
  · intro n r' g
    exact br_t (show (4 : Int32) ≤ nI 4 from by decide) (h r' g)
  · intro n i r' hi g k
    refine br_f (nI_ge (b := 4) hi (by decide)) (dd_hasT _ rows i (by omega) (by omega) (dd_c16 post _ _ a w r' i _ hi (Nat.mod_lt _ (by decide)) (fun r2 g1 g2 => k r2 (fun i' hi' j hj => ?_))))
    by_cases e : i' = i
    · rw [e, g1 j hj]; rfl
    · rw [g2 i' (by omega) e j hj, g i' (by omega) j hj]
theorem dd_piv (post : Int32 → Prop) (a w : Nat → Int32) (r : Nat → Int64) (B : Nat → Nat → Int) (f c : Nat) (hc : c < 5) (hf : f ≤ 4) (hr : dd_Rp r B) (hB : dd_Bd B 5000000000000000)
    (h1 : ∀ p, f ≤ p → p < 4 → B p c ≠ 0 → post (nI p)) (h2 : (∀ q, f ≤ q → q < 4 → B q c = 0) → post (nI 4)) : wpX_findPivot post (a, w, r) (nI f) (nI c) := by
  refine pk_loop (σ := Unit) (fun n i _ => wX_findPivot_2 post (nI c) a w r n (nI i)) (fun i _ => f ≤ i ∧ ∀ q, f ≤ q → q < i → B q c = 0) 4 f () hf ⟨Nat.le_refl _, fun q y z => by omega⟩ ?_ ?_
  · intro n _ ⟨_, g⟩
    exact br_t (show (4 : Int32) ≤ nI 4 from by decide) (h2 g)
  · intro n i _ hi ⟨g0, g⟩ k
    have y := dd_ix (nI i * 5 + nI c) (5 * i + c) 20 (dd_i5 i c) (by omega) (by decide)
    have b := hB i hi c hc
    refine br_f (nI_ge (b := 4) hi (by decide)) ⟨y.1, ?_⟩
    rw [y.2, hr i hi c hc]
    by_cases e : B i c = 0
    · refine br_t ((dd_z64 _ (by omega)).mpr e) (nm_r (nI_1 i) (k () ⟨by omega, fun q z1 z2 => ?_⟩))
      by_cases e' : q = i
      · rw [e']; exact e
      · exact g q z1 (by omega)
    · exact br_f (fun z => e ((dd_z64 _ (by omega)).mp z)) (h1 i g0 hi e)
def dd_Sw (B : Nat → Nat → Int) (f p i j : Nat) : Int := if i = f then B p j else if i = p then B f j else B i j
theorem dd_swR (post : SX → Prop) (a w : Nat → Int32) (r : Nat → Int64) (B : Nat → Nat → Int) (f p : Nat) (hf : f < 4) (hp : p < 4) (hr : dd_Rp r B) (h : ∀ r', dd_Rp r' (dd_Sw B f p) → post (a, w, r')) : wpX_swapReducedRows post (a, w, r) (nI f) (nI p) := by
  refine pk_loop (σ := Nat → Int64) (fun n j r' => wX_swapReducedRows_2 post (nI f) (nI p) n (nI j) a w r') (fun j r' => ∀ i, i < 4 → ∀ c, c < 5 → r' (5 * i + c) = Int64.ofInt (if c < j then dd_Sw B f p i c else B i c)) 5 0 r (by omega) (fun i hi c hc => by rw [if_neg (by omega)]; exact hr i hi c hc) ?_ ?_
  · intro n r' g
    refine br_t (show (5 : Int32) ≤ nI 5 from by decide) (h r' (fun i hi c hc => ?_))
    rw [g i hi c hc, if_pos hc]
  · intro n j r' hj g k
    have y1 := dd_ix (nI f * 5 + nI j) (5 * f + j) 20 (dd_i5 f j) (by omega) (by decide)
    have y2 := dd_ix (nI p * 5 + nI j) (5 * p + j) 20 (dd_i5 p j) (by omega) (by decide)
    refine br_f (nI_ge (b := 5) hj (by decide)) ⟨y1.1, nm_e ⟨y2.1, y1.1, nm_e ⟨y2.1, nm_e (nm_r (nI_1 j) (k _ (fun i hi c hc => ?_)))⟩⟩⟩
    rw [y1.2, y2.2]
    have gf := g f hf j hj
    have gp := g p hp j hj
    rw [if_neg (by omega)] at gf gp
    by_cases e : c = j
    · rw [if_pos (by omega), e]
      by_cases e1 : i = p
      · rw [e1, pk_uLs, gf]
        congr 1
        simp only [dd_Sw]
        split
        · next z => rw [z]
        · simp
      · rw [pk_uLn (by omega)]
        by_cases e2 : i = f
        · rw [e2, pk_uLs, gp]
          simp only [dd_Sw, if_true]
        · rw [pk_uLn (by omega), g i hi j hj, if_neg (by omega)]
          simp only [dd_Sw, if_neg e1, if_neg e2]
    · rw [pk_uLn (by omega), pk_uLn (by omega), g i hi c hc]
      by_cases e1 : c < j
      · rw [if_pos e1, if_pos (by omega)]
      · rw [if_neg e1, if_neg (by omega)]
def dd_Cl (B : Nat → Nat → Int) (f c i j : Nat) : Int := if f < i then B f c * B i j - B i c * B f j else B i j
theorem dd_c38 (post : SX → Prop) (J : Int32 → (Nat → Int32) → (Nat → Int32) → (Nat → Int64) → Prop) (x2 : Int32) (a w : Nat → Int32) (r : Nat → Int64) (B : Nat → Nat → Int) (f c i : Nat) (hf : f < i) (hi : i < 4)
    (hr : ∀ i', i' < 4 → ∀ j, j < 5 → r (5 * i' + j) = Int64.ofInt (if i' < i then dd_Cl B f c i' j else B i' j))
    (h : ∀ r' : Nat → Int64, (∀ i', i' < 4 → ∀ j, j < 5 → r' (5 * i' + j) = Int64.ofInt (if i' < i + 1 then dd_Cl B f c i' j else B i' j)) → J (nI (i + 1)) a w r') :
    ∃ n, wX_clearBelow_38 post J (nI f) x2 (Int64.ofInt (B f c)) (nI i) (Int64.ofInt (B i c)) n 0 a w r := by
  refine pk_loop (σ := Nat → Int64) (fun n j r' => wX_clearBelow_38 post J (nI f) x2 (Int64.ofInt (B f c)) (nI i) (Int64.ofInt (B i c)) n (nI j) a w r') (fun j r' => ∀ i', i' < 4 → ∀ j', j' < 5 → r' (5 * i' + j') = Int64.ofInt (if i' < i ∨ (i' = i ∧ j' < j) then dd_Cl B f c i' j' else B i' j')) 5 0 r (by omega) ?_ ?_ ?_
  · intro i' hi' j' hj'
    rw [hr i' hi' j' hj']
    by_cases e : i' < i
    · rw [if_pos e, if_pos (Or.inl e)]
    · rw [if_neg e, if_neg (by omega)]
  · intro n r' g
    refine br_t (show (5 : Int32) ≤ nI 5 from by decide) (nm_r (nI_1 i) (h r' (fun i' hi' j hj => ?_)))
    rw [g i' hi' j hj]
    by_cases e : i' < i + 1
    · rw [if_pos e, if_pos (by omega)]
    · rw [if_neg e, if_neg (by omega)]
  · intro n j r' hj g k
    have y1 := dd_ix (nI i * 5 + nI j) (5 * i + j) 20 (dd_i5 i j) (by omega) (by decide)
    have y2 := dd_ix (nI f * 5 + nI j) (5 * f + j) 20 (dd_i5 f j) (by omega) (by decide)
    refine br_f (nI_ge (b := 5) hj (by decide)) ⟨y1.1, y2.1, y1.1, nm_e (nm_r (nI_1 j) (k _ (fun i' hi' j' hj' => ?_)))⟩
    rw [y1.2, y2.2]
    by_cases e : i' = i ∧ j' = j
    · rw [e.1, e.2, pk_uLs, if_pos (by omega), g i hi j hj, if_neg (by omega), g f (by omega) j hj, if_pos (by omega)]
      simp only [dd_Cl, if_pos hf, if_neg (Nat.lt_irrefl f), Int64.ofInt_sub, Int64.ofInt_mul]
    · rw [pk_uLn (by omega), g i' hi' j' hj']
      by_cases e1 : i' < i ∨ (i' = i ∧ j' < j)
      · rw [if_pos e1, if_pos (by omega)]
      · rw [if_neg e1, if_neg (by omega)]
theorem dd_clR (post : SX → Prop) (a w : Nat → Int32) (r : Nat → Int64) (B : Nat → Nat → Int) (f c : Nat) (hf : f < 4) (hc : c < 5) (hr : dd_Rp r B) (h : ∀ r', dd_Rp r' (dd_Cl B f c) → post (a, w, r')) : wpX_clearBelow post (a, w, r) (nI f) (nI c) := by
  have y := dd_ix (nI f * 5 + nI c) (5 * f + c) 20 (dd_i5 f c) (by omega) (by decide)
  refine ⟨y.1, nm_r (e' := Int64.ofInt (B f c)) (by rw [y.2]; exact hr f hf c hc) (nm_r (nI_1 f) ?_)⟩
  refine pk_loop (σ := Nat → Int64) (fun n i r' => wX_clearBelow_16 post (nI f) (nI c) (Int64.ofInt (B f c)) n (nI i) a w r') (fun i r' => f < i ∧ ∀ i', i' < 4 → ∀ j, j < 5 → r' (5 * i' + j) = Int64.ofInt (if i' < i then dd_Cl B f c i' j else B i' j)) 4 (f + 1) r (by omega) ⟨by omega, fun i' hi' j hj => ?_⟩ ?_ ?_
  · rw [hr i' hi' j hj]
    by_cases e : i' < f + 1
    · rw [if_pos e]
      simp only [dd_Cl, if_neg (show ¬ f < i' by omega)]
    · rw [if_neg e]
  · intro n r' ⟨_, g⟩
    refine br_t (show (4 : Int32) ≤ nI 4 from by decide) (h r' (fun i hi j hj => ?_))
    rw [g i hi j hj, if_pos hi]
  · intro n i r' hi ⟨g0, g⟩ k
    have y2 := dd_ix (nI i * 5 + nI c) (5 * i + c) 20 (dd_i5 i c) (by omega) (by decide)
    refine br_f (nI_ge (b := 4) hi (by decide)) ⟨y2.1, nm_r (e' := Int64.ofInt (B i c)) (by rw [y2.2, g i hi c hc, if_neg (by omega)]) (dd_c38 post _ _ a w r' B f c i g0 hi g (fun r2 g2 => k r2 ⟨by omega, g2⟩))⟩
def dd_bn : Nat → Nat
  | 0 => 50
  | 1 => 5000
  | 2 => 50000000
  | _ => 5000000000000000
theorem dd_bnL (f : Nat) : dd_bn f ≤ 5000000000000000 := by
  match f with
  | 0 => decide
  | 1 => decide
  | 2 => decide
  | n + 3 => exact Nat.le_refl _
theorem dd_BdS {B : Nat → Nat → Int} {n f p : Nat} (hf : f < 4) (hp : p < 4) (h : dd_Bd B n) : dd_Bd (dd_Sw B f p) n := by
  intro i hi j hj
  simp only [dd_Sw]
  split
  · exact h p hp j hj
  · split
    · exact h f hf j hj
    · exact h i hi j hj
theorem dd_mulB {x y : Int} {n : Nat} (hx : x.natAbs ≤ n) (hy : y.natAbs ≤ n) : (x * y).natAbs ≤ n * n := by
  rw [Int.natAbs_mul]
  exact Nat.mul_le_mul hx hy
theorem dd_BdC {B : Nat → Nat → Int} {f c : Nat} (hf : f < 4) (hc : c < 5) (h : dd_Bd B (dd_bn f)) : dd_Bd (dd_Cl B f c) (dd_bn (f + 1)) := by
  intro i hi j hj
  simp only [dd_Cl]
  have m : f < 4 → dd_bn f ≤ dd_bn (f + 1) ∧ (f < 3 → dd_bn f * dd_bn f + dd_bn f * dd_bn f = dd_bn (f + 1)) := by
    intro _
    rcases (by omega : f = 0 ∨ f = 1 ∨ f = 2 ∨ f = 3) with rfl | rfl | rfl | rfl <;> decide
  obtain ⟨m1, m2⟩ := m hf
  split
  · have a1 := dd_mulB (h f hf c hc) (h i hi j hj)
    have a2 := dd_mulB (h i hi c hc) (h f hf j hj)
    have a3 := m2 (by omega)
    have a4 := Int.natAbs_sub_le (B f c * B i j) (B i c * B f j)
    omega
  · exact Nat.le_trans (h i hi j hj) m1
theorem dd_rop (post : Int32 → SX → Prop) (a wk : Nat → Int32) (M : Nat → Nat → Int) (w : Nat) (hw : w ≤ 5) (h : ∀ f r', f < 5 → dd_U M w f → dd_V M w f → post (nI f) (a, wk, r')) :
    ∀ d f c r B, c + d = w → f ≤ 4 → dd_Rp r B → dd_Bd B (dd_bn f) → dd_E B f c → dd_Q M B → wX_rankOfPart_10 post (nI w) (d + 1) (nI f) (nI c) a wk r := by
  intro d
  induction d with
  | zero =>
    intro f c r B hd hf hr hB hE hQ
    have e : c = w := by omega
    exact br_t (nI_le (by omega) (by omega)) (h f r (by omega) (dd_UQ hw hQ (dd_EU hE (Or.inl e))) (dd_VQ hw hQ (dd_EV hE hf (by omega))))
  | succ d ih =>
    intro f c r B hd hf hr hB hE hQ
    refine br_f (nI_ge (by omega) (by omega)) ?_
    by_cases e4 : f = 4
    · exact br_t (by rw [e4]; decide) (h f r (by omega) (dd_UQ hw hQ (dd_EU hE (Or.inr e4))) (dd_VQ hw hQ (dd_EV hE hf (by omega))))
    · have hf4 : f < 4 := by omega
      refine br_f (nI_ge (b := 4) hf4 (by decide)) (dd_piv _ a wk r B f c (by omega) hf hr (fun i hi j hj => Nat.le_trans (hB i hi j hj) (dd_bnL f)) (fun p h1 h2 h3 => ?_) (fun hz => ?_))
      · refine br_f (nI_ge (b := 4) h2 (by decide)) (dd_swR _ a wk r B f p hf4 h2 hr (fun r1 hr1 => ?_))
        refine dd_clR _ a wk r1 (dd_Sw B f p) f c hf4 (by omega) hr1 (fun r2 hr2 => nm_r (nI_1 f) (nm_r (nI_1 c) ?_))
        have s := dd_Esw (S := dd_Sw B f p) (by omega) h1 h2 hE (fun i hi n1 n2 j hj => by simp only [dd_Sw, if_neg n1, if_neg n2]) (fun j hj => by simp only [dd_Sw, if_true]) (fun j hj => by simp only [dd_Sw]; split <;> simp_all)
        have hp : dd_Sw B f p f c ≠ 0 := by simp only [dd_Sw, if_true]; exact h3
        have cl := dd_Ecl (N := dd_Cl (dd_Sw B f p) f c) (by omega) hf4 s.1 hp (fun i hi j hj => by simp only [dd_Cl, if_neg (show ¬ f < i by omega)]) (fun i hi hi4 j hj => by simp only [dd_Cl, if_pos hi])
        exact ih (f + 1) (c + 1) r2 _ (by omega) (by omega) hr2 (dd_BdC hf4 (by omega) (dd_BdS hf4 h2 hB)) cl.1 (dd_Qt hQ (dd_Qt s.2 cl.2))
      · exact br_t (by decide) (nm_r (nI_1 c) (ih f (c + 1) r B (by omega) hf hr hB (dd_En hE hz) hQ))
theorem dd_ropX (post : Int32 → SX → Prop) (a wk : Nat → Int32) (r : Nat → Int64) (hB : dd_B a) (rows w : Nat) (hr : rows < 16) (hw : w ≤ 5) (h : ∀ f r', f < 5 → dd_U (dd_M (dd_A a) rows) w f → dd_V (dd_M (dd_A a) rows) w f → post (nI f) (a, wk, r')) : wpX_rankOfPart post (a, wk, r) (nI rows) (nI w) := by
  unfold wpX_rankOfPart
  refine dd_copyR _ a wk r rows hr (fun r' hr' => ⟨w + 1, dd_rop post a wk _ w hw h w 0 0 r' _ (by omega) (by omega) hr' ?_ (dd_E0 _) (dd_Qr _)⟩)
  intro i hi j hj
  have := dd_AB hB i hi j hj
  simp only [dd_M, dd_bn]
  split
  · exact this
  · simp
theorem dd_rankXY (post : Int32 → SX → Prop) (posty : Int32 → Int32 → SX → SY → Prop) (a wk p : Nat → Int32) (r t : Nat → Int64) (hB : dd_B a) (rows w cols : Nat) (hr : rows < 16) (hw : (w = 4 ∧ cols = 15) ∨ (w = 5 ∧ cols = 31)) (hp : post = fun x u => wpY_rankIn (fun y v => posty x y u v) (a, p, t) (nI rows) (nI cols)) (h : ∀ x r' t', posty x x (a, wk, r') (a, p, t')) : wpX_rankOfPart post (a, wk, r) (nI rows) (nI w) := by
  subst hp
  refine dd_ropX _ a wk r hB rows w hr (by omega) (fun f r' hf U V => ?_)
  exact dd_rankIn _ a p t hB rows cols f hr (by omega) hf (dd_KU (dd_A a) rows w cols f hr hw U) (dd_KV (dd_A a) rows w cols f hr hw V) (fun t' => h (nI f) r' t')
theorem i_vc_rank {k : Nat} {u : SX} {v : SY} (I : i_Rel k u v) (hk : k + 4 ≤ 2048) : wpX_rank (fun r u' => wpY_rank (fun r' v' => r' = r ∧ i_Rel (k + 4) u' v') v) u := by
  obtain ⟨a, w, r, p, t, rfl, rfl, hB⟩ := I
  exact dd_rankXY _ (fun x y u v => y = x ∧ i_Rel (k + 4) u v) a w p r t hB 15 4 15 (by decide) (Or.inl ⟨rfl, rfl⟩) rfl (fun x r' t' => ⟨rfl, dd_rel hB⟩)
theorem i_vc_wideRank {k : Nat} {u : SX} {v : SY} (I : i_Rel k u v) (hk : k + 4 ≤ 2048) : wpX_wideRank (fun r u' => wpY_wideRank (fun r' v' => r' = r ∧ i_Rel (k + 4) u' v') v) u := by
  obtain ⟨a, w, r, p, t, rfl, rfl, hB⟩ := I
  exact dd_rankXY _ (fun x y u v => y = x ∧ i_Rel (k + 4) u v) a w p r t hB 15 5 31 (by decide) (Or.inr ⟨rfl, rfl⟩) rfl (fun x r' t' => ⟨rfl, dd_rel hB⟩)
theorem i_vc_rankOf {k : Nat} {u : SX} {v : SY} (I : i_Rel k u v) (hk : k + 4 ≤ 2048) (v1 : Int32) : wpX_rankOf (fun r u' => wpY_rankOf (fun r' v' => r' = r ∧ i_Rel (k + 4) u' v') v v1) u v1 := by
  obtain ⟨a, w, r, p, t, rfl, rfl, hB⟩ := I
  by_cases h0 : v1 < 0
  · exact br_t h0 (br_t h0 ⟨rfl, dd_rel hB⟩)
  · by_cases h1 : v1 ≤ 15
    · obtain ⟨rows, hr, rfl⟩ := nI_of2 (M := 15) (n := 15) (by decide) h0 h1
      refine br_f h0 (br_t h1 ?_)
      refine dd_rankXY _ (fun x y u v => y = x ∧ i_Rel (k + 4) u v) a w p r t hB rows 4 15 (by omega) (Or.inl ⟨rfl, rfl⟩) ?_ (fun x r' t' => ⟨rfl, dd_rel hB⟩)
      funext x u
      obtain ⟨u1, u2, u3⟩ := u
      apply propext
      constructor
      · intro y
        exact (y.2 h0).1 h1
      · intro y
        exact br_f h0 (br_t h1 y)
    · exact br_f h0 (br_f h1 (br_f h0 (br_f h1 ⟨rfl, dd_rel hB⟩)))
end
section
/-! set, at, swapRows, addRow, transpose -/
theorem dd_line (x : Int32) : (x < 0 ∨ (¬ x < 0 ∧ 4 ≤ x ∧ 3 < x)) ∨ ∃ j, j < 4 ∧ x = nI j := by
  rcases pk_ix x (n := 4) (by decide) with h | h | h
  · exact Or.inl (Or.inl h)
  · left; right
    have h0 : (0 : Int32).toInt = 0 := by decide
    have h3 : (3 : Int32).toInt = 3 := by decide
    have h4 : (4 : Int32).toInt = 4 := by decide
    have h' : (4 : Int32) ≤ x := h
    simp only [Int32.lt_iff_toInt_lt, Int32.le_iff_toInt_le, h0, h3, h4] at h' ⊢
    omega
  · exact Or.inr h
theorem dd_colm (x : Int32) : (x < 0 ∨ (¬ x < 0 ∧ 5 ≤ x ∧ 4 < x)) ∨ ∃ j, j < 5 ∧ x = nI j := by
  rcases pk_ix x (n := 5) (by decide) with h | h | h
  · exact Or.inl (Or.inl h)
  · left; right
    have h0 : (0 : Int32).toInt = 0 := by decide
    have h3 : (4 : Int32).toInt = 4 := by decide
    have h4 : (5 : Int32).toInt = 5 := by decide
    have h' : (5 : Int32) ≤ x := h
    simp only [Int32.lt_iff_toInt_lt, Int32.le_iff_toInt_le, h0, h3, h4] at h' ⊢
    omega
  · exact Or.inr h
theorem dd_lnF (post : Int32 → Prop) {x : Int32} (h : x < 0 ∨ (¬ x < 0 ∧ 4 ≤ x ∧ 3 < x)) (hp : post 0) : wpX_isLine post x := by
  rcases h with h | ⟨h, h1, h2⟩
  · exact br_t h hp
  · exact br_f h (br_t h1 hp)
theorem dd_lnT (post : Int32 → Prop) {j : Nat} (hj : j < 4) (hp : post 1) : wpX_isLine post (nI j) := br_f (nI_pos (by omega)) (br_f (nI_ge (b := 4) hj (by decide)) hp)
theorem dd_rwF (post : Int32 → Prop) (v : SY) {x : Int32} (h : x < 0 ∨ (¬ x < 0 ∧ 4 ≤ x ∧ 3 < x)) (hp : post 0) : wpY_row post v x := by
  obtain ⟨a, p, t⟩ := v
  rcases h with h | ⟨h, h1, h2⟩
  · exact br_t h hp
  · exact br_f h (br_t h2 hp)
theorem dd_rwT (post : Int32 → Prop) (v : SY) {j : Nat} (hj : j < 4) (hp : post 1) : wpY_row post v (nI j) := by
  obtain ⟨a, p, t⟩ := v
  exact br_f (nI_pos (by omega)) (br_f (nI_nlt (a := 3) (by omega) (by decide)) hp)
theorem dd_nmF (post : Int32 → Prop) {x : Int32} (h : x < -50 ∨ (¬ x < -50 ∧ 50 < x)) (hp : post 0) : wpX_isNumber post x := by
  rcases h with h | ⟨h, h1⟩
  · exact br_t h hp
  · exact br_f h (br_t h1 hp)
theorem dd_nmT (post : Int32 → Prop) {x : Int32} (h : ¬ x < -50 ∧ ¬ 50 < x) (hp : post 1) : wpX_isNumber post x := br_f h.1 (br_f h.2 hp)
theorem dd_ftF (post : Int32 → Prop) (v : SY) {i j : Nat} {x : Int32} (hi : i < 4) (hj : j < 5) (h : x < -50 ∨ (¬ x < -50 ∧ 50 < x)) (hp : post 0) : wpY_fits post v (nI i) (nI j) x := by
  obtain ⟨a, p, t⟩ := v
  unfold wpY_fits
  dsimp only
  refine dd_rwT _ (a, p, t) hi ?_
  refine br_f (by decide) (br_f (nI_pos (by omega)) (br_f (nI_nlt (a := 4) (by omega) (by decide)) ?_))
  rcases h with h | ⟨h, h1⟩
  · exact br_t h hp
  · exact br_f h (br_t h1 hp)
theorem dd_ftT (post : Int32 → Prop) (v : SY) {i j : Nat} {x : Int32} (hi : i < 4) (hj : j < 5) (h : ¬ x < -50 ∧ ¬ 50 < x) (hp : post 1) : wpY_fits post v (nI i) (nI j) x := by
  obtain ⟨a, p, t⟩ := v
  unfold wpY_fits
  dsimp only
  exact dd_rwT _ (a, p, t) hi (by exact br_f (by decide) (br_f (nI_pos (by omega)) (br_f (nI_nlt (a := 4) (by omega) (by decide)) (br_f h.1 (br_f h.2 hp)))))
theorem dd_ftL (post : Int32 → Prop) (v : SY) {x y z : Int32} (h : x < 0 ∨ (¬ x < 0 ∧ 4 ≤ x ∧ 3 < x)) (hp : post 0) : wpY_fits post v x y z := by
  obtain ⟨a, p, t⟩ := v
  unfold wpY_fits
  dsimp only
  exact dd_rwF _ (a, p, t) h (by exact br_t rfl hp)
theorem dd_ftC (post : Int32 → Prop) (v : SY) {i : Nat} {y z : Int32} (hi : i < 4) (h : y < 0 ∨ (¬ y < 0 ∧ 5 ≤ y ∧ 4 < y)) (hp : post 0) : wpY_fits post v (nI i) y z := by
  obtain ⟨a, p, t⟩ := v
  unfold wpY_fits
  dsimp only
  refine dd_rwT _ (a, p, t) hi ?_
  refine br_f (by decide) ?_
  rcases h with h | ⟨h, h1, h2⟩
  · exact br_t h hp
  · exact br_f h (br_t h2 hp)
theorem dd_plL (post : Int32 → Prop) {x y : Int32} (h : x < 0 ∨ (¬ x < 0 ∧ 4 ≤ x ∧ 3 < x)) (hp : post 0) : wpX_isPlace post x y := by
  unfold wpX_isPlace
  exact dd_lnF _ h (by exact br_t rfl hp)
theorem dd_plC (post : Int32 → Prop) {i : Nat} {y : Int32} (hi : i < 4) (h : y < 0 ∨ (¬ y < 0 ∧ 5 ≤ y ∧ 4 < y)) (hp : post 0) : wpX_isPlace post (nI i) y := by
  unfold wpX_isPlace
  refine dd_lnT _ hi ?_
  refine br_f (by decide) ?_
  rcases h with h | ⟨h, h1, h2⟩
  · exact br_t h hp
  · exact br_f h (br_t h1 hp)
theorem dd_plT (post : Int32 → Prop) {i j : Nat} (hi : i < 4) (hj : j < 5) (hp : post 1) : wpX_isPlace post (nI i) (nI j) := by
  unfold wpX_isPlace
  exact dd_lnT _ hi (by exact br_f (by decide) (br_f (nI_pos (by omega)) (br_f (nI_ge (b := 5) hj (by decide)) hp)))
theorem dd_setY0 (post : Int32 → SY → Prop) (a p : Nat → Int32) (t : Nat → Int64) (v1 v2 v3 : Int32) (h : ∀ post' : Int32 → Prop, post' 0 → wpY_fits post' (a, p, t) v1 v2 v3) (hp : post 0 (a, p, t)) : wpY_set post (a, p, t) v1 v2 v3 := by
  unfold wpY_set
  dsimp only
  exact h _ (br_t rfl hp)
theorem dd_setY1 (post : Int32 → SY → Prop) (a p : Nat → Int32) (t : Nat → Int64) (i j : Nat) (v3 : Int32) (hi : i < 4) (hj : j < 5) (n : ¬ v3 < -50 ∧ ¬ 50 < v3) (hp : post 1 (upd a (5 * i + j) v3, p, t)) : wpY_set post (a, p, t) (nI i) (nI j) v3 := by
  have y2 := dd_ix (5 * nI i + nI j) (5 * i + j) 20 (dd_5i i j) (by omega) (by decide)
  unfold wpY_set
  dsimp only
  refine dd_ftT _ (a, p, t) hi hj n ?_
  refine br_f (by decide) ⟨y2.1, nm_e ?_⟩
  rw [y2.2]
  exact hp
theorem i_vc_set {k : Nat} {u : SX} {v : SY} (I : i_Rel k u v) (hk : k + 4 ≤ 2048) (v1 : Int32) (v2 : Int32) (v3 : Int32) : wpX_set (fun r u' => wpY_set (fun r' v' => r' = r ∧ i_Rel (k + 4) u' v') v v1 v2 v3) u v1 v2 v3 := by
  obtain ⟨a, w, r, p, t, rfl, rfl, hB⟩ := I
  unfold wpX_set
  dsimp only
  rcases dd_line v1 with h | ⟨i, hi, rfl⟩
  · exact dd_plL _ h (by exact br_t rfl (dd_setY0 _ a p t _ _ _ (fun post' h' => dd_ftL _ _ h h') ⟨rfl, dd_rel hB⟩))
  · rcases dd_colm v2 with h | ⟨j, hj, rfl⟩
    · exact dd_plC _ hi h (by exact br_t rfl (dd_setY0 _ a p t _ _ _ (fun post' h' => dd_ftC _ _ hi h h') ⟨rfl, dd_rel hB⟩))
    · by_cases hn : -50 ≤ v3.toInt ∧ v3.toInt ≤ 50
      · have n := dd_numI v3 hn
        have y1 := dd_ix (nI i * 5 + nI j) (5 * i + j) 20 (dd_i5 i j) (by omega) (by decide)
        refine dd_plT _ hi hj ?_
        refine br_f (by decide) (dd_nmT _ n ?_)
        refine br_f (by decide) ⟨y1.1, nm_e ?_⟩
        rw [y1.2]
        exact dd_setY1 _ a p t i j v3 hi hj n ⟨rfl, dd_rel (dd_upB hB hn)⟩
      · have n := dd_numF v3 hn
        exact dd_plT _ hi hj (by exact br_f (by decide) (dd_nmF _ n (by exact br_t rfl (dd_setY0 _ a p t _ _ _ (fun post' h' => dd_ftF _ _ hi hj n h') ⟨rfl, dd_rel hB⟩))))
theorem dd_atY0 (post : Int32 → Prop) (a p : Nat → Int32) (t : Nat → Int64) (v1 v2 : Int32) (h : v1 < 0 ∨ (¬ v1 < 0 ∧ 4 ≤ v1 ∧ 3 < v1)) (hp : post (-1000000000)) : wpY_at post (a, p, t) v1 v2 := by
  unfold wpY_at
  dsimp only
  exact dd_rwF _ _ h (by exact br_t rfl hp)
theorem dd_atY1 (post : Int32 → Prop) (a p : Nat → Int32) (t : Nat → Int64) (i : Nat) (v2 : Int32) (hi : i < 4) (h : v2 < 0 ∨ (¬ v2 < 0 ∧ 5 ≤ v2 ∧ 4 < v2)) (hp : post (-1000000000)) : wpY_at post (a, p, t) (nI i) v2 := by
  unfold wpY_at
  dsimp only
  refine dd_rwT _ _ hi ?_
  refine br_f (by decide) ?_
  rcases h with h | ⟨h, h1, h2⟩
  · exact br_t h hp
  · exact br_f h (br_t h2 hp)
theorem dd_atY2 (post : Int32 → Prop) (a p : Nat → Int32) (t : Nat → Int64) (i j : Nat) (hi : i < 4) (hj : j < 5) (hp : post (a (5 * i + j))) : wpY_at post (a, p, t) (nI i) (nI j) := by
  have y2 := dd_ix (5 * nI i + nI j) (5 * i + j) 20 (dd_5i i j) (by omega) (by decide)
  unfold wpY_at
  dsimp only
  refine dd_rwT _ _ hi ?_
  refine br_f (by decide) (br_f (nI_pos (by omega)) (br_f (nI_nlt (a := 4) (by omega) (by decide)) ⟨y2.1, ?_⟩))
  rw [y2.2]
  exact hp
theorem i_vc_at {k : Nat} {u : SX} {v : SY} (I : i_Rel k u v) (hk : k + 4 ≤ 2048) (v1 : Int32) (v2 : Int32) : wpX_at (fun r => wpY_at (fun r' => r' = r ∧ i_Rel (k + 4) u v) v v1 v2) u v1 v2 := by
  obtain ⟨a, w, r, p, t, rfl, rfl, hB⟩ := I
  unfold wpX_at
  dsimp only
  rcases dd_line v1 with h | ⟨i, hi, rfl⟩
  · exact dd_plL _ h (by exact br_t rfl (dd_atY0 _ a p t _ _ h ⟨rfl, dd_rel hB⟩))
  · rcases dd_colm v2 with h | ⟨j, hj, rfl⟩
    · exact dd_plC _ hi h (by exact br_t rfl (dd_atY1 _ a p t _ _ hi h ⟨rfl, dd_rel hB⟩))
    · have y1 := dd_ix (nI i * 5 + nI j) (5 * i + j) 20 (dd_i5 i j) (by omega) (by decide)
      refine dd_plT _ hi hj ?_
      refine br_f (by decide) ⟨y1.1, ?_⟩
      rw [y1.2]
      exact dd_atY2 _ a p t i j hi hj ⟨rfl, dd_rel hB⟩
/-! swapRows -/
def dd_sw (a : Nat → Int32) (p q : Nat) : Nat → Int32 := upd (upd a p (a q)) q (a p)
theorem dd_swB {a : Nat → Int32} (h : dd_B a) {p q : Nat} (hp : p < 20) (hq : q < 20) : dd_B (dd_sw a p q) := dd_upB (dd_upB h (h q hq)) (h p hp)
theorem dd_swN (post : SX → Prop) (a w : Nat → Int32) (r : Nat → Int64) (x y : Int32) (p q : Nat) (hx : x = nI p) (hy : y = nI q) (hp : p < 20) (hq : q < 20) (h : post (dd_sw a p q, w, r)) : wpX_swapNumbers post (a, w, r) x y := by
  have y1 := dd_ix x p 20 hx hp (by decide)
  have y2 := dd_ix y q 20 hy hq (by decide)
  refine ⟨y1.1, nm_e ⟨y2.1, y1.1, nm_e ⟨y2.1, nm_e ?_⟩⟩⟩
  rw [y1.2, y2.2]
  exact h
def dd_sr (i k : Nat) : Nat → Nat → (Nat → Int32) → (Nat → Int32)
  | 0, _, a => a
  | d + 1, j, a => dd_sr i k d (j + 1) (dd_sw a (5 * i + j) (5 * k + j))
theorem dd_srB (i k : Nat) (hi : i < 4) (hk : k < 4) : ∀ d j a, j + d = 4 → dd_B a → dd_B (dd_sr i k d j a)
  | 0, _, _, _, h => h
  | d + 1, j, a, hd, h => dd_srB i k hi hk d (j + 1) _ (by omega) (dd_swB h (by omega) (by omega))
theorem dd_srX (post : Int32 → SX → Prop) (w : Nat → Int32) (r : Nat → Int64) (i k : Nat) (hi : i < 4) (hk : k < 4) : ∀ d j a, j + d = 4 → post 1 (dd_sr i k d j a, w, r) → wX_swapRows_18 post (nI i) (nI k) (d + 1) (nI j) a w r := by
  intro d
  induction d with
  | zero =>
    intro j a hd h
    obtain rfl : j = 4 := by omega
    exact br_t (show (4 : Int32) ≤ nI 4 from by decide) h
  | succ d ih =>
    intro j a hd h
    exact br_f (nI_ge (b := 4) (by omega) (by decide)) (dd_swN _ a w r _ _ (5 * i + j) (5 * k + j) (dd_i5 i j) (dd_i5 k j) (by omega) (by omega) (by exact nm_r (nI_1 j) (ih (j + 1) _ (by omega) h)))
theorem dd_srY (post : Int32 → SY → Prop) (p : Nat → Int32) (t : Nat → Int64) (i k : Nat) (hi : i < 4) (hk : k < 4) : ∀ d j a, j + d = 4 → post 1 (dd_sr i k d j a, p, t) → wY_swapRows_20 post (nI i) (nI k) (d + 1) (nI j) a p t := by
  intro d
  induction d with
  | zero =>
    intro j a hd h
    obtain rfl : j = 4 := by omega
    exact br_t (show (4 : Int32) ≤ nI 4 from by decide) h
  | succ d ih =>
    intro j a hd h
    have y1 := dd_ix (5 * nI i + nI j) (5 * i + j) 20 (dd_5i i j) (by omega) (by decide)
    have y2 := dd_ix (5 * nI k + nI j) (5 * k + j) 20 (dd_5i k j) (by omega) (by decide)
    refine br_f (nI_ge (b := 4) (by omega) (by decide)) ⟨y1.1, nm_e ⟨y2.1, y1.1, nm_e ⟨y2.1, nm_e (nm_r (nI_1 j) ?_)⟩⟩⟩
    rw [y1.2, y2.2]
    exact ih (j + 1) _ (by omega) h
theorem dd_swY0 (post : Int32 → SY → Prop) (a p : Nat → Int32) (t : Nat → Int64) (v1 v2 : Int32) (h : v1 < 0 ∨ (¬ v1 < 0 ∧ 4 ≤ v1 ∧ 3 < v1)) (hp : post 0 (a, p, t)) : wpY_swapRows post (a, p, t) v1 v2 := by
  unfold wpY_swapRows
  dsimp only
  exact dd_rwF _ _ h (by exact br_t rfl hp)
theorem dd_swY1 (post : Int32 → SY → Prop) (a p : Nat → Int32) (t : Nat → Int64) (i : Nat) (v2 : Int32) (hi : i < 4) (h : v2 < 0 ∨ (¬ v2 < 0 ∧ 4 ≤ v2 ∧ 3 < v2)) (hp : post 0 (a, p, t)) : wpY_swapRows post (a, p, t) (nI i) v2 := by
  unfold wpY_swapRows
  dsimp only
  exact dd_rwT _ _ hi (by exact br_f (by decide) (dd_rwF _ _ h (by exact br_t rfl hp)))
theorem dd_swY2 (post : Int32 → SY → Prop) (a p : Nat → Int32) (t : Nat → Int64) (i j : Nat) (hi : i < 4) (hj : j < 4) (hp : post 1 (dd_sr i j 4 0 a, p, t)) : wpY_swapRows post (a, p, t) (nI i) (nI j) := by
  unfold wpY_swapRows
  dsimp only
  exact dd_rwT _ _ hi (by exact br_f (by decide) (dd_rwT _ _ hj (by exact br_f (by decide) ⟨5, dd_srY _ p t i j hi hj 4 0 a (by omega) hp⟩)))
theorem i_vc_swapRows {k : Nat} {u : SX} {v : SY} (I : i_Rel k u v) (hk : k + 4 ≤ 2048) (v1 : Int32) (v2 : Int32) : wpX_swapRows (fun r u' => wpY_swapRows (fun r' v' => r' = r ∧ i_Rel (k + 4) u' v') v v1 v2) u v1 v2 := by
  obtain ⟨a, w, r, p, t, rfl, rfl, hB⟩ := I
  unfold wpX_swapRows
  dsimp only
  rcases dd_line v1 with h | ⟨i, hi, rfl⟩
  · exact dd_lnF _ h (by exact br_t rfl (dd_swY0 _ a p t _ _ h ⟨rfl, dd_rel hB⟩))
  · rcases dd_line v2 with h | ⟨j, hj, rfl⟩
    · exact dd_lnT _ hi (by exact br_f (by decide) (dd_lnF _ h (by exact br_t rfl (dd_swY1 _ a p t _ _ hi h ⟨rfl, dd_rel hB⟩))))
    · exact dd_lnT _ hi (by exact br_f (by decide) (dd_lnT _ hj (by exact br_f (by decide) ⟨5, dd_srX _ w r i j hi hj 4 0 a (by omega) (dd_swY2 _ a p t i j hi hj ⟨rfl, dd_rel (dd_srB i j hi hj 4 0 a (by omega) hB)⟩)⟩)))
/-! addRow -/
def dd_sm (a : Nat → Int32) (f : Int32) (i k j : Nat) : Int32 := a (5 * i + j) + f * a (5 * k + j)
def dd_ok (a : Nat → Int32) (f : Int32) (i k j : Nat) : Prop := -50 ≤ (dd_sm a f i k j).toInt ∧ (dd_sm a f i k j).toInt ≤ 50
def dd_ar (f : Int32) (i k : Nat) : Nat → Nat → (Nat → Int32) → (Nat → Int32)
  | 0, _, a => a
  | d + 1, j, a => dd_ar f i k d (j + 1) (upd a (5 * i + j) (dd_sm a f i k j))
theorem dd_arB (a : Nat → Int32) (f : Int32) (i k : Nat) (hi : i < 4) (hk : k < 4) (hn : i ≠ k) (ho : ∀ j, j < 4 → dd_ok a f i k j) : ∀ d j b, j + d = 4 → dd_B b → (∀ j', j ≤ j' → j' < 4 → b (5 * i + j') = a (5 * i + j') ∧ b (5 * k + j') = a (5 * k + j')) → dd_B (dd_ar f i k d j b)
  | 0, _, _, _, h, _ => h
  | d + 1, j, b, hd, h, e => by
    have e1 := e j (Nat.le_refl _) (by omega)
    have e2 : dd_sm b f i k j = dd_sm a f i k j := by simp only [dd_sm, e1.1, e1.2]
    have h1 : dd_B (upd b (5 * i + j) (dd_sm b f i k j)) := dd_upB h (by rw [e2]; exact ho j (by omega))
    refine dd_arB a f i k hi hk hn ho d (j + 1) _ (by omega) h1 (fun j' h2 h3 => ?_)
    rw [pk_un (by omega), pk_un (by omega)]
    exact e j' (by omega) h3
theorem dd_x90 (post : Int32 → SX → Prop) (w : Nat → Int32) (r : Nat → Int64) (f : Int32) (i k : Nat) (hi : i < 4) (hk : k < 4) : ∀ d j a, j + d = 4 → post 1 (dd_ar f i k d j a, w, r) → wX_addRow_90 post (nI i) (nI k) f (d + 1) (nI j) a w r := by
  intro d
  induction d with
  | zero =>
    intro j a hd h
    obtain rfl : j = 4 := by omega
    exact br_t (show (4 : Int32) ≤ nI 4 from by decide) h
  | succ d ih =>
    intro j a hd h
    have y1 := dd_ix (nI i * 5 + nI j) (5 * i + j) 20 (dd_i5 i j) (by omega) (by decide)
    have y2 := dd_ix (nI k * 5 + nI j) (5 * k + j) 20 (dd_i5 k j) (by omega) (by decide)
    refine br_f (nI_ge (b := 4) (by omega) (by decide)) ⟨y1.1, y2.1, y1.1, nm_e (nm_r (nI_1 j) ?_)⟩
    rw [y1.2, y2.2]
    exact ih (j + 1) _ (by omega) h
theorem dd_y103 (post : Int32 → SY → Prop) (p : Nat → Int32) (t : Nat → Int64) (f : Int32) (i k : Nat) (hi : i < 4) (hk : k < 4) : ∀ d j a, j + d = 4 → post 1 (dd_ar f i k d j a, p, t) → wY_addRow_103 post (nI i) (nI k) f 1 (d + 1) (nI j) a p t := by
  intro d
  induction d with
  | zero =>
    intro j a hd h
    obtain rfl : j = 4 := by omega
    exact br_t (show (4 : Int32) ≤ nI 4 from by decide) ⟨rfl, h⟩
  | succ d ih =>
    intro j a hd h
    have y1 := dd_ix (5 * nI i + nI j) (5 * i + j) 20 (dd_5i i j) (by omega) (by decide)
    have y2 := dd_ix (5 * nI k + nI j) (5 * k + j) 20 (dd_5i k j) (by omega) (by decide)
    refine br_f (nI_ge (b := 4) (by omega) (by decide)) (br_f (by decide) ⟨y1.1, y2.1, y1.1, nm_e (nm_r (nI_1 j) ?_)⟩)
    rw [y1.2, y2.2]
    exact ih (j + 1) _ (by omega) h
theorem dd_x38 (post : Int32 → SX → Prop) (a w : Nat → Int32) (r : Nat → Int64) (f : Int32) (i k : Nat) (hi : i < 4) (hk : k < 4) : ∀ d j, j + d = 4 → (((∀ j', j ≤ j' → j' < 4 → dd_ok a f i k j') → ∃ n, wX_addRow_90 post (nI i) (nI k) f n 0 a w r) ∧ ((¬ ∀ j', j ≤ j' → j' < 4 → dd_ok a f i k j') → post 0 (a, w, r))) → wX_addRow_38 post (nI i) (nI k) f a w r (d + 1) (nI j) := by
  intro d
  induction d with
  | zero =>
    intro j hd h
    obtain rfl : j = 4 := by omega
    exact br_t (show (4 : Int32) ≤ nI 4 from by decide) (h.1 (fun j' h1 h2 => by omega))
  | succ d ih =>
    intro j hd h
    have y1 := dd_ix (nI i * 5 + nI j) (5 * i + j) 20 (dd_i5 i j) (by omega) (by decide)
    have y2 := dd_ix (nI k * 5 + nI j) (5 * k + j) 20 (dd_i5 k j) (by omega) (by decide)
    refine br_f (nI_ge (b := 4) (by omega) (by decide)) ⟨y1.1, y2.1, nm_r (e' := dd_sm a f i k j) (by rw [y1.2, y2.2]; rfl) ?_⟩
    by_cases ho : dd_ok a f i k j
    · refine dd_nmT _ (dd_numI _ ho) ?_
      refine br_f (by decide) (nm_r (nI_1 j) (ih (j + 1) (by omega) ⟨fun g => h.1 (fun j' h1 h2 => ?_), fun g => h.2 (fun y => g (fun j' h1 h2 => y j' (by omega) h2))⟩))
      by_cases e : j' = j
      · rw [e]; exact ho
      · exact g j' (by omega) h2
    · exact dd_nmF _ (dd_numF _ ho) (by exact br_t rfl (h.2 (fun y => ho (y j (Nat.le_refl _) (by omega)))))
theorem dd_y410 (post : Int32 → SY → Prop) (a p : Nat → Int32) (t : Nat → Int64) (f : Int32) (i k : Nat) (hp : post 0 (a, p, t)) : ∀ d j, j + d = 4 → wY_addRow_41 post (nI i) (nI k) f a p t (d + 1) 0 (nI j) := by
  intro d
  induction d with
  | zero =>
    intro j hd
    obtain rfl : j = 4 := by omega
    exact br_t (show (4 : Int32) ≤ nI 4 from by decide) ⟨1, br_f (by decide) (br_t rfl ⟨rfl, hp⟩)⟩
  | succ d ih =>
    intro j hd
    exact br_f (nI_ge (b := 4) (by omega) (by decide)) (br_t rfl (nm_r (nI_1 j) (ih (j + 1) (by omega))))
theorem dd_y41 (post : Int32 → SY → Prop) (a p : Nat → Int32) (t : Nat → Int64) (f : Int32) (i k : Nat) (hi : i < 4) (hk : k < 4) : ∀ d j, j + d = 4 → (((∀ j', j ≤ j' → j' < 4 → dd_ok a f i k j') → ∃ n, wY_addRow_103 post (nI i) (nI k) f 1 n 0 a p t) ∧ ((¬ ∀ j', j ≤ j' → j' < 4 → dd_ok a f i k j') → post 0 (a, p, t))) → wY_addRow_41 post (nI i) (nI k) f a p t (d + 1) 1 (nI j) := by
  intro d
  induction d with
  | zero =>
    intro j hd h
    obtain rfl : j = 4 := by omega
    exact br_t (show (4 : Int32) ≤ nI 4 from by decide) (h.1 (fun j' h1 h2 => by omega))
  | succ d ih =>
    intro j hd h
    have y1 := dd_ix (5 * nI i + nI j) (5 * i + j) 20 (dd_5i i j) (by omega) (by decide)
    have y2 := dd_ix (5 * nI k + nI j) (5 * k + j) 20 (dd_5i k j) (by omega) (by decide)
    refine br_f (nI_ge (b := 4) (by omega) (by decide)) (br_f (by decide) ⟨y1.1, y2.1, ?_⟩)
    rw [y1.2, y2.2]
    by_cases ho : dd_ok a f i k j
    · refine dd_ftT _ (a, p, t) hi (by omega) (dd_numI _ ho) ?_
      refine br_f (by decide) (nm_r (nI_1 j) (ih (j + 1) (by omega) ⟨fun g => h.1 (fun j' h1 h2 => ?_), fun g => h.2 (fun y => g (fun j' h1 h2 => y j' (by omega) h2))⟩))
      by_cases e : j' = j
      · rw [e]; exact ho
      · exact g j' (by omega) h2
    · exact dd_ftF _ (a, p, t) hi (by omega) (dd_numF _ ho) (by exact br_t rfl (nm_r (nI_1 j) (dd_y410 post a p t f i k (h.2 (fun y => ho (y j (Nat.le_refl _) (by omega)))) d (j + 1) (by omega))))
theorem i_vc_addRow {k : Nat} {u : SX} {v : SY} (I : i_Rel k u v) (hk : k + 4 ≤ 2048) (v1 : Int32) (v2 : Int32) (v3 : Int32) : wpX_addRow (fun r u' => wpY_addRow (fun r' v' => r' = r ∧ i_Rel (k + 4) u' v') v v1 v2 v3) u v1 v2 v3 := by
  obtain ⟨a, w, r, p, t, rfl, rfl, hB⟩ := I
  unfold wpX_addRow
  dsimp only
  rcases dd_line v1 with h | ⟨i, hi, rfl⟩
  · refine dd_lnF _ h (by exact br_t rfl (br_c (fun _ => ⟨rfl, dd_rel hB⟩) (fun _ => dd_rwF _ (a, p, t) h (by exact br_t rfl ⟨rfl, dd_rel hB⟩))))
  · rcases dd_line v2 with h | ⟨j, hj, rfl⟩
    · refine dd_lnT _ hi (by exact br_f (by decide) (dd_lnF _ h (by exact br_t rfl (br_c (fun _ => ⟨rfl, dd_rel hB⟩) (fun _ => dd_rwT _ (a, p, t) hi (by exact br_f (by decide) (dd_rwF _ (a, p, t) h (by exact br_t rfl ⟨rfl, dd_rel hB⟩))))))))
    · refine dd_lnT _ hi ?_
      refine br_f (by decide) (dd_lnT _ hj ?_)
      refine br_f (by decide) ?_
      by_cases e : nI i = nI j
      · exact br_t e (br_t e ⟨rfl, dd_rel hB⟩)
      · have hn : i ≠ j := fun z => e (by rw [z])
        refine br_f e ?_
        by_cases f1 : v3 < -9
        · exact br_t f1 (br_f e (dd_rwT _ (a, p, t) hi (by exact br_f (by decide) (dd_rwT _ (a, p, t) hj (by exact br_f (by decide) (br_t f1 ⟨rfl, dd_rel hB⟩))))))
        · by_cases f2 : v3 ≤ 9
          · refine br_f f1 (br_t f2 ⟨5, dd_x38 _ a w r v3 i j hi hj 4 0 (by omega) ⟨fun g => ⟨5, dd_x90 _ w r v3 i j hi hj 4 0 a (by omega) ?_⟩, fun g => ?_⟩⟩)
            · exact br_f e (dd_rwT _ (a, p, t) hi (by exact br_f (by decide) (dd_rwT _ (a, p, t) hj (by exact br_f (by decide) (br_f f1 (br_t f2 ⟨5, dd_y41 _ a p t v3 i j hi hj 4 0 (by omega) ⟨fun _ => ⟨5, dd_y103 _ p t v3 i j hi hj 4 0 a (by omega) ⟨rfl, dd_rel (dd_arB a v3 i j hi hj hn (fun j' h => g j' (by omega) h) 4 0 a (by omega) hB (fun _ _ _ => ⟨rfl, rfl⟩))⟩⟩, fun z => absurd g z⟩⟩))))))
            · exact br_f e (dd_rwT _ (a, p, t) hi (by exact br_f (by decide) (dd_rwT _ (a, p, t) hj (by exact br_f (by decide) (br_f f1 (br_t f2 ⟨5, dd_y41 _ a p t v3 i j hi hj 4 0 (by omega) ⟨fun z => absurd z g, fun _ => ⟨rfl, dd_rel hB⟩⟩⟩))))))
          · exact br_f f1 (br_f f2 (br_f e (dd_rwT _ (a, p, t) hi (by exact br_f (by decide) (dd_rwT _ (a, p, t) hj (by exact br_f (by decide) (br_f f1 (br_f f2 ⟨rfl, dd_rel hB⟩))))))))
/-! transpose -/
def dd_tj (i : Nat) : Nat → Nat → (Nat → Int32) → (Nat → Int32)
  | 0, _, a => a
  | d + 1, j, a => dd_tj i d (j + 1) (dd_sw a (5 * i + j) (5 * j + i))
def dd_ti : Nat → Nat → (Nat → Int32) → (Nat → Int32)
  | 0, _, a => a
  | d + 1, i, a => dd_ti d (i + 1) (dd_tj i i 0 a)
def dd_tr (a : Nat → Int32) (c : Nat) : Int32 := if c < 20 ∧ c % 5 < 4 then a (5 * (c % 5) + c / 5) else a c
theorem dd_t9 (post : SX → Prop) (J : Int32 → (Nat → Int32) → (Nat → Int32) → (Nat → Int64) → Prop) (w : Nat → Int32) (r : Nat → Int64) (i : Nat) (hi : i < 4) : ∀ d j a, j + d = i → J (nI (i + 1)) (dd_tj i d j a) w r → wX_transpose_9 post J (nI i) (d + 1) (nI j) a w r := by
  intro d
  induction d with
  | zero =>
    intro j a hd h
    exact br_t (nI_le (by omega) (by omega)) (nm_r (nI_1 i) h)
  | succ d ih =>
    intro j a hd h
    exact br_f (nI_ge (by omega) (by omega)) (dd_swN _ a w r _ _ (5 * i + j) (5 * j + i) (dd_i5 i j) (dd_i5 j i) (by omega) (by omega) (by exact nm_r (nI_1 j) (ih (j + 1) _ (by omega) h)))
theorem dd_tX2 (post : SX → Prop) (w : Nat → Int32) (r : Nat → Int64) : ∀ d i a, i + d = 4 → post (dd_ti d i a, w, r) → wX_transpose_2 post (d + 1) (nI i) a w r := by
  intro d
  induction d with
  | zero =>
    intro i a hd h
    obtain rfl : i = 4 := by omega
    exact br_t (show (4 : Int32) ≤ nI 4 from by decide) h
  | succ d ih =>
    intro i a hd h
    exact br_f (nI_ge (b := 4) (by omega) (by decide)) ⟨i + 1, dd_t9 post _ w r i (by omega) i 0 a (by omega) (ih (i + 1) _ (by omega) h)⟩
theorem dd_trX (a : Nat → Int32) : dd_ti 4 0 a = dd_tr a := by
  funext c
  match c with
  | 0 | 1 | 2 | 3 | 4 | 5 | 6 | 7 | 8 | 9 | 10 | 11 | 12 | 13 | 14 | 15 | 16 | 17 | 18 | 19 => simp [dd_ti, dd_tj, dd_sw, upd, dd_tr]
  | n + 20 =>
    simp [dd_ti, dd_tj, dd_sw, upd, dd_tr]
    intro h
    omega
theorem dd_trB {a : Nat → Int32} (h : dd_B a) : dd_B (dd_tr a) := by
  intro c hc
  simp only [dd_tr]
  split
  · exact h _ (by omega)
  · exact h _ hc
theorem dd_keep (post : SY → Prop) (a k : Nat → Int32) (t : Nat → Int64) (h : ∀ k', (∀ c, c < 20 → k' c = a c) → post (a, k', t)) : wpY_keep post (a, k, t) := by
  refine pk_loop (σ := Nat → Int32) (fun n c k' => wY_keep_2 post n (nI c) a k' t) (fun c k' => ∀ c', c' < c → k' c' = a c') 20 0 k (by omega) (fun c' hc' => by omega) ?_ ?_
  · intro n k' g
    exact br_t (show (20 : Int32) ≤ nI 20 from by decide) (h k' g)
  · intro n c k' hc g kk
    refine br_f (nI_ge (b := 20) hc (by decide)) ⟨vp_in_nI hc (by decide), vp_in_nI hc (by decide), nm_e (nm_r (nI_1 c) (kk _ (fun c' hc' => ?_)))⟩
    rw [nI_clamp (by omega)]
    by_cases e : c' = c
    · rw [e, pk_us]
    · rw [pk_un e]; exact g c' (by omega)
theorem dd_restore (post : SY → Prop) (a b k : Nat → Int32) (t : Nat → Int64) (hk : ∀ c, c < 20 → k c = b c) (ha : ∀ c, 20 ≤ c → a c = b c) (h : post (b, k, t)) : wpY_restore post (a, k, t) := by
  refine pk_loop (σ := Nat → Int32) (fun n c a' => wY_restore_2 post n (nI c) a' k t) (fun c a' => (∀ c', c' < c → a' c' = b c') ∧ (∀ c', 20 ≤ c' → a' c' = b c')) 20 0 a (by omega) ⟨fun c' hc' => by omega, ha⟩ ?_ ?_
  · intro n a' ⟨g1, g2⟩
    have e : a' = b := by
      funext c
      by_cases e : c < 20
      · exact g1 c e
      · exact g2 c (by omega)
    rw [e]
    exact br_t (show (20 : Int32) ≤ nI 20 from by decide) h
  · intro n c a' hc ⟨g1, g2⟩ kk
    refine br_f (nI_ge (b := 20) hc (by decide)) ⟨vp_in_nI hc (by decide), vp_in_nI hc (by decide), nm_e (nm_r (nI_1 c) (kk _ ⟨fun c' hc' => ?_, fun c' hc' => ?_⟩))⟩
    · rw [nI_clamp (by omega)]
      by_cases e : c' = c
      · rw [e, pk_us]; exact hk c hc
      · rw [pk_un e]; exact g1 c' (by omega)
    · rw [nI_clamp (by omega), pk_un (by omega)]
      exact g2 c' hc'
theorem dd_trY (post : SY → Prop) (a k : Nat → Int32) (t : Nat → Int64) (h : ∀ k', post (dd_tr a, k', t)) : wpY_transpose post (a, k, t) := by
  unfold wpY_transpose
  refine dd_keep _ a k t (fun k' hk => ?_)
  refine pk_loop (σ := Nat → Int32) (fun n c a' => wY_transpose_6 post n (nI c) a' k' t) (fun n a' => ∀ c, a' c = if c < 20 ∧ c % 5 < 4 ∧ 4 * (c / 5) + c % 5 < n then a (5 * (c % 5) + c / 5) else a c) 16 0 a (by omega) (fun c => by rw [if_neg (by omega)]) ?_ ?_
  · intro n a' g
    have e : a' = dd_tr a := by
      funext c
      rw [g c]
      simp only [dd_tr]
      by_cases e : c < 20 ∧ c % 5 < 4
      · rw [if_pos e, if_pos (by omega)]
      · rw [if_neg e, if_neg (by omega)]
    rw [e]
    exact br_t (show (16 : Int32) ≤ nI 16 from by decide) (h k')
  · intro n m a' hm g kk
    have d1 : nI m / 4 = nI (m / 4) := pk_div (d := 4) (by omega) (by decide) (by decide)
    have d2 : nI m - nI m / 4 * 4 = nI (m % 4) := pk_rem (d := 4) (by omega) (by decide) (by decide)
    have y1 := dd_ix (5 * (nI m - nI m / 4 * 4) + nI m / 4) (5 * (m % 4) + m / 4) 20 (by rw [d2, d1, dd_5i]) (by omega) (by decide)
    have y2 := dd_ix (5 * (nI m / 4) + (nI m - nI m / 4 * 4)) (5 * (m / 4) + m % 4) 20 (by rw [d2, d1, dd_5i]) (by omega) (by decide)
    refine br_f (nI_ge (b := 16) hm (by decide)) ⟨by decide, by decide, by decide, by decide, y1.1, y2.1, nm_e (nm_r (nI_1 m) (kk _ (fun c => ?_)))⟩
    rw [y1.2, y2.2, hk _ (by omega)]
    by_cases e : c = 5 * (m / 4) + m % 4
    · rw [e, pk_us, if_pos (by omega)]
      congr 1
      omega
    · rw [pk_un e, g c]
      by_cases e1 : c < 20 ∧ c % 5 < 4 ∧ 4 * (c / 5) + c % 5 < m
      · rw [if_pos e1, if_pos (by omega)]
      · rw [if_neg e1, if_neg (by omega)]
theorem i_vc_transpose {k : Nat} {u : SX} {v : SY} (I : i_Rel k u v) (hk : k + 4 ≤ 2048) : wpX_transpose (fun u' => wpY_transpose (fun v' => i_Rel (k + 4) u' v') v) u := by
  obtain ⟨a, w, r, p, t, rfl, rfl, hB⟩ := I
  refine ⟨5, dd_tX2 _ w r 4 0 a (by omega) ?_⟩
  rw [dd_trX]
  exact dd_trY _ a p t (fun k' => dd_rel (dd_trB hB))
end
section
/-! the class's determinant, and its scratch matrix -/
def dd_uP (w : Nat → Int32) (l r : Nat) : Int32 := w l * w (4 + r) - w r * w (4 + l)
def dd_lP (w : Nat → Int32) (l r : Nat) : Int32 := w (8 + l) * w (12 + r) - w (8 + r) * w (12 + l)
def dd_dt (w : Nat → Int32) : Int32 := dd_uP w 0 1 * dd_lP w 2 3 - dd_uP w 0 2 * dd_lP w 1 3 + dd_uP w 0 3 * dd_lP w 1 2 + dd_uP w 1 2 * dd_lP w 0 3 - dd_uP w 1 3 * dd_lP w 0 2 + dd_uP w 2 3 * dd_lP w 0 1
def dd_uI (w : Nat → Int) (l r : Nat) : Int := w l * w (4 + r) - w r * w (4 + l)
def dd_lI (w : Nat → Int) (l r : Nat) : Int := w (8 + l) * w (12 + r) - w (8 + r) * w (12 + l)
def dd_dI (w : Nat → Int) : Int := dd_uI w 0 1 * dd_lI w 2 3 - dd_uI w 0 2 * dd_lI w 1 3 + dd_uI w 0 3 * dd_lI w 1 2 + dd_uI w 1 2 * dd_lI w 0 3 - dd_uI w 1 3 * dd_lI w 0 2 + dd_uI w 2 3 * dd_lI w 0 1
theorem dd_dtI (w : Nat → Int32) (x : Nat → Int) (h : ∀ c, c < 16 → w c = Int32.ofInt (x c)) : dd_dt w = Int32.ofInt (dd_dI x) := by
  simp only [dd_dt, dd_uP, dd_lP, dd_dI, dd_uI, dd_lI, Nat.reduceAdd, Int32.ofInt_add, Int32.ofInt_sub, Int32.ofInt_mul, h 0 (by decide), h 1 (by decide), h 2 (by decide), h 3 (by decide), h 4 (by decide), h 5 (by decide), h 6 (by decide), h 7 (by decide), h 8 (by decide), h 9 (by decide), h 10 (by decide), h 11 (by decide), h 12 (by decide), h 13 (by decide), h 14 (by decide), h 15 (by decide)]
theorem dd_4n (i : Nat) : (4 : Int32) + nI i = nI (4 + i) := by rw [← nI_add]; rfl
theorem dd_8n (i : Nat) : (8 : Int32) + nI i = nI (8 + i) := by rw [← nI_add]; rfl
theorem dd_12n (i : Nat) : (12 : Int32) + nI i = nI (12 + i) := by rw [← nI_add]; rfl
theorem dd_upX (post : Int32 → Prop) (a w : Nat → Int32) (r : Nat → Int64) (l q : Nat) (hl : l < 4) (hq : q < 4) (h : post (dd_uP w l q)) : wpX_upperPair post (a, w, r) (nI l) (nI q) := by
  have y1 := dd_ix (nI l) l 16 rfl (by omega) (by decide)
  have y2 := dd_ix (4 + nI q) (4 + q) 16 (dd_4n q) (by omega) (by decide)
  have y3 := dd_ix (nI q) q 16 rfl (by omega) (by decide)
  have y4 := dd_ix (4 + nI l) (4 + l) 16 (dd_4n l) (by omega) (by decide)
  refine ⟨y1.1, y2.1, y3.1, y4.1, ?_⟩
  rw [y1.2, y2.2, y3.2, y4.2]
  exact h
theorem dd_loX (post : Int32 → Prop) (a w : Nat → Int32) (r : Nat → Int64) (l q : Nat) (hl : l < 4) (hq : q < 4) (h : post (dd_lP w l q)) : wpX_lowerPair post (a, w, r) (nI l) (nI q) := by
  have y1 := dd_ix (8 + nI l) (8 + l) 16 (dd_8n l) (by omega) (by decide)
  have y2 := dd_ix (12 + nI q) (12 + q) 16 (dd_12n q) (by omega) (by decide)
  have y3 := dd_ix (8 + nI q) (8 + q) 16 (dd_8n q) (by omega) (by decide)
  have y4 := dd_ix (12 + nI l) (12 + l) 16 (dd_12n l) (by omega) (by decide)
  refine ⟨y1.1, y2.1, y3.1, y4.1, ?_⟩
  rw [y1.2, y2.2, y3.2, y4.2]
  exact h
theorem dd_wdX (post : Int32 → Prop) (a w : Nat → Int32) (r : Nat → Int64) (h : post (dd_dt w)) : wpX_workDeterminant post (a, w, r) := by
  unfold wpX_workDeterminant
  dsimp only
  refine dd_upX _ a w r 0 1 (by decide) (by decide) ?_
  refine dd_loX _ a w r 2 3 (by decide) (by decide) ?_
  refine nm_e ?_
  refine dd_upX _ a w r 0 2 (by decide) (by decide) ?_
  refine dd_loX _ a w r 1 3 (by decide) (by decide) ?_
  refine nm_e ?_
  refine dd_upX _ a w r 0 3 (by decide) (by decide) ?_
  refine dd_loX _ a w r 1 2 (by decide) (by decide) ?_
  refine nm_e ?_
  refine dd_upX _ a w r 1 2 (by decide) (by decide) ?_
  refine dd_loX _ a w r 0 3 (by decide) (by decide) ?_
  refine nm_e ?_
  refine dd_upX _ a w r 1 3 (by decide) (by decide) ?_
  refine dd_loX _ a w r 0 2 (by decide) (by decide) ?_
  refine nm_e ?_
  refine dd_upX _ a w r 2 3 (by decide) (by decide) ?_
  refine dd_loX _ a w r 0 1 (by decide) (by decide) ?_
  exact nm_e h
theorem dd_cm9 (post : SX → Prop) (J : Int32 → (Nat → Int32) → (Nat → Int32) → (Nat → Int64) → Prop) (a w : Nat → Int32) (r : Nat → Int64) (i : Nat) (hi : i < 4) (hw : ∀ c, c < 4 * i → w c = a (5 * (c / 4) + c % 4))
    (h : ∀ w', (∀ c, c < 4 * (i + 1) → w' c = a (5 * (c / 4) + c % 4)) → J (nI (i + 1)) a w' r) : ∃ n, wX_copyMatrixToWork_9 post J (nI i) n 0 a w r := by
  refine pk_loop (σ := Nat → Int32) (fun n j w' => wX_copyMatrixToWork_9 post J (nI i) n (nI j) a w' r) (fun j w' => ∀ c, c < 4 * i + j → w' c = a (5 * (c / 4) + c % 4)) 4 0 w (by omega) hw ?_ ?_
  · intro n w' g
    exact br_t (show (4 : Int32) ≤ nI 4 from by decide) (nm_r (nI_1 i) (h w' g))
  · intro n j w' hj g k
    have y1 := dd_ix (nI i * 5 + nI j) (5 * i + j) 20 (dd_i5 i j) (by omega) (by decide)
    have y2 := dd_ix (nI i * 4 + nI j) (4 * i + j) 16 (dd_i4 i j) (by omega) (by decide)
    refine br_f (nI_ge (b := 4) hj (by decide)) ⟨y1.1, y2.1, nm_e (nm_r (nI_1 j) (k _ (fun c hc => ?_)))⟩
    rw [y1.2, y2.2]
    by_cases e : c = 4 * i + j
    · rw [e, pk_us]
      congr 1
      omega
    · rw [pk_un e]
      exact g c (by omega)
theorem dd_cm (post : SX → Prop) (a w : Nat → Int32) (r : Nat → Int64) (h : ∀ w', (∀ c, c < 16 → w' c = a (5 * (c / 4) + c % 4)) → post (a, w', r)) : wpX_copyMatrixToWork post (a, w, r) := by
  refine pk_loop (σ := Nat → Int32) (fun n i w' => wX_copyMatrixToWork_2 post n (nI i) a w' r) (fun i w' => ∀ c, c < 4 * i → w' c = a (5 * (c / 4) + c % 4)) 4 0 w (by omega) (fun c hc => by omega) ?_ ?_
  · intro n w' g
    exact br_t (show (4 : Int32) ≤ nI 4 from by decide) (h w' g)
  · intro n i w' hi g k
    exact br_f (nI_ge (b := 4) hi (by decide)) (dd_cm9 post _ a w' r i hi g (fun w2 g2 => k w2 g2))
theorem dd_rw (post : SX → Prop) (a w : Nat → Int32) (r : Nat → Int64) (i j : Nat) (hi : i < 4) (hj : j < 4) (h : ∀ w', (∀ c, c < 16 → w' c = if c = 4 * i + j then 1 else if c / 4 = i ∨ c % 4 = j then 0 else w c) → post (a, w', r)) : wpX_reduceWorkToUnit post (a, w, r) (nI i) (nI j) := by
  refine pk_loop (σ := Nat → Int32) (fun n m w' => wX_reduceWorkToUnit_2 post (nI i) (nI j) n (nI m) a w' r) (fun m w' => ∀ c, c < 16 → w' c = if (c / 4 = i ∧ c % 4 < m) ∨ (c % 4 = j ∧ c / 4 < m) then 0 else w c) 4 0 w (by omega) (fun c hc => by rw [if_neg (by omega)]) ?_ ?_
  · intro n w' g
    have y1 := dd_ix (nI i * 4 + nI j) (4 * i + j) 16 (dd_i4 i j) (by omega) (by decide)
    refine br_t (show (4 : Int32) ≤ nI 4 from by decide) ⟨y1.1, nm_e (h _ (fun c hc => ?_))⟩
    rw [y1.2]
    by_cases e : c = 4 * i + j
    · rw [e, pk_us, if_pos rfl]
    · rw [pk_un e, if_neg e, g c hc]
      by_cases e1 : c / 4 = i ∨ c % 4 = j
      · rw [if_pos e1, if_pos (by omega)]
      · rw [if_neg e1, if_neg (by omega)]
  · intro n m w' hm g k
    have y1 := dd_ix (nI i * 4 + nI m) (4 * i + m) 16 (dd_i4 i m) (by omega) (by decide)
    have y2 := dd_ix (nI m * 4 + nI j) (4 * m + j) 16 (dd_i4 m j) (by omega) (by decide)
    refine br_f (nI_ge (b := 4) hm (by decide)) ⟨y1.1, nm_e ⟨y2.1, nm_e (nm_r (nI_1 m) (k _ (fun c hc => ?_)))⟩⟩
    rw [y1.2, y2.2]
    by_cases e : c = 4 * m + j
    · rw [e, pk_us, if_pos (by omega)]
    · rw [pk_un e]
      by_cases e1 : c = 4 * i + m
      · rw [e1, pk_us, if_pos (by omega)]
      · rw [pk_un e1, g c hc]
        by_cases e2 : (c / 4 = i ∧ c % 4 < m) ∨ (c % 4 = j ∧ c / 4 < m)
        · rw [if_pos e2, if_pos (by omega)]
        · rw [if_neg e2, if_neg (by omega)]
/-! both determinants -/
theorem dd_dd (x : Nat → Int) (A : Nat → Nat → Int) (h : ∀ c, c < 16 → x c = A (c / 4) (c % 4)) : dd_dI x = dd_mn A (dd_rl 15 4) 15 := by
  have e : dd_mn A (dd_rl 15 4) 15 = dd_d4 (A 0) (A 1) (A 2) (A 3) 0 1 2 3 := dd_m4 A 0 1 2 3 0 1 2 3 (by decide) (by decide) (by decide) (by decide)
  rw [e]
  have h0 := h 0 (by decide)
  have h1 := h 1 (by decide)
  have h2 := h 2 (by decide)
  have h3 := h 3 (by decide)
  have h4 := h 4 (by decide)
  have h5 := h 5 (by decide)
  have h6 := h 6 (by decide)
  have h7 := h 7 (by decide)
  have h8 := h 8 (by decide)
  have h9 := h 9 (by decide)
  have h10 := h 10 (by decide)
  have h11 := h 11 (by decide)
  have h12 := h 12 (by decide)
  have h13 := h 13 (by decide)
  have h14 := h 14 (by decide)
  have h15 := h 15 (by decide)
  simp only [Nat.reduceDiv, Nat.reduceMod] at h0 h1 h2 h3 h4 h5 h6 h7 h8 h9 h10 h11 h12 h13 h14 h15
  simp only [dd_dI, dd_uI, dd_lI, dd_d4, dd_d3, dd_d2, Nat.reduceAdd, h0, h1, h2, h3, h4, h5, h6, h7, h8, h9, h10, h11, h12, h13, h14, h15]
  grind
theorem dd_ddX (w a : Nat → Int32) (h : ∀ c, c < 16 → w c = a (5 * (c / 4) + c % 4)) : dd_dt w = Int32.ofInt (dd_mn (dd_A a) (dd_rl 15 4) 15) := by
  rw [dd_dtI w (fun c => dd_A a (c / 4) (c % 4)) (fun c hc => by rw [h c hc]; simp only [dd_A, Int32.ofInt_toInt])]
  rw [dd_dd _ (dd_A a) (fun c hc => rfl)]
theorem dd_detY (post : Int32 → SY → Prop) (a p : Nat → Int32) (t : Nat → Int64) (h : ∀ t', post (Int32.ofInt (dd_mn (dd_A a) (dd_rl 15 4) 15)) (a, p, t')) : wpY_determinant post (a, p, t) := by
  unfold wpY_determinant
  dsimp only
  refine dd_part _ a p t _ _ 15 15 rfl rfl (by decide) (by decide) (by decide) (fun t' => ?_)
  have := h t'
  rw [← Int64.toInt32_ofInt] at this
  exact this
theorem i_vc_determinant {k : Nat} {u : SX} {v : SY} (I : i_Rel k u v) (hk : k + 4 ≤ 2048) : wpX_determinant (fun r u' => wpY_determinant (fun r' v' => r' = r ∧ i_Rel (k + 4) u' v') v) u := by
  obtain ⟨a, w, r, p, t, rfl, rfl, hB⟩ := I
  unfold wpX_determinant
  dsimp only
  refine dd_cm _ a w r (fun w' hw => ?_)
  refine dd_wdX _ a w' r ?_
  refine dd_detY _ a p t (fun t' => ⟨(dd_ddX w' a hw).symm, dd_rel hB⟩)
/-! determinantWith -/
theorem dd_dwY (post : Int32 → SY → Prop) (a p : Nat → Int32) (t : Nat → Int64) (i j : Nat) (v3 : Int32) (hi : i < 4) (hj : j < 4) (n : ¬ v3 < -50 ∧ ¬ 50 < v3) (h : ∀ t', post (Int32.ofInt (dd_mn (dd_A (upd a (5 * i + j) v3)) (dd_rl 15 4) 15)) (a, p, t')) : wpY_determinantWith post (a, p, t) (nI i) (nI j) v3 := by
  have y := dd_ix (5 * nI i + nI j) (5 * i + j) 20 (dd_5i i j) (by omega) (by decide)
  unfold wpY_determinantWith
  dsimp only
  refine dd_ftT _ (a, p, t) hi (by omega) n ?_
  refine br_f (by decide) (br_f (fun z => ?_) ⟨y.1, nm_e ⟨y.1, nm_e ?_⟩⟩)
  · have := (nI_eq (b := 4) (by omega) (by decide)).mp z
    omega
  · rw [y.2]
    refine dd_detY _ _ p t (fun t' => ⟨y.1, nm_r (e' := a) ?_ (h t')⟩)
    funext c
    show upd (upd a (5 * i + j) v3) (5 * i + j) (a (5 * i + j)) c = a c
    by_cases e : c = 5 * i + j
    · rw [e, pk_us]
    · rw [pk_un e, pk_un e]
theorem dd_dwY0 (post : Int32 → SY → Prop) (a p : Nat → Int32) (t : Nat → Int64) (v1 v2 v3 : Int32) (h : ∀ post' : Int32 → Prop, post' 0 → wpY_fits post' (a, p, t) v1 v2 v3) (hp : post (-1000000000) (a, p, t)) : wpY_determinantWith post (a, p, t) v1 v2 v3 := by
  unfold wpY_determinantWith
  dsimp only
  exact h _ (br_t rfl hp)
theorem dd_dwY4 (post : Int32 → SY → Prop) (a p : Nat → Int32) (t : Nat → Int64) (i : Nat) (v3 : Int32) (hi : i < 4) (hp : post (-1000000000) (a, p, t)) : wpY_determinantWith post (a, p, t) (nI i) (nI 4) v3 := by
  unfold wpY_determinantWith
  dsimp only
  by_cases hn : -50 ≤ v3.toInt ∧ v3.toInt ≤ 50
  · refine dd_ftT _ (a, p, t) hi (by omega) (dd_numI _ hn) ?_
    exact br_f (by decide) (br_t rfl hp)
  · exact dd_ftF _ (a, p, t) hi (by omega) (dd_numF _ hn) (by exact br_t rfl hp)
theorem i_vc_determinantWith {k : Nat} {u : SX} {v : SY} (I : i_Rel k u v) (hk : k + 4 ≤ 2048) (v1 : Int32) (v2 : Int32) (v3 : Int32) : wpX_determinantWith (fun r u' => wpY_determinantWith (fun r' v' => r' = r ∧ i_Rel (k + 4) u' v') v v1 v2 v3) u v1 v2 v3 := by
  obtain ⟨a, w, r, p, t, rfl, rfl, hB⟩ := I
  unfold wpX_determinantWith
  dsimp only
  rcases dd_line v1 with h | ⟨i, hi, rfl⟩
  · exact dd_lnF _ h (by exact br_t rfl (dd_dwY0 _ a p t _ _ _ (fun post' h' => dd_ftL _ _ h h') ⟨rfl, dd_rel hB⟩))
  · refine dd_lnT _ hi ?_
    refine br_f (by decide) ?_
    rcases dd_line v2 with h | ⟨j, hj, rfl⟩
    · refine dd_lnF _ h ?_
      refine br_t rfl ?_
      rcases dd_colm v2 with h' | ⟨j, hj, rfl⟩
      · exact dd_dwY0 _ a p t _ _ _ (fun post' h'' => dd_ftC _ _ hi h' h'') ⟨rfl, dd_rel hB⟩
      · by_cases e : j = 4
        · rw [e]
          exact dd_dwY4 _ a p t i v3 hi ⟨rfl, dd_rel hB⟩
        · rcases h with h | ⟨h, h1, h2⟩
          · exact absurd h (nI_pos (by omega))
          · exact absurd h1 (nI_ge (b := 4) (by omega) (by decide))
    · refine dd_lnT _ hj ?_
      refine br_f (by decide) ?_
      by_cases hn : -50 ≤ v3.toInt ∧ v3.toInt ≤ 50
      · have n := dd_numI v3 hn
        refine dd_nmT _ n ?_
        refine br_f (by decide) ?_
        refine dd_cm _ a w r (fun w' hw => ?_)
        have y := dd_ix (nI i * 4 + nI j) (4 * i + j) 16 (dd_i4 i j) (by omega) (by decide)
        refine ⟨y.1, nm_e ?_⟩
        rw [y.2]
        refine dd_wdX _ a _ r ?_
        refine dd_dwY _ a p t i j v3 hi hj n (fun t' => ⟨(dd_ddX _ _ (fun c hc => ?_)).symm, dd_rel hB⟩)
        by_cases e : c = 4 * i + j
        · rw [e, pk_us, show 5 * ((4 * i + j) / 4) + (4 * i + j) % 4 = 5 * i + j from by omega, pk_us]
        · rw [pk_un e, pk_un (by omega)]
          exact hw c hc
      · have n := dd_numF v3 hn
        exact dd_nmF _ n (by exact br_t rfl (dd_dwY0 _ a p t _ _ _ (fun post' h' => dd_ftF _ _ hi (by omega) n h') ⟨rfl, dd_rel hB⟩))
/-! replaced -/
def dd_rp (a : Nat → Int32) (j n c : Nat) : Int32 := if c < 20 ∧ c % 5 = j ∧ c / 5 < n then a (5 * (c / 5) + 4) else a c
theorem dd_rpY (post : Int32 → SY → Prop) (a p : Nat → Int32) (t : Nat → Int64) (j : Nat) (hj : j < 4) (h : ∀ p' t', post (Int32.ofInt (dd_mn (dd_A (dd_rp a j 4)) (dd_rl 15 4) 15)) (a, p', t')) : wpY_replaced post (a, p, t) (nI j) := by
  unfold wpY_replaced
  dsimp only
  refine dd_rwT _ (a, p, t) hj ?_
  refine br_f (by decide) ?_
  refine dd_keep _ a p t (fun k' hk' => ?_)
  refine pk_loop (σ := Nat → Int32) (fun n i a' => wY_replaced_17 post (nI j) n (nI i) a' k' t) (fun n a' => a' = dd_rp a j n) 4 0 a (by omega) ?_ ?_ ?_
  · funext c
    simp only [dd_rp]
    rw [if_neg (by omega)]
  · intro n a' g
    subst g
    refine br_t (show (4 : Int32) ≤ nI 4 from by decide) (dd_detY _ _ k' t (fun t' => ?_))
    refine dd_restore _ _ a k' t' hk' (fun c hc => ?_) (h k' t')
    simp only [dd_rp]
    rw [if_neg (by omega)]
  · intro n i a' hi g k
    subst g
    have y1 := dd_ix (5 * nI i + 4) (5 * i + 4) 20 (dd_5i i 4) (by omega) (by decide)
    have y2 := dd_ix (5 * nI i + nI j) (5 * i + j) 20 (dd_5i i j) (by omega) (by decide)
    refine br_f (nI_ge (b := 4) hi (by decide)) ⟨y1.1, y2.1, nm_e (nm_r (nI_1 i) (k _ ?_))⟩
    rw [y1.2, y2.2]
    funext c
    by_cases e : c = 5 * i + j
    · rw [e, pk_us]
      simp only [dd_rp]
      rw [if_neg (by omega), if_pos (by omega)]
      congr 1
      omega
    · rw [pk_un e]
      simp only [dd_rp]
      by_cases e1 : c < 20 ∧ c % 5 = j ∧ c / 5 < i
      · rw [if_pos e1, if_pos (by omega)]
      · rw [if_neg e1, if_neg (by omega)]
theorem dd_rpY0 (post : Int32 → SY → Prop) (a p : Nat → Int32) (t : Nat → Int64) (v1 : Int32) (h : v1 < 0 ∨ (¬ v1 < 0 ∧ 4 ≤ v1 ∧ 3 < v1)) (hp : post (-1000000000) (a, p, t)) : wpY_replaced post (a, p, t) v1 := by
  unfold wpY_replaced
  dsimp only
  exact dd_rwF _ _ h (by exact br_t rfl hp)
theorem i_vc_replaced {k : Nat} {u : SX} {v : SY} (I : i_Rel k u v) (hk : k + 4 ≤ 2048) (v1 : Int32) : wpX_replaced (fun r u' => wpY_replaced (fun r' v' => r' = r ∧ i_Rel (k + 4) u' v') v v1) u v1 := by
  obtain ⟨a, w, r, p, t, rfl, rfl, hB⟩ := I
  unfold wpX_replaced
  dsimp only
  rcases dd_line v1 with h | ⟨j, hj, rfl⟩
  · exact dd_lnF _ h (by exact br_t rfl (dd_rpY0 _ a p t _ h ⟨rfl, dd_rel hB⟩))
  · refine dd_lnT _ hj ?_
    refine br_f (by decide) ?_
    refine dd_cm _ a w r (fun w1 hw => ?_)
    refine pk_loop (σ := Nat → Int32) (fun n i w' => wX_replaced_16 _ (nI j) n (nI i) a w' r) (fun n w' => ∀ c, c < 16 → w' c = if c % 4 = j ∧ c / 4 < n then a (5 * (c / 4) + 4) else a (5 * (c / 4) + c % 4)) 4 0 w1 (by omega) (fun c hc => by rw [if_neg (by omega)]; exact hw c hc) ?_ ?_
    · intro n w' g
      refine br_t (show (4 : Int32) ≤ nI 4 from by decide) (dd_wdX _ a w' r ?_)
      refine dd_rpY _ a p t j hj (fun p' t' => ⟨(dd_ddX w' _ (fun c hc => ?_)).symm, dd_rel hB⟩)
      rw [g c hc]
      simp only [dd_rp]
      by_cases e : c % 4 = j
      · rw [if_pos (by omega), if_pos (by omega)]
        congr 1
        omega
      · rw [if_neg (by omega), if_neg (by omega)]
    · intro n i w' hi g k
      have y1 := dd_ix (nI i * 5 + 4) (5 * i + 4) 20 (dd_i5 i 4) (by omega) (by decide)
      have y2 := dd_ix (nI i * 4 + nI j) (4 * i + j) 16 (dd_i4 i j) (by omega) (by decide)
      refine br_f (nI_ge (b := 4) hi (by decide)) ⟨y1.1, y2.1, nm_e (nm_r (nI_1 i) (k _ (fun c hc => ?_)))⟩
      rw [y1.2, y2.2]
      by_cases e : c = 4 * i + j
      · rw [e, pk_us, if_pos (by omega)]
        congr 1
        omega
      · rw [pk_un e, g c hc]
        by_cases e1 : c % 4 = j ∧ c / 4 < i
        · rw [if_pos e1, if_pos (by omega)]
        · rw [if_neg e1, if_neg (by omega)]
/-! shifted -/
def dd_sh (a : Nat → Int32) (v : Int32) (n c : Nat) : Int32 := if c < 20 ∧ c % 6 = 0 ∧ c / 6 < n then a c + v else a c
theorem dd_shY (post : Int32 → SY → Prop) (a p : Nat → Int32) (t : Nat → Int64) (v : Int32) (h1 : ¬ v < -50) (h2 : v ≤ 50) (h : ∀ p' t', post (Int32.ofInt (dd_mn (dd_A (dd_sh a v 4)) (dd_rl 15 4) 15)) (a, p', t')) : wpY_shifted post (a, p, t) v := by
  refine br_f h1 (br_t h2 ?_)
  refine dd_keep _ a p t (fun k' hk' => ?_)
  refine pk_loop (σ := Nat → Int32) (fun n i a' => wY_shifted_21 post v n (nI i) a' k' t) (fun n a' => a' = dd_sh a v n) 4 0 a (by omega) ?_ ?_ ?_
  · funext c
    simp only [dd_sh]
    rw [if_neg (by omega)]
  · intro n a' g
    subst g
    refine br_t (show (4 : Int32) ≤ nI 4 from by decide) (dd_detY _ _ k' t (fun t' => ?_))
    refine dd_restore _ _ a k' t' hk' (fun c hc => ?_) (h k' t')
    simp only [dd_sh]
    rw [if_neg (by omega)]
  · intro n i a' hi g k
    subst g
    have y1 := dd_ix (6 * nI i) (6 * i) 20 (pk_mul 6 i) (by omega) (by decide)
    refine br_f (nI_ge (b := 4) hi (by decide)) ⟨y1.1, y1.1, nm_e (nm_r (nI_1 i) (k _ ?_))⟩
    rw [y1.2]
    funext c
    by_cases e : c = 6 * i
    · rw [e, pk_us]
      simp only [dd_sh]
      rw [if_neg (by omega), if_pos (by omega)]
    · rw [pk_un e]
      simp only [dd_sh]
      by_cases e1 : c < 20 ∧ c % 6 = 0 ∧ c / 6 < i
      · rw [if_pos e1, if_pos (by omega)]
      · rw [if_neg e1, if_neg (by omega)]
theorem dd_shF : ∀ c, c < 16 → (c % 5 = 0 ↔ (5 * (c / 4) + c % 4) % 6 = 0) ∧ 5 * (c / 4) + c % 4 < 20 ∧ (5 * (c / 4) + c % 4) / 6 < 4 ∧ c / 5 < 4 := by decide +kernel
theorem i_vc_shifted {k : Nat} {u : SX} {v : SY} (I : i_Rel k u v) (hk : k + 4 ≤ 2048) (v1 : Int32) : wpX_shifted (fun r u' => wpY_shifted (fun r' v' => r' = r ∧ i_Rel (k + 4) u' v') v v1) u v1 := by
  obtain ⟨a, w, r, p, t, rfl, rfl, hB⟩ := I
  unfold wpX_shifted
  dsimp only
  rcases dd_num v1 with h | ⟨h1, h2, h3, _, _⟩
  · rcases h with h | h
    · exact dd_nmF _ (Or.inl h) (by exact br_t rfl (br_t h ⟨rfl, dd_rel hB⟩))
    · by_cases h' : v1 < -50
      · exact dd_nmF _ (Or.inl h') (by exact br_t rfl (br_t h' ⟨rfl, dd_rel hB⟩))
      · exact dd_nmF _ (Or.inr ⟨h', h⟩) (by exact br_t rfl (br_f h' (br_f (Int32.not_le.mpr h) ⟨rfl, dd_rel hB⟩)))
  · refine dd_nmT _ ⟨h1, h2⟩ ?_
    refine br_f (by decide) ?_
    refine dd_cm _ a w r (fun w1 hw => ?_)
    refine pk_loop (σ := Nat → Int32) (fun n i w' => wX_shifted_16 _ v1 n (nI i) a w' r) (fun n w' => ∀ c, c < 16 → w' c = if c % 5 = 0 ∧ c / 5 < n then w1 c + v1 else w1 c) 4 0 w1 (by omega) (fun c hc => by rw [if_neg (by omega)]) ?_ ?_
    · intro n w' g
      refine br_t (show (4 : Int32) ≤ nI 4 from by decide) (dd_wdX _ a w' r ?_)
      refine dd_shY _ a p t v1 h1 h3 (fun p' t' => ⟨(dd_ddX w' _ (fun c hc => ?_)).symm, dd_rel hB⟩)
      rw [g c hc, hw c hc]
      simp only [dd_sh]
      obtain ⟨f1, f2, f3, f4⟩ := dd_shF c hc
      by_cases e : c % 5 = 0
      · rw [if_pos ⟨e, f4⟩, if_pos ⟨f2, f1.mp e, f3⟩]
      · rw [if_neg (fun z => e z.1), if_neg (fun z => e (f1.mpr z.2.1))]
    · intro n i w' hi g k
      have y1 := dd_ix (nI i * 4 + nI i) (4 * i + i) 16 (dd_i4 i i) (by omega) (by decide)
      refine br_f (nI_ge (b := 4) hi (by decide)) ⟨y1.1, y1.1, nm_e (nm_r (nI_1 i) (k _ (fun c hc => ?_)))⟩
      rw [y1.2]
      by_cases e : c = 4 * i + i
      · rw [e, pk_us, if_pos (by omega), g _ (by omega), if_neg (by omega)]
      · rw [pk_un e, g c hc]
        by_cases e1 : c % 5 = 0 ∧ c / 5 < i
        · rw [if_pos e1, if_pos (by omega)]
        · rw [if_neg e1, if_neg (by omega)]
end
section
/-! a lone 1 in row and column leaves the minor of the others -/
def dd_xr (A : Nat → Nat → Int) (i j c : Nat) : Int := if c = 4 * i + j then 1 else if c / 4 = i ∨ c % 4 = j then 0 else A (c / 4) (c % 4)
theorem dd_minI (A : Nat → Nat → Int) (i j : Nat) (hi : i < 4) (hj : j < 4) : (if (i + j) % 2 = 0 then dd_dI (dd_xr A i j) else - dd_dI (dd_xr A i j)) = dd_mn A (dd_rl (15 - 2 ^ i) 4) (15 - 2 ^ j) := by
  rcases (by omega : i = 0 ∨ i = 1 ∨ i = 2 ∨ i = 3) with rfl | rfl | rfl | rfl <;> rcases (by omega : j = 0 ∨ j = 1 ∨ j = 2 ∨ j = 3) with rfl | rfl | rfl | rfl <;> simp [dd_dI, dd_uI, dd_lI, dd_xr, dd_mn, dd_rl, dd_es, dd_tm, dd_pc, dd_pq] <;> grind
def dd_xp (A : Nat → Nat → Int) (m n c : Nat) : Int := if (m / 2 ^ (c / 4) % 2 = 1 ∨ n ≤ c / 4) ∧ (m / 2 ^ (c % 4) % 2 = 1 ∨ n ≤ c % 4) then A (c / 4) (c % 4) else if c / 4 = c % 4 then 1 else 0
theorem dd_priI (A : Nat → Nat → Int) (m : Nat) (hm : m < 16) : dd_dI (dd_xp A m 4) = dd_mn A (dd_rl m 4) m := by
  rcases (by omega : m = 0 ∨ m = 1 ∨ m = 2 ∨ m = 3 ∨ m = 4 ∨ m = 5 ∨ m = 6 ∨ m = 7 ∨ m = 8 ∨ m = 9 ∨ m = 10 ∨ m = 11 ∨ m = 12 ∨ m = 13 ∨ m = 14 ∨ m = 15) with rfl | rfl | rfl | rfl | rfl | rfl | rfl | rfl | rfl | rfl | rfl | rfl | rfl | rfl | rfl | rfl <;> simp [dd_dI, dd_uI, dd_lI, dd_xp, dd_mn, dd_rl, dd_es, dd_tm, dd_pc, dd_pq] <;> grind
end
section
/-! minor, principal, coefficient -/
theorem dd_mF : ∀ i, i < 4 → ∀ j, j < 4 → dd_pc (15 - 2 ^ j) = (dd_rl (15 - 2 ^ i) 4).length ∧ 15 / 2 ^ i % 2 = 1 ∧ 15 / 2 ^ j % 2 = 1 := by decide +kernel
theorem dd_mnY (post : Int32 → SY → Prop) (a p : Nat → Int32) (t : Nat → Int64) (i j : Nat) (hi : i < 4) (hj : j < 4) (h : ∀ t', post (Int32.ofInt (dd_mn (dd_A a) (dd_rl (15 - 2 ^ i) 4) (15 - 2 ^ j))) (a, p, t')) : wpY_minor post (a, p, t) (nI i) (nI j) := by
  obtain ⟨f1, f2, f3⟩ := dd_mF i hi j hj
  unfold wpY_minor
  dsimp only
  refine dd_rwT _ (a, p, t) hi ?_
  refine br_f (by decide) ?_
  refine dd_rwT _ (a, p, t) hj ?_
  refine br_f (by decide) ?_
  refine dd_part _ a p t _ _ (15 - 2 ^ i) (15 - 2 ^ j) (dd_F2 15 (by decide) i (by omega) f2) (dd_F2 15 (by decide) j (by omega) f3) (Nat.lt_of_le_of_lt (Nat.sub_le _ _) (by decide)) (Nat.lt_of_le_of_lt (Nat.sub_le _ _) (by decide)) f1 (fun t' => ?_)
  have := h t'
  rw [← Int64.toInt32_ofInt] at this
  exact this
theorem dd_mnY0 (post : Int32 → SY → Prop) (a p : Nat → Int32) (t : Nat → Int64) (v1 v2 : Int32) (h : v1 < 0 ∨ (¬ v1 < 0 ∧ 4 ≤ v1 ∧ 3 < v1)) (hp : post (-1000000000) (a, p, t)) : wpY_minor post (a, p, t) v1 v2 := by
  unfold wpY_minor
  dsimp only
  exact dd_rwF _ _ h (by exact br_t rfl hp)
theorem dd_mnY1 (post : Int32 → SY → Prop) (a p : Nat → Int32) (t : Nat → Int64) (i : Nat) (v2 : Int32) (hi : i < 4) (h : v2 < 0 ∨ (¬ v2 < 0 ∧ 4 ≤ v2 ∧ 3 < v2)) (hp : post (-1000000000) (a, p, t)) : wpY_minor post (a, p, t) (nI i) v2 := by
  unfold wpY_minor
  dsimp only
  exact dd_rwT _ _ hi (by exact br_f (by decide) (dd_rwF _ _ h (by exact br_t rfl hp)))
theorem i_vc_minor {k : Nat} {u : SX} {v : SY} (I : i_Rel k u v) (hk : k + 4 ≤ 2048) (v1 : Int32) (v2 : Int32) : wpX_minor (fun r u' => wpY_minor (fun r' v' => r' = r ∧ i_Rel (k + 4) u' v') v v1 v2) u v1 v2 := by
  obtain ⟨a, w, r, p, t, rfl, rfl, hB⟩ := I
  unfold wpX_minor
  dsimp only
  rcases dd_line v1 with h | ⟨i, hi, rfl⟩
  · exact dd_lnF _ h (by exact br_t rfl (dd_mnY0 _ a p t _ _ h ⟨rfl, dd_rel hB⟩))
  · rcases dd_line v2 with h | ⟨j, hj, rfl⟩
    · exact dd_lnT _ hi (by exact br_f (by decide) (dd_lnF _ h (by exact br_t rfl (dd_mnY1 _ a p t _ _ hi h ⟨rfl, dd_rel hB⟩))))
    · refine dd_lnT _ hi ?_
      refine br_f (by decide) ?_
      refine dd_lnT _ hj ?_
      refine br_f (by decide) ?_
      refine dd_cm _ a w r (fun w1 hw => ?_)
      refine dd_rw _ a w1 r i j hi hj (fun w2 hw2 => ?_)
      refine dd_wdX _ a w2 r ?_
      have e : dd_dt w2 = Int32.ofInt (dd_dI (dd_xr (dd_A a) i j)) := by
        apply dd_dtI
        intro c hc
        rw [hw2 c hc, hw c hc]
        simp only [dd_xr]
        split
        · rfl
        · split
          · rfl
          · simp only [dd_A, Int32.ofInt_toInt]
      have m := dd_minI (dd_A a) i j hi hj
      refine ⟨by decide, ?_⟩
      rw [nI_add, e]
      by_cases z : (i + j) % 2 = 0
      · rw [if_pos z] at m
        refine br_t ((dd_F4 (i + j) (by omega)).mpr z) ?_
        exact dd_mnY _ a p t i j hi hj (fun t' => ⟨by rw [m], dd_rel hB⟩)
      · rw [if_neg z] at m
        refine br_f (fun y => z ((dd_F4 (i + j) (by omega)).mp y)) ?_
        exact dd_mnY _ a p t i j hi hj (fun t' => ⟨by rw [← m, Int32.ofInt_neg], dd_rel hB⟩)
theorem dd_pmX (post : Int32 → SX → Prop) (a w : Nat → Int32) (r : Nat → Int64) (m : Nat) (hm : m < 16) (h : ∀ w', post (Int32.ofInt (dd_mn (dd_A a) (dd_rl m 4) m)) (a, w', r)) : wpX_principalMinor post (a, w, r) (nI m) := by
  unfold wpX_principalMinor
  dsimp only
  refine dd_cm _ a w r (fun w1 hw => ?_)
  refine pk_loop (σ := Nat → Int32) (fun n i w' => wX_principalMinor_6 post (nI m) n (nI i) a w' r) (fun i w' => ∀ c, c < 16 → w' c = Int32.ofInt (dd_xp (dd_A a) m i c)) 4 0 w1 (by omega) ?_ ?_ ?_
  · intro c hc
    rw [hw c hc]
    simp only [dd_xp]
    rw [if_pos ⟨Or.inr (Nat.zero_le _), Or.inr (Nat.zero_le _)⟩]
    simp only [dd_A, Int32.ofInt_toInt]
  · intro n w' g
    refine br_t (show (4 : Int32) ≤ nI 4 from by decide) (dd_wdX _ a w' r ?_)
    rw [dd_dtI w' _ g, dd_priI (dd_A a) m hm]
    exact h w'
  · intro n i w' hi g k
    refine br_f (nI_ge (b := 4) hi (by decide)) (dd_hasT _ m i (by omega) (by omega) ?_)
    have h2 : m / 2 ^ i % 2 < 2 := Nat.mod_lt _ (by decide)
    by_cases e : m / 2 ^ i % 2 = 1
    · refine br_f (by rw [e]; decide) (nm_r (nI_1 i) (k _ (fun c hc => ?_)))
      rw [g c hc]
      congr 1
      have q : ∀ x, (m / 2 ^ x % 2 = 1 ∨ i ≤ x) ↔ (m / 2 ^ x % 2 = 1 ∨ i + 1 ≤ x) := by
        intro x
        constructor
        · rintro (y | y)
          · exact Or.inl y
          · by_cases e' : x = i
            · rw [e']; exact Or.inl e
            · exact Or.inr (by omega)
        · rintro (y | y)
          · exact Or.inl y
          · exact Or.inr (by omega)
      simp only [dd_xp, q]
    · refine br_t (by rw [show m / 2 ^ i % 2 = 0 from by omega]; rfl) (dd_rw _ a w' r i i hi hi (fun w2 hw2 => nm_r (nI_1 i) (k _ (fun c hc => ?_))))
      rw [hw2 c hc]
      by_cases c1 : c = 4 * i + i
      · rw [if_pos c1]
        simp only [dd_xp]
        rw [if_neg, if_pos (by omega)]
        · rfl
        · rintro ⟨y | y, _⟩
          · rw [show c / 4 = i from by omega] at y; exact e y
          · omega
      · rw [if_neg c1]
        by_cases c2 : c / 4 = i ∨ c % 4 = i
        · rw [if_pos c2]
          simp only [dd_xp]
          rw [if_neg, if_neg (by omega)]
          · rfl
          · rintro ⟨y1, y2⟩
            rcases c2 with c2 | c2
            · rw [c2] at y1
              rcases y1 with y1 | y1
              · exact e y1
              · omega
            · rw [c2] at y2
              rcases y2 with y2 | y2
              · exact e y2
              · omega
        · rw [if_neg c2, g c hc]
          congr 1
          have q1 : (m / 2 ^ (c / 4) % 2 = 1 ∨ i ≤ c / 4) ↔ (m / 2 ^ (c / 4) % 2 = 1 ∨ i + 1 ≤ c / 4) := by
            constructor
            · rintro (y | y)
              · exact Or.inl y
              · exact Or.inr (by omega)
            · rintro (y | y)
              · exact Or.inl y
              · exact Or.inr (by omega)
          have q2 : (m / 2 ^ (c % 4) % 2 = 1 ∨ i ≤ c % 4) ↔ (m / 2 ^ (c % 4) % 2 = 1 ∨ i + 1 ≤ c % 4) := by
            constructor
            · rintro (y | y)
              · exact Or.inl y
              · exact Or.inr (by omega)
            · rintro (y | y)
              · exact Or.inl y
              · exact Or.inr (by omega)
          simp only [dd_xp, q1, q2]
theorem dd_cF : ∀ m, m < 16 → dd_pq m 4 = dd_pc m := by decide +kernel
theorem dd_cbX (post : Int32 → Prop) (m : Nat) (hm : m < 16) (h : post (nI (dd_pc m))) : wpX_countBits post (nI m) := by
  refine pk_loop (σ := Nat) (fun n i s => wX_countBits_4 post (nI m) n (nI s) (nI i)) (fun i s => s = dd_pq m i) 4 0 0 (by omega) rfl ?_ ?_
  · intro n s hs
    subst hs
    rw [← dd_cF m hm] at h
    exact br_t (show (4 : Int32) ≤ nI 4 from by decide) h
  · intro n i s hi hs k
    subst hs
    exact br_f (nI_ge (b := 4) hi (by decide)) (nm_r (e' := nI (dd_pq m i + m / 2 ^ i % 2)) (by rw [dd_F1 m (by omega) i (by omega), nI_add]) (nm_r (nI_1 i) (k _ rfl)))
/-- the sum of the principal minors of a size, over the first n sets -/
def dd_sp (A : Nat → Nat → Int) (size : Nat) : Nat → Int
  | 0 => 0
  | n + 1 => dd_sp A size n + (if dd_pc n = size then dd_mn A (dd_rl n 4) n else 0)
theorem dd_spX (post : Int32 → SX → Prop) (a w : Nat → Int32) (r : Nat → Int64) (size : Nat) (hs : size ≤ 4) (h : ∀ w', post (Int32.ofInt (dd_sp (dd_A a) size 16)) (a, w', r)) : wpX_sumOfPrincipals post (a, w, r) (nI size) := by
  refine pk_loop (σ := Int32 × (Nat → Int32)) (fun n m s => wX_sumOfPrincipals_4 post (nI size) n s.1 (nI m) a s.2 r) (fun m s => s.1 = Int32.ofInt (dd_sp (dd_A a) size m)) 16 0 (0, w) (by omega) rfl ?_ ?_
  · intro n s g
    refine br_t (show (15 : Int32) < nI 16 from by decide) ?_
    show post s.1 (a, s.2, r)
    rw [show s.1 = _ from g]
    exact h s.2
  · intro n m s hm g k
    refine br_f (nI_nlt (a := 15) (by omega) (by decide)) (dd_cbX _ m hm ?_)
    have h5 := dd_F5 m (by omega)
    by_cases e : dd_pc m = size
    · refine br_t (by rw [e]) (dd_pmX _ a s.2 r m hm (fun w' => nm_r (e' := Int32.ofInt (dd_sp (dd_A a) size (m + 1))) ?_ (nm_r (nI_1 m) (k (_, w') rfl))))
      rw [show s.1 = _ from g]
      simp only [dd_sp, if_pos e, Int32.ofInt_add]
    · refine br_f (fun y => e ((nI_eq (by omega) (by omega)).mp y)) (nm_r (nI_1 m) (k s ?_))
      show s.1 = _
      rw [show s.1 = _ from g]
      simp only [dd_sp, if_neg e, Int.add_zero]
theorem dd_sp1 (A : Nat → Nat → Int) (size : Nat) (h : 1 ≤ size) : dd_sp A size 1 = 0 := by
  have e : ¬ dd_pc 0 = size := by
    show ¬ 0 = size
    omega
  simp only [dd_sp, if_neg e, Int.add_zero]
theorem dd_prY (post : Int32 → SY → Prop) (a p : Nat → Int32) (t : Nat → Int64) (k : Nat) (h1 : 1 ≤ k) (h4 : k ≤ 4) (h : ∀ t', post (Int32.ofInt (dd_sp (dd_A a) k 16)) (a, p, t')) : wpY_principal post (a, p, t) (nI k) := by
  refine br_f (nI_nlt (b := 1) h1 (by omega)) (br_t (nI_le (b := 4) h4 (by decide)) ?_)
  refine pk_loop (σ := Int64 × (Nat → Int64)) (fun n m s => wY_principal_18 post (nI k) n s.1 (nI m) a p s.2) (fun m s => s.1 = Int64.ofInt (dd_sp (dd_A a) k m)) 16 1 (0, t) (by omega) ?_ ?_ ?_
  · show (0 : Int64) = _
    rw [dd_sp1 _ k h1]
    rfl
  · intro n s g
    refine br_t (show (16 : Int32) ≤ nI 16 from by decide) ?_
    show post s.1.toInt32 (a, p, s.2)
    rw [show s.1 = _ from g, Int64.toInt32_ofInt]
    exact h s.2
  · intro n m s hm g kk
    refine br_f (nI_ge (b := 16) hm (by decide)) (dd_ones _ a p s.2 _ m (by omega) rfl ?_)
    have h5 := dd_F5 m (by omega)
    by_cases e : dd_pc m = k
    · refine br_t (by rw [e]) (dd_part _ a p s.2 _ _ m m rfl rfl hm (by omega) (dd_F9 m hm).symm (fun t' => nm_r (e' := Int64.ofInt (dd_sp (dd_A a) k (m + 1))) ?_ (nm_r (nI_1 m) (kk (_, t') rfl))))
      rw [show s.1 = _ from g]
      simp only [dd_sp, if_pos e, Int64.ofInt_add]
    · refine br_f (fun y => e ((nI_eq (by omega) (by omega)).mp y)) (nm_r (nI_1 m) (kk s ?_))
      show s.1 = _
      rw [show s.1 = _ from g]
      simp only [dd_sp, if_neg e, Int.add_zero]
theorem i_vc_principal {k : Nat} {u : SX} {v : SY} (I : i_Rel k u v) (hk : k + 4 ≤ 2048) (v1 : Int32) : wpX_principal (fun r u' => wpY_principal (fun r' v' => r' = r ∧ i_Rel (k + 4) u' v') v v1) u v1 := by
  obtain ⟨a, w, r, p, t, rfl, rfl, hB⟩ := I
  by_cases h0 : v1 < 1
  · exact br_t h0 (br_t h0 ⟨rfl, dd_rel hB⟩)
  · by_cases h1 : v1 ≤ 4
    · have hz : ¬ v1 < 0 := by
        have e0 : (0 : Int32).toInt = 0 := by decide
        have e1 : (1 : Int32).toInt = 1 := by decide
        simp only [Int32.lt_iff_toInt_lt, e0, e1] at h0 ⊢
        omega
      obtain ⟨j, hj, rfl⟩ := nI_of2 (M := 4) (n := 4) (by decide) hz h1
      have hj1 : 1 ≤ j := by
        apply Classical.byContradiction
        intro y
        exact h0 (nI_lt (b := 1) (by omega) (by decide))
      refine br_f h0 (br_t h1 ?_)
      refine dd_spX _ a w r j hj (fun w' => ?_)
      exact dd_prY _ a p t j hj1 hj (fun t' => ⟨rfl, dd_rel hB⟩)
    · exact br_f h0 (br_f h1 (br_f h0 (br_f h1 ⟨rfl, dd_rel hB⟩)))
theorem dd_sp0 (A : Nat → Nat → Int) : dd_sp A 0 16 = 1 := by
  simp [dd_sp, dd_pc, dd_pq, dd_rl, dd_mn]
theorem dd_coF : ∀ j, j < 5 → ((nI (4 - j) - nI (4 - j) / 2 * 2 = 0) ↔ (nI j - nI j / 2 * 2 = 0)) ∧ (4 : Int32) - nI j = nI (4 - j) := by decide +kernel
theorem i_vc_coefficient {k : Nat} {u : SX} {v : SY} (I : i_Rel k u v) (hk : k + 4 ≤ 2048) (v1 : Int32) : wpX_coefficient (fun r u' => wpY_coefficient (fun r' v' => r' = r ∧ i_Rel (k + 4) u' v') v v1) u v1 := by
  obtain ⟨a, w, r, p, t, rfl, rfl, hB⟩ := I
  by_cases h0 : v1 < 0
  · exact br_t h0 (br_t h0 ⟨rfl, dd_rel hB⟩)
  · by_cases h1 : v1 ≤ 4
    · obtain ⟨j, hj, rfl⟩ := nI_of2 (M := 4) (n := 4) (by decide) h0 h1
      obtain ⟨f1, f2⟩ := dd_coF j (by omega)
      refine br_f h0 (br_t h1 (nm_r f2 ?_))
      refine dd_spX _ a w r (4 - j) (by omega) (fun w' => ⟨by decide, ?_⟩)
      by_cases e : j = 4
      · subst e
        rw [dd_sp0]
        refine br_t (by decide) (br_f h0 (br_t h1 (br_t rfl ?_)))
        unfold wY_coefficient_28
        exact ⟨by decide, br_t (by decide) ⟨rfl, dd_rel hB⟩⟩
      · have ne : ¬ nI j = 4 := fun y => e ((nI_eq (b := 4) (by omega) (by decide)).mp y)
        by_cases z : nI j - nI j / 2 * 2 = 0
        · refine br_t (f1.mpr z) (br_f h0 (br_t h1 (br_f ne ?_)))
          rw [f2]
          refine dd_prY _ a p t (4 - j) (by omega) (by omega) (fun t' => ?_)
          show wY_coefficient_28 _ _ _ _ _ _
          unfold wY_coefficient_28
          exact ⟨by decide, br_t z ⟨rfl, dd_rel hB⟩⟩
        · refine br_f (fun y => z (f1.mp y)) (br_f h0 (br_t h1 (br_f ne ?_)))
          rw [f2]
          refine dd_prY _ a p t (4 - j) (by omega) (by omega) (fun t' => ?_)
          show wY_coefficient_28 _ _ _ _ _ _
          unfold wY_coefficient_28
          exact ⟨by decide, br_f z ⟨rfl, dd_rel hB⟩⟩
    · exact br_f h0 (br_f h1 (br_f h0 (br_f h1 ⟨rfl, dd_rel hB⟩)))
end

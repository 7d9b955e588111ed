/-! the class's rank -/
def dd_Rp (r : Nat → Int64) (B : Nat → Nat → Int) : Prop := ∀ i, i < 4 → ∀ j, j < 5 → r (5 * i + j) = Int64.ofInt (B i j)
def dd_Bd (B : Nat → Nat → Int) (n : Nat) : Prop := ∀ i, i < 4 → ∀ j, j < 5 → (B i j).natAbs ≤ n
theorem dd_hasT (post : Int32 → Prop) (m i : Nat) (hm : m < 32) (hi : i < 5) (h : post (nI (m / 2 ^ i % 2))) : wpX_hasBit post (nI m) (nI i) := by
  have h2 : m / 2 ^ i % 2 < 2 := Nat.mod_lt _ (by decide)
  by_cases e : m / 2 ^ i % 2 = 1
  · rw [e] at h
    exact br_t (by rw [dd_F1 m hm i hi, e]; rfl) h
  · have e0 : m / 2 ^ i % 2 = 0 := by omega
    rw [e0] at h
    exact br_f (by rw [dd_F1 m hm i hi, e0]; decide) h
theorem dd_c16 (post : SX → Prop) (J : Int32 → (Nat → Int32) → (Nat → Int32) → (Nat → Int64) → Prop) (x1 : Int32) (a w : Nat → Int32) (r : Nat → Int64) (i b : Nat) (hi : i < 4) (hb : b < 2)
    (h : ∀ r' : Nat → Int64, (∀ j, j < 5 → r' (5 * i + j) = Int64.ofInt (if b = 1 then dd_A a i j else 0)) → (∀ i', i' < 4 → i' ≠ i → ∀ j, j < 5 → r' (5 * i' + j) = r (5 * i' + j)) → J (nI (i + 1)) a w r') :
    ∃ n, wX_copyRowsToReduced_16 post J x1 (nI i) (nI b) n 0 a w r := by
  refine pk_loop (σ := Nat → Int64) (fun n j r' => wX_copyRowsToReduced_16 post J x1 (nI i) (nI b) n (nI j) a w r') (fun j r' => (∀ j', j' < j → r' (5 * i + j') = Int64.ofInt (if b = 1 then dd_A a i j' else 0)) ∧ (∀ i', i' < 4 → i' ≠ i → ∀ j, j < 5 → r' (5 * i' + j) = r (5 * i' + j))) 5 0 r (by omega) ⟨fun j' hj' => by omega, fun i' _ _ j _ => rfl⟩ ?_ ?_
  · intro n r' ⟨g1, g2⟩
    exact br_t (show (5 : Int32) ≤ nI 5 from by decide) (nm_r (nI_1 i) (h r' g1 g2))
  · intro n j r' hj ⟨g1, g2⟩ k
    have h1 := dd_ix (nI i * 5 + nI j) (5 * i + j) 20 (dd_i5 i j) (by omega) (by decide)
    refine br_f (nI_ge (b := 5) hj (by decide)) ?_
    by_cases e : b = 1
    · refine br_f (by rw [e]; decide) ⟨h1.1, h1.1, nm_e (nm_r (nI_1 j) (k _ ⟨fun j' hj' => ?_, fun i' hi' hn j' hj' => ?_⟩))⟩
      · rw [h1.2, if_pos e]
        by_cases e' : j' = j
        · rw [e', pk_uLs]; rfl
        · rw [pk_uLn (by omega), g1 j' (by omega), if_pos e]
      · rw [h1.2, pk_uLn (by omega), g2 i' hi' hn j' hj']
    · refine br_t (by rw [show b = 0 from by omega]; rfl) ⟨h1.1, nm_e (nm_r (nI_1 j) (k _ ⟨fun j' hj' => ?_, fun i' hi' hn j' hj' => ?_⟩))⟩
      · rw [h1.2, if_neg e]
        by_cases e' : j' = j
        · rw [e', pk_uLs]; rfl
        · rw [pk_uLn (by omega), g1 j' (by omega), if_neg e]
      · rw [h1.2, pk_uLn (by omega), g2 i' hi' hn j' hj']
theorem dd_copyR (post : SX → Prop) (a w : Nat → Int32) (r : Nat → Int64) (rows : Nat) (hr : rows < 16) (h : ∀ r', dd_Rp r' (dd_M (dd_A a) rows) → post (a, w, r')) : wpX_copyRowsToReduced post (a, w, r) (nI rows) := by
  refine pk_loop (σ := Nat → Int64) (fun n i r' => wX_copyRowsToReduced_2 post (nI rows) n (nI i) a w r') (fun i r' => ∀ i', i' < i → ∀ j, j < 5 → r' (5 * i' + j) = Int64.ofInt (dd_M (dd_A a) rows i' j)) 4 0 r (by omega) (fun i' hi' => by omega) ?_ ?_
  · intro n r' g
    exact br_t (show (4 : Int32) ≤ nI 4 from by decide) (h r' g)
  · intro n i r' hi g k
    refine br_f (nI_ge (b := 4) hi (by decide)) (dd_hasT _ rows i (by omega) (by omega) (dd_c16 post _ _ a w r' i _ hi (Nat.mod_lt _ (by decide)) (fun r2 g1 g2 => k r2 (fun i' hi' j hj => ?_))))
    by_cases e : i' = i
    · rw [e, g1 j hj]; rfl
    · rw [g2 i' (by omega) e j hj, g i' (by omega) j hj]
theorem dd_piv (post : Int32 → Prop) (a w : Nat → Int32) (r : Nat → Int64) (B : Nat → Nat → Int) (f c : Nat) (hc : c < 5) (hf : f ≤ 4) (hr : dd_Rp r B) (hB : dd_Bd B 5000000000000000)
    (h1 : ∀ p, f ≤ p → p < 4 → B p c ≠ 0 → post (nI p)) (h2 : (∀ q, f ≤ q → q < 4 → B q c = 0) → post (nI 4)) : wpX_findPivot post (a, w, r) (nI f) (nI c) := by
  refine pk_loop (σ := Unit) (fun n i _ => wX_findPivot_2 post (nI c) a w r n (nI i)) (fun i _ => f ≤ i ∧ ∀ q, f ≤ q → q < i → B q c = 0) 4 f () hf ⟨Nat.le_refl _, fun q y z => by omega⟩ ?_ ?_
  · intro n _ ⟨_, g⟩
    exact br_t (show (4 : Int32) ≤ nI 4 from by decide) (h2 g)
  · intro n i _ hi ⟨g0, g⟩ k
    have y := dd_ix (nI i * 5 + nI c) (5 * i + c) 20 (dd_i5 i c) (by omega) (by decide)
    have b := hB i hi c hc
    refine br_f (nI_ge (b := 4) hi (by decide)) ⟨y.1, ?_⟩
    rw [y.2, hr i hi c hc]
    by_cases e : B i c = 0
    · refine br_t ((dd_z64 _ (by omega)).mpr e) (nm_r (nI_1 i) (k () ⟨by omega, fun q z1 z2 => ?_⟩))
      by_cases e' : q = i
      · rw [e']; exact e
      · exact g q z1 (by omega)
    · exact br_f (fun z => e ((dd_z64 _ (by omega)).mp z)) (h1 i g0 hi e)
def dd_Sw (B : Nat → Nat → Int) (f p i j : Nat) : Int := if i = f then B p j else if i = p then B f j else B i j
theorem dd_swR (post : SX → Prop) (a w : Nat → Int32) (r : Nat → Int64) (B : Nat → Nat → Int) (f p : Nat) (hf : f < 4) (hp : p < 4) (hr : dd_Rp r B) (h : ∀ r', dd_Rp r' (dd_Sw B f p) → post (a, w, r')) : wpX_swapReducedRows post (a, w, r) (nI f) (nI p) := by
  refine pk_loop (σ := Nat → Int64) (fun n j r' => wX_swapReducedRows_2 post (nI f) (nI p) n (nI j) a w r') (fun j r' => ∀ i, i < 4 → ∀ c, c < 5 → r' (5 * i + c) = Int64.ofInt (if c < j then dd_Sw B f p i c else B i c)) 5 0 r (by omega) (fun i hi c hc => by rw [if_neg (by omega)]; exact hr i hi c hc) ?_ ?_
  · intro n r' g
    refine br_t (show (5 : Int32) ≤ nI 5 from by decide) (h r' (fun i hi c hc => ?_))
    rw [g i hi c hc, if_pos hc]
  · intro n j r' hj g k
    have y1 := dd_ix (nI f * 5 + nI j) (5 * f + j) 20 (dd_i5 f j) (by omega) (by decide)
    have y2 := dd_ix (nI p * 5 + nI j) (5 * p + j) 20 (dd_i5 p j) (by omega) (by decide)
    refine br_f (nI_ge (b := 5) hj (by decide)) ⟨y1.1, nm_e ⟨y2.1, y1.1, nm_e ⟨y2.1, nm_e (nm_r (nI_1 j) (k _ (fun i hi c hc => ?_)))⟩⟩⟩
    rw [y1.2, y2.2]
    have gf := g f hf j hj
    have gp := g p hp j hj
    rw [if_neg (by omega)] at gf gp
    by_cases e : c = j
    · rw [if_pos (by omega), e]
      by_cases e1 : i = p
      · rw [e1, pk_uLs, gf]
        congr 1
        simp only [dd_Sw]
        split
        · next z => rw [z]
        · simp
      · rw [pk_uLn (by omega)]
        by_cases e2 : i = f
        · rw [e2, pk_uLs, gp]
          simp only [dd_Sw, if_true]
        · rw [pk_uLn (by omega), g i hi j hj, if_neg (by omega)]
          simp only [dd_Sw, if_neg e1, if_neg e2]
    · rw [pk_uLn (by omega), pk_uLn (by omega), g i hi c hc]
      by_cases e1 : c < j
      · rw [if_pos e1, if_pos (by omega)]
      · rw [if_neg e1, if_neg (by omega)]
def dd_Cl (B : Nat → Nat → Int) (f c i j : Nat) : Int := if f < i then B f c * B i j - B i c * B f j else B i j
theorem dd_c38 (post : SX → Prop) (J : Int32 → (Nat → Int32) → (Nat → Int32) → (Nat → Int64) → Prop) (x2 : Int32) (a w : Nat → Int32) (r : Nat → Int64) (B : Nat → Nat → Int) (f c i : Nat) (hf : f < i) (hi : i < 4)
    (hr : ∀ i', i' < 4 → ∀ j, j < 5 → r (5 * i' + j) = Int64.ofInt (if i' < i then dd_Cl B f c i' j else B i' j))
    (h : ∀ r' : Nat → Int64, (∀ i', i' < 4 → ∀ j, j < 5 → r' (5 * i' + j) = Int64.ofInt (if i' < i + 1 then dd_Cl B f c i' j else B i' j)) → J (nI (i + 1)) a w r') :
    ∃ n, wX_clearBelow_38 post J (nI f) x2 (Int64.ofInt (B f c)) (nI i) (Int64.ofInt (B i c)) n 0 a w r := by
  refine pk_loop (σ := Nat → Int64) (fun n j r' => wX_clearBelow_38 post J (nI f) x2 (Int64.ofInt (B f c)) (nI i) (Int64.ofInt (B i c)) n (nI j) a w r') (fun j r' => ∀ i', i' < 4 → ∀ j', j' < 5 → r' (5 * i' + j') = Int64.ofInt (if i' < i ∨ (i' = i ∧ j' < j) then dd_Cl B f c i' j' else B i' j')) 5 0 r (by omega) ?_ ?_ ?_
  · intro i' hi' j' hj'
    rw [hr i' hi' j' hj']
    by_cases e : i' < i
    · rw [if_pos e, if_pos (Or.inl e)]
    · rw [if_neg e, if_neg (by omega)]
  · intro n r' g
    refine br_t (show (5 : Int32) ≤ nI 5 from by decide) (nm_r (nI_1 i) (h r' (fun i' hi' j hj => ?_)))
    rw [g i' hi' j hj]
    by_cases e : i' < i + 1
    · rw [if_pos e, if_pos (by omega)]
    · rw [if_neg e, if_neg (by omega)]
  · intro n j r' hj g k
    have y1 := dd_ix (nI i * 5 + nI j) (5 * i + j) 20 (dd_i5 i j) (by omega) (by decide)
    have y2 := dd_ix (nI f * 5 + nI j) (5 * f + j) 20 (dd_i5 f j) (by omega) (by decide)
    refine br_f (nI_ge (b := 5) hj (by decide)) ⟨y1.1, y2.1, y1.1, nm_e (nm_r (nI_1 j) (k _ (fun i' hi' j' hj' => ?_)))⟩
    rw [y1.2, y2.2]
    by_cases e : i' = i ∧ j' = j
    · rw [e.1, e.2, pk_uLs, if_pos (by omega), g i hi j hj, if_neg (by omega), g f (by omega) j hj, if_pos (by omega)]
      simp only [dd_Cl, if_pos hf, if_neg (Nat.lt_irrefl f), Int64.ofInt_sub, Int64.ofInt_mul]
    · rw [pk_uLn (by omega), g i' hi' j' hj']
      by_cases e1 : i' < i ∨ (i' = i ∧ j' < j)
      · rw [if_pos e1, if_pos (by omega)]
      · rw [if_neg e1, if_neg (by omega)]
theorem dd_clR (post : SX → Prop) (a w : Nat → Int32) (r : Nat → Int64) (B : Nat → Nat → Int) (f c : Nat) (hf : f < 4) (hc : c < 5) (hr : dd_Rp r B) (h : ∀ r', dd_Rp r' (dd_Cl B f c) → post (a, w, r')) : wpX_clearBelow post (a, w, r) (nI f) (nI c) := by
  have y := dd_ix (nI f * 5 + nI c) (5 * f + c) 20 (dd_i5 f c) (by omega) (by decide)
  refine ⟨y.1, nm_r (e' := Int64.ofInt (B f c)) (by rw [y.2]; exact hr f hf c hc) (nm_r (nI_1 f) ?_)⟩
  refine pk_loop (σ := Nat → Int64) (fun n i r' => wX_clearBelow_16 post (nI f) (nI c) (Int64.ofInt (B f c)) n (nI i) a w r') (fun i r' => f < i ∧ ∀ i', i' < 4 → ∀ j, j < 5 → r' (5 * i' + j) = Int64.ofInt (if i' < i then dd_Cl B f c i' j else B i' j)) 4 (f + 1) r (by omega) ⟨by omega, fun i' hi' j hj => ?_⟩ ?_ ?_
  · rw [hr i' hi' j hj]
    by_cases e : i' < f + 1
    · rw [if_pos e]
      simp only [dd_Cl, if_neg (show ¬ f < i' by omega)]
    · rw [if_neg e]
  · intro n r' ⟨_, g⟩
    refine br_t (show (4 : Int32) ≤ nI 4 from by decide) (h r' (fun i hi j hj => ?_))
    rw [g i hi j hj, if_pos hi]
  · intro n i r' hi ⟨g0, g⟩ k
    have y2 := dd_ix (nI i * 5 + nI c) (5 * i + c) 20 (dd_i5 i c) (by omega) (by decide)
    refine br_f (nI_ge (b := 4) hi (by decide)) ⟨y2.1, nm_r (e' := Int64.ofInt (B i c)) (by rw [y2.2, g i hi c hc, if_neg (by omega)]) (dd_c38 post _ _ a w r' B f c i g0 hi g (fun r2 g2 => k r2 ⟨by omega, g2⟩))⟩
def dd_bn : Nat → Nat
  | 0 => 50
  | 1 => 5000
  | 2 => 50000000
  | _ => 5000000000000000
theorem dd_bnL (f : Nat) : dd_bn f ≤ 5000000000000000 := by
  match f with
  | 0 => decide
  | 1 => decide
  | 2 => decide
  | n + 3 => exact Nat.le_refl _
theorem dd_BdS {B : Nat → Nat → Int} {n f p : Nat} (hf : f < 4) (hp : p < 4) (h : dd_Bd B n) : dd_Bd (dd_Sw B f p) n := by
  intro i hi j hj
  simp only [dd_Sw]
  split
  · exact h p hp j hj
  · split
    · exact h f hf j hj
    · exact h i hi j hj
theorem dd_mulB {x y : Int} {n : Nat} (hx : x.natAbs ≤ n) (hy : y.natAbs ≤ n) : (x * y).natAbs ≤ n * n := by
  rw [Int.natAbs_mul]
  exact Nat.mul_le_mul hx hy
theorem dd_BdC {B : Nat → Nat → Int} {f c : Nat} (hf : f < 4) (hc : c < 5) (h : dd_Bd B (dd_bn f)) : dd_Bd (dd_Cl B f c) (dd_bn (f + 1)) := by
  intro i hi j hj
  simp only [dd_Cl]
  have m : f < 4 → dd_bn f ≤ dd_bn (f + 1) ∧ (f < 3 → dd_bn f * dd_bn f + dd_bn f * dd_bn f = dd_bn (f + 1)) := by
    intro _
    rcases (by omega : f = 0 ∨ f = 1 ∨ f = 2 ∨ f = 3) with rfl | rfl | rfl | rfl <;> decide
  obtain ⟨m1, m2⟩ := m hf
  split
  · have a1 := dd_mulB (h f hf c hc) (h i hi j hj)
    have a2 := dd_mulB (h i hi c hc) (h f hf j hj)
    have a3 := m2 (by omega)
    have a4 := Int.natAbs_sub_le (B f c * B i j) (B i c * B f j)
    omega
  · exact Nat.le_trans (h i hi j hj) m1
theorem dd_rop (post : Int32 → SX → Prop) (a wk : Nat → Int32) (M : Nat → Nat → Int) (w : Nat) (hw : w ≤ 5) (h : ∀ f r', f < 5 → dd_U M w f → dd_V M w f → post (nI f) (a, wk, r')) :
    ∀ d f c r B, c + d = w → f ≤ 4 → dd_Rp r B → dd_Bd B (dd_bn f) → dd_E B f c → dd_Q M B → wX_rankOfPart_10 post (nI w) (d + 1) (nI f) (nI c) a wk r := by
  intro d
  induction d with
  | zero =>
    intro f c r B hd hf hr hB hE hQ
    have e : c = w := by omega
    exact br_t (nI_le (by omega) (by omega)) (h f r (by omega) (dd_UQ hw hQ (dd_EU hE (Or.inl e))) (dd_VQ hw hQ (dd_EV hE hf (by omega))))
  | succ d ih =>
    intro f c r B hd hf hr hB hE hQ
    refine br_f (nI_ge (by omega) (by omega)) ?_
    by_cases e4 : f = 4
    · exact br_t (by rw [e4]; decide) (h f r (by omega) (dd_UQ hw hQ (dd_EU hE (Or.inr e4))) (dd_VQ hw hQ (dd_EV hE hf (by omega))))
    · have hf4 : f < 4 := by omega
      refine br_f (nI_ge (b := 4) hf4 (by decide)) (dd_piv _ a wk r B f c (by omega) hf hr (fun i hi j hj => Nat.le_trans (hB i hi j hj) (dd_bnL f)) (fun p h1 h2 h3 => ?_) (fun hz => ?_))
      · refine br_f (nI_ge (b := 4) h2 (by decide)) (dd_swR _ a wk r B f p hf4 h2 hr (fun r1 hr1 => ?_))
        refine dd_clR _ a wk r1 (dd_Sw B f p) f c hf4 (by omega) hr1 (fun r2 hr2 => nm_r (nI_1 f) (nm_r (nI_1 c) ?_))
        have s := dd_Esw (S := dd_Sw B f p) (by omega) h1 h2 hE (fun i hi n1 n2 j hj => by simp only [dd_Sw, if_neg n1, if_neg n2]) (fun j hj => by simp only [dd_Sw, if_true]) (fun j hj => by simp only [dd_Sw]; split <;> simp_all)
        have hp : dd_Sw B f p f c ≠ 0 := by simp only [dd_Sw, if_true]; exact h3
        have cl := dd_Ecl (N := dd_Cl (dd_Sw B f p) f c) (by omega) hf4 s.1 hp (fun i hi j hj => by simp only [dd_Cl, if_neg (show ¬ f < i by omega)]) (fun i hi hi4 j hj => by simp only [dd_Cl, if_pos hi])
        exact ih (f + 1) (c + 1) r2 _ (by omega) (by omega) hr2 (dd_BdC hf4 (by omega) (dd_BdS hf4 h2 hB)) cl.1 (dd_Qt hQ (dd_Qt s.2 cl.2))
      · exact br_t (by decide) (nm_r (nI_1 c) (ih f (c + 1) r B (by omega) hf hr hB (dd_En hE hz) hQ))
theorem dd_ropX (post : Int32 → SX → Prop) (a wk : Nat → Int32) (r : Nat → Int64) (hB : dd_B a) (rows w : Nat) (hr : rows < 16) (hw : w ≤ 5) (h : ∀ f r', f < 5 → dd_U (dd_M (dd_A a) rows) w f → dd_V (dd_M (dd_A a) rows) w f → post (nI f) (a, wk, r')) : wpX_rankOfPart post (a, wk, r) (nI rows) (nI w) := by
  unfold wpX_rankOfPart
  refine dd_copyR _ a wk r rows hr (fun r' hr' => ⟨w + 1, dd_rop post a wk _ w hw h w 0 0 r' _ (by omega) (by omega) hr' ?_ (dd_E0 _) (dd_Qr _)⟩)
  intro i hi j hj
  have := dd_AB hB i hi j hj
  simp only [dd_M, dd_bn]
  split
  · exact this
  · simp
theorem dd_rankXY (post : Int32 → SX → Prop) (posty : Int32 → Int32 → SX → SY → Prop) (a wk p : Nat → Int32) (r t : Nat → Int64) (hB : dd_B a) (rows w cols : Nat) (hr : rows < 16) (hw : (w = 4 ∧ cols = 15) ∨ (w = 5 ∧ cols = 31)) (hp : post = fun x u => wpY_rankIn (fun y v => posty x y u v) (a, p, t) (nI rows) (nI cols)) (h : ∀ x r' t', posty x x (a, wk, r') (a, p, t')) : wpX_rankOfPart post (a, wk, r) (nI rows) (nI w) := by
  subst hp
  refine dd_ropX _ a wk r hB rows w hr (by omega) (fun f r' hf U V => ?_)
  exact dd_rankIn _ a p t hB rows cols f hr (by omega) hf (dd_KU (dd_A a) rows w cols f hr hw U) (dd_KV (dd_A a) rows w cols f hr hw V) (fun t' => h (nI f) r' t')
theorem i_vc_rank {k : Nat} {u : SX} {v : SY} (I : i_Rel k u v) (hk : k + 4 ≤ 2048) : wpX_rank (fun r u' => wpY_rank (fun r' v' => r' = r ∧ i_Rel (k + 4) u' v') v) u := by
  obtain ⟨a, w, r, p, t, rfl, rfl, hB⟩ := I
  exact dd_rankXY _ (fun x y u v => y = x ∧ i_Rel (k + 4) u v) a w p r t hB 15 4 15 (by decide) (Or.inl ⟨rfl, rfl⟩) rfl (fun x r' t' => ⟨rfl, dd_rel hB⟩)
theorem i_vc_wideRank {k : Nat} {u : SX} {v : SY} (I : i_Rel k u v) (hk : k + 4 ≤ 2048) : wpX_wideRank (fun r u' => wpY_wideRank (fun r' v' => r' = r ∧ i_Rel (k + 4) u' v') v) u := by
  obtain ⟨a, w, r, p, t, rfl, rfl, hB⟩ := I
  exact dd_rankXY _ (fun x y u v => y = x ∧ i_Rel (k + 4) u v) a w p r t hB 15 5 31 (by decide) (Or.inr ⟨rfl, rfl⟩) rfl (fun x r' t' => ⟨rfl, dd_rel hB⟩)
theorem i_vc_rankOf {k : Nat} {u : SX} {v : SY} (I : i_Rel k u v) (hk : k + 4 ≤ 2048) (v1 : Int32) : wpX_rankOf (fun r u' => wpY_rankOf (fun r' v' => r' = r ∧ i_Rel (k + 4) u' v') v v1) u v1 := by
  obtain ⟨a, w, r, p, t, rfl, rfl, hB⟩ := I
  by_cases h0 : v1 < 0
  · exact br_t h0 (br_t h0 ⟨rfl, dd_rel hB⟩)
  · by_cases h1 : v1 ≤ 15
    · obtain ⟨rows, hr, rfl⟩ := nI_of2 (M := 15) (n := 15) (by decide) h0 h1
      refine br_f h0 (br_t h1 ?_)
      refine dd_rankXY _ (fun x y u v => y = x ∧ i_Rel (k + 4) u v) a w p r t hB rows 4 15 (by omega) (Or.inl ⟨rfl, rfl⟩) ?_ (fun x r' t' => ⟨rfl, dd_rel hB⟩)
      funext x u
      obtain ⟨u1, u2, u3⟩ := u
      apply propext
      constructor
      · intro y
        exact (y.2 h0).1 h1
      · intro y
        exact br_f h0 (br_t h1 y)
    · exact br_f h0 (br_f h1 (br_f h0 (br_f h1 ⟨rfl, dd_rel hB⟩)))

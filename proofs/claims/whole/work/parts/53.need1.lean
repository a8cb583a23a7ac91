/-! ===== need: rows of bits ===== -/
def mkm (p : Nat → Bool) : Nat → Nat
  | 0 => 0
  | c + 1 => mkm p c + (if p c = true then 2 ^ c else 0)
theorem mkm_lt {p : Nat → Bool} : ∀ c, mkm p c < 2 ^ c := by
  intro c
  induction c with
  | zero => show 0 < 1; decide
  | succ c ih =>
    rw [mkm, Nat.pow_succ]
    split <;> omega
theorem mkm_c {p p' : Nat → Bool} : ∀ c, (∀ j, j < c → p j = p' j) → mkm p c = mkm p' c := by
  intro c
  induction c with
  | zero => intro _; rfl
  | succ c ih => intro h; rw [mkm, mkm, ih (fun j hj => h j (by omega)), h c (by omega)]
/-- bit i of m -/
def bt (m i : Nat) : Prop := m / 2 ^ i % 2 = 1
theorem bt_mkm {p : Nat → Bool} : ∀ n i, i < n → (bt (mkm p n) i ↔ p i = true) := by
  intro n
  induction n with
  | zero => intro i hi; omega
  | succ n ih =>
    intro i hi
    have hl := mkm_lt (p := p) n
    unfold bt
    rw [mkm]
    by_cases hin : i = n
    · subst hin
      split
      · rename_i q
        have : (mkm p i + 2 ^ i) / 2 ^ i = 1 := by
          rw [Nat.add_div_right _ (Nat.two_pow_pos i), Nat.div_eq_of_lt hl]
        rw [this, q]; decide
      · rename_i q
        rw [Nat.add_zero, Nat.div_eq_of_lt hl]
        exact ⟨fun z => absurd z (by decide), fun z => absurd z q⟩
    · have hi' : i < n := by omega
      have ihh := ih i hi'
      unfold bt at ihh
      split
      · have e : 2 ^ n = 2 ^ i * (2 * 2 ^ (n - i - 1)) := by
          rw [← Nat.pow_succ', ← Nat.pow_add]; congr 1; omega
        rw [e, Nat.add_mul_div_left _ _ (Nat.two_pow_pos i), Nat.add_mul_mod_self_left]
        exact ihh
      · rw [Nat.add_zero]; exact ihh
theorem mkm_0 {p : Nat → Bool} : ∀ n, mkm p n = 0 ↔ ∀ i, i < n → ¬ p i = true := by
  intro n
  induction n with
  | zero => exact ⟨fun _ i hi => absurd hi (by omega), fun _ => rfl⟩
  | succ n ih =>
    rw [mkm]
    constructor
    · intro h i hi
      have h2 := Nat.two_pow_pos n
      have h1 : mkm p n = 0 := by omega
      by_cases hin : i = n
      · subst hin
        intro q
        rw [if_pos q] at h; omega
      · exact ih.mp h1 i (by omega)
    · intro h
      rw [ih.mpr (fun i hi => h i (by omega)), if_neg (h n (by omega))]
/-- the three bits about column c -/
def nbr (p : Nat → Bool) (c : Nat) : Bool := (decide (1 ≤ c) && p (c - 1)) || p c || (decide (c < 11) && p (c + 1))
theorem nbr_bits {p : Nat → Bool} {c : Nat} (hc : c < 12) : (mkm p 12 * 2 / 2 ^ c % 8 = 0) ↔ ¬ nbr p c = true := by
  have hl := mkm_lt (p := p) 12
  generalize hm : mkm p 12 = m at hl
  have B : ∀ i, i < 12 → (m / 2 ^ i % 2 = 1 ↔ p i = true) := fun i hi => by rw [← hm]; exact bt_mkm 12 i hi
  have key : ∀ x : Nat, x % 8 = 0 ↔ ¬ (x % 2 = 1 ∨ x / 2 % 2 = 1 ∨ x / 4 % 2 = 1) := fun x => by omega
  unfold nbr
  simp only [Bool.or_eq_true, Bool.and_eq_true, decide_eq_true_eq]
  rw [key]
  apply not_congr
  by_cases h0 : c = 0
  · subst h0
    have b0 := B 0 (by decide)
    have b1 := B 1 (by decide)
    rw [Nat.pow_zero, Nat.div_one] at *
    rw [← b0, ← b1]
    omega
  · obtain ⟨k, rfl⟩ : ∃ k, c = k + 1 := ⟨c - 1, by omega⟩
    have e : m * 2 / 2 ^ (k + 1) = m / 2 ^ k := by rw [Nat.pow_succ, Nat.mul_comm (2 ^ k) 2, Nat.mul_comm m 2, Nat.mul_div_mul_left _ _ (by decide)]
    have e1 : m / 2 ^ k / 2 = m / 2 ^ (k + 1) := by rw [Nat.div_div_eq_div_mul, ← Nat.pow_succ]
    have e2 : m / 2 ^ k / 4 = m / 2 ^ (k + 2) := by rw [Nat.div_div_eq_div_mul, show 2 ^ (k + 2) = 2 ^ k * 4 from by rw [Nat.pow_add]]
    rw [e, e1, e2, B k (by omega), B (k + 1) hc]
    by_cases h11 : k + 1 < 11
    · rw [B (k + 2) (by omega)]
      constructor
      · intro z; rcases z with z | z | z
        · exact Or.inl (Or.inl ⟨by omega, z⟩)
        · exact Or.inl (Or.inr z)
        · exact Or.inr ⟨h11, z⟩
      · intro z; rcases z with (z | z) | z
        · exact Or.inl z.2
        · exact Or.inr (Or.inl z)
        · exact Or.inr (Or.inr z.2)
    · have : m / 2 ^ (k + 2) = 0 := Nat.div_eq_of_lt (by rw [show k + 2 = 12 by omega]; exact hl)
      rw [this]
      constructor
      · intro z; rcases z with z | z | z
        · exact Or.inl (Or.inl ⟨by omega, z⟩)
        · exact Or.inl (Or.inr z)
        · exact absurd z (by decide)
      · intro z; rcases z with (z | z) | z
        · exact Or.inl z.2
        · exact Or.inr (Or.inl z)
        · exact absurd z.1 h11
theorem nI_or (a b : Nat) : nI a ||| nI b = nI (a ||| b) := by
  apply Int32.toBitVec_inj.mp
  apply BitVec.eq_of_toNat_eq
  show (BitVec.ofNat 32 a ||| BitVec.ofNat 32 b).toNat = (BitVec.ofNat 32 (a ||| b)).toNat
  simp [BitVec.toNat_or, BitVec.toNat_ofNat, Nat.or_mod_two_pow]
theorem shT : ∀ c, c < 12 → (nI c &&& 31 = nI c ∧ ((nI c).toBitVec.smod 32).toNat = c) := by decide
theorem three_bits {m c : Nat} (hm : m < 4096) (hc : c < 12) : ((nI m <<< (1 &&& 31)) >>> (nI c &&& 31)) &&& 7 = nI (m * 2 / 2 ^ c % 8) := by
  rw [(shT c hc).1, show ((1 : Int32) &&& 31) = 1 by decide, pk_shlN (n := m) 1 1 (by decide) (by omega)]
  have h2 : m * 2 ^ 1 = m * 2 := rfl
  rw [h2, pk_shrN (by omega) (nI c) c (shT c hc).2]
  have h3 : m * 2 / 2 ^ c ≤ m * 2 := Nat.div_le_self _ _
  exact pk_andN (by omega) 3 (by decide)
theorem set_bit {a c : Nat} (ha : a < 2 ^ c) (hc : c < 12) : nI a ||| (1 <<< (nI c &&& 31)) = nI (a + 2 ^ c) := by
  have hp : 2 ^ c ≤ 2 ^ 11 := Nat.pow_le_pow_right (by decide) (by omega)
  rw [(shT c hc).1, show (1 : Int32) = nI 1 from rfl, pk_shlN (n := 1) (nI c) c (shT c hc).2 (by omega), nI_or]
  congr 1
  rw [Nat.one_mul, Nat.or_comm]
  have := Nat.two_pow_add_eq_or_of_lt ha 1
  rw [Nat.mul_one] at this
  omega

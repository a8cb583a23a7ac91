/-! ===== need ===== -/
/-- which columns of row r can be reached with holds up to v -/
def mkR (f : Nat → Int32) (v : Nat) : Nat → Nat → Bool
  | 0, _ => true
  | r + 1, c => nbr (mkR f v r) c && decide (hN f (12 * (r + 1) + c) ≤ v)
theorem bst_lb {C : Nat → Nat} {c : Nat} : ∀ K k, k ≤ K → nbl c k ≠ 0 → bst C c K ≤ C k := by
  intro K
  induction K with
  | zero => intro k hk _; have : k = 0 := by omega
            subst this; exact Nat.le_refl _
  | succ K ih =>
    intro k hk hn
    rw [bst]
    by_cases hkK : k = K + 1
    · subst hkK; rw [if_neg hn]; omega
    · have := ih k (by omega) hn
      split
      · exact this
      · omega
theorem RV_iff {f : Nat → Int32} {c v : Nat} (hc : c < 180) : RV f false c ≤ v ↔ ∃ k, k ≤ 2 ∧ nbl c k ≠ 0 ∧ hN f (nbl c k) ≤ v ∧ RV f false (nbl c k) ≤ v := by
  rw [RV_st hc]
  constructor
  · intro h
    obtain ⟨k, k1, k2, k3⟩ := bst_at (C := RC f false c) (c := c) 2
    rw [k3] at h
    have h' : max (hN f (nbl c k)) (RV f false (nbl c k)) ≤ v := h
    exact ⟨k, k1, k2, by omega, by omega⟩
  · intro ⟨k, k1, k2, k3, k4⟩
    refine Nat.le_trans (bst_lb 2 k k1 k2) ?_
    show max (hN f (nbl c k)) (RV f false (nbl c k)) ≤ v
    omega
theorem nbr_iff {p : Nat → Bool} {c : Nat} (hc : c < 12) : nbr p c = true ↔ ∃ d, d < 12 ∧ p d = true ∧ (d + 1 = c ∨ d = c ∨ d = c + 1) := by
  unfold nbr
  simp only [Bool.or_eq_true, Bool.and_eq_true, decide_eq_true_eq]
  constructor
  · intro z; rcases z with (z | z) | z
    · exact ⟨c - 1, by omega, z.2, by omega⟩
    · exact ⟨c, hc, z, by omega⟩
    · exact ⟨c + 1, by omega, z.2, by omega⟩
  · intro ⟨d, d1, d2, d3⟩
    rcases d3 with z | z | z
    · subst z; exact Or.inl (Or.inl ⟨by omega, by rw [show d + 1 - 1 = d by omega]; exact d2⟩)
    · subst z; exact Or.inl (Or.inr d2)
    · subst z; exact Or.inr ⟨by omega, d2⟩
theorem row_step {f : Nat → Int32} {v r : Nat} (hr : r < 15) : (∃ c, c < 12 ∧ mkR f v r c = true ∧ RV f false (12 * r + c) ≤ v) ↔ (∃ c, c < 12 ∧ mkR f v (r + 1) c = true ∧ RV f false (12 * (r + 1) + c) ≤ v) := by
  constructor
  · intro ⟨c, c1, c2, c3⟩
    obtain ⟨k, k1, k2, k3, k4⟩ := (RV_iff (c := 12 * r + c) (by omega)).mp c3
    have T : ∃ c', c' < 12 ∧ nbl (12 * r + c) k = 12 * (r + 1) + c' ∧ (c + 1 = c' ∨ c = c' ∨ c = c' + 1) := by
      have : k = 0 ∨ k = 1 ∨ k = 2 := by omega
      rcases this with rfl | rfl | rfl
      · exact ⟨c, c1, by show 12 * r + c + 12 = _; omega, by omega⟩
      · have e : nbl (12 * r + c) 1 = if (12 * r + c) % 12 = 0 then 0 else 12 * r + c + 11 := rfl
        rw [e] at k2 ⊢
        by_cases h : (12 * r + c) % 12 = 0
        · rw [if_pos h] at k2; exact absurd rfl k2
        · rw [if_neg h]; exact ⟨c - 1, by omega, by omega, by omega⟩
      · have e : nbl (12 * r + c) 2 = if (12 * r + c) % 12 = 11 then 0 else 12 * r + c + 13 := rfl
        rw [e] at k2 ⊢
        by_cases h : (12 * r + c) % 12 = 11
        · rw [if_pos h] at k2; exact absurd rfl k2
        · rw [if_neg h]; exact ⟨c + 1, by omega, by omega, by omega⟩
    obtain ⟨c', d1, d2, d3⟩ := T
    rw [d2] at k3 k4
    refine ⟨c', d1, ?_, k4⟩
    rw [mkR]
    simp only [Bool.and_eq_true, decide_eq_true_eq]
    exact ⟨(nbr_iff d1).mpr ⟨c, c1, c2, d3⟩, k3⟩
  · intro ⟨c', d1, d2, d3⟩
    rw [mkR] at d2
    simp only [Bool.and_eq_true, decide_eq_true_eq] at d2
    obtain ⟨c, c1, c2, c3⟩ := (nbr_iff d1).mp d2.1
    refine ⟨c, c1, c2, (RV_iff (by omega)).mpr ?_⟩
    rcases c3 with z | z | z
    · refine ⟨2, by omega, ?_, ?_⟩
      · show (if (12 * r + c) % 12 = 11 then 0 else 12 * r + c + 13) ≠ 0
        rw [if_neg (by omega)]; omega
      · have e : nbl (12 * r + c) 2 = 12 * (r + 1) + c' := by
          show (if (12 * r + c) % 12 = 11 then 0 else 12 * r + c + 13) = _
          rw [if_neg (by omega)]; omega
        rw [e]; exact ⟨d2.2, d3⟩
    · refine ⟨0, by omega, ?_, ?_⟩
      · show 12 * r + c + 12 ≠ 0; omega
      · have e : nbl (12 * r + c) 0 = 12 * (r + 1) + c' := by show 12 * r + c + 12 = _; omega
        rw [e]; exact ⟨d2.2, d3⟩
    · refine ⟨1, by omega, ?_, ?_⟩
      · show (if (12 * r + c) % 12 = 0 then 0 else 12 * r + c + 11) ≠ 0
        rw [if_neg (by omega)]; omega
      · have e : nbl (12 * r + c) 1 = 12 * (r + 1) + c' := by
          show (if (12 * r + c) % 12 = 0 then 0 else 12 * r + c + 11) = _
          rw [if_neg (by omega)]; omega
        rw [e]; exact ⟨d2.2, d3⟩
theorem lsA_min {g : Nat → Nat} : ∀ n i b, n + i = 12 → (∀ j, j < i → g b ≤ g j) → ∀ j, j < 12 → g (lsA g n i b) ≤ g j := by
  intro n
  induction n with
  | zero => intro i b hi h j hj; exact h j (by omega)
  | succ n ih =>
    intro i b hi h
    rw [lsA]
    split
    · rename_i q
      exact ih (i + 1) b (by omega) (fun j hj => by
        by_cases hji : j = i
        · subst hji; exact q
        · exact h j (by omega))
    · rename_i q
      exact ih (i + 1) i (by omega) (fun j hj => by
        by_cases hji : j = i
        · subst hji; exact Nat.le_refl _
        · have := h j (by omega); omega)
theorem way_iff {f : Nat → Int32} {v : Nat} : (∃ c, c < 12 ∧ mkR f v 15 c = true) ↔ RV f false (beg f false) ≤ v := by
  have A : ∀ r, r ≤ 15 → ((∃ c, c < 12 ∧ mkR f v 0 c = true ∧ RV f false (12 * 0 + c) ≤ v) ↔ (∃ c, c < 12 ∧ mkR f v r c = true ∧ RV f false (12 * r + c) ≤ v)) := by
    intro r
    induction r with
    | zero => intro _; exact Iff.rfl
    | succ r ih => intro hr; exact (ih (by omega)).trans (row_step (by omega))
  have A15 := A 15 (by decide)
  have L : RV f false (beg f false) ≤ v ↔ (∃ c, c < 12 ∧ mkR f v 0 c = true ∧ RV f false (12 * 0 + c) ≤ v) := by
    constructor
    · intro h; exact ⟨beg f false, beg_lt, rfl, by rw [show 12 * 0 + beg f false = beg f false by omega]; exact h⟩
    · intro ⟨c, c1, _, c3⟩
      rw [show 12 * 0 + c = c by omega] at c3
      exact Nat.le_trans (lsA_min 11 1 0 rfl (fun j hj => by have : j = 0 := by omega
                                                             subst this; exact Nat.le_refl _) c c1) c3
  rw [L, A15]
  constructor
  · intro ⟨c, c1, c2⟩; exact ⟨c, c1, c2, by rw [RV_top (by omega)]; omega⟩
  · intro ⟨c, c1, c2, _⟩; exact ⟨c, c1, c2⟩
theorem need27 {f : Nat → Int32} (ok : okF f) : ∀ n c, c < 192 → 15 - c / 12 = n → RV f false c ≤ 27 := by
  intro n
  induction n with
  | zero => intro c hc h; rw [RV_top (by omega)]; omega
  | succ n ih =>
    intro c hc h
    refine (RV_iff (by omega)).mpr ⟨0, by omega, by show c + 12 ≠ 0; omega, ?_, ?_⟩
    · exact (hN_ok ok (c := c + 12) (by omega)).1
    · exact ih (c + 12) (by omega) (by omega)
section ND
variable {w : Wd} {h : Nat} {M : Mem} {K : Int32 → Mem → Prop} {f : Nat → Int32}
theorem uX11_isWay (hh : 3 ≤ h) (ok : okF (M 60)) (h4 : M 59 4 = 0) {v : Nat} (hv : v ≤ 27) (hK : K (b2i (RV (M 60) false (beg (M 60) false) ≤ v)) M) : CSi w h kX11_isWay [.ref 59, .int (nI v)] M K := by
  obtain ⟨h, rfl⟩ : ∃ k, h = k + 1 := ⟨h - 1, by omega⟩
  refine csi_of (by decide) (Nat.le_of_ble_eq_true rfl) (vX11_isWay_0 _ M _ ?_)
  have O : ∀ n r, n + r = 15 → RM w (h + 1) kX11_isWay 6 [(0, .ref 59), (1, .int (nI v)), (2, .int (nI (mkm (mkR (M 60) v r) 12))), (3, .int (nI (r + 1)))] [] M (fun r M' => ∃ x, r = some (.int x) ∧ K x M') := by
    intro n
    induction n with
    | zero =>
      intro r hr
      have : r = 15 := by omega
      subst this
      refine vX11_isWay_6 _ _ _ M _ ⟨fun _ => ⟨_, rfl, ?_⟩, fun q => absurd (by decide) q⟩
      have hl := mkm_lt (p := mkR (M 60) v 15) 12
      rw [b2i_iff (Q := RV (M 60) false (beg (M 60) false) ≤ v)]
      · exact hK
      · rw [← way_iff]
        constructor
        · intro z
          have z' : ¬ mkm (mkR (M 60) v 15) 12 = 0 := fun q => z (by rw [q]; rfl)
          rw [mkm_0] at z'
          refine Classical.byContradiction (fun q => z' (fun i hi p => q ⟨i, hi, p⟩))
        · intro ⟨c, c1, c2⟩ z
          have z' : mkm (mkR (M 60) v 15) 12 = 0 := (nI_eq (b := 0) (by omega) (by decide)).mp z
          exact mkm_0 12 |>.mp z' c c1 c2
    | succ n ih =>
      intro r hr
      have hl := mkm_lt (p := mkR (M 60) v r) 12
      refine vX11_isWay_6 _ _ _ M _ ⟨fun q => absurd q (nI_ge (b := 16) (by omega) (by decide)), fun _ => ?_⟩
      have I : ∀ c, c ≤ 12 → RM w (h + 1) kX11_isWay 18 [(0, .ref 59), (1, .int (nI v)), (2, .int (nI (mkm (mkR (M 60) v r) 12))), (3, .int (nI (r + 1))), (4, .int (nI (mkm (mkR (M 60) v (r + 1)) c))), (5, .int (nI c))] [] M (fun r M' => ∃ x, r = some (.int x) ∧ K x M') := by
        refine up_ind ?_ (fun c hc ihc => ?_)
        · refine vX11_isWay_18 _ _ _ _ _ M _ ⟨fun _ x1 e1 => ?_, fun q => absurd (by decide) q⟩
          rw [e1, nI_1]; exact ih (r + 1) (by omega)
        · have hl2 := mkm_lt (p := mkR (M 60) v (r + 1)) c
          have eD : mkR (M 60) v (r + 1) c = (nbr (mkR (M 60) v r) c && decide (hN (M 60) (12 * (r + 1) + c) ≤ v)) := rfl
          rw [show mkm (mkR (M 60) v (r + 1)) (c + 1) = mkm (mkR (M 60) v (r + 1)) c + (if mkR (M 60) v (r + 1) c = true then 2 ^ c else 0) from rfl] at ihc
          refine vX11_isWay_18 _ _ _ _ _ M _ ⟨fun q => absurd q (nI_ge (b := 12) hc (by decide)), fun _ x1 e1 => ?_⟩
          rw [three_bits hl hc] at e1
          have h8 : mkm (mkR (M 60) v r) 12 * 2 / 2 ^ c % 8 < 8 := Nat.mod_lt _ (by decide)
          have e1' : x1 = 0 ↔ ¬ nbr (mkR (M 60) v r) c = true := by
            rw [e1, b2i_0, Classical.not_not, show (0 : Int32) = nI 0 from rfl, nI_eq (by omega) (by decide)]
            exact nbr_bits hc
          refine ⟨fun q x2 e2 x3 e3 => ?_, fun q => ?_⟩
          · have nb : nbr (mkR (M 60) v r) c = false := by
              cases hq : nbr (mkR (M 60) v r) c with
              | false => rfl
              | true => exact absurd hq (e1'.mp q)
            rw [eD, nb, Bool.false_and, if_neg (by decide), Nat.add_zero] at ihc
            rw [e3, nI_1, e2, or_z]; exact ihc
          · have nb : nbr (mkR (M 60) v r) c = true := Classical.not_not.mp (fun z => q (e1'.mpr z))
            have i12 : 12 * nI (r + 1) = nI (12 * (r + 1)) := pk_mul 12 (r + 1)
            rw [i12, nI_add]
            refine uX11_holdOf (by omega) (nI_pos' (by omega)) (nI_le (b := 191) (by omega) (by decide)) (fun x2 e2 x3 e3 => ?_)
            have hn := hN_ok ok (c := 12 * (r + 1) + c) (by omega)
            rw [wtR_F h4, dtR_F, hn.2] at e2
            rw [e3, nI_1, e2]
            by_cases hle : hN (M 60) (12 * (r + 1) + c) ≤ v
            · rw [if_neg (nI_nlt hle (by omega)), set_bit hl2 hc]
              rw [eD, nb, Bool.true_and, if_pos (by rw [decide_eq_true_iff]; exact hle)] at ihc
              exact ihc
            · rw [if_pos (nI_lt (by omega) (by omega)), or_z]
              rw [eD, nb, Bool.true_and, if_neg (by rw [decide_eq_true_iff]; exact hle), Nat.add_zero] at ihc
              exact ihc
      exact I 0 (by decide)
  have e0 : mkm (mkR (M 60) v 0) 12 = 4095 := by
    rw [mkm_c (p := mkR (M 60) v 0) (p' := fun _ => true) 12 (fun _ _ => rfl)]; decide
  have := O 15 0 rfl
  rw [e0] at this
  exact this
theorem p_need (hI : INV M) : PAIR w kX10_need kX11_need [] M := by
  have ok : okF (M 60) := ⟨M, hI.cr⟩
  have hbg : beg (M 60) false < 12 := beg_lt
  have hn := need27 ok (15 - beg (M 60) false / 12) (beg (M 60) false) (by omega) rfl
  refine pairQ hI (.inl (nI (RV (M 60) false (beg (M 60) false)))) inL' (fun K hK => ?_) (fun M1 r K hK => ?_)
  · refine csi_of (by decide) (Nat.le_of_ble_eq_true rfl) (vX10_need_0 M _ ?_)
    refine uX9_reckon (s := false) (by decide) hI.cr (fun Ma ea fa => uX9_leastStart (s := false) ok ea ⟨vp_in_nI (by omega) (by decide), _, rfl, ?_⟩)
    rw [nI_clamp (by omega), ea _ (by omega)]
    exact hK Ma (FR.c (fun q hq => fa q (by omega)))
  · have ok1 : okF (M1 60) := by rw [r.m60]; exact ok
    have h4 : M1 59 4 = 0 := r.2.2.1.trans hI.2.2.2.2.2
    refine csi_of (by decide) (Nat.le_of_ble_eq_true rfl) (vX11_need_0 M1 _ ?_)
    have g := hK M1 FR.refl
    have L : ∀ v, v ≤ RV (M 60) false (beg (M 60) false) → RM w 12 kX11_need 2 [(0, .ref 59), (1, .int (nI v))] [] M1 (fun r M' => ∃ x, r = some (.int x) ∧ K x M') := by
      refine up_ind ?_ (fun v hv ih => ?_)
      · refine vX11_need_2 _ M1 _ (uX11_isWay (by decide) ok1 h4 (by omega) ?_)
        rw [r.m60]
        exact ⟨fun _ => ⟨_, rfl, g⟩, fun q => absurd (Nat.le_refl _) (b2i_0.mp q)⟩
      · refine vX11_need_2 _ M1 _ (uX11_isWay (by decide) ok1 h4 (by omega) ?_)
        rw [r.m60]
        refine ⟨fun q => absurd (b2n.mp q) (by omega), fun _ x1 e1 => ?_⟩
        rw [e1, nI_1]; exact ih
    exact L 0 (Nat.zero_le _)
end ND

/-! ===== kinds of cells by variables ===== -/
def isPane (P : Nat) : Prop := (lay P).1 = 2 ∧ lay (P + 1) = (12, 192) ∧ lay (P + 2) = (12, 192) ∧ lay (P + 3) = (12, 3)
def isWalk (K : Nat) : Prop := (lay K).1 = 8 ∧ lay (K + 1) = (12, 65)
def isSheetC (K : Nat) : Prop := (lay K).1 = 6 ∧ lay (K + 1) = (12, 40)
def isDropsC (D : Nat) : Prop := (lay D).1 = 0 ∧ lay (D + 1) = (12, 8) ∧ lay (D + 2) = (12, 8) ∧ lay (D + 3) = (12, 8) ∧ lay (D + 4) = (12, 8)
def isProgs (D : Nat) : Prop := (lay D).1 = 3 ∧ lay (D + 1) = (12, 6) ∧ lay (D + 2) = (12, 72) ∧ lay (D + 3) = (12, 72) ∧ lay (D + 4) = (12, 72)
def isScene (A : Nat) : Prop := (lay A).1 = 5 ∧ isPane (A + 1) ∧ isDropsC (A + 5) ∧ isProgs (A + 10) ∧ lay (A + 15) = (12, 12) ∧ lay (A + 16) = (12, 10)
theorem sheet_ok {i : Int32} (h : vp_in i 4) : isSheetC (41 + 2 * i.toNatClampNeg) := by
  have hlt : i.toNatClampNeg < 4 := Nat.not_le.mp fun q => h (Or.inr q)
  generalize i.toNatClampNeg = k at hlt
  match k, hlt with
  | 0, _ => exact ⟨rfl, rfl⟩
  | 1, _ => exact ⟨rfl, rfl⟩
  | 2, _ => exact ⟨rfl, rfl⟩
  | 3, _ => exact ⟨rfl, rfl⟩
theorem b2i_iff {P Q : Prop} [Decidable P] [Decidable Q] (h : P ↔ Q) : b2i P = b2i Q := by
  by_cases hp : P
  · rw [b2i_t hp, b2i_t (h.mp hp)]
  · rw [b2i_f hp, b2i_f (fun q => hp (h.mpr q))]
theorem i32_nlt {a b : Int32} : ¬ a < b ↔ b ≤ a := Int32.not_lt
theorem i32_nle {a b : Int32} : ¬ a ≤ b ↔ b < a := Int32.not_le
theorem i64_lt {a b : Int32} : a.toInt64 < b.toInt64 ↔ a < b := by
  rw [Int64.lt_iff_toInt_lt, Int32.lt_iff_toInt_lt, Int32.toInt_toInt64, Int32.toInt_toInt64]
set_option maxRecDepth 100000 in
set_option maxHeartbeats 4000000 in
theorem vX10_isWithin_0 {w : Wd} {h : Nat} (a0 : Int32) (a1 : Int32) (a2 : Int32)  (M : Mem) (Q : Option Value → Mem → Prop) (V : ((a0 < a1 → (Q (some (.int 0)) M)) ∧ (¬ (a0 < a1) → (Q (some (.int (b2i (¬ (a2 < a0))))) M)))) : RM w h kX10_isWithin 0 [(0, .int a0), (1, .int a1), (2, .int a2)] [] M Q := by
  refine rj_iload_n dX10_isWithin_0 0 rfl rfl ?_
  refine rj_iload_n dX10_isWithin_1 1 rfl rfl ?_
  obtain ⟨V1, V2⟩ := V
  refine rj_icmp_lt (tgt := 14) dX10_isWithin_2 (by decide) (fun hc => ?_) (fun hc => ?_)
  · have V := V1 hc
    refine rj_iconst (v := 0) dX10_isWithin_14 (by decide) ?_
    exact rm_iret dX10_isWithin_15 rfl rfl V
  · have V := V2 hc
    refine rj_iload_n dX10_isWithin_5 0 rfl rfl ?_
    refine rj_iload_n dX10_isWithin_6 2 rfl rfl ?_
    have KD : RM w h kX10_isWithin 15 [(0, .int a0), (1, .int a1), (2, .int a2)] [.int (b2i (¬ (a2 < a0)))] M Q := by
      exact rm_iret dX10_isWithin_15 rfl (isB_n isB_b2i) V
    refine rj_icmp_gt (tgt := 14) dX10_isWithin_7 (by decide) (fun hc => ?_) (fun hc => ?_)
    · refine rj_iconst (v := 0) dX10_isWithin_14 (by decide) ?_
      exact rs_b0 (fun q => q hc) KD
    · refine rj_iconst (v := 1) dX10_isWithin_10 (by decide) ?_
      refine rj_goto (tgt := 15) dX10_isWithin_11 (by decide) ?_
      exact rs_b1 hc KD
theorem uX10_isWithin {w : Wd} {h : Nat} {a0 : Int32} {a1 : Int32} {a2 : Int32} {M : Mem} {K : Int32 → Mem → Prop} (hK : K (b2i (a1 ≤ a0 ∧ a0 ≤ a2)) M) : CSi w h kX10_isWithin [.int a0, .int a1, .int a2] M K := by
  refine csi_of (by decide) (Nat.le_of_ble_eq_true rfl) ?_
  refine vX10_isWithin_0 a0 a1 a2 M _ ?_
  refine ⟨fun h1 => ⟨_, rfl, ?_⟩, fun h1 => ⟨_, rfl, ?_⟩⟩
  · rwa [b2i_f (fun q => absurd q.1 (i32_nle.mpr h1))] at hK
  · rwa [b2i_iff (Q := (a1 ≤ a0 ∧ a0 ≤ a2)) ⟨fun h => ⟨i32_nlt.mp h1, i32_nlt.mp h⟩, fun h => i32_nlt.mpr h.2⟩]
set_option maxRecDepth 100000 in
set_option maxHeartbeats 4000000 in
theorem vX10_isWidth_0 {w : Wd} {h : Nat} (a0 : Int32)  (M : Mem) (Q : Option Value → Mem → Prop) (V : ((a0 = 0 → (Q (some (.int 1)) M)) ∧ (¬ (a0 = 0) → ((a0 = 8 → (Q (some (.int 1)) M)) ∧ (¬ (a0 = 8) → ((a0 = 16 → (Q (some (.int 1)) M)) ∧ (¬ (a0 = 16) → (Q (some (.int (b2i (a0 = 32)))) M)))))))) : RM w h kX10_isWidth 0 [(0, .int a0)] [] M Q := by
  refine rj_iload_n dX10_isWidth_0 0 rfl rfl ?_
  obtain ⟨V1, V2⟩ := V
  refine rj_if_eq (tgt := 22) dX10_isWidth_1 (by decide) (fun hc => ?_) (fun hc => ?_)
  · have V := V1 hc
    refine rj_iconst (v := 1) dX10_isWidth_22 (by decide) ?_
    refine rj_goto (tgt := 27) dX10_isWidth_23 (by decide) ?_
    exact rm_iret dX10_isWidth_27 rfl rfl V
  · have V := V2 hc
    refine rj_iload_n dX10_isWidth_4 0 rfl rfl ?_
    refine rj_bipush (v := 8) dX10_isWidth_5 (by decide) ?_
    obtain ⟨V1, V2⟩ := V
    refine rj_icmp_eq (tgt := 22) dX10_isWidth_7 (by decide) (fun hc => ?_) (fun hc => ?_)
    · have V := V1 hc
      refine rj_iconst (v := 1) dX10_isWidth_22 (by decide) ?_
      refine rj_goto (tgt := 27) dX10_isWidth_23 (by decide) ?_
      exact rm_iret dX10_isWidth_27 rfl rfl V
    · have V := V2 hc
      refine rj_iload_n dX10_isWidth_10 0 rfl rfl ?_
      refine rj_bipush (v := 16) dX10_isWidth_11 (by decide) ?_
      obtain ⟨V1, V2⟩ := V
      refine rj_icmp_eq (tgt := 22) dX10_isWidth_13 (by decide) (fun hc => ?_) (fun hc => ?_)
      · have V := V1 hc
        refine rj_iconst (v := 1) dX10_isWidth_22 (by decide) ?_
        refine rj_goto (tgt := 27) dX10_isWidth_23 (by decide) ?_
        exact rm_iret dX10_isWidth_27 rfl rfl V
      · have V := V2 hc
        refine rj_iload_n dX10_isWidth_16 0 rfl rfl ?_
        refine rj_bipush (v := 32) dX10_isWidth_17 (by decide) ?_
        have KD : RM w h kX10_isWidth 27 [(0, .int a0)] [.int (b2i (a0 = 32))] M Q := by
          exact rm_iret dX10_isWidth_27 rfl (isB_n isB_b2i) V
        refine rj_icmp_ne (tgt := 26) dX10_isWidth_19 (by decide) (fun hc => ?_) (fun hc => ?_)
        · refine rj_iconst (v := 0) dX10_isWidth_26 (by decide) ?_
          exact rs_b0 hc KD
        · refine rj_iconst (v := 1) dX10_isWidth_22 (by decide) ?_
          refine rj_goto (tgt := 27) dX10_isWidth_23 (by decide) ?_
          exact rs_b1 hc KD
theorem uX10_isWidth {w : Wd} {h : Nat} {a0 : Int32} {M : Mem} {K : Int32 → Mem → Prop} (hK : K (b2i (a0 = 0 ∨ a0 = 8 ∨ a0 = 16 ∨ a0 = 32)) M) : CSi w h kX10_isWidth [.int a0] M K := by
  refine csi_of (by decide) (Nat.le_of_ble_eq_true rfl) ?_
  refine vX10_isWidth_0 a0 M _ ?_
  refine ⟨fun h1 => ⟨_, rfl, ?_⟩, fun h1 => ⟨fun h2 => ⟨_, rfl, ?_⟩, fun h2 => ⟨fun h3 => ⟨_, rfl, ?_⟩, fun h3 => ⟨_, rfl, ?_⟩⟩⟩⟩
  · rwa [b2i_t (Or.inl h1)] at hK
  · rwa [b2i_t (Or.inr (Or.inl h2))] at hK
  · rwa [b2i_t (Or.inr (Or.inr (Or.inl h3)))] at hK
  · rwa [b2i_iff (Q := (a0 = 0 ∨ a0 = 8 ∨ a0 = 16 ∨ a0 = 32)) ⟨fun h => Or.inr (Or.inr (Or.inr h)), fun h => by rcases h with h | h | h | h <;> first | exact absurd h h1 | exact absurd h h2 | exact absurd h h3 | exact h⟩]
set_option maxRecDepth 100000 in
set_option maxHeartbeats 4000000 in
theorem vX10_columnOf_0 {w : Wd} {h : Nat} (a0 : Int32)  (M : Mem) (Q : Option Value → Mem → Prop) (V : (Q (some (.int (a0 - a0 / 12 * 12))) M)) : RM w h kX10_columnOf 0 [(0, .int a0)] [] M Q := by
  refine rj_iload_n dX10_columnOf_0 0 rfl rfl ?_
  refine rj_bipush (v := 12) dX10_columnOf_1 (by decide) ?_
  refine rj_irem dX10_columnOf_3 (by decide) ?_
  exact rm_iret dX10_columnOf_4 rfl rfl V
theorem uX10_columnOf {w : Wd} {h : Nat} {a0 : Int32} {M : Mem} {K : Int32 → Mem → Prop} (hK : K ((a0 - a0 / 12 * 12)) M) : CSi w h kX10_columnOf [.int a0] M K := by
  refine csi_of (by decide) (Nat.le_of_ble_eq_true rfl) ?_
  refine vX10_columnOf_0 a0 M _ ?_
  exact ⟨_, rfl, hK⟩
set_option maxRecDepth 100000 in
set_option maxHeartbeats 4000000 in
theorem vX10_isOnLastRow_0 {w : Wd} {h : Nat} (a0 : Int32)  (M : Mem) (Q : Option Value → Mem → Prop) (V : (Q (some (.int (b2i (¬ (a0 < 180))))) M)) : RM w h kX10_isOnLastRow 0 [(0, .int a0)] [] M Q := by
  refine rj_iload_n dX10_isOnLastRow_0 0 rfl rfl ?_
  refine rj_sipush (v := 180) dX10_isOnLastRow_1 (by decide) ?_
  have KD : RM w h kX10_isOnLastRow 12 [(0, .int a0)] [.int (b2i (¬ (a0 < 180)))] M Q := by
    exact rm_iret dX10_isOnLastRow_12 rfl (isB_n isB_b2i) V
  refine rj_icmp_lt (tgt := 11) dX10_isOnLastRow_4 (by decide) (fun hc => ?_) (fun hc => ?_)
  · refine rj_iconst (v := 0) dX10_isOnLastRow_11 (by decide) ?_
    exact rs_b0 (fun q => q hc) KD
  · refine rj_iconst (v := 1) dX10_isOnLastRow_7 (by decide) ?_
    refine rj_goto (tgt := 12) dX10_isOnLastRow_8 (by decide) ?_
    exact rs_b1 hc KD
theorem uX10_isOnLastRow {w : Wd} {h : Nat} {a0 : Int32} {M : Mem} {K : Int32 → Mem → Prop} (hK : K (b2i (180 ≤ a0)) M) : CSi w h kX10_isOnLastRow [.int a0] M K := by
  refine csi_of (by decide) (Nat.le_of_ble_eq_true rfl) ?_
  refine vX10_isOnLastRow_0 a0 M _ ?_
  refine ⟨_, rfl, ?_⟩
  rwa [b2i_iff (Q := 180 ≤ a0) i32_nlt]
set_option maxRecDepth 100000 in
set_option maxHeartbeats 4000000 in
theorem vX11_in_0 {w : Wd} {h : Nat} (a0 : Int64) (a1 : Int64) (a2 : Int64)  (M : Mem) (Q : Option Value → Mem → Prop) (V : (((lg_cmp a0 a1) < 0 → (Q (some (.int 0)) M)) ∧ (¬ ((lg_cmp a0 a1) < 0) → (Q (some (.int (b2i (¬ (0 < (lg_cmp a0 a2)))))) M)))) : RM w h kX11_in 0 [(0, .long a0), (2, .long a1), (4, .long a2)] [] M Q := by
  refine rj_lload_n dX11_in_0 0 rfl rfl ?_
  refine rj_lload_n dX11_in_1 1 rfl rfl ?_
  refine rj_lcmp dX11_in_2 ?_
  obtain ⟨V1, V2⟩ := V
  refine rj_if_lt (tgt := 17) dX11_in_3 (by decide) (fun hc => ?_) (fun hc => ?_)
  · have V := V1 hc
    refine rj_iconst (v := 0) dX11_in_17 (by decide) ?_
    exact rm_iret dX11_in_18 rfl rfl V
  · have V := V2 hc
    refine rj_lload_n dX11_in_6 0 rfl rfl ?_
    refine rj_lload dX11_in_7 2 rfl ?_
    refine rj_lcmp dX11_in_9 ?_
    have KD : RM w h kX11_in 18 [(0, .long a0), (2, .long a1), (4, .long a2)] [.int (b2i (¬ (0 < (lg_cmp a0 a2))))] M Q := by
      exact rm_iret dX11_in_18 rfl (isB_n isB_b2i) V
    refine rj_if_gt (tgt := 17) dX11_in_10 (by decide) (fun hc => ?_) (fun hc => ?_)
    · refine rj_iconst (v := 0) dX11_in_17 (by decide) ?_
      exact rs_b0 (fun q => q hc) KD
    · refine rj_iconst (v := 1) dX11_in_13 (by decide) ?_
      refine rj_goto (tgt := 18) dX11_in_14 (by decide) ?_
      exact rs_b1 hc KD
theorem uX11_in {w : Wd} {h : Nat} (x y z : Int32) {b c : Int64} (hy : y.toInt64 = b) (hz : z.toInt64 = c) {M : Mem} {K : Int32 → Mem → Prop} (hK : K (b2i (y ≤ x ∧ x ≤ z)) M) : CSi w h kX11_in [.long x.toInt64, .long b, .long c] M K := by
  refine csi_of (by decide) (Nat.le_of_ble_eq_true rfl) ?_
  refine vX11_in_0 x.toInt64 b c M _ ?_
  refine ⟨fun h1 => ⟨_, rfl, ?_⟩, fun h1 => ⟨_, rfl, ?_⟩⟩
  · rw [lg_cmp_lt, ← hy, i64_lt] at h1
    rwa [b2i_f (fun q => absurd q.1 (i32_nle.mpr h1))] at hK
  · rw [lg_cmp_lt, ← hy, i64_lt] at h1
    rwa [b2i_iff (Q := (y ≤ x ∧ x ≤ z)) ⟨fun h => ⟨i32_nlt.mp h1, i32_nlt.mp (by rw [lg_cmp_gt, ← hz, i64_lt] at h; exact h)⟩, fun h => by rw [lg_cmp_gt, ← hz, i64_lt]; exact i32_nlt.mpr h.2⟩]
set_option maxRecDepth 100000 in
set_option maxHeartbeats 4000000 in
theorem vX11_isLosing_0 {w : Wd} {h : Nat} (a0 : Int32)  (M : Mem) (Q : Option Value → Mem → Prop) (V : ((a0 = 1 → (Q (some (.int 1)) M)) ∧ (¬ (a0 = 1) → (Q (some (.int (b2i (a0 = 7)))) M)))) : RM w h kX11_isLosing 0 [(0, .int a0)] [] M Q := by
  refine rj_iload_n dX11_isLosing_0 0 rfl rfl ?_
  refine rj_iconst (v := 1) dX11_isLosing_1 (by decide) ?_
  obtain ⟨V1, V2⟩ := V
  refine rj_icmp_eq (tgt := 11) dX11_isLosing_2 (by decide) (fun hc => ?_) (fun hc => ?_)
  · have V := V1 hc
    refine rj_iconst (v := 1) dX11_isLosing_11 (by decide) ?_
    refine rj_goto (tgt := 16) dX11_isLosing_12 (by decide) ?_
    exact rm_iret dX11_isLosing_16 rfl rfl V
  · have V := V2 hc
    refine rj_iload_n dX11_isLosing_5 0 rfl rfl ?_
    refine rj_bipush (v := 7) dX11_isLosing_6 (by decide) ?_
    have KD : RM w h kX11_isLosing 16 [(0, .int a0)] [.int (b2i (a0 = 7))] M Q := by
      exact rm_iret dX11_isLosing_16 rfl (isB_n isB_b2i) V
    refine rj_icmp_ne (tgt := 15) dX11_isLosing_8 (by decide) (fun hc => ?_) (fun hc => ?_)
    · refine rj_iconst (v := 0) dX11_isLosing_15 (by decide) ?_
      exact rs_b0 hc KD
    · refine rj_iconst (v := 1) dX11_isLosing_11 (by decide) ?_
      refine rj_goto (tgt := 16) dX11_isLosing_12 (by decide) ?_
      exact rs_b1 hc KD
theorem uX11_isLosing {w : Wd} {h : Nat} {a0 : Int32} {M : Mem} {K : Int32 → Mem → Prop} (hK : K (b2i (a0 = 1 ∨ a0 = 7)) M) : CSi w h kX11_isLosing [.int a0] M K := by
  refine csi_of (by decide) (Nat.le_of_ble_eq_true rfl) ?_
  refine vX11_isLosing_0 a0 M _ ?_
  refine ⟨fun h1 => ⟨_, rfl, ?_⟩, fun h1 => ⟨_, rfl, ?_⟩⟩
  · rwa [b2i_t (Or.inl h1)] at hK
  · rwa [b2i_iff (Q := (a0 = 1 ∨ a0 = 7)) ⟨fun h => Or.inr h, fun h => h.elim (fun q => absurd q h1) id⟩]
set_option maxRecDepth 100000 in
set_option maxHeartbeats 4000000 in
theorem vX10_isCell_0 {w : Wd} {h : Nat} (a0 : Int32)  (M : Mem) (Q : Option Value → Mem → Prop) (V : (Q (some (.int (b2i (0 ≤ a0 ∧ a0 ≤ 191)))) M)) : RM w (h + 1) kX10_isCell 0 [(0, .int a0)] [] M Q := by
  refine rj_iload_n dX10_isCell_0 0 rfl rfl ?_
  refine rj_iconst (v := 0) dX10_isCell_1 (by decide) ?_
  refine rj_sipush (v := 191) dX10_isCell_2 (by decide) ?_
  refine rm_callSi [.int a0, .int 0, .int 191] (rest := []) (K := fun x M' => b2i (0 ≤ a0 ∧ a0 ≤ 191) = x ∧ M = M') ml_RX10_81 mtX10_isWithin rfl dX10_isCell_5 rfl rfl (by decide) (by decide) (uX10_isWithin ⟨rfl, rfl⟩) (fun x M' hx => ?_)
  obtain ⟨rfl, rfl⟩ := hx
  exact rm_iret dX10_isCell_8 rfl (isB_n isB_b2i) V
theorem uX10_isCell {w : Wd} {h : Nat} (hh : 1 ≤ h) {a0 : Int32} {M : Mem} {K : Int32 → Mem → Prop} (hK : K (b2i (0 ≤ a0 ∧ a0 ≤ 191)) M) : CSi w h kX10_isCell [.int a0] M K := by
  obtain ⟨h, rfl⟩ : ∃ k, h = k + 1 := ⟨h - 1, by omega⟩
  refine csi_of (by decide) (Nat.le_of_ble_eq_true rfl) ?_
  refine vX10_isCell_0 a0 M _ ?_
  exact ⟨_, rfl, hK⟩
set_option maxRecDepth 100000 in
set_option maxHeartbeats 4000000 in
theorem vX10_isRow_0 {w : Wd} {h : Nat} (a0 : Int32)  (M : Mem) (Q : Option Value → Mem → Prop) (V : (Q (some (.int (b2i (0 ≤ a0 ∧ a0 ≤ 15)))) M)) : RM w (h + 1) kX10_isRow 0 [(0, .int a0)] [] M Q := by
  refine rj_iload_n dX10_isRow_0 0 rfl rfl ?_
  refine rj_iconst (v := 0) dX10_isRow_1 (by decide) ?_
  refine rj_bipush (v := 15) dX10_isRow_2 (by decide) ?_
  refine rm_callSi [.int a0, .int 0, .int 15] (rest := []) (K := fun x M' => b2i (0 ≤ a0 ∧ a0 ≤ 15) = x ∧ M = M') ml_RX10_81 mtX10_isWithin rfl dX10_isRow_4 rfl rfl (by decide) (by decide) (uX10_isWithin ⟨rfl, rfl⟩) (fun x M' hx => ?_)
  obtain ⟨rfl, rfl⟩ := hx
  exact rm_iret dX10_isRow_7 rfl (isB_n isB_b2i) V
theorem uX10_isRow {w : Wd} {h : Nat} (hh : 1 ≤ h) {a0 : Int32} {M : Mem} {K : Int32 → Mem → Prop} (hK : K (b2i (0 ≤ a0 ∧ a0 ≤ 15)) M) : CSi w h kX10_isRow [.int a0] M K := by
  obtain ⟨h, rfl⟩ : ∃ k, h = k + 1 := ⟨h - 1, by omega⟩
  refine csi_of (by decide) (Nat.le_of_ble_eq_true rfl) ?_
  refine vX10_isRow_0 a0 M _ ?_
  exact ⟨_, rfl, hK⟩
set_option maxRecDepth 100000 in
set_option maxHeartbeats 4000000 in
theorem vX10_isColumn_0 {w : Wd} {h : Nat} (a0 : Int32)  (M : Mem) (Q : Option Value → Mem → Prop) (V : (Q (some (.int (b2i (0 ≤ a0 ∧ a0 ≤ 11)))) M)) : RM w (h + 1) kX10_isColumn 0 [(0, .int a0)] [] M Q := by
  refine rj_iload_n dX10_isColumn_0 0 rfl rfl ?_
  refine rj_iconst (v := 0) dX10_isColumn_1 (by decide) ?_
  refine rj_bipush (v := 11) dX10_isColumn_2 (by decide) ?_
  refine rm_callSi [.int a0, .int 0, .int 11] (rest := []) (K := fun x M' => b2i (0 ≤ a0 ∧ a0 ≤ 11) = x ∧ M = M') ml_RX10_81 mtX10_isWithin rfl dX10_isColumn_4 rfl rfl (by decide) (by decide) (uX10_isWithin ⟨rfl, rfl⟩) (fun x M' hx => ?_)
  obtain ⟨rfl, rfl⟩ := hx
  exact rm_iret dX10_isColumn_7 rfl (isB_n isB_b2i) V
theorem uX10_isColumn {w : Wd} {h : Nat} (hh : 1 ≤ h) {a0 : Int32} {M : Mem} {K : Int32 → Mem → Prop} (hK : K (b2i (0 ≤ a0 ∧ a0 ≤ 11)) M) : CSi w h kX10_isColumn [.int a0] M K := by
  obtain ⟨h, rfl⟩ : ∃ k, h = k + 1 := ⟨h - 1, by omega⟩
  refine csi_of (by decide) (Nat.le_of_ble_eq_true rfl) ?_
  refine vX10_isColumn_0 a0 M _ ?_
  exact ⟨_, rfl, hK⟩
set_option maxRecDepth 100000 in
set_option maxHeartbeats 4000000 in
theorem vX10_isKind_0 {w : Wd} {h : Nat} (a0 : Int32)  (M : Mem) (Q : Option Value → Mem → Prop) (V : (Q (some (.int (b2i (0 ≤ a0 ∧ a0 ≤ 7)))) M)) : RM w (h + 1) kX10_isKind 0 [(0, .int a0)] [] M Q := by
  refine rj_iload_n dX10_isKind_0 0 rfl rfl ?_
  refine rj_iconst (v := 0) dX10_isKind_1 (by decide) ?_
  refine rj_bipush (v := 7) dX10_isKind_2 (by decide) ?_
  refine rm_callSi [.int a0, .int 0, .int 7] (rest := []) (K := fun x M' => b2i (0 ≤ a0 ∧ a0 ≤ 7) = x ∧ M = M') ml_RX10_81 mtX10_isWithin rfl dX10_isKind_4 rfl rfl (by decide) (by decide) (uX10_isWithin ⟨rfl, rfl⟩) (fun x M' hx => ?_)
  obtain ⟨rfl, rfl⟩ := hx
  exact rm_iret dX10_isKind_7 rfl (isB_n isB_b2i) V
theorem uX10_isKind {w : Wd} {h : Nat} (hh : 1 ≤ h) {a0 : Int32} {M : Mem} {K : Int32 → Mem → Prop} (hK : K (b2i (0 ≤ a0 ∧ a0 ≤ 7)) M) : CSi w h kX10_isKind [.int a0] M K := by
  obtain ⟨h, rfl⟩ : ∃ k, h = k + 1 := ⟨h - 1, by omega⟩
  refine csi_of (by decide) (Nat.le_of_ble_eq_true rfl) ?_
  refine vX10_isKind_0 a0 M _ ?_
  exact ⟨_, rfl, hK⟩
set_option maxRecDepth 100000 in
set_option maxHeartbeats 4000000 in
theorem vX10_isWater_0 {w : Wd} {h : Nat} (a0 : Int32)  (M : Mem) (Q : Option Value → Mem → Prop) (V : (Q (some (.int (b2i (1 ≤ a0 ∧ a0 ≤ 99)))) M)) : RM w (h + 1) kX10_isWater 0 [(0, .int a0)] [] M Q := by
  refine rj_iload_n dX10_isWater_0 0 rfl rfl ?_
  refine rj_iconst (v := 1) dX10_isWater_1 (by decide) ?_
  refine rj_bipush (v := 99) dX10_isWater_2 (by decide) ?_
  refine rm_callSi [.int a0, .int 1, .int 99] (rest := []) (K := fun x M' => b2i (1 ≤ a0 ∧ a0 ≤ 99) = x ∧ M = M') ml_RX10_81 mtX10_isWithin rfl dX10_isWater_4 rfl rfl (by decide) (by decide) (uX10_isWithin ⟨rfl, rfl⟩) (fun x M' hx => ?_)
  obtain ⟨rfl, rfl⟩ := hx
  exact rm_iret dX10_isWater_7 rfl (isB_n isB_b2i) V
theorem uX10_isWater {w : Wd} {h : Nat} (hh : 1 ≤ h) {a0 : Int32} {M : Mem} {K : Int32 → Mem → Prop} (hK : K (b2i (1 ≤ a0 ∧ a0 ≤ 99)) M) : CSi w h kX10_isWater [.int a0] M K := by
  obtain ⟨h, rfl⟩ : ∃ k, h = k + 1 := ⟨h - 1, by omega⟩
  refine csi_of (by decide) (Nat.le_of_ble_eq_true rfl) ?_
  refine vX10_isWater_0 a0 M _ ?_
  exact ⟨_, rfl, hK⟩
set_option maxRecDepth 100000 in
set_option maxHeartbeats 4000000 in
theorem vX10_isDropNumber_0 {w : Wd} {h : Nat} (a0 : Int32)  (M : Mem) (Q : Option Value → Mem → Prop) (V : (Q (some (.int (b2i (0 ≤ a0 ∧ a0 ≤ 7)))) M)) : RM w (h + 1) kX10_isDropNumber 0 [(0, .int a0)] [] M Q := by
  refine rj_iload_n dX10_isDropNumber_0 0 rfl rfl ?_
  refine rj_iconst (v := 0) dX10_isDropNumber_1 (by decide) ?_
  refine rj_bipush (v := 7) dX10_isDropNumber_2 (by decide) ?_
  refine rm_callSi [.int a0, .int 0, .int 7] (rest := []) (K := fun x M' => b2i (0 ≤ a0 ∧ a0 ≤ 7) = x ∧ M = M') ml_RX10_81 mtX10_isWithin rfl dX10_isDropNumber_4 rfl rfl (by decide) (by decide) (uX10_isWithin ⟨rfl, rfl⟩) (fun x M' hx => ?_)
  obtain ⟨rfl, rfl⟩ := hx
  exact rm_iret dX10_isDropNumber_7 rfl (isB_n isB_b2i) V
theorem uX10_isDropNumber {w : Wd} {h : Nat} (hh : 1 ≤ h) {a0 : Int32} {M : Mem} {K : Int32 → Mem → Prop} (hK : K (b2i (0 ≤ a0 ∧ a0 ≤ 7)) M) : CSi w h kX10_isDropNumber [.int a0] M K := by
  obtain ⟨h, rfl⟩ : ∃ k, h = k + 1 := ⟨h - 1, by omega⟩
  refine csi_of (by decide) (Nat.le_of_ble_eq_true rfl) ?_
  refine vX10_isDropNumber_0 a0 M _ ?_
  exact ⟨_, rfl, hK⟩
set_option maxRecDepth 100000 in
set_option maxHeartbeats 4000000 in
theorem vX10_isSpot_0 {w : Wd} {h : Nat} (a0 : Int32)  (M : Mem) (Q : Option Value → Mem → Prop) (V : (Q (some (.int (b2i (0 ≤ a0 ∧ a0 ≤ 9)))) M)) : RM w (h + 1) kX10_isSpot 0 [(0, .int a0)] [] M Q := by
  refine rj_iload_n dX10_isSpot_0 0 rfl rfl ?_
  refine rj_iconst (v := 0) dX10_isSpot_1 (by decide) ?_
  refine rj_bipush (v := 9) dX10_isSpot_2 (by decide) ?_
  refine rm_callSi [.int a0, .int 0, .int 9] (rest := []) (K := fun x M' => b2i (0 ≤ a0 ∧ a0 ≤ 9) = x ∧ M = M') ml_RX10_81 mtX10_isWithin rfl dX10_isSpot_4 rfl rfl (by decide) (by decide) (uX10_isWithin ⟨rfl, rfl⟩) (fun x M' hx => ?_)
  obtain ⟨rfl, rfl⟩ := hx
  exact rm_iret dX10_isSpot_7 rfl (isB_n isB_b2i) V
theorem uX10_isSpot {w : Wd} {h : Nat} (hh : 1 ≤ h) {a0 : Int32} {M : Mem} {K : Int32 → Mem → Prop} (hK : K (b2i (0 ≤ a0 ∧ a0 ≤ 9)) M) : CSi w h kX10_isSpot [.int a0] M K := by
  obtain ⟨h, rfl⟩ : ∃ k, h = k + 1 := ⟨h - 1, by omega⟩
  refine csi_of (by decide) (Nat.le_of_ble_eq_true rfl) ?_
  refine vX10_isSpot_0 a0 M _ ?_
  exact ⟨_, rfl, hK⟩
set_option maxRecDepth 100000 in
set_option maxHeartbeats 4000000 in
theorem vX10_isSheet_0 {w : Wd} {h : Nat} (a0 : Int32)  (M : Mem) (Q : Option Value → Mem → Prop) (V : (Q (some (.int (b2i (0 ≤ a0 ∧ a0 ≤ 3)))) M)) : RM w (h + 1) kX10_isSheet 0 [(0, .int a0)] [] M Q := by
  refine rj_iload_n dX10_isSheet_0 0 rfl rfl ?_
  refine rj_iconst (v := 0) dX10_isSheet_1 (by decide) ?_
  refine rj_iconst (v := 3) dX10_isSheet_2 (by decide) ?_
  refine rm_callSi [.int a0, .int 0, .int 3] (rest := []) (K := fun x M' => b2i (0 ≤ a0 ∧ a0 ≤ 3) = x ∧ M = M') ml_RX10_81 mtX10_isWithin rfl dX10_isSheet_3 rfl rfl (by decide) (by decide) (uX10_isWithin ⟨rfl, rfl⟩) (fun x M' hx => ?_)
  obtain ⟨rfl, rfl⟩ := hx
  exact rm_iret dX10_isSheet_6 rfl (isB_n isB_b2i) V
theorem uX10_isSheet {w : Wd} {h : Nat} (hh : 1 ≤ h) {a0 : Int32} {M : Mem} {K : Int32 → Mem → Prop} (hK : K (b2i (0 ≤ a0 ∧ a0 ≤ 3)) M) : CSi w h kX10_isSheet [.int a0] M K := by
  obtain ⟨h, rfl⟩ : ∃ k, h = k + 1 := ⟨h - 1, by omega⟩
  refine csi_of (by decide) (Nat.le_of_ble_eq_true rfl) ?_
  refine vX10_isSheet_0 a0 M _ ?_
  exact ⟨_, rfl, hK⟩
set_option maxRecDepth 100000 in
set_option maxHeartbeats 4000000 in
theorem vX11_isCell_0 {w : Wd} {h : Nat} (a0 : Int32)  (M : Mem) (Q : Option Value → Mem → Prop) (V : (Q (some (.int (b2i (0 ≤ a0 ∧ a0 ≤ 191)))) M)) : RM w (h + 1) kX11_isCell 0 [(0, .int a0)] [] M Q := by
  refine rj_iload_n dX11_isCell_0 0 rfl rfl ?_
  refine rj_i2l dX11_isCell_1 ?_
  refine rj_lconst (v := 0) dX11_isCell_2 (by decide) ?_
  refine rj_ldc2 (v := 191) rfl kl_RX11_41 dX11_isCell_3 ?_
  refine rm_callSi [.long (Int32.toInt64 a0), .long 0, .long 191] (rest := []) (K := fun x M' => b2i (0 ≤ a0 ∧ a0 ≤ 191) = x ∧ M = M') ml_RX11_43 mtX11_in rfl dX11_isCell_6 rfl rfl (by decide) (by decide) (uX11_in (a0) (0) (191) (by decide) (by decide) ⟨rfl, rfl⟩) (fun x M' hx => ?_)
  obtain ⟨rfl, rfl⟩ := hx
  exact rm_iret dX11_isCell_9 rfl (isB_n isB_b2i) V
theorem uX11_isCell {w : Wd} {h : Nat} (hh : 1 ≤ h) {a0 : Int32} {M : Mem} {K : Int32 → Mem → Prop} (hK : K (b2i (0 ≤ a0 ∧ a0 ≤ 191)) M) : CSi w h kX11_isCell [.int a0] M K := by
  obtain ⟨h, rfl⟩ : ∃ k, h = k + 1 := ⟨h - 1, by omega⟩
  refine csi_of (by decide) (Nat.le_of_ble_eq_true rfl) ?_
  refine vX11_isCell_0 a0 M _ ?_
  exact ⟨_, rfl, hK⟩
set_option maxRecDepth 100000 in
set_option maxHeartbeats 4000000 in
theorem vX11_isColumn_0 {w : Wd} {h : Nat} (a0 : Int32)  (M : Mem) (Q : Option Value → Mem → Prop) (V : (Q (some (.int (b2i (0 ≤ a0 ∧ a0 ≤ 11)))) M)) : RM w (h + 1) kX11_isColumn 0 [(0, .int a0)] [] M Q := by
  refine rj_iload_n dX11_isColumn_0 0 rfl rfl ?_
  refine rj_i2l dX11_isColumn_1 ?_
  refine rj_lconst (v := 0) dX11_isColumn_2 (by decide) ?_
  refine rj_ldc2 (v := 11) rfl kl_RX11_47 dX11_isColumn_3 ?_
  refine rm_callSi [.long (Int32.toInt64 a0), .long 0, .long 11] (rest := []) (K := fun x M' => b2i (0 ≤ a0 ∧ a0 ≤ 11) = x ∧ M = M') ml_RX11_43 mtX11_in rfl dX11_isColumn_6 rfl rfl (by decide) (by decide) (uX11_in (a0) (0) (11) (by decide) (by decide) ⟨rfl, rfl⟩) (fun x M' hx => ?_)
  obtain ⟨rfl, rfl⟩ := hx
  exact rm_iret dX11_isColumn_9 rfl (isB_n isB_b2i) V
theorem uX11_isColumn {w : Wd} {h : Nat} (hh : 1 ≤ h) {a0 : Int32} {M : Mem} {K : Int32 → Mem → Prop} (hK : K (b2i (0 ≤ a0 ∧ a0 ≤ 11)) M) : CSi w h kX11_isColumn [.int a0] M K := by
  obtain ⟨h, rfl⟩ : ∃ k, h = k + 1 := ⟨h - 1, by omega⟩
  refine csi_of (by decide) (Nat.le_of_ble_eq_true rfl) ?_
  refine vX11_isColumn_0 a0 M _ ?_
  exact ⟨_, rfl, hK⟩
set_option maxRecDepth 100000 in
set_option maxHeartbeats 4000000 in
theorem vX11_isKind_0 {w : Wd} {h : Nat} (a0 : Int32)  (M : Mem) (Q : Option Value → Mem → Prop) (V : (Q (some (.int (b2i (0 ≤ a0 ∧ a0 ≤ 7)))) M)) : RM w (h + 1) kX11_isKind 0 [(0, .int a0)] [] M Q := by
  refine rj_iload_n dX11_isKind_0 0 rfl rfl ?_
  refine rj_i2l dX11_isKind_1 ?_
  refine rj_lconst (v := 0) dX11_isKind_2 (by decide) ?_
  refine rj_ldc2 (v := 7) rfl kl_RX11_51 dX11_isKind_3 ?_
  refine rm_callSi [.long (Int32.toInt64 a0), .long 0, .long 7] (rest := []) (K := fun x M' => b2i (0 ≤ a0 ∧ a0 ≤ 7) = x ∧ M = M') ml_RX11_43 mtX11_in rfl dX11_isKind_6 rfl rfl (by decide) (by decide) (uX11_in (a0) (0) (7) (by decide) (by decide) ⟨rfl, rfl⟩) (fun x M' hx => ?_)
  obtain ⟨rfl, rfl⟩ := hx
  exact rm_iret dX11_isKind_9 rfl (isB_n isB_b2i) V
theorem uX11_isKind {w : Wd} {h : Nat} (hh : 1 ≤ h) {a0 : Int32} {M : Mem} {K : Int32 → Mem → Prop} (hK : K (b2i (0 ≤ a0 ∧ a0 ≤ 7)) M) : CSi w h kX11_isKind [.int a0] M K := by
  obtain ⟨h, rfl⟩ : ∃ k, h = k + 1 := ⟨h - 1, by omega⟩
  refine csi_of (by decide) (Nat.le_of_ble_eq_true rfl) ?_
  refine vX11_isKind_0 a0 M _ ?_
  exact ⟨_, rfl, hK⟩
set_option maxRecDepth 100000 in
set_option maxHeartbeats 4000000 in
theorem vX11_isWater_0 {w : Wd} {h : Nat} (a0 : Int32)  (M : Mem) (Q : Option Value → Mem → Prop) (V : (Q (some (.int (b2i (1 ≤ a0 ∧ a0 ≤ 99)))) M)) : RM w (h + 1) kX11_isWater 0 [(0, .int a0)] [] M Q := by
  refine rj_iload_n dX11_isWater_0 0 rfl rfl ?_
  refine rj_i2l dX11_isWater_1 ?_
  refine rj_lconst (v := 1) dX11_isWater_2 (by decide) ?_
  refine rj_ldc2 (v := 99) rfl kl_RX11_49 dX11_isWater_3 ?_
  refine rm_callSi [.long (Int32.toInt64 a0), .long 1, .long 99] (rest := []) (K := fun x M' => b2i (1 ≤ a0 ∧ a0 ≤ 99) = x ∧ M = M') ml_RX11_43 mtX11_in rfl dX11_isWater_6 rfl rfl (by decide) (by decide) (uX11_in (a0) (1) (99) (by decide) (by decide) ⟨rfl, rfl⟩) (fun x M' hx => ?_)
  obtain ⟨rfl, rfl⟩ := hx
  exact rm_iret dX11_isWater_9 rfl (isB_n isB_b2i) V
theorem uX11_isWater {w : Wd} {h : Nat} (hh : 1 ≤ h) {a0 : Int32} {M : Mem} {K : Int32 → Mem → Prop} (hK : K (b2i (1 ≤ a0 ∧ a0 ≤ 99)) M) : CSi w h kX11_isWater [.int a0] M K := by
  obtain ⟨h, rfl⟩ : ∃ k, h = k + 1 := ⟨h - 1, by omega⟩
  refine csi_of (by decide) (Nat.le_of_ble_eq_true rfl) ?_
  refine vX11_isWater_0 a0 M _ ?_
  exact ⟨_, rfl, hK⟩
set_option maxRecDepth 100000 in
set_option maxHeartbeats 4000000 in
theorem vX11_isSheet_0 {w : Wd} {h : Nat} (a0 : Int32)  (M : Mem) (Q : Option Value → Mem → Prop) (V : (Q (some (.int (b2i (0 ≤ a0 ∧ a0 ≤ 3)))) M)) : RM w (h + 1) kX11_isSheet 0 [(0, .int a0)] [] M Q := by
  refine rj_iload_n dX11_isSheet_0 0 rfl rfl ?_
  refine rj_i2l dX11_isSheet_1 ?_
  refine rj_lconst (v := 0) dX11_isSheet_2 (by decide) ?_
  refine rj_ldc2 (v := 3) rfl kl_RX11_92 dX11_isSheet_3 ?_
  refine rm_callSi [.long (Int32.toInt64 a0), .long 0, .long 3] (rest := []) (K := fun x M' => b2i (0 ≤ a0 ∧ a0 ≤ 3) = x ∧ M = M') ml_RX11_43 mtX11_in rfl dX11_isSheet_6 rfl rfl (by decide) (by decide) (uX11_in (a0) (0) (3) (by decide) (by decide) ⟨rfl, rfl⟩) (fun x M' hx => ?_)
  obtain ⟨rfl, rfl⟩ := hx
  exact rm_iret dX11_isSheet_9 rfl (isB_n isB_b2i) V
theorem uX11_isSheet {w : Wd} {h : Nat} (hh : 1 ≤ h) {a0 : Int32} {M : Mem} {K : Int32 → Mem → Prop} (hK : K (b2i (0 ≤ a0 ∧ a0 ≤ 3)) M) : CSi w h kX11_isSheet [.int a0] M K := by
  obtain ⟨h, rfl⟩ : ∃ k, h = k + 1 := ⟨h - 1, by omega⟩
  refine csi_of (by decide) (Nat.le_of_ble_eq_true rfl) ?_
  refine vX11_isSheet_0 a0 M _ ?_
  exact ⟨_, rfl, hK⟩
set_option maxRecDepth 100000 in
set_option maxHeartbeats 4000000 in
theorem vX10_isSetting_0 {w : Wd} {h : Nat} (a0 : Int32) (a1 : Int32)  (M : Mem) (Q : Option Value → Mem → Prop) (V : ((a0 = 0 → (Q (some (.int (b2i (0 ≤ a1 ∧ a1 ≤ 9)))) M)) ∧ (¬ a0 = 0 → ((a0 = 1 → (Q (some (.int (b2i ((-20) ≤ a1 ∧ a1 ≤ 20)))) M)) ∧ (¬ a0 = 1 → ((a0 = 2 → (Q (some (.int (b2i (0 ≤ a1 ∧ a1 ≤ 9)))) M)) ∧ (¬ a0 = 2 → (Q (some (.int 0)) M)))))))) : RM w (h + 1) kX10_isSetting 0 [(0, .int a0), (1, .int a1)] [] M Q := by
  refine rj_iload_n dX10_isSetting_0 0 rfl rfl ?_
  obtain ⟨V1, V2⟩ := V
  by_cases w0 : a0 = 0
  · have V := V1 w0
    refine rs_at w0 ?_
    refine rj_tableIn (off := 27) (tgt := 28) dX10_isSetting_1 (by decide) (by decide) (by decide) (by decide) ?_
    refine rj_iload_n dX10_isSetting_28 1 rfl rfl ?_
    refine rj_iconst (v := 0) dX10_isSetting_29 (by decide) ?_
    refine rj_bipush (v := 9) dX10_isSetting_30 (by decide) ?_
    refine rm_callSi [.int a1, .int 0, .int 9] (rest := []) (K := fun x M' => b2i (0 ≤ a1 ∧ a1 ≤ 9) = x ∧ M = M') ml_RX10_81 mtX10_isWithin rfl dX10_isSetting_32 rfl rfl (by decide) (by decide) (uX10_isWithin ⟨rfl, rfl⟩) (fun x M' hx => ?_)
    obtain ⟨rfl, rfl⟩ := hx
    exact rm_iret dX10_isSetting_35 rfl (isB_n isB_b2i) V
  · have V := V2 w0
    obtain ⟨V1, V2⟩ := V
    by_cases w1 : a0 = 1
    · have V := V1 w1
      refine rs_at w1 ?_
      refine rj_tableIn (off := 35) (tgt := 36) dX10_isSetting_1 (by decide) (by decide) (by decide) (by decide) ?_
      refine rj_iload_n dX10_isSetting_36 1 rfl rfl ?_
      refine rj_bipush (v := (-20)) dX10_isSetting_37 (by decide) ?_
      refine rj_bipush (v := 20) dX10_isSetting_39 (by decide) ?_
      refine rm_callSi [.int a1, .int (-20), .int 20] (rest := []) (K := fun x M' => b2i ((-20) ≤ a1 ∧ a1 ≤ 20) = x ∧ M = M') ml_RX10_81 mtX10_isWithin rfl dX10_isSetting_41 rfl rfl (by decide) (by decide) (uX10_isWithin ⟨rfl, rfl⟩) (fun x M' hx => ?_)
      obtain ⟨rfl, rfl⟩ := hx
      exact rm_iret dX10_isSetting_44 rfl (isB_n isB_b2i) V
    · have V := V2 w1
      obtain ⟨V1, V2⟩ := V
      by_cases w2 : a0 = 2
      · have V := V1 w2
        refine rs_at w2 ?_
        refine rj_tableIn (off := 44) (tgt := 45) dX10_isSetting_1 (by decide) (by decide) (by decide) (by decide) ?_
        refine rj_iload_n dX10_isSetting_45 1 rfl rfl ?_
        refine rj_iconst (v := 0) dX10_isSetting_46 (by decide) ?_
        refine rj_bipush (v := 9) dX10_isSetting_47 (by decide) ?_
        refine rm_callSi [.int a1, .int 0, .int 9] (rest := []) (K := fun x M' => b2i (0 ≤ a1 ∧ a1 ≤ 9) = x ∧ M = M') ml_RX10_81 mtX10_isWithin rfl dX10_isSetting_49 rfl rfl (by decide) (by decide) (uX10_isWithin ⟨rfl, rfl⟩) (fun x M' hx => ?_)
        obtain ⟨rfl, rfl⟩ := hx
        exact rm_iret dX10_isSetting_52 rfl (isB_n isB_b2i) V
      · have V := V2 w2
        refine rj_tableOut (tgt := 53) dX10_isSetting_1 (by have n0 := lv_neT (a := 0) w0 (by decide); have n1 := lv_neT (a := 1) w1 (by decide); have n2 := lv_neT (a := 2) w2 (by decide); omega) (by decide) ?_
        refine rj_iconst (v := 0) dX10_isSetting_53 (by decide) ?_
        exact rm_iret dX10_isSetting_54 rfl rfl V
theorem uX10_isSetting {w : Wd} {h : Nat} (hh : 1 ≤ h) {a0 : Int32} {a1 : Int32} {M : Mem} {K : Int32 → Mem → Prop} (hK : K (b2i ((a0 = 0 ∧ 0 ≤ a1 ∧ a1 ≤ 9) ∨ (a0 = 1 ∧ -20 ≤ a1 ∧ a1 ≤ 20) ∨ (a0 = 2 ∧ 0 ≤ a1 ∧ a1 ≤ 9))) M) : CSi w h kX10_isSetting [.int a0, .int a1] M K := by
  obtain ⟨h, rfl⟩ : ∃ k, h = k + 1 := ⟨h - 1, by omega⟩
  refine csi_of (by decide) (Nat.le_of_ble_eq_true rfl) ?_
  refine vX10_isSetting_0 a0 a1 M _ ?_
  refine ⟨fun h1 => ⟨_, rfl, ?_⟩, fun h1 => ⟨fun h2 => ⟨_, rfl, ?_⟩, fun h2 => ⟨fun h3 => ⟨_, rfl, ?_⟩, fun h3 => ⟨_, rfl, ?_⟩⟩⟩⟩
  · rwa [b2i_iff (Q := (a0 = 0 ∧ 0 ≤ a1 ∧ a1 ≤ 9) ∨ (a0 = 1 ∧ -20 ≤ a1 ∧ a1 ≤ 20) ∨ (a0 = 2 ∧ 0 ≤ a1 ∧ a1 ≤ 9)) ⟨fun h => Or.inl ⟨h1, h⟩, fun h => by rcases h with h | h | h; exact h.2; exact absurd h.1 (by rw [h1]; decide); exact absurd h.1 (by rw [h1]; decide)⟩]
  · rwa [b2i_iff (Q := (a0 = 0 ∧ 0 ≤ a1 ∧ a1 ≤ 9) ∨ (a0 = 1 ∧ -20 ≤ a1 ∧ a1 ≤ 20) ∨ (a0 = 2 ∧ 0 ≤ a1 ∧ a1 ≤ 9)) ⟨fun h => Or.inr (Or.inl ⟨h2, h⟩), fun h => by rcases h with h | h | h; exact absurd h.1 h1; exact h.2; exact absurd h.1 (by rw [h2]; decide)⟩]
  · rwa [b2i_iff (Q := (a0 = 0 ∧ 0 ≤ a1 ∧ a1 ≤ 9) ∨ (a0 = 1 ∧ -20 ≤ a1 ∧ a1 ≤ 20) ∨ (a0 = 2 ∧ 0 ≤ a1 ∧ a1 ≤ 9)) ⟨fun h => Or.inr (Or.inr ⟨h3, h⟩), fun h => by rcases h with h | h | h; exact absurd h.1 h1; exact absurd h.1 h2; exact h.2⟩]
  · rwa [b2i_f (fun h => by rcases h with h | h | h; exact h1 h.1; exact h2 h.1; exact h3 h.1)] at hK
set_option maxRecDepth 100000 in
set_option maxHeartbeats 4000000 in
theorem vX10_isStart_0 {w : Wd} {h : Nat} (hh : 1 ≤ h) (a0 : Int32) (a1 : Int32) (a2 : Int32)  (M : Mem) (Q : Option Value → Mem → Prop) (V : ((¬ ((0 ≤ a0 ∧ a0 ≤ 7)) → (Q (some (.int 0)) M)) ∧ ((0 ≤ a0 ∧ a0 ≤ 7) → ((¬ ((0 ≤ a1 ∧ a1 ≤ 11)) → (Q (some (.int 0)) M)) ∧ ((0 ≤ a1 ∧ a1 ≤ 11) → (Q (some (.int (b2i ((1 ≤ a2 ∧ a2 ≤ 99))))) M)))))) : RM w (h + 1) kX10_isStart 0 [(0, .int a0), (1, .int a1), (2, .int a2)] [] M Q := by
  refine rj_iload_n dX10_isStart_0 0 rfl rfl ?_
  refine rm_callSi [.int a0] (rest := []) (K := fun x M' => b2i (0 ≤ a0 ∧ a0 ≤ 7) = x ∧ M = M') ml_RX10_242 mtX10_isKind rfl dX10_isStart_1 rfl rfl (by decide) (by decide) (uX10_isKind (by omega) ⟨rfl, rfl⟩) (fun x M' hx => ?_)
  obtain ⟨rfl, rfl⟩ := hx
  obtain ⟨V1, V2⟩ := V
  refine rs_if_eqB (tgt := 25) dX10_isStart_4 (by decide) (fun hc => ?_) (fun hc => ?_)
  · have V := V1 hc
    refine rj_iconst (v := 0) dX10_isStart_25 (by decide) ?_
    exact rm_iret dX10_isStart_26 rfl rfl V
  · have V := V2 hc
    refine rj_iload_n dX10_isStart_7 1 rfl rfl ?_
    refine rm_callSi [.int a1] (rest := []) (K := fun x M' => b2i (0 ≤ a1 ∧ a1 ≤ 11) = x ∧ M = M') ml_RX10_139 mtX10_isColumn rfl dX10_isStart_8 rfl rfl (by decide) (by decide) (uX10_isColumn (by omega) ⟨rfl, rfl⟩) (fun x M' hx => ?_)
    obtain ⟨rfl, rfl⟩ := hx
    obtain ⟨V1, V2⟩ := V
    refine rs_if_eqB (tgt := 25) dX10_isStart_11 (by decide) (fun hc => ?_) (fun hc => ?_)
    · have V := V1 hc
      refine rj_iconst (v := 0) dX10_isStart_25 (by decide) ?_
      exact rm_iret dX10_isStart_26 rfl rfl V
    · have V := V2 hc
      refine rj_iload_n dX10_isStart_14 2 rfl rfl ?_
      refine rm_callSi [.int a2] (rest := []) (K := fun x M' => b2i (1 ≤ a2 ∧ a2 ≤ 99) = x ∧ M = M') ml_RX10_181 mtX10_isWater rfl dX10_isStart_15 rfl rfl (by decide) (by decide) (uX10_isWater (by omega) ⟨rfl, rfl⟩) (fun x M' hx => ?_)
      obtain ⟨rfl, rfl⟩ := hx
      have KD : RM w (h + 1) kX10_isStart 26 [(0, .int a0), (1, .int a1), (2, .int a2)] [.int (b2i ((1 ≤ a2 ∧ a2 ≤ 99)))] M Q := by
        exact rm_iret dX10_isStart_26 rfl (isB_n isB_b2i) V
      refine rs_if_eqB (tgt := 25) dX10_isStart_18 (by decide) (fun hc => ?_) (fun hc => ?_)
      · refine rj_iconst (v := 0) dX10_isStart_25 (by decide) ?_
        exact rs_b0 hc KD
      · refine rj_iconst (v := 1) dX10_isStart_21 (by decide) ?_
        refine rj_goto (tgt := 26) dX10_isStart_22 (by decide) ?_
        exact rs_b1 hc KD
theorem uX10_isStart {w : Wd} {h : Nat} (hh : 2 ≤ h) {a0 : Int32} {a1 : Int32} {a2 : Int32} {M : Mem} {K : Int32 → Mem → Prop} (hK : K (b2i ((0 ≤ a0 ∧ a0 ≤ 7) ∧ (0 ≤ a1 ∧ a1 ≤ 11) ∧ (1 ≤ a2 ∧ a2 ≤ 99))) M) : CSi w h kX10_isStart [.int a0, .int a1, .int a2] M K := by
  obtain ⟨h, rfl⟩ : ∃ k, h = k + 1 := ⟨h - 1, by omega⟩
  refine csi_of (by decide) (Nat.le_of_ble_eq_true rfl) ?_
  refine vX10_isStart_0 (by omega) a0 a1 a2 M _ ?_
  refine ⟨fun h1 => ⟨_, rfl, ?_⟩, fun h1 => ⟨fun h2 => ⟨_, rfl, ?_⟩, fun h2 => ⟨_, rfl, ?_⟩⟩⟩
  · rwa [b2i_f (fun q => h1 q.1)] at hK
  · rwa [b2i_f (fun q => h2 q.2.1)] at hK
  · rwa [b2i_iff (Q := ((0 ≤ a0 ∧ a0 ≤ 7) ∧ (0 ≤ a1 ∧ a1 ≤ 11) ∧ (1 ≤ a2 ∧ a2 ≤ 99))) ⟨fun h => ⟨h1, h2, h⟩, fun h => h.2.2⟩]
set_option maxRecDepth 100000 in
set_option maxHeartbeats 4000000 in
theorem vX11_isPath_0 {w : Wd} {h : Nat} (hh : 1 ≤ h) (a0 : Int32) (a1 : Int32) (a2 : Int32)  (M : Mem) (Q : Option Value → Mem → Prop) (V : ((¬ ((0 ≤ a0 ∧ a0 ≤ 7)) → (Q (some (.int 0)) M)) ∧ ((0 ≤ a0 ∧ a0 ≤ 7) → ((¬ ((0 ≤ a1 ∧ a1 ≤ 11)) → (Q (some (.int 0)) M)) ∧ ((0 ≤ a1 ∧ a1 ≤ 11) → (Q (some (.int (b2i ((1 ≤ a2 ∧ a2 ≤ 99))))) M)))))) : RM w (h + 1) kX11_isPath 0 [(0, .int a0), (1, .int a1), (2, .int a2)] [] M Q := by
  refine rj_iload_n dX11_isPath_0 0 rfl rfl ?_
  refine rm_callSi [.int a0] (rest := []) (K := fun x M' => b2i (0 ≤ a0 ∧ a0 ≤ 7) = x ∧ M = M') ml_RX11_127 mtX11_isKind rfl dX11_isPath_1 rfl rfl (by decide) (by decide) (uX11_isKind (by omega) ⟨rfl, rfl⟩) (fun x M' hx => ?_)
  obtain ⟨rfl, rfl⟩ := hx
  obtain ⟨V1, V2⟩ := V
  refine rs_if_eqB (tgt := 25) dX11_isPath_4 (by decide) (fun hc => ?_) (fun hc => ?_)
  · have V := V1 hc
    refine rj_iconst (v := 0) dX11_isPath_25 (by decide) ?_
    exact rm_iret dX11_isPath_26 rfl rfl V
  · have V := V2 hc
    refine rj_iload_n dX11_isPath_7 1 rfl rfl ?_
    refine rm_callSi [.int a1] (rest := []) (K := fun x M' => b2i (0 ≤ a1 ∧ a1 ≤ 11) = x ∧ M = M') ml_RX11_120 mtX11_isColumn rfl dX11_isPath_8 rfl rfl (by decide) (by decide) (uX11_isColumn (by omega) ⟨rfl, rfl⟩) (fun x M' hx => ?_)
    obtain ⟨rfl, rfl⟩ := hx
    obtain ⟨V1, V2⟩ := V
    refine rs_if_eqB (tgt := 25) dX11_isPath_11 (by decide) (fun hc => ?_) (fun hc => ?_)
    · have V := V1 hc
      refine rj_iconst (v := 0) dX11_isPath_25 (by decide) ?_
      exact rm_iret dX11_isPath_26 rfl rfl V
    · have V := V2 hc
      refine rj_iload_n dX11_isPath_14 2 rfl rfl ?_
      refine rm_callSi [.int a2] (rest := []) (K := fun x M' => b2i (1 ≤ a2 ∧ a2 ≤ 99) = x ∧ M = M') ml_RX11_130 mtX11_isWater rfl dX11_isPath_15 rfl rfl (by decide) (by decide) (uX11_isWater (by omega) ⟨rfl, rfl⟩) (fun x M' hx => ?_)
      obtain ⟨rfl, rfl⟩ := hx
      have KD : RM w (h + 1) kX11_isPath 26 [(0, .int a0), (1, .int a1), (2, .int a2)] [.int (b2i ((1 ≤ a2 ∧ a2 ≤ 99)))] M Q := by
        exact rm_iret dX11_isPath_26 rfl (isB_n isB_b2i) V
      refine rs_if_eqB (tgt := 25) dX11_isPath_18 (by decide) (fun hc => ?_) (fun hc => ?_)
      · refine rj_iconst (v := 0) dX11_isPath_25 (by decide) ?_
        exact rs_b0 hc KD
      · refine rj_iconst (v := 1) dX11_isPath_21 (by decide) ?_
        refine rj_goto (tgt := 26) dX11_isPath_22 (by decide) ?_
        exact rs_b1 hc KD
theorem uX11_isPath {w : Wd} {h : Nat} (hh : 2 ≤ h) {a0 : Int32} {a1 : Int32} {a2 : Int32} {M : Mem} {K : Int32 → Mem → Prop} (hK : K (b2i ((0 ≤ a0 ∧ a0 ≤ 7) ∧ (0 ≤ a1 ∧ a1 ≤ 11) ∧ (1 ≤ a2 ∧ a2 ≤ 99))) M) : CSi w h kX11_isPath [.int a0, .int a1, .int a2] M K := by
  obtain ⟨h, rfl⟩ : ∃ k, h = k + 1 := ⟨h - 1, by omega⟩
  refine csi_of (by decide) (Nat.le_of_ble_eq_true rfl) ?_
  refine vX11_isPath_0 (by omega) a0 a1 a2 M _ ?_
  refine ⟨fun h1 => ⟨_, rfl, ?_⟩, fun h1 => ⟨fun h2 => ⟨_, rfl, ?_⟩, fun h2 => ⟨_, rfl, ?_⟩⟩⟩
  · rwa [b2i_f (fun q => h1 q.1)] at hK
  · rwa [b2i_f (fun q => h2 q.2.1)] at hK
  · rwa [b2i_iff (Q := ((0 ≤ a0 ∧ a0 ≤ 7) ∧ (0 ≤ a1 ∧ a1 ≤ 11) ∧ (1 ≤ a2 ∧ a2 ≤ 99))) ⟨fun h => ⟨h1, h2, h⟩, fun h => h.2.2⟩]

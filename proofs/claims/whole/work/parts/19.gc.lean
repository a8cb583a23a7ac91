-- X11_finds
set_option maxRecDepth 100000 in
set_option maxHeartbeats 4000000 in
theorem vX11_finds_0 {w : Wd} {h : Nat} (a0 : Int32)  (M : Mem) (Q : Option Value → Mem → Prop) (V : (vp_in ((-1000001) - a0) 7 ∧ (vp_in ((-1000001) - a0) 7 ∧ ∀ M1 : Mem, M1 = mset M 62 (Int32.toNatClampNeg ((-1000001) - a0)) ((M 62 (Int32.toNatClampNeg ((-1000001) - a0))) + 1) → (Q (some (.int a0)) M1)))) : RM w h kX11_finds 0 [(0, .ref 59), (1, .int a0)] [] M Q := by
  refine rj_aload_n dX11_finds_0 0 rfl rfl ?_
  refine rs_getR (t := 62) fl_RX11_16 rfl (by decide) (by decide) rfl dX11_finds_1 rfl (by omega) ?_
  refine rj_ldc (v := (-1000001)) rfl kc_RX11_40 dX11_finds_4 ?_
  refine rj_iload_n dX11_finds_6 1 rfl rfl ?_
  refine rj_isub dX11_finds_7 ?_
  refine rj_dup2 dX11_finds_8 rfl rfl ?_
  obtain ⟨hb, V⟩ := V
  refine rs_iald dX11_finds_9 rfl hb ?_
  refine rj_iconst (v := 1) dX11_finds_10 (by decide) ?_
  refine rj_iadd dX11_finds_11 ?_
  obtain ⟨hb, V⟩ := V
  refine rs_iast dX11_finds_12 rfl hb (fun M1 eM1 => ?_)
  have V := V M1 eM1
  refine rj_iload_n dX11_finds_13 1 rfl rfl ?_
  exact rm_iret dX11_finds_14 rfl rfl V
-- X11_of
set_option maxRecDepth 100000 in
set_option maxHeartbeats 4000000 in
theorem vX11_of_0 {w : Wd} {h : Nat} (a0 : Int32) (a1 : Int32)  (M : Mem) (Q : Option Value → Mem → Prop) (V : (vp_in ((402 + (4 * a0)) + a1) 666 ∧ (Q (some (.int (M 60 (Int32.toNatClampNeg ((402 + (4 * a0)) + a1))))) M))) : RM w h kX11_of 0 [(0, .ref 59), (1, .int a0), (2, .int a1)] [] M Q := by
  refine rj_aload_n dX11_of_0 0 rfl rfl ?_
  refine rs_getR (t := 60) fl_RX11_9 rfl (by decide) (by decide) rfl dX11_of_1 rfl (by omega) ?_
  refine rj_sipush (v := 402) dX11_of_4 (by decide) ?_
  refine rj_iconst (v := 4) dX11_of_7 (by decide) ?_
  refine rj_iload_n dX11_of_8 1 rfl rfl ?_
  refine rj_imul dX11_of_9 ?_
  refine rj_iadd dX11_of_10 ?_
  refine rj_iload_n dX11_of_11 2 rfl rfl ?_
  refine rj_iadd dX11_of_12 ?_
  obtain ⟨hb, V⟩ := V
  refine rs_iald dX11_of_13 rfl hb ?_
  exact rm_iret dX11_of_14 rfl rfl V
-- X11_isDrop
set_option maxRecDepth 100000 in
set_option maxHeartbeats 4000000 in
theorem vX11_isDrop_0 {w : Wd} {h : Nat} (a0 : Int32)  (M : Mem) (Q : Option Value → Mem → Prop) (V : ((¬ (((0 : Int32) ≤ a0 ∧ a0 ≤ (7 : Int32))) → (Q (some (.int 0)) M)) ∧ (((0 : Int32) ≤ a0 ∧ a0 ≤ (7 : Int32)) → (CSi w h kX11_of [.ref 59, .int a0, .int 0] M (fun r1 M1 => (Q (some (.int (b2i (¬ (r1 < 0))))) M1)))))) : RM w (h + 1) kX11_isDrop 0 [(0, .ref 59), (1, .int a0)] [] M Q := by
  refine rj_iload_n dX11_isDrop_0 1 rfl rfl ?_
  refine rj_i2l dX11_isDrop_1 ?_
  refine rj_lconst (v := 0) dX11_isDrop_2 (by decide) ?_
  refine rj_ldc2 (v := 7) rfl kl_RX11_51 dX11_isDrop_3 ?_
  refine rm_callSi [.long (Int32.toInt64 a0), .long 0, .long 7] (rest := []) (K := fun x M' => b2i ((0 : Int32) ≤ a0 ∧ a0 ≤ (7 : Int32)) = x ∧ M = M') ml_RX11_43 mtX11_in rfl dX11_isDrop_6 rfl rfl (Nat.le_of_ble_eq_true rfl) (by decide) (uX11_in (a0) (0) (7) (by decide) (by decide) ⟨rfl, rfl⟩) (fun x M' hx => ?_)
  obtain ⟨rfl, rfl⟩ := hx
  obtain ⟨V1, V2⟩ := V
  refine rs_if_eqB (tgt := 25) dX11_isDrop_9 (by decide) (fun hc => ?_) (fun hc => ?_)
  · have V := V1 hc
    refine rj_iconst (v := 0) dX11_isDrop_25 (by decide) ?_
    exact rm_iret dX11_isDrop_26 rfl rfl V
  · have V := V2 hc
    refine rj_aload_n dX11_isDrop_12 0 rfl rfl ?_
    refine rj_iload_n dX11_isDrop_13 1 rfl rfl ?_
    refine rj_iconst (v := 0) dX11_isDrop_14 (by decide) ?_
    refine rm_callVi [.int a0, .int 0] (rest := []) ml_RX11_53 mvX11_of rfl dX11_isDrop_15 rfl rfl rfl rfl rfl (Nat.le_of_ble_eq_true rfl) (by decide) V (fun r1 M1 V => ?_)
    have KD : RM w (h + 1) kX11_isDrop 26 [(0, .ref 59), (1, .int a0)] [.int (b2i (¬ (r1 < 0)))] M1 Q := by
      exact rm_iret dX11_isDrop_26 rfl (isB_n isB_b2i) V
    refine rj_if_lt (tgt := 25) dX11_isDrop_18 (by decide) (fun hc => ?_) (fun hc => ?_)
    · refine rj_iconst (v := 0) dX11_isDrop_25 (by decide) ?_
      exact rs_b0 (fun q => q hc) KD
    · refine rj_iconst (v := 1) dX11_isDrop_21 (by decide) ?_
      refine rj_goto (tgt := 26) dX11_isDrop_22 (by decide) ?_
      exact rs_b1 hc KD
-- X11_drops
set_option maxRecDepth 100000 in
set_option maxHeartbeats 4000000 in
theorem vX11_drops_0 {w : Wd} {h : Nat}   (M : Mem) (Q : Option Value → Mem → Prop) (V : RM w (h + 1) kX11_drops 4 [(0, .ref 59), (1, .int 0), (2, .int 0)] [] M Q) : RM w (h + 1) kX11_drops 0 [(0, .ref 59)] [] M Q := by
  refine rj_iconst (v := 0) dX11_drops_0 (by decide) ?_
  refine rj_istore_n (lv' := [(0, .ref 59), (1, .int 0)]) dX11_drops_1 rfl (by decide) rfl rfl ?_
  refine rj_iconst (v := 0) dX11_drops_2 (by decide) ?_
  refine rj_istore_n (lv' := [(0, .ref 59), (1, .int 0), (2, .int 0)]) dX11_drops_3 rfl (by decide) rfl rfl ?_
  exact rs_sub [0, 1, 2] rfl V
set_option maxRecDepth 100000 in
set_option maxHeartbeats 4000000 in
theorem vX11_drops_4 {w : Wd} {h : Nat} (v1 : Int32) (v2 : Int32)  (M : Mem) (Q : Option Value → Mem → Prop) (V : ((8 ≤ v2 → (Q (some (.int v1)) M)) ∧ (¬ (8 ≤ v2) → (CSi w h kX11_of [.ref 59, .int v2, .int 0] M (fun r1 M1 => (∀ x1 : Int32, x1 = (v1 + (b2i (¬ (r1 < 0)))) → (∀ x2 : Int32, x2 = v2 + 1 → RM w (h + 1) kX11_drops 4 [(0, .ref 59), (1, .int x1), (2, .int x2)] [] M1 Q))))))) : RM w (h + 1) kX11_drops 4 [(0, .ref 59), (1, .int v1), (2, .int v2)] [] M Q := by
  refine rj_iload_n dX11_drops_4 2 rfl rfl ?_
  refine rj_bipush (v := 8) dX11_drops_5 (by decide) ?_
  obtain ⟨V1, V2⟩ := V
  refine rj_icmp_ge (tgt := 33) dX11_drops_7 (by decide) (fun hc => ?_) (fun hc => ?_)
  · have V := V1 hc
    refine rj_iload_n dX11_drops_33 1 rfl rfl ?_
    exact rm_iret dX11_drops_34 rfl rfl V
  · have V := V2 hc
    refine rj_iload_n dX11_drops_10 1 rfl rfl ?_
    refine rj_aload_n dX11_drops_11 0 rfl rfl ?_
    refine rj_iload_n dX11_drops_12 2 rfl rfl ?_
    refine rj_iconst (v := 0) dX11_drops_13 (by decide) ?_
    refine rm_callVi [.int v2, .int 0] (rest := [.int v1]) ml_RX11_53 mvX11_of rfl dX11_drops_14 rfl rfl rfl rfl rfl (Nat.le_of_ble_eq_true rfl) (by decide) V (fun r1 M1 V => ?_)
    have KD : RM w (h + 1) kX11_drops 25 [(0, .ref 59), (1, .int v1), (2, .int v2)] [.int (b2i (¬ (r1 < 0))), .int v1] M1 Q := by
      refine rj_iadd dX11_drops_25 ?_
      refine rj_top (fun x1 ex1 => ?_)
      have V := V x1 ex1
      refine rj_istore_n (lv' := [(0, .ref 59), (1, .int x1), (2, .int v2)]) dX11_drops_26 rfl (by decide) rfl rfl ?_
      refine rj_iincV (c := 1) (fun y => [(0, .ref 59), (1, .int x1), (2, .int y)]) dX11_drops_27 2 rfl (by decide) (by decide) rfl (fun _ => rfl) (fun x2 ex2 => ?_)
      have V := V x2 ex2
      refine rj_goto (tgt := 4) dX11_drops_30 (by decide) ?_
      exact rs_sub [0, 1, 2] rfl V
    refine rj_if_lt (tgt := 24) dX11_drops_17 (by decide) (fun hc => ?_) (fun hc => ?_)
    · refine rj_iconst (v := 0) dX11_drops_24 (by decide) ?_
      exact rs_b0 (fun q => q hc) KD
    · refine rj_iconst (v := 1) dX11_drops_20 (by decide) ?_
      refine rj_goto (tgt := 25) dX11_drops_21 (by decide) ?_
      exact rs_b1 hc KD
-- X11_becomes
set_option maxRecDepth 100000 in
set_option maxHeartbeats 4000000 in
theorem vX11_becomes_0 {w : Wd} {h : Nat} (a0 : Int32) (a1 : Int32)  (M : Mem) (Q : Option Value → Mem → Prop) (V : (vp_in a0 666 ∧ (∀ x1 : Int32, x1 = (M 60 (Int32.toNatClampNeg a0)) → (vp_in a0 666 ∧ ∀ M1 : Mem, M1 = mset M 60 (Int32.toNatClampNeg a0) a1 → (Q (some (.int x1)) M1))))) : RM w h kX11_becomes 0 [(0, .ref 59), (1, .int a0), (2, .int a1)] [] M Q := by
  refine rj_aload_n dX11_becomes_0 0 rfl rfl ?_
  refine rs_getR (t := 60) fl_RX11_9 rfl (by decide) (by decide) rfl dX11_becomes_1 rfl (by omega) ?_
  refine rj_iload_n dX11_becomes_4 1 rfl rfl ?_
  obtain ⟨hb, V⟩ := V
  refine rs_iald dX11_becomes_5 rfl hb ?_
  refine rj_top (fun x1 ex1 => ?_)
  have V := V x1 ex1
  refine rj_istore_n (lv' := [(0, .ref 59), (1, .int a0), (2, .int a1), (3, .int x1)]) dX11_becomes_6 rfl (by decide) rfl rfl ?_
  refine rj_aload_n dX11_becomes_7 0 rfl rfl ?_
  refine rs_getR (t := 60) fl_RX11_9 rfl (by decide) (by decide) rfl dX11_becomes_8 rfl (by omega) ?_
  refine rj_iload_n dX11_becomes_11 1 rfl rfl ?_
  refine rj_iload_n dX11_becomes_12 2 rfl rfl ?_
  obtain ⟨hb, V⟩ := V
  refine rs_iast dX11_becomes_13 rfl hb (fun M1 eM1 => ?_)
  have V := V M1 eM1
  refine rj_iload_n dX11_becomes_14 3 rfl rfl ?_
  exact rm_iret dX11_becomes_15 rfl rfl V
-- X11_wetOf
set_option maxRecDepth 100000 in
set_option maxHeartbeats 4000000 in
theorem vX11_wetOf_0 {w : Wd} {h : Nat} (a0 : Int32)  (M : Mem) (Q : Option Value → Mem → Prop) (V : (((M 59 4) = 0 → (vp_in (210 + a0) 666 ∧ (Q (some (.int (M 60 (Int32.toNatClampNeg (210 + a0))))) M))) ∧ (¬ ((M 59 4) = 0) → (Q (some (.int 0)) M)))) : RM w h kX11_wetOf 0 [(0, .ref 59), (1, .int a0)] [] M Q := by
  refine rj_aload_n dX11_wetOf_0 0 rfl rfl ?_
  refine rs_getI fl_RX11_57 rfl (by decide) (by decide) rfl dX11_wetOf_1 rfl ?_
  obtain ⟨V1, V2⟩ := V
  refine rj_if_eq (tgt := 11) dX11_wetOf_4 (by decide) (fun hc => ?_) (fun hc => ?_)
  · have V := V1 hc
    refine rj_aload_n dX11_wetOf_11 0 rfl rfl ?_
    refine rs_getR (t := 60) fl_RX11_9 rfl (by decide) (by decide) rfl dX11_wetOf_12 rfl (by omega) ?_
    refine rj_sipush (v := 210) dX11_wetOf_15 (by decide) ?_
    refine rj_iload_n dX11_wetOf_18 1 rfl rfl ?_
    refine rj_iadd dX11_wetOf_19 ?_
    obtain ⟨hb, V⟩ := V
    refine rs_iald dX11_wetOf_20 rfl hb ?_
    exact rm_iret dX11_wetOf_21 rfl rfl V
  · have V := V2 hc
    refine rj_iconst (v := 0) dX11_wetOf_7 (by decide) ?_
    refine rj_goto (tgt := 21) dX11_wetOf_8 (by decide) ?_
    exact rm_iret dX11_wetOf_21 rfl rfl V
-- X11_holdOf
set_option maxRecDepth 100000 in
set_option maxHeartbeats 4000000 in
theorem vX11_holdOf_0 {w : Wd} {h : Nat} (a0 : Int32)  (M : Mem) (Q : Option Value → Mem → Prop) (V : (vp_in (18 + a0) 666 ∧ (CSi w h kX11_wetOf [.ref 59, .int a0] M (fun r1 M1 => (∀ x1 : Int32, x1 = ((3 * (M 60 (Int32.toNatClampNeg (18 + a0)))) - (r1 / 10)) → (Q (some (.int (if 0 ≤ x1 then x1 else (0 : Int32)))) M1)))))) : RM w (h + 1) kX11_holdOf 0 [(0, .ref 59), (1, .int a0)] [] M Q := by
  refine rj_iconst (v := 3) dX11_holdOf_0 (by decide) ?_
  refine rj_aload_n dX11_holdOf_1 0 rfl rfl ?_
  refine rs_getR (t := 60) fl_RX11_9 rfl (by decide) (by decide) rfl dX11_holdOf_2 rfl (by omega) ?_
  refine rj_bipush (v := 18) dX11_holdOf_5 (by decide) ?_
  refine rj_iload_n dX11_holdOf_7 1 rfl rfl ?_
  refine rj_iadd dX11_holdOf_8 ?_
  obtain ⟨hb, V⟩ := V
  refine rs_iald dX11_holdOf_9 rfl hb ?_
  refine rj_imul dX11_holdOf_10 ?_
  refine rj_aload_n dX11_holdOf_11 0 rfl rfl ?_
  refine rj_iload_n dX11_holdOf_12 1 rfl rfl ?_
  refine rm_callVi [.int a0] (rest := [.int (3 * (M 60 (Int32.toNatClampNeg (18 + a0))))]) ml_RX11_61 mvX11_wetOf rfl dX11_holdOf_13 rfl rfl rfl rfl rfl (Nat.le_of_ble_eq_true rfl) (by decide) V (fun r1 M1 V => ?_)
  refine rj_bipush (v := 10) dX11_holdOf_16 (by decide) ?_
  refine rj_idiv dX11_holdOf_18 (by decide) ?_
  refine rj_isub dX11_holdOf_19 ?_
  refine rj_top (fun x1 ex1 => ?_)
  have V := V x1 ex1
  refine rj_istore_n (lv' := [(0, .ref 59), (1, .int a0), (2, .int x1)]) dX11_holdOf_20 rfl (by decide) rfl rfl ?_
  refine rj_iload_n dX11_holdOf_21 2 rfl rfl ?_
  have KD : RM w (h + 1) kX11_holdOf 30 [(0, .ref 59), (1, .int a0), (2, .int x1)] [.int (if 0 ≤ x1 then x1 else (0 : Int32))] M1 Q := by
    exact rm_iret dX11_holdOf_30 rfl rfl V
  refine rj_if_ge (tgt := 29) dX11_holdOf_22 (by decide) (fun hc => ?_) (fun hc => ?_)
  · refine rj_iload_n dX11_holdOf_29 2 rfl rfl ?_
    exact rs_ite_t hc KD
  · refine rj_iconst (v := 0) dX11_holdOf_25 (by decide) ?_
    refine rj_goto (tgt := 30) dX11_holdOf_26 (by decide) ?_
    exact rs_ite_f hc KD
-- X11_can
set_option maxRecDepth 100000 in
set_option maxHeartbeats 4000000 in
theorem vX11_can_0 {w : Wd} {h : Nat} (a0 : Int32) (a1 : Int32)  (M : Mem) (Q : Option Value → Mem → Prop) (V : (CSi w h kX11_holdOf [.ref 59, .int a0] M (fun r1 M1 => (vp_in 0 666 ∧ (Q (some (.int (b2i (¬ ((a1 + (M1 60 (Int32.toNatClampNeg 0))) < r1))))) M1))))) : RM w (h + 1) kX11_can 0 [(0, .ref 59), (1, .int a0), (2, .int a1)] [] M Q := by
  refine rj_aload_n dX11_can_0 0 rfl rfl ?_
  refine rj_iload_n dX11_can_1 1 rfl rfl ?_
  refine rm_callVi [.int a0] (rest := []) ml_RX11_65 mvX11_holdOf rfl dX11_can_2 rfl rfl rfl rfl rfl (Nat.le_of_ble_eq_true rfl) (by decide) V (fun r1 M1 V => ?_)
  refine rj_iload_n dX11_can_5 2 rfl rfl ?_
  refine rj_aload_n dX11_can_6 0 rfl rfl ?_
  refine rs_getR (t := 60) fl_RX11_9 rfl (by decide) (by decide) rfl dX11_can_7 rfl (by omega) ?_
  refine rj_iconst (v := 0) dX11_can_10 (by decide) ?_
  obtain ⟨hb, V⟩ := V
  refine rs_iald dX11_can_11 rfl hb ?_
  refine rj_iadd dX11_can_12 ?_
  have KD : RM w (h + 1) kX11_can 21 [(0, .ref 59), (1, .int a0), (2, .int a1)] [.int (b2i (¬ ((a1 + (M1 60 (Int32.toNatClampNeg 0))) < r1)))] M1 Q := by
    exact rm_iret dX11_can_21 rfl (isB_n isB_b2i) V
  refine rj_icmp_gt (tgt := 20) dX11_can_13 (by decide) (fun hc => ?_) (fun hc => ?_)
  · refine rj_iconst (v := 0) dX11_can_20 (by decide) ?_
    exact rs_b0 (fun q => q hc) KD
  · refine rj_iconst (v := 1) dX11_can_16 (by decide) ?_
    refine rj_goto (tgt := 21) dX11_can_17 (by decide) ?_
    exact rs_b1 hc KD
-- X11_below
set_option maxRecDepth 100000 in
set_option maxHeartbeats 4000000 in
theorem vX11_below_0 {w : Wd} {h : Nat} (a0 : Int32) (a1 : Int32)  (M : Mem) (Q : Option Value → Mem → Prop) (V : (∀ x1 : Int32, x1 = (a0 - a0 / 12 * 12) → ((¬ (a1 = 0) → ((¬ (a1 = 1) → (Q (some (.int (if 11 ≤ x1 then ((-1) : Int32) else ((a0 + 12) + 1)))) M)) ∧ (a1 = 1 → (Q (some (.int (if x1 ≤ 0 then ((-1) : Int32) else ((a0 + 12) - 1)))) M)))) ∧ (a1 = 0 → (Q (some (.int (a0 + 12))) M))))) : RM w h kX11_below 0 [(0, .int a0), (1, .int a1)] [] M Q := by
  refine rj_iload_n dX11_below_0 0 rfl rfl ?_
  refine rj_bipush (v := 12) dX11_below_1 (by decide) ?_
  refine rj_irem dX11_below_3 (by decide) ?_
  refine rj_top (fun x1 ex1 => ?_)
  have V := V x1 ex1
  refine rj_istore_n (lv' := [(0, .int a0), (1, .int a1), (2, .int x1)]) dX11_below_4 rfl (by decide) rfl rfl ?_
  refine rj_iload_n dX11_below_5 1 rfl rfl ?_
  obtain ⟨V1, V2⟩ := V
  refine rj_if_ne (tgt := 16) dX11_below_6 (by decide) (fun hc => ?_) (fun hc => ?_)
  · have V := V1 hc
    refine rj_iload_n dX11_below_16 1 rfl rfl ?_
    refine rj_iconst (v := 1) dX11_below_17 (by decide) ?_
    obtain ⟨V1, V2⟩ := V
    refine rj_icmp_ne (tgt := 38) dX11_below_18 (by decide) (fun hc => ?_) (fun hc => ?_)
    · have V := V1 hc
      refine rj_iload_n dX11_below_38 2 rfl rfl ?_
      refine rj_bipush (v := 11) dX11_below_39 (by decide) ?_
      have KD : RM w h kX11_below 54 [(0, .int a0), (1, .int a1), (2, .int x1)] [.int (if 11 ≤ x1 then ((-1) : Int32) else ((a0 + 12) + 1))] M Q := by
        exact rm_iret dX11_below_54 rfl rfl V
      refine rj_icmp_ge (tgt := 53) dX11_below_41 (by decide) (fun hc => ?_) (fun hc => ?_)
      · refine rj_iconst (v := (-1)) dX11_below_53 (by decide) ?_
        exact rs_ite_t hc KD
      · refine rj_iload_n dX11_below_44 0 rfl rfl ?_
        refine rj_bipush (v := 12) dX11_below_45 (by decide) ?_
        refine rj_iadd dX11_below_47 ?_
        refine rj_iconst (v := 1) dX11_below_48 (by decide) ?_
        refine rj_iadd dX11_below_49 ?_
        refine rj_goto (tgt := 54) dX11_below_50 (by decide) ?_
        exact rs_ite_f hc KD
    · have V := V2 hc
      refine rj_iload_n dX11_below_21 2 rfl rfl ?_
      have KD : RM w h kX11_below 54 [(0, .int a0), (1, .int a1), (2, .int x1)] [.int (if x1 ≤ 0 then ((-1) : Int32) else ((a0 + 12) - 1))] M Q := by
        exact rm_iret dX11_below_54 rfl rfl V
      refine rj_if_le (tgt := 34) dX11_below_22 (by decide) (fun hc => ?_) (fun hc => ?_)
      · refine rj_iconst (v := (-1)) dX11_below_34 (by decide) ?_
        refine rj_goto (tgt := 54) dX11_below_35 (by decide) ?_
        exact rs_ite_t hc KD
      · refine rj_iload_n dX11_below_25 0 rfl rfl ?_
        refine rj_bipush (v := 12) dX11_below_26 (by decide) ?_
        refine rj_iadd dX11_below_28 ?_
        refine rj_iconst (v := 1) dX11_below_29 (by decide) ?_
        refine rj_isub dX11_below_30 ?_
        refine rj_goto (tgt := 54) dX11_below_31 (by decide) ?_
        exact rs_ite_f hc KD
  · have V := V2 hc
    refine rj_iload_n dX11_below_9 0 rfl rfl ?_
    refine rj_bipush (v := 12) dX11_below_10 (by decide) ?_
    refine rj_iadd dX11_below_12 ?_
    refine rj_goto (tgt := 54) dX11_below_13 (by decide) ?_
    exact rm_iret dX11_below_54 rfl rfl V
-- X11_softest
set_option maxRecDepth 100000 in
set_option maxHeartbeats 4000000 in
theorem vX11_softest_0 {w : Wd} {h : Nat} (a0 : Int32) (a1 : Int32)  (M : Mem) (Q : Option Value → Mem → Prop) (V : RM w (h + 1) kX11_softest 5 [(0, .ref 59), (1, .int a0), (2, .int a1), (3, .int a0), (4, .int 0)] [] M Q) : RM w (h + 1) kX11_softest 0 [(0, .ref 59), (1, .int a0), (2, .int a1)] [] M Q := by
  refine rj_iload_n dX11_softest_0 1 rfl rfl ?_
  refine rj_istore_n (lv' := [(0, .ref 59), (1, .int a0), (2, .int a1), (3, .int a0)]) dX11_softest_1 rfl (by decide) rfl rfl ?_
  refine rj_iconst (v := 0) dX11_softest_2 (by decide) ?_
  refine rj_istore (lv' := [(0, .ref 59), (1, .int a0), (2, .int a1), (3, .int a0), (4, .int 0)]) dX11_softest_3 (by decide) rfl rfl ?_
  exact rs_sub [0, 1, 2, 3, 4] rfl V
set_option maxRecDepth 100000 in
set_option maxHeartbeats 4000000 in
theorem vX11_softest_5 {w : Wd} {h : Nat} (v1 : Int32) (v2 : Int32) (v3 : Int32) (v4 : Int32)  (M : Mem) (Q : Option Value → Mem → Prop) (V : ((3 ≤ v4 → (Q (some (.int v3)) M)) ∧ (¬ (3 ≤ v4) → (CSi w h kX11_below [.int v1, .int v4] M (fun r1 M1 => ((r1 < 0 → (∀ x1 : Int32, x1 = v4 + 1 → RM w (h + 1) kX11_softest 5 [(0, .ref 59), (1, .int v1), (2, .int v2), (3, .int v3), (4, .int x1)] [] M1 Q)) ∧ (¬ (r1 < 0) → (CSi w h kX11_can [.ref 59, .int r1, .int v2] M1 (fun r2 M2 => ((¬ (r2 = 0) → ((v3 = v1 → (∀ x1 : Int32, x1 = v4 + 1 → RM w (h + 1) kX11_softest 5 [(0, .ref 59), (1, .int v1), (2, .int v2), (3, .int r1), (4, .int x1)] [] M2 Q)) ∧ (¬ (v3 = v1) → (CSi w h kX11_holdOf [.ref 59, .int r1] M2 (fun r3 M3 => (CSi w h kX11_holdOf [.ref 59, .int v3] M3 (fun r4 M4 => ((r4 ≤ r3 → (∀ x1 : Int32, x1 = v4 + 1 → RM w (h + 1) kX11_softest 5 [(0, .ref 59), (1, .int v1), (2, .int v2), (3, .int v3), (4, .int x1)] [] M4 Q)) ∧ (¬ (r4 ≤ r3) → (∀ x1 : Int32, x1 = v4 + 1 → RM w (h + 1) kX11_softest 5 [(0, .ref 59), (1, .int v1), (2, .int v2), (3, .int r1), (4, .int x1)] [] M4 Q)))))))))) ∧ (r2 = 0 → (∀ x1 : Int32, x1 = v4 + 1 → RM w (h + 1) kX11_softest 5 [(0, .ref 59), (1, .int v1), (2, .int v2), (3, .int v3), (4, .int x1)] [] M2 Q)))))))))))) : RM w (h + 1) kX11_softest 5 [(0, .ref 59), (1, .int v1), (2, .int v2), (3, .int v3), (4, .int v4)] [] M Q := by
  refine rj_iload dX11_softest_5 4 rfl ?_
  refine rj_iconst (v := 3) dX11_softest_7 (by decide) ?_
  obtain ⟨V1, V2⟩ := V
  refine rj_icmp_ge (tgt := 65) dX11_softest_8 (by decide) (fun hc => ?_) (fun hc => ?_)
  · have V := V1 hc
    refine rj_iload_n dX11_softest_65 3 rfl rfl ?_
    exact rm_iret dX11_softest_66 rfl rfl V
  · have V := V2 hc
    refine rj_iload_n dX11_softest_11 1 rfl rfl ?_
    refine rj_iload dX11_softest_12 4 rfl ?_
    refine rm_callSi [.int v1, .int v4] (rest := []) ml_RX11_68 mtX11_below rfl dX11_softest_14 rfl rfl (Nat.le_of_ble_eq_true rfl) (by decide) V (fun r1 M1 V => ?_)
    refine rj_istore (lv' := [(0, .ref 59), (1, .int v1), (2, .int v2), (3, .int v3), (4, .int v4), (5, .int r1)]) dX11_softest_17 (by decide) rfl rfl ?_
    refine rj_iload dX11_softest_19 5 rfl ?_
    obtain ⟨V1, V2⟩ := V
    refine rj_if_lt (tgt := 59) dX11_softest_21 (by decide) (fun hc => ?_) (fun hc => ?_)
    · have V := V1 hc
      refine rj_iincV (c := 1) (fun y => [(0, .ref 59), (1, .int v1), (2, .int v2), (3, .int v3), (4, .int y), (5, .int r1)]) dX11_softest_59 4 rfl (by decide) (by decide) rfl (fun _ => rfl) (fun x1 ex1 => ?_)
      have V := V x1 ex1
      refine rj_goto (tgt := 5) dX11_softest_62 (by decide) ?_
      exact rs_sub [0, 1, 2, 3, 4] rfl V
    · have V := V2 hc
      refine rj_aload_n dX11_softest_24 0 rfl rfl ?_
      refine rj_iload dX11_softest_25 5 rfl ?_
      refine rj_iload_n dX11_softest_27 2 rfl rfl ?_
      refine rm_callVi [.int r1, .int v2] (rest := []) ml_RX11_71 mvX11_can rfl dX11_softest_28 rfl rfl rfl rfl rfl (Nat.le_of_ble_eq_true rfl) (by decide) V (fun r2 M2 V => ?_)
      obtain ⟨V1, V2⟩ := V
      refine rj_if_ne (tgt := 37) dX11_softest_31 (by decide) (fun hc => ?_) (fun hc => ?_)
      · have V := V1 hc
        refine rj_iload_n dX11_softest_37 3 rfl rfl ?_
        refine rj_iload_n dX11_softest_38 1 rfl rfl ?_
        obtain ⟨V1, V2⟩ := V
        refine rj_icmp_eq (tgt := 56) dX11_softest_39 (by decide) (fun hc => ?_) (fun hc => ?_)
        · have V := V1 hc
          refine rj_iload dX11_softest_56 5 rfl ?_
          refine rj_istore_n (lv' := [(0, .ref 59), (1, .int v1), (2, .int v2), (3, .int r1), (4, .int v4), (5, .int r1)]) dX11_softest_58 rfl (by decide) rfl rfl ?_
          refine rj_iincV (c := 1) (fun y => [(0, .ref 59), (1, .int v1), (2, .int v2), (3, .int r1), (4, .int y), (5, .int r1)]) dX11_softest_59 4 rfl (by decide) (by decide) rfl (fun _ => rfl) (fun x1 ex1 => ?_)
          have V := V x1 ex1
          refine rj_goto (tgt := 5) dX11_softest_62 (by decide) ?_
          exact rs_sub [0, 1, 2, 3, 4] rfl V
        · have V := V2 hc
          refine rj_aload_n dX11_softest_42 0 rfl rfl ?_
          refine rj_iload dX11_softest_43 5 rfl ?_
          refine rm_callVi [.int r1] (rest := []) ml_RX11_65 mvX11_holdOf rfl dX11_softest_45 rfl rfl rfl rfl rfl (Nat.le_of_ble_eq_true rfl) (by decide) V (fun r3 M3 V => ?_)
          refine rj_aload_n dX11_softest_48 0 rfl rfl ?_
          refine rj_iload_n dX11_softest_49 3 rfl rfl ?_
          refine rm_callVi [.int v3] (rest := [.int r3]) ml_RX11_65 mvX11_holdOf rfl dX11_softest_50 rfl rfl rfl rfl rfl (Nat.le_of_ble_eq_true rfl) (by decide) V (fun r4 M4 V => ?_)
          obtain ⟨V1, V2⟩ := V
          refine rj_icmp_ge (tgt := 59) dX11_softest_53 (by decide) (fun hc => ?_) (fun hc => ?_)
          · have V := V1 hc
            refine rj_iincV (c := 1) (fun y => [(0, .ref 59), (1, .int v1), (2, .int v2), (3, .int v3), (4, .int y), (5, .int r1)]) dX11_softest_59 4 rfl (by decide) (by decide) rfl (fun _ => rfl) (fun x1 ex1 => ?_)
            have V := V x1 ex1
            refine rj_goto (tgt := 5) dX11_softest_62 (by decide) ?_
            exact rs_sub [0, 1, 2, 3, 4] rfl V
          · have V := V2 hc
            refine rj_iload dX11_softest_56 5 rfl ?_
            refine rj_istore_n (lv' := [(0, .ref 59), (1, .int v1), (2, .int v2), (3, .int r1), (4, .int v4), (5, .int r1)]) dX11_softest_58 rfl (by decide) rfl rfl ?_
            refine rj_iincV (c := 1) (fun y => [(0, .ref 59), (1, .int v1), (2, .int v2), (3, .int r1), (4, .int y), (5, .int r1)]) dX11_softest_59 4 rfl (by decide) (by decide) rfl (fun _ => rfl) (fun x1 ex1 => ?_)
            have V := V x1 ex1
            refine rj_goto (tgt := 5) dX11_softest_62 (by decide) ?_
            exact rs_sub [0, 1, 2, 3, 4] rfl V
      · have V := V2 hc
        refine rj_goto (tgt := 59) dX11_softest_34 (by decide) ?_
        refine rj_iincV (c := 1) (fun y => [(0, .ref 59), (1, .int v1), (2, .int v2), (3, .int v3), (4, .int y), (5, .int r1)]) dX11_softest_59 4 rfl (by decide) (by decide) rfl (fun _ => rfl) (fun x1 ex1 => ?_)
        have V := V x1 ex1
        refine rj_goto (tgt := 5) dX11_softest_62 (by decide) ?_
        exact rs_sub [0, 1, 2, 3, 4] rfl V
-- X11_wettest
set_option maxRecDepth 100000 in
set_option maxHeartbeats 4000000 in
theorem vX11_wettest_0 {w : Wd} {h : Nat} (a0 : Int32) (a1 : Int32)  (M : Mem) (Q : Option Value → Mem → Prop) (V : RM w (h + 1) kX11_wettest 5 [(0, .ref 59), (1, .int a0), (2, .int a1), (3, .int a0), (4, .int 0)] [] M Q) : RM w (h + 1) kX11_wettest 0 [(0, .ref 59), (1, .int a0), (2, .int a1)] [] M Q := by
  refine rj_iload_n dX11_wettest_0 1 rfl rfl ?_
  refine rj_istore_n (lv' := [(0, .ref 59), (1, .int a0), (2, .int a1), (3, .int a0)]) dX11_wettest_1 rfl (by decide) rfl rfl ?_
  refine rj_iconst (v := 0) dX11_wettest_2 (by decide) ?_
  refine rj_istore (lv' := [(0, .ref 59), (1, .int a0), (2, .int a1), (3, .int a0), (4, .int 0)]) dX11_wettest_3 (by decide) rfl rfl ?_
  exact rs_sub [0, 1, 2, 3, 4] rfl V
set_option maxRecDepth 100000 in
set_option maxHeartbeats 4000000 in
theorem vX11_wettest_5 {w : Wd} {h : Nat} (v1 : Int32) (v2 : Int32) (v3 : Int32) (v4 : Int32)  (M : Mem) (Q : Option Value → Mem → Prop) (V : ((3 ≤ v4 → (Q (some (.int v3)) M)) ∧ (¬ (3 ≤ v4) → (CSi w h kX11_below [.int v1, .int v4] M (fun r1 M1 => ((r1 < 0 → (∀ x1 : Int32, x1 = v4 + 1 → RM w (h + 1) kX11_wettest 5 [(0, .ref 59), (1, .int v1), (2, .int v2), (3, .int v3), (4, .int x1)] [] M1 Q)) ∧ (¬ (r1 < 0) → (CSi w h kX11_can [.ref 59, .int r1, .int v2] M1 (fun r2 M2 => ((r2 = 0 → (∀ x1 : Int32, x1 = v4 + 1 → RM w (h + 1) kX11_wettest 5 [(0, .ref 59), (1, .int v1), (2, .int v2), (3, .int v3), (4, .int x1)] [] M2 Q)) ∧ (¬ (r2 = 0) → (CSi w h kX11_wetOf [.ref 59, .int r1] M2 (fun r3 M3 => ((¬ (r3 = 0) → ((v3 = v1 → (∀ x1 : Int32, x1 = v4 + 1 → RM w (h + 1) kX11_wettest 5 [(0, .ref 59), (1, .int v1), (2, .int v2), (3, .int r1), (4, .int x1)] [] M3 Q)) ∧ (¬ (v3 = v1) → (CSi w h kX11_wetOf [.ref 59, .int r1] M3 (fun r4 M4 => (CSi w h kX11_wetOf [.ref 59, .int v3] M4 (fun r5 M5 => ((r4 ≤ r5 → (∀ x1 : Int32, x1 = v4 + 1 → RM w (h + 1) kX11_wettest 5 [(0, .ref 59), (1, .int v1), (2, .int v2), (3, .int v3), (4, .int x1)] [] M5 Q)) ∧ (¬ (r4 ≤ r5) → (∀ x1 : Int32, x1 = v4 + 1 → RM w (h + 1) kX11_wettest 5 [(0, .ref 59), (1, .int v1), (2, .int v2), (3, .int r1), (4, .int x1)] [] M5 Q)))))))))) ∧ (r3 = 0 → (∀ x1 : Int32, x1 = v4 + 1 → RM w (h + 1) kX11_wettest 5 [(0, .ref 59), (1, .int v1), (2, .int v2), (3, .int v3), (4, .int x1)] [] M3 Q)))))))))))))))) : RM w (h + 1) kX11_wettest 5 [(0, .ref 59), (1, .int v1), (2, .int v2), (3, .int v3), (4, .int v4)] [] M Q := by
  refine rj_iload dX11_wettest_5 4 rfl ?_
  refine rj_iconst (v := 3) dX11_wettest_7 (by decide) ?_
  obtain ⟨V1, V2⟩ := V
  refine rj_icmp_ge (tgt := 74) dX11_wettest_8 (by decide) (fun hc => ?_) (fun hc => ?_)
  · have V := V1 hc
    refine rj_iload_n dX11_wettest_74 3 rfl rfl ?_
    exact rm_iret dX11_wettest_75 rfl rfl V
  · have V := V2 hc
    refine rj_iload_n dX11_wettest_11 1 rfl rfl ?_
    refine rj_iload dX11_wettest_12 4 rfl ?_
    refine rm_callSi [.int v1, .int v4] (rest := []) ml_RX11_68 mtX11_below rfl dX11_wettest_14 rfl rfl (Nat.le_of_ble_eq_true rfl) (by decide) V (fun r1 M1 V => ?_)
    refine rj_istore (lv' := [(0, .ref 59), (1, .int v1), (2, .int v2), (3, .int v3), (4, .int v4), (5, .int r1)]) dX11_wettest_17 (by decide) rfl rfl ?_
    refine rj_iload dX11_wettest_19 5 rfl ?_
    obtain ⟨V1, V2⟩ := V
    refine rj_if_lt (tgt := 68) dX11_wettest_21 (by decide) (fun hc => ?_) (fun hc => ?_)
    · have V := V1 hc
      refine rj_iincV (c := 1) (fun y => [(0, .ref 59), (1, .int v1), (2, .int v2), (3, .int v3), (4, .int y), (5, .int r1)]) dX11_wettest_68 4 rfl (by decide) (by decide) rfl (fun _ => rfl) (fun x1 ex1 => ?_)
      have V := V x1 ex1
      refine rj_goto (tgt := 5) dX11_wettest_71 (by decide) ?_
      exact rs_sub [0, 1, 2, 3, 4] rfl V
    · have V := V2 hc
      refine rj_aload_n dX11_wettest_24 0 rfl rfl ?_
      refine rj_iload dX11_wettest_25 5 rfl ?_
      refine rj_iload_n dX11_wettest_27 2 rfl rfl ?_
      refine rm_callVi [.int r1, .int v2] (rest := []) ml_RX11_71 mvX11_can rfl dX11_wettest_28 rfl rfl rfl rfl rfl (Nat.le_of_ble_eq_true rfl) (by decide) V (fun r2 M2 V => ?_)
      obtain ⟨V1, V2⟩ := V
      refine rj_if_eq (tgt := 68) dX11_wettest_31 (by decide) (fun hc => ?_) (fun hc => ?_)
      · have V := V1 hc
        refine rj_iincV (c := 1) (fun y => [(0, .ref 59), (1, .int v1), (2, .int v2), (3, .int v3), (4, .int y), (5, .int r1)]) dX11_wettest_68 4 rfl (by decide) (by decide) rfl (fun _ => rfl) (fun x1 ex1 => ?_)
        have V := V x1 ex1
        refine rj_goto (tgt := 5) dX11_wettest_71 (by decide) ?_
        exact rs_sub [0, 1, 2, 3, 4] rfl V
      · have V := V2 hc
        refine rj_aload_n dX11_wettest_34 0 rfl rfl ?_
        refine rj_iload dX11_wettest_35 5 rfl ?_
        refine rm_callVi [.int r1] (rest := []) ml_RX11_61 mvX11_wetOf rfl dX11_wettest_37 rfl rfl rfl rfl rfl (Nat.le_of_ble_eq_true rfl) (by decide) V (fun r3 M3 V => ?_)
        obtain ⟨V1, V2⟩ := V
        refine rj_if_ne (tgt := 46) dX11_wettest_40 (by decide) (fun hc => ?_) (fun hc => ?_)
        · have V := V1 hc
          refine rj_iload_n dX11_wettest_46 3 rfl rfl ?_
          refine rj_iload_n dX11_wettest_47 1 rfl rfl ?_
          obtain ⟨V1, V2⟩ := V
          refine rj_icmp_eq (tgt := 65) dX11_wettest_48 (by decide) (fun hc => ?_) (fun hc => ?_)
          · have V := V1 hc
            refine rj_iload dX11_wettest_65 5 rfl ?_
            refine rj_istore_n (lv' := [(0, .ref 59), (1, .int v1), (2, .int v2), (3, .int r1), (4, .int v4), (5, .int r1)]) dX11_wettest_67 rfl (by decide) rfl rfl ?_
            refine rj_iincV (c := 1) (fun y => [(0, .ref 59), (1, .int v1), (2, .int v2), (3, .int r1), (4, .int y), (5, .int r1)]) dX11_wettest_68 4 rfl (by decide) (by decide) rfl (fun _ => rfl) (fun x1 ex1 => ?_)
            have V := V x1 ex1
            refine rj_goto (tgt := 5) dX11_wettest_71 (by decide) ?_
            exact rs_sub [0, 1, 2, 3, 4] rfl V
          · have V := V2 hc
            refine rj_aload_n dX11_wettest_51 0 rfl rfl ?_
            refine rj_iload dX11_wettest_52 5 rfl ?_
            refine rm_callVi [.int r1] (rest := []) ml_RX11_61 mvX11_wetOf rfl dX11_wettest_54 rfl rfl rfl rfl rfl (Nat.le_of_ble_eq_true rfl) (by decide) V (fun r4 M4 V => ?_)
            refine rj_aload_n dX11_wettest_57 0 rfl rfl ?_
            refine rj_iload_n dX11_wettest_58 3 rfl rfl ?_
            refine rm_callVi [.int v3] (rest := [.int r4]) ml_RX11_61 mvX11_wetOf rfl dX11_wettest_59 rfl rfl rfl rfl rfl (Nat.le_of_ble_eq_true rfl) (by decide) V (fun r5 M5 V => ?_)
            obtain ⟨V1, V2⟩ := V
            refine rj_icmp_le (tgt := 68) dX11_wettest_62 (by decide) (fun hc => ?_) (fun hc => ?_)
            · have V := V1 hc
              refine rj_iincV (c := 1) (fun y => [(0, .ref 59), (1, .int v1), (2, .int v2), (3, .int v3), (4, .int y), (5, .int r1)]) dX11_wettest_68 4 rfl (by decide) (by decide) rfl (fun _ => rfl) (fun x1 ex1 => ?_)
              have V := V x1 ex1
              refine rj_goto (tgt := 5) dX11_wettest_71 (by decide) ?_
              exact rs_sub [0, 1, 2, 3, 4] rfl V
            · have V := V2 hc
              refine rj_iload dX11_wettest_65 5 rfl ?_
              refine rj_istore_n (lv' := [(0, .ref 59), (1, .int v1), (2, .int v2), (3, .int r1), (4, .int v4), (5, .int r1)]) dX11_wettest_67 rfl (by decide) rfl rfl ?_
              refine rj_iincV (c := 1) (fun y => [(0, .ref 59), (1, .int v1), (2, .int v2), (3, .int r1), (4, .int y), (5, .int r1)]) dX11_wettest_68 4 rfl (by decide) (by decide) rfl (fun _ => rfl) (fun x1 ex1 => ?_)
              have V := V x1 ex1
              refine rj_goto (tgt := 5) dX11_wettest_71 (by decide) ?_
              exact rs_sub [0, 1, 2, 3, 4] rfl V
        · have V := V2 hc
          refine rj_goto (tgt := 68) dX11_wettest_43 (by decide) ?_
          refine rj_iincV (c := 1) (fun y => [(0, .ref 59), (1, .int v1), (2, .int v2), (3, .int v3), (4, .int y), (5, .int r1)]) dX11_wettest_68 4 rfl (by decide) (by decide) rfl (fun _ => rfl) (fun x1 ex1 => ?_)
          have V := V x1 ex1
          refine rj_goto (tgt := 5) dX11_wettest_71 (by decide) ?_
          exact rs_sub [0, 1, 2, 3, 4] rfl V
-- X11_swung
set_option maxRecDepth 100000 in
set_option maxHeartbeats 4000000 in
theorem vX11_swung_0 {w : Wd} {h : Nat} (a0 : Int32) (a1 : Int32) (a2 : Int32)  (M : Mem) (Q : Option Value → Mem → Prop) (V : (CSi w h kX11_below [.int a0, .int (if (a2 - a2 / 2 * 2) = 0 then (1 : Int32) else (2 : Int32))] M (fun r1 M1 => ((r1 < 0 → (CSi w h kX11_softest [.ref 59, .int a0, .int a1] M1 (fun r2 M2 => (Q (some (.int r2)) M2)))) ∧ (¬ (r1 < 0) → (CSi w h kX11_can [.ref 59, .int r1, .int a1] M1 (fun r2 M2 => ((r2 = 0 → (CSi w h kX11_softest [.ref 59, .int a0, .int a1] M2 (fun r3 M3 => (Q (some (.int r3)) M3)))) ∧ (¬ (r2 = 0) → (Q (some (.int r1)) M2)))))))))) : RM w (h + 1) kX11_swung 0 [(0, .ref 59), (1, .int a0), (2, .int a1), (3, .int a2)] [] M Q := by
  refine rj_iload_n dX11_swung_0 1 rfl rfl ?_
  refine rj_iload_n dX11_swung_1 3 rfl rfl ?_
  refine rj_iconst (v := 2) dX11_swung_2 (by decide) ?_
  refine rj_irem dX11_swung_3 (by decide) ?_
  have KD : RM w (h + 1) kX11_swung 12 [(0, .ref 59), (1, .int a0), (2, .int a1), (3, .int a2)] [.int (if (a2 - a2 / 2 * 2) = 0 then (1 : Int32) else (2 : Int32)), .int a0] M Q := by
    refine rm_callSi [.int a0, .int (if (a2 - a2 / 2 * 2) = 0 then (1 : Int32) else (2 : Int32))] (rest := []) ml_RX11_68 mtX11_below rfl dX11_swung_12 rfl rfl (Nat.le_of_ble_eq_true rfl) (by decide) V (fun r1 M1 V => ?_)
    refine rj_istore (lv' := [(0, .ref 59), (1, .int a0), (2, .int a1), (3, .int a2), (4, .int r1)]) dX11_swung_15 (by decide) rfl rfl ?_
    refine rj_iload dX11_swung_17 4 rfl ?_
    obtain ⟨V1, V2⟩ := V
    refine rj_if_lt (tgt := 37) dX11_swung_19 (by decide) (fun hc => ?_) (fun hc => ?_)
    · have V := V1 hc
      refine rj_aload_n dX11_swung_37 0 rfl rfl ?_
      refine rj_iload_n dX11_swung_38 1 rfl rfl ?_
      refine rj_iload_n dX11_swung_39 2 rfl rfl ?_
      refine rm_callVi [.int a0, .int a1] (rest := []) ml_RX11_75 mvX11_softest rfl dX11_swung_40 rfl rfl rfl rfl rfl (Nat.le_of_ble_eq_true rfl) (by decide) V (fun r2 M2 V => ?_)
      exact rm_iret dX11_swung_43 rfl rfl V
    · have V := V2 hc
      refine rj_aload_n dX11_swung_22 0 rfl rfl ?_
      refine rj_iload dX11_swung_23 4 rfl ?_
      refine rj_iload_n dX11_swung_25 2 rfl rfl ?_
      refine rm_callVi [.int r1, .int a1] (rest := []) ml_RX11_71 mvX11_can rfl dX11_swung_26 rfl rfl rfl rfl rfl (Nat.le_of_ble_eq_true rfl) (by decide) V (fun r2 M2 V => ?_)
      obtain ⟨V1, V2⟩ := V
      refine rj_if_eq (tgt := 37) dX11_swung_29 (by decide) (fun hc => ?_) (fun hc => ?_)
      · have V := V1 hc
        refine rj_aload_n dX11_swung_37 0 rfl rfl ?_
        refine rj_iload_n dX11_swung_38 1 rfl rfl ?_
        refine rj_iload_n dX11_swung_39 2 rfl rfl ?_
        refine rm_callVi [.int a0, .int a1] (rest := []) ml_RX11_75 mvX11_softest rfl dX11_swung_40 rfl rfl rfl rfl rfl (Nat.le_of_ble_eq_true rfl) (by decide) V (fun r3 M3 V => ?_)
        exact rm_iret dX11_swung_43 rfl rfl V
      · have V := V2 hc
        refine rj_iload dX11_swung_32 4 rfl ?_
        refine rj_goto (tgt := 43) dX11_swung_34 (by decide) ?_
        exact rm_iret dX11_swung_43 rfl rfl V
  refine rj_if_ne (tgt := 11) dX11_swung_4 (by decide) (fun hc => ?_) (fun hc => ?_)
  · refine rj_iconst (v := 2) dX11_swung_11 (by decide) ?_
    exact rs_ite_f hc KD
  · refine rj_iconst (v := 1) dX11_swung_7 (by decide) ?_
    refine rj_goto (tgt := 12) dX11_swung_8 (by decide) ?_
    exact rs_ite_t hc KD
-- X11_aside
set_option maxRecDepth 100000 in
set_option maxHeartbeats 4000000 in
theorem vX11_aside_0 {w : Wd} {h : Nat} (a0 : Int32) (a1 : Int32)  (M : Mem) (Q : Option Value → Mem → Prop) (V : (∀ x1 : Int32, x1 = (a0 - a0 / 12 * 12) → ((¬ ((x1 - x1 / 2 * 2) = 0) → (∀ x2 : Int32, x2 = (if 11 ≤ x1 then ((-1) : Int32) else (a0 + 1)) → ((x2 < 0 → (Q (some (.int a0)) M)) ∧ (¬ (x2 < 0) → (CSi w h kX11_can [.ref 59, .int x2, .int a1] M (fun r1 M1 => (Q (some (.int (if r1 = 0 then a0 else x2))) M1))))))) ∧ ((x1 - x1 / 2 * 2) = 0 → (∀ x2 : Int32, x2 = (if x1 ≤ 0 then ((-1) : Int32) else (a0 - 1)) → ((x2 < 0 → (Q (some (.int a0)) M)) ∧ (¬ (x2 < 0) → (CSi w h kX11_can [.ref 59, .int x2, .int a1] M (fun r1 M1 => (Q (some (.int (if r1 = 0 then a0 else x2))) M1)))))))))) : RM w (h + 1) kX11_aside 0 [(0, .ref 59), (1, .int a0), (2, .int a1)] [] M Q := by
  refine rj_iload_n dX11_aside_0 1 rfl rfl ?_
  refine rj_bipush (v := 12) dX11_aside_1 (by decide) ?_
  refine rj_irem dX11_aside_3 (by decide) ?_
  refine rj_top (fun x1 ex1 => ?_)
  have V := V x1 ex1
  refine rj_istore_n (lv' := [(0, .ref 59), (1, .int a0), (2, .int a1), (3, .int x1)]) dX11_aside_4 rfl (by decide) rfl rfl ?_
  refine rj_iload_n dX11_aside_5 3 rfl rfl ?_
  refine rj_iconst (v := 2) dX11_aside_6 (by decide) ?_
  refine rj_irem dX11_aside_7 (by decide) ?_
  obtain ⟨V1, V2⟩ := V
  refine rj_if_ne (tgt := 25) dX11_aside_8 (by decide) (fun hc => ?_) (fun hc => ?_)
  · have V := V1 hc
    refine rj_iload_n dX11_aside_25 3 rfl rfl ?_
    refine rj_bipush (v := 11) dX11_aside_26 (by decide) ?_
    have KD : RM w (h + 1) kX11_aside 38 [(0, .ref 59), (1, .int a0), (2, .int a1), (3, .int x1)] [.int (if 11 ≤ x1 then ((-1) : Int32) else (a0 + 1))] M Q := by
      refine rj_top (fun x2 ex2 => ?_)
      have V := V x2 ex2
      refine rj_istore (lv' := [(0, .ref 59), (1, .int a0), (2, .int a1), (3, .int x1), (4, .int x2)]) dX11_aside_38 (by decide) rfl rfl ?_
      refine rj_iload dX11_aside_40 4 rfl ?_
      obtain ⟨V1, V2⟩ := V
      refine rj_if_lt (tgt := 60) dX11_aside_42 (by decide) (fun hc => ?_) (fun hc => ?_)
      · have V := V1 hc
        refine rj_iload_n dX11_aside_60 1 rfl rfl ?_
        exact rm_iret dX11_aside_61 rfl rfl V
      · have V := V2 hc
        refine rj_aload_n dX11_aside_45 0 rfl rfl ?_
        refine rj_iload dX11_aside_46 4 rfl ?_
        refine rj_iload_n dX11_aside_48 2 rfl rfl ?_
        refine rm_callVi [.int x2, .int a1] (rest := []) ml_RX11_71 mvX11_can rfl dX11_aside_49 rfl rfl rfl rfl rfl (Nat.le_of_ble_eq_true rfl) (by decide) V (fun r1 M1 V => ?_)
        have KD : RM w (h + 1) kX11_aside 61 [(0, .ref 59), (1, .int a0), (2, .int a1), (3, .int x1), (4, .int x2)] [.int (if r1 = 0 then a0 else x2)] M1 Q := by
          exact rm_iret dX11_aside_61 rfl rfl V
        refine rj_if_eq (tgt := 60) dX11_aside_52 (by decide) (fun hc => ?_) (fun hc => ?_)
        · refine rj_iload_n dX11_aside_60 1 rfl rfl ?_
          exact rs_ite_t hc KD
        · refine rj_iload dX11_aside_55 4 rfl ?_
          refine rj_goto (tgt := 61) dX11_aside_57 (by decide) ?_
          exact rs_ite_f hc KD
    refine rj_icmp_ge (tgt := 37) dX11_aside_28 (by decide) (fun hc => ?_) (fun hc => ?_)
    · refine rj_iconst (v := (-1)) dX11_aside_37 (by decide) ?_
      exact rs_ite_t hc KD
    · refine rj_iload_n dX11_aside_31 1 rfl rfl ?_
      refine rj_iconst (v := 1) dX11_aside_32 (by decide) ?_
      refine rj_iadd dX11_aside_33 ?_
      refine rj_goto (tgt := 38) dX11_aside_34 (by decide) ?_
      exact rs_ite_f hc KD
  · have V := V2 hc
    refine rj_iload_n dX11_aside_11 3 rfl rfl ?_
    have KD : RM w (h + 1) kX11_aside 38 [(0, .ref 59), (1, .int a0), (2, .int a1), (3, .int x1)] [.int (if x1 ≤ 0 then ((-1) : Int32) else (a0 - 1))] M Q := by
      refine rj_top (fun x2 ex2 => ?_)
      have V := V x2 ex2
      refine rj_istore (lv' := [(0, .ref 59), (1, .int a0), (2, .int a1), (3, .int x1), (4, .int x2)]) dX11_aside_38 (by decide) rfl rfl ?_
      refine rj_iload dX11_aside_40 4 rfl ?_
      obtain ⟨V1, V2⟩ := V
      refine rj_if_lt (tgt := 60) dX11_aside_42 (by decide) (fun hc => ?_) (fun hc => ?_)
      · have V := V1 hc
        refine rj_iload_n dX11_aside_60 1 rfl rfl ?_
        exact rm_iret dX11_aside_61 rfl rfl V
      · have V := V2 hc
        refine rj_aload_n dX11_aside_45 0 rfl rfl ?_
        refine rj_iload dX11_aside_46 4 rfl ?_
        refine rj_iload_n dX11_aside_48 2 rfl rfl ?_
        refine rm_callVi [.int x2, .int a1] (rest := []) ml_RX11_71 mvX11_can rfl dX11_aside_49 rfl rfl rfl rfl rfl (Nat.le_of_ble_eq_true rfl) (by decide) V (fun r1 M1 V => ?_)
        have KD : RM w (h + 1) kX11_aside 61 [(0, .ref 59), (1, .int a0), (2, .int a1), (3, .int x1), (4, .int x2)] [.int (if r1 = 0 then a0 else x2)] M1 Q := by
          exact rm_iret dX11_aside_61 rfl rfl V
        refine rj_if_eq (tgt := 60) dX11_aside_52 (by decide) (fun hc => ?_) (fun hc => ?_)
        · refine rj_iload_n dX11_aside_60 1 rfl rfl ?_
          exact rs_ite_t hc KD
        · refine rj_iload dX11_aside_55 4 rfl ?_
          refine rj_goto (tgt := 61) dX11_aside_57 (by decide) ?_
          exact rs_ite_f hc KD
    refine rj_if_le (tgt := 21) dX11_aside_12 (by decide) (fun hc => ?_) (fun hc => ?_)
    · refine rj_iconst (v := (-1)) dX11_aside_21 (by decide) ?_
      refine rj_goto (tgt := 38) dX11_aside_22 (by decide) ?_
      exact rs_ite_t hc KD
    · refine rj_iload_n dX11_aside_15 1 rfl rfl ?_
      refine rj_iconst (v := 1) dX11_aside_16 (by decide) ?_
      refine rj_isub dX11_aside_17 ?_
      refine rj_goto (tgt := 38) dX11_aside_18 (by decide) ?_
      exact rs_ite_f hc KD
-- X11_goesTo
set_option maxRecDepth 100000 in
set_option maxHeartbeats 4000000 in
theorem vX11_goesTo_0 {w : Wd} {h : Nat} (a0 : Int32) (a1 : Int32) (a2 : Int32) (a3 : Int32)  (M : Mem) (Q : Option Value → Mem → Prop) (V : ((a1 < 180 → (CSi w h kX11_can [.ref 59, .int (a1 + 12), .int a2] M (fun r1 M1 => ((¬ (a0 = 7) → RM w (h + 1) kX11_goesTo 36 [(0, .ref 59), (1, .int a0), (2, .int a1), (3, .int a2), (4, .int a3), (5, .int r1)] [.int a1] M1 Q) ∧ (a0 = 7 → (CSi w h kX11_wettest [.ref 59, .int a1, .int a2] M1 (fun r2 M2 => RM w (h + 1) kX11_goesTo 36 [(0, .ref 59), (1, .int a0), (2, .int a1), (3, .int a2), (4, .int a3), (5, .int r1)] [.int r2] M2 Q))))))) ∧ (¬ (a1 < 180) → (Q (some (.int (-1))) M)))) : RM w (h + 1) kX11_goesTo 0 [(0, .ref 59), (1, .int a0), (2, .int a1), (3, .int a2), (4, .int a3)] [] M Q := by
  refine rj_iload_n dX11_goesTo_0 2 rfl rfl ?_
  refine rj_sipush (v := 180) dX11_goesTo_1 (by decide) ?_
  obtain ⟨V1, V2⟩ := V
  refine rj_icmp_lt (tgt := 9) dX11_goesTo_4 (by decide) (fun hc => ?_) (fun hc => ?_)
  · have V := V1 hc
    refine rj_aload_n dX11_goesTo_9 0 rfl rfl ?_
    refine rj_iload_n dX11_goesTo_10 2 rfl rfl ?_
    refine rj_bipush (v := 12) dX11_goesTo_11 (by decide) ?_
    refine rj_iadd dX11_goesTo_13 ?_
    refine rj_iload_n dX11_goesTo_14 3 rfl rfl ?_
    refine rm_callVi [.int (a1 + 12), .int a2] (rest := []) ml_RX11_71 mvX11_can rfl dX11_goesTo_15 rfl rfl rfl rfl rfl (Nat.le_of_ble_eq_true rfl) (by decide) V (fun r1 M1 V => ?_)
    refine rj_istore (lv' := [(0, .ref 59), (1, .int a0), (2, .int a1), (3, .int a2), (4, .int a3), (5, .int r1)]) dX11_goesTo_18 (by decide) rfl rfl ?_
    refine rj_iload_n dX11_goesTo_20 1 rfl rfl ?_
    refine rj_bipush (v := 7) dX11_goesTo_21 (by decide) ?_
    obtain ⟨V1, V2⟩ := V
    refine rj_icmp_ne (tgt := 35) dX11_goesTo_23 (by decide) (fun hc => ?_) (fun hc => ?_)
    · have V := V1 hc
      refine rj_iload_n dX11_goesTo_35 2 rfl rfl ?_
      exact rs_sub [0, 1, 2, 3, 4, 5] rfl V
    · have V := V2 hc
      refine rj_aload_n dX11_goesTo_26 0 rfl rfl ?_
      refine rj_iload_n dX11_goesTo_27 2 rfl rfl ?_
      refine rj_iload_n dX11_goesTo_28 3 rfl rfl ?_
      refine rm_callVi [.int a1, .int a2] (rest := []) ml_RX11_78 mvX11_wettest rfl dX11_goesTo_29 rfl rfl rfl rfl rfl (Nat.le_of_ble_eq_true rfl) (by decide) V (fun r2 M2 V => ?_)
      refine rj_goto (tgt := 36) dX11_goesTo_32 (by decide) ?_
      exact rs_sub [0, 1, 2, 3, 4, 5] rfl V
  · have V := V2 hc
    refine rj_iconst (v := (-1)) dX11_goesTo_7 (by decide) ?_
    exact rm_iret dX11_goesTo_8 rfl rfl V
set_option maxRecDepth 100000 in
set_option maxHeartbeats 4000000 in
theorem vX11_goesTo_36 {w : Wd} {h : Nat} (v1 : Int32) (v2 : Int32) (v3 : Int32) (v4 : Int32) (v5 : Int32) (s0 : Int32)  (M : Mem) (Q : Option Value → Mem → Prop) (V : ((v1 = 2 → (Q (some (.int (if v5 = 0 then v2 else (v2 + 12)))) M)) ∧ (¬ v1 = 2 → ((v1 = 3 → ((v5 = 0 → (CSi w h kX11_aside [.ref 59, .int v2, .int v3] M (fun r1 M1 => (Q (some (.int r1)) M1)))) ∧ (¬ (v5 = 0) → (Q (some (.int (v2 + 12))) M)))) ∧ (¬ v1 = 3 → ((v1 = 4 → (CSi w h kX11_swung [.ref 59, .int v2, .int v3, .int v4] M (fun r1 M1 => (Q (some (.int r1)) M1)))) ∧ (¬ v1 = 4 → ((v1 = 5 → ((¬ ((v4 - v4 / 3 * 3) = 2) → (CSi w h kX11_swung [.ref 59, .int v2, .int v3, .int v4] M (fun r1 M1 => (Q (some (.int r1)) M1)))) ∧ ((v4 - v4 / 3 * 3) = 2 → (CSi w h kX11_softest [.ref 59, .int v2, .int v3] M (fun r1 M1 => (Q (some (.int r1)) M1)))))) ∧ (¬ v1 = 5 → ((v1 = 6 → ((v5 = 0 → (CSi w h kX11_softest [.ref 59, .int v2, .int v3] M (fun r1 M1 => (Q (some (.int r1)) M1)))) ∧ (¬ (v5 = 0) → (Q (some (.int (v2 + 12))) M)))) ∧ (¬ v1 = 6 → ((s0 = v2 → (CSi w h kX11_softest [.ref 59, .int v2, .int v3] M (fun r1 M1 => (Q (some (.int r1)) M1)))) ∧ (¬ (s0 = v2) → (Q (some (.int s0)) M)))))))))))))) : RM w (h + 1) kX11_goesTo 36 [(0, .ref 59), (1, .int v1), (2, .int v2), (3, .int v3), (4, .int v4), (5, .int v5)] [.int s0] M Q := by
  refine rj_istore (lv' := [(0, .ref 59), (1, .int v1), (2, .int v2), (3, .int v3), (4, .int v4), (5, .int v5), (6, .int s0)]) dX11_goesTo_36 (by decide) rfl rfl ?_
  refine rj_iload_n dX11_goesTo_38 1 rfl rfl ?_
  obtain ⟨V1, V2⟩ := V
  by_cases w0 : v1 = 2
  · have V := V1 w0
    refine rs_at w0 ?_
    refine rj_tableIn (off := 33) (tgt := 72) dX11_goesTo_39 (by decide) (by decide) (by decide) (by decide) ?_
    refine rj_iload dX11_goesTo_72 5 rfl ?_
    have KD : RM w (h + 1) kX11_goesTo 85 [(0, .ref 59), (1, .int v1), (2, .int v2), (3, .int v3), (4, .int v4), (5, .int v5), (6, .int s0)] [.int (if v5 = 0 then v2 else (v2 + 12))] M Q := by
      exact rm_iret dX11_goesTo_85 rfl rfl V
    refine rj_if_eq (tgt := 84) dX11_goesTo_74 (by decide) (fun hc => ?_) (fun hc => ?_)
    · refine rj_iload_n dX11_goesTo_84 2 rfl rfl ?_
      exact rs_ite_t hc KD
    · refine rj_iload_n dX11_goesTo_77 2 rfl rfl ?_
      refine rj_bipush (v := 12) dX11_goesTo_78 (by decide) ?_
      refine rj_iadd dX11_goesTo_80 ?_
      refine rj_goto (tgt := 85) dX11_goesTo_81 (by decide) ?_
      exact rs_ite_f hc KD
  · have V := V2 w0
    obtain ⟨V1, V2⟩ := V
    by_cases w1 : v1 = 3
    · have V := V1 w1
      refine rs_at w1 ?_
      refine rj_tableIn (off := 47) (tgt := 86) dX11_goesTo_39 (by decide) (by decide) (by decide) (by decide) ?_
      refine rj_iload dX11_goesTo_86 5 rfl ?_
      obtain ⟨V1, V2⟩ := V
      refine rj_if_eq (tgt := 98) dX11_goesTo_88 (by decide) (fun hc => ?_) (fun hc => ?_)
      · have V := V1 hc
        refine rj_aload_n dX11_goesTo_98 0 rfl rfl ?_
        refine rj_iload_n dX11_goesTo_99 2 rfl rfl ?_
        refine rj_iload_n dX11_goesTo_100 3 rfl rfl ?_
        refine rm_callVi [.int v2, .int v3] (rest := []) ml_RX11_81 mvX11_aside rfl dX11_goesTo_101 rfl rfl rfl rfl rfl (Nat.le_of_ble_eq_true rfl) (by decide) V (fun r1 M1 V => ?_)
        exact rm_iret dX11_goesTo_104 rfl rfl V
      · have V := V2 hc
        refine rj_iload_n dX11_goesTo_91 2 rfl rfl ?_
        refine rj_bipush (v := 12) dX11_goesTo_92 (by decide) ?_
        refine rj_iadd dX11_goesTo_94 ?_
        refine rj_goto (tgt := 104) dX11_goesTo_95 (by decide) ?_
        exact rm_iret dX11_goesTo_104 rfl rfl V
    · have V := V2 w1
      obtain ⟨V1, V2⟩ := V
      by_cases w2 : v1 = 4
      · have V := V1 w2
        refine rs_at w2 ?_
        refine rj_tableIn (off := 85) (tgt := 124) dX11_goesTo_39 (by decide) (by decide) (by decide) (by decide) ?_
        refine rj_aload_n dX11_goesTo_124 0 rfl rfl ?_
        refine rj_iload_n dX11_goesTo_125 2 rfl rfl ?_
        refine rj_iload_n dX11_goesTo_126 3 rfl rfl ?_
        refine rj_iload dX11_goesTo_127 4 rfl ?_
        refine rm_callVi [.int v2, .int v3, .int v4] (rest := []) ml_RX11_84 mvX11_swung rfl dX11_goesTo_129 rfl rfl rfl rfl rfl (Nat.le_of_ble_eq_true rfl) (by decide) V (fun r1 M1 V => ?_)
        exact rm_iret dX11_goesTo_132 rfl rfl V
      · have V := V2 w2
        obtain ⟨V1, V2⟩ := V
        by_cases w3 : v1 = 5
        · have V := V1 w3
          refine rs_at w3 ?_
          refine rj_tableIn (off := 94) (tgt := 133) dX11_goesTo_39 (by decide) (by decide) (by decide) (by decide) ?_
          refine rj_iload dX11_goesTo_133 4 rfl ?_
          refine rj_iconst (v := 3) dX11_goesTo_135 (by decide) ?_
          refine rj_irem dX11_goesTo_136 (by decide) ?_
          refine rj_iconst (v := 2) dX11_goesTo_137 (by decide) ?_
          obtain ⟨V1, V2⟩ := V
          refine rj_icmp_ne (tgt := 150) dX11_goesTo_138 (by decide) (fun hc => ?_) (fun hc => ?_)
          · have V := V1 hc
            refine rj_aload_n dX11_goesTo_150 0 rfl rfl ?_
            refine rj_iload_n dX11_goesTo_151 2 rfl rfl ?_
            refine rj_iload_n dX11_goesTo_152 3 rfl rfl ?_
            refine rj_iload dX11_goesTo_153 4 rfl ?_
            refine rm_callVi [.int v2, .int v3, .int v4] (rest := []) ml_RX11_84 mvX11_swung rfl dX11_goesTo_155 rfl rfl rfl rfl rfl (Nat.le_of_ble_eq_true rfl) (by decide) V (fun r1 M1 V => ?_)
            exact rm_iret dX11_goesTo_158 rfl rfl V
          · have V := V2 hc
            refine rj_aload_n dX11_goesTo_141 0 rfl rfl ?_
            refine rj_iload_n dX11_goesTo_142 2 rfl rfl ?_
            refine rj_iload_n dX11_goesTo_143 3 rfl rfl ?_
            refine rm_callVi [.int v2, .int v3] (rest := []) ml_RX11_75 mvX11_softest rfl dX11_goesTo_144 rfl rfl rfl rfl rfl (Nat.le_of_ble_eq_true rfl) (by decide) V (fun r1 M1 V => ?_)
            refine rj_goto (tgt := 158) dX11_goesTo_147 (by decide) ?_
            exact rm_iret dX11_goesTo_158 rfl rfl V
        · have V := V2 w3
          obtain ⟨V1, V2⟩ := V
          by_cases w4 : v1 = 6
          · have V := V1 w4
            refine rs_at w4 ?_
            refine rj_tableIn (off := 66) (tgt := 105) dX11_goesTo_39 (by decide) (by decide) (by decide) (by decide) ?_
            refine rj_iload dX11_goesTo_105 5 rfl ?_
            obtain ⟨V1, V2⟩ := V
            refine rj_if_eq (tgt := 117) dX11_goesTo_107 (by decide) (fun hc => ?_) (fun hc => ?_)
            · have V := V1 hc
              refine rj_aload_n dX11_goesTo_117 0 rfl rfl ?_
              refine rj_iload_n dX11_goesTo_118 2 rfl rfl ?_
              refine rj_iload_n dX11_goesTo_119 3 rfl rfl ?_
              refine rm_callVi [.int v2, .int v3] (rest := []) ml_RX11_75 mvX11_softest rfl dX11_goesTo_120 rfl rfl rfl rfl rfl (Nat.le_of_ble_eq_true rfl) (by decide) V (fun r1 M1 V => ?_)
              exact rm_iret dX11_goesTo_123 rfl rfl V
            · have V := V2 hc
              refine rj_iload_n dX11_goesTo_110 2 rfl rfl ?_
              refine rj_bipush (v := 12) dX11_goesTo_111 (by decide) ?_
              refine rj_iadd dX11_goesTo_113 ?_
              refine rj_goto (tgt := 123) dX11_goesTo_114 (by decide) ?_
              exact rm_iret dX11_goesTo_123 rfl rfl V
          · have V := V2 w4
            refine rj_tableOut (tgt := 159) dX11_goesTo_39 (by have n0 := lv_neT (a := 2) w0 (by decide); have n1 := lv_neT (a := 3) w1 (by decide); have n2 := lv_neT (a := 4) w2 (by decide); have n3 := lv_neT (a := 5) w3 (by decide); have n4 := lv_neT (a := 6) w4 (by decide); omega) (by decide) ?_
            refine rj_iload dX11_goesTo_159 6 rfl ?_
            refine rj_iload_n dX11_goesTo_161 2 rfl rfl ?_
            obtain ⟨V1, V2⟩ := V
            refine rj_icmp_eq (tgt := 170) dX11_goesTo_162 (by decide) (fun hc => ?_) (fun hc => ?_)
            · have V := V1 hc
              refine rj_aload_n dX11_goesTo_170 0 rfl rfl ?_
              refine rj_iload_n dX11_goesTo_171 2 rfl rfl ?_
              refine rj_iload_n dX11_goesTo_172 3 rfl rfl ?_
              refine rm_callVi [.int v2, .int v3] (rest := []) ml_RX11_75 mvX11_softest rfl dX11_goesTo_173 rfl rfl rfl rfl rfl (Nat.le_of_ble_eq_true rfl) (by decide) V (fun r1 M1 V => ?_)
              exact rm_iret dX11_goesTo_176 rfl rfl V
            · have V := V2 hc
              refine rj_iload dX11_goesTo_165 6 rfl ?_
              refine rj_goto (tgt := 176) dX11_goesTo_167 (by decide) ?_
              exact rm_iret dX11_goesTo_176 rfl rfl V
-- X11_cellOf
set_option maxRecDepth 100000 in
set_option maxHeartbeats 4000000 in
theorem vX11_cellOf_0 {w : Wd} {h : Nat} (hh : 1 ≤ h) (a0 : Int32) (a1 : Int32)  (M : Mem) (Q : Option Value → Mem → Prop) (V : ((¬ ((0 ≤ a0 ∧ a0 ≤ 191)) → (CSi w h kX11_finds [.ref 59, .int (-1000001)] M (fun r1 M1 => (Q (some (.int r1)) M1)))) ∧ ((0 ≤ a0 ∧ a0 ≤ 191) → ((((0 : Int32) ≤ a1 ∧ a1 ≤ (3 : Int32)) → ((3 ≤ a1 → RM w (h + 1) kX11_cellOf 73 [(0, .ref 59), (1, .int a0), (3, .int 0)] [] M Q) ∧ (¬ (3 ≤ a1) → ((¬ (a1 = 0) → ((¬ (a1 = 1) → (CSi w h kX11_holdOf [.ref 59, .int a0] M (fun r1 M1 => (Q (some (.int r1)) M1)))) ∧ (a1 = 1 → (vp_in (210 + a0) 666 ∧ (Q (some (.int (M 60 (Int32.toNatClampNeg (210 + a0))))) M))))) ∧ (a1 = 0 → (vp_in (18 + a0) 666 ∧ (Q (some (.int (M 60 (Int32.toNatClampNeg (18 + a0))))) M))))))) ∧ (¬ (((0 : Int32) ≤ a1 ∧ a1 ≤ (3 : Int32))) → (CSi w h kX11_finds [.ref 59, .int (-1000001)] M (fun r1 M1 => (Q (some (.int r1)) M1)))))))) : RM w (h + 1) kX11_cellOf 0 [(0, .ref 59), (1, .int a0), (2, .int a1)] [] M Q := by
  refine rj_iload_n dX11_cellOf_0 1 rfl rfl ?_
  refine rm_callSi [.int a0] (rest := []) (K := fun x M' => b2i (0 ≤ a0 ∧ a0 ≤ 191) = x ∧ M = M') ml_RX11_88 mtX11_isCell rfl dX11_cellOf_1 rfl rfl (Nat.le_of_ble_eq_true rfl) (by decide) (uX11_isCell (by omega) ⟨rfl, rfl⟩) (fun x M' hx => ?_)
  obtain ⟨rfl, rfl⟩ := hx
  obtain ⟨V1, V2⟩ := V
  refine rs_if_eqB (tgt := 19) dX11_cellOf_4 (by decide) (fun hc => ?_) (fun hc => ?_)
  · have V := V1 hc
    refine rj_aload_n dX11_cellOf_19 0 rfl rfl ?_
    refine rj_ldc (v := (-1000001)) rfl kc_RX11_40 dX11_cellOf_20 ?_
    refine rm_callVi [.int (-1000001)] (rest := []) ml_RX11_94 mvX11_finds rfl dX11_cellOf_22 rfl rfl rfl rfl rfl (Nat.le_of_ble_eq_true rfl) (by decide) V (fun r1 M1 V => ?_)
    exact rm_iret dX11_cellOf_25 rfl rfl V
  · have V := V2 hc
    refine rj_iload_n dX11_cellOf_7 2 rfl rfl ?_
    refine rj_i2l dX11_cellOf_8 ?_
    refine rj_lconst (v := 0) dX11_cellOf_9 (by decide) ?_
    refine rj_ldc2 (v := 3) rfl kl_RX11_92 dX11_cellOf_10 ?_
    refine rm_callSi [.long (Int32.toInt64 a1), .long 0, .long 3] (rest := []) (K := fun x M' => b2i ((0 : Int32) ≤ a1 ∧ a1 ≤ (3 : Int32)) = x ∧ M = M') ml_RX11_43 mtX11_in rfl dX11_cellOf_13 rfl rfl (Nat.le_of_ble_eq_true rfl) (by decide) (uX11_in (a1) (0) (3) (by decide) (by decide) ⟨rfl, rfl⟩) (fun x M' hx => ?_)
    obtain ⟨rfl, rfl⟩ := hx
    obtain ⟨V1, V2⟩ := V
    refine rs_if_neB (tgt := 26) dX11_cellOf_16 (by decide) (fun hc => ?_) (fun hc => ?_)
    · have V := V1 hc
      refine rj_iload_n dX11_cellOf_26 2 rfl rfl ?_
      refine rj_iconst (v := 3) dX11_cellOf_27 (by decide) ?_
      obtain ⟨V1, V2⟩ := V
      refine rj_icmp_ge (tgt := 71) dX11_cellOf_28 (by decide) (fun hc => ?_) (fun hc => ?_)
      · have V := V1 hc
        refine rj_iconst (v := 0) dX11_cellOf_71 (by decide) ?_
        refine rj_istore_n (lv' := [(0, .ref 59), (1, .int a0), (2, .int a1), (3, .int 0)]) dX11_cellOf_72 rfl (by decide) rfl rfl ?_
        exact rs_sub [0, 1, 3] rfl V
      · have V := V2 hc
        refine rj_iload_n dX11_cellOf_31 2 rfl rfl ?_
        obtain ⟨V1, V2⟩ := V
        refine rj_if_ne (tgt := 47) dX11_cellOf_32 (by decide) (fun hc => ?_) (fun hc => ?_)
        · have V := V1 hc
          refine rj_iload_n dX11_cellOf_47 2 rfl rfl ?_
          refine rj_iconst (v := 1) dX11_cellOf_48 (by decide) ?_
          obtain ⟨V1, V2⟩ := V
          refine rj_icmp_ne (tgt := 65) dX11_cellOf_49 (by decide) (fun hc => ?_) (fun hc => ?_)
          · have V := V1 hc
            refine rj_aload_n dX11_cellOf_65 0 rfl rfl ?_
            refine rj_iload_n dX11_cellOf_66 1 rfl rfl ?_
            refine rm_callVi [.int a0] (rest := []) ml_RX11_65 mvX11_holdOf rfl dX11_cellOf_67 rfl rfl rfl rfl rfl (Nat.le_of_ble_eq_true rfl) (by decide) V (fun r1 M1 V => ?_)
            exact rm_iret dX11_cellOf_70 rfl rfl V
          · have V := V2 hc
            refine rj_aload_n dX11_cellOf_52 0 rfl rfl ?_
            refine rs_getR (t := 60) fl_RX11_9 rfl (by decide) (by decide) rfl dX11_cellOf_53 rfl (by omega) ?_
            refine rj_sipush (v := 210) dX11_cellOf_56 (by decide) ?_
            refine rj_iload_n dX11_cellOf_59 1 rfl rfl ?_
            refine rj_iadd dX11_cellOf_60 ?_
            obtain ⟨hb, V⟩ := V
            refine rs_iald dX11_cellOf_61 rfl hb ?_
            refine rj_goto (tgt := 70) dX11_cellOf_62 (by decide) ?_
            exact rm_iret dX11_cellOf_70 rfl rfl V
        · have V := V2 hc
          refine rj_aload_n dX11_cellOf_35 0 rfl rfl ?_
          refine rs_getR (t := 60) fl_RX11_9 rfl (by decide) (by decide) rfl dX11_cellOf_36 rfl (by omega) ?_
          refine rj_bipush (v := 18) dX11_cellOf_39 (by decide) ?_
          refine rj_iload_n dX11_cellOf_41 1 rfl rfl ?_
          refine rj_iadd dX11_cellOf_42 ?_
          obtain ⟨hb, V⟩ := V
          refine rs_iald dX11_cellOf_43 rfl hb ?_
          refine rj_goto (tgt := 70) dX11_cellOf_44 (by decide) ?_
          exact rm_iret dX11_cellOf_70 rfl rfl V
    · have V := V2 hc
      refine rj_aload_n dX11_cellOf_19 0 rfl rfl ?_
      refine rj_ldc (v := (-1000001)) rfl kc_RX11_40 dX11_cellOf_20 ?_
      refine rm_callVi [.int (-1000001)] (rest := []) ml_RX11_94 mvX11_finds rfl dX11_cellOf_22 rfl rfl rfl rfl rfl (Nat.le_of_ble_eq_true rfl) (by decide) V (fun r1 M1 V => ?_)
      exact rm_iret dX11_cellOf_25 rfl rfl V
set_option maxRecDepth 100000 in
set_option maxHeartbeats 4000000 in
theorem vX11_cellOf_73 {w : Wd} {h : Nat} (hh : 1 ≤ h) (v1 : Int32) (v3 : Int32)  (M : Mem) (Q : Option Value → Mem → Prop) (V : ((8 ≤ v3 → (Q (some (.int (-1))) M)) ∧ (¬ (8 ≤ v3) → (CSi w h kX11_of [.ref 59, .int v3, .int 0] M (fun r1 M1 => ((r1 < 0 → (∀ x1 : Int32, x1 = v3 + 1 → RM w (h + 1) kX11_cellOf 73 [(0, .ref 59), (1, .int v1), (3, .int x1)] [] M1 Q)) ∧ (¬ (r1 < 0) → (CSi w h kX11_of [.ref 59, .int v3, .int 1] M1 (fun r2 M2 => ((¬ (r2 = v1) → (∀ x1 : Int32, x1 = v3 + 1 → RM w (h + 1) kX11_cellOf 73 [(0, .ref 59), (1, .int v1), (3, .int x1)] [] M2 Q)) ∧ (r2 = v1 → (Q (some (.int v3)) M2)))))))))))) : RM w (h + 1) kX11_cellOf 73 [(0, .ref 59), (1, .int v1), (3, .int v3)] [] M Q := by
  refine rj_iload_n dX11_cellOf_73 2 rfl rfl ?_
  refine rj_bipush (v := 8) dX11_cellOf_74 (by decide) ?_
  obtain ⟨V1, V2⟩ := V
  refine rj_icmp_ge (tgt := 106) dX11_cellOf_76 (by decide) (fun hc => ?_) (fun hc => ?_)
  · have V := V1 hc
    refine rj_iconst (v := (-1)) dX11_cellOf_106 (by decide) ?_
    exact rm_iret dX11_cellOf_107 rfl rfl V
  · have V := V2 hc
    refine rj_aload_n dX11_cellOf_79 0 rfl rfl ?_
    refine rj_iload_n dX11_cellOf_80 2 rfl rfl ?_
    refine rj_iconst (v := 0) dX11_cellOf_81 (by decide) ?_
    refine rm_callVi [.int v3, .int 0] (rest := []) ml_RX11_53 mvX11_of rfl dX11_cellOf_82 rfl rfl rfl rfl rfl (Nat.le_of_ble_eq_true rfl) (by decide) V (fun r1 M1 V => ?_)
    obtain ⟨V1, V2⟩ := V
    refine rj_if_lt (tgt := 100) dX11_cellOf_85 (by decide) (fun hc => ?_) (fun hc => ?_)
    · have V := V1 hc
      refine rj_iincV (c := 1) (fun y => [(0, .ref 59), (1, .int v1), (3, .int y)]) dX11_cellOf_100 2 rfl (by decide) (by decide) rfl (fun _ => rfl) (fun x1 ex1 => ?_)
      have V := V x1 ex1
      refine rj_goto (tgt := 73) dX11_cellOf_103 (by decide) ?_
      exact rs_sub [0, 1, 2] rfl V
    · have V := V2 hc
      refine rj_aload_n dX11_cellOf_88 0 rfl rfl ?_
      refine rj_iload_n dX11_cellOf_89 2 rfl rfl ?_
      refine rj_iconst (v := 1) dX11_cellOf_90 (by decide) ?_
      refine rm_callVi [.int v3, .int 1] (rest := []) ml_RX11_53 mvX11_of rfl dX11_cellOf_91 rfl rfl rfl rfl rfl (Nat.le_of_ble_eq_true rfl) (by decide) V (fun r2 M2 V => ?_)
      refine rj_iload_n dX11_cellOf_94 1 rfl rfl ?_
      obtain ⟨V1, V2⟩ := V
      refine rj_icmp_ne (tgt := 100) dX11_cellOf_95 (by decide) (fun hc => ?_) (fun hc => ?_)
      · have V := V1 hc
        refine rj_iincV (c := 1) (fun y => [(0, .ref 59), (1, .int v1), (3, .int y)]) dX11_cellOf_100 2 rfl (by decide) (by decide) rfl (fun _ => rfl) (fun x1 ex1 => ?_)
        have V := V x1 ex1
        refine rj_goto (tgt := 73) dX11_cellOf_103 (by decide) ?_
        exact rs_sub [0, 1, 2] rfl V
      · have V := V2 hc
        refine rj_iload_n dX11_cellOf_98 2 rfl rfl ?_
        exact rm_iret dX11_cellOf_99 rfl rfl V
-- X11_dirt
set_option maxRecDepth 100000 in
set_option maxHeartbeats 4000000 in
theorem vX11_dirt_0 {w : Wd} {h : Nat} (hh : 1 ≤ h) (a0 : Int32) (a1 : Int32)  (M : Mem) (Q : Option Value → Mem → Prop) (V : ((¬ ((0 ≤ a0 ∧ a0 ≤ 191)) → (CSi w h kX11_finds [.ref 59, .int (-1000001)] M (fun r1 M1 => (Q (some (.int r1)) M1)))) ∧ ((0 ≤ a0 ∧ a0 ≤ 191) → ((¬ (((0 : Int32) ≤ a1 ∧ a1 ≤ (9 : Int32))) → (CSi w h kX11_finds [.ref 59, .int (-1000001)] M (fun r1 M1 => (Q (some (.int r1)) M1)))) ∧ (((0 : Int32) ≤ a1 ∧ a1 ≤ (9 : Int32)) → (CSi w h kX11_becomes [.ref 59, .int (18 + a0), .int a1] M (fun r1 M1 => (Q (some (.int r1)) M1)))))))) : RM w (h + 1) kX11_dirt 0 [(0, .ref 59), (1, .int a0), (2, .int a1)] [] M Q := by
  refine rj_iload_n dX11_dirt_0 1 rfl rfl ?_
  refine rm_callSi [.int a0] (rest := []) (K := fun x M' => b2i (0 ≤ a0 ∧ a0 ≤ 191) = x ∧ M = M') ml_RX11_88 mtX11_isCell rfl dX11_dirt_1 rfl rfl (Nat.le_of_ble_eq_true rfl) (by decide) (uX11_isCell (by omega) ⟨rfl, rfl⟩) (fun x M' hx => ?_)
  obtain ⟨rfl, rfl⟩ := hx
  obtain ⟨V1, V2⟩ := V
  refine rs_if_eqB (tgt := 31) dX11_dirt_4 (by decide) (fun hc => ?_) (fun hc => ?_)
  · have V := V1 hc
    refine rj_aload_n dX11_dirt_31 0 rfl rfl ?_
    refine rj_ldc (v := (-1000001)) rfl kc_RX11_40 dX11_dirt_32 ?_
    refine rm_callVi [.int (-1000001)] (rest := []) ml_RX11_94 mvX11_finds rfl dX11_dirt_34 rfl rfl rfl rfl rfl (Nat.le_of_ble_eq_true rfl) (by decide) V (fun r1 M1 V => ?_)
    exact rm_iret dX11_dirt_37 rfl rfl V
  · have V := V2 hc
    refine rj_iload_n dX11_dirt_7 2 rfl rfl ?_
    refine rj_i2l dX11_dirt_8 ?_
    refine rj_lconst (v := 0) dX11_dirt_9 (by decide) ?_
    refine rj_ldc2 (v := 9) rfl kl_RX11_97 dX11_dirt_10 ?_
    refine rm_callSi [.long (Int32.toInt64 a1), .long 0, .long 9] (rest := []) (K := fun x M' => b2i ((0 : Int32) ≤ a1 ∧ a1 ≤ (9 : Int32)) = x ∧ M = M') ml_RX11_43 mtX11_in rfl dX11_dirt_13 rfl rfl (Nat.le_of_ble_eq_true rfl) (by decide) (uX11_in (a1) (0) (9) (by decide) (by decide) ⟨rfl, rfl⟩) (fun x M' hx => ?_)
    obtain ⟨rfl, rfl⟩ := hx
    obtain ⟨V1, V2⟩ := V
    refine rs_if_eqB (tgt := 31) dX11_dirt_16 (by decide) (fun hc => ?_) (fun hc => ?_)
    · have V := V1 hc
      refine rj_aload_n dX11_dirt_31 0 rfl rfl ?_
      refine rj_ldc (v := (-1000001)) rfl kc_RX11_40 dX11_dirt_32 ?_
      refine rm_callVi [.int (-1000001)] (rest := []) ml_RX11_94 mvX11_finds rfl dX11_dirt_34 rfl rfl rfl rfl rfl (Nat.le_of_ble_eq_true rfl) (by decide) V (fun r1 M1 V => ?_)
      exact rm_iret dX11_dirt_37 rfl rfl V
    · have V := V2 hc
      refine rj_aload_n dX11_dirt_19 0 rfl rfl ?_
      refine rj_bipush (v := 18) dX11_dirt_20 (by decide) ?_
      refine rj_iload_n dX11_dirt_22 1 rfl rfl ?_
      refine rj_iadd dX11_dirt_23 ?_
      refine rj_iload_n dX11_dirt_24 2 rfl rfl ?_
      refine rm_callVi [.int (18 + a0), .int a1] (rest := []) ml_RX11_99 mvX11_becomes rfl dX11_dirt_25 rfl rfl rfl rfl rfl (Nat.le_of_ble_eq_true rfl) (by decide) V (fun r1 M1 V => ?_)
      refine rj_goto (tgt := 37) dX11_dirt_28 (by decide) ?_
      exact rm_iret dX11_dirt_37 rfl rfl V
-- X11_set
set_option maxRecDepth 100000 in
set_option maxHeartbeats 4000000 in
theorem vX11_set_0 {w : Wd} {h : Nat} (a0 : Int32) (a1 : Int32)  (M : Mem) (Q : Option Value → Mem → Prop) (V : ((¬ (((0 : Int32) ≤ a0 ∧ a0 ≤ (2 : Int32))) → (CSi w h kX11_finds [.ref 59, .int (-1000001)] M (fun r1 M1 => (Q (some (.int r1)) M1)))) ∧ (((0 : Int32) ≤ a0 ∧ a0 ≤ (2 : Int32)) → ((¬ (a0 = 1) → ((¬ (a0 = 1) → ((((0 : Int32) ≤ a1 ∧ a1 ≤ (9 : Int32)) → (CSi w h kX11_becomes [.ref 59, .int (0 + a0), .int a1] M (fun r1 M1 => (Q (some (.int r1)) M1)))) ∧ (¬ (((0 : Int32) ≤ a1 ∧ a1 ≤ (9 : Int32))) → (CSi w h kX11_finds [.ref 59, .int (-1000001)] M (fun r1 M1 => (Q (some (.int r1)) M1)))))) ∧ (a0 = 1 → ((((0 : Int32) ≤ a1 ∧ a1 ≤ (20 : Int32)) → (CSi w h kX11_becomes [.ref 59, .int (0 + a0), .int a1] M (fun r1 M1 => (Q (some (.int r1)) M1)))) ∧ (¬ (((0 : Int32) ≤ a1 ∧ a1 ≤ (20 : Int32))) → (CSi w h kX11_finds [.ref 59, .int (-1000001)] M (fun r1 M1 => (Q (some (.int r1)) M1)))))))) ∧ (a0 = 1 → ((¬ (a0 = 1) → (((((-20) : Int32) ≤ a1 ∧ a1 ≤ (9 : Int32)) → (CSi w h kX11_becomes [.ref 59, .int (0 + a0), .int a1] M (fun r1 M1 => (Q (some (.int r1)) M1)))) ∧ (¬ ((((-20) : Int32) ≤ a1 ∧ a1 ≤ (9 : Int32))) → (CSi w h kX11_finds [.ref 59, .int (-1000001)] M (fun r1 M1 => (Q (some (.int r1)) M1)))))) ∧ (a0 = 1 → (((((-20) : Int32) ≤ a1 ∧ a1 ≤ (20 : Int32)) → (CSi w h kX11_becomes [.ref 59, .int (0 + a0), .int a1] M (fun r1 M1 => (Q (some (.int r1)) M1)))) ∧ (¬ ((((-20) : Int32) ≤ a1 ∧ a1 ≤ (20 : Int32))) → (CSi w h kX11_finds [.ref 59, .int (-1000001)] M (fun r1 M1 => (Q (some (.int r1)) M1)))))))))))) : RM w (h + 1) kX11_set 0 [(0, .ref 59), (1, .int a0), (2, .int a1)] [] M Q := by
  refine rj_iload_n dX11_set_0 1 rfl rfl ?_
  refine rj_i2l dX11_set_1 ?_
  refine rj_lconst (v := 0) dX11_set_2 (by decide) ?_
  refine rj_ldc2 (v := 2) rfl kl_RX11_102 dX11_set_3 ?_
  refine rm_callSi [.long (Int32.toInt64 a0), .long 0, .long 2] (rest := []) (K := fun x M' => b2i ((0 : Int32) ≤ a0 ∧ a0 ≤ (2 : Int32)) = x ∧ M = M') ml_RX11_43 mtX11_in rfl dX11_set_6 rfl rfl (Nat.le_of_ble_eq_true rfl) (by decide) (uX11_in (a0) (0) (2) (by decide) (by decide) ⟨rfl, rfl⟩) (fun x M' hx => ?_)
  obtain ⟨rfl, rfl⟩ := hx
  obtain ⟨V1, V2⟩ := V
  refine rs_if_eqB (tgt := 46) dX11_set_9 (by decide) (fun hc => ?_) (fun hc => ?_)
  · have V := V1 hc
    refine rj_aload_n dX11_set_46 0 rfl rfl ?_
    refine rj_ldc (v := (-1000001)) rfl kc_RX11_40 dX11_set_47 ?_
    refine rm_callVi [.int (-1000001)] (rest := []) ml_RX11_94 mvX11_finds rfl dX11_set_49 rfl rfl rfl rfl rfl (Nat.le_of_ble_eq_true rfl) (by decide) V (fun r1 M1 V => ?_)
    exact rm_iret dX11_set_52 rfl rfl V
  · have V := V2 hc
    refine rj_iload_n dX11_set_12 2 rfl rfl ?_
    refine rj_i2l dX11_set_13 ?_
    refine rj_iload_n dX11_set_14 1 rfl rfl ?_
    refine rj_iconst (v := 1) dX11_set_15 (by decide) ?_
    obtain ⟨V1, V2⟩ := V
    refine rj_icmp_ne (tgt := 25) dX11_set_16 (by decide) (fun hc => ?_) (fun hc => ?_)
    · have V := V1 hc
      refine rj_lconst (v := 0) dX11_set_25 (by decide) ?_
      refine rj_iload_n dX11_set_26 1 rfl rfl ?_
      refine rj_iconst (v := 1) dX11_set_27 (by decide) ?_
      obtain ⟨V1, V2⟩ := V
      refine rj_icmp_ne (tgt := 37) dX11_set_28 (by decide) (fun hc => ?_) (fun hc => ?_)
      · have V := V1 hc
        refine rj_ldc2 (v := 9) rfl kl_RX11_97 dX11_set_37 ?_
        refine rm_callSi [.long (Int32.toInt64 a1), .long 0, .long 9] (rest := []) (K := fun x M' => b2i ((0 : Int32) ≤ a1 ∧ a1 ≤ (9 : Int32)) = x ∧ M = M') ml_RX11_43 mtX11_in rfl dX11_set_40 rfl rfl (Nat.le_of_ble_eq_true rfl) (by decide) (uX11_in (a1) (0) (9) (by decide) (by decide) ⟨rfl, rfl⟩) (fun x M' hx => ?_)
        obtain ⟨rfl, rfl⟩ := hx
        obtain ⟨V1, V2⟩ := V
        refine rs_if_neB (tgt := 53) dX11_set_43 (by decide) (fun hc => ?_) (fun hc => ?_)
        · have V := V1 hc
          refine rj_aload_n dX11_set_53 0 rfl rfl ?_
          refine rj_iconst (v := 0) dX11_set_54 (by decide) ?_
          refine rj_iload_n dX11_set_55 1 rfl rfl ?_
          refine rj_iadd dX11_set_56 ?_
          refine rj_iload_n dX11_set_57 2 rfl rfl ?_
          refine rm_callVi [.int (0 + a0), .int a1] (rest := []) ml_RX11_99 mvX11_becomes rfl dX11_set_58 rfl rfl rfl rfl rfl (Nat.le_of_ble_eq_true rfl) (by decide) V (fun r1 M1 V => ?_)
          exact rm_iret dX11_set_61 rfl rfl V
        · have V := V2 hc
          refine rj_aload_n dX11_set_46 0 rfl rfl ?_
          refine rj_ldc (v := (-1000001)) rfl kc_RX11_40 dX11_set_47 ?_
          refine rm_callVi [.int (-1000001)] (rest := []) ml_RX11_94 mvX11_finds rfl dX11_set_49 rfl rfl rfl rfl rfl (Nat.le_of_ble_eq_true rfl) (by decide) V (fun r1 M1 V => ?_)
          exact rm_iret dX11_set_52 rfl rfl V
      · have V := V2 hc
        refine rj_ldc2 (v := 20) rfl kl_RX11_106 dX11_set_31 ?_
        refine rj_goto (tgt := 40) dX11_set_34 (by decide) ?_
        refine rm_callSi [.long (Int32.toInt64 a1), .long 0, .long 20] (rest := []) (K := fun x M' => b2i ((0 : Int32) ≤ a1 ∧ a1 ≤ (20 : Int32)) = x ∧ M = M') ml_RX11_43 mtX11_in rfl dX11_set_40 rfl rfl (Nat.le_of_ble_eq_true rfl) (by decide) (uX11_in (a1) (0) (20) (by decide) (by decide) ⟨rfl, rfl⟩) (fun x M' hx => ?_)
        obtain ⟨rfl, rfl⟩ := hx
        obtain ⟨V1, V2⟩ := V
        refine rs_if_neB (tgt := 53) dX11_set_43 (by decide) (fun hc => ?_) (fun hc => ?_)
        · have V := V1 hc
          refine rj_aload_n dX11_set_53 0 rfl rfl ?_
          refine rj_iconst (v := 0) dX11_set_54 (by decide) ?_
          refine rj_iload_n dX11_set_55 1 rfl rfl ?_
          refine rj_iadd dX11_set_56 ?_
          refine rj_iload_n dX11_set_57 2 rfl rfl ?_
          refine rm_callVi [.int (0 + a0), .int a1] (rest := []) ml_RX11_99 mvX11_becomes rfl dX11_set_58 rfl rfl rfl rfl rfl (Nat.le_of_ble_eq_true rfl) (by decide) V (fun r1 M1 V => ?_)
          exact rm_iret dX11_set_61 rfl rfl V
        · have V := V2 hc
          refine rj_aload_n dX11_set_46 0 rfl rfl ?_
          refine rj_ldc (v := (-1000001)) rfl kc_RX11_40 dX11_set_47 ?_
          refine rm_callVi [.int (-1000001)] (rest := []) ml_RX11_94 mvX11_finds rfl dX11_set_49 rfl rfl rfl rfl rfl (Nat.le_of_ble_eq_true rfl) (by decide) V (fun r1 M1 V => ?_)
          exact rm_iret dX11_set_52 rfl rfl V
    · have V := V2 hc
      refine rj_ldc2 (v := (-20)) rfl kl_RX11_104 dX11_set_19 ?_
      refine rj_goto (tgt := 26) dX11_set_22 (by decide) ?_
      refine rj_iload_n dX11_set_26 1 rfl rfl ?_
      refine rj_iconst (v := 1) dX11_set_27 (by decide) ?_
      obtain ⟨V1, V2⟩ := V
      refine rj_icmp_ne (tgt := 37) dX11_set_28 (by decide) (fun hc => ?_) (fun hc => ?_)
      · have V := V1 hc
        refine rj_ldc2 (v := 9) rfl kl_RX11_97 dX11_set_37 ?_
        refine rm_callSi [.long (Int32.toInt64 a1), .long (-20), .long 9] (rest := []) (K := fun x M' => b2i (((-20) : Int32) ≤ a1 ∧ a1 ≤ (9 : Int32)) = x ∧ M = M') ml_RX11_43 mtX11_in rfl dX11_set_40 rfl rfl (Nat.le_of_ble_eq_true rfl) (by decide) (uX11_in (a1) ((-20)) (9) (by decide) (by decide) ⟨rfl, rfl⟩) (fun x M' hx => ?_)
        obtain ⟨rfl, rfl⟩ := hx
        obtain ⟨V1, V2⟩ := V
        refine rs_if_neB (tgt := 53) dX11_set_43 (by decide) (fun hc => ?_) (fun hc => ?_)
        · have V := V1 hc
          refine rj_aload_n dX11_set_53 0 rfl rfl ?_
          refine rj_iconst (v := 0) dX11_set_54 (by decide) ?_
          refine rj_iload_n dX11_set_55 1 rfl rfl ?_
          refine rj_iadd dX11_set_56 ?_
          refine rj_iload_n dX11_set_57 2 rfl rfl ?_
          refine rm_callVi [.int (0 + a0), .int a1] (rest := []) ml_RX11_99 mvX11_becomes rfl dX11_set_58 rfl rfl rfl rfl rfl (Nat.le_of_ble_eq_true rfl) (by decide) V (fun r1 M1 V => ?_)
          exact rm_iret dX11_set_61 rfl rfl V
        · have V := V2 hc
          refine rj_aload_n dX11_set_46 0 rfl rfl ?_
          refine rj_ldc (v := (-1000001)) rfl kc_RX11_40 dX11_set_47 ?_
          refine rm_callVi [.int (-1000001)] (rest := []) ml_RX11_94 mvX11_finds rfl dX11_set_49 rfl rfl rfl rfl rfl (Nat.le_of_ble_eq_true rfl) (by decide) V (fun r1 M1 V => ?_)
          exact rm_iret dX11_set_52 rfl rfl V
      · have V := V2 hc
        refine rj_ldc2 (v := 20) rfl kl_RX11_106 dX11_set_31 ?_
        refine rj_goto (tgt := 40) dX11_set_34 (by decide) ?_
        refine rm_callSi [.long (Int32.toInt64 a1), .long (-20), .long 20] (rest := []) (K := fun x M' => b2i (((-20) : Int32) ≤ a1 ∧ a1 ≤ (20 : Int32)) = x ∧ M = M') ml_RX11_43 mtX11_in rfl dX11_set_40 rfl rfl (Nat.le_of_ble_eq_true rfl) (by decide) (uX11_in (a1) ((-20)) (20) (by decide) (by decide) ⟨rfl, rfl⟩) (fun x M' hx => ?_)
        obtain ⟨rfl, rfl⟩ := hx
        obtain ⟨V1, V2⟩ := V
        refine rs_if_neB (tgt := 53) dX11_set_43 (by decide) (fun hc => ?_) (fun hc => ?_)
        · have V := V1 hc
          refine rj_aload_n dX11_set_53 0 rfl rfl ?_
          refine rj_iconst (v := 0) dX11_set_54 (by decide) ?_
          refine rj_iload_n dX11_set_55 1 rfl rfl ?_
          refine rj_iadd dX11_set_56 ?_
          refine rj_iload_n dX11_set_57 2 rfl rfl ?_
          refine rm_callVi [.int (0 + a0), .int a1] (rest := []) ml_RX11_99 mvX11_becomes rfl dX11_set_58 rfl rfl rfl rfl rfl (Nat.le_of_ble_eq_true rfl) (by decide) V (fun r1 M1 V => ?_)
          exact rm_iret dX11_set_61 rfl rfl V
        · have V := V2 hc
          refine rj_aload_n dX11_set_46 0 rfl rfl ?_
          refine rj_ldc (v := (-1000001)) rfl kc_RX11_40 dX11_set_47 ?_
          refine rm_callVi [.int (-1000001)] (rest := []) ml_RX11_94 mvX11_finds rfl dX11_set_49 rfl rfl rfl rfl rfl (Nat.le_of_ble_eq_true rfl) (by decide) V (fun r1 M1 V => ?_)
          exact rm_iret dX11_set_52 rfl rfl V
-- X11_draw
set_option maxRecDepth 100000 in
set_option maxHeartbeats 4000000 in
theorem vX11_draw_0 {w : Wd} {h : Nat}   (M : Mem) (Q : Option Value → Mem → Prop) (V : (vp_in 3 666 ∧ (vp_in 3 666 ∧ ∀ M1 : Mem, M1 = mset M 60 (Int32.toNatClampNeg 3) (((M 60 (Int32.toNatClampNeg 3)) * 1103515245) + 12345) → (vp_in 3 666 ∧ (Q (some (.int ((Int32.toUInt32 (M1 60 (Int32.toNatClampNeg 3)) >>> (Int32.toUInt32 8 &&& Int32.toUInt32 31)).toInt32))) M1))))) : RM w h kX11_draw 0 [(0, .ref 59)] [] M Q := by
  refine rj_aload_n dX11_draw_0 0 rfl rfl ?_
  refine rs_getR (t := 60) fl_RX11_9 rfl (by decide) (by decide) rfl dX11_draw_1 rfl (by omega) ?_
  refine rj_iconst (v := 3) dX11_draw_4 (by decide) ?_
  refine rj_aload_n dX11_draw_5 0 rfl rfl ?_
  refine rs_getR (t := 60) fl_RX11_9 rfl (by decide) (by decide) rfl dX11_draw_6 rfl (by omega) ?_
  refine rj_iconst (v := 3) dX11_draw_9 (by decide) ?_
  obtain ⟨hb, V⟩ := V
  refine rs_iald dX11_draw_10 rfl hb ?_
  refine rj_ldc (v := 1103515245) rfl kc_RX11_108 dX11_draw_11 ?_
  refine rj_imul dX11_draw_13 ?_
  refine rj_sipush (v := 12345) dX11_draw_14 (by decide) ?_
  refine rj_iadd dX11_draw_17 ?_
  obtain ⟨hb, V⟩ := V
  refine rs_iast dX11_draw_18 rfl hb (fun M1 eM1 => ?_)
  have V := V M1 eM1
  refine rj_aload_n dX11_draw_19 0 rfl rfl ?_
  refine rs_getR (t := 60) fl_RX11_9 rfl (by decide) (by decide) rfl dX11_draw_20 rfl (by omega) ?_
  refine rj_iconst (v := 3) dX11_draw_23 (by decide) ?_
  obtain ⟨hb, V⟩ := V
  refine rs_iald dX11_draw_24 rfl hb ?_
  refine rj_bipush (v := 8) dX11_draw_25 (by decide) ?_
  refine rj_iushr dX11_draw_27 ?_
  exact rm_iret dX11_draw_28 rfl rfl V
-- X11_dirty
set_option maxRecDepth 100000 in
set_option maxHeartbeats 4000000 in
theorem vX11_dirty_0 {w : Wd} {h : Nat}   (M : Mem) (Q : Option Value → Mem → Prop) (V : RM w h kX11_dirty 4 [(0, .ref 59), (1, .int 0), (2, .int 0)] [] M Q) : RM w h kX11_dirty 0 [(0, .ref 59)] [] M Q := by
  refine rj_iconst (v := 0) dX11_dirty_0 (by decide) ?_
  refine rj_istore_n (lv' := [(0, .ref 59), (1, .int 0)]) dX11_dirty_1 rfl (by decide) rfl rfl ?_
  refine rj_iconst (v := 0) dX11_dirty_2 (by decide) ?_
  refine rj_istore_n (lv' := [(0, .ref 59), (1, .int 0), (2, .int 0)]) dX11_dirty_3 rfl (by decide) rfl rfl ?_
  exact rs_sub [0, 1, 2] rfl V
set_option maxRecDepth 100000 in
set_option maxHeartbeats 4000000 in
theorem vX11_dirty_4 {w : Wd} {h : Nat} (v1 : Int32) (v2 : Int32)  (M : Mem) (Q : Option Value → Mem → Prop) (V : ((192 ≤ v2 → (Q (some (.int v1)) M)) ∧ (¬ (192 ≤ v2) → (vp_in (18 + v2) 666 ∧ (∀ x1 : Int32, x1 = (v1 + (b2i (¬ ((M 60 (Int32.toNatClampNeg (18 + v2))) ≤ 0)))) → (∀ x2 : Int32, x2 = v2 + 1 → RM w h kX11_dirty 4 [(0, .ref 59), (1, .int x1), (2, .int x2)] [] M Q)))))) : RM w h kX11_dirty 4 [(0, .ref 59), (1, .int v1), (2, .int v2)] [] M Q := by
  refine rj_iload_n dX11_dirty_4 2 rfl rfl ?_
  refine rj_sipush (v := 192) dX11_dirty_5 (by decide) ?_
  obtain ⟨V1, V2⟩ := V
  refine rj_icmp_ge (tgt := 37) dX11_dirty_8 (by decide) (fun hc => ?_) (fun hc => ?_)
  · have V := V1 hc
    refine rj_iload_n dX11_dirty_37 1 rfl rfl ?_
    exact rm_iret dX11_dirty_38 rfl rfl V
  · have V := V2 hc
    refine rj_iload_n dX11_dirty_11 1 rfl rfl ?_
    refine rj_aload_n dX11_dirty_12 0 rfl rfl ?_
    refine rs_getR (t := 60) fl_RX11_9 rfl (by decide) (by decide) rfl dX11_dirty_13 rfl (by omega) ?_
    refine rj_bipush (v := 18) dX11_dirty_16 (by decide) ?_
    refine rj_iload_n dX11_dirty_18 2 rfl rfl ?_
    refine rj_iadd dX11_dirty_19 ?_
    obtain ⟨hb, V⟩ := V
    refine rs_iald dX11_dirty_20 rfl hb ?_
    have KD : RM w h kX11_dirty 29 [(0, .ref 59), (1, .int v1), (2, .int v2)] [.int (b2i (¬ ((M 60 (Int32.toNatClampNeg (18 + v2))) ≤ 0))), .int v1] M Q := by
      refine rj_iadd dX11_dirty_29 ?_
      refine rj_top (fun x1 ex1 => ?_)
      have V := V x1 ex1
      refine rj_istore_n (lv' := [(0, .ref 59), (1, .int x1), (2, .int v2)]) dX11_dirty_30 rfl (by decide) rfl rfl ?_
      refine rj_iincV (c := 1) (fun y => [(0, .ref 59), (1, .int x1), (2, .int y)]) dX11_dirty_31 2 rfl (by decide) (by decide) rfl (fun _ => rfl) (fun x2 ex2 => ?_)
      have V := V x2 ex2
      refine rj_goto (tgt := 4) dX11_dirty_34 (by decide) ?_
      exact rs_sub [0, 1, 2] rfl V
    refine rj_if_le (tgt := 28) dX11_dirty_21 (by decide) (fun hc => ?_) (fun hc => ?_)
    · refine rj_iconst (v := 0) dX11_dirty_28 (by decide) ?_
      exact rs_b0 (fun q => q hc) KD
    · refine rj_iconst (v := 1) dX11_dirty_24 (by decide) ?_
      refine rj_goto (tgt := 29) dX11_dirty_25 (by decide) ?_
      exact rs_b1 hc KD
-- X11_scatter
set_option maxRecDepth 100000 in
set_option maxHeartbeats 4000000 in
theorem vX11_scatter_0 {w : Wd} {h : Nat} (a0 : Int32)  (M : Mem) (Q : Option Value → Mem → Prop) (V : ((((1 : Int32) ≤ a0 ∧ a0 ≤ (60 : Int32)) → RM w (h + 1) kX11_scatter 21 [(0, .ref 59), (1, .int a0), (2, .int 0)] [] M Q) ∧ (¬ (((1 : Int32) ≤ a0 ∧ a0 ≤ (60 : Int32))) → (CSi w h kX11_finds [.ref 59, .int (-1000001)] M (fun r1 M1 => (Q (some (.int r1)) M1)))))) : RM w (h + 1) kX11_scatter 0 [(0, .ref 59), (1, .int a0)] [] M Q := by
  refine rj_iload_n dX11_scatter_0 1 rfl rfl ?_
  refine rj_i2l dX11_scatter_1 ?_
  refine rj_lconst (v := 1) dX11_scatter_2 (by decide) ?_
  refine rj_ldc2 (v := 60) rfl kl_RX11_109 dX11_scatter_3 ?_
  refine rm_callSi [.long (Int32.toInt64 a0), .long 1, .long 60] (rest := []) (K := fun x M' => b2i ((1 : Int32) ≤ a0 ∧ a0 ≤ (60 : Int32)) = x ∧ M = M') ml_RX11_43 mtX11_in rfl dX11_scatter_6 rfl rfl (Nat.le_of_ble_eq_true rfl) (by decide) (uX11_in (a0) (1) (60) (by decide) (by decide) ⟨rfl, rfl⟩) (fun x M' hx => ?_)
  obtain ⟨rfl, rfl⟩ := hx
  obtain ⟨V1, V2⟩ := V
  refine rs_if_neB (tgt := 19) dX11_scatter_9 (by decide) (fun hc => ?_) (fun hc => ?_)
  · have V := V1 hc
    refine rj_iconst (v := 0) dX11_scatter_19 (by decide) ?_
    refine rj_istore_n (lv' := [(0, .ref 59), (1, .int a0), (2, .int 0)]) dX11_scatter_20 rfl (by decide) rfl rfl ?_
    exact rs_sub [0, 1, 2] rfl V
  · have V := V2 hc
    refine rj_aload_n dX11_scatter_12 0 rfl rfl ?_
    refine rj_ldc (v := (-1000001)) rfl kc_RX11_40 dX11_scatter_13 ?_
    refine rm_callVi [.int (-1000001)] (rest := []) ml_RX11_94 mvX11_finds rfl dX11_scatter_15 rfl rfl rfl rfl rfl (Nat.le_of_ble_eq_true rfl) (by decide) V (fun r1 M1 V => ?_)
    exact rm_iret dX11_scatter_18 rfl rfl V
set_option maxRecDepth 100000 in
set_option maxHeartbeats 4000000 in
theorem vX11_scatter_21 {w : Wd} {h : Nat} (v1 : Int32) (v2 : Int32)  (M : Mem) (Q : Option Value → Mem → Prop) (V : ((v1 ≤ v2 → (CSi w h kX11_dirty [.ref 59] M (fun r1 M1 => (Q (some (.int r1)) M1)))) ∧ (¬ (v1 ≤ v2) → (CSi w h kX11_draw [.ref 59] M (fun r1 M1 => (∀ x1 : Int32, x1 = (r1 - r1 / 192 * 192) → (CSi w h kX11_draw [.ref 59] M1 (fun r2 M2 => (vp_in (18 + x1) 666 ∧ ∀ M3 : Mem, M3 = mset M2 60 (Int32.toNatClampNeg (18 + x1)) (r2 - r2 / 10 * 10) → (∀ x2 : Int32, x2 = v2 + 1 → RM w (h + 1) kX11_scatter 21 [(0, .ref 59), (1, .int v1), (2, .int x2)] [] M3 Q)))))))))) : RM w (h + 1) kX11_scatter 21 [(0, .ref 59), (1, .int v1), (2, .int v2)] [] M Q := by
  refine rj_iload_n dX11_scatter_21 2 rfl rfl ?_
  refine rj_iload_n dX11_scatter_22 1 rfl rfl ?_
  obtain ⟨V1, V2⟩ := V
  refine rj_icmp_ge (tgt := 57) dX11_scatter_23 (by decide) (fun hc => ?_) (fun hc => ?_)
  · have V := V1 hc
    refine rj_aload_n dX11_scatter_57 0 rfl rfl ?_
    refine rm_callVi [] (rest := []) ml_RX11_115 mvX11_dirty rfl dX11_scatter_58 rfl rfl rfl rfl rfl (Nat.le_of_ble_eq_true rfl) (by decide) V (fun r1 M1 V => ?_)
    exact rm_iret dX11_scatter_61 rfl rfl V
  · have V := V2 hc
    refine rj_aload_n dX11_scatter_26 0 rfl rfl ?_
    refine rm_callVi [] (rest := []) ml_RX11_111 mvX11_draw rfl dX11_scatter_27 rfl rfl rfl rfl rfl (Nat.le_of_ble_eq_true rfl) (by decide) V (fun r1 M1 V => ?_)
    refine rj_sipush (v := 192) dX11_scatter_30 (by decide) ?_
    refine rj_irem dX11_scatter_33 (by decide) ?_
    refine rj_top (fun x1 ex1 => ?_)
    have V := V x1 ex1
    refine rj_istore_n (lv' := [(0, .ref 59), (1, .int v1), (2, .int v2), (3, .int x1)]) dX11_scatter_34 rfl (by decide) rfl rfl ?_
    refine rj_aload_n dX11_scatter_35 0 rfl rfl ?_
    refine rs_getR (t := 60) fl_RX11_9 rfl (by decide) (by decide) rfl dX11_scatter_36 rfl (by omega) ?_
    refine rj_bipush (v := 18) dX11_scatter_39 (by decide) ?_
    refine rj_iload_n dX11_scatter_41 3 rfl rfl ?_
    refine rj_iadd dX11_scatter_42 ?_
    refine rj_aload_n dX11_scatter_43 0 rfl rfl ?_
    refine rm_callVi [] (rest := [.int (18 + x1), .ref 60]) ml_RX11_111 mvX11_draw rfl dX11_scatter_44 rfl rfl rfl rfl rfl (Nat.le_of_ble_eq_true rfl) (by decide) V (fun r2 M2 V => ?_)
    refine rj_bipush (v := 10) dX11_scatter_47 (by decide) ?_
    refine rj_irem dX11_scatter_49 (by decide) ?_
    obtain ⟨hb, V⟩ := V
    refine rs_iast dX11_scatter_50 rfl hb (fun M3 eM3 => ?_)
    have V := V M3 eM3
    refine rj_iincV (c := 1) (fun y => [(0, .ref 59), (1, .int v1), (2, .int y), (3, .int x1)]) dX11_scatter_51 2 rfl (by decide) (by decide) rfl (fun _ => rfl) (fun x2 ex2 => ?_)
    have V := V x2 ex2
    refine rj_goto (tgt := 21) dX11_scatter_54 (by decide) ?_
    exact rs_sub [0, 1, 2] rfl V
-- X11_clean
set_option maxRecDepth 100000 in
set_option maxHeartbeats 4000000 in
theorem vX11_clean_0 {w : Wd} {h : Nat} (a0 : Int32)  (M : Mem) (Q : Option Value → Mem → Prop) (V : ((((0 : Int32) ≤ a0 ∧ a0 ≤ (15 : Int32)) → (∀ x1 : Int32, x1 = (12 * a0) → RM w (h + 1) kX11_clean 26 [(0, .ref 59), (1, .int a0), (2, .int 0), (3, .int x1)] [] M Q)) ∧ (¬ (((0 : Int32) ≤ a0 ∧ a0 ≤ (15 : Int32))) → (CSi w h kX11_finds [.ref 59, .int (-1000001)] M (fun r1 M1 => (Q (some (.int r1)) M1)))))) : RM w (h + 1) kX11_clean 0 [(0, .ref 59), (1, .int a0)] [] M Q := by
  refine rj_iload_n dX11_clean_0 1 rfl rfl ?_
  refine rj_i2l dX11_clean_1 ?_
  refine rj_lconst (v := 0) dX11_clean_2 (by decide) ?_
  refine rj_ldc2 (v := 15) rfl kl_RX11_118 dX11_clean_3 ?_
  refine rm_callSi [.long (Int32.toInt64 a0), .long 0, .long 15] (rest := []) (K := fun x M' => b2i ((0 : Int32) ≤ a0 ∧ a0 ≤ (15 : Int32)) = x ∧ M = M') ml_RX11_43 mtX11_in rfl dX11_clean_6 rfl rfl (Nat.le_of_ble_eq_true rfl) (by decide) (uX11_in (a0) (0) (15) (by decide) (by decide) ⟨rfl, rfl⟩) (fun x M' hx => ?_)
  obtain ⟨rfl, rfl⟩ := hx
  obtain ⟨V1, V2⟩ := V
  refine rs_if_neB (tgt := 19) dX11_clean_9 (by decide) (fun hc => ?_) (fun hc => ?_)
  · have V := V1 hc
    refine rj_iconst (v := 0) dX11_clean_19 (by decide) ?_
    refine rj_istore_n (lv' := [(0, .ref 59), (1, .int a0), (2, .int 0)]) dX11_clean_20 rfl (by decide) rfl rfl ?_
    refine rj_bipush (v := 12) dX11_clean_21 (by decide) ?_
    refine rj_iload_n dX11_clean_23 1 rfl rfl ?_
    refine rj_imul dX11_clean_24 ?_
    refine rj_top (fun x1 ex1 => ?_)
    have V := V x1 ex1
    refine rj_istore_n (lv' := [(0, .ref 59), (1, .int a0), (2, .int 0), (3, .int x1)]) dX11_clean_25 rfl (by decide) rfl rfl ?_
    exact rs_sub [0, 1, 2, 3] rfl V
  · have V := V2 hc
    refine rj_aload_n dX11_clean_12 0 rfl rfl ?_
    refine rj_ldc (v := (-1000001)) rfl kc_RX11_40 dX11_clean_13 ?_
    refine rm_callVi [.int (-1000001)] (rest := []) ml_RX11_94 mvX11_finds rfl dX11_clean_15 rfl rfl rfl rfl rfl (Nat.le_of_ble_eq_true rfl) (by decide) V (fun r1 M1 V => ?_)
    exact rm_iret dX11_clean_18 rfl rfl V
set_option maxRecDepth 100000 in
set_option maxHeartbeats 4000000 in
theorem vX11_clean_26 {w : Wd} {h : Nat} (v1 : Int32) (v2 : Int32) (v3 : Int32)  (M : Mem) (Q : Option Value → Mem → Prop) (V : ((((12 * v1) + 12) ≤ v3 → (Q (some (.int v2)) M)) ∧ (¬ (((12 * v1) + 12) ≤ v3) → (vp_in (18 + v3) 666 ∧ (∀ x1 : Int32, x1 = (v2 + (b2i (¬ ((M 60 (Int32.toNatClampNeg (18 + v3))) ≤ 0)))) → (vp_in (18 + v3) 666 ∧ ∀ M1 : Mem, M1 = mset M 60 (Int32.toNatClampNeg (18 + v3)) 0 → (vp_in (210 + v3) 666 ∧ ∀ M2 : Mem, M2 = mset M1 60 (Int32.toNatClampNeg (210 + v3)) 0 → (∀ x2 : Int32, x2 = v3 + 1 → RM w (h + 1) kX11_clean 26 [(0, .ref 59), (1, .int v1), (2, .int x1), (3, .int x2)] [] M2 Q)))))))) : RM w (h + 1) kX11_clean 26 [(0, .ref 59), (1, .int v1), (2, .int v2), (3, .int v3)] [] M Q := by
  refine rj_iload_n dX11_clean_26 3 rfl rfl ?_
  refine rj_bipush (v := 12) dX11_clean_27 (by decide) ?_
  refine rj_iload_n dX11_clean_29 1 rfl rfl ?_
  refine rj_imul dX11_clean_30 ?_
  refine rj_bipush (v := 12) dX11_clean_31 (by decide) ?_
  refine rj_iadd dX11_clean_33 ?_
  obtain ⟨V1, V2⟩ := V
  refine rj_icmp_ge (tgt := 84) dX11_clean_34 (by decide) (fun hc => ?_) (fun hc => ?_)
  · have V := V1 hc
    refine rj_iload_n dX11_clean_84 2 rfl rfl ?_
    exact rm_iret dX11_clean_85 rfl rfl V
  · have V := V2 hc
    refine rj_iload_n dX11_clean_37 2 rfl rfl ?_
    refine rj_aload_n dX11_clean_38 0 rfl rfl ?_
    refine rs_getR (t := 60) fl_RX11_9 rfl (by decide) (by decide) rfl dX11_clean_39 rfl (by omega) ?_
    refine rj_bipush (v := 18) dX11_clean_42 (by decide) ?_
    refine rj_iload_n dX11_clean_44 3 rfl rfl ?_
    refine rj_iadd dX11_clean_45 ?_
    obtain ⟨hb, V⟩ := V
    refine rs_iald dX11_clean_46 rfl hb ?_
    have KD : RM w (h + 1) kX11_clean 55 [(0, .ref 59), (1, .int v1), (2, .int v2), (3, .int v3)] [.int (b2i (¬ ((M 60 (Int32.toNatClampNeg (18 + v3))) ≤ 0))), .int v2] M Q := by
      refine rj_iadd dX11_clean_55 ?_
      refine rj_top (fun x1 ex1 => ?_)
      have V := V x1 ex1
      refine rj_istore_n (lv' := [(0, .ref 59), (1, .int v1), (2, .int x1), (3, .int v3)]) dX11_clean_56 rfl (by decide) rfl rfl ?_
      refine rj_aload_n dX11_clean_57 0 rfl rfl ?_
      refine rs_getR (t := 60) fl_RX11_9 rfl (by decide) (by decide) rfl dX11_clean_58 rfl (by omega) ?_
      refine rj_bipush (v := 18) dX11_clean_61 (by decide) ?_
      refine rj_iload_n dX11_clean_63 3 rfl rfl ?_
      refine rj_iadd dX11_clean_64 ?_
      refine rj_iconst (v := 0) dX11_clean_65 (by decide) ?_
      obtain ⟨hb, V⟩ := V
      refine rs_iast dX11_clean_66 rfl hb (fun M1 eM1 => ?_)
      have V := V M1 eM1
      refine rj_aload_n dX11_clean_67 0 rfl rfl ?_
      refine rs_getR (t := 60) fl_RX11_9 rfl (by decide) (by decide) rfl dX11_clean_68 rfl (by omega) ?_
      refine rj_sipush (v := 210) dX11_clean_71 (by decide) ?_
      refine rj_iload_n dX11_clean_74 3 rfl rfl ?_
      refine rj_iadd dX11_clean_75 ?_
      refine rj_iconst (v := 0) dX11_clean_76 (by decide) ?_
      obtain ⟨hb, V⟩ := V
      refine rs_iast dX11_clean_77 rfl hb (fun M2 eM2 => ?_)
      have V := V M2 eM2
      refine rj_iincV (c := 1) (fun y => [(0, .ref 59), (1, .int v1), (2, .int x1), (3, .int y)]) dX11_clean_78 3 rfl (by decide) (by decide) rfl (fun _ => rfl) (fun x2 ex2 => ?_)
      have V := V x2 ex2
      refine rj_goto (tgt := 26) dX11_clean_81 (by decide) ?_
      exact rs_sub [0, 1, 2, 3] rfl V
    refine rj_if_le (tgt := 54) dX11_clean_47 (by decide) (fun hc => ?_) (fun hc => ?_)
    · refine rj_iconst (v := 0) dX11_clean_54 (by decide) ?_
      exact rs_b0 (fun q => q hc) KD
    · refine rj_iconst (v := 1) dX11_clean_50 (by decide) ?_
      refine rj_goto (tgt := 55) dX11_clean_51 (by decide) ?_
      exact rs_b1 hc KD
-- X11_fingers
set_option maxRecDepth 100000 in
set_option maxHeartbeats 4000000 in
theorem vX11_fingers_0 {w : Wd} {h : Nat} (a0 : Int32)  (M : Mem) (Q : Option Value → Mem → Prop) (V : RM w (h + 1) kX11_fingers 4 [(0, .ref 59), (2, .int 0), (3, .int a0)] [] M Q) : RM w (h + 1) kX11_fingers 0 [(0, .ref 59), (1, .int a0)] [] M Q := by
  refine rj_iconst (v := 0) dX11_fingers_0 (by decide) ?_
  refine rj_istore_n (lv' := [(0, .ref 59), (1, .int a0), (2, .int 0)]) dX11_fingers_1 rfl (by decide) rfl rfl ?_
  refine rj_iload_n dX11_fingers_2 1 rfl rfl ?_
  refine rj_istore_n (lv' := [(0, .ref 59), (1, .int a0), (2, .int 0), (3, .int a0)]) dX11_fingers_3 rfl (by decide) rfl rfl ?_
  exact rs_sub [0, 2, 3] rfl V
set_option maxRecDepth 100000 in
set_option maxHeartbeats 4000000 in
theorem vX11_fingers_4 {w : Wd} {h : Nat} (v2 : Int32) (v3 : Int32)  (M : Mem) (Q : Option Value → Mem → Prop) (V : ((192 ≤ v3 → (Q (some (.int v2)) M)) ∧ (¬ (192 ≤ v3) → (CSi w h kX11_becomes [.ref 59, .int (210 + v3), .int 99] M (fun r1 M1 => (∀ x1 : Int32, x1 = (v2 + (b2i (¬ (r1 = 99)))) → (∀ x2 : Int32, x2 = v3 + 12 → RM w (h + 1) kX11_fingers 4 [(0, .ref 59), (2, .int x1), (3, .int x2)] [] M1 Q))))))) : RM w (h + 1) kX11_fingers 4 [(0, .ref 59), (2, .int v2), (3, .int v3)] [] M Q := by
  refine rj_iload_n dX11_fingers_4 2 rfl rfl ?_
  refine rj_sipush (v := 192) dX11_fingers_5 (by decide) ?_
  obtain ⟨V1, V2⟩ := V
  refine rj_icmp_ge (tgt := 41) dX11_fingers_8 (by decide) (fun hc => ?_) (fun hc => ?_)
  · have V := V1 hc
    refine rj_iload_n dX11_fingers_41 1 rfl rfl ?_
    exact rm_iret dX11_fingers_42 rfl rfl V
  · have V := V2 hc
    refine rj_iload_n dX11_fingers_11 1 rfl rfl ?_
    refine rj_aload_n dX11_fingers_12 0 rfl rfl ?_
    refine rj_sipush (v := 210) dX11_fingers_13 (by decide) ?_
    refine rj_iload_n dX11_fingers_16 2 rfl rfl ?_
    refine rj_iadd dX11_fingers_17 ?_
    refine rj_bipush (v := 99) dX11_fingers_18 (by decide) ?_
    refine rm_callVi [.int (210 + v3), .int 99] (rest := [.int v2]) ml_RX11_99 mvX11_becomes rfl dX11_fingers_20 rfl rfl rfl rfl rfl (Nat.le_of_ble_eq_true rfl) (by decide) V (fun r1 M1 V => ?_)
    refine rj_bipush (v := 99) dX11_fingers_23 (by decide) ?_
    have KD : RM w (h + 1) kX11_fingers 33 [(0, .ref 59), (2, .int v2), (3, .int v3)] [.int (b2i (¬ (r1 = 99))), .int v2] M1 Q := by
      refine rj_iadd dX11_fingers_33 ?_
      refine rj_top (fun x1 ex1 => ?_)
      have V := V x1 ex1
      refine rj_istore_n (lv' := [(0, .ref 59), (2, .int x1), (3, .int v3)]) dX11_fingers_34 rfl (by decide) rfl rfl ?_
      refine rj_iincV (c := 12) (fun y => [(0, .ref 59), (2, .int x1), (3, .int y)]) dX11_fingers_35 2 rfl (by decide) (by decide) rfl (fun _ => rfl) (fun x2 ex2 => ?_)
      have V := V x2 ex2
      refine rj_goto (tgt := 4) dX11_fingers_38 (by decide) ?_
      exact rs_sub [0, 1, 2] rfl V
    refine rj_icmp_ne (tgt := 32) dX11_fingers_25 (by decide) (fun hc => ?_) (fun hc => ?_)
    · refine rj_iconst (v := 1) dX11_fingers_32 (by decide) ?_
      exact rs_b1 hc KD
    · refine rj_iconst (v := 0) dX11_fingers_28 (by decide) ?_
      refine rj_goto (tgt := 33) dX11_fingers_29 (by decide) ?_
      exact rs_b0 (fun q => q hc) KD
-- X11_finger
set_option maxRecDepth 100000 in
set_option maxHeartbeats 4000000 in
theorem vX11_finger_0 {w : Wd} {h : Nat} (hh : 1 ≤ h) (a0 : Int32)  (M : Mem) (Q : Option Value → Mem → Prop) (V : ((¬ ((0 ≤ a0 ∧ a0 ≤ 11)) → (CSi w h kX11_finds [.ref 59, .int (-1000001)] M (fun r1 M1 => (Q (some (.int r1)) M1)))) ∧ ((0 ≤ a0 ∧ a0 ≤ 11) → (CSi w h kX11_fingers [.ref 59, .int a0] M (fun r1 M1 => (Q (some (.int r1)) M1)))))) : RM w (h + 1) kX11_finger 0 [(0, .ref 59), (1, .int a0)] [] M Q := by
  refine rj_iload_n dX11_finger_0 1 rfl rfl ?_
  refine rm_callSi [.int a0] (rest := []) (K := fun x M' => b2i (0 ≤ a0 ∧ a0 ≤ 11) = x ∧ M = M') ml_RX11_120 mtX11_isColumn rfl dX11_finger_1 rfl rfl (Nat.le_of_ble_eq_true rfl) (by decide) (uX11_isColumn (by omega) ⟨rfl, rfl⟩) (fun x M' hx => ?_)
  obtain ⟨rfl, rfl⟩ := hx
  obtain ⟨V1, V2⟩ := V
  refine rs_if_eqB (tgt := 15) dX11_finger_4 (by decide) (fun hc => ?_) (fun hc => ?_)
  · have V := V1 hc
    refine rj_aload_n dX11_finger_15 0 rfl rfl ?_
    refine rj_ldc (v := (-1000001)) rfl kc_RX11_40 dX11_finger_16 ?_
    refine rm_callVi [.int (-1000001)] (rest := []) ml_RX11_94 mvX11_finds rfl dX11_finger_18 rfl rfl rfl rfl rfl (Nat.le_of_ble_eq_true rfl) (by decide) V (fun r1 M1 V => ?_)
    exact rm_iret dX11_finger_21 rfl rfl V
  · have V := V2 hc
    refine rj_aload_n dX11_finger_7 0 rfl rfl ?_
    refine rj_iload_n dX11_finger_8 1 rfl rfl ?_
    refine rm_callVi [.int a0] (rest := []) ml_RX11_123 mvX11_fingers rfl dX11_finger_9 rfl rfl rfl rfl rfl (Nat.le_of_ble_eq_true rfl) (by decide) V (fun r1 M1 V => ?_)
    refine rj_goto (tgt := 21) dX11_finger_12 (by decide) ?_
    exact rm_iret dX11_finger_21 rfl rfl V
-- X11_fades
set_option maxRecDepth 100000 in
set_option maxHeartbeats 4000000 in
theorem vX11_fades_0 {w : Wd} {h : Nat} (hh : 1 ≤ h) (a0 : Int32)  (M : Mem) (Q : Option Value → Mem → Prop) (V : (((0 ≤ a0 ∧ a0 ≤ 191) → (vp_in (210 + a0) 666 ∧ (∀ x1 : Int32, x1 = (M 60 (Int32.toNatClampNeg (210 + a0))) → ((¬ (x1 = 0) → (vp_in 2 666 ∧ ((¬ ((M 60 (Int32.toNatClampNeg 2)) = 0) → (vp_in 2 666 ∧ (vp_in 2 666 ∧ (¬ (M 60 (Int32.toNatClampNeg 2)) = 0 ∧ (Q (some (.int (((x1 + (M 60 (Int32.toNatClampNeg 2))) - 1) / (M 60 (Int32.toNatClampNeg 2))))) M))))) ∧ ((M 60 (Int32.toNatClampNeg 2)) = 0 → (CSi w h kX11_finds [.ref 59, .int (-1000004)] M (fun r1 M1 => (Q (some (.int r1)) M1))))))) ∧ (x1 = 0 → (Q (some (.int 0)) M)))))) ∧ (¬ ((0 ≤ a0 ∧ a0 ≤ 191)) → (CSi w h kX11_finds [.ref 59, .int (-1000001)] M (fun r1 M1 => (Q (some (.int r1)) M1)))))) : RM w (h + 1) kX11_fades 0 [(0, .ref 59), (1, .int a0)] [] M Q := by
  refine rj_iload_n dX11_fades_0 1 rfl rfl ?_
  refine rm_callSi [.int a0] (rest := []) (K := fun x M' => b2i (0 ≤ a0 ∧ a0 ≤ 191) = x ∧ M = M') ml_RX11_88 mtX11_isCell rfl dX11_fades_1 rfl rfl (Nat.le_of_ble_eq_true rfl) (by decide) (uX11_isCell (by omega) ⟨rfl, rfl⟩) (fun x M' hx => ?_)
  obtain ⟨rfl, rfl⟩ := hx
  obtain ⟨V1, V2⟩ := V
  refine rs_if_neB (tgt := 14) dX11_fades_4 (by decide) (fun hc => ?_) (fun hc => ?_)
  · have V := V1 hc
    refine rj_aload_n dX11_fades_14 0 rfl rfl ?_
    refine rs_getR (t := 60) fl_RX11_9 rfl (by decide) (by decide) rfl dX11_fades_15 rfl (by omega) ?_
    refine rj_sipush (v := 210) dX11_fades_18 (by decide) ?_
    refine rj_iload_n dX11_fades_21 1 rfl rfl ?_
    refine rj_iadd dX11_fades_22 ?_
    obtain ⟨hb, V⟩ := V
    refine rs_iald dX11_fades_23 rfl hb ?_
    refine rj_top (fun x1 ex1 => ?_)
    have V := V x1 ex1
    refine rj_istore_n (lv' := [(0, .ref 59), (1, .int a0), (2, .int x1)]) dX11_fades_24 rfl (by decide) rfl rfl ?_
    refine rj_iload_n dX11_fades_25 2 rfl rfl ?_
    obtain ⟨V1, V2⟩ := V
    refine rj_if_ne (tgt := 31) dX11_fades_26 (by decide) (fun hc => ?_) (fun hc => ?_)
    · have V := V1 hc
      refine rj_aload_n dX11_fades_31 0 rfl rfl ?_
      refine rs_getR (t := 60) fl_RX11_9 rfl (by decide) (by decide) rfl dX11_fades_32 rfl (by omega) ?_
      refine rj_iconst (v := 2) dX11_fades_35 (by decide) ?_
      obtain ⟨hb, V⟩ := V
      refine rs_iald dX11_fades_36 rfl hb ?_
      obtain ⟨V1, V2⟩ := V
      refine rj_if_ne (tgt := 49) dX11_fades_37 (by decide) (fun hc => ?_) (fun hc => ?_)
      · have V := V1 hc
        refine rj_iload_n dX11_fades_49 2 rfl rfl ?_
        refine rj_aload_n dX11_fades_50 0 rfl rfl ?_
        refine rs_getR (t := 60) fl_RX11_9 rfl (by decide) (by decide) rfl dX11_fades_51 rfl (by omega) ?_
        refine rj_iconst (v := 2) dX11_fades_54 (by decide) ?_
        obtain ⟨hb, V⟩ := V
        refine rs_iald dX11_fades_55 rfl hb ?_
        refine rj_iadd dX11_fades_56 ?_
        refine rj_iconst (v := 1) dX11_fades_57 (by decide) ?_
        refine rj_isub dX11_fades_58 ?_
        refine rj_aload_n dX11_fades_59 0 rfl rfl ?_
        refine rs_getR (t := 60) fl_RX11_9 rfl (by decide) (by decide) rfl dX11_fades_60 rfl (by omega) ?_
        refine rj_iconst (v := 2) dX11_fades_63 (by decide) ?_
        obtain ⟨hb, V⟩ := V
        refine rs_iald dX11_fades_64 rfl hb ?_
        obtain ⟨hz, V⟩ := V
        refine rj_idiv dX11_fades_65 hz ?_
        exact rm_iret dX11_fades_66 rfl rfl V
      · have V := V2 hc
        refine rj_aload_n dX11_fades_40 0 rfl rfl ?_
        refine rj_ldc (v := (-1000004)) rfl kc_RX11_126 dX11_fades_41 ?_
        refine rm_callVi [.int (-1000004)] (rest := []) ml_RX11_94 mvX11_finds rfl dX11_fades_43 rfl rfl rfl rfl rfl (Nat.le_of_ble_eq_true rfl) (by decide) V (fun r1 M1 V => ?_)
        refine rj_goto (tgt := 66) dX11_fades_46 (by decide) ?_
        exact rm_iret dX11_fades_66 rfl rfl V
    · have V := V2 hc
      refine rj_iconst (v := 0) dX11_fades_29 (by decide) ?_
      exact rm_iret dX11_fades_30 rfl rfl V
  · have V := V2 hc
    refine rj_aload_n dX11_fades_7 0 rfl rfl ?_
    refine rj_ldc (v := (-1000001)) rfl kc_RX11_40 dX11_fades_8 ?_
    refine rm_callVi [.int (-1000001)] (rest := []) ml_RX11_94 mvX11_finds rfl dX11_fades_10 rfl rfl rfl rfl rfl (Nat.le_of_ble_eq_true rfl) (by decide) V (fun r1 M1 V => ?_)
    exact rm_iret dX11_fades_13 rfl rfl V
-- X11_comes
set_option maxRecDepth 100000 in
set_option maxHeartbeats 4000000 in
theorem vX11_comes_0 {w : Wd} {h : Nat} (a0 : Int32) (a1 : Int32) (a2 : Int32)  (M : Mem) (Q : Option Value → Mem → Prop) (V : RM w (h + 1) kX11_comes 3 [(0, .ref 59), (1, .int a0), (2, .int a1), (3, .int a2), (4, .int 0)] [] M Q) : RM w (h + 1) kX11_comes 0 [(0, .ref 59), (1, .int a0), (2, .int a1), (3, .int a2)] [] M Q := by
  refine rj_iconst (v := 0) dX11_comes_0 (by decide) ?_
  refine rj_istore (lv' := [(0, .ref 59), (1, .int a0), (2, .int a1), (3, .int a2), (4, .int 0)]) dX11_comes_1 (by decide) rfl rfl ?_
  exact rs_sub [0, 1, 2, 3, 4] rfl V
set_option maxRecDepth 100000 in
set_option maxHeartbeats 4000000 in
theorem vX11_comes_3 {w : Wd} {h : Nat} (v1 : Int32) (v2 : Int32) (v3 : Int32) (v4 : Int32)  (M : Mem) (Q : Option Value → Mem → Prop) (V : ((8 ≤ v4 → (Q (some (.int (-1))) M)) ∧ (¬ (8 ≤ v4) → (CSi w h kX11_of [.ref 59, .int v4, .int 0] M (fun r1 M1 => ((r1 < 0 → (vp_in (402 + (4 * v4)) 666 ∧ ∀ M2 : Mem, M2 = mset M1 60 (Int32.toNatClampNeg (402 + (4 * v4))) v1 → (vp_in ((402 + (4 * v4)) + 1) 666 ∧ ∀ M3 : Mem, M3 = mset M2 60 (Int32.toNatClampNeg ((402 + (4 * v4)) + 1)) v2 → (vp_in ((402 + (4 * v4)) + 2) 666 ∧ ∀ M4 : Mem, M4 = mset M3 60 (Int32.toNatClampNeg ((402 + (4 * v4)) + 2)) v3 → (vp_in ((402 + (4 * v4)) + 3) 666 ∧ ∀ M5 : Mem, M5 = mset M4 60 (Int32.toNatClampNeg ((402 + (4 * v4)) + 3)) 0 → (vp_in (210 + v2) 666 ∧ ∀ M6 : Mem, M6 = mset M5 60 (Int32.toNatClampNeg (210 + v2)) 99 → (Q (some (.int v4)) M6))))))) ∧ (¬ (r1 < 0) → (∀ x1 : Int32, x1 = v4 + 1 → RM w (h + 1) kX11_comes 3 [(0, .ref 59), (1, .int v1), (2, .int v2), (3, .int v3), (4, .int x1)] [] M1 Q)))))))) : RM w (h + 1) kX11_comes 3 [(0, .ref 59), (1, .int v1), (2, .int v2), (3, .int v3), (4, .int v4)] [] M Q := by
  refine rj_iload dX11_comes_3 4 rfl ?_
  refine rj_bipush (v := 8) dX11_comes_5 (by decide) ?_
  obtain ⟨V1, V2⟩ := V
  refine rj_icmp_ge (tgt := 106) dX11_comes_7 (by decide) (fun hc => ?_) (fun hc => ?_)
  · have V := V1 hc
    refine rj_iconst (v := (-1)) dX11_comes_106 (by decide) ?_
    exact rm_iret dX11_comes_107 rfl rfl V
  · have V := V2 hc
    refine rj_aload_n dX11_comes_10 0 rfl rfl ?_
    refine rj_iload dX11_comes_11 4 rfl ?_
    refine rj_iconst (v := 0) dX11_comes_13 (by decide) ?_
    refine rm_callVi [.int v4, .int 0] (rest := []) ml_RX11_53 mvX11_of rfl dX11_comes_14 rfl rfl rfl rfl rfl (Nat.le_of_ble_eq_true rfl) (by decide) V (fun r1 M1 V => ?_)
    obtain ⟨V1, V2⟩ := V
    refine rj_if_lt (tgt := 23) dX11_comes_17 (by decide) (fun hc => ?_) (fun hc => ?_)
    · have V := V1 hc
      refine rj_aload_n dX11_comes_23 0 rfl rfl ?_
      refine rs_getR (t := 60) fl_RX11_9 rfl (by decide) (by decide) rfl dX11_comes_24 rfl (by omega) ?_
      refine rj_sipush (v := 402) dX11_comes_27 (by decide) ?_
      refine rj_iconst (v := 4) dX11_comes_30 (by decide) ?_
      refine rj_iload dX11_comes_31 4 rfl ?_
      refine rj_imul dX11_comes_33 ?_
      refine rj_iadd dX11_comes_34 ?_
      refine rj_iload_n dX11_comes_35 1 rfl rfl ?_
      obtain ⟨hb, V⟩ := V
      refine rs_iast dX11_comes_36 rfl hb (fun M2 eM2 => ?_)
      have V := V M2 eM2
      refine rj_aload_n dX11_comes_37 0 rfl rfl ?_
      refine rs_getR (t := 60) fl_RX11_9 rfl (by decide) (by decide) rfl dX11_comes_38 rfl (by omega) ?_
      refine rj_sipush (v := 402) dX11_comes_41 (by decide) ?_
      refine rj_iconst (v := 4) dX11_comes_44 (by decide) ?_
      refine rj_iload dX11_comes_45 4 rfl ?_
      refine rj_imul dX11_comes_47 ?_
      refine rj_iadd dX11_comes_48 ?_
      refine rj_iconst (v := 1) dX11_comes_49 (by decide) ?_
      refine rj_iadd dX11_comes_50 ?_
      refine rj_iload_n dX11_comes_51 2 rfl rfl ?_
      obtain ⟨hb, V⟩ := V
      refine rs_iast dX11_comes_52 rfl hb (fun M3 eM3 => ?_)
      have V := V M3 eM3
      refine rj_aload_n dX11_comes_53 0 rfl rfl ?_
      refine rs_getR (t := 60) fl_RX11_9 rfl (by decide) (by decide) rfl dX11_comes_54 rfl (by omega) ?_
      refine rj_sipush (v := 402) dX11_comes_57 (by decide) ?_
      refine rj_iconst (v := 4) dX11_comes_60 (by decide) ?_
      refine rj_iload dX11_comes_61 4 rfl ?_
      refine rj_imul dX11_comes_63 ?_
      refine rj_iadd dX11_comes_64 ?_
      refine rj_iconst (v := 2) dX11_comes_65 (by decide) ?_
      refine rj_iadd dX11_comes_66 ?_
      refine rj_iload_n dX11_comes_67 3 rfl rfl ?_
      obtain ⟨hb, V⟩ := V
      refine rs_iast dX11_comes_68 rfl hb (fun M4 eM4 => ?_)
      have V := V M4 eM4
      refine rj_aload_n dX11_comes_69 0 rfl rfl ?_
      refine rs_getR (t := 60) fl_RX11_9 rfl (by decide) (by decide) rfl dX11_comes_70 rfl (by omega) ?_
      refine rj_sipush (v := 402) dX11_comes_73 (by decide) ?_
      refine rj_iconst (v := 4) dX11_comes_76 (by decide) ?_
      refine rj_iload dX11_comes_77 4 rfl ?_
      refine rj_imul dX11_comes_79 ?_
      refine rj_iadd dX11_comes_80 ?_
      refine rj_iconst (v := 3) dX11_comes_81 (by decide) ?_
      refine rj_iadd dX11_comes_82 ?_
      refine rj_iconst (v := 0) dX11_comes_83 (by decide) ?_
      obtain ⟨hb, V⟩ := V
      refine rs_iast dX11_comes_84 rfl hb (fun M5 eM5 => ?_)
      have V := V M5 eM5
      refine rj_aload_n dX11_comes_85 0 rfl rfl ?_
      refine rs_getR (t := 60) fl_RX11_9 rfl (by decide) (by decide) rfl dX11_comes_86 rfl (by omega) ?_
      refine rj_sipush (v := 210) dX11_comes_89 (by decide) ?_
      refine rj_iload_n dX11_comes_92 2 rfl rfl ?_
      refine rj_iadd dX11_comes_93 ?_
      refine rj_bipush (v := 99) dX11_comes_94 (by decide) ?_
      obtain ⟨hb, V⟩ := V
      refine rs_iast dX11_comes_96 rfl hb (fun M6 eM6 => ?_)
      have V := V M6 eM6
      refine rj_iload dX11_comes_97 4 rfl ?_
      exact rm_iret dX11_comes_99 rfl rfl V
    · have V := V2 hc
      refine rj_goto (tgt := 100) dX11_comes_20 (by decide) ?_
      refine rj_iincV (c := 1) (fun y => [(0, .ref 59), (1, .int v1), (2, .int v2), (3, .int v3), (4, .int y)]) dX11_comes_100 4 rfl (by decide) (by decide) rfl (fun _ => rfl) (fun x1 ex1 => ?_)
      have V := V x1 ex1
      refine rj_goto (tgt := 3) dX11_comes_103 (by decide) ?_
      exact rs_sub [0, 1, 2, 3, 4] rfl V
-- X11_drop
set_option maxRecDepth 100000 in
set_option maxHeartbeats 4000000 in
theorem vX11_drop_0 {w : Wd} {h : Nat} (hh : 1 ≤ h) (a0 : Int32) (a1 : Int32) (a2 : Int32)  (M : Mem) (Q : Option Value → Mem → Prop) (V : ((¬ ((0 ≤ a0 ∧ a0 ≤ 7)) → (CSi w h kX11_finds [.ref 59, .int (-1000001)] M (fun r1 M1 => (Q (some (.int r1)) M1)))) ∧ ((0 ≤ a0 ∧ a0 ≤ 7) → ((¬ ((0 ≤ a1 ∧ a1 ≤ 11)) → (CSi w h kX11_finds [.ref 59, .int (-1000001)] M (fun r1 M1 => (Q (some (.int r1)) M1)))) ∧ ((0 ≤ a1 ∧ a1 ≤ 11) → (((1 ≤ a2 ∧ a2 ≤ 99) → (CSi w h kX11_comes [.ref 59, .int a0, .int a1, .int a2] M (fun r1 M1 => ((0 ≤ r1 → (Q (some (.int r1)) M1)) ∧ (¬ (0 ≤ r1) → (CSi w h kX11_finds [.ref 59, .int (-1000002)] M1 (fun r2 M2 => (Q (some (.int r2)) M2)))))))) ∧ (¬ ((1 ≤ a2 ∧ a2 ≤ 99)) → (CSi w h kX11_finds [.ref 59, .int (-1000001)] M (fun r1 M1 => (Q (some (.int r1)) M1)))))))))) : RM w (h + 1) kX11_drop 0 [(0, .ref 59), (1, .int a0), (2, .int a1), (3, .int a2)] [] M Q := by
  refine rj_iload_n dX11_drop_0 1 rfl rfl ?_
  refine rm_callSi [.int a0] (rest := []) (K := fun x M' => b2i (0 ≤ a0 ∧ a0 ≤ 7) = x ∧ M = M') ml_RX11_127 mtX11_isKind rfl dX11_drop_1 rfl rfl (Nat.le_of_ble_eq_true rfl) (by decide) (uX11_isKind (by omega) ⟨rfl, rfl⟩) (fun x M' hx => ?_)
  obtain ⟨rfl, rfl⟩ := hx
  obtain ⟨V1, V2⟩ := V
  refine rs_if_eqB (tgt := 21) dX11_drop_4 (by decide) (fun hc => ?_) (fun hc => ?_)
  · have V := V1 hc
    refine rj_aload_n dX11_drop_21 0 rfl rfl ?_
    refine rj_ldc (v := (-1000001)) rfl kc_RX11_40 dX11_drop_22 ?_
    refine rm_callVi [.int (-1000001)] (rest := []) ml_RX11_94 mvX11_finds rfl dX11_drop_24 rfl rfl rfl rfl rfl (Nat.le_of_ble_eq_true rfl) (by decide) V (fun r1 M1 V => ?_)
    exact rm_iret dX11_drop_27 rfl rfl V
  · have V := V2 hc
    refine rj_iload_n dX11_drop_7 2 rfl rfl ?_
    refine rm_callSi [.int a1] (rest := []) (K := fun x M' => b2i (0 ≤ a1 ∧ a1 ≤ 11) = x ∧ M = M') ml_RX11_120 mtX11_isColumn rfl dX11_drop_8 rfl rfl (Nat.le_of_ble_eq_true rfl) (by decide) (uX11_isColumn (by omega) ⟨rfl, rfl⟩) (fun x M' hx => ?_)
    obtain ⟨rfl, rfl⟩ := hx
    obtain ⟨V1, V2⟩ := V
    refine rs_if_eqB (tgt := 21) dX11_drop_11 (by decide) (fun hc => ?_) (fun hc => ?_)
    · have V := V1 hc
      refine rj_aload_n dX11_drop_21 0 rfl rfl ?_
      refine rj_ldc (v := (-1000001)) rfl kc_RX11_40 dX11_drop_22 ?_
      refine rm_callVi [.int (-1000001)] (rest := []) ml_RX11_94 mvX11_finds rfl dX11_drop_24 rfl rfl rfl rfl rfl (Nat.le_of_ble_eq_true rfl) (by decide) V (fun r1 M1 V => ?_)
      exact rm_iret dX11_drop_27 rfl rfl V
    · have V := V2 hc
      refine rj_iload_n dX11_drop_14 3 rfl rfl ?_
      refine rm_callSi [.int a2] (rest := []) (K := fun x M' => b2i (1 ≤ a2 ∧ a2 ≤ 99) = x ∧ M = M') ml_RX11_130 mtX11_isWater rfl dX11_drop_15 rfl rfl (Nat.le_of_ble_eq_true rfl) (by decide) (uX11_isWater (by omega) ⟨rfl, rfl⟩) (fun x M' hx => ?_)
      obtain ⟨rfl, rfl⟩ := hx
      obtain ⟨V1, V2⟩ := V
      refine rs_if_neB (tgt := 28) dX11_drop_18 (by decide) (fun hc => ?_) (fun hc => ?_)
      · have V := V1 hc
        refine rj_aload_n dX11_drop_28 0 rfl rfl ?_
        refine rj_iload_n dX11_drop_29 1 rfl rfl ?_
        refine rj_iload_n dX11_drop_30 2 rfl rfl ?_
        refine rj_iload_n dX11_drop_31 3 rfl rfl ?_
        refine rm_callVi [.int a0, .int a1, .int a2] (rest := []) ml_RX11_133 mvX11_comes rfl dX11_drop_32 rfl rfl rfl rfl rfl (Nat.le_of_ble_eq_true rfl) (by decide) V (fun r1 M1 V => ?_)
        refine rj_istore (lv' := [(0, .ref 59), (1, .int a0), (2, .int a1), (3, .int a2), (4, .int r1)]) dX11_drop_35 (by decide) rfl rfl ?_
        refine rj_iload dX11_drop_37 4 rfl ?_
        obtain ⟨V1, V2⟩ := V
        refine rj_if_ge (tgt := 51) dX11_drop_39 (by decide) (fun hc => ?_) (fun hc => ?_)
        · have V := V1 hc
          refine rj_iload dX11_drop_51 4 rfl ?_
          exact rm_iret dX11_drop_53 rfl rfl V
        · have V := V2 hc
          refine rj_aload_n dX11_drop_42 0 rfl rfl ?_
          refine rj_ldc (v := (-1000002)) rfl kc_RX11_136 dX11_drop_43 ?_
          refine rm_callVi [.int (-1000002)] (rest := []) ml_RX11_94 mvX11_finds rfl dX11_drop_45 rfl rfl rfl rfl rfl (Nat.le_of_ble_eq_true rfl) (by decide) V (fun r2 M2 V => ?_)
          refine rj_goto (tgt := 53) dX11_drop_48 (by decide) ?_
          exact rm_iret dX11_drop_53 rfl rfl V
      · have V := V2 hc
        refine rj_aload_n dX11_drop_21 0 rfl rfl ?_
        refine rj_ldc (v := (-1000001)) rfl kc_RX11_40 dX11_drop_22 ?_
        refine rm_callVi [.int (-1000001)] (rest := []) ml_RX11_94 mvX11_finds rfl dX11_drop_24 rfl rfl rfl rfl rfl (Nat.le_of_ble_eq_true rfl) (by decide) V (fun r1 M1 V => ?_)
        exact rm_iret dX11_drop_27 rfl rfl V
-- X11_dropOf
set_option maxRecDepth 100000 in
set_option maxHeartbeats 4000000 in
theorem vX11_dropOf_0 {w : Wd} {h : Nat} (a0 : Int32) (a1 : Int32)  (M : Mem) (Q : Option Value → Mem → Prop) (V : ((¬ (((0 : Int32) ≤ a0 ∧ a0 ≤ (7 : Int32))) → (CSi w h kX11_finds [.ref 59, .int (-1000001)] M (fun r1 M1 => (Q (some (.int r1)) M1)))) ∧ (((0 : Int32) ≤ a0 ∧ a0 ≤ (7 : Int32)) → ((((0 : Int32) ≤ a1 ∧ a1 ≤ (3 : Int32)) → (CSi w h kX11_isDrop [.ref 59, .int a0] M (fun r1 M1 => ((r1 = 0 → (CSi w h kX11_finds [.ref 59, .int (-1000004)] M1 (fun r2 M2 => (Q (some (.int r2)) M2)))) ∧ (¬ (r1 = 0) → (CSi w h kX11_of [.ref 59, .int a0, .int a1] M1 (fun r2 M2 => (Q (some (.int r2)) M2)))))))) ∧ (¬ (((0 : Int32) ≤ a1 ∧ a1 ≤ (3 : Int32))) → (CSi w h kX11_finds [.ref 59, .int (-1000001)] M (fun r1 M1 => (Q (some (.int r1)) M1)))))))) : RM w (h + 1) kX11_dropOf 0 [(0, .ref 59), (1, .int a0), (2, .int a1)] [] M Q := by
  refine rj_iload_n dX11_dropOf_0 1 rfl rfl ?_
  refine rj_i2l dX11_dropOf_1 ?_
  refine rj_lconst (v := 0) dX11_dropOf_2 (by decide) ?_
  refine rj_ldc2 (v := 7) rfl kl_RX11_51 dX11_dropOf_3 ?_
  refine rm_callSi [.long (Int32.toInt64 a0), .long 0, .long 7] (rest := []) (K := fun x M' => b2i ((0 : Int32) ≤ a0 ∧ a0 ≤ (7 : Int32)) = x ∧ M = M') ml_RX11_43 mtX11_in rfl dX11_dropOf_6 rfl rfl (Nat.le_of_ble_eq_true rfl) (by decide) (uX11_in (a0) (0) (7) (by decide) (by decide) ⟨rfl, rfl⟩) (fun x M' hx => ?_)
  obtain ⟨rfl, rfl⟩ := hx
  obtain ⟨V1, V2⟩ := V
  refine rs_if_eqB (tgt := 24) dX11_dropOf_9 (by decide) (fun hc => ?_) (fun hc => ?_)
  · have V := V1 hc
    refine rj_aload_n dX11_dropOf_24 0 rfl rfl ?_
    refine rj_ldc (v := (-1000001)) rfl kc_RX11_40 dX11_dropOf_25 ?_
    refine rm_callVi [.int (-1000001)] (rest := []) ml_RX11_94 mvX11_finds rfl dX11_dropOf_27 rfl rfl rfl rfl rfl (Nat.le_of_ble_eq_true rfl) (by decide) V (fun r1 M1 V => ?_)
    exact rm_iret dX11_dropOf_30 rfl rfl V
  · have V := V2 hc
    refine rj_iload_n dX11_dropOf_12 2 rfl rfl ?_
    refine rj_i2l dX11_dropOf_13 ?_
    refine rj_lconst (v := 0) dX11_dropOf_14 (by decide) ?_
    refine rj_ldc2 (v := 3) rfl kl_RX11_92 dX11_dropOf_15 ?_
    refine rm_callSi [.long (Int32.toInt64 a1), .long 0, .long 3] (rest := []) (K := fun x M' => b2i ((0 : Int32) ≤ a1 ∧ a1 ≤ (3 : Int32)) = x ∧ M = M') ml_RX11_43 mtX11_in rfl dX11_dropOf_18 rfl rfl (Nat.le_of_ble_eq_true rfl) (by decide) (uX11_in (a1) (0) (3) (by decide) (by decide) ⟨rfl, rfl⟩) (fun x M' hx => ?_)
    obtain ⟨rfl, rfl⟩ := hx
    obtain ⟨V1, V2⟩ := V
    refine rs_if_neB (tgt := 31) dX11_dropOf_21 (by decide) (fun hc => ?_) (fun hc => ?_)
    · have V := V1 hc
      refine rj_aload_n dX11_dropOf_31 0 rfl rfl ?_
      refine rj_iload_n dX11_dropOf_32 1 rfl rfl ?_
      refine rm_callVi [.int a0] (rest := []) ml_RX11_137 mvX11_isDrop rfl dX11_dropOf_33 rfl rfl rfl rfl rfl (Nat.le_of_ble_eq_true rfl) (by decide) V (fun r1 M1 V => ?_)
      obtain ⟨V1, V2⟩ := V
      refine rj_if_eq (tgt := 48) dX11_dropOf_36 (by decide) (fun hc => ?_) (fun hc => ?_)
      · have V := V1 hc
        refine rj_aload_n dX11_dropOf_48 0 rfl rfl ?_
        refine rj_ldc (v := (-1000004)) rfl kc_RX11_126 dX11_dropOf_49 ?_
        refine rm_callVi [.int (-1000004)] (rest := []) ml_RX11_94 mvX11_finds rfl dX11_dropOf_51 rfl rfl rfl rfl rfl (Nat.le_of_ble_eq_true rfl) (by decide) V (fun r2 M2 V => ?_)
        exact rm_iret dX11_dropOf_54 rfl rfl V
      · have V := V2 hc
        refine rj_aload_n dX11_dropOf_39 0 rfl rfl ?_
        refine rj_iload_n dX11_dropOf_40 1 rfl rfl ?_
        refine rj_iload_n dX11_dropOf_41 2 rfl rfl ?_
        refine rm_callVi [.int a0, .int a1] (rest := []) ml_RX11_53 mvX11_of rfl dX11_dropOf_42 rfl rfl rfl rfl rfl (Nat.le_of_ble_eq_true rfl) (by decide) V (fun r2 M2 V => ?_)
        refine rj_goto (tgt := 54) dX11_dropOf_45 (by decide) ?_
        exact rm_iret dX11_dropOf_54 rfl rfl V
    · have V := V2 hc
      refine rj_aload_n dX11_dropOf_24 0 rfl rfl ?_
      refine rj_ldc (v := (-1000001)) rfl kc_RX11_40 dX11_dropOf_25 ?_
      refine rm_callVi [.int (-1000001)] (rest := []) ml_RX11_94 mvX11_finds rfl dX11_dropOf_27 rfl rfl rfl rfl rfl (Nat.le_of_ble_eq_true rfl) (by decide) V (fun r1 M1 V => ?_)
      exact rm_iret dX11_dropOf_30 rfl rfl V
-- X11_nextOf
set_option maxRecDepth 100000 in
set_option maxHeartbeats 4000000 in
theorem vX11_nextOf_0 {w : Wd} {h : Nat} (a0 : Int32)  (M : Mem) (Q : Option Value → Mem → Prop) (V : (CSi w h kX11_of [.ref 59, .int a0, .int 0] M (fun r1 M1 => (CSi w h kX11_of [.ref 59, .int a0, .int 1] M1 (fun r2 M2 => (CSi w h kX11_of [.ref 59, .int a0, .int 2] M2 (fun r3 M3 => (CSi w h kX11_of [.ref 59, .int a0, .int 3] M3 (fun r4 M4 => (CSi w h kX11_goesTo [.ref 59, .int r1, .int r2, .int r3, .int r4] M4 (fun r5 M5 => (Q (some (.int r5)) M5)))))))))))) : RM w (h + 1) kX11_nextOf 0 [(0, .ref 59), (1, .int a0)] [] M Q := by
  refine rj_aload_n dX11_nextOf_0 0 rfl rfl ?_
  refine rj_aload_n dX11_nextOf_1 0 rfl rfl ?_
  refine rj_iload_n dX11_nextOf_2 1 rfl rfl ?_
  refine rj_iconst (v := 0) dX11_nextOf_3 (by decide) ?_
  refine rm_callVi [.int a0, .int 0] (rest := [.ref 59]) ml_RX11_53 mvX11_of rfl dX11_nextOf_4 rfl rfl rfl rfl rfl (Nat.le_of_ble_eq_true rfl) (by decide) V (fun r1 M1 V => ?_)
  refine rj_aload_n dX11_nextOf_7 0 rfl rfl ?_
  refine rj_iload_n dX11_nextOf_8 1 rfl rfl ?_
  refine rj_iconst (v := 1) dX11_nextOf_9 (by decide) ?_
  refine rm_callVi [.int a0, .int 1] (rest := [.int r1, .ref 59]) ml_RX11_53 mvX11_of rfl dX11_nextOf_10 rfl rfl rfl rfl rfl (Nat.le_of_ble_eq_true rfl) (by decide) V (fun r2 M2 V => ?_)
  refine rj_aload_n dX11_nextOf_13 0 rfl rfl ?_
  refine rj_iload_n dX11_nextOf_14 1 rfl rfl ?_
  refine rj_iconst (v := 2) dX11_nextOf_15 (by decide) ?_
  refine rm_callVi [.int a0, .int 2] (rest := [.int r2, .int r1, .ref 59]) ml_RX11_53 mvX11_of rfl dX11_nextOf_16 rfl rfl rfl rfl rfl (Nat.le_of_ble_eq_true rfl) (by decide) V (fun r3 M3 V => ?_)
  refine rj_aload_n dX11_nextOf_19 0 rfl rfl ?_
  refine rj_iload_n dX11_nextOf_20 1 rfl rfl ?_
  refine rj_iconst (v := 3) dX11_nextOf_21 (by decide) ?_
  refine rm_callVi [.int a0, .int 3] (rest := [.int r3, .int r2, .int r1, .ref 59]) ml_RX11_53 mvX11_of rfl dX11_nextOf_22 rfl rfl rfl rfl rfl (Nat.le_of_ble_eq_true rfl) (by decide) V (fun r4 M4 V => ?_)
  refine rm_callVi [.int r1, .int r2, .int r3, .int r4] (rest := []) ml_RX11_140 mvX11_goesTo rfl dX11_nextOf_25 rfl rfl rfl rfl rfl (Nat.le_of_ble_eq_true rfl) (by decide) V (fun r5 M5 V => ?_)
  exact rm_iret dX11_nextOf_28 rfl rfl V
-- X11_goes
set_option maxRecDepth 100000 in
set_option maxHeartbeats 4000000 in
theorem vX11_goes_0 {w : Wd} {h : Nat} (a0 : Int32)  (M : Mem) (Q : Option Value → Mem → Prop) (V : (∀ x1 : Int32, x1 = (402 + (4 * a0)) → (CSi w h kX11_nextOf [.ref 59, .int a0] M (fun r1 M1 => (vp_in (x1 + 1) 666 ∧ ((¬ (r1 = (M1 60 (Int32.toNatClampNeg (x1 + 1)))) → ((0 ≤ r1 → (vp_in (x1 + 1) 666 ∧ ∀ M2 : Mem, M2 = mset M1 60 (Int32.toNatClampNeg (x1 + 1)) r1 → (vp_in (x1 + 3) 666 ∧ (vp_in (x1 + 3) 666 ∧ ∀ M3 : Mem, M3 = mset M2 60 (Int32.toNatClampNeg (x1 + 3)) ((M2 60 (Int32.toNatClampNeg (x1 + 3))) + 1) → (vp_in (210 + r1) 666 ∧ ∀ M4 : Mem, M4 = mset M3 60 (Int32.toNatClampNeg (210 + r1)) 99 → (vp_in x1 666 ∧ ((((M4 60 (Int32.toNatClampNeg x1)) = 1 ∨ (M4 60 (Int32.toNatClampNeg x1)) = 7) → (vp_in (x1 + 2) 666 ∧ (vp_in (x1 + 2) 666 ∧ ∀ M5 : Mem, M5 = mset M4 60 (Int32.toNatClampNeg (x1 + 2)) ((M4 60 (Int32.toNatClampNeg (x1 + 2))) - 1) → (vp_in (x1 + 2) 666 ∧ ((¬ ((M5 60 (Int32.toNatClampNeg (x1 + 2))) = 0) → (Q none M5)) ∧ ((M5 60 (Int32.toNatClampNeg (x1 + 2))) = 0 → (vp_in x1 666 ∧ ∀ M6 : Mem, M6 = mset M5 60 (Int32.toNatClampNeg x1) (-1) → (Q none M6)))))))) ∧ (¬ (((M4 60 (Int32.toNatClampNeg x1)) = 1 ∨ (M4 60 (Int32.toNatClampNeg x1)) = 7)) → (Q none M4))))))))) ∧ (¬ (0 ≤ r1) → (vp_in (x1 + 1) 666 ∧ (vp_in (6 + ((M1 60 (Int32.toNatClampNeg (x1 + 1))) - (M1 60 (Int32.toNatClampNeg (x1 + 1))) / 12 * 12)) 666 ∧ (vp_in (x1 + 2) 666 ∧ (vp_in (6 + ((M1 60 (Int32.toNatClampNeg (x1 + 1))) - (M1 60 (Int32.toNatClampNeg (x1 + 1))) / 12 * 12)) 666 ∧ ∀ M2 : Mem, M2 = mset M1 60 (Int32.toNatClampNeg (6 + ((M1 60 (Int32.toNatClampNeg (x1 + 1))) - (M1 60 (Int32.toNatClampNeg (x1 + 1))) / 12 * 12))) ((M1 60 (Int32.toNatClampNeg (6 + ((M1 60 (Int32.toNatClampNeg (x1 + 1))) - (M1 60 (Int32.toNatClampNeg (x1 + 1))) / 12 * 12)))) + (M1 60 (Int32.toNatClampNeg (x1 + 2)))) → (vp_in x1 666 ∧ ∀ M3 : Mem, M3 = mset M2 60 (Int32.toNatClampNeg x1) (-1) → (Q none M3))))))))) ∧ (r1 = (M1 60 (Int32.toNatClampNeg (x1 + 1))) → (Q none M1)))))))) : RM w (h + 1) kX11_goes 0 [(0, .ref 59), (1, .int a0)] [] M Q := by
  refine rj_sipush (v := 402) dX11_goes_0 (by decide) ?_
  refine rj_iconst (v := 4) dX11_goes_3 (by decide) ?_
  refine rj_iload_n dX11_goes_4 1 rfl rfl ?_
  refine rj_imul dX11_goes_5 ?_
  refine rj_iadd dX11_goes_6 ?_
  refine rj_top (fun x1 ex1 => ?_)
  have V := V x1 ex1
  refine rj_istore_n (lv' := [(0, .ref 59), (1, .int a0), (2, .int x1)]) dX11_goes_7 rfl (by decide) rfl rfl ?_
  refine rj_aload_n dX11_goes_8 0 rfl rfl ?_
  refine rj_iload_n dX11_goes_9 1 rfl rfl ?_
  refine rm_callVi [.int a0] (rest := []) ml_RX11_144 mvX11_nextOf rfl dX11_goes_10 rfl rfl rfl rfl rfl (Nat.le_of_ble_eq_true rfl) (by decide) V (fun r1 M1 V => ?_)
  refine rj_istore_n (lv' := [(0, .ref 59), (1, .int a0), (2, .int x1), (3, .int r1)]) dX11_goes_13 rfl (by decide) rfl rfl ?_
  refine rj_iload_n dX11_goes_14 3 rfl rfl ?_
  refine rj_aload_n dX11_goes_15 0 rfl rfl ?_
  refine rs_getR (t := 60) fl_RX11_9 rfl (by decide) (by decide) rfl dX11_goes_16 rfl (by omega) ?_
  refine rj_iload_n dX11_goes_19 2 rfl rfl ?_
  refine rj_iconst (v := 1) dX11_goes_20 (by decide) ?_
  refine rj_iadd dX11_goes_21 ?_
  obtain ⟨hb, V⟩ := V
  refine rs_iald dX11_goes_22 rfl hb ?_
  obtain ⟨V1, V2⟩ := V
  refine rj_icmp_ne (tgt := 27) dX11_goes_23 (by decide) (fun hc => ?_) (fun hc => ?_)
  · have V := V1 hc
    refine rj_iload_n dX11_goes_27 3 rfl rfl ?_
    obtain ⟨V1, V2⟩ := V
    refine rj_if_ge (tgt := 69) dX11_goes_28 (by decide) (fun hc => ?_) (fun hc => ?_)
    · have V := V1 hc
      refine rj_aload_n dX11_goes_69 0 rfl rfl ?_
      refine rs_getR (t := 60) fl_RX11_9 rfl (by decide) (by decide) rfl dX11_goes_70 rfl (by omega) ?_
      refine rj_iload_n dX11_goes_73 2 rfl rfl ?_
      refine rj_iconst (v := 1) dX11_goes_74 (by decide) ?_
      refine rj_iadd dX11_goes_75 ?_
      refine rj_iload_n dX11_goes_76 3 rfl rfl ?_
      obtain ⟨hb, V⟩ := V
      refine rs_iast dX11_goes_77 rfl hb (fun M2 eM2 => ?_)
      have V := V M2 eM2
      refine rj_aload_n dX11_goes_78 0 rfl rfl ?_
      refine rs_getR (t := 60) fl_RX11_9 rfl (by decide) (by decide) rfl dX11_goes_79 rfl (by omega) ?_
      refine rj_iload_n dX11_goes_82 2 rfl rfl ?_
      refine rj_iconst (v := 3) dX11_goes_83 (by decide) ?_
      refine rj_iadd dX11_goes_84 ?_
      refine rj_dup2 dX11_goes_85 rfl rfl ?_
      obtain ⟨hb, V⟩ := V
      refine rs_iald dX11_goes_86 rfl hb ?_
      refine rj_iconst (v := 1) dX11_goes_87 (by decide) ?_
      refine rj_iadd dX11_goes_88 ?_
      obtain ⟨hb, V⟩ := V
      refine rs_iast dX11_goes_89 rfl hb (fun M3 eM3 => ?_)
      have V := V M3 eM3
      refine rj_aload_n dX11_goes_90 0 rfl rfl ?_
      refine rs_getR (t := 60) fl_RX11_9 rfl (by decide) (by decide) rfl dX11_goes_91 rfl (by omega) ?_
      refine rj_sipush (v := 210) dX11_goes_94 (by decide) ?_
      refine rj_iload_n dX11_goes_97 3 rfl rfl ?_
      refine rj_iadd dX11_goes_98 ?_
      refine rj_bipush (v := 99) dX11_goes_99 (by decide) ?_
      obtain ⟨hb, V⟩ := V
      refine rs_iast dX11_goes_101 rfl hb (fun M4 eM4 => ?_)
      have V := V M4 eM4
      refine rj_aload_n dX11_goes_102 0 rfl rfl ?_
      refine rs_getR (t := 60) fl_RX11_9 rfl (by decide) (by decide) rfl dX11_goes_103 rfl (by omega) ?_
      refine rj_iload_n dX11_goes_106 2 rfl rfl ?_
      obtain ⟨hb, V⟩ := V
      refine rs_iald dX11_goes_107 rfl hb ?_
      refine rm_callSi [.int (M4 60 (Int32.toNatClampNeg x1))] (rest := []) (K := fun x M' => b2i ((M4 60 (Int32.toNatClampNeg x1)) = 1 ∨ (M4 60 (Int32.toNatClampNeg x1)) = 7) = x ∧ M4 = M') ml_RX11_147 mtX11_isLosing rfl dX11_goes_108 rfl rfl (Nat.le_of_ble_eq_true rfl) (by decide) (uX11_isLosing ⟨rfl, rfl⟩) (fun x M' hx => ?_)
      obtain ⟨rfl, rfl⟩ := hx
      obtain ⟨V1, V2⟩ := V
      refine rs_if_neB (tgt := 115) dX11_goes_111 (by decide) (fun hc => ?_) (fun hc => ?_)
      · have V := V1 hc
        refine rj_aload_n dX11_goes_115 0 rfl rfl ?_
        refine rs_getR (t := 60) fl_RX11_9 rfl (by decide) (by decide) rfl dX11_goes_116 rfl (by omega) ?_
        refine rj_iload_n dX11_goes_119 2 rfl rfl ?_
        refine rj_iconst (v := 2) dX11_goes_120 (by decide) ?_
        refine rj_iadd dX11_goes_121 ?_
        refine rj_dup2 dX11_goes_122 rfl rfl ?_
        obtain ⟨hb, V⟩ := V
        refine rs_iald dX11_goes_123 rfl hb ?_
        refine rj_iconst (v := 1) dX11_goes_124 (by decide) ?_
        refine rj_isub dX11_goes_125 ?_
        obtain ⟨hb, V⟩ := V
        refine rs_iast dX11_goes_126 rfl hb (fun M5 eM5 => ?_)
        have V := V M5 eM5
        refine rj_aload_n dX11_goes_127 0 rfl rfl ?_
        refine rs_getR (t := 60) fl_RX11_9 rfl (by decide) (by decide) rfl dX11_goes_128 rfl (by omega) ?_
        refine rj_iload_n dX11_goes_131 2 rfl rfl ?_
        refine rj_iconst (v := 2) dX11_goes_132 (by decide) ?_
        refine rj_iadd dX11_goes_133 ?_
        obtain ⟨hb, V⟩ := V
        refine rs_iald dX11_goes_134 rfl hb ?_
        obtain ⟨V1, V2⟩ := V
        refine rj_if_ne (tgt := 145) dX11_goes_135 (by decide) (fun hc => ?_) (fun hc => ?_)
        · have V := V1 hc
          exact rm_vret dX11_goes_145 rfl V
        · have V := V2 hc
          refine rj_aload_n dX11_goes_138 0 rfl rfl ?_
          refine rs_getR (t := 60) fl_RX11_9 rfl (by decide) (by decide) rfl dX11_goes_139 rfl (by omega) ?_
          refine rj_iload_n dX11_goes_142 2 rfl rfl ?_
          refine rj_iconst (v := (-1)) dX11_goes_143 (by decide) ?_
          obtain ⟨hb, V⟩ := V
          refine rs_iast dX11_goes_144 rfl hb (fun M6 eM6 => ?_)
          have V := V M6 eM6
          exact rm_vret dX11_goes_145 rfl V
      · have V := V2 hc
        exact rm_vret dX11_goes_114 rfl V
    · have V := V2 hc
      refine rj_aload_n dX11_goes_31 0 rfl rfl ?_
      refine rs_getR (t := 60) fl_RX11_9 rfl (by decide) (by decide) rfl dX11_goes_32 rfl (by omega) ?_
      refine rj_bipush (v := 6) dX11_goes_35 (by decide) ?_
      refine rj_aload_n dX11_goes_37 0 rfl rfl ?_
      refine rs_getR (t := 60) fl_RX11_9 rfl (by decide) (by decide) rfl dX11_goes_38 rfl (by omega) ?_
      refine rj_iload_n dX11_goes_41 2 rfl rfl ?_
      refine rj_iconst (v := 1) dX11_goes_42 (by decide) ?_
      refine rj_iadd dX11_goes_43 ?_
      obtain ⟨hb, V⟩ := V
      refine rs_iald dX11_goes_44 rfl hb ?_
      refine rj_bipush (v := 12) dX11_goes_45 (by decide) ?_
      refine rj_irem dX11_goes_47 (by decide) ?_
      refine rj_iadd dX11_goes_48 ?_
      refine rj_dup2 dX11_goes_49 rfl rfl ?_
      obtain ⟨hb, V⟩ := V
      refine rs_iald dX11_goes_50 rfl hb ?_
      refine rj_aload_n dX11_goes_51 0 rfl rfl ?_
      refine rs_getR (t := 60) fl_RX11_9 rfl (by decide) (by decide) rfl dX11_goes_52 rfl (by omega) ?_
      refine rj_iload_n dX11_goes_55 2 rfl rfl ?_
      refine rj_iconst (v := 2) dX11_goes_56 (by decide) ?_
      refine rj_iadd dX11_goes_57 ?_
      obtain ⟨hb, V⟩ := V
      refine rs_iald dX11_goes_58 rfl hb ?_
      refine rj_iadd dX11_goes_59 ?_
      obtain ⟨hb, V⟩ := V
      refine rs_iast dX11_goes_60 rfl hb (fun M2 eM2 => ?_)
      have V := V M2 eM2
      refine rj_aload_n dX11_goes_61 0 rfl rfl ?_
      refine rs_getR (t := 60) fl_RX11_9 rfl (by decide) (by decide) rfl dX11_goes_62 rfl (by omega) ?_
      refine rj_iload_n dX11_goes_65 2 rfl rfl ?_
      refine rj_iconst (v := (-1)) dX11_goes_66 (by decide) ?_
      obtain ⟨hb, V⟩ := V
      refine rs_iast dX11_goes_67 rfl hb (fun M3 eM3 => ?_)
      have V := V M3 eM3
      exact rm_vret dX11_goes_68 rfl V
  · have V := V2 hc
    exact rm_vret dX11_goes_26 rfl V
-- X11_blown
set_option maxRecDepth 100000 in
set_option maxHeartbeats 4000000 in
theorem vX11_blown_0 {w : Wd} {h : Nat} (hh : 1 ≤ h) (a0 : Int32)  (M : Mem) (Q : Option Value → Mem → Prop) (V : (∀ x1 : Int32, x1 = (402 + (4 * a0)) → (vp_in 1 666 ∧ (∀ x2 : Int32, x2 = (M 60 (Int32.toNatClampNeg 1)) → (vp_in (x1 + 2) 666 ∧ (((M 60 (Int32.toNatClampNeg (x1 + 2))) < (if 0 ≤ x2 then x2 else (-x2)) → (vp_in (x1 + 1) 666 ∧ (∀ x3 : Int32, x3 = (((M 60 (Int32.toNatClampNeg (x1 + 1))) - (M 60 (Int32.toNatClampNeg (x1 + 1))) / 12 * 12) + (if 0 ≤ x2 then (1 : Int32) else ((-1) : Int32))) → (((0 ≤ x3 ∧ x3 ≤ 11) → (vp_in (x1 + 1) 666 ∧ (vp_in (x1 + 1) 666 ∧ ∀ M1 : Mem, M1 = mset M 60 (Int32.toNatClampNeg (x1 + 1)) ((M 60 (Int32.toNatClampNeg (x1 + 1))) + (if 0 ≤ x2 then (1 : Int32) else ((-1) : Int32))) → (vp_in (x1 + 1) 666 ∧ (vp_in (210 + (M1 60 (Int32.toNatClampNeg (x1 + 1)))) 666 ∧ ∀ M2 : Mem, M2 = mset M1 60 (Int32.toNatClampNeg (210 + (M1 60 (Int32.toNatClampNeg (x1 + 1))))) 99 → (Q none M2)))))) ∧ (¬ ((0 ≤ x3 ∧ x3 ≤ 11)) → (Q none M)))))) ∧ (¬ ((M 60 (Int32.toNatClampNeg (x1 + 2))) < (if 0 ≤ x2 then x2 else (-x2))) → (Q none M)))))))) : RM w (h + 1) kX11_blown 0 [(0, .ref 59), (1, .int a0)] [] M Q := by
  refine rj_sipush (v := 402) dX11_blown_0 (by decide) ?_
  refine rj_iconst (v := 4) dX11_blown_3 (by decide) ?_
  refine rj_iload_n dX11_blown_4 1 rfl rfl ?_
  refine rj_imul dX11_blown_5 ?_
  refine rj_iadd dX11_blown_6 ?_
  refine rj_top (fun x1 ex1 => ?_)
  have V := V x1 ex1
  refine rj_istore_n (lv' := [(0, .ref 59), (1, .int a0), (2, .int x1)]) dX11_blown_7 rfl (by decide) rfl rfl ?_
  refine rj_aload_n dX11_blown_8 0 rfl rfl ?_
  refine rs_getR (t := 60) fl_RX11_9 rfl (by decide) (by decide) rfl dX11_blown_9 rfl (by omega) ?_
  refine rj_iconst (v := 1) dX11_blown_12 (by decide) ?_
  obtain ⟨hb, V⟩ := V
  refine rs_iald dX11_blown_13 rfl hb ?_
  refine rj_top (fun x2 ex2 => ?_)
  have V := V x2 ex2
  refine rj_istore_n (lv' := [(0, .ref 59), (1, .int a0), (2, .int x1), (3, .int x2)]) dX11_blown_14 rfl (by decide) rfl rfl ?_
  refine rj_aload_n dX11_blown_15 0 rfl rfl ?_
  refine rs_getR (t := 60) fl_RX11_9 rfl (by decide) (by decide) rfl dX11_blown_16 rfl (by omega) ?_
  refine rj_iload_n dX11_blown_19 2 rfl rfl ?_
  refine rj_iconst (v := 2) dX11_blown_20 (by decide) ?_
  refine rj_iadd dX11_blown_21 ?_
  obtain ⟨hb, V⟩ := V
  refine rs_iald dX11_blown_22 rfl hb ?_
  refine rj_iload_n dX11_blown_23 3 rfl rfl ?_
  have KD : RM w (h + 1) kX11_blown 33 [(0, .ref 59), (1, .int a0), (2, .int x1), (3, .int x2)] [.int (if 0 ≤ x2 then x2 else (-x2)), .int (M 60 (Int32.toNatClampNeg (x1 + 2)))] M Q := by
    obtain ⟨V1, V2⟩ := V
    refine rj_icmp_lt (tgt := 37) dX11_blown_33 (by decide) (fun hc => ?_) (fun hc => ?_)
    · have V := V1 hc
      refine rj_aload_n dX11_blown_37 0 rfl rfl ?_
      refine rs_getR (t := 60) fl_RX11_9 rfl (by decide) (by decide) rfl dX11_blown_38 rfl (by omega) ?_
      refine rj_iload_n dX11_blown_41 2 rfl rfl ?_
      refine rj_iconst (v := 1) dX11_blown_42 (by decide) ?_
      refine rj_iadd dX11_blown_43 ?_
      obtain ⟨hb, V⟩ := V
      refine rs_iald dX11_blown_44 rfl hb ?_
      refine rj_bipush (v := 12) dX11_blown_45 (by decide) ?_
      refine rj_irem dX11_blown_47 (by decide) ?_
      refine rj_iload_n dX11_blown_48 3 rfl rfl ?_
      have KD : RM w (h + 1) kX11_blown 57 [(0, .ref 59), (1, .int a0), (2, .int x1), (3, .int x2)] [.int (if 0 ≤ x2 then (1 : Int32) else ((-1) : Int32)), .int ((M 60 (Int32.toNatClampNeg (x1 + 1))) - (M 60 (Int32.toNatClampNeg (x1 + 1))) / 12 * 12)] M Q := by
        refine rj_iadd dX11_blown_57 ?_
        refine rj_top (fun x3 ex3 => ?_)
        have V := V x3 ex3
        refine rj_istore (lv' := [(0, .ref 59), (1, .int a0), (2, .int x1), (3, .int x2), (4, .int x3)]) dX11_blown_58 (by decide) rfl rfl ?_
        refine rj_iload dX11_blown_60 4 rfl ?_
        refine rm_callSi [.int x3] (rest := []) (K := fun x M' => b2i (0 ≤ x3 ∧ x3 ≤ 11) = x ∧ M = M') ml_RX11_120 mtX11_isColumn rfl dX11_blown_62 rfl rfl (Nat.le_of_ble_eq_true rfl) (by decide) (uX11_isColumn (by omega) ⟨rfl, rfl⟩) (fun x M' hx => ?_)
        obtain ⟨rfl, rfl⟩ := hx
        obtain ⟨V1, V2⟩ := V
        refine rs_if_neB (tgt := 69) dX11_blown_65 (by decide) (fun hc => ?_) (fun hc => ?_)
        · have V := V1 hc
          refine rj_aload_n dX11_blown_69 0 rfl rfl ?_
          refine rs_getR (t := 60) fl_RX11_9 rfl (by decide) (by decide) rfl dX11_blown_70 rfl (by omega) ?_
          refine rj_iload_n dX11_blown_73 2 rfl rfl ?_
          refine rj_iconst (v := 1) dX11_blown_74 (by decide) ?_
          refine rj_iadd dX11_blown_75 ?_
          refine rj_dup2 dX11_blown_76 rfl rfl ?_
          obtain ⟨hb, V⟩ := V
          refine rs_iald dX11_blown_77 rfl hb ?_
          refine rj_iload_n dX11_blown_78 3 rfl rfl ?_
          have KD : RM w (h + 1) kX11_blown 87 [(0, .ref 59), (1, .int a0), (2, .int x1), (3, .int x2), (4, .int x3)] [.int (if 0 ≤ x2 then (1 : Int32) else ((-1) : Int32)), .int (M 60 (Int32.toNatClampNeg (x1 + 1))), .int (x1 + 1), .ref 60] M Q := by
            refine rj_iadd dX11_blown_87 ?_
            obtain ⟨hb, V⟩ := V
            refine rs_iast dX11_blown_88 rfl hb (fun M1 eM1 => ?_)
            have V := V M1 eM1
            refine rj_aload_n dX11_blown_89 0 rfl rfl ?_
            refine rs_getR (t := 60) fl_RX11_9 rfl (by decide) (by decide) rfl dX11_blown_90 rfl (by omega) ?_
            refine rj_sipush (v := 210) dX11_blown_93 (by decide) ?_
            refine rj_aload_n dX11_blown_96 0 rfl rfl ?_
            refine rs_getR (t := 60) fl_RX11_9 rfl (by decide) (by decide) rfl dX11_blown_97 rfl (by omega) ?_
            refine rj_iload_n dX11_blown_100 2 rfl rfl ?_
            refine rj_iconst (v := 1) dX11_blown_101 (by decide) ?_
            refine rj_iadd dX11_blown_102 ?_
            obtain ⟨hb, V⟩ := V
            refine rs_iald dX11_blown_103 rfl hb ?_
            refine rj_iadd dX11_blown_104 ?_
            refine rj_bipush (v := 99) dX11_blown_105 (by decide) ?_
            obtain ⟨hb, V⟩ := V
            refine rs_iast dX11_blown_107 rfl hb (fun M2 eM2 => ?_)
            have V := V M2 eM2
            exact rm_vret dX11_blown_108 rfl V
          refine rj_if_ge (tgt := 86) dX11_blown_79 (by decide) (fun hc => ?_) (fun hc => ?_)
          · refine rj_iconst (v := 1) dX11_blown_86 (by decide) ?_
            exact rs_ite_t hc KD
          · refine rj_iconst (v := (-1)) dX11_blown_82 (by decide) ?_
            refine rj_goto (tgt := 87) dX11_blown_83 (by decide) ?_
            exact rs_ite_f hc KD
        · have V := V2 hc
          exact rm_vret dX11_blown_68 rfl V
      refine rj_if_ge (tgt := 56) dX11_blown_49 (by decide) (fun hc => ?_) (fun hc => ?_)
      · refine rj_iconst (v := 1) dX11_blown_56 (by decide) ?_
        exact rs_ite_t hc KD
      · refine rj_iconst (v := (-1)) dX11_blown_52 (by decide) ?_
        refine rj_goto (tgt := 57) dX11_blown_53 (by decide) ?_
        exact rs_ite_f hc KD
    · have V := V2 hc
      exact rm_vret dX11_blown_36 rfl V
  refine rj_if_ge (tgt := 32) dX11_blown_24 (by decide) (fun hc => ?_) (fun hc => ?_)
  · refine rj_iload_n dX11_blown_32 3 rfl rfl ?_
    exact rs_ite_t hc KD
  · refine rj_iload_n dX11_blown_27 3 rfl rfl ?_
    refine rj_ineg dX11_blown_28 ?_
    refine rj_goto (tgt := 33) dX11_blown_29 (by decide) ?_
    exact rs_ite_f hc KD
-- X11_joins
set_option maxRecDepth 100000 in
set_option maxHeartbeats 4000000 in
theorem vX11_joins_0 {w : Wd} {h : Nat}   (M : Mem) (Q : Option Value → Mem → Prop) (V : RM w (h + 1) kX11_joins 2 [(0, .ref 59), (1, .int 0)] [] M Q) : RM w (h + 1) kX11_joins 0 [(0, .ref 59)] [] M Q := by
  refine rj_iconst (v := 0) dX11_joins_0 (by decide) ?_
  refine rj_istore_n (lv' := [(0, .ref 59), (1, .int 0)]) dX11_joins_1 rfl (by decide) rfl rfl ?_
  exact rs_sub [0, 1] rfl V
set_option maxRecDepth 100000 in
set_option maxHeartbeats 4000000 in
theorem vX11_joins_2 {w : Wd} {h : Nat} (v1 : Int32)  (M : Mem) (Q : Option Value → Mem → Prop) (V : ((8 ≤ v1 → (Q none M)) ∧ (¬ (8 ≤ v1) → (∀ x1 : Int32, x1 = (v1 + 1) → RM w (h + 1) kX11_joins 12 [(0, .ref 59), (1, .int v1), (2, .int x1)] [] M Q)))) : RM w (h + 1) kX11_joins 2 [(0, .ref 59), (1, .int v1)] [] M Q := by
  refine rj_iload_n dX11_joins_2 1 rfl rfl ?_
  refine rj_bipush (v := 8) dX11_joins_3 (by decide) ?_
  obtain ⟨V1, V2⟩ := V
  refine rj_icmp_ge (tgt := 119) dX11_joins_5 (by decide) (fun hc => ?_) (fun hc => ?_)
  · have V := V1 hc
    exact rm_vret dX11_joins_119 rfl V
  · have V := V2 hc
    refine rj_iload_n dX11_joins_8 1 rfl rfl ?_
    refine rj_iconst (v := 1) dX11_joins_9 (by decide) ?_
    refine rj_iadd dX11_joins_10 ?_
    refine rj_top (fun x1 ex1 => ?_)
    have V := V x1 ex1
    refine rj_istore_n (lv' := [(0, .ref 59), (1, .int v1), (2, .int x1)]) dX11_joins_11 rfl (by decide) rfl rfl ?_
    exact rs_sub [0, 1, 2] rfl V
set_option maxRecDepth 100000 in
set_option maxHeartbeats 4000000 in
theorem vX11_joins_12 {w : Wd} {h : Nat} (v1 : Int32) (v2 : Int32)  (M : Mem) (Q : Option Value → Mem → Prop) (V : ((8 ≤ v2 → (∀ x1 : Int32, x1 = v1 + 1 → RM w (h + 1) kX11_joins 2 [(0, .ref 59), (1, .int x1)] [] M Q)) ∧ (¬ (8 ≤ v2) → (CSi w h kX11_of [.ref 59, .int v1, .int 0] M (fun r1 M1 => ((r1 < 0 → (∀ x1 : Int32, x1 = v2 + 1 → RM w (h + 1) kX11_joins 12 [(0, .ref 59), (1, .int v1), (2, .int x1)] [] M1 Q)) ∧ (¬ (r1 < 0) → (CSi w h kX11_of [.ref 59, .int v2, .int 0] M1 (fun r2 M2 => ((r2 < 0 → (∀ x1 : Int32, x1 = v2 + 1 → RM w (h + 1) kX11_joins 12 [(0, .ref 59), (1, .int v1), (2, .int x1)] [] M2 Q)) ∧ (¬ (r2 < 0) → (CSi w h kX11_of [.ref 59, .int v1, .int 1] M2 (fun r3 M3 => (CSi w h kX11_of [.ref 59, .int v2, .int 1] M3 (fun r4 M4 => ((r3 = r4 → (CSi w h kX11_of [.ref 59, .int v1, .int 2] M4 (fun r5 M5 => (CSi w h kX11_of [.ref 59, .int v2, .int 2] M5 (fun r6 M6 => (∀ x1 : Int32, x1 = (r5 + r6) → (vp_in ((402 + (4 * v1)) + 2) 666 ∧ ∀ M7 : Mem, M7 = mset M6 60 (Int32.toNatClampNeg ((402 + (4 * v1)) + 2)) (if x1 ≤ 99 then x1 else (99 : Int32)) → (vp_in (402 + (4 * v2)) 666 ∧ ∀ M8 : Mem, M8 = mset M7 60 (Int32.toNatClampNeg (402 + (4 * v2))) (-1) → (∀ x2 : Int32, x2 = v2 + 1 → RM w (h + 1) kX11_joins 12 [(0, .ref 59), (1, .int v1), (2, .int x2)] [] M8 Q))))))))) ∧ (¬ (r3 = r4) → (∀ x1 : Int32, x1 = v2 + 1 → RM w (h + 1) kX11_joins 12 [(0, .ref 59), (1, .int v1), (2, .int x1)] [] M4 Q)))))))))))))))))) : RM w (h + 1) kX11_joins 12 [(0, .ref 59), (1, .int v1), (2, .int v2)] [] M Q := by
  refine rj_iload_n dX11_joins_12 2 rfl rfl ?_
  refine rj_bipush (v := 8) dX11_joins_13 (by decide) ?_
  obtain ⟨V1, V2⟩ := V
  refine rj_icmp_ge (tgt := 113) dX11_joins_15 (by decide) (fun hc => ?_) (fun hc => ?_)
  · have V := V1 hc
    refine rj_iincV (c := 1) (fun y => [(0, .ref 59), (1, .int y), (2, .int v2)]) dX11_joins_113 1 rfl (by decide) (by decide) rfl (fun _ => rfl) (fun x1 ex1 => ?_)
    have V := V x1 ex1
    refine rj_goto (tgt := 2) dX11_joins_116 (by decide) ?_
    exact rs_sub [0, 1] rfl V
  · have V := V2 hc
    refine rj_aload_n dX11_joins_18 0 rfl rfl ?_
    refine rj_iload_n dX11_joins_19 1 rfl rfl ?_
    refine rj_iconst (v := 0) dX11_joins_20 (by decide) ?_
    refine rm_callVi [.int v1, .int 0] (rest := []) ml_RX11_53 mvX11_of rfl dX11_joins_21 rfl rfl rfl rfl rfl (Nat.le_of_ble_eq_true rfl) (by decide) V (fun r1 M1 V => ?_)
    obtain ⟨V1, V2⟩ := V
    refine rj_if_lt (tgt := 107) dX11_joins_24 (by decide) (fun hc => ?_) (fun hc => ?_)
    · have V := V1 hc
      refine rj_iincV (c := 1) (fun y => [(0, .ref 59), (1, .int v1), (2, .int y)]) dX11_joins_107 2 rfl (by decide) (by decide) rfl (fun _ => rfl) (fun x1 ex1 => ?_)
      have V := V x1 ex1
      refine rj_goto (tgt := 12) dX11_joins_110 (by decide) ?_
      exact rs_sub [0, 1, 2] rfl V
    · have V := V2 hc
      refine rj_aload_n dX11_joins_27 0 rfl rfl ?_
      refine rj_iload_n dX11_joins_28 2 rfl rfl ?_
      refine rj_iconst (v := 0) dX11_joins_29 (by decide) ?_
      refine rm_callVi [.int v2, .int 0] (rest := []) ml_RX11_53 mvX11_of rfl dX11_joins_30 rfl rfl rfl rfl rfl (Nat.le_of_ble_eq_true rfl) (by decide) V (fun r2 M2 V => ?_)
      obtain ⟨V1, V2⟩ := V
      refine rj_if_lt (tgt := 107) dX11_joins_33 (by decide) (fun hc => ?_) (fun hc => ?_)
      · have V := V1 hc
        refine rj_iincV (c := 1) (fun y => [(0, .ref 59), (1, .int v1), (2, .int y)]) dX11_joins_107 2 rfl (by decide) (by decide) rfl (fun _ => rfl) (fun x1 ex1 => ?_)
        have V := V x1 ex1
        refine rj_goto (tgt := 12) dX11_joins_110 (by decide) ?_
        exact rs_sub [0, 1, 2] rfl V
      · have V := V2 hc
        refine rj_aload_n dX11_joins_36 0 rfl rfl ?_
        refine rj_iload_n dX11_joins_37 1 rfl rfl ?_
        refine rj_iconst (v := 1) dX11_joins_38 (by decide) ?_
        refine rm_callVi [.int v1, .int 1] (rest := []) ml_RX11_53 mvX11_of rfl dX11_joins_39 rfl rfl rfl rfl rfl (Nat.le_of_ble_eq_true rfl) (by decide) V (fun r3 M3 V => ?_)
        refine rj_aload_n dX11_joins_42 0 rfl rfl ?_
        refine rj_iload_n dX11_joins_43 2 rfl rfl ?_
        refine rj_iconst (v := 1) dX11_joins_44 (by decide) ?_
        refine rm_callVi [.int v2, .int 1] (rest := [.int r3]) ml_RX11_53 mvX11_of rfl dX11_joins_45 rfl rfl rfl rfl rfl (Nat.le_of_ble_eq_true rfl) (by decide) V (fun r4 M4 V => ?_)
        obtain ⟨V1, V2⟩ := V
        refine rj_icmp_eq (tgt := 54) dX11_joins_48 (by decide) (fun hc => ?_) (fun hc => ?_)
        · have V := V1 hc
          refine rj_aload_n dX11_joins_54 0 rfl rfl ?_
          refine rj_iload_n dX11_joins_55 1 rfl rfl ?_
          refine rj_iconst (v := 2) dX11_joins_56 (by decide) ?_
          refine rm_callVi [.int v1, .int 2] (rest := []) ml_RX11_53 mvX11_of rfl dX11_joins_57 rfl rfl rfl rfl rfl (Nat.le_of_ble_eq_true rfl) (by decide) V (fun r5 M5 V => ?_)
          refine rj_aload_n dX11_joins_60 0 rfl rfl ?_
          refine rj_iload_n dX11_joins_61 2 rfl rfl ?_
          refine rj_iconst (v := 2) dX11_joins_62 (by decide) ?_
          refine rm_callVi [.int v2, .int 2] (rest := [.int r5]) ml_RX11_53 mvX11_of rfl dX11_joins_63 rfl rfl rfl rfl rfl (Nat.le_of_ble_eq_true rfl) (by decide) V (fun r6 M6 V => ?_)
          refine rj_iadd dX11_joins_66 ?_
          refine rj_top (fun x1 ex1 => ?_)
          have V := V x1 ex1
          refine rj_istore_n (lv' := [(0, .ref 59), (1, .int v1), (2, .int v2), (3, .int x1)]) dX11_joins_67 rfl (by decide) rfl rfl ?_
          refine rj_aload_n dX11_joins_68 0 rfl rfl ?_
          refine rs_getR (t := 60) fl_RX11_9 rfl (by decide) (by decide) rfl dX11_joins_69 rfl (by omega) ?_
          refine rj_sipush (v := 402) dX11_joins_72 (by decide) ?_
          refine rj_iconst (v := 4) dX11_joins_75 (by decide) ?_
          refine rj_iload_n dX11_joins_76 1 rfl rfl ?_
          refine rj_imul dX11_joins_77 ?_
          refine rj_iadd dX11_joins_78 ?_
          refine rj_iconst (v := 2) dX11_joins_79 (by decide) ?_
          refine rj_iadd dX11_joins_80 ?_
          refine rj_iload_n dX11_joins_81 3 rfl rfl ?_
          refine rj_bipush (v := 99) dX11_joins_82 (by decide) ?_
          have KD : RM w (h + 1) kX11_joins 93 [(0, .ref 59), (1, .int v1), (2, .int v2), (3, .int x1)] [.int (if x1 ≤ 99 then x1 else (99 : Int32)), .int ((402 + (4 * v1)) + 2), .ref 60] M6 Q := by
            obtain ⟨hb, V⟩ := V
            refine rs_iast dX11_joins_93 rfl hb (fun M7 eM7 => ?_)
            have V := V M7 eM7
            refine rj_aload_n dX11_joins_94 0 rfl rfl ?_
            refine rs_getR (t := 60) fl_RX11_9 rfl (by decide) (by decide) rfl dX11_joins_95 rfl (by omega) ?_
            refine rj_sipush (v := 402) dX11_joins_98 (by decide) ?_
            refine rj_iconst (v := 4) dX11_joins_101 (by decide) ?_
            refine rj_iload_n dX11_joins_102 2 rfl rfl ?_
            refine rj_imul dX11_joins_103 ?_
            refine rj_iadd dX11_joins_104 ?_
            refine rj_iconst (v := (-1)) dX11_joins_105 (by decide) ?_
            obtain ⟨hb, V⟩ := V
            refine rs_iast dX11_joins_106 rfl hb (fun M8 eM8 => ?_)
            have V := V M8 eM8
            refine rj_iincV (c := 1) (fun y => [(0, .ref 59), (1, .int v1), (2, .int y), (3, .int x1)]) dX11_joins_107 2 rfl (by decide) (by decide) rfl (fun _ => rfl) (fun x2 ex2 => ?_)
            have V := V x2 ex2
            refine rj_goto (tgt := 12) dX11_joins_110 (by decide) ?_
            exact rs_sub [0, 1, 2] rfl V
          refine rj_icmp_le (tgt := 92) dX11_joins_84 (by decide) (fun hc => ?_) (fun hc => ?_)
          · refine rj_iload_n dX11_joins_92 3 rfl rfl ?_
            exact rs_ite_t hc KD
          · refine rj_bipush (v := 99) dX11_joins_87 (by decide) ?_
            refine rj_goto (tgt := 93) dX11_joins_89 (by decide) ?_
            exact rs_ite_f hc KD
        · have V := V2 hc
          refine rj_goto (tgt := 107) dX11_joins_51 (by decide) ?_
          refine rj_iincV (c := 1) (fun y => [(0, .ref 59), (1, .int v1), (2, .int y)]) dX11_joins_107 2 rfl (by decide) (by decide) rfl (fun _ => rfl) (fun x1 ex1 => ?_)
          have V := V x1 ex1
          refine rj_goto (tgt := 12) dX11_joins_110 (by decide) ?_
          exact rs_sub [0, 1, 2] rfl V
-- X11_ticks
set_option maxRecDepth 100000 in
set_option maxHeartbeats 4000000 in
theorem vX11_ticks_0 {w : Wd} {h : Nat} (a0 : Int32)  (M : Mem) (Q : Option Value → Mem → Prop) (V : RM w (h + 1) kX11_ticks 2 [(0, .ref 59), (1, .int a0), (2, .int 0)] [] M Q) : RM w (h + 1) kX11_ticks 0 [(0, .ref 59), (1, .int a0)] [] M Q := by
  refine rj_iconst (v := 0) dX11_ticks_0 (by decide) ?_
  refine rj_istore_n (lv' := [(0, .ref 59), (1, .int a0), (2, .int 0)]) dX11_ticks_1 rfl (by decide) rfl rfl ?_
  exact rs_sub [0, 1, 2] rfl V
set_option maxRecDepth 100000 in
set_option maxHeartbeats 4000000 in
theorem vX11_ticks_2 {w : Wd} {h : Nat} (v1 : Int32) (v2 : Int32)  (M : Mem) (Q : Option Value → Mem → Prop) (V : ((v1 ≤ v2 → (Q none M)) ∧ (¬ (v1 ≤ v2) → RM w (h + 1) kX11_ticks 9 [(0, .ref 59), (1, .int v1), (2, .int v2), (3, .int 0)] [] M Q))) : RM w (h + 1) kX11_ticks 2 [(0, .ref 59), (1, .int v1), (2, .int v2)] [] M Q := by
  refine rj_iload_n dX11_ticks_2 2 rfl rfl ?_
  refine rj_iload_n dX11_ticks_3 1 rfl rfl ?_
  obtain ⟨V1, V2⟩ := V
  refine rj_icmp_ge (tgt := 146) dX11_ticks_4 (by decide) (fun hc => ?_) (fun hc => ?_)
  · have V := V1 hc
    exact rm_vret dX11_ticks_146 rfl V
  · have V := V2 hc
    refine rj_iconst (v := 0) dX11_ticks_7 (by decide) ?_
    refine rj_istore_n (lv' := [(0, .ref 59), (1, .int v1), (2, .int v2), (3, .int 0)]) dX11_ticks_8 rfl (by decide) rfl rfl ?_
    exact rs_sub [0, 1, 2, 3] rfl V
set_option maxRecDepth 100000 in
set_option maxHeartbeats 4000000 in
theorem vX11_ticks_9 {w : Wd} {h : Nat} (v1 : Int32) (v2 : Int32) (v3 : Int32)  (M : Mem) (Q : Option Value → Mem → Prop) (V : ((8 ≤ v3 → RM w (h + 1) kX11_ticks 36 [(0, .ref 59), (1, .int v1), (2, .int v2), (3, .int 0)] [] M Q) ∧ (¬ (8 ≤ v3) → (CSi w h kX11_isDrop [.ref 59, .int v3] M (fun r1 M1 => ((r1 = 0 → (∀ x1 : Int32, x1 = v3 + 1 → RM w (h + 1) kX11_ticks 9 [(0, .ref 59), (1, .int v1), (2, .int v2), (3, .int x1)] [] M1 Q)) ∧ (¬ (r1 = 0) → (CSv w h kX11_goes [.ref 59, .int v3] M1 (fun M2 => (∀ x1 : Int32, x1 = v3 + 1 → RM w (h + 1) kX11_ticks 9 [(0, .ref 59), (1, .int v1), (2, .int v2), (3, .int x1)] [] M2 Q)))))))))) : RM w (h + 1) kX11_ticks 9 [(0, .ref 59), (1, .int v1), (2, .int v2), (3, .int v3)] [] M Q := by
  refine rj_iload_n dX11_ticks_9 3 rfl rfl ?_
  refine rj_bipush (v := 8) dX11_ticks_10 (by decide) ?_
  obtain ⟨V1, V2⟩ := V
  refine rj_icmp_ge (tgt := 34) dX11_ticks_12 (by decide) (fun hc => ?_) (fun hc => ?_)
  · have V := V1 hc
    refine rj_iconst (v := 0) dX11_ticks_34 (by decide) ?_
    refine rj_istore_n (lv' := [(0, .ref 59), (1, .int v1), (2, .int v2), (3, .int 0)]) dX11_ticks_35 rfl (by decide) rfl rfl ?_
    exact rs_sub [0, 1, 2, 3] rfl V
  · have V := V2 hc
    refine rj_aload_n dX11_ticks_15 0 rfl rfl ?_
    refine rj_iload_n dX11_ticks_16 3 rfl rfl ?_
    refine rm_callVi [.int v3] (rest := []) ml_RX11_137 mvX11_isDrop rfl dX11_ticks_17 rfl rfl rfl rfl rfl (Nat.le_of_ble_eq_true rfl) (by decide) V (fun r1 M1 V => ?_)
    obtain ⟨V1, V2⟩ := V
    refine rj_if_eq (tgt := 28) dX11_ticks_20 (by decide) (fun hc => ?_) (fun hc => ?_)
    · have V := V1 hc
      refine rj_iincV (c := 1) (fun y => [(0, .ref 59), (1, .int v1), (2, .int v2), (3, .int y)]) dX11_ticks_28 3 rfl (by decide) (by decide) rfl (fun _ => rfl) (fun x1 ex1 => ?_)
      have V := V x1 ex1
      refine rj_goto (tgt := 9) dX11_ticks_31 (by decide) ?_
      exact rs_sub [0, 1, 2, 3] rfl V
    · have V := V2 hc
      refine rj_aload_n dX11_ticks_23 0 rfl rfl ?_
      refine rj_iload_n dX11_ticks_24 3 rfl rfl ?_
      refine rm_callVv [.int v3] (rest := []) ml_RX11_150 mvX11_goes rfl dX11_ticks_25 rfl rfl rfl rfl rfl (Nat.le_of_ble_eq_true rfl) (by decide) V (fun M2 V => ?_)
      refine rj_iincV (c := 1) (fun y => [(0, .ref 59), (1, .int v1), (2, .int v2), (3, .int y)]) dX11_ticks_28 3 rfl (by decide) (by decide) rfl (fun _ => rfl) (fun x1 ex1 => ?_)
      have V := V x1 ex1
      refine rj_goto (tgt := 9) dX11_ticks_31 (by decide) ?_
      exact rs_sub [0, 1, 2, 3] rfl V
set_option maxRecDepth 100000 in
set_option maxHeartbeats 4000000 in
theorem vX11_ticks_36 {w : Wd} {h : Nat} (v1 : Int32) (v2 : Int32) (v3 : Int32)  (M : Mem) (Q : Option Value → Mem → Prop) (V : ((8 ≤ v3 → (CSv w h kX11_joins [.ref 59] M (fun M1 => RM w (h + 1) kX11_ticks 67 [(0, .ref 59), (1, .int v1), (2, .int v2), (3, .int 0)] [] M1 Q))) ∧ (¬ (8 ≤ v3) → (CSi w h kX11_isDrop [.ref 59, .int v3] M (fun r1 M1 => ((r1 = 0 → (∀ x1 : Int32, x1 = v3 + 1 → RM w (h + 1) kX11_ticks 36 [(0, .ref 59), (1, .int v1), (2, .int v2), (3, .int x1)] [] M1 Q)) ∧ (¬ (r1 = 0) → (CSv w h kX11_blown [.ref 59, .int v3] M1 (fun M2 => (∀ x1 : Int32, x1 = v3 + 1 → RM w (h + 1) kX11_ticks 36 [(0, .ref 59), (1, .int v1), (2, .int v2), (3, .int x1)] [] M2 Q)))))))))) : RM w (h + 1) kX11_ticks 36 [(0, .ref 59), (1, .int v1), (2, .int v2), (3, .int v3)] [] M Q := by
  refine rj_iload_n dX11_ticks_36 3 rfl rfl ?_
  refine rj_bipush (v := 8) dX11_ticks_37 (by decide) ?_
  obtain ⟨V1, V2⟩ := V
  refine rj_icmp_ge (tgt := 61) dX11_ticks_39 (by decide) (fun hc => ?_) (fun hc => ?_)
  · have V := V1 hc
    refine rj_aload_n dX11_ticks_61 0 rfl rfl ?_
    refine rm_callVv [] (rest := []) ml_RX11_157 mvX11_joins rfl dX11_ticks_62 rfl rfl rfl rfl rfl (Nat.le_of_ble_eq_true rfl) (by decide) V (fun M1 V => ?_)
    refine rj_iconst (v := 0) dX11_ticks_65 (by decide) ?_
    refine rj_istore_n (lv' := [(0, .ref 59), (1, .int v1), (2, .int v2), (3, .int 0)]) dX11_ticks_66 rfl (by decide) rfl rfl ?_
    exact rs_sub [0, 1, 2, 3] rfl V
  · have V := V2 hc
    refine rj_aload_n dX11_ticks_42 0 rfl rfl ?_
    refine rj_iload_n dX11_ticks_43 3 rfl rfl ?_
    refine rm_callVi [.int v3] (rest := []) ml_RX11_137 mvX11_isDrop rfl dX11_ticks_44 rfl rfl rfl rfl rfl (Nat.le_of_ble_eq_true rfl) (by decide) V (fun r1 M1 V => ?_)
    obtain ⟨V1, V2⟩ := V
    refine rj_if_eq (tgt := 55) dX11_ticks_47 (by decide) (fun hc => ?_) (fun hc => ?_)
    · have V := V1 hc
      refine rj_iincV (c := 1) (fun y => [(0, .ref 59), (1, .int v1), (2, .int v2), (3, .int y)]) dX11_ticks_55 3 rfl (by decide) (by decide) rfl (fun _ => rfl) (fun x1 ex1 => ?_)
      have V := V x1 ex1
      refine rj_goto (tgt := 36) dX11_ticks_58 (by decide) ?_
      exact rs_sub [0, 1, 2, 3] rfl V
    · have V := V2 hc
      refine rj_aload_n dX11_ticks_50 0 rfl rfl ?_
      refine rj_iload_n dX11_ticks_51 3 rfl rfl ?_
      refine rm_callVv [.int v3] (rest := []) ml_RX11_154 mvX11_blown rfl dX11_ticks_52 rfl rfl rfl rfl rfl (Nat.le_of_ble_eq_true rfl) (by decide) V (fun M2 V => ?_)
      refine rj_iincV (c := 1) (fun y => [(0, .ref 59), (1, .int v1), (2, .int v2), (3, .int y)]) dX11_ticks_55 3 rfl (by decide) (by decide) rfl (fun _ => rfl) (fun x1 ex1 => ?_)
      have V := V x1 ex1
      refine rj_goto (tgt := 36) dX11_ticks_58 (by decide) ?_
      exact rs_sub [0, 1, 2, 3] rfl V
set_option maxRecDepth 100000 in
set_option maxHeartbeats 4000000 in
theorem vX11_ticks_67 {w : Wd} {h : Nat} (v1 : Int32) (v2 : Int32) (v3 : Int32)  (M : Mem) (Q : Option Value → Mem → Prop) (V : ((192 ≤ v3 → (vp_in 4 666 ∧ (vp_in 4 666 ∧ ∀ M1 : Mem, M1 = mset M 60 (Int32.toNatClampNeg 4) ((M 60 (Int32.toNatClampNeg 4)) + 1) → (∀ x1 : Int32, x1 = v2 + 1 → RM w (h + 1) kX11_ticks 2 [(0, .ref 59), (1, .int v1), (2, .int x1)] [] M1 Q)))) ∧ (¬ (192 ≤ v3) → (vp_in (210 + v3) 666 ∧ (vp_in 2 666 ∧ (((M 60 (Int32.toNatClampNeg (210 + v3))) ≤ (M 60 (Int32.toNatClampNeg 2)) → (vp_in (210 + v3) 666 ∧ ∀ M1 : Mem, M1 = mset M 60 (Int32.toNatClampNeg (210 + v3)) 0 → (∀ x1 : Int32, x1 = v3 + 1 → RM w (h + 1) kX11_ticks 67 [(0, .ref 59), (1, .int v1), (2, .int v2), (3, .int x1)] [] M1 Q))) ∧ (¬ ((M 60 (Int32.toNatClampNeg (210 + v3))) ≤ (M 60 (Int32.toNatClampNeg 2))) → (vp_in (210 + v3) 666 ∧ (vp_in 2 666 ∧ (vp_in (210 + v3) 666 ∧ ∀ M1 : Mem, M1 = mset M 60 (Int32.toNatClampNeg (210 + v3)) ((M 60 (Int32.toNatClampNeg (210 + v3))) - (M 60 (Int32.toNatClampNeg 2))) → (∀ x1 : Int32, x1 = v3 + 1 → RM w (h + 1) kX11_ticks 67 [(0, .ref 59), (1, .int v1), (2, .int v2), (3, .int x1)] [] M1 Q))))))))))) : RM w (h + 1) kX11_ticks 67 [(0, .ref 59), (1, .int v1), (2, .int v2), (3, .int v3)] [] M Q := by
  refine rj_iload_n dX11_ticks_67 3 rfl rfl ?_
  refine rj_sipush (v := 192) dX11_ticks_68 (by decide) ?_
  obtain ⟨V1, V2⟩ := V
  refine rj_icmp_ge (tgt := 130) dX11_ticks_71 (by decide) (fun hc => ?_) (fun hc => ?_)
  · have V := V1 hc
    refine rj_aload_n dX11_ticks_130 0 rfl rfl ?_
    refine rs_getR (t := 60) fl_RX11_9 rfl (by decide) (by decide) rfl dX11_ticks_131 rfl (by omega) ?_
    refine rj_iconst (v := 4) dX11_ticks_134 (by decide) ?_
    refine rj_dup2 dX11_ticks_135 rfl rfl ?_
    obtain ⟨hb, V⟩ := V
    refine rs_iald dX11_ticks_136 rfl hb ?_
    refine rj_iconst (v := 1) dX11_ticks_137 (by decide) ?_
    refine rj_iadd dX11_ticks_138 ?_
    obtain ⟨hb, V⟩ := V
    refine rs_iast dX11_ticks_139 rfl hb (fun M1 eM1 => ?_)
    have V := V M1 eM1
    refine rj_iincV (c := 1) (fun y => [(0, .ref 59), (1, .int v1), (2, .int y), (3, .int v3)]) dX11_ticks_140 2 rfl (by decide) (by decide) rfl (fun _ => rfl) (fun x1 ex1 => ?_)
    have V := V x1 ex1
    refine rj_goto (tgt := 2) dX11_ticks_143 (by decide) ?_
    exact rs_sub [0, 1, 2] rfl V
  · have V := V2 hc
    refine rj_aload_n dX11_ticks_74 0 rfl rfl ?_
    refine rs_getR (t := 60) fl_RX11_9 rfl (by decide) (by decide) rfl dX11_ticks_75 rfl (by omega) ?_
    refine rj_sipush (v := 210) dX11_ticks_78 (by decide) ?_
    refine rj_iload_n dX11_ticks_81 3 rfl rfl ?_
    refine rj_iadd dX11_ticks_82 ?_
    refine rj_aload_n dX11_ticks_83 0 rfl rfl ?_
    refine rs_getR (t := 60) fl_RX11_9 rfl (by decide) (by decide) rfl dX11_ticks_84 rfl (by omega) ?_
    refine rj_sipush (v := 210) dX11_ticks_87 (by decide) ?_
    refine rj_iload_n dX11_ticks_90 3 rfl rfl ?_
    refine rj_iadd dX11_ticks_91 ?_
    obtain ⟨hb, V⟩ := V
    refine rs_iald dX11_ticks_92 rfl hb ?_
    refine rj_aload_n dX11_ticks_93 0 rfl rfl ?_
    refine rs_getR (t := 60) fl_RX11_9 rfl (by decide) (by decide) rfl dX11_ticks_94 rfl (by omega) ?_
    refine rj_iconst (v := 2) dX11_ticks_97 (by decide) ?_
    obtain ⟨hb, V⟩ := V
    refine rs_iald dX11_ticks_98 rfl hb ?_
    obtain ⟨V1, V2⟩ := V
    refine rj_icmp_le (tgt := 122) dX11_ticks_99 (by decide) (fun hc => ?_) (fun hc => ?_)
    · have V := V1 hc
      refine rj_iconst (v := 0) dX11_ticks_122 (by decide) ?_
      obtain ⟨hb, V⟩ := V
      refine rs_iast dX11_ticks_123 rfl hb (fun M1 eM1 => ?_)
      have V := V M1 eM1
      refine rj_iincV (c := 1) (fun y => [(0, .ref 59), (1, .int v1), (2, .int v2), (3, .int y)]) dX11_ticks_124 3 rfl (by decide) (by decide) rfl (fun _ => rfl) (fun x1 ex1 => ?_)
      have V := V x1 ex1
      refine rj_goto (tgt := 67) dX11_ticks_127 (by decide) ?_
      exact rs_sub [0, 1, 2, 3] rfl V
    · have V := V2 hc
      refine rj_aload_n dX11_ticks_102 0 rfl rfl ?_
      refine rs_getR (t := 60) fl_RX11_9 rfl (by decide) (by decide) rfl dX11_ticks_103 rfl (by omega) ?_
      refine rj_sipush (v := 210) dX11_ticks_106 (by decide) ?_
      refine rj_iload_n dX11_ticks_109 3 rfl rfl ?_
      refine rj_iadd dX11_ticks_110 ?_
      obtain ⟨hb, V⟩ := V
      refine rs_iald dX11_ticks_111 rfl hb ?_
      refine rj_aload_n dX11_ticks_112 0 rfl rfl ?_
      refine rs_getR (t := 60) fl_RX11_9 rfl (by decide) (by decide) rfl dX11_ticks_113 rfl (by omega) ?_
      refine rj_iconst (v := 2) dX11_ticks_116 (by decide) ?_
      obtain ⟨hb, V⟩ := V
      refine rs_iald dX11_ticks_117 rfl hb ?_
      refine rj_isub dX11_ticks_118 ?_
      refine rj_goto (tgt := 123) dX11_ticks_119 (by decide) ?_
      obtain ⟨hb, V⟩ := V
      refine rs_iast dX11_ticks_123 rfl hb (fun M1 eM1 => ?_)
      have V := V M1 eM1
      refine rj_iincV (c := 1) (fun y => [(0, .ref 59), (1, .int v1), (2, .int v2), (3, .int y)]) dX11_ticks_124 3 rfl (by decide) (by decide) rfl (fun _ => rfl) (fun x1 ex1 => ?_)
      have V := V x1 ex1
      refine rj_goto (tgt := 67) dX11_ticks_127 (by decide) ?_
      exact rs_sub [0, 1, 2, 3] rfl V
-- X11_tick
set_option maxRecDepth 100000 in
set_option maxHeartbeats 4000000 in
theorem vX11_tick_0 {w : Wd} {h : Nat} (a0 : Int32)  (M : Mem) (Q : Option Value → Mem → Prop) (V : ((((1 : Int32) ≤ a0 ∧ a0 ≤ (50 : Int32)) → (CSv w h kX11_ticks [.ref 59, .int a0] M (fun M1 => (CSi w h kX11_drops [.ref 59] M1 (fun r1 M2 => (Q (some (.int r1)) M2)))))) ∧ (¬ (((1 : Int32) ≤ a0 ∧ a0 ≤ (50 : Int32))) → (CSi w h kX11_finds [.ref 59, .int (-1000001)] M (fun r1 M1 => (Q (some (.int r1)) M1)))))) : RM w (h + 1) kX11_tick 0 [(0, .ref 59), (1, .int a0)] [] M Q := by
  refine rj_iload_n dX11_tick_0 1 rfl rfl ?_
  refine rj_i2l dX11_tick_1 ?_
  refine rj_lconst (v := 1) dX11_tick_2 (by decide) ?_
  refine rj_ldc2 (v := 50) rfl kl_RX11_160 dX11_tick_3 ?_
  refine rm_callSi [.long (Int32.toInt64 a0), .long 1, .long 50] (rest := []) (K := fun x M' => b2i ((1 : Int32) ≤ a0 ∧ a0 ≤ (50 : Int32)) = x ∧ M = M') ml_RX11_43 mtX11_in rfl dX11_tick_6 rfl rfl (Nat.le_of_ble_eq_true rfl) (by decide) (uX11_in (a0) (1) (50) (by decide) (by decide) ⟨rfl, rfl⟩) (fun x M' hx => ?_)
  obtain ⟨rfl, rfl⟩ := hx
  obtain ⟨V1, V2⟩ := V
  refine rs_if_neB (tgt := 19) dX11_tick_9 (by decide) (fun hc => ?_) (fun hc => ?_)
  · have V := V1 hc
    refine rj_aload_n dX11_tick_19 0 rfl rfl ?_
    refine rj_iload_n dX11_tick_20 1 rfl rfl ?_
    refine rm_callVv [.int a0] (rest := []) ml_RX11_162 mvX11_ticks rfl dX11_tick_21 rfl rfl rfl rfl rfl (Nat.le_of_ble_eq_true rfl) (by decide) V (fun M1 V => ?_)
    refine rj_aload_n dX11_tick_24 0 rfl rfl ?_
    refine rm_callVi [] (rest := []) ml_RX11_165 mvX11_drops rfl dX11_tick_25 rfl rfl rfl rfl rfl (Nat.le_of_ble_eq_true rfl) (by decide) V (fun r1 M2 V => ?_)
    exact rm_iret dX11_tick_28 rfl rfl V
  · have V := V2 hc
    refine rj_aload_n dX11_tick_12 0 rfl rfl ?_
    refine rj_ldc (v := (-1000001)) rfl kc_RX11_40 dX11_tick_13 ?_
    refine rm_callVi [.int (-1000001)] (rest := []) ml_RX11_94 mvX11_finds rfl dX11_tick_15 rfl rfl rfl rfl rfl (Nat.le_of_ble_eq_true rfl) (by decide) V (fun r1 M1 V => ?_)
    exact rm_iret dX11_tick_18 rfl rfl V
-- X11_next
set_option maxRecDepth 100000 in
set_option maxHeartbeats 4000000 in
theorem vX11_next_0 {w : Wd} {h : Nat} (a0 : Int32)  (M : Mem) (Q : Option Value → Mem → Prop) (V : ((((0 : Int32) ≤ a0 ∧ a0 ≤ (7 : Int32)) → (CSi w h kX11_isDrop [.ref 59, .int a0] M (fun r1 M1 => ((r1 = 0 → (CSi w h kX11_finds [.ref 59, .int (-1000004)] M1 (fun r2 M2 => (Q (some (.int r2)) M2)))) ∧ (¬ (r1 = 0) → (CSi w h kX11_nextOf [.ref 59, .int a0] M1 (fun r2 M2 => (Q (some (.int r2)) M2)))))))) ∧ (¬ (((0 : Int32) ≤ a0 ∧ a0 ≤ (7 : Int32))) → (CSi w h kX11_finds [.ref 59, .int (-1000001)] M (fun r1 M1 => (Q (some (.int r1)) M1)))))) : RM w (h + 1) kX11_next 0 [(0, .ref 59), (1, .int a0)] [] M Q := by
  refine rj_iload_n dX11_next_0 1 rfl rfl ?_
  refine rj_i2l dX11_next_1 ?_
  refine rj_lconst (v := 0) dX11_next_2 (by decide) ?_
  refine rj_ldc2 (v := 7) rfl kl_RX11_51 dX11_next_3 ?_
  refine rm_callSi [.long (Int32.toInt64 a0), .long 0, .long 7] (rest := []) (K := fun x M' => b2i ((0 : Int32) ≤ a0 ∧ a0 ≤ (7 : Int32)) = x ∧ M = M') ml_RX11_43 mtX11_in rfl dX11_next_6 rfl rfl (Nat.le_of_ble_eq_true rfl) (by decide) (uX11_in (a0) (0) (7) (by decide) (by decide) ⟨rfl, rfl⟩) (fun x M' hx => ?_)
  obtain ⟨rfl, rfl⟩ := hx
  obtain ⟨V1, V2⟩ := V
  refine rs_if_neB (tgt := 19) dX11_next_9 (by decide) (fun hc => ?_) (fun hc => ?_)
  · have V := V1 hc
    refine rj_aload_n dX11_next_19 0 rfl rfl ?_
    refine rj_iload_n dX11_next_20 1 rfl rfl ?_
    refine rm_callVi [.int a0] (rest := []) ml_RX11_137 mvX11_isDrop rfl dX11_next_21 rfl rfl rfl rfl rfl (Nat.le_of_ble_eq_true rfl) (by decide) V (fun r1 M1 V => ?_)
    obtain ⟨V1, V2⟩ := V
    refine rj_if_eq (tgt := 35) dX11_next_24 (by decide) (fun hc => ?_) (fun hc => ?_)
    · have V := V1 hc
      refine rj_aload_n dX11_next_35 0 rfl rfl ?_
      refine rj_ldc (v := (-1000004)) rfl kc_RX11_126 dX11_next_36 ?_
      refine rm_callVi [.int (-1000004)] (rest := []) ml_RX11_94 mvX11_finds rfl dX11_next_38 rfl rfl rfl rfl rfl (Nat.le_of_ble_eq_true rfl) (by decide) V (fun r2 M2 V => ?_)
      exact rm_iret dX11_next_41 rfl rfl V
    · have V := V2 hc
      refine rj_aload_n dX11_next_27 0 rfl rfl ?_
      refine rj_iload_n dX11_next_28 1 rfl rfl ?_
      refine rm_callVi [.int a0] (rest := []) ml_RX11_144 mvX11_nextOf rfl dX11_next_29 rfl rfl rfl rfl rfl (Nat.le_of_ble_eq_true rfl) (by decide) V (fun r2 M2 V => ?_)
      refine rj_goto (tgt := 41) dX11_next_32 (by decide) ?_
      exact rm_iret dX11_next_41 rfl rfl V
  · have V := V2 hc
    refine rj_aload_n dX11_next_12 0 rfl rfl ?_
    refine rj_ldc (v := (-1000001)) rfl kc_RX11_40 dX11_next_13 ?_
    refine rm_callVi [.int (-1000001)] (rest := []) ml_RX11_94 mvX11_finds rfl dX11_next_15 rfl rfl rfl rfl rfl (Nat.le_of_ble_eq_true rfl) (by decide) V (fun r1 M1 V => ?_)
    exact rm_iret dX11_next_18 rfl rfl V
-- X11_pour
set_option maxRecDepth 100000 in
set_option maxHeartbeats 4000000 in
theorem vX11_pour_0 {w : Wd} {h : Nat} (hh : 1 ≤ h) (a0 : Int32) (a1 : Int32)  (M : Mem) (Q : Option Value → Mem → Prop) (V : ((¬ (((0 : Int32) ≤ a0 ∧ a0 ≤ (7 : Int32))) → (CSi w h kX11_finds [.ref 59, .int (-1000001)] M (fun r1 M1 => (Q (some (.int r1)) M1)))) ∧ (((0 : Int32) ≤ a0 ∧ a0 ≤ (7 : Int32)) → (((1 ≤ a1 ∧ a1 ≤ 99) → (CSi w h kX11_isDrop [.ref 59, .int a0] M (fun r1 M1 => ((¬ (r1 = 0) → (CSi w h kX11_of [.ref 59, .int a0, .int 2] M1 (fun r2 M2 => (∀ x1 : Int32, x1 = (r2 + a1) → (vp_in ((402 + (4 * a0)) + 2) 666 ∧ ∀ M3 : Mem, M3 = mset M2 60 (Int32.toNatClampNeg ((402 + (4 * a0)) + 2)) (if x1 ≤ 99 then x1 else (99 : Int32)) → (CSi w h kX11_of [.ref 59, .int a0, .int 2] M3 (fun r3 M4 => (Q (some (.int r3)) M4)))))))) ∧ (r1 = 0 → (CSi w h kX11_finds [.ref 59, .int (-1000004)] M1 (fun r2 M2 => (Q (some (.int r2)) M2)))))))) ∧ (¬ ((1 ≤ a1 ∧ a1 ≤ 99)) → (CSi w h kX11_finds [.ref 59, .int (-1000001)] M (fun r1 M1 => (Q (some (.int r1)) M1)))))))) : RM w (h + 1) kX11_pour 0 [(0, .ref 59), (1, .int a0), (2, .int a1)] [] M Q := by
  refine rj_iload_n dX11_pour_0 1 rfl rfl ?_
  refine rj_i2l dX11_pour_1 ?_
  refine rj_lconst (v := 0) dX11_pour_2 (by decide) ?_
  refine rj_ldc2 (v := 7) rfl kl_RX11_51 dX11_pour_3 ?_
  refine rm_callSi [.long (Int32.toInt64 a0), .long 0, .long 7] (rest := []) (K := fun x M' => b2i ((0 : Int32) ≤ a0 ∧ a0 ≤ (7 : Int32)) = x ∧ M = M') ml_RX11_43 mtX11_in rfl dX11_pour_6 rfl rfl (Nat.le_of_ble_eq_true rfl) (by decide) (uX11_in (a0) (0) (7) (by decide) (by decide) ⟨rfl, rfl⟩) (fun x M' hx => ?_)
  obtain ⟨rfl, rfl⟩ := hx
  obtain ⟨V1, V2⟩ := V
  refine rs_if_eqB (tgt := 19) dX11_pour_9 (by decide) (fun hc => ?_) (fun hc => ?_)
  · have V := V1 hc
    refine rj_aload_n dX11_pour_19 0 rfl rfl ?_
    refine rj_ldc (v := (-1000001)) rfl kc_RX11_40 dX11_pour_20 ?_
    refine rm_callVi [.int (-1000001)] (rest := []) ml_RX11_94 mvX11_finds rfl dX11_pour_22 rfl rfl rfl rfl rfl (Nat.le_of_ble_eq_true rfl) (by decide) V (fun r1 M1 V => ?_)
    exact rm_iret dX11_pour_25 rfl rfl V
  · have V := V2 hc
    refine rj_iload_n dX11_pour_12 2 rfl rfl ?_
    refine rm_callSi [.int a1] (rest := []) (K := fun x M' => b2i (1 ≤ a1 ∧ a1 ≤ 99) = x ∧ M = M') ml_RX11_130 mtX11_isWater rfl dX11_pour_13 rfl rfl (Nat.le_of_ble_eq_true rfl) (by decide) (uX11_isWater (by omega) ⟨rfl, rfl⟩) (fun x M' hx => ?_)
    obtain ⟨rfl, rfl⟩ := hx
    obtain ⟨V1, V2⟩ := V
    refine rs_if_neB (tgt := 26) dX11_pour_16 (by decide) (fun hc => ?_) (fun hc => ?_)
    · have V := V1 hc
      refine rj_aload_n dX11_pour_26 0 rfl rfl ?_
      refine rj_iload_n dX11_pour_27 1 rfl rfl ?_
      refine rm_callVi [.int a0] (rest := []) ml_RX11_137 mvX11_isDrop rfl dX11_pour_28 rfl rfl rfl rfl rfl (Nat.le_of_ble_eq_true rfl) (by decide) V (fun r1 M1 V => ?_)
      obtain ⟨V1, V2⟩ := V
      refine rj_if_ne (tgt := 41) dX11_pour_31 (by decide) (fun hc => ?_) (fun hc => ?_)
      · have V := V1 hc
        refine rj_aload_n dX11_pour_41 0 rfl rfl ?_
        refine rj_iload_n dX11_pour_42 1 rfl rfl ?_
        refine rj_iconst (v := 2) dX11_pour_43 (by decide) ?_
        refine rm_callVi [.int a0, .int 2] (rest := []) ml_RX11_53 mvX11_of rfl dX11_pour_44 rfl rfl rfl rfl rfl (Nat.le_of_ble_eq_true rfl) (by decide) V (fun r2 M2 V => ?_)
        refine rj_iload_n dX11_pour_47 2 rfl rfl ?_
        refine rj_iadd dX11_pour_48 ?_
        refine rj_top (fun x1 ex1 => ?_)
        have V := V x1 ex1
        refine rj_istore_n (lv' := [(0, .ref 59), (1, .int a0), (2, .int a1), (3, .int x1)]) dX11_pour_49 rfl (by decide) rfl rfl ?_
        refine rj_aload_n dX11_pour_50 0 rfl rfl ?_
        refine rs_getR (t := 60) fl_RX11_9 rfl (by decide) (by decide) rfl dX11_pour_51 rfl (by omega) ?_
        refine rj_sipush (v := 402) dX11_pour_54 (by decide) ?_
        refine rj_iconst (v := 4) dX11_pour_57 (by decide) ?_
        refine rj_iload_n dX11_pour_58 1 rfl rfl ?_
        refine rj_imul dX11_pour_59 ?_
        refine rj_iadd dX11_pour_60 ?_
        refine rj_iconst (v := 2) dX11_pour_61 (by decide) ?_
        refine rj_iadd dX11_pour_62 ?_
        refine rj_iload_n dX11_pour_63 3 rfl rfl ?_
        refine rj_bipush (v := 99) dX11_pour_64 (by decide) ?_
        have KD : RM w (h + 1) kX11_pour 75 [(0, .ref 59), (1, .int a0), (2, .int a1), (3, .int x1)] [.int (if x1 ≤ 99 then x1 else (99 : Int32)), .int ((402 + (4 * a0)) + 2), .ref 60] M2 Q := by
          obtain ⟨hb, V⟩ := V
          refine rs_iast dX11_pour_75 rfl hb (fun M3 eM3 => ?_)
          have V := V M3 eM3
          refine rj_aload_n dX11_pour_76 0 rfl rfl ?_
          refine rj_iload_n dX11_pour_77 1 rfl rfl ?_
          refine rj_iconst (v := 2) dX11_pour_78 (by decide) ?_
          refine rm_callVi [.int a0, .int 2] (rest := []) ml_RX11_53 mvX11_of rfl dX11_pour_79 rfl rfl rfl rfl rfl (Nat.le_of_ble_eq_true rfl) (by decide) V (fun r3 M4 V => ?_)
          exact rm_iret dX11_pour_82 rfl rfl V
        refine rj_icmp_le (tgt := 74) dX11_pour_66 (by decide) (fun hc => ?_) (fun hc => ?_)
        · refine rj_iload_n dX11_pour_74 3 rfl rfl ?_
          exact rs_ite_t hc KD
        · refine rj_bipush (v := 99) dX11_pour_69 (by decide) ?_
          refine rj_goto (tgt := 75) dX11_pour_71 (by decide) ?_
          exact rs_ite_f hc KD
      · have V := V2 hc
        refine rj_aload_n dX11_pour_34 0 rfl rfl ?_
        refine rj_ldc (v := (-1000004)) rfl kc_RX11_126 dX11_pour_35 ?_
        refine rm_callVi [.int (-1000004)] (rest := []) ml_RX11_94 mvX11_finds rfl dX11_pour_37 rfl rfl rfl rfl rfl (Nat.le_of_ble_eq_true rfl) (by decide) V (fun r2 M2 V => ?_)
        exact rm_iret dX11_pour_40 rfl rfl V
    · have V := V2 hc
      refine rj_aload_n dX11_pour_19 0 rfl rfl ?_
      refine rj_ldc (v := (-1000001)) rfl kc_RX11_40 dX11_pour_20 ?_
      refine rm_callVi [.int (-1000001)] (rest := []) ml_RX11_94 mvX11_finds rfl dX11_pour_22 rfl rfl rfl rfl rfl (Nat.le_of_ble_eq_true rfl) (by decide) V (fun r1 M1 V => ?_)
      exact rm_iret dX11_pour_25 rfl rfl V
-- X11_shed
set_option maxRecDepth 100000 in
set_option maxHeartbeats 4000000 in
theorem vX11_shed_0 {w : Wd} {h : Nat} (a0 : Int32)  (M : Mem) (Q : Option Value → Mem → Prop) (V : (((((-1) : Int32) ≤ a0 ∧ a0 ≤ (11 : Int32)) → RM w (h + 1) kX11_shed 25 [(0, .ref 59), (1, .int a0), (2, .int 0), (3, .int 0)] [] M Q) ∧ (¬ ((((-1) : Int32) ≤ a0 ∧ a0 ≤ (11 : Int32))) → (CSi w h kX11_finds [.ref 59, .int (-1000001)] M (fun r1 M1 => (Q (some (.int r1)) M1)))))) : RM w (h + 1) kX11_shed 0 [(0, .ref 59), (1, .int a0)] [] M Q := by
  refine rj_iload_n dX11_shed_0 1 rfl rfl ?_
  refine rj_i2l dX11_shed_1 ?_
  refine rj_ldc2 (v := (-1)) rfl kl_RX11_168 dX11_shed_2 ?_
  refine rj_ldc2 (v := 11) rfl kl_RX11_47 dX11_shed_5 ?_
  refine rm_callSi [.long (Int32.toInt64 a0), .long (-1), .long 11] (rest := []) (K := fun x M' => b2i (((-1) : Int32) ≤ a0 ∧ a0 ≤ (11 : Int32)) = x ∧ M = M') ml_RX11_43 mtX11_in rfl dX11_shed_8 rfl rfl (Nat.le_of_ble_eq_true rfl) (by decide) (uX11_in (a0) ((-1)) (11) (by decide) (by decide) ⟨rfl, rfl⟩) (fun x M' hx => ?_)
  obtain ⟨rfl, rfl⟩ := hx
  obtain ⟨V1, V2⟩ := V
  refine rs_if_neB (tgt := 21) dX11_shed_11 (by decide) (fun hc => ?_) (fun hc => ?_)
  · have V := V1 hc
    refine rj_iconst (v := 0) dX11_shed_21 (by decide) ?_
    refine rj_istore_n (lv' := [(0, .ref 59), (1, .int a0), (2, .int 0)]) dX11_shed_22 rfl (by decide) rfl rfl ?_
    refine rj_iconst (v := 0) dX11_shed_23 (by decide) ?_
    refine rj_istore_n (lv' := [(0, .ref 59), (1, .int a0), (2, .int 0), (3, .int 0)]) dX11_shed_24 rfl (by decide) rfl rfl ?_
    exact rs_sub [0, 1, 2, 3] rfl V
  · have V := V2 hc
    refine rj_aload_n dX11_shed_14 0 rfl rfl ?_
    refine rj_ldc (v := (-1000001)) rfl kc_RX11_40 dX11_shed_15 ?_
    refine rm_callVi [.int (-1000001)] (rest := []) ml_RX11_94 mvX11_finds rfl dX11_shed_17 rfl rfl rfl rfl rfl (Nat.le_of_ble_eq_true rfl) (by decide) V (fun r1 M1 V => ?_)
    exact rm_iret dX11_shed_20 rfl rfl V
set_option maxRecDepth 100000 in
set_option maxHeartbeats 4000000 in
theorem vX11_shed_25 {w : Wd} {h : Nat} (v1 : Int32) (v2 : Int32) (v3 : Int32)  (M : Mem) (Q : Option Value → Mem → Prop) (V : ((12 ≤ v3 → (Q (some (.int v2)) M)) ∧ (¬ (12 ≤ v3) → ((v1 < 0 → (vp_in (6 + v3) 666 ∧ (∀ x1 : Int32, x1 = (v2 + (M 60 (Int32.toNatClampNeg (6 + v3)))) → (∀ x2 : Int32, x2 = v3 + 1 → RM w (h + 1) kX11_shed 25 [(0, .ref 59), (1, .int v1), (2, .int x1), (3, .int x2)] [] M Q)))) ∧ (¬ (v1 < 0) → ((¬ (v3 = v1) → (∀ x1 : Int32, x1 = (v2 + 0) → (∀ x2 : Int32, x2 = v3 + 1 → RM w (h + 1) kX11_shed 25 [(0, .ref 59), (1, .int v1), (2, .int x1), (3, .int x2)] [] M Q))) ∧ (v3 = v1 → (vp_in (6 + v3) 666 ∧ (∀ x1 : Int32, x1 = (v2 + (M 60 (Int32.toNatClampNeg (6 + v3)))) → (∀ x2 : Int32, x2 = v3 + 1 → RM w (h + 1) kX11_shed 25 [(0, .ref 59), (1, .int v1), (2, .int x1), (3, .int x2)] [] M Q)))))))))) : RM w (h + 1) kX11_shed 25 [(0, .ref 59), (1, .int v1), (2, .int v2), (3, .int v3)] [] M Q := by
  refine rj_iload_n dX11_shed_25 3 rfl rfl ?_
  refine rj_bipush (v := 12) dX11_shed_26 (by decide) ?_
  obtain ⟨V1, V2⟩ := V
  refine rj_icmp_ge (tgt := 62) dX11_shed_28 (by decide) (fun hc => ?_) (fun hc => ?_)
  · have V := V1 hc
    refine rj_iload_n dX11_shed_62 2 rfl rfl ?_
    exact rm_iret dX11_shed_63 rfl rfl V
  · have V := V2 hc
    refine rj_iload_n dX11_shed_31 2 rfl rfl ?_
    refine rj_iload_n dX11_shed_32 1 rfl rfl ?_
    obtain ⟨V1, V2⟩ := V
    refine rj_if_lt (tgt := 41) dX11_shed_33 (by decide) (fun hc => ?_) (fun hc => ?_)
    · have V := V1 hc
      refine rj_aload_n dX11_shed_41 0 rfl rfl ?_
      refine rs_getR (t := 60) fl_RX11_9 rfl (by decide) (by decide) rfl dX11_shed_42 rfl (by omega) ?_
      refine rj_bipush (v := 6) dX11_shed_45 (by decide) ?_
      refine rj_iload_n dX11_shed_47 3 rfl rfl ?_
      refine rj_iadd dX11_shed_48 ?_
      obtain ⟨hb, V⟩ := V
      refine rs_iald dX11_shed_49 rfl hb ?_
      refine rj_goto (tgt := 54) dX11_shed_50 (by decide) ?_
      refine rj_iadd dX11_shed_54 ?_
      refine rj_top (fun x1 ex1 => ?_)
      have V := V x1 ex1
      refine rj_istore_n (lv' := [(0, .ref 59), (1, .int v1), (2, .int x1), (3, .int v3)]) dX11_shed_55 rfl (by decide) rfl rfl ?_
      refine rj_iincV (c := 1) (fun y => [(0, .ref 59), (1, .int v1), (2, .int x1), (3, .int y)]) dX11_shed_56 3 rfl (by decide) (by decide) rfl (fun _ => rfl) (fun x2 ex2 => ?_)
      have V := V x2 ex2
      refine rj_goto (tgt := 25) dX11_shed_59 (by decide) ?_
      exact rs_sub [0, 1, 2, 3] rfl V
    · have V := V2 hc
      refine rj_iload_n dX11_shed_36 3 rfl rfl ?_
      refine rj_iload_n dX11_shed_37 1 rfl rfl ?_
      obtain ⟨V1, V2⟩ := V
      refine rj_icmp_ne (tgt := 53) dX11_shed_38 (by decide) (fun hc => ?_) (fun hc => ?_)
      · have V := V1 hc
        refine rj_iconst (v := 0) dX11_shed_53 (by decide) ?_
        refine rj_iadd dX11_shed_54 ?_
        refine rj_top (fun x1 ex1 => ?_)
        have V := V x1 ex1
        refine rj_istore_n (lv' := [(0, .ref 59), (1, .int v1), (2, .int x1), (3, .int v3)]) dX11_shed_55 rfl (by decide) rfl rfl ?_
        refine rj_iincV (c := 1) (fun y => [(0, .ref 59), (1, .int v1), (2, .int x1), (3, .int y)]) dX11_shed_56 3 rfl (by decide) (by decide) rfl (fun _ => rfl) (fun x2 ex2 => ?_)
        have V := V x2 ex2
        refine rj_goto (tgt := 25) dX11_shed_59 (by decide) ?_
        exact rs_sub [0, 1, 2, 3] rfl V
      · have V := V2 hc
        refine rj_aload_n dX11_shed_41 0 rfl rfl ?_
        refine rs_getR (t := 60) fl_RX11_9 rfl (by decide) (by decide) rfl dX11_shed_42 rfl (by omega) ?_
        refine rj_bipush (v := 6) dX11_shed_45 (by decide) ?_
        refine rj_iload_n dX11_shed_47 3 rfl rfl ?_
        refine rj_iadd dX11_shed_48 ?_
        obtain ⟨hb, V⟩ := V
        refine rs_iald dX11_shed_49 rfl hb ?_
        refine rj_goto (tgt := 54) dX11_shed_50 (by decide) ?_
        refine rj_iadd dX11_shed_54 ?_
        refine rj_top (fun x1 ex1 => ?_)
        have V := V x1 ex1
        refine rj_istore_n (lv' := [(0, .ref 59), (1, .int v1), (2, .int x1), (3, .int v3)]) dX11_shed_55 rfl (by decide) rfl rfl ?_
        refine rj_iincV (c := 1) (fun y => [(0, .ref 59), (1, .int v1), (2, .int x1), (3, .int y)]) dX11_shed_56 3 rfl (by decide) (by decide) rfl (fun _ => rfl) (fun x2 ex2 => ?_)
        have V := V x2 ex2
        refine rj_goto (tgt := 25) dX11_shed_59 (by decide) ?_
        exact rs_sub [0, 1, 2, 3] rfl V
-- X11_feed
set_option maxRecDepth 100000 in
set_option maxHeartbeats 4000000 in
theorem vX11_feed_0 {w : Wd} {h : Nat} (a0 : Int32) (a1 : Int32)  (M : Mem) (Q : Option Value → Mem → Prop) (V : ((((1 : Int32) ≤ a1 ∧ a1 ≤ (4 : Int32)) → ((((M 59 6) + a1) ≤ 100 → (∀ x1 : Int32, x1 = (a1 - 1) → RM w (h + 1) kX11_feed 41 [(0, .ref 59), (1, .int a0), (3, .int x1)] [] M Q)) ∧ (¬ (((M 59 6) + a1) ≤ 100) → (CSi w h kX11_finds [.ref 59, .int (-1000002)] M (fun r1 M1 => (Q (some (.int r1)) M1)))))) ∧ (¬ (((1 : Int32) ≤ a1 ∧ a1 ≤ (4 : Int32))) → (CSi w h kX11_finds [.ref 59, .int (-1000001)] M (fun r1 M1 => (Q (some (.int r1)) M1)))))) : RM w (h + 1) kX11_feed 0 [(0, .ref 59), (1, .int a0), (2, .int a1)] [] M Q := by
  refine rj_iload_n dX11_feed_0 2 rfl rfl ?_
  refine rj_i2l dX11_feed_1 ?_
  refine rj_lconst (v := 1) dX11_feed_2 (by decide) ?_
  refine rj_ldc2 (v := 4) rfl kl_RX11_170 dX11_feed_3 ?_
  refine rm_callSi [.long (Int32.toInt64 a1), .long 1, .long 4] (rest := []) (K := fun x M' => b2i ((1 : Int32) ≤ a1 ∧ a1 ≤ (4 : Int32)) = x ∧ M = M') ml_RX11_43 mtX11_in rfl dX11_feed_6 rfl rfl (Nat.le_of_ble_eq_true rfl) (by decide) (uX11_in (a1) (1) (4) (by decide) (by decide) ⟨rfl, rfl⟩) (fun x M' hx => ?_)
  obtain ⟨rfl, rfl⟩ := hx
  obtain ⟨V1, V2⟩ := V
  refine rs_if_neB (tgt := 19) dX11_feed_9 (by decide) (fun hc => ?_) (fun hc => ?_)
  · have V := V1 hc
    refine rj_aload_n dX11_feed_19 0 rfl rfl ?_
    refine rs_getI fl_RX11_172 rfl (by decide) (by decide) rfl dX11_feed_20 rfl ?_
    refine rj_iload_n dX11_feed_23 2 rfl rfl ?_
    refine rj_iadd dX11_feed_24 ?_
    refine rj_bipush (v := 100) dX11_feed_25 (by decide) ?_
    obtain ⟨V1, V2⟩ := V
    refine rj_icmp_le (tgt := 37) dX11_feed_27 (by decide) (fun hc => ?_) (fun hc => ?_)
    · have V := V1 hc
      refine rj_iload_n dX11_feed_37 2 rfl rfl ?_
      refine rj_iconst (v := 1) dX11_feed_38 (by decide) ?_
      refine rj_isub dX11_feed_39 ?_
      refine rj_top (fun x1 ex1 => ?_)
      have V := V x1 ex1
      refine rj_istore_n (lv' := [(0, .ref 59), (1, .int a0), (2, .int a1), (3, .int x1)]) dX11_feed_40 rfl (by decide) rfl rfl ?_
      exact rs_sub [0, 1, 3] rfl V
    · have V := V2 hc
      refine rj_aload_n dX11_feed_30 0 rfl rfl ?_
      refine rj_ldc (v := (-1000002)) rfl kc_RX11_136 dX11_feed_31 ?_
      refine rm_callVi [.int (-1000002)] (rest := []) ml_RX11_94 mvX11_finds rfl dX11_feed_33 rfl rfl rfl rfl rfl (Nat.le_of_ble_eq_true rfl) (by decide) V (fun r1 M1 V => ?_)
      exact rm_iret dX11_feed_36 rfl rfl V
  · have V := V2 hc
    refine rj_aload_n dX11_feed_12 0 rfl rfl ?_
    refine rj_ldc (v := (-1000001)) rfl kc_RX11_40 dX11_feed_13 ?_
    refine rm_callVi [.int (-1000001)] (rest := []) ml_RX11_94 mvX11_finds rfl dX11_feed_15 rfl rfl rfl rfl rfl (Nat.le_of_ble_eq_true rfl) (by decide) V (fun r1 M1 V => ?_)
    exact rm_iret dX11_feed_18 rfl rfl V
set_option maxRecDepth 100000 in
set_option maxHeartbeats 4000000 in
theorem vX11_feed_41 {w : Wd} {h : Nat} (v1 : Int32) (v3 : Int32)  (M : Mem) (Q : Option Value → Mem → Prop) (V : ((v3 < 0 → (Q (some (.int (M 59 6))) M)) ∧ (¬ (v3 < 0) → (vp_in (M 59 6) 100 ∧ ∀ M1 : Mem, M1 = mset M 63 (Int32.toNatClampNeg (M 59 6)) ((v1 >>> ((8 * v3) &&& 31)) &&& 255) → (∀ M2 : Mem, M2 = mset M1 59 6 ((M1 59 6) + 1) → (∀ x1 : Int32, x1 = v3 + (-1) → RM w (h + 1) kX11_feed 41 [(0, .ref 59), (1, .int v1), (3, .int x1)] [] M2 Q)))))) : RM w (h + 1) kX11_feed 41 [(0, .ref 59), (1, .int v1), (3, .int v3)] [] M Q := by
  refine rj_iload_n dX11_feed_41 2 rfl rfl ?_
  obtain ⟨V1, V2⟩ := V
  refine rj_if_lt (tgt := 80) dX11_feed_42 (by decide) (fun hc => ?_) (fun hc => ?_)
  · have V := V1 hc
    refine rj_aload_n dX11_feed_80 0 rfl rfl ?_
    refine rs_getI fl_RX11_172 rfl (by decide) (by decide) rfl dX11_feed_81 rfl ?_
    exact rm_iret dX11_feed_84 rfl rfl V
  · have V := V2 hc
    refine rj_aload_n dX11_feed_45 0 rfl rfl ?_
    refine rs_getR (t := 63) fl_RX11_19 rfl (by decide) (by decide) rfl dX11_feed_46 rfl (by omega) ?_
    refine rj_aload_n dX11_feed_49 0 rfl rfl ?_
    refine rs_getI fl_RX11_172 rfl (by decide) (by decide) rfl dX11_feed_50 rfl ?_
    refine rj_iload_n dX11_feed_53 1 rfl rfl ?_
    refine rj_bipush (v := 8) dX11_feed_54 (by decide) ?_
    refine rj_iload_n dX11_feed_56 2 rfl rfl ?_
    refine rj_imul dX11_feed_57 ?_
    refine rj_ishr dX11_feed_58 ?_
    refine rj_sipush (v := 255) dX11_feed_59 (by decide) ?_
    refine rj_iand dX11_feed_62 ?_
    obtain ⟨hb, V⟩ := V
    refine rs_iast dX11_feed_63 rfl hb (fun M1 eM1 => ?_)
    have V := V M1 eM1
    refine rj_aload_n dX11_feed_64 0 rfl rfl ?_
    refine rj_dup dX11_feed_65 rfl ?_
    refine rs_getI fl_RX11_172 rfl (by decide) (by decide) rfl dX11_feed_66 rfl ?_
    refine rj_iconst (v := 1) dX11_feed_69 (by decide) ?_
    refine rj_iadd dX11_feed_70 ?_
    refine rs_putI fl_RX11_172 (ft11_6 _ nofun) rfl (by decide) (by decide) rfl dX11_feed_71 rfl rfl rfl (fun M2 eM2 => ?_)
    have V := V M2 eM2
    refine rj_iincV (c := (-1)) (fun y => [(0, .ref 59), (1, .int v1), (3, .int y)]) dX11_feed_74 2 rfl (by decide) (by decide) rfl (fun _ => rfl) (fun x1 ex1 => ?_)
    have V := V x1 ex1
    refine rj_goto (tgt := 41) dX11_feed_77 (by decide) ?_
    exact rs_sub [0, 1, 2] rfl V
-- X11_wipe
set_option maxRecDepth 100000 in
set_option maxHeartbeats 4000000 in
theorem vX11_wipe_0 {w : Wd} {h : Nat}   (M : Mem) (Q : Option Value → Mem → Prop) (V : (∀ x1 : Int32, x1 = (M 59 6) → (∀ M1 : Mem, M1 = mset M 59 6 0 → (Q (some (.int x1)) M1)))) : RM w h kX11_wipe 0 [(0, .ref 59)] [] M Q := by
  refine rj_aload_n dX11_wipe_0 0 rfl rfl ?_
  refine rs_getI fl_RX11_172 rfl (by decide) (by decide) rfl dX11_wipe_1 rfl ?_
  refine rj_top (fun x1 ex1 => ?_)
  have V := V x1 ex1
  refine rj_istore_n (lv' := [(0, .ref 59), (1, .int x1)]) dX11_wipe_4 rfl (by decide) rfl rfl ?_
  refine rj_aload_n dX11_wipe_5 0 rfl rfl ?_
  refine rj_iconst (v := 0) dX11_wipe_6 (by decide) ?_
  refine rs_putI fl_RX11_172 (ft11_6 _ nofun) rfl (by decide) (by decide) rfl dX11_wipe_7 rfl rfl rfl (fun M1 eM1 => ?_)
  have V := V M1 eM1
  refine rj_iload_n dX11_wipe_10 1 rfl rfl ?_
  exact rm_iret dX11_wipe_11 rfl rfl V
-- X11_isByte
set_option maxRecDepth 100000 in
set_option maxHeartbeats 4000000 in
theorem vX11_isByte_0 {w : Wd} {h : Nat} (a0 : Int32) (a1 : Int32) (a2 : Int32)  (M : Mem) (Q : Option Value → Mem → Prop) (V : (((M 59 6) ≤ a0 → (Q (some (.int 0)) M)) ∧ (¬ ((M 59 6) ≤ a0) → (vp_in a0 100 ∧ (Q (some (.int (b2i ((a1 ≤ (M 63 (Int32.toNatClampNeg a0)) ∧ (M 63 (Int32.toNatClampNeg a0)) ≤ a2))))) M))))) : RM w (h + 1) kX11_isByte 0 [(0, .ref 59), (1, .int a0), (2, .int a1), (3, .int a2)] [] M Q := by
  refine rj_iload_n dX11_isByte_0 1 rfl rfl ?_
  refine rj_aload_n dX11_isByte_1 0 rfl rfl ?_
  refine rs_getI fl_RX11_172 rfl (by decide) (by decide) rfl dX11_isByte_2 rfl ?_
  obtain ⟨V1, V2⟩ := V
  refine rj_icmp_ge (tgt := 29) dX11_isByte_5 (by decide) (fun hc => ?_) (fun hc => ?_)
  · have V := V1 hc
    refine rj_iconst (v := 0) dX11_isByte_29 (by decide) ?_
    exact rm_iret dX11_isByte_30 rfl rfl V
  · have V := V2 hc
    refine rj_aload_n dX11_isByte_8 0 rfl rfl ?_
    refine rs_getR (t := 63) fl_RX11_19 rfl (by decide) (by decide) rfl dX11_isByte_9 rfl (by omega) ?_
    refine rj_iload_n dX11_isByte_12 1 rfl rfl ?_
    obtain ⟨hb, V⟩ := V
    refine rs_iald dX11_isByte_13 rfl hb ?_
    refine rj_i2l dX11_isByte_14 ?_
    refine rj_iload_n dX11_isByte_15 2 rfl rfl ?_
    refine rj_i2l dX11_isByte_16 ?_
    refine rj_iload_n dX11_isByte_17 3 rfl rfl ?_
    refine rj_i2l dX11_isByte_18 ?_
    refine rm_callSi [.long (Int32.toInt64 (M 63 (Int32.toNatClampNeg a0))), .long (Int32.toInt64 a1), .long (Int32.toInt64 a2)] (rest := []) (K := fun x M' => b2i (a1 ≤ (M 63 (Int32.toNatClampNeg a0)) ∧ (M 63 (Int32.toNatClampNeg a0)) ≤ a2) = x ∧ M = M') ml_RX11_43 mtX11_in rfl dX11_isByte_19 rfl rfl (Nat.le_of_ble_eq_true rfl) (by decide) (uX11_in ((M 63 (Int32.toNatClampNeg a0))) (a1) (a2) rfl rfl ⟨rfl, rfl⟩) (fun x M' hx => ?_)
    obtain ⟨rfl, rfl⟩ := hx
    have KD : RM w (h + 1) kX11_isByte 30 [(0, .ref 59), (1, .int a0), (2, .int a1), (3, .int a2)] [.int (b2i ((a1 ≤ (M 63 (Int32.toNatClampNeg a0)) ∧ (M 63 (Int32.toNatClampNeg a0)) ≤ a2)))] M Q := by
      exact rm_iret dX11_isByte_30 rfl (isB_n isB_b2i) V
    refine rs_if_eqB (tgt := 29) dX11_isByte_22 (by decide) (fun hc => ?_) (fun hc => ?_)
    · refine rj_iconst (v := 0) dX11_isByte_29 (by decide) ?_
      exact rs_b0 hc KD
    · refine rj_iconst (v := 1) dX11_isByte_25 (by decide) ?_
      refine rj_goto (tgt := 30) dX11_isByte_26 (by decide) ?_
      exact rs_b1 hc KD
-- X11_token
set_option maxRecDepth 100000 in
set_option maxHeartbeats 4000000 in
theorem vX11_token_0 {w : Wd} {h : Nat}   (M : Mem) (Q : Option Value → Mem → Prop) (V : (∀ M1 : Mem, M1 = mset M 59 8 (M 59 9) → RM w (h + 1) kX11_token 8 [(0, .ref 59)] [] M1 Q)) : RM w (h + 1) kX11_token 0 [(0, .ref 59)] [] M Q := by
  refine rj_aload_n dX11_token_0 0 rfl rfl ?_
  refine rj_aload_n dX11_token_1 0 rfl rfl ?_
  refine rs_getI fl_RX11_176 rfl (by decide) (by decide) rfl dX11_token_2 rfl ?_
  refine rs_putI fl_RX11_179 (ft11_8 _ nofun) rfl (by decide) (by decide) rfl dX11_token_5 rfl rfl rfl (fun M1 eM1 => ?_)
  have V := V M1 eM1
  exact rs_sub [0] rfl V
set_option maxRecDepth 100000 in
set_option maxHeartbeats 4000000 in
theorem vX11_token_8 {w : Wd} {h : Nat}   (M : Mem) (Q : Option Value → Mem → Prop) (V : (CSi w h kX11_isByte [.ref 59, .int (M 59 8), .int 32, .int 32] M (fun r1 M1 => ((r1 = 0 → (∀ M2 : Mem, M2 = mset M1 59 9 (M1 59 8) → (∀ M3 : Mem, M3 = mset M2 59 10 0 → ((¬ ((M3 59 8) = (M3 59 6)) → (CSi w h kX11_isByte [.ref 59, .int (M3 59 8), .int 97, .int 122] M3 (fun r2 M4 => ((r2 = 0 → (CSi w h kX11_isByte [.ref 59, .int (M4 59 8), .int 48, .int 57] M4 (fun r3 M5 => (∀ M6 : Mem, M6 = mset M5 59 7 (if r3 = 0 then (3 : Int32) else (2 : Int32)) → ((¬ ((M6 59 7) = 3) → RM w (h + 1) kX11_token 125 [(0, .ref 59)] [] M6 Q) ∧ ((M6 59 7) = 3 → (∀ M7 : Mem, M7 = mset M6 59 9 ((M6 59 9) + 1) → RM w (h + 1) kX11_token 125 [(0, .ref 59)] [] M7 Q))))))) ∧ (¬ (r2 = 0) → (∀ M5 : Mem, M5 = mset M4 59 7 1 → ((¬ ((M5 59 7) = 3) → RM w (h + 1) kX11_token 125 [(0, .ref 59)] [] M5 Q) ∧ ((M5 59 7) = 3 → (∀ M6 : Mem, M6 = mset M5 59 9 ((M5 59 9) + 1) → RM w (h + 1) kX11_token 125 [(0, .ref 59)] [] M6 Q))))))))) ∧ ((M3 59 8) = (M3 59 6) → (∀ M4 : Mem, M4 = mset M3 59 7 0 → ((¬ ((M4 59 7) = 3) → RM w (h + 1) kX11_token 125 [(0, .ref 59)] [] M4 Q) ∧ ((M4 59 7) = 3 → (∀ M5 : Mem, M5 = mset M4 59 9 ((M4 59 9) + 1) → RM w (h + 1) kX11_token 125 [(0, .ref 59)] [] M5 Q))))))))) ∧ (¬ (r1 = 0) → (∀ M2 : Mem, M2 = mset M1 59 8 ((M1 59 8) + 1) → RM w (h + 1) kX11_token 8 [(0, .ref 59)] [] M2 Q)))))) : RM w (h + 1) kX11_token 8 [(0, .ref 59)] [] M Q := by
  refine rj_aload_n dX11_token_8 0 rfl rfl ?_
  refine rj_aload_n dX11_token_9 0 rfl rfl ?_
  refine rs_getI fl_RX11_179 rfl (by decide) (by decide) rfl dX11_token_10 rfl ?_
  refine rj_bipush (v := 32) dX11_token_13 (by decide) ?_
  refine rj_bipush (v := 32) dX11_token_15 (by decide) ?_
  refine rm_callVi [.int (M 59 8), .int 32, .int 32] (rest := []) ml_RX11_182 mvX11_isByte rfl dX11_token_17 rfl rfl rfl rfl rfl (Nat.le_of_ble_eq_true rfl) (by decide) V (fun r1 M1 V => ?_)
  obtain ⟨V1, V2⟩ := V
  refine rj_if_eq (tgt := 36) dX11_token_20 (by decide) (fun hc => ?_) (fun hc => ?_)
  · have V := V1 hc
    refine rj_aload_n dX11_token_36 0 rfl rfl ?_
    refine rj_aload_n dX11_token_37 0 rfl rfl ?_
    refine rs_getI fl_RX11_179 rfl (by decide) (by decide) rfl dX11_token_38 rfl ?_
    refine rs_putI fl_RX11_176 (ft11_9 _ nofun) rfl (by decide) (by decide) rfl dX11_token_41 rfl rfl rfl (fun M2 eM2 => ?_)
    have V := V M2 eM2
    refine rj_aload_n dX11_token_44 0 rfl rfl ?_
    refine rj_iconst (v := 0) dX11_token_45 (by decide) ?_
    refine rs_putI fl_RX11_186 (ft11_10 _ nofun) rfl (by decide) (by decide) rfl dX11_token_46 rfl rfl rfl (fun M3 eM3 => ?_)
    have V := V M3 eM3
    refine rj_aload_n dX11_token_49 0 rfl rfl ?_
    refine rj_aload_n dX11_token_50 0 rfl rfl ?_
    refine rs_getI fl_RX11_179 rfl (by decide) (by decide) rfl dX11_token_51 rfl ?_
    refine rj_aload_n dX11_token_54 0 rfl rfl ?_
    refine rs_getI fl_RX11_172 rfl (by decide) (by decide) rfl dX11_token_55 rfl ?_
    obtain ⟨V1, V2⟩ := V
    refine rj_icmp_ne (tgt := 65) dX11_token_58 (by decide) (fun hc => ?_) (fun hc => ?_)
    · have V := V1 hc
      refine rj_aload_n dX11_token_65 0 rfl rfl ?_
      refine rj_aload_n dX11_token_66 0 rfl rfl ?_
      refine rs_getI fl_RX11_179 rfl (by decide) (by decide) rfl dX11_token_67 rfl ?_
      refine rj_bipush (v := 97) dX11_token_70 (by decide) ?_
      refine rj_bipush (v := 122) dX11_token_72 (by decide) ?_
      refine rm_callVi [.int (M3 59 8), .int 97, .int 122] (rest := [.ref 59]) ml_RX11_182 mvX11_isByte rfl dX11_token_74 rfl rfl rfl rfl rfl (Nat.le_of_ble_eq_true rfl) (by decide) V (fun r2 M4 V => ?_)
      obtain ⟨V1, V2⟩ := V
      refine rj_if_eq (tgt := 84) dX11_token_77 (by decide) (fun hc => ?_) (fun hc => ?_)
      · have V := V1 hc
        refine rj_aload_n dX11_token_84 0 rfl rfl ?_
        refine rj_aload_n dX11_token_85 0 rfl rfl ?_
        refine rs_getI fl_RX11_179 rfl (by decide) (by decide) rfl dX11_token_86 rfl ?_
        refine rj_bipush (v := 48) dX11_token_89 (by decide) ?_
        refine rj_bipush (v := 57) dX11_token_91 (by decide) ?_
        refine rm_callVi [.int (M4 59 8), .int 48, .int 57] (rest := [.ref 59]) ml_RX11_182 mvX11_isByte rfl dX11_token_93 rfl rfl rfl rfl rfl (Nat.le_of_ble_eq_true rfl) (by decide) V (fun r3 M5 V => ?_)
        have KD : RM w (h + 1) kX11_token 104 [(0, .ref 59)] [.int (if r3 = 0 then (3 : Int32) else (2 : Int32)), .ref 59] M5 Q := by
          refine rs_putI fl_RX11_189 (ft11_7 _ nofun) rfl (by decide) (by decide) rfl dX11_token_104 rfl rfl rfl (fun M6 eM6 => ?_)
          have V := V M6 eM6
          refine rj_aload_n dX11_token_107 0 rfl rfl ?_
          refine rs_getI fl_RX11_189 rfl (by decide) (by decide) rfl dX11_token_108 rfl ?_
          refine rj_iconst (v := 3) dX11_token_111 (by decide) ?_
          obtain ⟨V1, V2⟩ := V
          refine rj_icmp_ne (tgt := 125) dX11_token_112 (by decide) (fun hc => ?_) (fun hc => ?_)
          · have V := V1 hc
            exact rs_sub [0] rfl V
          · have V := V2 hc
            refine rj_aload_n dX11_token_115 0 rfl rfl ?_
            refine rj_dup dX11_token_116 rfl ?_
            refine rs_getI fl_RX11_176 rfl (by decide) (by decide) rfl dX11_token_117 rfl ?_
            refine rj_iconst (v := 1) dX11_token_120 (by decide) ?_
            refine rj_iadd dX11_token_121 ?_
            refine rs_putI fl_RX11_176 (ft11_9 _ nofun) rfl (by decide) (by decide) rfl dX11_token_122 rfl rfl rfl (fun M7 eM7 => ?_)
            have V := V M7 eM7
            exact rs_sub [0] rfl V
        refine rj_if_eq (tgt := 103) dX11_token_96 (by decide) (fun hc => ?_) (fun hc => ?_)
        · refine rj_iconst (v := 3) dX11_token_103 (by decide) ?_
          exact rs_ite_t hc KD
        · refine rj_iconst (v := 2) dX11_token_99 (by decide) ?_
          refine rj_goto (tgt := 104) dX11_token_100 (by decide) ?_
          exact rs_ite_f hc KD
      · have V := V2 hc
        refine rj_iconst (v := 1) dX11_token_80 (by decide) ?_
        refine rj_goto (tgt := 104) dX11_token_81 (by decide) ?_
        refine rs_putI fl_RX11_189 (ft11_7 _ nofun) rfl (by decide) (by decide) rfl dX11_token_104 rfl rfl rfl (fun M5 eM5 => ?_)
        have V := V M5 eM5
        refine rj_aload_n dX11_token_107 0 rfl rfl ?_
        refine rs_getI fl_RX11_189 rfl (by decide) (by decide) rfl dX11_token_108 rfl ?_
        refine rj_iconst (v := 3) dX11_token_111 (by decide) ?_
        obtain ⟨V1, V2⟩ := V
        refine rj_icmp_ne (tgt := 125) dX11_token_112 (by decide) (fun hc => ?_) (fun hc => ?_)
        · have V := V1 hc
          exact rs_sub [0] rfl V
        · have V := V2 hc
          refine rj_aload_n dX11_token_115 0 rfl rfl ?_
          refine rj_dup dX11_token_116 rfl ?_
          refine rs_getI fl_RX11_176 rfl (by decide) (by decide) rfl dX11_token_117 rfl ?_
          refine rj_iconst (v := 1) dX11_token_120 (by decide) ?_
          refine rj_iadd dX11_token_121 ?_
          refine rs_putI fl_RX11_176 (ft11_9 _ nofun) rfl (by decide) (by decide) rfl dX11_token_122 rfl rfl rfl (fun M6 eM6 => ?_)
          have V := V M6 eM6
          exact rs_sub [0] rfl V
    · have V := V2 hc
      refine rj_iconst (v := 0) dX11_token_61 (by decide) ?_
      refine rj_goto (tgt := 104) dX11_token_62 (by decide) ?_
      refine rs_putI fl_RX11_189 (ft11_7 _ nofun) rfl (by decide) (by decide) rfl dX11_token_104 rfl rfl rfl (fun M4 eM4 => ?_)
      have V := V M4 eM4
      refine rj_aload_n dX11_token_107 0 rfl rfl ?_
      refine rs_getI fl_RX11_189 rfl (by decide) (by decide) rfl dX11_token_108 rfl ?_
      refine rj_iconst (v := 3) dX11_token_111 (by decide) ?_
      obtain ⟨V1, V2⟩ := V
      refine rj_icmp_ne (tgt := 125) dX11_token_112 (by decide) (fun hc => ?_) (fun hc => ?_)
      · have V := V1 hc
        exact rs_sub [0] rfl V
      · have V := V2 hc
        refine rj_aload_n dX11_token_115 0 rfl rfl ?_
        refine rj_dup dX11_token_116 rfl ?_
        refine rs_getI fl_RX11_176 rfl (by decide) (by decide) rfl dX11_token_117 rfl ?_
        refine rj_iconst (v := 1) dX11_token_120 (by decide) ?_
        refine rj_iadd dX11_token_121 ?_
        refine rs_putI fl_RX11_176 (ft11_9 _ nofun) rfl (by decide) (by decide) rfl dX11_token_122 rfl rfl rfl (fun M5 eM5 => ?_)
        have V := V M5 eM5
        exact rs_sub [0] rfl V
  · have V := V2 hc
    refine rj_aload_n dX11_token_23 0 rfl rfl ?_
    refine rj_dup dX11_token_24 rfl ?_
    refine rs_getI fl_RX11_179 rfl (by decide) (by decide) rfl dX11_token_25 rfl ?_
    refine rj_iconst (v := 1) dX11_token_28 (by decide) ?_
    refine rj_iadd dX11_token_29 ?_
    refine rs_putI fl_RX11_179 (ft11_8 _ nofun) rfl (by decide) (by decide) rfl dX11_token_30 rfl rfl rfl (fun M2 eM2 => ?_)
    have V := V M2 eM2
    refine rj_goto (tgt := 8) dX11_token_33 (by decide) ?_
    exact rs_sub [0] rfl V
set_option maxRecDepth 100000 in
set_option maxHeartbeats 4000000 in
theorem vX11_token_125 {w : Wd} {h : Nat}   (M : Mem) (Q : Option Value → Mem → Prop) (V : ((¬ ((M 59 7) = 1) → RM w (h + 1) kX11_token 161 [(0, .ref 59)] [] M Q) ∧ ((M 59 7) = 1 → (CSi w h kX11_isByte [.ref 59, .int (M 59 9), .int 97, .int 122] M (fun r1 M1 => ((r1 = 0 → RM w (h + 1) kX11_token 161 [(0, .ref 59)] [] M1 Q) ∧ (¬ (r1 = 0) → (∀ M2 : Mem, M2 = mset M1 59 9 ((M1 59 9) + 1) → RM w (h + 1) kX11_token 125 [(0, .ref 59)] [] M2 Q)))))))) : RM w (h + 1) kX11_token 125 [(0, .ref 59)] [] M Q := by
  refine rj_aload_n dX11_token_125 0 rfl rfl ?_
  refine rs_getI fl_RX11_189 rfl (by decide) (by decide) rfl dX11_token_126 rfl ?_
  refine rj_iconst (v := 1) dX11_token_129 (by decide) ?_
  obtain ⟨V1, V2⟩ := V
  refine rj_icmp_ne (tgt := 161) dX11_token_130 (by decide) (fun hc => ?_) (fun hc => ?_)
  · have V := V1 hc
    exact rs_sub [0] rfl V
  · have V := V2 hc
    refine rj_aload_n dX11_token_133 0 rfl rfl ?_
    refine rj_aload_n dX11_token_134 0 rfl rfl ?_
    refine rs_getI fl_RX11_176 rfl (by decide) (by decide) rfl dX11_token_135 rfl ?_
    refine rj_bipush (v := 97) dX11_token_138 (by decide) ?_
    refine rj_bipush (v := 122) dX11_token_140 (by decide) ?_
    refine rm_callVi [.int (M 59 9), .int 97, .int 122] (rest := []) ml_RX11_182 mvX11_isByte rfl dX11_token_142 rfl rfl rfl rfl rfl (Nat.le_of_ble_eq_true rfl) (by decide) V (fun r1 M1 V => ?_)
    obtain ⟨V1, V2⟩ := V
    refine rj_if_eq (tgt := 161) dX11_token_145 (by decide) (fun hc => ?_) (fun hc => ?_)
    · have V := V1 hc
      exact rs_sub [0] rfl V
    · have V := V2 hc
      refine rj_aload_n dX11_token_148 0 rfl rfl ?_
      refine rj_dup dX11_token_149 rfl ?_
      refine rs_getI fl_RX11_176 rfl (by decide) (by decide) rfl dX11_token_150 rfl ?_
      refine rj_iconst (v := 1) dX11_token_153 (by decide) ?_
      refine rj_iadd dX11_token_154 ?_
      refine rs_putI fl_RX11_176 (ft11_9 _ nofun) rfl (by decide) (by decide) rfl dX11_token_155 rfl rfl rfl (fun M2 eM2 => ?_)
      have V := V M2 eM2
      refine rj_goto (tgt := 125) dX11_token_158 (by decide) ?_
      exact rs_sub [0] rfl V
set_option maxRecDepth 100000 in
set_option maxHeartbeats 4000000 in
theorem vX11_token_161 {w : Wd} {h : Nat}   (M : Mem) (Q : Option Value → Mem → Prop) (V : ((¬ ((M 59 7) = 2) → (Q none M)) ∧ ((M 59 7) = 2 → (CSi w h kX11_isByte [.ref 59, .int (M 59 9), .int 48, .int 57] M (fun r1 M1 => ((r1 = 0 → (Q none M1)) ∧ (¬ (r1 = 0) → (((M1 59 10) ≤ 999 → (vp_in (M1 59 9) 100 ∧ (∀ M2 : Mem, M2 = mset M1 59 10 (((10 * (M1 59 10)) + (M1 63 (Int32.toNatClampNeg (M1 59 9)))) - 48) → (∀ M3 : Mem, M3 = mset M2 59 9 ((M2 59 9) + 1) → RM w (h + 1) kX11_token 161 [(0, .ref 59)] [] M3 Q)))) ∧ (¬ ((M1 59 10) ≤ 999) → (∀ M2 : Mem, M2 = mset M1 59 10 (M1 59 10) → (∀ M3 : Mem, M3 = mset M2 59 9 ((M2 59 9) + 1) → RM w (h + 1) kX11_token 161 [(0, .ref 59)] [] M3 Q))))))))))) : RM w (h + 1) kX11_token 161 [(0, .ref 59)] [] M Q := by
  refine rj_aload_n dX11_token_161 0 rfl rfl ?_
  refine rs_getI fl_RX11_189 rfl (by decide) (by decide) rfl dX11_token_162 rfl ?_
  refine rj_iconst (v := 2) dX11_token_165 (by decide) ?_
  obtain ⟨V1, V2⟩ := V
  refine rj_icmp_ne (tgt := 238) dX11_token_166 (by decide) (fun hc => ?_) (fun hc => ?_)
  · have V := V1 hc
    exact rm_vret dX11_token_238 rfl V
  · have V := V2 hc
    refine rj_aload_n dX11_token_169 0 rfl rfl ?_
    refine rj_aload_n dX11_token_170 0 rfl rfl ?_
    refine rs_getI fl_RX11_176 rfl (by decide) (by decide) rfl dX11_token_171 rfl ?_
    refine rj_bipush (v := 48) dX11_token_174 (by decide) ?_
    refine rj_bipush (v := 57) dX11_token_176 (by decide) ?_
    refine rm_callVi [.int (M 59 9), .int 48, .int 57] (rest := []) ml_RX11_182 mvX11_isByte rfl dX11_token_178 rfl rfl rfl rfl rfl (Nat.le_of_ble_eq_true rfl) (by decide) V (fun r1 M1 V => ?_)
    obtain ⟨V1, V2⟩ := V
    refine rj_if_eq (tgt := 238) dX11_token_181 (by decide) (fun hc => ?_) (fun hc => ?_)
    · have V := V1 hc
      exact rm_vret dX11_token_238 rfl V
    · have V := V2 hc
      refine rj_aload_n dX11_token_184 0 rfl rfl ?_
      refine rj_aload_n dX11_token_185 0 rfl rfl ?_
      refine rs_getI fl_RX11_186 rfl (by decide) (by decide) rfl dX11_token_186 rfl ?_
      refine rj_sipush (v := 999) dX11_token_189 (by decide) ?_
      obtain ⟨V1, V2⟩ := V
      refine rj_icmp_le (tgt := 202) dX11_token_192 (by decide) (fun hc => ?_) (fun hc => ?_)
      · have V := V1 hc
        refine rj_bipush (v := 10) dX11_token_202 (by decide) ?_
        refine rj_aload_n dX11_token_204 0 rfl rfl ?_
        refine rs_getI fl_RX11_186 rfl (by decide) (by decide) rfl dX11_token_205 rfl ?_
        refine rj_imul dX11_token_208 ?_
        refine rj_aload_n dX11_token_209 0 rfl rfl ?_
        refine rs_getR (t := 63) fl_RX11_19 rfl (by decide) (by decide) rfl dX11_token_210 rfl (by omega) ?_
        refine rj_aload_n dX11_token_213 0 rfl rfl ?_
        refine rs_getI fl_RX11_176 rfl (by decide) (by decide) rfl dX11_token_214 rfl ?_
        obtain ⟨hb, V⟩ := V
        refine rs_iald dX11_token_217 rfl hb ?_
        refine rj_iadd dX11_token_218 ?_
        refine rj_bipush (v := 48) dX11_token_219 (by decide) ?_
        refine rj_isub dX11_token_221 ?_
        refine rs_putI fl_RX11_186 (ft11_10 _ nofun) rfl (by decide) (by decide) rfl dX11_token_222 rfl rfl rfl (fun M2 eM2 => ?_)
        have V := V M2 eM2
        refine rj_aload_n dX11_token_225 0 rfl rfl ?_
        refine rj_dup dX11_token_226 rfl ?_
        refine rs_getI fl_RX11_176 rfl (by decide) (by decide) rfl dX11_token_227 rfl ?_
        refine rj_iconst (v := 1) dX11_token_230 (by decide) ?_
        refine rj_iadd dX11_token_231 ?_
        refine rs_putI fl_RX11_176 (ft11_9 _ nofun) rfl (by decide) (by decide) rfl dX11_token_232 rfl rfl rfl (fun M3 eM3 => ?_)
        have V := V M3 eM3
        refine rj_goto (tgt := 161) dX11_token_235 (by decide) ?_
        exact rs_sub [0] rfl V
      · have V := V2 hc
        refine rj_aload_n dX11_token_195 0 rfl rfl ?_
        refine rs_getI fl_RX11_186 rfl (by decide) (by decide) rfl dX11_token_196 rfl ?_
        refine rj_goto (tgt := 222) dX11_token_199 (by decide) ?_
        refine rs_putI fl_RX11_186 (ft11_10 _ nofun) rfl (by decide) (by decide) rfl dX11_token_222 rfl rfl rfl (fun M2 eM2 => ?_)
        have V := V M2 eM2
        refine rj_aload_n dX11_token_225 0 rfl rfl ?_
        refine rj_dup dX11_token_226 rfl ?_
        refine rs_getI fl_RX11_176 rfl (by decide) (by decide) rfl dX11_token_227 rfl ?_
        refine rj_iconst (v := 1) dX11_token_230 (by decide) ?_
        refine rj_iadd dX11_token_231 ?_
        refine rs_putI fl_RX11_176 (ft11_9 _ nofun) rfl (by decide) (by decide) rfl dX11_token_232 rfl rfl rfl (fun M3 eM3 => ?_)
        have V := V M3 eM3
        refine rj_goto (tgt := 161) dX11_token_235 (by decide) ?_
        exact rs_sub [0] rfl V

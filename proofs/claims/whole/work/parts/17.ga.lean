-- J0_length_8abf5
set_option maxRecDepth 100000 in
set_option maxHeartbeats 4000000 in
theorem vJ0_length_8abf5_0 {w : Wd} {h : Nat} (i : Nat) (hi : i < 28)  (M : Mem) (Q : Option Value → Mem → Prop) (V : (CSi w h kJ0_coder_7d493 [.ref (1000 + (4 + i))] M (fun r1 M1 => (Q (some (.int ((Int32.ofNat (strB i).length) >>> (r1 &&& 31)))) M1)))) : RM w (h + 1) kJ0_length_8abf5 0 [(0, .ref (1000 + (4 + i)))] [] M Q := by
  refine rj_aload_n dJ0_length_8abf5_0 0 rfl rfl ?_
  refine rj_sval hi rfl fs_RJ0_9 dJ0_length_8abf5_1 ?_
  refine rj_balen hi rfl dJ0_length_8abf5_4 ?_
  refine rj_aload_n dJ0_length_8abf5_5 0 rfl rfl ?_
  refine rm_callTi [] (rest := [.int (Int32.ofNat (strB i).length)]) hi ml_RJ0_335 mvJ0_coder_7d493 rfl dJ0_length_8abf5_6 rfl rfl rfl (Nat.le_of_ble_eq_true rfl) (by decide) V (fun r1 M1 V => ?_)
  refine rj_ishr dJ0_length_8abf5_9 ?_
  exact rm_iret dJ0_length_8abf5_10 rfl rfl V
-- J0_charAt_5068e
set_option maxRecDepth 100000 in
set_option maxHeartbeats 4000000 in
theorem vJ0_charAt_5068e_0 {w : Wd} {h : Nat} (i : Nat) (a0 : Int32) (hi : i < 28)  (M : Mem) (Q : Option Value → Mem → Prop) (V : (CSi w h kJ0_isLatin1_aae02 [.ref (1000 + (4 + i))] M (fun r1 M1 => ((r1 = 0 → (CSi w h kJ2_charAt_3b067 [.ref (1000 + (32 + i)), .int a0] M1 (fun r2 M2 => (narrow .char (.int r2) = .int r2 ∧ Q (some (.int r2)) M2)))) ∧ (¬ (r1 = 0) → (CSi w h kJ1_charAt_3b067 [.ref (1000 + (32 + i)), .int a0] M1 (fun r2 M2 => (narrow .char (.int r2) = .int r2 ∧ Q (some (.int r2)) M2)))))))) : RM w (h + 1) kJ0_charAt_5068e 0 [(0, .ref (1000 + (4 + i))), (1, .int a0)] [] M Q := by
  refine rj_aload_n dJ0_charAt_5068e_0 0 rfl rfl ?_
  refine rm_callTi [] (rest := []) hi ml_RJ0_492 mvJ0_isLatin1_aae02 rfl dJ0_charAt_5068e_1 rfl rfl rfl (Nat.le_of_ble_eq_true rfl) (by decide) V (fun r1 M1 V => ?_)
  obtain ⟨V1, V2⟩ := V
  refine rj_if_eq (tgt := 16) dJ0_charAt_5068e_4 (by decide) (fun hc => ?_) (fun hc => ?_)
  · have V := V1 hc
    refine rj_aload_n dJ0_charAt_5068e_16 0 rfl rfl ?_
    refine rj_sval hi rfl fs_RJ0_9 dJ0_charAt_5068e_17 ?_
    refine rj_iload_n dJ0_charAt_5068e_20 1 rfl rfl ?_
    refine rm_callSi [.ref (1000 + (32 + i)), .int a0] (rest := []) ml_RJ0_498 mtJ2_charAt_3b067 rfl dJ0_charAt_5068e_21 rfl rfl (Nat.le_of_ble_eq_true rfl) (by decide) V (fun r2 M2 V => ?_)
    obtain ⟨hb, V⟩ := V
    exact rm_iret dJ0_charAt_5068e_24 rfl hb V
  · have V := V2 hc
    refine rj_aload_n dJ0_charAt_5068e_7 0 rfl rfl ?_
    refine rj_sval hi rfl fs_RJ0_9 dJ0_charAt_5068e_8 ?_
    refine rj_iload_n dJ0_charAt_5068e_11 1 rfl rfl ?_
    refine rm_callSi [.ref (1000 + (32 + i)), .int a0] (rest := []) ml_RJ0_495 mtJ1_charAt_3b067 rfl dJ0_charAt_5068e_12 rfl rfl (Nat.le_of_ble_eq_true rfl) (by decide) V (fun r2 M2 V => ?_)
    obtain ⟨hb, V⟩ := V
    exact rm_iret dJ0_charAt_5068e_15 rfl hb V
-- J0_coder_7d493
set_option maxRecDepth 100000 in
set_option maxHeartbeats 4000000 in
theorem vJ0_coder_7d493_0 {w : Wd} {h : Nat} (i : Nat) (hi : i < 28)  (M : Mem) (Q : Option Value → Mem → Prop) (V : (narrow .byte (.int (b2i ((1 : Int32) = 0))) = .int (b2i ((1 : Int32) = 0)) ∧ Q (some (.int (b2i ((1 : Int32) = 0)))) M)) : RM w h kJ0_coder_7d493 0 [(0, .ref (1000 + (4 + i)))] [] M Q := by
  refine rj_getsC rfl fs_RJ0_38 dJ0_coder_7d493_0 ?_
  have KD : RM w h kJ0_coder_7d493 14 [(0, .ref (1000 + (4 + i)))] [.int (b2i ((1 : Int32) = 0))] M Q := by
    obtain ⟨hb, V⟩ := V
    exact rm_iret dJ0_coder_7d493_14 rfl hb V
  refine rj_if_eq (tgt := 13) dJ0_coder_7d493_3 (by decide) (fun hc => ?_) (fun hc => ?_)
  · refine rj_iconst (v := 1) dJ0_coder_7d493_13 (by decide) ?_
    exact rs_b1 hc KD
  · refine rj_aload_n dJ0_coder_7d493_6 0 rfl rfl ?_
    refine rj_scod hi rfl fs_RJ0_15 dJ0_coder_7d493_7 ?_
    refine rj_goto (tgt := 14) dJ0_coder_7d493_10 (by decide) ?_
    exact rs_b0 hc KD
-- J0_isLatin1_aae02
set_option maxRecDepth 100000 in
set_option maxHeartbeats 4000000 in
theorem vJ0_isLatin1_aae02_0 {w : Wd} {h : Nat} (i : Nat) (hi : i < 28)  (M : Mem) (Q : Option Value → Mem → Prop) (V : (((1 : Int32) = 0 → (Q (some (.int 0)) M)) ∧ (¬ ((1 : Int32) = 0) → (Q (some (.int (b2i ((0 : Int32) = 0)))) M)))) : RM w h kJ0_isLatin1_aae02 0 [(0, .ref (1000 + (4 + i)))] [] M Q := by
  refine rj_getsC rfl fs_RJ0_38 dJ0_isLatin1_aae02_0 ?_
  obtain ⟨V1, V2⟩ := V
  refine rj_if_eq (tgt := 17) dJ0_isLatin1_aae02_3 (by decide) (fun hc => ?_) (fun hc => ?_)
  · have V := V1 hc
    refine rj_iconst (v := 0) dJ0_isLatin1_aae02_17 (by decide) ?_
    exact rm_iret dJ0_isLatin1_aae02_18 rfl rfl V
  · have V := V2 hc
    refine rj_aload_n dJ0_isLatin1_aae02_6 0 rfl rfl ?_
    refine rj_scod hi rfl fs_RJ0_15 dJ0_isLatin1_aae02_7 ?_
    have KD : RM w h kJ0_isLatin1_aae02 18 [(0, .ref (1000 + (4 + i)))] [.int (b2i ((0 : Int32) = 0))] M Q := by
      exact rm_iret dJ0_isLatin1_aae02_18 rfl (isB_n isB_b2i) V
    refine rj_if_ne (tgt := 17) dJ0_isLatin1_aae02_10 (by decide) (fun hc => ?_) (fun hc => ?_)
    · refine rj_iconst (v := 0) dJ0_isLatin1_aae02_17 (by decide) ?_
      exact rs_b0 hc KD
    · refine rj_iconst (v := 1) dJ0_isLatin1_aae02_13 (by decide) ?_
      refine rj_goto (tgt := 18) dJ0_isLatin1_aae02_14 (by decide) ?_
      exact rs_b1 hc KD
-- J0_checkIndex_df160
set_option maxRecDepth 100000 in
set_option maxHeartbeats 4000000 in
theorem vJ0_checkIndex_df160_0 {w : Wd} {h : Nat} (a0 : Int32) (a1 : Int32)  (M : Mem) (Q : Option Value → Mem → Prop) (V : (CSi w h kJ3_checkIndex_8e157 [.int a0, .int a1, (wV w)] M (fun r1 M1 => (Q none M1)))) : RM w (h + 1) kJ0_checkIndex_df160 0 [(0, .int a0), (1, .int a1)] [] M Q := by
  refine rj_iload_n dJ0_checkIndex_df160_0 0 rfl rfl ?_
  refine rj_iload_n dJ0_checkIndex_df160_1 1 rfl rfl ?_
  refine rj_getsF rfl fs_RJ0_1053 dJ0_checkIndex_df160_2 ?_
  refine rm_callSi [.int a0, .int a1, (wV w)] (rest := []) ml_RJ0_1059 mtJ3_checkIndex_8e157 rfl dJ0_checkIndex_df160_5 rfl rfl (Nat.le_of_ble_eq_true rfl) (by decide) V (fun r1 M1 V => ?_)
  refine rj_pop dJ0_checkIndex_df160_8 rfl ?_
  exact rm_vret dJ0_checkIndex_df160_9 rfl V
-- J1_charAt_3b067
set_option maxRecDepth 100000 in
set_option maxHeartbeats 4000000 in
theorem vJ1_charAt_3b067_0 {w : Wd} {h : Nat} (i : Nat) (a0 : Int32) (hi : i < 28)  (M : Mem) (Q : Option Value → Mem → Prop) (V : (CSv w h kJ0_checkIndex_df160 [.int a0, .int (Int32.ofNat (strB i).length)] M (fun M1 => (vp_in a0 (strB i).length ∧ (narrow .char (.int ((Int32.toUInt32 (((strB i).getD (Int32.toNatClampNeg a0) 0) &&& 255) % 65536).toInt32)) = .int ((Int32.toUInt32 (((strB i).getD (Int32.toNatClampNeg a0) 0) &&& 255) % 65536).toInt32) ∧ Q (some (.int ((Int32.toUInt32 (((strB i).getD (Int32.toNatClampNeg a0) 0) &&& 255) % 65536).toInt32))) M1))))) : RM w (h + 1) kJ1_charAt_3b067 0 [(0, .ref (1000 + (32 + i))), (1, .int a0)] [] M Q := by
  refine rj_iload_n dJ1_charAt_3b067_0 1 rfl rfl ?_
  refine rj_aload_n dJ1_charAt_3b067_1 0 rfl rfl ?_
  refine rj_balen hi rfl dJ1_charAt_3b067_2 ?_
  refine rm_callSv [.int a0, .int (Int32.ofNat (strB i).length)] (rest := []) ml_RJ1_9 mtJ0_checkIndex_df160 rfl dJ1_charAt_3b067_3 rfl rfl (Nat.le_of_ble_eq_true rfl) (by decide) V (fun M1 V => ?_)
  refine rj_aload_n dJ1_charAt_3b067_6 0 rfl rfl ?_
  refine rj_iload_n dJ1_charAt_3b067_7 1 rfl rfl ?_
  obtain ⟨hb, V⟩ := V
  refine rj_bald hi hb dJ1_charAt_3b067_8 ?_
  refine rj_sipush (v := 255) dJ1_charAt_3b067_9 (by decide) ?_
  refine rj_iand dJ1_charAt_3b067_12 ?_
  refine rj_i2c dJ1_charAt_3b067_13 ?_
  obtain ⟨hb, V⟩ := V
  exact rm_iret dJ1_charAt_3b067_14 rfl hb V
-- J7_fill_53178
set_option maxRecDepth 100000 in
set_option maxHeartbeats 4000000 in
theorem vJ7_fill_53178_0 {w : Wd} {h : Nat} (a : Nat) (la : Nat) (a0 : Int32) (ha : lay a = (12, la)) (pa : 0 < la) (qa : la < 2147483648)  (M : Mem) (Q : Option Value → Mem → Prop) (V : (∀ x1 : Int32, x1 = (Int32.ofNat la) → RM w h kJ7_fill_53178 5 [(0, .ref a), (1, .int a0), (2, .int 0), (3, .int x1)] [] M Q)) : RM w h kJ7_fill_53178 0 [(0, .ref a), (1, .int a0)] [] M Q := by
  refine rj_iconst (v := 0) dJ7_fill_53178_0 (by decide) ?_
  refine rj_istore_n (lv' := [(0, .ref a), (1, .int a0), (2, .int 0)]) dJ7_fill_53178_1 rfl (by decide) rfl rfl ?_
  refine rj_aload_n dJ7_fill_53178_2 0 rfl rfl ?_
  refine rs_alen (v := (Int32.ofNat la)) dJ7_fill_53178_3 ha pa rfl ?_
  refine rj_top (fun x1 ex1 => ?_)
  have V := V x1 ex1
  refine rj_istore_n (lv' := [(0, .ref a), (1, .int a0), (2, .int 0), (3, .int x1)]) dJ7_fill_53178_4 rfl (by decide) rfl rfl ?_
  exact rs_sub [0, 1, 2, 3] rfl V
set_option maxRecDepth 100000 in
set_option maxHeartbeats 4000000 in
theorem vJ7_fill_53178_5 {w : Wd} {h : Nat} (a : Nat) (la : Nat) (v1 : Int32) (v2 : Int32) (v3 : Int32) (ha : lay a = (12, la)) (pa : 0 < la) (qa : la < 2147483648)  (M : Mem) (Q : Option Value → Mem → Prop) (V : ((v3 ≤ v2 → (Q none M)) ∧ (¬ (v3 ≤ v2) → (vp_in v2 la ∧ ∀ M1 : Mem, M1 = mset M a (Int32.toNatClampNeg v2) v1 → (∀ x1 : Int32, x1 = v2 + 1 → RM w h kJ7_fill_53178 5 [(0, .ref a), (1, .int v1), (2, .int x1), (3, .int v3)] [] M1 Q))))) : RM w h kJ7_fill_53178 5 [(0, .ref a), (1, .int v1), (2, .int v2), (3, .int v3)] [] M Q := by
  refine rj_iload_n dJ7_fill_53178_5 2 rfl rfl ?_
  refine rj_iload_n dJ7_fill_53178_6 3 rfl rfl ?_
  obtain ⟨V1, V2⟩ := V
  refine rj_icmp_ge (tgt := 20) dJ7_fill_53178_7 (by decide) (fun hc => ?_) (fun hc => ?_)
  · have V := V1 hc
    exact rm_vret dJ7_fill_53178_20 rfl V
  · have V := V2 hc
    refine rj_aload_n dJ7_fill_53178_10 0 rfl rfl ?_
    refine rj_iload_n dJ7_fill_53178_11 2 rfl rfl ?_
    refine rj_iload_n dJ7_fill_53178_12 1 rfl rfl ?_
    obtain ⟨hb, V⟩ := V
    refine rs_iast dJ7_fill_53178_13 ha hb (fun M1 eM1 => ?_)
    have V := V M1 eM1
    refine rj_iincV (c := 1) (fun y => [(0, .ref a), (1, .int v1), (2, .int y), (3, .int v3)]) dJ7_fill_53178_14 2 rfl (by decide) (by decide) rfl (fun _ => rfl) (fun x1 ex1 => ?_)
    have V := V x1 ex1
    refine rj_goto (tgt := 5) dJ7_fill_53178_17 (by decide) ?_
    exact rs_sub [0, 1, 2, 3] rfl V
-- J3_checkIndex_8e157
set_option maxRecDepth 100000 in
set_option maxHeartbeats 4000000 in
theorem vJ3_checkIndex_8e157_0 {w : Wd} {h : Nat} (a0 : Int32) (a1 : Int32) (u : Value)  (M : Mem) (Q : Option Value → Mem → Prop) (V : ((a0 < 0 → False) ∧ (¬ (a0 < 0) → ((a0 < a1 → (Q (some (.int a0)) M)) ∧ (¬ (a0 < a1) → False))))) : RM w (h + 1) kJ3_checkIndex_8e157 0 [(0, .int a0), (1, .int a1), (2, u)] [] M Q := by
  refine rj_iload_n dJ3_checkIndex_8e157_0 0 rfl rfl ?_
  obtain ⟨V1, V2⟩ := V
  refine rj_if_lt (tgt := 9) dJ3_checkIndex_8e157_1 (by decide) (fun hc => ?_) (fun hc => ?_)
  · have V := V1 hc
    exact V.elim
  · have V := V2 hc
    refine rj_iload_n dJ3_checkIndex_8e157_4 0 rfl rfl ?_
    refine rj_iload_n dJ3_checkIndex_8e157_5 1 rfl rfl ?_
    obtain ⟨V1, V2⟩ := V
    refine rj_icmp_lt (tgt := 16) dJ3_checkIndex_8e157_6 (by decide) (fun hc => ?_) (fun hc => ?_)
    · have V := V1 hc
      refine rj_iload_n dJ3_checkIndex_8e157_16 0 rfl rfl ?_
      exact rm_iret dJ3_checkIndex_8e157_17 rfl rfl V
    · have V := V2 hc
      exact V.elim
-- X0_become
set_option maxRecDepth 100000 in
set_option maxHeartbeats 4000000 in
theorem vX0_become_0 {w : Wd} {h : Nat} (A : Nat) (B : Nat) (hA : isDropsC A) (hB : isDropsC B)  (M : Mem) (Q : Option Value → Mem → Prop) (V : (CSv w h kX10_copyAll [.ref (B + 1), .ref (A + 1)] M (fun M1 => (CSv w h kX10_copyAll [.ref (B + 2), .ref (A + 2)] M1 (fun M2 => (CSv w h kX10_copyAll [.ref (B + 3), .ref (A + 3)] M2 (fun M3 => (CSv w h kX10_copyAll [.ref (B + 4), .ref (A + 4)] M3 (fun M4 => (Q none M4)))))))))) : RM w (h + 1) kX0_become 0 [(0, .ref A), (1, .ref B)] [] M Q := by
  refine rj_aload_n dX0_become_0 1 rfl rfl ?_
  refine rs_getR (t := B + 1) fl_RX0_9 rfl (by decide) (by decide) rfl dX0_become_1 hB.1 (by omega) ?_
  refine rj_aload_n dX0_become_4 0 rfl rfl ?_
  refine rs_getR (t := A + 1) fl_RX0_9 rfl (by decide) (by decide) rfl dX0_become_5 hA.1 (by omega) ?_
  refine rm_callSNv [.ref (B + 1), .ref (A + 1)] (rest := []) mn_RX0_24 mtX10_copyAll rfl dX0_become_8 rfl rfl (Nat.le_of_ble_eq_true rfl) (by decide) V (fun M1 V => ?_)
  refine rj_aload_n dX0_become_11 1 rfl rfl ?_
  refine rs_getR (t := B + 2) fl_RX0_15 rfl (by decide) (by decide) rfl dX0_become_12 hB.1 (by omega) ?_
  refine rj_aload_n dX0_become_15 0 rfl rfl ?_
  refine rs_getR (t := A + 2) fl_RX0_15 rfl (by decide) (by decide) rfl dX0_become_16 hA.1 (by omega) ?_
  refine rm_callSNv [.ref (B + 2), .ref (A + 2)] (rest := []) mn_RX0_24 mtX10_copyAll rfl dX0_become_19 rfl rfl (Nat.le_of_ble_eq_true rfl) (by decide) V (fun M2 V => ?_)
  refine rj_aload_n dX0_become_22 1 rfl rfl ?_
  refine rs_getR (t := B + 3) fl_RX0_18 rfl (by decide) (by decide) rfl dX0_become_23 hB.1 (by omega) ?_
  refine rj_aload_n dX0_become_26 0 rfl rfl ?_
  refine rs_getR (t := A + 3) fl_RX0_18 rfl (by decide) (by decide) rfl dX0_become_27 hA.1 (by omega) ?_
  refine rm_callSNv [.ref (B + 3), .ref (A + 3)] (rest := []) mn_RX0_24 mtX10_copyAll rfl dX0_become_30 rfl rfl (Nat.le_of_ble_eq_true rfl) (by decide) V (fun M3 V => ?_)
  refine rj_aload_n dX0_become_33 1 rfl rfl ?_
  refine rs_getR (t := B + 4) fl_RX0_21 rfl (by decide) (by decide) rfl dX0_become_34 hB.1 (by omega) ?_
  refine rj_aload_n dX0_become_37 0 rfl rfl ?_
  refine rs_getR (t := A + 4) fl_RX0_21 rfl (by decide) (by decide) rfl dX0_become_38 hA.1 (by omega) ?_
  refine rm_callSNv [.ref (B + 4), .ref (A + 4)] (rest := []) mn_RX0_24 mtX10_copyAll rfl dX0_become_41 rfl rfl (Nat.le_of_ble_eq_true rfl) (by decide) V (fun M4 V => ?_)
  exact rm_vret dX0_become_44 rfl V
-- X0_isThere
set_option maxRecDepth 100000 in
set_option maxHeartbeats 4000000 in
theorem vX0_isThere_0 {w : Wd} {h : Nat} (a0 : Int32)  (M : Mem) (Q : Option Value → Mem → Prop) (V : (vp_in a0 8 ∧ (Q (some (.int (b2i (¬ ((M 11 (Int32.toNatClampNeg a0)) ≤ 0))))) M))) : RM w h kX0_isThere 0 [(0, .ref 8), (1, .int a0)] [] M Q := by
  refine rj_aload_n dX0_isThere_0 0 rfl rfl ?_
  refine rs_getR (t := 11) fl_RX0_18 rfl (by decide) (by decide) rfl dX0_isThere_1 rfl (by omega) ?_
  refine rj_iload_n dX0_isThere_4 1 rfl rfl ?_
  obtain ⟨hb, V⟩ := V
  refine rs_iald dX0_isThere_5 rfl hb ?_
  have KD : RM w h kX0_isThere 14 [(0, .ref 8), (1, .int a0)] [.int (b2i (¬ ((M 11 (Int32.toNatClampNeg a0)) ≤ 0)))] M Q := by
    exact rm_iret dX0_isThere_14 rfl (isB_n isB_b2i) V
  refine rj_if_le (tgt := 13) dX0_isThere_6 (by decide) (fun hc => ?_) (fun hc => ?_)
  · refine rj_iconst (v := 0) dX0_isThere_13 (by decide) ?_
    exact rs_b0 (fun q => q hc) KD
  · refine rj_iconst (v := 1) dX0_isThere_9 (by decide) ?_
    refine rj_goto (tgt := 14) dX0_isThere_10 (by decide) ?_
    exact rs_b1 hc KD
-- X0_howMany
set_option maxRecDepth 100000 in
set_option maxHeartbeats 4000000 in
theorem vX0_howMany_0 {w : Wd} {h : Nat}   (M : Mem) (Q : Option Value → Mem → Prop) (V : (CSi w h kX10_countAbove0 [.ref 11] M (fun r1 M1 => (Q (some (.int r1)) M1)))) : RM w (h + 1) kX0_howMany 0 [(0, .ref 8)] [] M Q := by
  refine rj_aload_n dX0_howMany_0 0 rfl rfl ?_
  refine rs_getR (t := 11) fl_RX0_18 rfl (by decide) (by decide) rfl dX0_howMany_1 rfl (by omega) ?_
  refine rm_callSNi [.ref 11] (rest := []) mn_RX0_28 mtX10_countAbove0 rfl dX0_howMany_4 rfl rfl (Nat.le_of_ble_eq_true rfl) (by decide) V (fun r1 M1 V => ?_)
  exact rm_iret dX0_howMany_7 rfl rfl V
-- X0_leastFree
set_option maxRecDepth 100000 in
set_option maxHeartbeats 4000000 in
theorem vX0_leastFree_0 {w : Wd} {h : Nat}   (M : Mem) (Q : Option Value → Mem → Prop) (V : RM w (h + 1) kX0_leastFree 2 [(0, .ref 8), (1, .int 0)] [] M Q) : RM w (h + 1) kX0_leastFree 0 [(0, .ref 8)] [] M Q := by
  refine rj_iconst (v := 0) dX0_leastFree_0 (by decide) ?_
  refine rj_istore_n (lv' := [(0, .ref 8), (1, .int 0)]) dX0_leastFree_1 rfl (by decide) rfl rfl ?_
  exact rs_sub [0, 1] rfl V
set_option maxRecDepth 100000 in
set_option maxHeartbeats 4000000 in
theorem vX0_leastFree_2 {w : Wd} {h : Nat} (v1 : Int32)  (M : Mem) (Q : Option Value → Mem → Prop) (V : ((8 ≤ v1 → (Q (some (.int (-1))) M)) ∧ (¬ (8 ≤ v1) → (CSi w h kX0_isThere [.ref 8, .int v1] M (fun r1 M1 => ((¬ (r1 = 0) → (∀ x1 : Int32, x1 = v1 + 1 → RM w (h + 1) kX0_leastFree 2 [(0, .ref 8), (1, .int x1)] [] M1 Q)) ∧ (r1 = 0 → (Q (some (.int v1)) M1)))))))) : RM w (h + 1) kX0_leastFree 2 [(0, .ref 8), (1, .int v1)] [] M Q := by
  refine rj_iload_n dX0_leastFree_2 1 rfl rfl ?_
  refine rj_bipush (v := 8) dX0_leastFree_3 (by decide) ?_
  obtain ⟨V1, V2⟩ := V
  refine rj_icmp_ge (tgt := 24) dX0_leastFree_5 (by decide) (fun hc => ?_) (fun hc => ?_)
  · have V := V1 hc
    refine rj_iconst (v := (-1)) dX0_leastFree_24 (by decide) ?_
    exact rm_iret dX0_leastFree_25 rfl rfl V
  · have V := V2 hc
    refine rj_aload_n dX0_leastFree_8 0 rfl rfl ?_
    refine rj_iload_n dX0_leastFree_9 1 rfl rfl ?_
    refine rm_callVi [.int v1] (rest := []) ml_RX0_32 mvX0_isThere rfl dX0_leastFree_10 rfl rfl rfl rfl rfl (Nat.le_of_ble_eq_true rfl) (by decide) V (fun r1 M1 V => ?_)
    obtain ⟨V1, V2⟩ := V
    refine rj_if_ne (tgt := 18) dX0_leastFree_13 (by decide) (fun hc => ?_) (fun hc => ?_)
    · have V := V1 hc
      refine rj_iincV (c := 1) (fun y => [(0, .ref 8), (1, .int y)]) dX0_leastFree_18 1 rfl (by decide) (by decide) rfl (fun _ => rfl) (fun x1 ex1 => ?_)
      have V := V x1 ex1
      refine rj_goto (tgt := 2) dX0_leastFree_21 (by decide) ?_
      exact rs_sub [0, 1] rfl V
    · have V := V2 hc
      refine rj_iload_n dX0_leastFree_16 1 rfl rfl ?_
      exact rm_iret dX0_leastFree_17 rfl rfl V
-- X0_leastOn
set_option maxRecDepth 100000 in
set_option maxHeartbeats 4000000 in
theorem vX0_leastOn_0 {w : Wd} {h : Nat} (a0 : Int32)  (M : Mem) (Q : Option Value → Mem → Prop) (V : RM w (h + 1) kX0_leastOn 2 [(0, .ref 8), (1, .int a0), (2, .int 0)] [] M Q) : RM w (h + 1) kX0_leastOn 0 [(0, .ref 8), (1, .int a0)] [] M Q := by
  refine rj_iconst (v := 0) dX0_leastOn_0 (by decide) ?_
  refine rj_istore_n (lv' := [(0, .ref 8), (1, .int a0), (2, .int 0)]) dX0_leastOn_1 rfl (by decide) rfl rfl ?_
  exact rs_sub [0, 1, 2] rfl V
set_option maxRecDepth 100000 in
set_option maxHeartbeats 4000000 in
theorem vX0_leastOn_2 {w : Wd} {h : Nat} (v1 : Int32) (v2 : Int32)  (M : Mem) (Q : Option Value → Mem → Prop) (V : ((8 ≤ v2 → (Q (some (.int (-1))) M)) ∧ (¬ (8 ≤ v2) → (CSi w h kX0_isThere [.ref 8, .int v2] M (fun r1 M1 => ((r1 = 0 → (∀ x1 : Int32, x1 = v2 + 1 → RM w (h + 1) kX0_leastOn 2 [(0, .ref 8), (1, .int v1), (2, .int x1)] [] M1 Q)) ∧ (¬ (r1 = 0) → (vp_in v2 8 ∧ ((¬ ((M1 10 (Int32.toNatClampNeg v2)) = v1) → (∀ x1 : Int32, x1 = v2 + 1 → RM w (h + 1) kX0_leastOn 2 [(0, .ref 8), (1, .int v1), (2, .int x1)] [] M1 Q)) ∧ ((M1 10 (Int32.toNatClampNeg v2)) = v1 → (Q (some (.int v2)) M1))))))))))) : RM w (h + 1) kX0_leastOn 2 [(0, .ref 8), (1, .int v1), (2, .int v2)] [] M Q := by
  refine rj_iload_n dX0_leastOn_2 2 rfl rfl ?_
  refine rj_bipush (v := 8) dX0_leastOn_3 (by decide) ?_
  obtain ⟨V1, V2⟩ := V
  refine rj_icmp_ge (tgt := 34) dX0_leastOn_5 (by decide) (fun hc => ?_) (fun hc => ?_)
  · have V := V1 hc
    refine rj_iconst (v := (-1)) dX0_leastOn_34 (by decide) ?_
    exact rm_iret dX0_leastOn_35 rfl rfl V
  · have V := V2 hc
    refine rj_aload_n dX0_leastOn_8 0 rfl rfl ?_
    refine rj_iload_n dX0_leastOn_9 2 rfl rfl ?_
    refine rm_callVi [.int v2] (rest := []) ml_RX0_32 mvX0_isThere rfl dX0_leastOn_10 rfl rfl rfl rfl rfl (Nat.le_of_ble_eq_true rfl) (by decide) V (fun r1 M1 V => ?_)
    obtain ⟨V1, V2⟩ := V
    refine rj_if_eq (tgt := 28) dX0_leastOn_13 (by decide) (fun hc => ?_) (fun hc => ?_)
    · have V := V1 hc
      refine rj_iincV (c := 1) (fun y => [(0, .ref 8), (1, .int v1), (2, .int y)]) dX0_leastOn_28 2 rfl (by decide) (by decide) rfl (fun _ => rfl) (fun x1 ex1 => ?_)
      have V := V x1 ex1
      refine rj_goto (tgt := 2) dX0_leastOn_31 (by decide) ?_
      exact rs_sub [0, 1, 2] rfl V
    · have V := V2 hc
      refine rj_aload_n dX0_leastOn_16 0 rfl rfl ?_
      refine rs_getR (t := 10) fl_RX0_15 rfl (by decide) (by decide) rfl dX0_leastOn_17 rfl (by omega) ?_
      refine rj_iload_n dX0_leastOn_20 2 rfl rfl ?_
      obtain ⟨hb, V⟩ := V
      refine rs_iald dX0_leastOn_21 rfl hb ?_
      refine rj_iload_n dX0_leastOn_22 1 rfl rfl ?_
      obtain ⟨V1, V2⟩ := V
      refine rj_icmp_ne (tgt := 28) dX0_leastOn_23 (by decide) (fun hc => ?_) (fun hc => ?_)
      · have V := V1 hc
        refine rj_iincV (c := 1) (fun y => [(0, .ref 8), (1, .int v1), (2, .int y)]) dX0_leastOn_28 2 rfl (by decide) (by decide) rfl (fun _ => rfl) (fun x1 ex1 => ?_)
        have V := V x1 ex1
        refine rj_goto (tgt := 2) dX0_leastOn_31 (by decide) ?_
        exact rs_sub [0, 1, 2] rfl V
      · have V := V2 hc
        refine rj_iload_n dX0_leastOn_26 2 rfl rfl ?_
        exact rm_iret dX0_leastOn_27 rfl rfl V
-- X0_addWater
set_option maxRecDepth 100000 in
set_option maxHeartbeats 4000000 in
theorem vX0_addWater_0 {w : Wd} {h : Nat} (a0 : Int32) (a1 : Int32)  (M : Mem) (Q : Option Value → Mem → Prop) (V : (vp_in a0 8 ∧ (vp_in a0 8 ∧ ∀ M1 : Mem, M1 = mset M 11 (Int32.toNatClampNeg a0) (if ((M 11 (Int32.toNatClampNeg a0)) + a1) < 99 then ((M 11 (Int32.toNatClampNeg a0)) + a1) else (99 : Int32)) → (Q none M1)))) : RM w (h + 1) kX0_addWater 0 [(0, .ref 8), (1, .int a0), (2, .int a1)] [] M Q := by
  refine rj_aload_n dX0_addWater_0 0 rfl rfl ?_
  refine rs_getR (t := 11) fl_RX0_18 rfl (by decide) (by decide) rfl dX0_addWater_1 rfl (by omega) ?_
  refine rj_iload_n dX0_addWater_4 1 rfl rfl ?_
  refine rj_bipush (v := 99) dX0_addWater_5 (by decide) ?_
  refine rj_aload_n dX0_addWater_7 0 rfl rfl ?_
  refine rs_getR (t := 11) fl_RX0_18 rfl (by decide) (by decide) rfl dX0_addWater_8 rfl (by omega) ?_
  refine rj_iload_n dX0_addWater_11 1 rfl rfl ?_
  obtain ⟨hb, V⟩ := V
  refine rs_iald dX0_addWater_12 rfl hb ?_
  refine rj_iload_n dX0_addWater_13 2 rfl rfl ?_
  refine rj_iadd dX0_addWater_14 ?_
  refine rm_mmin (rest := [.int a0, .ref 11]) ml_RX0_36 rfl dX0_addWater_15 (Nat.le_of_ble_eq_true rfl) ?_
  obtain ⟨hb, V⟩ := V
  refine rs_iast dX0_addWater_18 rfl hb (fun M1 eM1 => ?_)
  have V := V M1 eM1
  exact rm_vret dX0_addWater_19 rfl V
-- X0_join
set_option maxRecDepth 100000 in
set_option maxHeartbeats 4000000 in
theorem vX0_join_0 {w : Wd} {h : Nat}   (M : Mem) (Q : Option Value → Mem → Prop) (V : RM w (h + 1) kX0_join 2 [(0, .ref 8), (1, .int 0)] [] M Q) : RM w (h + 1) kX0_join 0 [(0, .ref 8)] [] M Q := by
  refine rj_iconst (v := 0) dX0_join_0 (by decide) ?_
  refine rj_istore_n (lv' := [(0, .ref 8), (1, .int 0)]) dX0_join_1 rfl (by decide) rfl rfl ?_
  exact rs_sub [0, 1] rfl V
set_option maxRecDepth 100000 in
set_option maxHeartbeats 4000000 in
theorem vX0_join_2 {w : Wd} {h : Nat} (hh : 1 ≤ h) (v1 : Int32)  (M : Mem) (Q : Option Value → Mem → Prop) (V : ((8 ≤ v1 → (Q none M)) ∧ (¬ (8 ≤ v1) → (CSi w h kX0_isThere [.ref 8, .int v1] M (fun r1 M1 => ((r1 = 0 → ((v1 = v1 → (∀ x1 : Int32, x1 = v1 + 1 → RM w (h + 1) kX0_join 2 [(0, .ref 8), (1, .int x1)] [] M1 Q)) ∧ (¬ (v1 = v1) → ((¬ ((0 ≤ v1 ∧ v1 ≤ 7)) → (∀ x1 : Int32, x1 = v1 + 1 → RM w (h + 1) kX0_join 2 [(0, .ref 8), (1, .int x1)] [] M1 Q)) ∧ ((0 ≤ v1 ∧ v1 ≤ 7) → (vp_in v1 8 ∧ (CSv w h kX0_addWater [.ref 8, .int v1, .int (M1 11 (Int32.toNatClampNeg v1))] M1 (fun M2 => (vp_in v1 8 ∧ ∀ M3 : Mem, M3 = mset M2 11 (Int32.toNatClampNeg v1) 0 → (∀ x1 : Int32, x1 = v1 + 1 → RM w (h + 1) kX0_join 2 [(0, .ref 8), (1, .int x1)] [] M3 Q)))))))))) ∧ (¬ (r1 = 0) → (vp_in v1 8 ∧ (CSi w h kX0_leastOn [.ref 8, .int (M1 10 (Int32.toNatClampNeg v1))] M1 (fun r2 M2 => ((r2 = v1 → (∀ x1 : Int32, x1 = v1 + 1 → RM w (h + 1) kX0_join 2 [(0, .ref 8), (1, .int x1)] [] M2 Q)) ∧ (¬ (r2 = v1) → ((¬ ((0 ≤ r2 ∧ r2 ≤ 7)) → (∀ x1 : Int32, x1 = v1 + 1 → RM w (h + 1) kX0_join 2 [(0, .ref 8), (1, .int x1)] [] M2 Q)) ∧ ((0 ≤ r2 ∧ r2 ≤ 7) → (vp_in v1 8 ∧ (CSv w h kX0_addWater [.ref 8, .int r2, .int (M2 11 (Int32.toNatClampNeg v1))] M2 (fun M3 => (vp_in v1 8 ∧ ∀ M4 : Mem, M4 = mset M3 11 (Int32.toNatClampNeg v1) 0 → (∀ x1 : Int32, x1 = v1 + 1 → RM w (h + 1) kX0_join 2 [(0, .ref 8), (1, .int x1)] [] M4 Q))))))))))))))))))) : RM w (h + 1) kX0_join 2 [(0, .ref 8), (1, .int v1)] [] M Q := by
  refine rj_iload_n dX0_join_2 1 rfl rfl ?_
  refine rj_bipush (v := 8) dX0_join_3 (by decide) ?_
  obtain ⟨V1, V2⟩ := V
  refine rj_icmp_ge (tgt := 67) dX0_join_5 (by decide) (fun hc => ?_) (fun hc => ?_)
  · have V := V1 hc
    exact rm_vret dX0_join_67 rfl V
  · have V := V2 hc
    refine rj_aload_n dX0_join_8 0 rfl rfl ?_
    refine rj_iload_n dX0_join_9 1 rfl rfl ?_
    refine rm_callVi [.int v1] (rest := []) ml_RX0_32 mvX0_isThere rfl dX0_join_10 rfl rfl rfl rfl rfl (Nat.le_of_ble_eq_true rfl) (by decide) V (fun r1 M1 V => ?_)
    obtain ⟨V1, V2⟩ := V
    refine rj_if_eq (tgt := 29) dX0_join_13 (by decide) (fun hc => ?_) (fun hc => ?_)
    · have V := V1 hc
      refine rj_iload_n dX0_join_29 1 rfl rfl ?_
      refine rj_istore_n (lv' := [(0, .ref 8), (1, .int v1), (2, .int v1)]) dX0_join_30 rfl (by decide) rfl rfl ?_
      refine rj_iload_n dX0_join_31 2 rfl rfl ?_
      refine rj_iload_n dX0_join_32 1 rfl rfl ?_
      obtain ⟨V1, V2⟩ := V
      refine rj_icmp_eq (tgt := 61) dX0_join_33 (by decide) (fun hc => ?_) (fun hc => ?_)
      · have V := V1 hc
        refine rj_iincV (c := 1) (fun y => [(0, .ref 8), (1, .int y), (2, .int v1)]) dX0_join_61 1 rfl (by decide) (by decide) rfl (fun _ => rfl) (fun x1 ex1 => ?_)
        have V := V x1 ex1
        refine rj_goto (tgt := 2) dX0_join_64 (by decide) ?_
        exact rs_sub [0, 1] rfl V
      · have V := V2 hc
        refine rj_iload_n dX0_join_36 2 rfl rfl ?_
        refine rm_callSNi [.int v1] (rest := []) (K := fun x M' => b2i (0 ≤ v1 ∧ v1 ≤ 7) = x ∧ M1 = M') mn_RX0_46 mtX10_isDropNumber rfl dX0_join_37 rfl rfl (Nat.le_of_ble_eq_true rfl) (by decide) (uX10_isDropNumber (by omega) ⟨rfl, rfl⟩) (fun x M' hx => ?_)
        obtain ⟨rfl, rfl⟩ := hx
        obtain ⟨V1, V2⟩ := V
        refine rs_if_eqB (tgt := 61) dX0_join_40 (by decide) (fun hc => ?_) (fun hc => ?_)
        · have V := V1 hc
          refine rj_iincV (c := 1) (fun y => [(0, .ref 8), (1, .int y), (2, .int v1)]) dX0_join_61 1 rfl (by decide) (by decide) rfl (fun _ => rfl) (fun x1 ex1 => ?_)
          have V := V x1 ex1
          refine rj_goto (tgt := 2) dX0_join_64 (by decide) ?_
          exact rs_sub [0, 1] rfl V
        · have V := V2 hc
          refine rj_aload_n dX0_join_43 0 rfl rfl ?_
          refine rj_iload_n dX0_join_44 2 rfl rfl ?_
          refine rj_aload_n dX0_join_45 0 rfl rfl ?_
          refine rs_getR (t := 11) fl_RX0_18 rfl (by decide) (by decide) rfl dX0_join_46 rfl (by omega) ?_
          refine rj_iload_n dX0_join_49 1 rfl rfl ?_
          obtain ⟨hb, V⟩ := V
          refine rs_iald dX0_join_50 rfl hb ?_
          refine rm_callVv [.int v1, .int (M1 11 (Int32.toNatClampNeg v1))] (rest := []) ml_RX0_49 mvX0_addWater rfl dX0_join_51 rfl rfl rfl rfl rfl (Nat.le_of_ble_eq_true rfl) (by decide) V (fun M2 V => ?_)
          refine rj_aload_n dX0_join_54 0 rfl rfl ?_
          refine rs_getR (t := 11) fl_RX0_18 rfl (by decide) (by decide) rfl dX0_join_55 rfl (by omega) ?_
          refine rj_iload_n dX0_join_58 1 rfl rfl ?_
          refine rj_iconst (v := 0) dX0_join_59 (by decide) ?_
          obtain ⟨hb, V⟩ := V
          refine rs_iast dX0_join_60 rfl hb (fun M3 eM3 => ?_)
          have V := V M3 eM3
          refine rj_iincV (c := 1) (fun y => [(0, .ref 8), (1, .int y), (2, .int v1)]) dX0_join_61 1 rfl (by decide) (by decide) rfl (fun _ => rfl) (fun x1 ex1 => ?_)
          have V := V x1 ex1
          refine rj_goto (tgt := 2) dX0_join_64 (by decide) ?_
          exact rs_sub [0, 1] rfl V
    · have V := V2 hc
      refine rj_aload_n dX0_join_16 0 rfl rfl ?_
      refine rj_aload_n dX0_join_17 0 rfl rfl ?_
      refine rs_getR (t := 10) fl_RX0_15 rfl (by decide) (by decide) rfl dX0_join_18 rfl (by omega) ?_
      refine rj_iload_n dX0_join_21 1 rfl rfl ?_
      obtain ⟨hb, V⟩ := V
      refine rs_iald dX0_join_22 rfl hb ?_
      refine rm_callVi [.int (M1 10 (Int32.toNatClampNeg v1))] (rest := []) ml_RX0_42 mvX0_leastOn rfl dX0_join_23 rfl rfl rfl rfl rfl (Nat.le_of_ble_eq_true rfl) (by decide) V (fun r2 M2 V => ?_)
      refine rj_goto (tgt := 30) dX0_join_26 (by decide) ?_
      refine rj_istore_n (lv' := [(0, .ref 8), (1, .int v1), (2, .int r2)]) dX0_join_30 rfl (by decide) rfl rfl ?_
      refine rj_iload_n dX0_join_31 2 rfl rfl ?_
      refine rj_iload_n dX0_join_32 1 rfl rfl ?_
      obtain ⟨V1, V2⟩ := V
      refine rj_icmp_eq (tgt := 61) dX0_join_33 (by decide) (fun hc => ?_) (fun hc => ?_)
      · have V := V1 hc
        refine rj_iincV (c := 1) (fun y => [(0, .ref 8), (1, .int y), (2, .int r2)]) dX0_join_61 1 rfl (by decide) (by decide) rfl (fun _ => rfl) (fun x1 ex1 => ?_)
        have V := V x1 ex1
        refine rj_goto (tgt := 2) dX0_join_64 (by decide) ?_
        exact rs_sub [0, 1] rfl V
      · have V := V2 hc
        refine rj_iload_n dX0_join_36 2 rfl rfl ?_
        refine rm_callSNi [.int r2] (rest := []) (K := fun x M' => b2i (0 ≤ r2 ∧ r2 ≤ 7) = x ∧ M2 = M') mn_RX0_46 mtX10_isDropNumber rfl dX0_join_37 rfl rfl (Nat.le_of_ble_eq_true rfl) (by decide) (uX10_isDropNumber (by omega) ⟨rfl, rfl⟩) (fun x M' hx => ?_)
        obtain ⟨rfl, rfl⟩ := hx
        obtain ⟨V1, V2⟩ := V
        refine rs_if_eqB (tgt := 61) dX0_join_40 (by decide) (fun hc => ?_) (fun hc => ?_)
        · have V := V1 hc
          refine rj_iincV (c := 1) (fun y => [(0, .ref 8), (1, .int y), (2, .int r2)]) dX0_join_61 1 rfl (by decide) (by decide) rfl (fun _ => rfl) (fun x1 ex1 => ?_)
          have V := V x1 ex1
          refine rj_goto (tgt := 2) dX0_join_64 (by decide) ?_
          exact rs_sub [0, 1] rfl V
        · have V := V2 hc
          refine rj_aload_n dX0_join_43 0 rfl rfl ?_
          refine rj_iload_n dX0_join_44 2 rfl rfl ?_
          refine rj_aload_n dX0_join_45 0 rfl rfl ?_
          refine rs_getR (t := 11) fl_RX0_18 rfl (by decide) (by decide) rfl dX0_join_46 rfl (by omega) ?_
          refine rj_iload_n dX0_join_49 1 rfl rfl ?_
          obtain ⟨hb, V⟩ := V
          refine rs_iald dX0_join_50 rfl hb ?_
          refine rm_callVv [.int r2, .int (M2 11 (Int32.toNatClampNeg v1))] (rest := []) ml_RX0_49 mvX0_addWater rfl dX0_join_51 rfl rfl rfl rfl rfl (Nat.le_of_ble_eq_true rfl) (by decide) V (fun M3 V => ?_)
          refine rj_aload_n dX0_join_54 0 rfl rfl ?_
          refine rs_getR (t := 11) fl_RX0_18 rfl (by decide) (by decide) rfl dX0_join_55 rfl (by omega) ?_
          refine rj_iload_n dX0_join_58 1 rfl rfl ?_
          refine rj_iconst (v := 0) dX0_join_59 (by decide) ?_
          obtain ⟨hb, V⟩ := V
          refine rs_iast dX0_join_60 rfl hb (fun M4 eM4 => ?_)
          have V := V M4 eM4
          refine rj_iincV (c := 1) (fun y => [(0, .ref 8), (1, .int y), (2, .int r2)]) dX0_join_61 1 rfl (by decide) (by decide) rfl (fun _ => rfl) (fun x1 ex1 => ?_)
          have V := V x1 ex1
          refine rj_goto (tgt := 2) dX0_join_64 (by decide) ?_
          exact rs_sub [0, 1] rfl V
-- X1_tell
set_option maxRecDepth 100000 in
set_option maxHeartbeats 4000000 in
theorem vX1_tell_0 {w : Wd} {h : Nat} (a0 : Int32)  (M : Mem) (Q : Option Value → Mem → Prop) (V : (vp_in a0 7 ∧ (vp_in a0 7 ∧ ∀ M1 : Mem, M1 = mset M 2 (Int32.toNatClampNeg a0) ((M 2 (Int32.toNatClampNeg a0)) + 1) → (Q (some (.int ((-1000001) - a0))) M1)))) : RM w h kX1_tell 0 [(0, .ref 1), (1, .int a0)] [] M Q := by
  refine rj_aload_n dX1_tell_0 0 rfl rfl ?_
  refine rs_getR (t := 2) fl_RX1_9 rfl (by decide) (by decide) rfl dX1_tell_1 rfl (by omega) ?_
  refine rj_iload_n dX1_tell_4 1 rfl rfl ?_
  refine rj_dup2 dX1_tell_5 rfl rfl ?_
  obtain ⟨hb, V⟩ := V
  refine rs_iald dX1_tell_6 rfl hb ?_
  refine rj_iconst (v := 1) dX1_tell_7 (by decide) ?_
  refine rj_iadd dX1_tell_8 ?_
  obtain ⟨hb, V⟩ := V
  refine rs_iast dX1_tell_9 rfl hb (fun M1 eM1 => ?_)
  have V := V M1 eM1
  refine rj_ldc (v := (-1000001)) rfl kc_RX1_15 dX1_tell_10 ?_
  refine rj_iload_n dX1_tell_12 1 rfl rfl ?_
  refine rj_isub dX1_tell_13 ?_
  exact rm_iret dX1_tell_14 rfl rfl V
-- X2_become
set_option maxRecDepth 100000 in
set_option maxHeartbeats 4000000 in
theorem vX2_become_0 {w : Wd} {h : Nat} (P : Nat) (O : Nat) (hP : isPane P) (hO : isPane O)  (M : Mem) (Q : Option Value → Mem → Prop) (V : (CSv w h kX10_copyAll [.ref (O + 1), .ref (P + 1)] M (fun M1 => (CSv w h kX10_copyAll [.ref (O + 2), .ref (P + 2)] M1 (fun M2 => (∀ M3 : Mem, M3 = mset M2 P 2 (M2 O 2) → (∀ M4 : Mem, M4 = mset M3 P 3 (M3 O 3) → (∀ M5 : Mem, M5 = mset M4 P 4 (M4 O 4) → (Q none M5))))))))) : RM w (h + 1) kX2_become 0 [(0, .ref P), (1, .ref O)] [] M Q := by
  refine rj_aload_n dX2_become_0 1 rfl rfl ?_
  refine rs_getR (t := O + 1) fl_RX2_9 rfl (by decide) (by decide) rfl dX2_become_1 hO.1 (by omega) ?_
  refine rj_aload_n dX2_become_4 0 rfl rfl ?_
  refine rs_getR (t := P + 1) fl_RX2_9 rfl (by decide) (by decide) rfl dX2_become_5 hP.1 (by omega) ?_
  refine rm_callSNv [.ref (O + 1), .ref (P + 1)] (rest := []) mn_RX2_31 mtX10_copyAll rfl dX2_become_8 rfl rfl (Nat.le_of_ble_eq_true rfl) (by decide) V (fun M1 V => ?_)
  refine rj_aload_n dX2_become_11 1 rfl rfl ?_
  refine rs_getR (t := O + 2) fl_RX2_15 rfl (by decide) (by decide) rfl dX2_become_12 hO.1 (by omega) ?_
  refine rj_aload_n dX2_become_15 0 rfl rfl ?_
  refine rs_getR (t := P + 2) fl_RX2_15 rfl (by decide) (by decide) rfl dX2_become_16 hP.1 (by omega) ?_
  refine rm_callSNv [.ref (O + 2), .ref (P + 2)] (rest := []) mn_RX2_31 mtX10_copyAll rfl dX2_become_19 rfl rfl (Nat.le_of_ble_eq_true rfl) (by decide) V (fun M2 V => ?_)
  refine rj_aload_n dX2_become_22 0 rfl rfl ?_
  refine rj_aload_n dX2_become_23 1 rfl rfl ?_
  refine rs_getI fl_RX2_18 rfl (by decide) (by decide) rfl dX2_become_24 hO.1 ?_
  refine rs_putI fl_RX2_18 (ft2_2 _ nofun) rfl (by decide) (by decide) rfl dX2_become_27 rfl rfl hP.1 (fun M3 eM3 => ?_)
  have V := V M3 eM3
  refine rj_aload_n dX2_become_30 0 rfl rfl ?_
  refine rj_aload_n dX2_become_31 1 rfl rfl ?_
  refine rs_getI fl_RX2_22 rfl (by decide) (by decide) rfl dX2_become_32 hO.1 ?_
  refine rs_putI fl_RX2_22 (ft2_3 _ nofun) rfl (by decide) (by decide) rfl dX2_become_35 rfl rfl hP.1 (fun M4 eM4 => ?_)
  have V := V M4 eM4
  refine rj_aload_n dX2_become_38 0 rfl rfl ?_
  refine rj_aload_n dX2_become_39 1 rfl rfl ?_
  refine rs_getI fl_RX2_25 rfl (by decide) (by decide) rfl dX2_become_40 hO.1 ?_
  refine rs_putI fl_RX2_25 (ft2_4 _ nofun) rfl (by decide) (by decide) rfl dX2_become_43 rfl rfl hP.1 (fun M5 eM5 => ?_)
  have V := V M5 eM5
  exact rm_vret dX2_become_46 rfl V
-- X2_holdOf
set_option maxRecDepth 100000 in
set_option maxHeartbeats 4000000 in
theorem vX2_holdOf_0 {w : Wd} {h : Nat} (P : Nat) (a0 : Int32) (hP : isPane P)  (M : Mem) (Q : Option Value → Mem → Prop) (V : (vp_in a0 192 ∧ (vp_in a0 192 ∧ (∀ x1 : Int32, x1 = ((3 * (M (P + 1) (Int32.toNatClampNeg a0))) - ((M (P + 2) (Int32.toNatClampNeg a0)) / 10)) → (Q (some (.int (if x1 ≤ 0 then (0 : Int32) else x1))) M))))) : RM w h kX2_holdOf 0 [(0, .ref P), (1, .int a0)] [] M Q := by
  refine rj_iconst (v := 3) dX2_holdOf_0 (by decide) ?_
  refine rj_aload_n dX2_holdOf_1 0 rfl rfl ?_
  refine rs_getR (t := P + 1) fl_RX2_9 rfl (by decide) (by decide) rfl dX2_holdOf_2 hP.1 (by omega) ?_
  refine rj_iload_n dX2_holdOf_5 1 rfl rfl ?_
  obtain ⟨hb, V⟩ := V
  refine rs_iald dX2_holdOf_6 hP.2.1 hb ?_
  refine rj_imul dX2_holdOf_7 ?_
  refine rj_aload_n dX2_holdOf_8 0 rfl rfl ?_
  refine rs_getR (t := P + 2) fl_RX2_15 rfl (by decide) (by decide) rfl dX2_holdOf_9 hP.1 (by omega) ?_
  refine rj_iload_n dX2_holdOf_12 1 rfl rfl ?_
  obtain ⟨hb, V⟩ := V
  refine rs_iald dX2_holdOf_13 hP.2.2.1 hb ?_
  refine rj_bipush (v := 10) dX2_holdOf_14 (by decide) ?_
  refine rj_idiv dX2_holdOf_16 (by decide) ?_
  refine rj_isub dX2_holdOf_17 ?_
  refine rj_top (fun x1 ex1 => ?_)
  have V := V x1 ex1
  refine rj_istore_n (lv' := [(0, .ref P), (1, .int a0), (2, .int x1)]) dX2_holdOf_18 rfl (by decide) rfl rfl ?_
  refine rj_iload_n dX2_holdOf_19 2 rfl rfl ?_
  have KD : RM w h kX2_holdOf 28 [(0, .ref P), (1, .int a0), (2, .int x1)] [.int (if x1 ≤ 0 then (0 : Int32) else x1)] M Q := by
    exact rm_iret dX2_holdOf_28 rfl rfl V
  refine rj_if_le (tgt := 27) dX2_holdOf_20 (by decide) (fun hc => ?_) (fun hc => ?_)
  · refine rj_iconst (v := 0) dX2_holdOf_27 (by decide) ?_
    exact rs_ite_t hc KD
  · refine rj_iload_n dX2_holdOf_23 2 rfl rfl ?_
    refine rj_goto (tgt := 28) dX2_holdOf_24 (by decide) ?_
    exact rs_ite_f hc KD
-- X2_cleanRow
set_option maxRecDepth 100000 in
set_option maxHeartbeats 4000000 in
theorem vX2_cleanRow_0 {w : Wd} {h : Nat} (P : Nat) (a0 : Int32) (hP : isPane P)  (M : Mem) (Q : Option Value → Mem → Prop) (V : (∀ x1 : Int32, x1 = (a0 * 12) → RM w h kX2_cleanRow 7 [(0, .ref P), (1, .int a0), (2, .int 0), (3, .int x1)] [] M Q)) : RM w h kX2_cleanRow 0 [(0, .ref P), (1, .int a0)] [] M Q := by
  refine rj_iconst (v := 0) dX2_cleanRow_0 (by decide) ?_
  refine rj_istore_n (lv' := [(0, .ref P), (1, .int a0), (2, .int 0)]) dX2_cleanRow_1 rfl (by decide) rfl rfl ?_
  refine rj_iload_n dX2_cleanRow_2 1 rfl rfl ?_
  refine rj_bipush (v := 12) dX2_cleanRow_3 (by decide) ?_
  refine rj_imul dX2_cleanRow_5 ?_
  refine rj_top (fun x1 ex1 => ?_)
  have V := V x1 ex1
  refine rj_istore_n (lv' := [(0, .ref P), (1, .int a0), (2, .int 0), (3, .int x1)]) dX2_cleanRow_6 rfl (by decide) rfl rfl ?_
  exact rs_sub [0, 1, 2, 3] rfl V
set_option maxRecDepth 100000 in
set_option maxHeartbeats 4000000 in
theorem vX2_cleanRow_7 {w : Wd} {h : Nat} (P : Nat) (v1 : Int32) (v2 : Int32) (v3 : Int32) (hP : isPane P)  (M : Mem) (Q : Option Value → Mem → Prop) (V : ((((v1 + 1) * 12) ≤ v3 → (Q (some (.int v2)) M)) ∧ (¬ (((v1 + 1) * 12) ≤ v3) → (vp_in v3 192 ∧ (((M (P + 1) (Int32.toNatClampNeg v3)) ≤ 0 → (vp_in v3 192 ∧ ∀ M1 : Mem, M1 = mset M (P + 1) (Int32.toNatClampNeg v3) 0 → (vp_in v3 192 ∧ ∀ M2 : Mem, M2 = mset M1 (P + 2) (Int32.toNatClampNeg v3) 0 → (∀ x1 : Int32, x1 = v3 + 1 → RM w h kX2_cleanRow 7 [(0, .ref P), (1, .int v1), (2, .int v2), (3, .int x1)] [] M2 Q)))) ∧ (¬ ((M (P + 1) (Int32.toNatClampNeg v3)) ≤ 0) → (∀ x1 : Int32, x1 = v2 + 1 → (vp_in v3 192 ∧ ∀ M1 : Mem, M1 = mset M (P + 1) (Int32.toNatClampNeg v3) 0 → (vp_in v3 192 ∧ ∀ M2 : Mem, M2 = mset M1 (P + 2) (Int32.toNatClampNeg v3) 0 → (∀ x2 : Int32, x2 = v3 + 1 → RM w h kX2_cleanRow 7 [(0, .ref P), (1, .int v1), (2, .int x1), (3, .int x2)] [] M2 Q)))))))))) : RM w h kX2_cleanRow 7 [(0, .ref P), (1, .int v1), (2, .int v2), (3, .int v3)] [] M Q := by
  refine rj_iload_n dX2_cleanRow_7 3 rfl rfl ?_
  refine rj_iload_n dX2_cleanRow_8 1 rfl rfl ?_
  refine rj_iconst (v := 1) dX2_cleanRow_9 (by decide) ?_
  refine rj_iadd dX2_cleanRow_10 ?_
  refine rj_bipush (v := 12) dX2_cleanRow_11 (by decide) ?_
  refine rj_imul dX2_cleanRow_13 ?_
  obtain ⟨V1, V2⟩ := V
  refine rj_icmp_ge (tgt := 49) dX2_cleanRow_14 (by decide) (fun hc => ?_) (fun hc => ?_)
  · have V := V1 hc
    refine rj_iload_n dX2_cleanRow_49 2 rfl rfl ?_
    exact rm_iret dX2_cleanRow_50 rfl rfl V
  · have V := V2 hc
    refine rj_aload_n dX2_cleanRow_17 0 rfl rfl ?_
    refine rs_getR (t := P + 1) fl_RX2_9 rfl (by decide) (by decide) rfl dX2_cleanRow_18 hP.1 (by omega) ?_
    refine rj_iload_n dX2_cleanRow_21 3 rfl rfl ?_
    obtain ⟨hb, V⟩ := V
    refine rs_iald dX2_cleanRow_22 hP.2.1 hb ?_
    obtain ⟨V1, V2⟩ := V
    refine rj_if_le (tgt := 29) dX2_cleanRow_23 (by decide) (fun hc => ?_) (fun hc => ?_)
    · have V := V1 hc
      refine rj_aload_n dX2_cleanRow_29 0 rfl rfl ?_
      refine rs_getR (t := P + 1) fl_RX2_9 rfl (by decide) (by decide) rfl dX2_cleanRow_30 hP.1 (by omega) ?_
      refine rj_iload_n dX2_cleanRow_33 3 rfl rfl ?_
      refine rj_iconst (v := 0) dX2_cleanRow_34 (by decide) ?_
      obtain ⟨hb, V⟩ := V
      refine rs_iast dX2_cleanRow_35 hP.2.1 hb (fun M1 eM1 => ?_)
      have V := V M1 eM1
      refine rj_aload_n dX2_cleanRow_36 0 rfl rfl ?_
      refine rs_getR (t := P + 2) fl_RX2_15 rfl (by decide) (by decide) rfl dX2_cleanRow_37 hP.1 (by omega) ?_
      refine rj_iload_n dX2_cleanRow_40 3 rfl rfl ?_
      refine rj_iconst (v := 0) dX2_cleanRow_41 (by decide) ?_
      obtain ⟨hb, V⟩ := V
      refine rs_iast dX2_cleanRow_42 hP.2.2.1 hb (fun M2 eM2 => ?_)
      have V := V M2 eM2
      refine rj_iincV (c := 1) (fun y => [(0, .ref P), (1, .int v1), (2, .int v2), (3, .int y)]) dX2_cleanRow_43 3 rfl (by decide) (by decide) rfl (fun _ => rfl) (fun x1 ex1 => ?_)
      have V := V x1 ex1
      refine rj_goto (tgt := 7) dX2_cleanRow_46 (by decide) ?_
      exact rs_sub [0, 1, 2, 3] rfl V
    · have V := V2 hc
      refine rj_iincV (c := 1) (fun y => [(0, .ref P), (1, .int v1), (2, .int y), (3, .int v3)]) dX2_cleanRow_26 2 rfl (by decide) (by decide) rfl (fun _ => rfl) (fun x1 ex1 => ?_)
      have V := V x1 ex1
      refine rj_aload_n dX2_cleanRow_29 0 rfl rfl ?_
      refine rs_getR (t := P + 1) fl_RX2_9 rfl (by decide) (by decide) rfl dX2_cleanRow_30 hP.1 (by omega) ?_
      refine rj_iload_n dX2_cleanRow_33 3 rfl rfl ?_
      refine rj_iconst (v := 0) dX2_cleanRow_34 (by decide) ?_
      obtain ⟨hb, V⟩ := V
      refine rs_iast dX2_cleanRow_35 hP.2.1 hb (fun M1 eM1 => ?_)
      have V := V M1 eM1
      refine rj_aload_n dX2_cleanRow_36 0 rfl rfl ?_
      refine rs_getR (t := P + 2) fl_RX2_15 rfl (by decide) (by decide) rfl dX2_cleanRow_37 hP.1 (by omega) ?_
      refine rj_iload_n dX2_cleanRow_40 3 rfl rfl ?_
      refine rj_iconst (v := 0) dX2_cleanRow_41 (by decide) ?_
      obtain ⟨hb, V⟩ := V
      refine rs_iast dX2_cleanRow_42 hP.2.2.1 hb (fun M2 eM2 => ?_)
      have V := V M2 eM2
      refine rj_iincV (c := 1) (fun y => [(0, .ref P), (1, .int v1), (2, .int x1), (3, .int y)]) dX2_cleanRow_43 3 rfl (by decide) (by decide) rfl (fun _ => rfl) (fun x2 ex2 => ?_)
      have V := V x2 ex2
      refine rj_goto (tgt := 7) dX2_cleanRow_46 (by decide) ?_
      exact rs_sub [0, 1, 2, 3] rfl V
-- X2_wetColumn
set_option maxRecDepth 100000 in
set_option maxHeartbeats 4000000 in
theorem vX2_wetColumn_0 {w : Wd} {h : Nat} (P : Nat) (a0 : Int32) (hP : isPane P)  (M : Mem) (Q : Option Value → Mem → Prop) (V : RM w h kX2_wetColumn 4 [(0, .ref P), (2, .int 0), (3, .int a0)] [] M Q) : RM w h kX2_wetColumn 0 [(0, .ref P), (1, .int a0)] [] M Q := by
  refine rj_iconst (v := 0) dX2_wetColumn_0 (by decide) ?_
  refine rj_istore_n (lv' := [(0, .ref P), (1, .int a0), (2, .int 0)]) dX2_wetColumn_1 rfl (by decide) rfl rfl ?_
  refine rj_iload_n dX2_wetColumn_2 1 rfl rfl ?_
  refine rj_istore_n (lv' := [(0, .ref P), (1, .int a0), (2, .int 0), (3, .int a0)]) dX2_wetColumn_3 rfl (by decide) rfl rfl ?_
  exact rs_sub [0, 2, 3] rfl V
set_option maxRecDepth 100000 in
set_option maxHeartbeats 4000000 in
theorem vX2_wetColumn_4 {w : Wd} {h : Nat} (P : Nat) (v2 : Int32) (v3 : Int32) (hP : isPane P)  (M : Mem) (Q : Option Value → Mem → Prop) (V : ((192 ≤ v3 → (Q (some (.int v2)) M)) ∧ (¬ (192 ≤ v3) → (vp_in v3 192 ∧ ((99 ≤ (M (P + 2) (Int32.toNatClampNeg v3)) → (vp_in v3 192 ∧ ∀ M1 : Mem, M1 = mset M (P + 2) (Int32.toNatClampNeg v3) 99 → (∀ x1 : Int32, x1 = v3 + 12 → RM w h kX2_wetColumn 4 [(0, .ref P), (2, .int v2), (3, .int x1)] [] M1 Q))) ∧ (¬ (99 ≤ (M (P + 2) (Int32.toNatClampNeg v3))) → (∀ x1 : Int32, x1 = v2 + 1 → (vp_in v3 192 ∧ ∀ M1 : Mem, M1 = mset M (P + 2) (Int32.toNatClampNeg v3) 99 → (∀ x2 : Int32, x2 = v3 + 12 → RM w h kX2_wetColumn 4 [(0, .ref P), (2, .int x1), (3, .int x2)] [] M1 Q))))))))) : RM w h kX2_wetColumn 4 [(0, .ref P), (2, .int v2), (3, .int v3)] [] M Q := by
  refine rj_iload_n dX2_wetColumn_4 2 rfl rfl ?_
  refine rj_sipush (v := 192) dX2_wetColumn_5 (by decide) ?_
  obtain ⟨V1, V2⟩ := V
  refine rj_icmp_ge (tgt := 39) dX2_wetColumn_8 (by decide) (fun hc => ?_) (fun hc => ?_)
  · have V := V1 hc
    refine rj_iload_n dX2_wetColumn_39 1 rfl rfl ?_
    exact rm_iret dX2_wetColumn_40 rfl rfl V
  · have V := V2 hc
    refine rj_aload_n dX2_wetColumn_11 0 rfl rfl ?_
    refine rs_getR (t := P + 2) fl_RX2_15 rfl (by decide) (by decide) rfl dX2_wetColumn_12 hP.1 (by omega) ?_
    refine rj_iload_n dX2_wetColumn_15 2 rfl rfl ?_
    obtain ⟨hb, V⟩ := V
    refine rs_iald dX2_wetColumn_16 hP.2.2.1 hb ?_
    refine rj_bipush (v := 99) dX2_wetColumn_17 (by decide) ?_
    obtain ⟨V1, V2⟩ := V
    refine rj_icmp_ge (tgt := 25) dX2_wetColumn_19 (by decide) (fun hc => ?_) (fun hc => ?_)
    · have V := V1 hc
      refine rj_aload_n dX2_wetColumn_25 0 rfl rfl ?_
      refine rs_getR (t := P + 2) fl_RX2_15 rfl (by decide) (by decide) rfl dX2_wetColumn_26 hP.1 (by omega) ?_
      refine rj_iload_n dX2_wetColumn_29 2 rfl rfl ?_
      refine rj_bipush (v := 99) dX2_wetColumn_30 (by decide) ?_
      obtain ⟨hb, V⟩ := V
      refine rs_iast dX2_wetColumn_32 hP.2.2.1 hb (fun M1 eM1 => ?_)
      have V := V M1 eM1
      refine rj_iincV (c := 12) (fun y => [(0, .ref P), (2, .int v2), (3, .int y)]) dX2_wetColumn_33 2 rfl (by decide) (by decide) rfl (fun _ => rfl) (fun x1 ex1 => ?_)
      have V := V x1 ex1
      refine rj_goto (tgt := 4) dX2_wetColumn_36 (by decide) ?_
      exact rs_sub [0, 1, 2] rfl V
    · have V := V2 hc
      refine rj_iincV (c := 1) (fun y => [(0, .ref P), (2, .int y), (3, .int v3)]) dX2_wetColumn_22 1 rfl (by decide) (by decide) rfl (fun _ => rfl) (fun x1 ex1 => ?_)
      have V := V x1 ex1
      refine rj_aload_n dX2_wetColumn_25 0 rfl rfl ?_
      refine rs_getR (t := P + 2) fl_RX2_15 rfl (by decide) (by decide) rfl dX2_wetColumn_26 hP.1 (by omega) ?_
      refine rj_iload_n dX2_wetColumn_29 2 rfl rfl ?_
      refine rj_bipush (v := 99) dX2_wetColumn_30 (by decide) ?_
      obtain ⟨hb, V⟩ := V
      refine rs_iast dX2_wetColumn_32 hP.2.2.1 hb (fun M1 eM1 => ?_)
      have V := V M1 eM1
      refine rj_iincV (c := 12) (fun y => [(0, .ref P), (2, .int x1), (3, .int y)]) dX2_wetColumn_33 2 rfl (by decide) (by decide) rfl (fun _ => rfl) (fun x2 ex2 => ?_)
      have V := V x2 ex2
      refine rj_goto (tgt := 4) dX2_wetColumn_36 (by decide) ?_
      exact rs_sub [0, 1, 2] rfl V
-- X2_fadeOnce
set_option maxRecDepth 100000 in
set_option maxHeartbeats 4000000 in
theorem vX2_fadeOnce_0 {w : Wd} {h : Nat} (P : Nat) (hP : isPane P)  (M : Mem) (Q : Option Value → Mem → Prop) (V : RM w (h + 1) kX2_fadeOnce 2 [(0, .ref P), (1, .int 0)] [] M Q) : RM w (h + 1) kX2_fadeOnce 0 [(0, .ref P)] [] M Q := by
  refine rj_iconst (v := 0) dX2_fadeOnce_0 (by decide) ?_
  refine rj_istore_n (lv' := [(0, .ref P), (1, .int 0)]) dX2_fadeOnce_1 rfl (by decide) rfl rfl ?_
  exact rs_sub [0, 1] rfl V
set_option maxRecDepth 100000 in
set_option maxHeartbeats 4000000 in
theorem vX2_fadeOnce_2 {w : Wd} {h : Nat} (P : Nat) (v1 : Int32) (hP : isPane P)  (M : Mem) (Q : Option Value → Mem → Prop) (V : ((192 ≤ v1 → (Q none M)) ∧ (¬ (192 ≤ v1) → (vp_in v1 192 ∧ (vp_in v1 192 ∧ ∀ M1 : Mem, M1 = mset M (P + 2) (Int32.toNatClampNeg v1) (if (0 : Int32) < ((M (P + 2) (Int32.toNatClampNeg v1)) - (M P 4)) then ((M (P + 2) (Int32.toNatClampNeg v1)) - (M P 4)) else (0 : Int32)) → (∀ x1 : Int32, x1 = v1 + 1 → RM w (h + 1) kX2_fadeOnce 2 [(0, .ref P), (1, .int x1)] [] M1 Q)))))) : RM w (h + 1) kX2_fadeOnce 2 [(0, .ref P), (1, .int v1)] [] M Q := by
  refine rj_iload_n dX2_fadeOnce_2 1 rfl rfl ?_
  refine rj_sipush (v := 192) dX2_fadeOnce_3 (by decide) ?_
  obtain ⟨V1, V2⟩ := V
  refine rj_icmp_ge (tgt := 36) dX2_fadeOnce_6 (by decide) (fun hc => ?_) (fun hc => ?_)
  · have V := V1 hc
    exact rm_vret dX2_fadeOnce_36 rfl V
  · have V := V2 hc
    refine rj_aload_n dX2_fadeOnce_9 0 rfl rfl ?_
    refine rs_getR (t := P + 2) fl_RX2_15 rfl (by decide) (by decide) rfl dX2_fadeOnce_10 hP.1 (by omega) ?_
    refine rj_iload_n dX2_fadeOnce_13 1 rfl rfl ?_
    refine rj_iconst (v := 0) dX2_fadeOnce_14 (by decide) ?_
    refine rj_aload_n dX2_fadeOnce_15 0 rfl rfl ?_
    refine rs_getR (t := P + 2) fl_RX2_15 rfl (by decide) (by decide) rfl dX2_fadeOnce_16 hP.1 (by omega) ?_
    refine rj_iload_n dX2_fadeOnce_19 1 rfl rfl ?_
    obtain ⟨hb, V⟩ := V
    refine rs_iald dX2_fadeOnce_20 hP.2.2.1 hb ?_
    refine rj_aload_n dX2_fadeOnce_21 0 rfl rfl ?_
    refine rs_getI fl_RX2_25 rfl (by decide) (by decide) rfl dX2_fadeOnce_22 hP.1 ?_
    refine rj_isub dX2_fadeOnce_25 ?_
    refine rm_mmax (rest := [.int v1, .ref (P + 2)]) ml_RX2_35 rfl dX2_fadeOnce_26 (Nat.le_of_ble_eq_true rfl) ?_
    obtain ⟨hb, V⟩ := V
    refine rs_iast dX2_fadeOnce_29 hP.2.2.1 hb (fun M1 eM1 => ?_)
    have V := V M1 eM1
    refine rj_iincV (c := 1) (fun y => [(0, .ref P), (1, .int y)]) dX2_fadeOnce_30 1 rfl (by decide) (by decide) rfl (fun _ => rfl) (fun x1 ex1 => ?_)
    have V := V x1 ex1
    refine rj_goto (tgt := 2) dX2_fadeOnce_33 (by decide) ?_
    exact rs_sub [0, 1] rfl V
-- X2_goal
set_option maxRecDepth 100000 in
set_option maxHeartbeats 4000000 in
theorem vX2_goal_0 {w : Wd} {h : Nat} (P : Nat) (a0 : Int32) (a1 : Int32) (a2 : Int32) (a3 : Int32) (hP : isPane P)  (M : Mem) (Q : Option Value → Mem → Prop) (V : ((¬ ((180 ≤ a1)) → (∀ x1 : Int32, x1 = (a2 + (M P 2)) → (CSv w h kX2_lookDown [.ref P, .int a1, .int x1] M (fun M1 => (CSi w h kX2_ownChoice [.ref P, .int a0, .int a3] M1 (fun r1 M2 => ((¬ (r1 = (-2)) → ((¬ (r1 = (-2)) → (Q (some (.int (if r1 = (-2) then a1 else r1))) M2)) ∧ (r1 = (-2) → ((a0 = 2 → (Q (some (.int (if r1 = (-2) then a1 else r1))) M2)) ∧ (¬ (a0 = 2) → (CSi w h kX2_softest [.ref P] M2 (fun r2 M3 => (Q (some (.int (if r2 = (-2) then a1 else r2))) M3)))))))) ∧ (r1 = (-2) → ((¬ (a0 = 3) → ((¬ (r1 = (-2)) → (Q (some (.int (if r1 = (-2) then a1 else r1))) M2)) ∧ (r1 = (-2) → ((a0 = 2 → (Q (some (.int (if r1 = (-2) then a1 else r1))) M2)) ∧ (¬ (a0 = 2) → (CSi w h kX2_softest [.ref P] M2 (fun r2 M3 => (Q (some (.int (if r2 = (-2) then a1 else r2))) M3)))))))) ∧ (a0 = 3 → (CSi w h kX2_sideways [.ref P, .int a1, .int x1] M2 (fun r2 M3 => (Q (some (.int (if r2 = (-2) then a1 else r2))) M3))))))))))))) ∧ ((180 ≤ a1) → (Q (some (.int (-1))) M)))) : RM w (h + 1) kX2_goal 0 [(0, .ref P), (1, .int a0), (2, .int a1), (3, .int a2), (4, .int a3)] [] M Q := by
  refine rj_iload_n dX2_goal_0 2 rfl rfl ?_
  refine rm_callSNi [.int a1] (rest := []) (K := fun x M' => b2i (180 ≤ a1) = x ∧ M = M') mn_RX2_41 mtX10_isOnLastRow rfl dX2_goal_1 rfl rfl (Nat.le_of_ble_eq_true rfl) (by decide) (uX10_isOnLastRow ⟨rfl, rfl⟩) (fun x M' hx => ?_)
  obtain ⟨rfl, rfl⟩ := hx
  obtain ⟨V1, V2⟩ := V
  refine rs_if_eqB (tgt := 9) dX2_goal_4 (by decide) (fun hc => ?_) (fun hc => ?_)
  · have V := V1 hc
    refine rj_iload_n dX2_goal_9 3 rfl rfl ?_
    refine rj_aload_n dX2_goal_10 0 rfl rfl ?_
    refine rs_getI fl_RX2_18 rfl (by decide) (by decide) rfl dX2_goal_11 hP.1 ?_
    refine rj_iadd dX2_goal_14 ?_
    refine rj_top (fun x1 ex1 => ?_)
    have V := V x1 ex1
    refine rj_istore (lv' := [(0, .ref P), (1, .int a0), (2, .int a1), (3, .int a2), (4, .int a3), (5, .int x1)]) dX2_goal_15 (by decide) rfl rfl ?_
    refine rj_aload_n dX2_goal_17 0 rfl rfl ?_
    refine rj_iload_n dX2_goal_18 2 rfl rfl ?_
    refine rj_iload dX2_goal_19 5 rfl ?_
    refine rm_callVv [.int a1, .int x1] (rest := []) ml_RX2_45 mvX2_lookDown rfl dX2_goal_21 hP.1 rfl rfl rfl rfl (Nat.le_of_ble_eq_true rfl) (by decide) V (fun M1 V => ?_)
    refine rj_aload_n dX2_goal_24 0 rfl rfl ?_
    refine rj_iload_n dX2_goal_25 1 rfl rfl ?_
    refine rj_iload dX2_goal_26 4 rfl ?_
    refine rm_callVi [.int a0, .int a3] (rest := []) ml_RX2_49 mvX2_ownChoice rfl dX2_goal_28 hP.1 rfl rfl rfl rfl (Nat.le_of_ble_eq_true rfl) (by decide) V (fun r1 M2 V => ?_)
    refine rj_istore (lv' := [(0, .ref P), (1, .int a0), (2, .int a1), (3, .int a2), (4, .int a3), (5, .int x1), (6, .int r1)]) dX2_goal_31 (by decide) rfl rfl ?_
    refine rj_iload dX2_goal_33 6 rfl ?_
    refine rj_bipush (v := (-2)) dX2_goal_35 (by decide) ?_
    obtain ⟨V1, V2⟩ := V
    refine rj_icmp_ne (tgt := 57) dX2_goal_37 (by decide) (fun hc => ?_) (fun hc => ?_)
    · have V := V1 hc
      refine rj_iload dX2_goal_57 6 rfl ?_
      refine rj_bipush (v := (-2)) dX2_goal_59 (by decide) ?_
      obtain ⟨V1, V2⟩ := V
      refine rj_icmp_ne (tgt := 75) dX2_goal_61 (by decide) (fun hc => ?_) (fun hc => ?_)
      · have V := V1 hc
        refine rj_iload dX2_goal_75 6 rfl ?_
        refine rj_bipush (v := (-2)) dX2_goal_77 (by decide) ?_
        have KD : RM w (h + 1) kX2_goal 88 [(0, .ref P), (1, .int a0), (2, .int a1), (3, .int a2), (4, .int a3), (5, .int x1), (6, .int r1)] [.int (if r1 = (-2) then a1 else r1)] M2 Q := by
          exact rm_iret dX2_goal_88 rfl rfl V
        refine rj_icmp_ne (tgt := 86) dX2_goal_79 (by decide) (fun hc => ?_) (fun hc => ?_)
        · refine rj_iload dX2_goal_86 6 rfl ?_
          exact rs_ite_f hc KD
        · refine rj_iload_n dX2_goal_82 2 rfl rfl ?_
          refine rj_goto (tgt := 88) dX2_goal_83 (by decide) ?_
          exact rs_ite_t hc KD
      · have V := V2 hc
        refine rj_iload_n dX2_goal_64 1 rfl rfl ?_
        refine rj_iconst (v := 2) dX2_goal_65 (by decide) ?_
        obtain ⟨V1, V2⟩ := V
        refine rj_icmp_eq (tgt := 75) dX2_goal_66 (by decide) (fun hc => ?_) (fun hc => ?_)
        · have V := V1 hc
          refine rj_iload dX2_goal_75 6 rfl ?_
          refine rj_bipush (v := (-2)) dX2_goal_77 (by decide) ?_
          have KD : RM w (h + 1) kX2_goal 88 [(0, .ref P), (1, .int a0), (2, .int a1), (3, .int a2), (4, .int a3), (5, .int x1), (6, .int r1)] [.int (if r1 = (-2) then a1 else r1)] M2 Q := by
            exact rm_iret dX2_goal_88 rfl rfl V
          refine rj_icmp_ne (tgt := 86) dX2_goal_79 (by decide) (fun hc => ?_) (fun hc => ?_)
          · refine rj_iload dX2_goal_86 6 rfl ?_
            exact rs_ite_f hc KD
          · refine rj_iload_n dX2_goal_82 2 rfl rfl ?_
            refine rj_goto (tgt := 88) dX2_goal_83 (by decide) ?_
            exact rs_ite_t hc KD
        · have V := V2 hc
          refine rj_aload_n dX2_goal_69 0 rfl rfl ?_
          refine rm_callVi [] (rest := []) ml_RX2_55 mvX2_softest rfl dX2_goal_70 hP.1 rfl rfl rfl rfl (Nat.le_of_ble_eq_true rfl) (by decide) V (fun r2 M3 V => ?_)
          refine rj_istore (lv' := [(0, .ref P), (1, .int a0), (2, .int a1), (3, .int a2), (4, .int a3), (5, .int x1), (6, .int r2)]) dX2_goal_73 (by decide) rfl rfl ?_
          refine rj_iload dX2_goal_75 6 rfl ?_
          refine rj_bipush (v := (-2)) dX2_goal_77 (by decide) ?_
          have KD : RM w (h + 1) kX2_goal 88 [(0, .ref P), (1, .int a0), (2, .int a1), (3, .int a2), (4, .int a3), (5, .int x1), (6, .int r2)] [.int (if r2 = (-2) then a1 else r2)] M3 Q := by
            exact rm_iret dX2_goal_88 rfl rfl V
          refine rj_icmp_ne (tgt := 86) dX2_goal_79 (by decide) (fun hc => ?_) (fun hc => ?_)
          · refine rj_iload dX2_goal_86 6 rfl ?_
            exact rs_ite_f hc KD
          · refine rj_iload_n dX2_goal_82 2 rfl rfl ?_
            refine rj_goto (tgt := 88) dX2_goal_83 (by decide) ?_
            exact rs_ite_t hc KD
    · have V := V2 hc
      refine rj_iload_n dX2_goal_40 1 rfl rfl ?_
      refine rj_iconst (v := 3) dX2_goal_41 (by decide) ?_
      obtain ⟨V1, V2⟩ := V
      refine rj_icmp_ne (tgt := 57) dX2_goal_42 (by decide) (fun hc => ?_) (fun hc => ?_)
      · have V := V1 hc
        refine rj_iload dX2_goal_57 6 rfl ?_
        refine rj_bipush (v := (-2)) dX2_goal_59 (by decide) ?_
        obtain ⟨V1, V2⟩ := V
        refine rj_icmp_ne (tgt := 75) dX2_goal_61 (by decide) (fun hc => ?_) (fun hc => ?_)
        · have V := V1 hc
          refine rj_iload dX2_goal_75 6 rfl ?_
          refine rj_bipush (v := (-2)) dX2_goal_77 (by decide) ?_
          have KD : RM w (h + 1) kX2_goal 88 [(0, .ref P), (1, .int a0), (2, .int a1), (3, .int a2), (4, .int a3), (5, .int x1), (6, .int r1)] [.int (if r1 = (-2) then a1 else r1)] M2 Q := by
            exact rm_iret dX2_goal_88 rfl rfl V
          refine rj_icmp_ne (tgt := 86) dX2_goal_79 (by decide) (fun hc => ?_) (fun hc => ?_)
          · refine rj_iload dX2_goal_86 6 rfl ?_
            exact rs_ite_f hc KD
          · refine rj_iload_n dX2_goal_82 2 rfl rfl ?_
            refine rj_goto (tgt := 88) dX2_goal_83 (by decide) ?_
            exact rs_ite_t hc KD
        · have V := V2 hc
          refine rj_iload_n dX2_goal_64 1 rfl rfl ?_
          refine rj_iconst (v := 2) dX2_goal_65 (by decide) ?_
          obtain ⟨V1, V2⟩ := V
          refine rj_icmp_eq (tgt := 75) dX2_goal_66 (by decide) (fun hc => ?_) (fun hc => ?_)
          · have V := V1 hc
            refine rj_iload dX2_goal_75 6 rfl ?_
            refine rj_bipush (v := (-2)) dX2_goal_77 (by decide) ?_
            have KD : RM w (h + 1) kX2_goal 88 [(0, .ref P), (1, .int a0), (2, .int a1), (3, .int a2), (4, .int a3), (5, .int x1), (6, .int r1)] [.int (if r1 = (-2) then a1 else r1)] M2 Q := by
              exact rm_iret dX2_goal_88 rfl rfl V
            refine rj_icmp_ne (tgt := 86) dX2_goal_79 (by decide) (fun hc => ?_) (fun hc => ?_)
            · refine rj_iload dX2_goal_86 6 rfl ?_
              exact rs_ite_f hc KD
            · refine rj_iload_n dX2_goal_82 2 rfl rfl ?_
              refine rj_goto (tgt := 88) dX2_goal_83 (by decide) ?_
              exact rs_ite_t hc KD
          · have V := V2 hc
            refine rj_aload_n dX2_goal_69 0 rfl rfl ?_
            refine rm_callVi [] (rest := []) ml_RX2_55 mvX2_softest rfl dX2_goal_70 hP.1 rfl rfl rfl rfl (Nat.le_of_ble_eq_true rfl) (by decide) V (fun r2 M3 V => ?_)
            refine rj_istore (lv' := [(0, .ref P), (1, .int a0), (2, .int a1), (3, .int a2), (4, .int a3), (5, .int x1), (6, .int r2)]) dX2_goal_73 (by decide) rfl rfl ?_
            refine rj_iload dX2_goal_75 6 rfl ?_
            refine rj_bipush (v := (-2)) dX2_goal_77 (by decide) ?_
            have KD : RM w (h + 1) kX2_goal 88 [(0, .ref P), (1, .int a0), (2, .int a1), (3, .int a2), (4, .int a3), (5, .int x1), (6, .int r2)] [.int (if r2 = (-2) then a1 else r2)] M3 Q := by
              exact rm_iret dX2_goal_88 rfl rfl V
            refine rj_icmp_ne (tgt := 86) dX2_goal_79 (by decide) (fun hc => ?_) (fun hc => ?_)
            · refine rj_iload dX2_goal_86 6 rfl ?_
              exact rs_ite_f hc KD
            · refine rj_iload_n dX2_goal_82 2 rfl rfl ?_
              refine rj_goto (tgt := 88) dX2_goal_83 (by decide) ?_
              exact rs_ite_t hc KD
      · have V := V2 hc
        refine rj_aload_n dX2_goal_45 0 rfl rfl ?_
        refine rj_iload_n dX2_goal_46 2 rfl rfl ?_
        refine rj_iload dX2_goal_47 5 rfl ?_
        refine rm_callVi [.int a1, .int x1] (rest := []) ml_RX2_52 mvX2_sideways rfl dX2_goal_49 hP.1 rfl rfl rfl rfl (Nat.le_of_ble_eq_true rfl) (by decide) V (fun r2 M3 V => ?_)
        refine rj_istore (lv' := [(0, .ref P), (1, .int a0), (2, .int a1), (3, .int a2), (4, .int a3), (5, .int x1), (6, .int r2)]) dX2_goal_52 (by decide) rfl rfl ?_
        refine rj_goto (tgt := 75) dX2_goal_54 (by decide) ?_
        refine rj_iload dX2_goal_75 6 rfl ?_
        refine rj_bipush (v := (-2)) dX2_goal_77 (by decide) ?_
        have KD : RM w (h + 1) kX2_goal 88 [(0, .ref P), (1, .int a0), (2, .int a1), (3, .int a2), (4, .int a3), (5, .int x1), (6, .int r2)] [.int (if r2 = (-2) then a1 else r2)] M3 Q := by
          exact rm_iret dX2_goal_88 rfl rfl V
        refine rj_icmp_ne (tgt := 86) dX2_goal_79 (by decide) (fun hc => ?_) (fun hc => ?_)
        · refine rj_iload dX2_goal_86 6 rfl ?_
          exact rs_ite_f hc KD
        · refine rj_iload_n dX2_goal_82 2 rfl rfl ?_
          refine rj_goto (tgt := 88) dX2_goal_83 (by decide) ?_
          exact rs_ite_t hc KD
  · have V := V2 hc
    refine rj_iconst (v := (-1)) dX2_goal_7 (by decide) ?_
    exact rm_iret dX2_goal_8 rfl rfl V
-- X2_lookDown
set_option maxRecDepth 100000 in
set_option maxHeartbeats 4000000 in
theorem vX2_lookDown_0 {w : Wd} {h : Nat} (P : Nat) (a0 : Int32) (a1 : Int32) (hP : isPane P)  (M : Mem) (Q : Option Value → Mem → Prop) (V : RM w (h + 1) kX2_lookDown 2 [(0, .ref P), (1, .int a0), (2, .int a1), (3, .int 0)] [] M Q) : RM w (h + 1) kX2_lookDown 0 [(0, .ref P), (1, .int a0), (2, .int a1)] [] M Q := by
  refine rj_iconst (v := 0) dX2_lookDown_0 (by decide) ?_
  refine rj_istore_n (lv' := [(0, .ref P), (1, .int a0), (2, .int a1), (3, .int 0)]) dX2_lookDown_1 rfl (by decide) rfl rfl ?_
  exact rs_sub [0, 1, 2, 3] rfl V
set_option maxRecDepth 100000 in
set_option maxHeartbeats 4000000 in
theorem vX2_lookDown_2 {w : Wd} {h : Nat} (P : Nat) (v1 : Int32) (v2 : Int32) (v3 : Int32) (hP : isPane P)  (M : Mem) (Q : Option Value → Mem → Prop) (V : ((3 ≤ v3 → (Q none M)) ∧ (¬ (3 ≤ v3) → (CSi w h kX10_belowOf [.int v1, .int v3] M (fun r1 M1 => ((r1 = (-2) → (vp_in v3 3 ∧ ∀ M2 : Mem, M2 = mset M1 (P + 3) (Int32.toNatClampNeg v3) (-2) → (∀ x1 : Int32, x1 = v3 + 1 → RM w (h + 1) kX2_lookDown 2 [(0, .ref P), (1, .int v1), (2, .int v2), (3, .int x1)] [] M2 Q))) ∧ (¬ (r1 = (-2)) → (CSi w h kX2_holdOf [.ref P, .int r1] M1 (fun r2 M2 => (vp_in v3 3 ∧ ∀ M3 : Mem, M3 = mset M2 (P + 3) (Int32.toNatClampNeg v3) (if v2 < r2 then ((-2) : Int32) else r1) → (∀ x1 : Int32, x1 = v3 + 1 → RM w (h + 1) kX2_lookDown 2 [(0, .ref P), (1, .int v1), (2, .int v2), (3, .int x1)] [] M3 Q))))))))))) : RM w (h + 1) kX2_lookDown 2 [(0, .ref P), (1, .int v1), (2, .int v2), (3, .int v3)] [] M Q := by
  refine rj_iload_n dX2_lookDown_2 3 rfl rfl ?_
  refine rj_iconst (v := 3) dX2_lookDown_3 (by decide) ?_
  obtain ⟨V1, V2⟩ := V
  refine rj_icmp_ge (tgt := 50) dX2_lookDown_4 (by decide) (fun hc => ?_) (fun hc => ?_)
  · have V := V1 hc
    exact rm_vret dX2_lookDown_50 rfl V
  · have V := V2 hc
    refine rj_iload_n dX2_lookDown_7 1 rfl rfl ?_
    refine rj_iload_n dX2_lookDown_8 3 rfl rfl ?_
    refine rm_callSNi [.int v1, .int v3] (rest := []) mn_RX2_59 mtX10_belowOf rfl dX2_lookDown_9 rfl rfl (Nat.le_of_ble_eq_true rfl) (by decide) V (fun r1 M1 V => ?_)
    refine rj_istore (lv' := [(0, .ref P), (1, .int v1), (2, .int v2), (3, .int v3), (4, .int r1)]) dX2_lookDown_12 (by decide) rfl rfl ?_
    refine rj_aload_n dX2_lookDown_14 0 rfl rfl ?_
    refine rs_getR (t := P + 3) fl_RX2_28 rfl (by decide) (by decide) rfl dX2_lookDown_15 hP.1 (by omega) ?_
    refine rj_iload_n dX2_lookDown_18 3 rfl rfl ?_
    refine rj_iload dX2_lookDown_19 4 rfl ?_
    refine rj_bipush (v := (-2)) dX2_lookDown_21 (by decide) ?_
    obtain ⟨V1, V2⟩ := V
    refine rj_icmp_eq (tgt := 41) dX2_lookDown_23 (by decide) (fun hc => ?_) (fun hc => ?_)
    · have V := V1 hc
      refine rj_bipush (v := (-2)) dX2_lookDown_41 (by decide) ?_
      obtain ⟨hb, V⟩ := V
      refine rs_iast dX2_lookDown_43 hP.2.2.2 hb (fun M2 eM2 => ?_)
      have V := V M2 eM2
      refine rj_iincV (c := 1) (fun y => [(0, .ref P), (1, .int v1), (2, .int v2), (3, .int y), (4, .int r1)]) dX2_lookDown_44 3 rfl (by decide) (by decide) rfl (fun _ => rfl) (fun x1 ex1 => ?_)
      have V := V x1 ex1
      refine rj_goto (tgt := 2) dX2_lookDown_47 (by decide) ?_
      exact rs_sub [0, 1, 2, 3] rfl V
    · have V := V2 hc
      refine rj_aload_n dX2_lookDown_26 0 rfl rfl ?_
      refine rj_iload dX2_lookDown_27 4 rfl ?_
      refine rm_callVi [.int r1] (rest := [.int v3, .ref (P + 3)]) ml_RX2_62 mvX2_holdOf rfl dX2_lookDown_29 hP.1 rfl rfl rfl rfl (Nat.le_of_ble_eq_true rfl) (by decide) V (fun r2 M2 V => ?_)
      refine rj_iload_n dX2_lookDown_32 2 rfl rfl ?_
      have KD : RM w (h + 1) kX2_lookDown 43 [(0, .ref P), (1, .int v1), (2, .int v2), (3, .int v3), (4, .int r1)] [.int (if v2 < r2 then ((-2) : Int32) else r1), .int v3, .ref (P + 3)] M2 Q := by
        obtain ⟨hb, V⟩ := V
        refine rs_iast dX2_lookDown_43 hP.2.2.2 hb (fun M3 eM3 => ?_)
        have V := V M3 eM3
        refine rj_iincV (c := 1) (fun y => [(0, .ref P), (1, .int v1), (2, .int v2), (3, .int y), (4, .int r1)]) dX2_lookDown_44 3 rfl (by decide) (by decide) rfl (fun _ => rfl) (fun x1 ex1 => ?_)
        have V := V x1 ex1
        refine rj_goto (tgt := 2) dX2_lookDown_47 (by decide) ?_
        exact rs_sub [0, 1, 2, 3] rfl V
      refine rj_icmp_gt (tgt := 41) dX2_lookDown_33 (by decide) (fun hc => ?_) (fun hc => ?_)
      · refine rj_bipush (v := (-2)) dX2_lookDown_41 (by decide) ?_
        exact rs_ite_t hc KD
      · refine rj_iload dX2_lookDown_36 4 rfl ?_
        refine rj_goto (tgt := 43) dX2_lookDown_38 (by decide) ?_
        exact rs_ite_f hc KD
-- X2_ownChoice
set_option maxRecDepth 100000 in
set_option maxHeartbeats 4000000 in
theorem vX2_ownChoice_0 {w : Wd} {h : Nat} (P : Nat) (a0 : Int32) (a1 : Int32) (hP : isPane P)  (M : Mem) (Q : Option Value → Mem → Prop) (V : ((a0 = 2 → (vp_in 0 3 ∧ (Q (some (.int (M (P + 3) (Int32.toNatClampNeg 0)))) M))) ∧ (¬ a0 = 2 → ((a0 = 3 → (vp_in 0 3 ∧ (Q (some (.int (M (P + 3) (Int32.toNatClampNeg 0)))) M))) ∧ (¬ a0 = 3 → ((a0 = 4 → (CSi w h kX2_swing [.ref P, .int a1] M (fun r1 M1 => (Q (some (.int r1)) M1)))) ∧ (¬ a0 = 4 → ((a0 = 5 → ((¬ ((a1 - a1 / 3 * 3) = 2) → (CSi w h kX2_swing [.ref P, .int a1] M (fun r1 M1 => (Q (some (.int r1)) M1)))) ∧ ((a1 - a1 / 3 * 3) = 2 → (Q (some (.int (-2))) M)))) ∧ (¬ a0 = 5 → ((a0 = 6 → (vp_in 0 3 ∧ (Q (some (.int (M (P + 3) (Int32.toNatClampNeg 0)))) M))) ∧ (¬ a0 = 6 → ((a0 = 7 → (CSi w h kX2_wettest [.ref P] M (fun r1 M1 => (Q (some (.int r1)) M1)))) ∧ (¬ a0 = 7 → (Q (some (.int (-2))) M)))))))))))))) : RM w (h + 1) kX2_ownChoice 0 [(0, .ref P), (1, .int a0), (2, .int a1)] [] M Q := by
  refine rj_iload_n dX2_ownChoice_0 1 rfl rfl ?_
  obtain ⟨V1, V2⟩ := V
  by_cases w0 : a0 = 2
  · have V := V1 w0
    refine rs_at w0 ?_
    refine rj_tableIn (off := 39) (tgt := 40) dX2_ownChoice_1 (by decide) (by decide) (by decide) (by decide) ?_
    refine rj_aload_n dX2_ownChoice_40 0 rfl rfl ?_
    refine rs_getR (t := P + 3) fl_RX2_28 rfl (by decide) (by decide) rfl dX2_ownChoice_41 hP.1 (by omega) ?_
    refine rj_iconst (v := 0) dX2_ownChoice_44 (by decide) ?_
    obtain ⟨hb, V⟩ := V
    refine rs_iald dX2_ownChoice_45 hP.2.2.2 hb ?_
    exact rm_iret dX2_ownChoice_46 rfl rfl V
  · have V := V2 w0
    obtain ⟨V1, V2⟩ := V
    by_cases w1 : a0 = 3
    · have V := V1 w1
      refine rs_at w1 ?_
      refine rj_tableIn (off := 39) (tgt := 40) dX2_ownChoice_1 (by decide) (by decide) (by decide) (by decide) ?_
      refine rj_aload_n dX2_ownChoice_40 0 rfl rfl ?_
      refine rs_getR (t := P + 3) fl_RX2_28 rfl (by decide) (by decide) rfl dX2_ownChoice_41 hP.1 (by omega) ?_
      refine rj_iconst (v := 0) dX2_ownChoice_44 (by decide) ?_
      obtain ⟨hb, V⟩ := V
      refine rs_iald dX2_ownChoice_45 hP.2.2.2 hb ?_
      exact rm_iret dX2_ownChoice_46 rfl rfl V
    · have V := V2 w1
      obtain ⟨V1, V2⟩ := V
      by_cases w2 : a0 = 4
      · have V := V1 w2
        refine rs_at w2 ?_
        refine rj_tableIn (off := 46) (tgt := 47) dX2_ownChoice_1 (by decide) (by decide) (by decide) (by decide) ?_
        refine rj_aload_n dX2_ownChoice_47 0 rfl rfl ?_
        refine rj_iload_n dX2_ownChoice_48 2 rfl rfl ?_
        refine rm_callVi [.int a1] (rest := []) ml_RX2_66 mvX2_swing rfl dX2_ownChoice_49 hP.1 rfl rfl rfl rfl (Nat.le_of_ble_eq_true rfl) (by decide) V (fun r1 M1 V => ?_)
        exact rm_iret dX2_ownChoice_52 rfl rfl V
      · have V := V2 w2
        obtain ⟨V1, V2⟩ := V
        by_cases w3 : a0 = 5
        · have V := V1 w3
          refine rs_at w3 ?_
          refine rj_tableIn (off := 52) (tgt := 53) dX2_ownChoice_1 (by decide) (by decide) (by decide) (by decide) ?_
          refine rj_iload_n dX2_ownChoice_53 2 rfl rfl ?_
          refine rj_iconst (v := 3) dX2_ownChoice_54 (by decide) ?_
          refine rj_irem dX2_ownChoice_55 (by decide) ?_
          refine rj_iconst (v := 2) dX2_ownChoice_56 (by decide) ?_
          obtain ⟨V1, V2⟩ := V
          refine rj_icmp_ne (tgt := 65) dX2_ownChoice_57 (by decide) (fun hc => ?_) (fun hc => ?_)
          · have V := V1 hc
            refine rj_aload_n dX2_ownChoice_65 0 rfl rfl ?_
            refine rj_iload_n dX2_ownChoice_66 2 rfl rfl ?_
            refine rm_callVi [.int a1] (rest := []) ml_RX2_66 mvX2_swing rfl dX2_ownChoice_67 hP.1 rfl rfl rfl rfl (Nat.le_of_ble_eq_true rfl) (by decide) V (fun r1 M1 V => ?_)
            exact rm_iret dX2_ownChoice_70 rfl rfl V
          · have V := V2 hc
            refine rj_bipush (v := (-2)) dX2_ownChoice_60 (by decide) ?_
            refine rj_goto (tgt := 70) dX2_ownChoice_62 (by decide) ?_
            exact rm_iret dX2_ownChoice_70 rfl rfl V
        · have V := V2 w3
          obtain ⟨V1, V2⟩ := V
          by_cases w4 : a0 = 6
          · have V := V1 w4
            refine rs_at w4 ?_
            refine rj_tableIn (off := 39) (tgt := 40) dX2_ownChoice_1 (by decide) (by decide) (by decide) (by decide) ?_
            refine rj_aload_n dX2_ownChoice_40 0 rfl rfl ?_
            refine rs_getR (t := P + 3) fl_RX2_28 rfl (by decide) (by decide) rfl dX2_ownChoice_41 hP.1 (by omega) ?_
            refine rj_iconst (v := 0) dX2_ownChoice_44 (by decide) ?_
            obtain ⟨hb, V⟩ := V
            refine rs_iald dX2_ownChoice_45 hP.2.2.2 hb ?_
            exact rm_iret dX2_ownChoice_46 rfl rfl V
          · have V := V2 w4
            obtain ⟨V1, V2⟩ := V
            by_cases w5 : a0 = 7
            · have V := V1 w5
              refine rs_at w5 ?_
              refine rj_tableIn (off := 70) (tgt := 71) dX2_ownChoice_1 (by decide) (by decide) (by decide) (by decide) ?_
              refine rj_aload_n dX2_ownChoice_71 0 rfl rfl ?_
              refine rm_callVi [] (rest := []) ml_RX2_69 mvX2_wettest rfl dX2_ownChoice_72 hP.1 rfl rfl rfl rfl (Nat.le_of_ble_eq_true rfl) (by decide) V (fun r1 M1 V => ?_)
              exact rm_iret dX2_ownChoice_75 rfl rfl V
            · have V := V2 w5
              refine rj_tableOut (tgt := 76) dX2_ownChoice_1 (by have n0 := lv_neT (a := 2) w0 (by decide); have n1 := lv_neT (a := 3) w1 (by decide); have n2 := lv_neT (a := 4) w2 (by decide); have n3 := lv_neT (a := 5) w3 (by decide); have n4 := lv_neT (a := 6) w4 (by decide); have n5 := lv_neT (a := 7) w5 (by decide); omega) (by decide) ?_
              refine rj_bipush (v := (-2)) dX2_ownChoice_76 (by decide) ?_
              exact rm_iret dX2_ownChoice_78 rfl rfl V
-- X2_sideways
set_option maxRecDepth 100000 in
set_option maxHeartbeats 4000000 in
theorem vX2_sideways_0 {w : Wd} {h : Nat} (P : Nat) (a0 : Int32) (a1 : Int32) (hP : isPane P)  (M : Mem) (Q : Option Value → Mem → Prop) (V : (CSi w h kX10_besideOf [.int a0, .int (if ((a0 - a0 / 12 * 12) - (a0 - a0 / 12 * 12) / 2 * 2) = 0 then ((-1) : Int32) else (1 : Int32))] M (fun r1 M1 => ((r1 = (-2) → (Q (some (.int (-2))) M1)) ∧ (¬ (r1 = (-2)) → (CSi w h kX2_holdOf [.ref P, .int r1] M1 (fun r2 M2 => (Q (some (.int (if a1 < r2 then ((-2) : Int32) else r1))) M2)))))))) : RM w (h + 1) kX2_sideways 0 [(0, .ref P), (1, .int a0), (2, .int a1)] [] M Q := by
  refine rj_iload_n dX2_sideways_0 1 rfl rfl ?_
  refine rj_iload_n dX2_sideways_1 1 rfl rfl ?_
  refine rm_callSNi [.int a0] (rest := [.int a0]) (K := fun x M' => (a0 - a0 / 12 * 12) = x ∧ M = M') mn_RX2_72 mtX10_columnOf rfl dX2_sideways_2 rfl rfl (Nat.le_of_ble_eq_true rfl) (by decide) (uX10_columnOf ⟨rfl, rfl⟩) (fun x M' hx => ?_)
  obtain ⟨rfl, rfl⟩ := hx
  refine rj_iconst (v := 2) dX2_sideways_5 (by decide) ?_
  refine rj_irem dX2_sideways_6 (by decide) ?_
  have KD : RM w (h + 1) kX2_sideways 15 [(0, .ref P), (1, .int a0), (2, .int a1)] [.int (if ((a0 - a0 / 12 * 12) - (a0 - a0 / 12 * 12) / 2 * 2) = 0 then ((-1) : Int32) else (1 : Int32)), .int a0] M Q := by
    refine rm_callSNi [.int a0, .int (if ((a0 - a0 / 12 * 12) - (a0 - a0 / 12 * 12) / 2 * 2) = 0 then ((-1) : Int32) else (1 : Int32))] (rest := []) mn_RX2_75 mtX10_besideOf rfl dX2_sideways_15 rfl rfl (Nat.le_of_ble_eq_true rfl) (by decide) V (fun r1 M1 V => ?_)
    refine rj_istore_n (lv' := [(0, .ref P), (1, .int a0), (2, .int a1), (3, .int r1)]) dX2_sideways_18 rfl (by decide) rfl rfl ?_
    refine rj_iload_n dX2_sideways_19 3 rfl rfl ?_
    refine rj_bipush (v := (-2)) dX2_sideways_20 (by decide) ?_
    obtain ⟨V1, V2⟩ := V
    refine rj_icmp_eq (tgt := 38) dX2_sideways_22 (by decide) (fun hc => ?_) (fun hc => ?_)
    · have V := V1 hc
      refine rj_bipush (v := (-2)) dX2_sideways_38 (by decide) ?_
      exact rm_iret dX2_sideways_40 rfl rfl V
    · have V := V2 hc
      refine rj_aload_n dX2_sideways_25 0 rfl rfl ?_
      refine rj_iload_n dX2_sideways_26 3 rfl rfl ?_
      refine rm_callVi [.int r1] (rest := []) ml_RX2_62 mvX2_holdOf rfl dX2_sideways_27 hP.1 rfl rfl rfl rfl (Nat.le_of_ble_eq_true rfl) (by decide) V (fun r2 M2 V => ?_)
      refine rj_iload_n dX2_sideways_30 2 rfl rfl ?_
      have KD : RM w (h + 1) kX2_sideways 40 [(0, .ref P), (1, .int a0), (2, .int a1), (3, .int r1)] [.int (if a1 < r2 then ((-2) : Int32) else r1)] M2 Q := by
        exact rm_iret dX2_sideways_40 rfl rfl V
      refine rj_icmp_gt (tgt := 38) dX2_sideways_31 (by decide) (fun hc => ?_) (fun hc => ?_)
      · refine rj_bipush (v := (-2)) dX2_sideways_38 (by decide) ?_
        exact rs_ite_t hc KD
      · refine rj_iload_n dX2_sideways_34 3 rfl rfl ?_
        refine rj_goto (tgt := 40) dX2_sideways_35 (by decide) ?_
        exact rs_ite_f hc KD
  refine rj_if_ne (tgt := 14) dX2_sideways_7 (by decide) (fun hc => ?_) (fun hc => ?_)
  · refine rj_iconst (v := 1) dX2_sideways_14 (by decide) ?_
    exact rs_ite_f hc KD
  · refine rj_iconst (v := (-1)) dX2_sideways_10 (by decide) ?_
    refine rj_goto (tgt := 15) dX2_sideways_11 (by decide) ?_
    exact rs_ite_t hc KD
-- X2_swing
set_option maxRecDepth 100000 in
set_option maxHeartbeats 4000000 in
theorem vX2_swing_0 {w : Wd} {h : Nat} (P : Nat) (a0 : Int32) (hP : isPane P)  (M : Mem) (Q : Option Value → Mem → Prop) (V : ((¬ ((a0 - a0 / 2 * 2) = 0) → (vp_in 2 3 ∧ (Q (some (.int (M (P + 3) (Int32.toNatClampNeg 2)))) M))) ∧ ((a0 - a0 / 2 * 2) = 0 → (vp_in 1 3 ∧ (Q (some (.int (M (P + 3) (Int32.toNatClampNeg 1)))) M))))) : RM w h kX2_swing 0 [(0, .ref P), (1, .int a0)] [] M Q := by
  refine rj_iload_n dX2_swing_0 1 rfl rfl ?_
  refine rj_iconst (v := 2) dX2_swing_1 (by decide) ?_
  refine rj_irem dX2_swing_2 (by decide) ?_
  obtain ⟨V1, V2⟩ := V
  refine rj_if_ne (tgt := 15) dX2_swing_3 (by decide) (fun hc => ?_) (fun hc => ?_)
  · have V := V1 hc
    refine rj_aload_n dX2_swing_15 0 rfl rfl ?_
    refine rs_getR (t := P + 3) fl_RX2_28 rfl (by decide) (by decide) rfl dX2_swing_16 hP.1 (by omega) ?_
    refine rj_iconst (v := 2) dX2_swing_19 (by decide) ?_
    obtain ⟨hb, V⟩ := V
    refine rs_iald dX2_swing_20 hP.2.2.2 hb ?_
    exact rm_iret dX2_swing_21 rfl rfl V
  · have V := V2 hc
    refine rj_aload_n dX2_swing_6 0 rfl rfl ?_
    refine rs_getR (t := P + 3) fl_RX2_28 rfl (by decide) (by decide) rfl dX2_swing_7 hP.1 (by omega) ?_
    refine rj_iconst (v := 1) dX2_swing_10 (by decide) ?_
    obtain ⟨hb, V⟩ := V
    refine rs_iald dX2_swing_11 hP.2.2.2 hb ?_
    refine rj_goto (tgt := 21) dX2_swing_12 (by decide) ?_
    exact rm_iret dX2_swing_21 rfl rfl V
-- X2_softest
set_option maxRecDepth 100000 in
set_option maxHeartbeats 4000000 in
theorem vX2_softest_0 {w : Wd} {h : Nat} (P : Nat) (hP : isPane P)  (M : Mem) (Q : Option Value → Mem → Prop) (V : RM w (h + 1) kX2_softest 17 [(0, .ref P), (1, .int (-2)), (2, .int 0), (3, .ref (P + 3)), (4, .int 3), (5, .int 0)] [] M Q) : RM w (h + 1) kX2_softest 0 [(0, .ref P)] [] M Q := by
  refine rj_bipush (v := (-2)) dX2_softest_0 (by decide) ?_
  refine rj_istore_n (lv' := [(0, .ref P), (1, .int (-2))]) dX2_softest_2 rfl (by decide) rfl rfl ?_
  refine rj_iconst (v := 0) dX2_softest_3 (by decide) ?_
  refine rj_istore_n (lv' := [(0, .ref P), (1, .int (-2)), (2, .int 0)]) dX2_softest_4 rfl (by decide) rfl rfl ?_
  refine rj_aload_n dX2_softest_5 0 rfl rfl ?_
  refine rs_getR (t := P + 3) fl_RX2_28 rfl (by decide) (by decide) rfl dX2_softest_6 hP.1 (by omega) ?_
  refine rj_astore_n (lv' := [(0, .ref P), (1, .int (-2)), (2, .int 0), (3, .ref (P + 3))]) dX2_softest_9 rfl (by decide) rfl rfl ?_
  refine rj_aload_n dX2_softest_10 3 rfl rfl ?_
  refine rs_alen (v := 3) dX2_softest_11 hP.2.2.2 (by decide) (by decide) ?_
  refine rj_istore (lv' := [(0, .ref P), (1, .int (-2)), (2, .int 0), (3, .ref (P + 3)), (4, .int 3)]) dX2_softest_12 (by decide) rfl rfl ?_
  refine rj_iconst (v := 0) dX2_softest_14 (by decide) ?_
  refine rj_istore (lv' := [(0, .ref P), (1, .int (-2)), (2, .int 0), (3, .ref (P + 3)), (4, .int 3), (5, .int 0)]) dX2_softest_15 (by decide) rfl rfl ?_
  exact rs_sub [0, 1, 2, 3, 4, 5] rfl V
set_option maxRecDepth 100000 in
set_option maxHeartbeats 4000000 in
theorem vX2_softest_17 {w : Wd} {h : Nat} (P : Nat) (v1 : Int32) (v2 : Int32) (v4 : Int32) (v5 : Int32) (hP : isPane P)  (M : Mem) (Q : Option Value → Mem → Prop) (V : ((v4 ≤ v5 → (Q (some (.int v1)) M)) ∧ (¬ (v4 ≤ v5) → (vp_in v5 3 ∧ (∀ x1 : Int32, x1 = (M (P + 3) (Int32.toNatClampNeg v5)) → ((x1 = (-2) → (∀ x2 : Int32, x2 = v5 + 1 → RM w (h + 1) kX2_softest 17 [(0, .ref P), (1, .int v1), (2, .int v2), (3, .ref (P + 3)), (4, .int v4), (5, .int x2)] [] M Q)) ∧ (¬ (x1 = (-2)) → ((v1 = (-2) → (CSi w h kX2_holdOf [.ref P, .int x1] M (fun r1 M1 => (∀ x2 : Int32, x2 = v5 + 1 → RM w (h + 1) kX2_softest 17 [(0, .ref P), (1, .int x1), (2, .int r1), (3, .ref (P + 3)), (4, .int v4), (5, .int x2)] [] M1 Q)))) ∧ (¬ (v1 = (-2)) → (CSi w h kX2_holdOf [.ref P, .int x1] M (fun r1 M1 => ((v2 ≤ r1 → (∀ x2 : Int32, x2 = v5 + 1 → RM w (h + 1) kX2_softest 17 [(0, .ref P), (1, .int v1), (2, .int v2), (3, .ref (P + 3)), (4, .int v4), (5, .int x2)] [] M1 Q)) ∧ (¬ (v2 ≤ r1) → (CSi w h kX2_holdOf [.ref P, .int x1] M1 (fun r2 M2 => (∀ x2 : Int32, x2 = v5 + 1 → RM w (h + 1) kX2_softest 17 [(0, .ref P), (1, .int x1), (2, .int r2), (3, .ref (P + 3)), (4, .int v4), (5, .int x2)] [] M2 Q)))))))))))))))) : RM w (h + 1) kX2_softest 17 [(0, .ref P), (1, .int v1), (2, .int v2), (3, .ref (P + 3)), (4, .int v4), (5, .int v5)] [] M Q := by
  refine rj_iload dX2_softest_17 5 rfl ?_
  refine rj_iload dX2_softest_19 4 rfl ?_
  obtain ⟨V1, V2⟩ := V
  refine rj_icmp_ge (tgt := 69) dX2_softest_21 (by decide) (fun hc => ?_) (fun hc => ?_)
  · have V := V1 hc
    refine rj_iload_n dX2_softest_69 1 rfl rfl ?_
    exact rm_iret dX2_softest_70 rfl rfl V
  · have V := V2 hc
    refine rj_aload_n dX2_softest_24 3 rfl rfl ?_
    refine rj_iload dX2_softest_25 5 rfl ?_
    obtain ⟨hb, V⟩ := V
    refine rs_iald dX2_softest_27 hP.2.2.2 hb ?_
    refine rj_top (fun x1 ex1 => ?_)
    have V := V x1 ex1
    refine rj_istore (lv' := [(0, .ref P), (1, .int v1), (2, .int v2), (3, .ref (P + 3)), (4, .int v4), (5, .int v5), (6, .int x1)]) dX2_softest_28 (by decide) rfl rfl ?_
    refine rj_iload dX2_softest_30 6 rfl ?_
    refine rj_bipush (v := (-2)) dX2_softest_32 (by decide) ?_
    obtain ⟨V1, V2⟩ := V
    refine rj_icmp_eq (tgt := 63) dX2_softest_34 (by decide) (fun hc => ?_) (fun hc => ?_)
    · have V := V1 hc
      refine rj_iincV (c := 1) (fun y => [(0, .ref P), (1, .int v1), (2, .int v2), (3, .ref (P + 3)), (4, .int v4), (5, .int y), (6, .int x1)]) dX2_softest_63 5 rfl (by decide) (by decide) rfl (fun _ => rfl) (fun x2 ex2 => ?_)
      have V := V x2 ex2
      refine rj_goto (tgt := 17) dX2_softest_66 (by decide) ?_
      exact rs_sub [0, 1, 2, 3, 4, 5] rfl V
    · have V := V2 hc
      refine rj_iload_n dX2_softest_37 1 rfl rfl ?_
      refine rj_bipush (v := (-2)) dX2_softest_38 (by decide) ?_
      obtain ⟨V1, V2⟩ := V
      refine rj_icmp_eq (tgt := 53) dX2_softest_40 (by decide) (fun hc => ?_) (fun hc => ?_)
      · have V := V1 hc
        refine rj_iload dX2_softest_53 6 rfl ?_
        refine rj_istore_n (lv' := [(0, .ref P), (1, .int x1), (2, .int v2), (3, .ref (P + 3)), (4, .int v4), (5, .int v5), (6, .int x1)]) dX2_softest_55 rfl (by decide) rfl rfl ?_
        refine rj_aload_n dX2_softest_56 0 rfl rfl ?_
        refine rj_iload dX2_softest_57 6 rfl ?_
        refine rm_callVi [.int x1] (rest := []) ml_RX2_62 mvX2_holdOf rfl dX2_softest_59 hP.1 rfl rfl rfl rfl (Nat.le_of_ble_eq_true rfl) (by decide) V (fun r1 M1 V => ?_)
        refine rj_istore_n (lv' := [(0, .ref P), (1, .int x1), (2, .int r1), (3, .ref (P + 3)), (4, .int v4), (5, .int v5), (6, .int x1)]) dX2_softest_62 rfl (by decide) rfl rfl ?_
        refine rj_iincV (c := 1) (fun y => [(0, .ref P), (1, .int x1), (2, .int r1), (3, .ref (P + 3)), (4, .int v4), (5, .int y), (6, .int x1)]) dX2_softest_63 5 rfl (by decide) (by decide) rfl (fun _ => rfl) (fun x2 ex2 => ?_)
        have V := V x2 ex2
        refine rj_goto (tgt := 17) dX2_softest_66 (by decide) ?_
        exact rs_sub [0, 1, 2, 3, 4, 5] rfl V
      · have V := V2 hc
        refine rj_aload_n dX2_softest_43 0 rfl rfl ?_
        refine rj_iload dX2_softest_44 6 rfl ?_
        refine rm_callVi [.int x1] (rest := []) ml_RX2_62 mvX2_holdOf rfl dX2_softest_46 hP.1 rfl rfl rfl rfl (Nat.le_of_ble_eq_true rfl) (by decide) V (fun r1 M1 V => ?_)
        refine rj_iload_n dX2_softest_49 2 rfl rfl ?_
        obtain ⟨V1, V2⟩ := V
        refine rj_icmp_ge (tgt := 63) dX2_softest_50 (by decide) (fun hc => ?_) (fun hc => ?_)
        · have V := V1 hc
          refine rj_iincV (c := 1) (fun y => [(0, .ref P), (1, .int v1), (2, .int v2), (3, .ref (P + 3)), (4, .int v4), (5, .int y), (6, .int x1)]) dX2_softest_63 5 rfl (by decide) (by decide) rfl (fun _ => rfl) (fun x2 ex2 => ?_)
          have V := V x2 ex2
          refine rj_goto (tgt := 17) dX2_softest_66 (by decide) ?_
          exact rs_sub [0, 1, 2, 3, 4, 5] rfl V
        · have V := V2 hc
          refine rj_iload dX2_softest_53 6 rfl ?_
          refine rj_istore_n (lv' := [(0, .ref P), (1, .int x1), (2, .int v2), (3, .ref (P + 3)), (4, .int v4), (5, .int v5), (6, .int x1)]) dX2_softest_55 rfl (by decide) rfl rfl ?_
          refine rj_aload_n dX2_softest_56 0 rfl rfl ?_
          refine rj_iload dX2_softest_57 6 rfl ?_
          refine rm_callVi [.int x1] (rest := []) ml_RX2_62 mvX2_holdOf rfl dX2_softest_59 hP.1 rfl rfl rfl rfl (Nat.le_of_ble_eq_true rfl) (by decide) V (fun r2 M2 V => ?_)
          refine rj_istore_n (lv' := [(0, .ref P), (1, .int x1), (2, .int r2), (3, .ref (P + 3)), (4, .int v4), (5, .int v5), (6, .int x1)]) dX2_softest_62 rfl (by decide) rfl rfl ?_
          refine rj_iincV (c := 1) (fun y => [(0, .ref P), (1, .int x1), (2, .int r2), (3, .ref (P + 3)), (4, .int v4), (5, .int y), (6, .int x1)]) dX2_softest_63 5 rfl (by decide) (by decide) rfl (fun _ => rfl) (fun x2 ex2 => ?_)
          have V := V x2 ex2
          refine rj_goto (tgt := 17) dX2_softest_66 (by decide) ?_
          exact rs_sub [0, 1, 2, 3, 4, 5] rfl V
-- X2_wettest
set_option maxRecDepth 100000 in
set_option maxHeartbeats 4000000 in
theorem vX2_wettest_0 {w : Wd} {h : Nat} (P : Nat) (hP : isPane P)  (M : Mem) (Q : Option Value → Mem → Prop) (V : RM w h kX2_wettest 17 [(0, .ref P), (1, .int (-2)), (2, .int 0), (3, .ref (P + 3)), (4, .int 3), (5, .int 0)] [] M Q) : RM w h kX2_wettest 0 [(0, .ref P)] [] M Q := by
  refine rj_bipush (v := (-2)) dX2_wettest_0 (by decide) ?_
  refine rj_istore_n (lv' := [(0, .ref P), (1, .int (-2))]) dX2_wettest_2 rfl (by decide) rfl rfl ?_
  refine rj_iconst (v := 0) dX2_wettest_3 (by decide) ?_
  refine rj_istore_n (lv' := [(0, .ref P), (1, .int (-2)), (2, .int 0)]) dX2_wettest_4 rfl (by decide) rfl rfl ?_
  refine rj_aload_n dX2_wettest_5 0 rfl rfl ?_
  refine rs_getR (t := P + 3) fl_RX2_28 rfl (by decide) (by decide) rfl dX2_wettest_6 hP.1 (by omega) ?_
  refine rj_astore_n (lv' := [(0, .ref P), (1, .int (-2)), (2, .int 0), (3, .ref (P + 3))]) dX2_wettest_9 rfl (by decide) rfl rfl ?_
  refine rj_aload_n dX2_wettest_10 3 rfl rfl ?_
  refine rs_alen (v := 3) dX2_wettest_11 hP.2.2.2 (by decide) (by decide) ?_
  refine rj_istore (lv' := [(0, .ref P), (1, .int (-2)), (2, .int 0), (3, .ref (P + 3)), (4, .int 3)]) dX2_wettest_12 (by decide) rfl rfl ?_
  refine rj_iconst (v := 0) dX2_wettest_14 (by decide) ?_
  refine rj_istore (lv' := [(0, .ref P), (1, .int (-2)), (2, .int 0), (3, .ref (P + 3)), (4, .int 3), (5, .int 0)]) dX2_wettest_15 (by decide) rfl rfl ?_
  exact rs_sub [0, 1, 2, 3, 4, 5] rfl V
set_option maxRecDepth 100000 in
set_option maxHeartbeats 4000000 in
theorem vX2_wettest_17 {w : Wd} {h : Nat} (P : Nat) (v1 : Int32) (v2 : Int32) (v4 : Int32) (v5 : Int32) (hP : isPane P)  (M : Mem) (Q : Option Value → Mem → Prop) (V : ((v4 ≤ v5 → (Q (some (.int v1)) M)) ∧ (¬ (v4 ≤ v5) → (vp_in v5 3 ∧ (∀ x1 : Int32, x1 = (M (P + 3) (Int32.toNatClampNeg v5)) → ((x1 = (-2) → (∀ x2 : Int32, x2 = v5 + 1 → RM w h kX2_wettest 17 [(0, .ref P), (1, .int v1), (2, .int v2), (3, .ref (P + 3)), (4, .int v4), (5, .int x2)] [] M Q)) ∧ (¬ (x1 = (-2)) → (vp_in x1 192 ∧ (((M (P + 2) (Int32.toNatClampNeg x1)) ≤ v2 → (∀ x2 : Int32, x2 = v5 + 1 → RM w h kX2_wettest 17 [(0, .ref P), (1, .int v1), (2, .int v2), (3, .ref (P + 3)), (4, .int v4), (5, .int x2)] [] M Q)) ∧ (¬ ((M (P + 2) (Int32.toNatClampNeg x1)) ≤ v2) → (vp_in x1 192 ∧ (∀ x2 : Int32, x2 = (M (P + 2) (Int32.toNatClampNeg x1)) → (∀ x3 : Int32, x3 = v5 + 1 → RM w h kX2_wettest 17 [(0, .ref P), (1, .int x1), (2, .int x2), (3, .ref (P + 3)), (4, .int v4), (5, .int x3)] [] M Q))))))))))))) : RM w h kX2_wettest 17 [(0, .ref P), (1, .int v1), (2, .int v2), (3, .ref (P + 3)), (4, .int v4), (5, .int v5)] [] M Q := by
  refine rj_iload dX2_wettest_17 5 rfl ?_
  refine rj_iload dX2_wettest_19 4 rfl ?_
  obtain ⟨V1, V2⟩ := V
  refine rj_icmp_ge (tgt := 65) dX2_wettest_21 (by decide) (fun hc => ?_) (fun hc => ?_)
  · have V := V1 hc
    refine rj_iload_n dX2_wettest_65 1 rfl rfl ?_
    exact rm_iret dX2_wettest_66 rfl rfl V
  · have V := V2 hc
    refine rj_aload_n dX2_wettest_24 3 rfl rfl ?_
    refine rj_iload dX2_wettest_25 5 rfl ?_
    obtain ⟨hb, V⟩ := V
    refine rs_iald dX2_wettest_27 hP.2.2.2 hb ?_
    refine rj_top (fun x1 ex1 => ?_)
    have V := V x1 ex1
    refine rj_istore (lv' := [(0, .ref P), (1, .int v1), (2, .int v2), (3, .ref (P + 3)), (4, .int v4), (5, .int v5), (6, .int x1)]) dX2_wettest_28 (by decide) rfl rfl ?_
    refine rj_iload dX2_wettest_30 6 rfl ?_
    refine rj_bipush (v := (-2)) dX2_wettest_32 (by decide) ?_
    obtain ⟨V1, V2⟩ := V
    refine rj_icmp_eq (tgt := 59) dX2_wettest_34 (by decide) (fun hc => ?_) (fun hc => ?_)
    · have V := V1 hc
      refine rj_iincV (c := 1) (fun y => [(0, .ref P), (1, .int v1), (2, .int v2), (3, .ref (P + 3)), (4, .int v4), (5, .int y), (6, .int x1)]) dX2_wettest_59 5 rfl (by decide) (by decide) rfl (fun _ => rfl) (fun x2 ex2 => ?_)
      have V := V x2 ex2
      refine rj_goto (tgt := 17) dX2_wettest_62 (by decide) ?_
      exact rs_sub [0, 1, 2, 3, 4, 5] rfl V
    · have V := V2 hc
      refine rj_aload_n dX2_wettest_37 0 rfl rfl ?_
      refine rs_getR (t := P + 2) fl_RX2_15 rfl (by decide) (by decide) rfl dX2_wettest_38 hP.1 (by omega) ?_
      refine rj_iload dX2_wettest_41 6 rfl ?_
      obtain ⟨hb, V⟩ := V
      refine rs_iald dX2_wettest_43 hP.2.2.1 hb ?_
      refine rj_iload_n dX2_wettest_44 2 rfl rfl ?_
      obtain ⟨V1, V2⟩ := V
      refine rj_icmp_le (tgt := 59) dX2_wettest_45 (by decide) (fun hc => ?_) (fun hc => ?_)
      · have V := V1 hc
        refine rj_iincV (c := 1) (fun y => [(0, .ref P), (1, .int v1), (2, .int v2), (3, .ref (P + 3)), (4, .int v4), (5, .int y), (6, .int x1)]) dX2_wettest_59 5 rfl (by decide) (by decide) rfl (fun _ => rfl) (fun x2 ex2 => ?_)
        have V := V x2 ex2
        refine rj_goto (tgt := 17) dX2_wettest_62 (by decide) ?_
        exact rs_sub [0, 1, 2, 3, 4, 5] rfl V
      · have V := V2 hc
        refine rj_iload dX2_wettest_48 6 rfl ?_
        refine rj_istore_n (lv' := [(0, .ref P), (1, .int x1), (2, .int v2), (3, .ref (P + 3)), (4, .int v4), (5, .int v5), (6, .int x1)]) dX2_wettest_50 rfl (by decide) rfl rfl ?_
        refine rj_aload_n dX2_wettest_51 0 rfl rfl ?_
        refine rs_getR (t := P + 2) fl_RX2_15 rfl (by decide) (by decide) rfl dX2_wettest_52 hP.1 (by omega) ?_
        refine rj_iload dX2_wettest_55 6 rfl ?_
        obtain ⟨hb, V⟩ := V
        refine rs_iald dX2_wettest_57 hP.2.2.1 hb ?_
        refine rj_top (fun x2 ex2 => ?_)
        have V := V x2 ex2
        refine rj_istore_n (lv' := [(0, .ref P), (1, .int x1), (2, .int x2), (3, .ref (P + 3)), (4, .int v4), (5, .int v5), (6, .int x1)]) dX2_wettest_58 rfl (by decide) rfl rfl ?_
        refine rj_iincV (c := 1) (fun y => [(0, .ref P), (1, .int x1), (2, .int x2), (3, .ref (P + 3)), (4, .int v4), (5, .int y), (6, .int x1)]) dX2_wettest_59 5 rfl (by decide) (by decide) rfl (fun _ => rfl) (fun x3 ex3 => ?_)
        have V := V x3 ex3
        refine rj_goto (tgt := 17) dX2_wettest_62 (by decide) ?_
        exact rs_sub [0, 1, 2, 3, 4, 5] rfl V
-- X3_become
set_option maxRecDepth 100000 in
set_option maxHeartbeats 4000000 in
theorem vX3_become_0 {w : Wd} {h : Nat} (A : Nat) (B : Nat) (hA : isProgs A) (hB : isProgs B)  (M : Mem) (Q : Option Value → Mem → Prop) (V : (∀ M1 : Mem, M1 = mset M A 0 (M B 0) → (CSv w h kX10_copyAll [.ref (B + 1), .ref (A + 1)] M1 (fun M2 => (CSv w h kX10_copyAll [.ref (B + 2), .ref (A + 2)] M2 (fun M3 => (CSv w h kX10_copyAll [.ref (B + 3), .ref (A + 3)] M3 (fun M4 => (CSv w h kX10_copyAll [.ref (B + 4), .ref (A + 4)] M4 (fun M5 => (Q none M5))))))))))) : RM w (h + 1) kX3_become 0 [(0, .ref A), (1, .ref B)] [] M Q := by
  refine rj_aload_n dX3_become_0 0 rfl rfl ?_
  refine rj_aload_n dX3_become_1 1 rfl rfl ?_
  refine rs_getI fl_RX3_9 rfl (by decide) (by decide) rfl dX3_become_2 hB.1 ?_
  refine rs_putI fl_RX3_9 (ft3_0 _ nofun) rfl (by decide) (by decide) rfl dX3_become_5 rfl rfl hA.1 (fun M1 eM1 => ?_)
  have V := V M1 eM1
  refine rj_aload_n dX3_become_8 1 rfl rfl ?_
  refine rs_getR (t := B + 1) fl_RX3_15 rfl (by decide) (by decide) rfl dX3_become_9 hB.1 (by omega) ?_
  refine rj_aload_n dX3_become_12 0 rfl rfl ?_
  refine rs_getR (t := A + 1) fl_RX3_15 rfl (by decide) (by decide) rfl dX3_become_13 hA.1 (by omega) ?_
  refine rm_callSNv [.ref (B + 1), .ref (A + 1)] (rest := []) mn_RX3_28 mtX10_copyAll rfl dX3_become_16 rfl rfl (Nat.le_of_ble_eq_true rfl) (by decide) V (fun M2 V => ?_)
  refine rj_aload_n dX3_become_19 1 rfl rfl ?_
  refine rs_getR (t := B + 2) fl_RX3_19 rfl (by decide) (by decide) rfl dX3_become_20 hB.1 (by omega) ?_
  refine rj_aload_n dX3_become_23 0 rfl rfl ?_
  refine rs_getR (t := A + 2) fl_RX3_19 rfl (by decide) (by decide) rfl dX3_become_24 hA.1 (by omega) ?_
  refine rm_callSNv [.ref (B + 2), .ref (A + 2)] (rest := []) mn_RX3_28 mtX10_copyAll rfl dX3_become_27 rfl rfl (Nat.le_of_ble_eq_true rfl) (by decide) V (fun M3 V => ?_)
  refine rj_aload_n dX3_become_30 1 rfl rfl ?_
  refine rs_getR (t := B + 3) fl_RX3_22 rfl (by decide) (by decide) rfl dX3_become_31 hB.1 (by omega) ?_
  refine rj_aload_n dX3_become_34 0 rfl rfl ?_
  refine rs_getR (t := A + 3) fl_RX3_22 rfl (by decide) (by decide) rfl dX3_become_35 hA.1 (by omega) ?_
  refine rm_callSNv [.ref (B + 3), .ref (A + 3)] (rest := []) mn_RX3_28 mtX10_copyAll rfl dX3_become_38 rfl rfl (Nat.le_of_ble_eq_true rfl) (by decide) V (fun M4 V => ?_)
  refine rj_aload_n dX3_become_41 1 rfl rfl ?_
  refine rs_getR (t := B + 4) fl_RX3_25 rfl (by decide) (by decide) rfl dX3_become_42 hB.1 (by omega) ?_
  refine rj_aload_n dX3_become_45 0 rfl rfl ?_
  refine rs_getR (t := A + 4) fl_RX3_25 rfl (by decide) (by decide) rfl dX3_become_46 hA.1 (by omega) ?_
  refine rm_callSNv [.ref (B + 4), .ref (A + 4)] (rest := []) mn_RX3_28 mtX10_copyAll rfl dX3_become_49 rfl rfl (Nat.le_of_ble_eq_true rfl) (by decide) V (fun M5 V => ?_)
  exact rm_vret dX3_become_52 rfl V
-- X3_put
set_option maxRecDepth 100000 in
set_option maxHeartbeats 4000000 in
theorem vX3_put_0 {w : Wd} {h : Nat} (a0 : Int32) (a1 : Int32) (a2 : Int32) (a3 : Int32)  (M : Mem) (Q : Option Value → Mem → Prop) (V : (vp_in a0 72 ∧ ∀ M1 : Mem, M1 = mset M 15 (Int32.toNatClampNeg a0) a1 → (vp_in a0 72 ∧ ∀ M2 : Mem, M2 = mset M1 16 (Int32.toNatClampNeg a0) a2 → (vp_in a0 72 ∧ ∀ M3 : Mem, M3 = mset M2 17 (Int32.toNatClampNeg a0) a3 → (Q none M3))))) : RM w h kX3_put 0 [(0, .ref 13), (1, .int a0), (2, .int a1), (3, .int a2), (4, .int a3)] [] M Q := by
  refine rj_aload_n dX3_put_0 0 rfl rfl ?_
  refine rs_getR (t := 15) fl_RX3_19 rfl (by decide) (by decide) rfl dX3_put_1 rfl (by omega) ?_
  refine rj_iload_n dX3_put_4 1 rfl rfl ?_
  refine rj_iload_n dX3_put_5 2 rfl rfl ?_
  obtain ⟨hb, V⟩ := V
  refine rs_iast dX3_put_6 rfl hb (fun M1 eM1 => ?_)
  have V := V M1 eM1
  refine rj_aload_n dX3_put_7 0 rfl rfl ?_
  refine rs_getR (t := 16) fl_RX3_22 rfl (by decide) (by decide) rfl dX3_put_8 rfl (by omega) ?_
  refine rj_iload_n dX3_put_11 1 rfl rfl ?_
  refine rj_iload_n dX3_put_12 3 rfl rfl ?_
  obtain ⟨hb, V⟩ := V
  refine rs_iast dX3_put_13 rfl hb (fun M2 eM2 => ?_)
  have V := V M2 eM2
  refine rj_aload_n dX3_put_14 0 rfl rfl ?_
  refine rs_getR (t := 17) fl_RX3_25 rfl (by decide) (by decide) rfl dX3_put_15 rfl (by omega) ?_
  refine rj_iload_n dX3_put_18 1 rfl rfl ?_
  refine rj_iload dX3_put_19 4 rfl ?_
  obtain ⟨hb, V⟩ := V
  refine rs_iast dX3_put_21 rfl hb (fun M3 eM3 => ?_)
  have V := V M3 eM3
  exact rm_vret dX3_put_22 rfl V
-- X3_ticksOf
set_option maxRecDepth 100000 in
set_option maxHeartbeats 4000000 in
theorem vX3_ticksOf_0 {w : Wd} {h : Nat} (a0 : Int32)  (M : Mem) (Q : Option Value → Mem → Prop) (V : RM w h kX3_ticksOf 4 [(0, .ref 13), (1, .int a0), (2, .int 0), (3, .int 0)] [] M Q) : RM w h kX3_ticksOf 0 [(0, .ref 13), (1, .int a0)] [] M Q := by
  refine rj_iconst (v := 0) dX3_ticksOf_0 (by decide) ?_
  refine rj_istore_n (lv' := [(0, .ref 13), (1, .int a0), (2, .int 0)]) dX3_ticksOf_1 rfl (by decide) rfl rfl ?_
  refine rj_iconst (v := 0) dX3_ticksOf_2 (by decide) ?_
  refine rj_istore_n (lv' := [(0, .ref 13), (1, .int a0), (2, .int 0), (3, .int 0)]) dX3_ticksOf_3 rfl (by decide) rfl rfl ?_
  exact rs_sub [0, 1, 2, 3] rfl V
set_option maxRecDepth 100000 in
set_option maxHeartbeats 4000000 in
theorem vX3_ticksOf_4 {w : Wd} {h : Nat} (v1 : Int32) (v2 : Int32) (v3 : Int32)  (M : Mem) (Q : Option Value → Mem → Prop) (V : (vp_in v1 6 ∧ (((M 14 (Int32.toNatClampNeg v1)) ≤ v3 → (Q (some (.int v2)) M)) ∧ (¬ ((M 14 (Int32.toNatClampNeg v1)) ≤ v3) → (∀ x1 : Int32, x1 = ((v1 * 12) + v3) → (vp_in x1 72 ∧ ((¬ ((M 15 (Int32.toNatClampNeg x1)) = 8) → (∀ x2 : Int32, x2 = v3 + 1 → RM w h kX3_ticksOf 4 [(0, .ref 13), (1, .int v1), (2, .int v2), (3, .int x2)] [] M Q)) ∧ ((M 15 (Int32.toNatClampNeg x1)) = 8 → (vp_in x1 72 ∧ (∀ x2 : Int32, x2 = (v2 + (M 16 (Int32.toNatClampNeg x1))) → (∀ x3 : Int32, x3 = v3 + 1 → RM w h kX3_ticksOf 4 [(0, .ref 13), (1, .int v1), (2, .int x2), (3, .int x3)] [] M Q))))))))))) : RM w h kX3_ticksOf 4 [(0, .ref 13), (1, .int v1), (2, .int v2), (3, .int v3)] [] M Q := by
  refine rj_iload_n dX3_ticksOf_4 3 rfl rfl ?_
  refine rj_aload_n dX3_ticksOf_5 0 rfl rfl ?_
  refine rs_getR (t := 14) fl_RX3_15 rfl (by decide) (by decide) rfl dX3_ticksOf_6 rfl (by omega) ?_
  refine rj_iload_n dX3_ticksOf_9 1 rfl rfl ?_
  obtain ⟨hb, V⟩ := V
  refine rs_iald dX3_ticksOf_10 rfl hb ?_
  obtain ⟨V1, V2⟩ := V
  refine rj_icmp_ge (tgt := 50) dX3_ticksOf_11 (by decide) (fun hc => ?_) (fun hc => ?_)
  · have V := V1 hc
    refine rj_iload_n dX3_ticksOf_50 2 rfl rfl ?_
    exact rm_iret dX3_ticksOf_51 rfl rfl V
  · have V := V2 hc
    refine rj_iload_n dX3_ticksOf_14 1 rfl rfl ?_
    refine rj_bipush (v := 12) dX3_ticksOf_15 (by decide) ?_
    refine rj_imul dX3_ticksOf_17 ?_
    refine rj_iload_n dX3_ticksOf_18 3 rfl rfl ?_
    refine rj_iadd dX3_ticksOf_19 ?_
    refine rj_top (fun x1 ex1 => ?_)
    have V := V x1 ex1
    refine rj_istore (lv' := [(0, .ref 13), (1, .int v1), (2, .int v2), (3, .int v3), (4, .int x1)]) dX3_ticksOf_20 (by decide) rfl rfl ?_
    refine rj_aload_n dX3_ticksOf_22 0 rfl rfl ?_
    refine rs_getR (t := 15) fl_RX3_19 rfl (by decide) (by decide) rfl dX3_ticksOf_23 rfl (by omega) ?_
    refine rj_iload dX3_ticksOf_26 4 rfl ?_
    obtain ⟨hb, V⟩ := V
    refine rs_iald dX3_ticksOf_28 rfl hb ?_
    refine rj_bipush (v := 8) dX3_ticksOf_29 (by decide) ?_
    obtain ⟨V1, V2⟩ := V
    refine rj_icmp_ne (tgt := 44) dX3_ticksOf_31 (by decide) (fun hc => ?_) (fun hc => ?_)
    · have V := V1 hc
      refine rj_iincV (c := 1) (fun y => [(0, .ref 13), (1, .int v1), (2, .int v2), (3, .int y), (4, .int x1)]) dX3_ticksOf_44 3 rfl (by decide) (by decide) rfl (fun _ => rfl) (fun x2 ex2 => ?_)
      have V := V x2 ex2
      refine rj_goto (tgt := 4) dX3_ticksOf_47 (by decide) ?_
      exact rs_sub [0, 1, 2, 3] rfl V
    · have V := V2 hc
      refine rj_iload_n dX3_ticksOf_34 2 rfl rfl ?_
      refine rj_aload_n dX3_ticksOf_35 0 rfl rfl ?_
      refine rs_getR (t := 16) fl_RX3_22 rfl (by decide) (by decide) rfl dX3_ticksOf_36 rfl (by omega) ?_
      refine rj_iload dX3_ticksOf_39 4 rfl ?_
      obtain ⟨hb, V⟩ := V
      refine rs_iald dX3_ticksOf_41 rfl hb ?_
      refine rj_iadd dX3_ticksOf_42 ?_
      refine rj_top (fun x2 ex2 => ?_)
      have V := V x2 ex2
      refine rj_istore_n (lv' := [(0, .ref 13), (1, .int v1), (2, .int x2), (3, .int v3), (4, .int x1)]) dX3_ticksOf_43 rfl (by decide) rfl rfl ?_
      refine rj_iincV (c := 1) (fun y => [(0, .ref 13), (1, .int v1), (2, .int x2), (3, .int y), (4, .int x1)]) dX3_ticksOf_44 3 rfl (by decide) (by decide) rfl (fun _ => rfl) (fun x3 ex3 => ?_)
      have V := V x3 ex3
      refine rj_goto (tgt := 4) dX3_ticksOf_47 (by decide) ?_
      exact rs_sub [0, 1, 2, 3] rfl V
-- X4_readText
set_option maxRecDepth 100000 in
set_option maxHeartbeats 4000000 in
theorem vX4_readText_0 {w : Wd} {h : Nat}   (M : Mem) (Q : Option Value → Mem → Prop) (V : (∀ M1 : Mem, M1 = mset M 39 3 0 → (CSv w h kX4_readToken [.ref 39] M1 (fun M2 => (∀ x1 : Int32, x1 = ((M2 13 0) * 12) → RM w (h + 1) kX4_readText 19 [(0, .ref 39), (1, .ref 13), (2, .int x1), (3, .int 0)] [] M2 Q))))) : RM w (h + 1) kX4_readText 0 [(0, .ref 39), (1, .ref 13)] [] M Q := by
  refine rj_aload_n dX4_readText_0 0 rfl rfl ?_
  refine rj_iconst (v := 0) dX4_readText_1 (by decide) ?_
  refine rs_putI fl_RX4_15 (ft4_3 _ nofun) rfl (by decide) (by decide) rfl dX4_readText_2 rfl rfl rfl (fun M1 eM1 => ?_)
  have V := V M1 eM1
  refine rj_aload_n dX4_readText_5 0 rfl rfl ?_
  refine rm_callVv [] (rest := []) ml_RX4_19 mvX4_readToken rfl dX4_readText_6 rfl rfl rfl rfl rfl (Nat.le_of_ble_eq_true rfl) (by decide) V (fun M2 V => ?_)
  refine rj_aload_n dX4_readText_9 1 rfl rfl ?_
  refine rs_getI fl_RX4_22 rfl (by decide) (by decide) rfl dX4_readText_10 rfl ?_
  refine rj_bipush (v := 12) dX4_readText_13 (by decide) ?_
  refine rj_imul dX4_readText_15 ?_
  refine rj_top (fun x1 ex1 => ?_)
  have V := V x1 ex1
  refine rj_istore_n (lv' := [(0, .ref 39), (1, .ref 13), (2, .int x1)]) dX4_readText_16 rfl (by decide) rfl rfl ?_
  refine rj_iconst (v := 0) dX4_readText_17 (by decide) ?_
  refine rj_istore_n (lv' := [(0, .ref 39), (1, .ref 13), (2, .int x1), (3, .int 0)]) dX4_readText_18 rfl (by decide) rfl rfl ?_
  exact rs_sub [0, 1, 2, 3] rfl V
set_option maxRecDepth 100000 in
set_option maxHeartbeats 4000000 in
theorem vX4_readText_19 {w : Wd} {h : Nat} (v2 : Int32) (v3 : Int32)  (M : Mem) (Q : Option Value → Mem → Prop) (V : ((12 ≤ v3 → (Q (some (.int (M 39 2))) M)) ∧ (¬ (12 ≤ v3) → (CSi w h kX4_readDeed [.ref 39, .ref 13, .int (v2 + v3)] M (fun r1 M1 => ((r1 = (-1) → ((¬ ((M1 39 1) = 0) → (((M1 39 1) = 3 → (CSv w h kX4_readToken [.ref 39] M1 (fun M2 => (∀ x1 : Int32, x1 = v3 + 1 → RM w (h + 1) kX4_readText 19 [(0, .ref 39), (1, .ref 13), (2, .int v2), (3, .int x1)] [] M2 Q)))) ∧ (¬ ((M1 39 1) = 3) → (Q (some (.int (M1 39 2))) M1)))) ∧ ((M1 39 1) = 0 → (vp_in (M1 13 0) 6 ∧ ∀ M2 : Mem, M2 = mset M1 14 (Int32.toNatClampNeg (M1 13 0)) (v3 + 1) → (∀ M3 : Mem, M3 = mset M2 13 0 ((M2 13 0) + 1) → (Q (some (.int (-1))) M3)))))) ∧ (¬ (r1 = (-1)) → (Q (some (.int r1)) M1)))))))) : RM w (h + 1) kX4_readText 19 [(0, .ref 39), (1, .ref 13), (2, .int v2), (3, .int v3)] [] M Q := by
  refine rj_iload_n dX4_readText_19 3 rfl rfl ?_
  refine rj_bipush (v := 12) dX4_readText_20 (by decide) ?_
  obtain ⟨V1, V2⟩ := V
  refine rj_icmp_ge (tgt := 98) dX4_readText_22 (by decide) (fun hc => ?_) (fun hc => ?_)
  · have V := V1 hc
    refine rj_aload_n dX4_readText_98 0 rfl rfl ?_
    refine rs_getI fl_RX4_38 rfl (by decide) (by decide) rfl dX4_readText_99 rfl ?_
    exact rm_iret dX4_readText_102 rfl rfl V
  · have V := V2 hc
    refine rj_aload_n dX4_readText_25 0 rfl rfl ?_
    refine rj_aload_n dX4_readText_26 1 rfl rfl ?_
    refine rj_iload_n dX4_readText_27 2 rfl rfl ?_
    refine rj_iload_n dX4_readText_28 3 rfl rfl ?_
    refine rj_iadd dX4_readText_29 ?_
    refine rm_callVi [.ref 13, .int (v2 + v3)] (rest := []) ml_RX4_27 mvX4_readDeed rfl dX4_readText_30 rfl rfl rfl rfl rfl (Nat.le_of_ble_eq_true rfl) (by decide) V (fun r1 M1 V => ?_)
    refine rj_istore (lv' := [(0, .ref 39), (1, .ref 13), (2, .int v2), (3, .int v3), (4, .int r1)]) dX4_readText_33 (by decide) rfl rfl ?_
    refine rj_iload dX4_readText_35 4 rfl ?_
    refine rj_iconst (v := (-1)) dX4_readText_37 (by decide) ?_
    obtain ⟨V1, V2⟩ := V
    refine rj_icmp_eq (tgt := 44) dX4_readText_38 (by decide) (fun hc => ?_) (fun hc => ?_)
    · have V := V1 hc
      refine rj_aload_n dX4_readText_44 0 rfl rfl ?_
      refine rs_getI fl_RX4_31 rfl (by decide) (by decide) rfl dX4_readText_45 rfl ?_
      obtain ⟨V1, V2⟩ := V
      refine rj_if_ne (tgt := 75) dX4_readText_48 (by decide) (fun hc => ?_) (fun hc => ?_)
      · have V := V1 hc
        refine rj_aload_n dX4_readText_75 0 rfl rfl ?_
        refine rs_getI fl_RX4_31 rfl (by decide) (by decide) rfl dX4_readText_76 rfl ?_
        refine rj_iconst (v := 3) dX4_readText_79 (by decide) ?_
        obtain ⟨V1, V2⟩ := V
        refine rj_icmp_eq (tgt := 88) dX4_readText_80 (by decide) (fun hc => ?_) (fun hc => ?_)
        · have V := V1 hc
          refine rj_aload_n dX4_readText_88 0 rfl rfl ?_
          refine rm_callVv [] (rest := []) ml_RX4_19 mvX4_readToken rfl dX4_readText_89 rfl rfl rfl rfl rfl (Nat.le_of_ble_eq_true rfl) (by decide) V (fun M2 V => ?_)
          refine rj_iincV (c := 1) (fun y => [(0, .ref 39), (1, .ref 13), (2, .int v2), (3, .int y), (4, .int r1)]) dX4_readText_92 3 rfl (by decide) (by decide) rfl (fun _ => rfl) (fun x1 ex1 => ?_)
          have V := V x1 ex1
          refine rj_goto (tgt := 19) dX4_readText_95 (by decide) ?_
          exact rs_sub [0, 1, 2, 3] rfl V
        · have V := V2 hc
          refine rj_aload_n dX4_readText_83 0 rfl rfl ?_
          refine rs_getI fl_RX4_38 rfl (by decide) (by decide) rfl dX4_readText_84 rfl ?_
          exact rm_iret dX4_readText_87 rfl rfl V
      · have V := V2 hc
        refine rj_aload_n dX4_readText_51 1 rfl rfl ?_
        refine rs_getR (t := 14) fl_RX4_34 rfl (by decide) (by decide) rfl dX4_readText_52 rfl (by omega) ?_
        refine rj_aload_n dX4_readText_55 1 rfl rfl ?_
        refine rs_getI fl_RX4_22 rfl (by decide) (by decide) rfl dX4_readText_56 rfl ?_
        refine rj_iload_n dX4_readText_59 3 rfl rfl ?_
        refine rj_iconst (v := 1) dX4_readText_60 (by decide) ?_
        refine rj_iadd dX4_readText_61 ?_
        obtain ⟨hb, V⟩ := V
        refine rs_iast dX4_readText_62 rfl hb (fun M2 eM2 => ?_)
        have V := V M2 eM2
        refine rj_aload_n dX4_readText_63 1 rfl rfl ?_
        refine rj_dup dX4_readText_64 rfl ?_
        refine rs_getI fl_RX4_22 rfl (by decide) (by decide) rfl dX4_readText_65 rfl ?_
        refine rj_iconst (v := 1) dX4_readText_68 (by decide) ?_
        refine rj_iadd dX4_readText_69 ?_
        refine rs_putI fl_RX4_22 (ft3_0 _ nofun) rfl (by decide) (by decide) rfl dX4_readText_70 rfl rfl rfl (fun M3 eM3 => ?_)
        have V := V M3 eM3
        refine rj_iconst (v := (-1)) dX4_readText_73 (by decide) ?_
        exact rm_iret dX4_readText_74 rfl rfl V
    · have V := V2 hc
      refine rj_iload dX4_readText_41 4 rfl ?_
      exact rm_iret dX4_readText_43 rfl rfl V
-- X4_readDeed
set_option maxRecDepth 100000 in
set_option maxHeartbeats 4000000 in
theorem vX4_readDeed_0 {w : Wd} {h : Nat} (a0 : Int32)  (M : Mem) (Q : Option Value → Mem → Prop) (V : ((¬ ((M 39 1) = 1) → RM w (h + 1) kX4_readDeed 17 [(0, .ref 39), (1, .ref 13), (2, .int a0), (3, .int (-1))] [] M Q) ∧ ((M 39 1) = 1 → (CSi w h kX4_deedOfToken [.ref 39] M (fun r1 M1 => RM w (h + 1) kX4_readDeed 17 [(0, .ref 39), (1, .ref 13), (2, .int a0), (3, .int r1)] [] M1 Q))))) : RM w (h + 1) kX4_readDeed 0 [(0, .ref 39), (1, .ref 13), (2, .int a0)] [] M Q := by
  refine rj_aload_n dX4_readDeed_0 0 rfl rfl ?_
  refine rs_getI fl_RX4_31 rfl (by decide) (by decide) rfl dX4_readDeed_1 rfl ?_
  refine rj_iconst (v := 1) dX4_readDeed_4 (by decide) ?_
  obtain ⟨V1, V2⟩ := V
  refine rj_icmp_ne (tgt := 15) dX4_readDeed_5 (by decide) (fun hc => ?_) (fun hc => ?_)
  · have V := V1 hc
    refine rj_iconst (v := (-1)) dX4_readDeed_15 (by decide) ?_
    refine rj_istore_n (lv' := [(0, .ref 39), (1, .ref 13), (2, .int a0), (3, .int (-1))]) dX4_readDeed_16 rfl (by decide) rfl rfl ?_
    exact rs_sub [0, 1, 2, 3] rfl V
  · have V := V2 hc
    refine rj_aload_n dX4_readDeed_8 0 rfl rfl ?_
    refine rm_callVi [] (rest := []) ml_RX4_41 mvX4_deedOfToken rfl dX4_readDeed_9 rfl rfl rfl rfl rfl (Nat.le_of_ble_eq_true rfl) (by decide) V (fun r1 M1 V => ?_)
    refine rj_goto (tgt := 16) dX4_readDeed_12 (by decide) ?_
    refine rj_istore_n (lv' := [(0, .ref 39), (1, .ref 13), (2, .int a0), (3, .int r1)]) dX4_readDeed_16 rfl (by decide) rfl rfl ?_
    exact rs_sub [0, 1, 2, 3] rfl V
set_option maxRecDepth 100000 in
set_option maxHeartbeats 4000000 in
theorem vX4_readDeed_17 {w : Wd} {h : Nat} (v2 : Int32) (v3 : Int32)  (M : Mem) (Q : Option Value → Mem → Prop) (V : ((¬ (v3 = (-1)) → (CSv w h kX4_readToken [.ref 39] M (fun M1 => ((¬ (v3 = 11) → (((0 : Int32) = 0 → RM w (h + 1) kX4_readDeed 61 [(0, .ref 39), (1, .ref 13), (2, .int v2), (3, .int v3), (4, .int 0)] [] M1 Q) ∧ (¬ ((0 : Int32) = 0) → (CSv w h kX4_readToken [.ref 39] M1 (fun M2 => RM w (h + 1) kX4_readDeed 61 [(0, .ref 39), (1, .ref 13), (2, .int v2), (3, .int v3), (4, .int 0)] [] M2 Q))))) ∧ (v3 = 11 → (∀ x1 : Int32, x1 = (b2i ((M1 39 1) = 4)) → ((x1 = 0 → RM w (h + 1) kX4_readDeed 61 [(0, .ref 39), (1, .ref 13), (2, .int v2), (3, .int v3), (4, .int x1)] [] M1 Q) ∧ (¬ (x1 = 0) → (CSv w h kX4_readToken [.ref 39] M1 (fun M2 => RM w (h + 1) kX4_readDeed 61 [(0, .ref 39), (1, .ref 13), (2, .int v2), (3, .int v3), (4, .int x1)] [] M2 Q)))))))))) ∧ (v3 = (-1) → (Q (some (.int (M 39 2))) M)))) : RM w (h + 1) kX4_readDeed 17 [(0, .ref 39), (1, .ref 13), (2, .int v2), (3, .int v3)] [] M Q := by
  refine rj_iload_n dX4_readDeed_17 3 rfl rfl ?_
  refine rj_iconst (v := (-1)) dX4_readDeed_18 (by decide) ?_
  obtain ⟨V1, V2⟩ := V
  refine rj_icmp_ne (tgt := 27) dX4_readDeed_19 (by decide) (fun hc => ?_) (fun hc => ?_)
  · have V := V1 hc
    refine rj_aload_n dX4_readDeed_27 0 rfl rfl ?_
    refine rm_callVv [] (rest := []) ml_RX4_19 mvX4_readToken rfl dX4_readDeed_28 rfl rfl rfl rfl rfl (Nat.le_of_ble_eq_true rfl) (by decide) V (fun M1 V => ?_)
    refine rj_iload_n dX4_readDeed_31 3 rfl rfl ?_
    refine rj_bipush (v := 11) dX4_readDeed_32 (by decide) ?_
    obtain ⟨V1, V2⟩ := V
    refine rj_icmp_ne (tgt := 49) dX4_readDeed_34 (by decide) (fun hc => ?_) (fun hc => ?_)
    · have V := V1 hc
      refine rj_iconst (v := 0) dX4_readDeed_49 (by decide) ?_
      refine rj_istore (lv' := [(0, .ref 39), (1, .ref 13), (2, .int v2), (3, .int v3), (4, .int 0)]) dX4_readDeed_50 (by decide) rfl rfl ?_
      refine rj_iload dX4_readDeed_52 4 rfl ?_
      obtain ⟨V1, V2⟩ := V
      refine rj_if_eq (tgt := 61) dX4_readDeed_54 (by decide) (fun hc => ?_) (fun hc => ?_)
      · have V := V1 hc
        exact rs_sub [0, 1, 2, 3, 4] rfl V
      · have V := V2 hc
        refine rj_aload_n dX4_readDeed_57 0 rfl rfl ?_
        refine rm_callVv [] (rest := []) ml_RX4_19 mvX4_readToken rfl dX4_readDeed_58 rfl rfl rfl rfl rfl (Nat.le_of_ble_eq_true rfl) (by decide) V (fun M2 V => ?_)
        exact rs_sub [0, 1, 2, 3, 4] rfl V
    · have V := V2 hc
      refine rj_aload_n dX4_readDeed_37 0 rfl rfl ?_
      refine rs_getI fl_RX4_31 rfl (by decide) (by decide) rfl dX4_readDeed_38 rfl ?_
      refine rj_iconst (v := 4) dX4_readDeed_41 (by decide) ?_
      have KD : RM w (h + 1) kX4_readDeed 50 [(0, .ref 39), (1, .ref 13), (2, .int v2), (3, .int v3)] [.int (b2i ((M1 39 1) = 4))] M1 Q := by
        refine rj_top (fun x1 ex1 => ?_)
        have V := V x1 ex1
        refine rj_istore (lv' := [(0, .ref 39), (1, .ref 13), (2, .int v2), (3, .int v3), (4, .int x1)]) dX4_readDeed_50 (by decide) rfl rfl ?_
        refine rj_iload dX4_readDeed_52 4 rfl ?_
        obtain ⟨V1, V2⟩ := V
        refine rj_if_eq (tgt := 61) dX4_readDeed_54 (by decide) (fun hc => ?_) (fun hc => ?_)
        · have V := V1 hc
          exact rs_sub [0, 1, 2, 3, 4] rfl V
        · have V := V2 hc
          refine rj_aload_n dX4_readDeed_57 0 rfl rfl ?_
          refine rm_callVv [] (rest := []) ml_RX4_19 mvX4_readToken rfl dX4_readDeed_58 rfl rfl rfl rfl rfl (Nat.le_of_ble_eq_true rfl) (by decide) V (fun M2 V => ?_)
          exact rs_sub [0, 1, 2, 3, 4] rfl V
      refine rj_icmp_ne (tgt := 49) dX4_readDeed_42 (by decide) (fun hc => ?_) (fun hc => ?_)
      · refine rj_iconst (v := 0) dX4_readDeed_49 (by decide) ?_
        exact rs_b0 hc KD
      · refine rj_iconst (v := 1) dX4_readDeed_45 (by decide) ?_
        refine rj_goto (tgt := 50) dX4_readDeed_46 (by decide) ?_
        exact rs_b1 hc KD
  · have V := V2 hc
    refine rj_aload_n dX4_readDeed_22 0 rfl rfl ?_
    refine rs_getI fl_RX4_38 rfl (by decide) (by decide) rfl dX4_readDeed_23 rfl ?_
    exact rm_iret dX4_readDeed_26 rfl rfl V
set_option maxRecDepth 100000 in
set_option maxHeartbeats 4000000 in
theorem vX4_readDeed_61 {w : Wd} {h : Nat} (v2 : Int32) (v3 : Int32) (v4 : Int32)  (M : Mem) (Q : Option Value → Mem → Prop) (V : (vp_in v3 13 ∧ (vp_in v3 13 ∧ (CSi w h kX4_isNumber [.ref 39, .int (tabL (Int32.toNatClampNeg v3)), .int (tabM (Int32.toNatClampNeg v3))] M (fun r1 M1 => ((¬ (r1 = 0) → (∀ x1 : Int32, x1 = (if v4 = 0 then (M1 39 4) else (-(M1 39 4))) → RM w (h + 1) kX4_readDeed 102 [(0, .ref 39), (1, .ref 13), (2, .int v2), (3, .int v3), (5, .int x1)] [] M1 Q)) ∧ (r1 = 0 → (Q (some (.int (M1 39 2))) M1)))))))) : RM w (h + 1) kX4_readDeed 61 [(0, .ref 39), (1, .ref 13), (2, .int v2), (3, .int v3), (4, .int v4)] [] M Q := by
  refine rj_aload_n dX4_readDeed_61 0 rfl rfl ?_
  refine rj_getsL rfl fn_RX4_45 dX4_readDeed_62 ?_
  refine rj_iload_n dX4_readDeed_65 3 rfl rfl ?_
  obtain ⟨hb, V⟩ := V
  refine rj_taldL dX4_readDeed_66 hb ?_
  refine rj_getsM rfl fn_RX4_48 dX4_readDeed_67 ?_
  refine rj_iload_n dX4_readDeed_70 3 rfl rfl ?_
  obtain ⟨hb, V⟩ := V
  refine rj_taldM dX4_readDeed_71 hb ?_
  refine rm_callVi [.int (tabL (Int32.toNatClampNeg v3)), .int (tabM (Int32.toNatClampNeg v3))] (rest := []) ml_RX4_51 mvX4_isNumber rfl dX4_readDeed_72 rfl rfl rfl rfl rfl (Nat.le_of_ble_eq_true rfl) (by decide) V (fun r1 M1 V => ?_)
  obtain ⟨V1, V2⟩ := V
  refine rj_if_ne (tgt := 83) dX4_readDeed_75 (by decide) (fun hc => ?_) (fun hc => ?_)
  · have V := V1 hc
    refine rj_iload dX4_readDeed_83 4 rfl ?_
    have KD : RM w (h + 1) kX4_readDeed 100 [(0, .ref 39), (1, .ref 13), (2, .int v2), (3, .int v3), (4, .int v4)] [.int (if v4 = 0 then (M1 39 4) else (-(M1 39 4)))] M1 Q := by
      refine rj_top (fun x1 ex1 => ?_)
      have V := V x1 ex1
      refine rj_istore (lv' := [(0, .ref 39), (1, .ref 13), (2, .int v2), (3, .int v3), (4, .int v4), (5, .int x1)]) dX4_readDeed_100 (by decide) rfl rfl ?_
      exact rs_sub [0, 1, 2, 3, 5] rfl V
    refine rj_if_eq (tgt := 96) dX4_readDeed_85 (by decide) (fun hc => ?_) (fun hc => ?_)
    · refine rj_aload_n dX4_readDeed_96 0 rfl rfl ?_
      refine rs_getI fl_RX4_55 rfl (by decide) (by decide) rfl dX4_readDeed_97 rfl ?_
      exact rs_ite_t hc KD
    · refine rj_aload_n dX4_readDeed_88 0 rfl rfl ?_
      refine rs_getI fl_RX4_55 rfl (by decide) (by decide) rfl dX4_readDeed_89 rfl ?_
      refine rj_ineg dX4_readDeed_92 ?_
      refine rj_goto (tgt := 100) dX4_readDeed_93 (by decide) ?_
      exact rs_ite_f hc KD
  · have V := V2 hc
    refine rj_aload_n dX4_readDeed_78 0 rfl rfl ?_
    refine rs_getI fl_RX4_38 rfl (by decide) (by decide) rfl dX4_readDeed_79 rfl ?_
    exact rm_iret dX4_readDeed_82 rfl rfl V
set_option maxRecDepth 100000 in
set_option maxHeartbeats 4000000 in
theorem vX4_readDeed_102 {w : Wd} {h : Nat} (hh : 1 ≤ h) (v2 : Int32) (v3 : Int32) (v5 : Int32)  (M : Mem) (Q : Option Value → Mem → Prop) (V : (CSv w h kX4_readToken [.ref 39] M (fun M1 => ((¬ ((0 ≤ v3 ∧ v3 ≤ 7)) → RM w (h + 1) kX4_readDeed 167 [(1, .ref 13), (2, .int v2), (3, .int v3), (5, .int v5), (6, .int 0)] [] M1 Q) ∧ ((0 ≤ v3 ∧ v3 ≤ 7) → ((¬ ((M1 39 1) = 1) → (Q (some (.int (M1 39 2))) M1)) ∧ ((M1 39 1) = 1 → (CSi w h kX4_isToken [.ref 39, .ref (1000 + (4 + 13))] M1 (fun r1 M2 => ((¬ (r1 = 0) → (CSv w h kX4_readToken [.ref 39] M2 (fun M3 => (CSi w h kX4_isNumber [.ref 39, .int 0, .int 11] M3 (fun r2 M4 => ((¬ (r2 = 0) → (∀ x1 : Int32, x1 = (M4 39 4) → (CSv w h kX4_readToken [.ref 39] M4 (fun M5 => RM w (h + 1) kX4_readDeed 167 [(1, .ref 13), (2, .int v2), (3, .int v3), (5, .int v5), (6, .int x1)] [] M5 Q)))) ∧ (r2 = 0 → (Q (some (.int (M4 39 2))) M4)))))))) ∧ (r1 = 0 → (Q (some (.int (M2 39 2))) M2)))))))))))) : RM w (h + 1) kX4_readDeed 102 [(0, .ref 39), (1, .ref 13), (2, .int v2), (3, .int v3), (5, .int v5)] [] M Q := by
  refine rj_aload_n dX4_readDeed_102 0 rfl rfl ?_
  refine rm_callVv [] (rest := []) ml_RX4_19 mvX4_readToken rfl dX4_readDeed_103 rfl rfl rfl rfl rfl (Nat.le_of_ble_eq_true rfl) (by decide) V (fun M1 V => ?_)
  refine rj_iconst (v := 0) dX4_readDeed_106 (by decide) ?_
  refine rj_istore (lv' := [(0, .ref 39), (1, .ref 13), (2, .int v2), (3, .int v3), (5, .int v5), (6, .int 0)]) dX4_readDeed_107 (by decide) rfl rfl ?_
  refine rj_iload_n dX4_readDeed_109 3 rfl rfl ?_
  refine rm_callSNi [.int v3] (rest := []) (K := fun x M' => b2i (0 ≤ v3 ∧ v3 ≤ 7) = x ∧ M1 = M') mn_RX4_58 mtX10_isKind rfl dX4_readDeed_110 rfl rfl (Nat.le_of_ble_eq_true rfl) (by decide) (uX10_isKind (by omega) ⟨rfl, rfl⟩) (fun x M' hx => ?_)
  obtain ⟨rfl, rfl⟩ := hx
  obtain ⟨V1, V2⟩ := V
  refine rs_if_eqB (tgt := 167) dX4_readDeed_113 (by decide) (fun hc => ?_) (fun hc => ?_)
  · have V := V1 hc
    exact rs_sub [1, 2, 3, 4, 5] rfl V
  · have V := V2 hc
    refine rj_aload_n dX4_readDeed_116 0 rfl rfl ?_
    refine rs_getI fl_RX4_31 rfl (by decide) (by decide) rfl dX4_readDeed_117 rfl ?_
    refine rj_iconst (v := 1) dX4_readDeed_120 (by decide) ?_
    obtain ⟨V1, V2⟩ := V
    refine rj_icmp_ne (tgt := 133) dX4_readDeed_121 (by decide) (fun hc => ?_) (fun hc => ?_)
    · have V := V1 hc
      refine rj_aload_n dX4_readDeed_133 0 rfl rfl ?_
      refine rs_getI fl_RX4_38 rfl (by decide) (by decide) rfl dX4_readDeed_134 rfl ?_
      exact rm_iret dX4_readDeed_137 rfl rfl V
    · have V := V2 hc
      refine rj_aload_n dX4_readDeed_124 0 rfl rfl ?_
      refine rj_ldcS (i := 13) (by decide) rfl rfl rfl dX4_readDeed_125 ?_
      refine rm_callVi [.ref (1000 + (4 + 13))] (rest := []) ml_RX4_64 mvX4_isToken rfl dX4_readDeed_127 rfl rfl rfl rfl rfl (Nat.le_of_ble_eq_true rfl) (by decide) V (fun r1 M2 V => ?_)
      obtain ⟨V1, V2⟩ := V
      refine rj_if_ne (tgt := 138) dX4_readDeed_130 (by decide) (fun hc => ?_) (fun hc => ?_)
      · have V := V1 hc
        refine rj_aload_n dX4_readDeed_138 0 rfl rfl ?_
        refine rm_callVv [] (rest := []) ml_RX4_19 mvX4_readToken rfl dX4_readDeed_139 rfl rfl rfl rfl rfl (Nat.le_of_ble_eq_true rfl) (by decide) V (fun M3 V => ?_)
        refine rj_aload_n dX4_readDeed_142 0 rfl rfl ?_
        refine rj_iconst (v := 0) dX4_readDeed_143 (by decide) ?_
        refine rj_bipush (v := 11) dX4_readDeed_144 (by decide) ?_
        refine rm_callVi [.int 0, .int 11] (rest := []) ml_RX4_51 mvX4_isNumber rfl dX4_readDeed_146 rfl rfl rfl rfl rfl (Nat.le_of_ble_eq_true rfl) (by decide) V (fun r2 M4 V => ?_)
        obtain ⟨V1, V2⟩ := V
        refine rj_if_ne (tgt := 157) dX4_readDeed_149 (by decide) (fun hc => ?_) (fun hc => ?_)
        · have V := V1 hc
          refine rj_aload_n dX4_readDeed_157 0 rfl rfl ?_
          refine rs_getI fl_RX4_55 rfl (by decide) (by decide) rfl dX4_readDeed_158 rfl ?_
          refine rj_top (fun x1 ex1 => ?_)
          have V := V x1 ex1
          refine rj_istore (lv' := [(0, .ref 39), (1, .ref 13), (2, .int v2), (3, .int v3), (5, .int v5), (6, .int x1)]) dX4_readDeed_161 (by decide) rfl rfl ?_
          refine rj_aload_n dX4_readDeed_163 0 rfl rfl ?_
          refine rm_callVv [] (rest := []) ml_RX4_19 mvX4_readToken rfl dX4_readDeed_164 rfl rfl rfl rfl rfl (Nat.le_of_ble_eq_true rfl) (by decide) V (fun M5 V => ?_)
          exact rs_sub [1, 2, 3, 4, 5] rfl V
        · have V := V2 hc
          refine rj_aload_n dX4_readDeed_152 0 rfl rfl ?_
          refine rs_getI fl_RX4_38 rfl (by decide) (by decide) rfl dX4_readDeed_153 rfl ?_
          exact rm_iret dX4_readDeed_156 rfl rfl V
      · have V := V2 hc
        refine rj_aload_n dX4_readDeed_133 0 rfl rfl ?_
        refine rs_getI fl_RX4_38 rfl (by decide) (by decide) rfl dX4_readDeed_134 rfl ?_
        exact rm_iret dX4_readDeed_137 rfl rfl V
set_option maxRecDepth 100000 in
set_option maxHeartbeats 4000000 in
theorem vX4_readDeed_167 {w : Wd} {h : Nat} (hh : 1 ≤ h) (v2 : Int32) (v3 : Int32) (v5 : Int32) (v6 : Int32)  (M : Mem) (Q : Option Value → Mem → Prop) (V : (CSv w h kX3_put [.ref 13, .int v2, .int v3, .int v5, .int v6] M (fun M1 => (Q (some (.int (-1))) M1)))) : RM w (h + 1) kX4_readDeed 167 [(1, .ref 13), (2, .int v2), (3, .int v3), (5, .int v5), (6, .int v6)] [] M Q := by
  refine rj_aload_n dX4_readDeed_167 0 rfl rfl ?_
  refine rj_iload_n dX4_readDeed_168 1 rfl rfl ?_
  refine rj_iload_n dX4_readDeed_169 2 rfl rfl ?_
  refine rj_iload dX4_readDeed_170 3 rfl ?_
  refine rj_iload dX4_readDeed_172 4 rfl ?_
  refine rm_callVv [.int v2, .int v3, .int v5, .int v6] (rest := []) ml_RX4_68 mvX3_put rfl dX4_readDeed_174 rfl rfl rfl rfl rfl (Nat.le_of_ble_eq_true rfl) (by decide) V (fun M1 V => ?_)
  refine rj_iconst (v := (-1)) dX4_readDeed_177 (by decide) ?_
  exact rm_iret dX4_readDeed_178 rfl rfl V
-- X4_isNumber
set_option maxRecDepth 100000 in
set_option maxHeartbeats 4000000 in
theorem vX4_isNumber_0 {w : Wd} {h : Nat} (a0 : Int32) (a1 : Int32)  (M : Mem) (Q : Option Value → Mem → Prop) (V : ((¬ ((M 39 1) = 2) → (Q (some (.int 0)) M)) ∧ ((M 39 1) = 2 → (Q (some (.int (b2i ((a0 ≤ (M 39 4) ∧ (M 39 4) ≤ a1))))) M)))) : RM w (h + 1) kX4_isNumber 0 [(0, .ref 39), (1, .int a0), (2, .int a1)] [] M Q := by
  refine rj_aload_n dX4_isNumber_0 0 rfl rfl ?_
  refine rs_getI fl_RX4_31 rfl (by decide) (by decide) rfl dX4_isNumber_1 rfl ?_
  refine rj_iconst (v := 2) dX4_isNumber_4 (by decide) ?_
  obtain ⟨V1, V2⟩ := V
  refine rj_icmp_ne (tgt := 24) dX4_isNumber_5 (by decide) (fun hc => ?_) (fun hc => ?_)
  · have V := V1 hc
    refine rj_iconst (v := 0) dX4_isNumber_24 (by decide) ?_
    exact rm_iret dX4_isNumber_25 rfl rfl V
  · have V := V2 hc
    refine rj_aload_n dX4_isNumber_8 0 rfl rfl ?_
    refine rs_getI fl_RX4_55 rfl (by decide) (by decide) rfl dX4_isNumber_9 rfl ?_
    refine rj_iload_n dX4_isNumber_12 1 rfl rfl ?_
    refine rj_iload_n dX4_isNumber_13 2 rfl rfl ?_
    refine rm_callSNi [.int (M 39 4), .int a0, .int a1] (rest := []) (K := fun x M' => b2i (a0 ≤ (M 39 4) ∧ (M 39 4) ≤ a1) = x ∧ M = M') mn_RX4_72 mtX10_isWithin rfl dX4_isNumber_14 rfl rfl (Nat.le_of_ble_eq_true rfl) (by decide) (uX10_isWithin ⟨rfl, rfl⟩) (fun x M' hx => ?_)
    obtain ⟨rfl, rfl⟩ := hx
    have KD : RM w (h + 1) kX4_isNumber 25 [(0, .ref 39), (1, .int a0), (2, .int a1)] [.int (b2i ((a0 ≤ (M 39 4) ∧ (M 39 4) ≤ a1)))] M Q := by
      exact rm_iret dX4_isNumber_25 rfl (isB_n isB_b2i) V
    refine rs_if_eqB (tgt := 24) dX4_isNumber_17 (by decide) (fun hc => ?_) (fun hc => ?_)
    · refine rj_iconst (v := 0) dX4_isNumber_24 (by decide) ?_
      exact rs_b0 hc KD
    · refine rj_iconst (v := 1) dX4_isNumber_20 (by decide) ?_
      refine rj_goto (tgt := 25) dX4_isNumber_21 (by decide) ?_
      exact rs_b1 hc KD
-- X4_deedOfToken
set_option maxRecDepth 100000 in
set_option maxHeartbeats 4000000 in
theorem vX4_deedOfToken_0 {w : Wd} {h : Nat}   (M : Mem) (Q : Option Value → Mem → Prop) (V : RM w (h + 1) kX4_deedOfToken 2 [(0, .ref 39), (1, .int 0)] [] M Q) : RM w (h + 1) kX4_deedOfToken 0 [(0, .ref 39)] [] M Q := by
  refine rj_iconst (v := 0) dX4_deedOfToken_0 (by decide) ?_
  refine rj_istore_n (lv' := [(0, .ref 39), (1, .int 0)]) dX4_deedOfToken_1 rfl (by decide) rfl rfl ?_
  exact rs_sub [0, 1] rfl V
set_option maxRecDepth 100000 in
set_option maxHeartbeats 4000000 in
theorem vX4_deedOfToken_2 {w : Wd} {h : Nat} (v1 : Int32)  (M : Mem) (Q : Option Value → Mem → Prop) (V : ((13 ≤ v1 → (Q (some (.int (-1))) M)) ∧ (¬ (13 ≤ v1) → (CSr w h kX4_wordOf [.int v1] M (fun r1a M1 => ∃ r1 : Nat, r1a = 1000 + (4 + r1) ∧ r1 < 28 ∧ (CSi w h kX4_isToken [.ref 39, .ref (1000 + (4 + r1))] M1 (fun r2 M2 => ((r2 = 0 → (∀ x1 : Int32, x1 = v1 + 1 → RM w (h + 1) kX4_deedOfToken 2 [(0, .ref 39), (1, .int x1)] [] M2 Q)) ∧ (¬ (r2 = 0) → (Q (some (.int v1)) M2)))))))))) : RM w (h + 1) kX4_deedOfToken 2 [(0, .ref 39), (1, .int v1)] [] M Q := by
  refine rj_iload_n dX4_deedOfToken_2 1 rfl rfl ?_
  refine rj_bipush (v := 13) dX4_deedOfToken_3 (by decide) ?_
  obtain ⟨V1, V2⟩ := V
  refine rj_icmp_ge (tgt := 27) dX4_deedOfToken_5 (by decide) (fun hc => ?_) (fun hc => ?_)
  · have V := V1 hc
    refine rj_iconst (v := (-1)) dX4_deedOfToken_27 (by decide) ?_
    exact rm_iret dX4_deedOfToken_28 rfl rfl V
  · have V := V2 hc
    refine rj_aload_n dX4_deedOfToken_8 0 rfl rfl ?_
    refine rj_iload_n dX4_deedOfToken_9 1 rfl rfl ?_
    refine rm_callSr [.int v1] (rest := [.ref 39]) ml_RX4_76 mtX4_wordOf rfl dX4_deedOfToken_10 rfl rfl (Nat.le_of_ble_eq_true rfl) (by decide) V (fun r1a M1 V => ?_)
    obtain ⟨r1, er1, hr1, V⟩ := V
    subst er1
    refine rm_callVi [.ref (1000 + (4 + r1))] (rest := []) ml_RX4_64 mvX4_isToken rfl dX4_deedOfToken_13 rfl rfl rfl rfl rfl (Nat.le_of_ble_eq_true rfl) (by decide) V (fun r2 M2 V => ?_)
    obtain ⟨V1, V2⟩ := V
    refine rj_if_eq (tgt := 21) dX4_deedOfToken_16 (by decide) (fun hc => ?_) (fun hc => ?_)
    · have V := V1 hc
      refine rj_iincV (c := 1) (fun y => [(0, .ref 39), (1, .int y)]) dX4_deedOfToken_21 1 rfl (by decide) (by decide) rfl (fun _ => rfl) (fun x1 ex1 => ?_)
      have V := V x1 ex1
      refine rj_goto (tgt := 2) dX4_deedOfToken_24 (by decide) ?_
      exact rs_sub [0, 1] rfl V
    · have V := V2 hc
      refine rj_iload_n dX4_deedOfToken_19 1 rfl rfl ?_
      exact rm_iret dX4_deedOfToken_20 rfl rfl V
-- X4_isToken
set_option maxRecDepth 100000 in
set_option maxHeartbeats 4000000 in
theorem vX4_isToken_0 {w : Wd} {h : Nat} (i : Nat) (hi : i < 28)  (M : Mem) (Q : Option Value → Mem → Prop) (V : (CSi w h kJ0_length_8abf5 [.ref (1000 + (4 + i))] M (fun r1 M1 => ((((M 39 3) - (M 39 2)) = r1 → RM w (h + 1) kX4_isToken 20 [(0, .ref 39), (1, .ref (1000 + (4 + i))), (2, .int 0)] [] M1 Q) ∧ (¬ (((M 39 3) - (M 39 2)) = r1) → (Q (some (.int 0)) M1)))))) : RM w (h + 1) kX4_isToken 0 [(0, .ref 39), (1, .ref (1000 + (4 + i)))] [] M Q := by
  refine rj_aload_n dX4_isToken_0 0 rfl rfl ?_
  refine rs_getI fl_RX4_15 rfl (by decide) (by decide) rfl dX4_isToken_1 rfl ?_
  refine rj_aload_n dX4_isToken_4 0 rfl rfl ?_
  refine rs_getI fl_RX4_38 rfl (by decide) (by decide) rfl dX4_isToken_5 rfl ?_
  refine rj_isub dX4_isToken_8 ?_
  refine rj_aload_n dX4_isToken_9 1 rfl rfl ?_
  refine rm_callTi [] (rest := [.int ((M 39 3) - (M 39 2))]) hi ml_RX4_80 mvJ0_length_8abf5 rfl dX4_isToken_10 rfl rfl rfl (Nat.le_of_ble_eq_true rfl) (by decide) V (fun r1 M1 V => ?_)
  obtain ⟨V1, V2⟩ := V
  refine rj_icmp_eq (tgt := 18) dX4_isToken_13 (by decide) (fun hc => ?_) (fun hc => ?_)
  · have V := V1 hc
    refine rj_iconst (v := 0) dX4_isToken_18 (by decide) ?_
    refine rj_istore_n (lv' := [(0, .ref 39), (1, .ref (1000 + (4 + i))), (2, .int 0)]) dX4_isToken_19 rfl (by decide) rfl rfl ?_
    exact rs_sub [0, 1, 2] rfl V
  · have V := V2 hc
    refine rj_iconst (v := 0) dX4_isToken_16 (by decide) ?_
    exact rm_iret dX4_isToken_17 rfl rfl V
set_option maxRecDepth 100000 in
set_option maxHeartbeats 4000000 in
theorem vX4_isToken_20 {w : Wd} {h : Nat} (i : Nat) (v2 : Int32) (hi : i < 28)  (M : Mem) (Q : Option Value → Mem → Prop) (V : (CSi w h kJ0_length_8abf5 [.ref (1000 + (4 + i))] M (fun r1 M1 => ((r1 ≤ v2 → (Q (some (.int 1)) M1)) ∧ (¬ (r1 ≤ v2) → (vp_in ((M1 39 2) + v2) 100 ∧ (CSi w h kJ0_charAt_5068e [.ref (1000 + (4 + i)), .int v2] M1 (fun r2 M2 => (((M1 38 (Int32.toNatClampNeg ((M1 39 2) + v2))) = r2 → (∀ x1 : Int32, x1 = v2 + 1 → RM w (h + 1) kX4_isToken 20 [(0, .ref 39), (1, .ref (1000 + (4 + i))), (2, .int x1)] [] M2 Q)) ∧ (¬ ((M1 38 (Int32.toNatClampNeg ((M1 39 2) + v2))) = r2) → (Q (some (.int 0)) M2))))))))))) : RM w (h + 1) kX4_isToken 20 [(0, .ref 39), (1, .ref (1000 + (4 + i))), (2, .int v2)] [] M Q := by
  refine rj_iload_n dX4_isToken_20 2 rfl rfl ?_
  refine rj_aload_n dX4_isToken_21 1 rfl rfl ?_
  refine rm_callTi [] (rest := [.int v2]) hi ml_RX4_80 mvJ0_length_8abf5 rfl dX4_isToken_22 rfl rfl rfl (Nat.le_of_ble_eq_true rfl) (by decide) V (fun r1 M1 V => ?_)
  obtain ⟨V1, V2⟩ := V
  refine rj_icmp_ge (tgt := 58) dX4_isToken_25 (by decide) (fun hc => ?_) (fun hc => ?_)
  · have V := V1 hc
    refine rj_iconst (v := 1) dX4_isToken_58 (by decide) ?_
    exact rm_iret dX4_isToken_59 rfl rfl V
  · have V := V2 hc
    refine rj_aload_n dX4_isToken_28 0 rfl rfl ?_
    refine rs_getR (t := 37) fl_RX4_9 rfl (by decide) (by decide) rfl dX4_isToken_29 rfl (by omega) ?_
    refine rs_getR (t := 38) fl_RX4_85 rfl (by decide) (by decide) rfl dX4_isToken_32 rfl (by omega) ?_
    refine rj_aload_n dX4_isToken_35 0 rfl rfl ?_
    refine rs_getI fl_RX4_38 rfl (by decide) (by decide) rfl dX4_isToken_36 rfl ?_
    refine rj_iload_n dX4_isToken_39 2 rfl rfl ?_
    refine rj_iadd dX4_isToken_40 ?_
    obtain ⟨hb, V⟩ := V
    refine rs_iald dX4_isToken_41 rfl hb ?_
    refine rj_aload_n dX4_isToken_42 1 rfl rfl ?_
    refine rj_iload_n dX4_isToken_43 2 rfl rfl ?_
    refine rm_callTi [.int v2] (rest := [.int (M1 38 (Int32.toNatClampNeg ((M1 39 2) + v2)))]) hi ml_RX4_90 mvJ0_charAt_5068e rfl dX4_isToken_44 rfl rfl rfl (Nat.le_of_ble_eq_true rfl) (by decide) V (fun r2 M2 V => ?_)
    obtain ⟨V1, V2⟩ := V
    refine rj_icmp_eq (tgt := 52) dX4_isToken_47 (by decide) (fun hc => ?_) (fun hc => ?_)
    · have V := V1 hc
      refine rj_iincV (c := 1) (fun y => [(0, .ref 39), (1, .ref (1000 + (4 + i))), (2, .int y)]) dX4_isToken_52 2 rfl (by decide) (by decide) rfl (fun _ => rfl) (fun x1 ex1 => ?_)
      have V := V x1 ex1
      refine rj_goto (tgt := 20) dX4_isToken_55 (by decide) ?_
      exact rs_sub [0, 1, 2] rfl V
    · have V := V2 hc
      refine rj_iconst (v := 0) dX4_isToken_50 (by decide) ?_
      exact rm_iret dX4_isToken_51 rfl rfl V
-- X4_wordOf
set_option maxRecDepth 100000 in
set_option maxHeartbeats 4000000 in
theorem vX4_wordOf_0 {w : Wd} {h : Nat} (a0 : Int32)  (M : Mem) (Q : Option Value → Mem → Prop) (V : ((a0 = 0 → (Q (some (.ref (1000 + (4 + 0)))) M)) ∧ (¬ a0 = 0 → ((a0 = 1 → (Q (some (.ref (1000 + (4 + 1)))) M)) ∧ (¬ a0 = 1 → ((a0 = 2 → (Q (some (.ref (1000 + (4 + 2)))) M)) ∧ (¬ a0 = 2 → ((a0 = 3 → (Q (some (.ref (1000 + (4 + 3)))) M)) ∧ (¬ a0 = 3 → ((a0 = 4 → (Q (some (.ref (1000 + (4 + 4)))) M)) ∧ (¬ a0 = 4 → ((a0 = 5 → (Q (some (.ref (1000 + (4 + 5)))) M)) ∧ (¬ a0 = 5 → ((a0 = 6 → (Q (some (.ref (1000 + (4 + 6)))) M)) ∧ (¬ a0 = 6 → ((a0 = 7 → (Q (some (.ref (1000 + (4 + 7)))) M)) ∧ (¬ a0 = 7 → ((a0 = 8 → (Q (some (.ref (1000 + (4 + 8)))) M)) ∧ (¬ a0 = 8 → ((a0 = 9 → (Q (some (.ref (1000 + (4 + 9)))) M)) ∧ (¬ a0 = 9 → ((a0 = 10 → (Q (some (.ref (1000 + (4 + 10)))) M)) ∧ (¬ a0 = 10 → ((a0 = 11 → (Q (some (.ref (1000 + (4 + 11)))) M)) ∧ (¬ a0 = 11 → (Q (some (.ref (1000 + (4 + 12)))) M)))))))))))))))))))))))))) : RM w h kX4_wordOf 0 [(0, .int a0)] [] M Q := by
  refine rj_iload_n dX4_wordOf_0 0 rfl rfl ?_
  obtain ⟨V1, V2⟩ := V
  by_cases w0 : a0 = 0
  · have V := V1 w0
    refine rs_at w0 ?_
    refine rj_tableIn (off := 63) (tgt := 64) dX4_wordOf_1 (by decide) (by decide) (by decide) (by decide) ?_
    refine rj_ldcS (i := 0) (by decide) rfl rfl rfl dX4_wordOf_64 ?_
    exact rm_aret dX4_wordOf_66 rfl V
  · have V := V2 w0
    obtain ⟨V1, V2⟩ := V
    by_cases w1 : a0 = 1
    · have V := V1 w1
      refine rs_at w1 ?_
      refine rj_tableIn (off := 66) (tgt := 67) dX4_wordOf_1 (by decide) (by decide) (by decide) (by decide) ?_
      refine rj_ldcS (i := 1) (by decide) rfl rfl rfl dX4_wordOf_67 ?_
      exact rm_aret dX4_wordOf_69 rfl V
    · have V := V2 w1
      obtain ⟨V1, V2⟩ := V
      by_cases w2 : a0 = 2
      · have V := V1 w2
        refine rs_at w2 ?_
        refine rj_tableIn (off := 69) (tgt := 70) dX4_wordOf_1 (by decide) (by decide) (by decide) (by decide) ?_
        refine rj_ldcS (i := 2) (by decide) rfl rfl rfl dX4_wordOf_70 ?_
        exact rm_aret dX4_wordOf_72 rfl V
      · have V := V2 w2
        obtain ⟨V1, V2⟩ := V
        by_cases w3 : a0 = 3
        · have V := V1 w3
          refine rs_at w3 ?_
          refine rj_tableIn (off := 72) (tgt := 73) dX4_wordOf_1 (by decide) (by decide) (by decide) (by decide) ?_
          refine rj_ldcS (i := 3) (by decide) rfl rfl rfl dX4_wordOf_73 ?_
          exact rm_aret dX4_wordOf_75 rfl V
        · have V := V2 w3
          obtain ⟨V1, V2⟩ := V
          by_cases w4 : a0 = 4
          · have V := V1 w4
            refine rs_at w4 ?_
            refine rj_tableIn (off := 75) (tgt := 76) dX4_wordOf_1 (by decide) (by decide) (by decide) (by decide) ?_
            refine rj_ldcS (i := 4) (by decide) rfl rfl rfl dX4_wordOf_76 ?_
            exact rm_aret dX4_wordOf_78 rfl V
          · have V := V2 w4
            obtain ⟨V1, V2⟩ := V
            by_cases w5 : a0 = 5
            · have V := V1 w5
              refine rs_at w5 ?_
              refine rj_tableIn (off := 78) (tgt := 79) dX4_wordOf_1 (by decide) (by decide) (by decide) (by decide) ?_
              refine rj_ldcS (i := 5) (by decide) rfl rfl rfl dX4_wordOf_79 ?_
              exact rm_aret dX4_wordOf_81 rfl V
            · have V := V2 w5
              obtain ⟨V1, V2⟩ := V
              by_cases w6 : a0 = 6
              · have V := V1 w6
                refine rs_at w6 ?_
                refine rj_tableIn (off := 81) (tgt := 82) dX4_wordOf_1 (by decide) (by decide) (by decide) (by decide) ?_
                refine rj_ldcS (i := 6) (by decide) rfl rfl rfl dX4_wordOf_82 ?_
                exact rm_aret dX4_wordOf_84 rfl V
              · have V := V2 w6
                obtain ⟨V1, V2⟩ := V
                by_cases w7 : a0 = 7
                · have V := V1 w7
                  refine rs_at w7 ?_
                  refine rj_tableIn (off := 84) (tgt := 85) dX4_wordOf_1 (by decide) (by decide) (by decide) (by decide) ?_
                  refine rj_ldcS (i := 7) (by decide) rfl rfl rfl dX4_wordOf_85 ?_
                  exact rm_aret dX4_wordOf_87 rfl V
                · have V := V2 w7
                  obtain ⟨V1, V2⟩ := V
                  by_cases w8 : a0 = 8
                  · have V := V1 w8
                    refine rs_at w8 ?_
                    refine rj_tableIn (off := 87) (tgt := 88) dX4_wordOf_1 (by decide) (by decide) (by decide) (by decide) ?_
                    refine rj_ldcS (i := 8) (by decide) rfl rfl rfl dX4_wordOf_88 ?_
                    exact rm_aret dX4_wordOf_90 rfl V
                  · have V := V2 w8
                    obtain ⟨V1, V2⟩ := V
                    by_cases w9 : a0 = 9
                    · have V := V1 w9
                      refine rs_at w9 ?_
                      refine rj_tableIn (off := 90) (tgt := 91) dX4_wordOf_1 (by decide) (by decide) (by decide) (by decide) ?_
                      refine rj_ldcS (i := 9) (by decide) rfl rfl rfl dX4_wordOf_91 ?_
                      exact rm_aret dX4_wordOf_93 rfl V
                    · have V := V2 w9
                      obtain ⟨V1, V2⟩ := V
                      by_cases w10 : a0 = 10
                      · have V := V1 w10
                        refine rs_at w10 ?_
                        refine rj_tableIn (off := 93) (tgt := 94) dX4_wordOf_1 (by decide) (by decide) (by decide) (by decide) ?_
                        refine rj_ldcS (i := 10) (by decide) rfl rfl rfl dX4_wordOf_94 ?_
                        exact rm_aret dX4_wordOf_96 rfl V
                      · have V := V2 w10
                        obtain ⟨V1, V2⟩ := V
                        by_cases w11 : a0 = 11
                        · have V := V1 w11
                          refine rs_at w11 ?_
                          refine rj_tableIn (off := 96) (tgt := 97) dX4_wordOf_1 (by decide) (by decide) (by decide) (by decide) ?_
                          refine rj_ldcS (i := 11) (by decide) rfl rfl rfl dX4_wordOf_97 ?_
                          exact rm_aret dX4_wordOf_99 rfl V
                        · have V := V2 w11
                          refine rj_tableOut (tgt := 100) dX4_wordOf_1 (by have n0 := lv_neT (a := 0) w0 (by decide); have n1 := lv_neT (a := 1) w1 (by decide); have n2 := lv_neT (a := 2) w2 (by decide); have n3 := lv_neT (a := 3) w3 (by decide); have n4 := lv_neT (a := 4) w4 (by decide); have n5 := lv_neT (a := 5) w5 (by decide); have n6 := lv_neT (a := 6) w6 (by decide); have n7 := lv_neT (a := 7) w7 (by decide); have n8 := lv_neT (a := 8) w8 (by decide); have n9 := lv_neT (a := 9) w9 (by decide); have n10 := lv_neT (a := 10) w10 (by decide); have n11 := lv_neT (a := 11) w11 (by decide); omega) (by decide) ?_
                          refine rj_ldcS (i := 12) (by decide) rfl rfl rfl dX4_wordOf_100 ?_
                          exact rm_aret dX4_wordOf_102 rfl V
-- X4_readToken
set_option maxRecDepth 100000 in
set_option maxHeartbeats 4000000 in
theorem vX4_readToken_0 {w : Wd} {h : Nat}   (M : Mem) (Q : Option Value → Mem → Prop) (V : (∀ M1 : Mem, M1 = mset M 39 2 (M 39 3) → RM w (h + 1) kX4_readToken 8 [(0, .ref 39)] [] M1 Q)) : RM w (h + 1) kX4_readToken 0 [(0, .ref 39)] [] M Q := by
  refine rj_aload_n dX4_readToken_0 0 rfl rfl ?_
  refine rj_aload_n dX4_readToken_1 0 rfl rfl ?_
  refine rs_getI fl_RX4_15 rfl (by decide) (by decide) rfl dX4_readToken_2 rfl ?_
  refine rs_putI fl_RX4_38 (ft4_2 _ nofun) rfl (by decide) (by decide) rfl dX4_readToken_5 rfl rfl rfl (fun M1 eM1 => ?_)
  have V := V M1 eM1
  exact rs_sub [0] rfl V
set_option maxRecDepth 100000 in
set_option maxHeartbeats 4000000 in
theorem vX4_readToken_8 {w : Wd} {h : Nat}   (M : Mem) (Q : Option Value → Mem → Prop) (V : (((M 37 1) ≤ (M 39 2) → (∀ M1 : Mem, M1 = mset M 39 3 (M 39 2) → (CSi w h kX4_typeAt [.ref 39, .int (M1 39 2)] M1 (fun r1 M2 => (∀ M3 : Mem, M3 = mset M2 39 1 r1 → ((¬ ((M3 39 1) = 1) → ((¬ ((M3 39 1) = 2) → (((M3 39 1) = 0 → (Q none M3)) ∧ (¬ ((M3 39 1) = 0) → (∀ M4 : Mem, M4 = mset M3 39 3 ((M3 39 3) + 1) → (Q none M4))))) ∧ ((M3 39 1) = 2 → (CSv w h kX4_readNumber [.ref 39] M3 (fun M4 => (Q none M4)))))) ∧ ((M3 39 1) = 1 → RM w (h + 1) kX4_readToken 80 [(0, .ref 39)] [] M3 Q))))))) ∧ (¬ ((M 37 1) ≤ (M 39 2)) → (vp_in (M 39 2) 100 ∧ ((¬ ((M 38 (Int32.toNatClampNeg (M 39 2))) = 32) → (∀ M1 : Mem, M1 = mset M 39 3 (M 39 2) → (CSi w h kX4_typeAt [.ref 39, .int (M1 39 2)] M1 (fun r1 M2 => (∀ M3 : Mem, M3 = mset M2 39 1 r1 → ((¬ ((M3 39 1) = 1) → ((¬ ((M3 39 1) = 2) → (((M3 39 1) = 0 → (Q none M3)) ∧ (¬ ((M3 39 1) = 0) → (∀ M4 : Mem, M4 = mset M3 39 3 ((M3 39 3) + 1) → (Q none M4))))) ∧ ((M3 39 1) = 2 → (CSv w h kX4_readNumber [.ref 39] M3 (fun M4 => (Q none M4)))))) ∧ ((M3 39 1) = 1 → RM w (h + 1) kX4_readToken 80 [(0, .ref 39)] [] M3 Q))))))) ∧ ((M 38 (Int32.toNatClampNeg (M 39 2))) = 32 → (∀ M1 : Mem, M1 = mset M 39 2 ((M 39 2) + 1) → RM w (h + 1) kX4_readToken 8 [(0, .ref 39)] [] M1 Q))))))) : RM w (h + 1) kX4_readToken 8 [(0, .ref 39)] [] M Q := by
  refine rj_aload_n dX4_readToken_8 0 rfl rfl ?_
  refine rs_getI fl_RX4_38 rfl (by decide) (by decide) rfl dX4_readToken_9 rfl ?_
  refine rj_aload_n dX4_readToken_12 0 rfl rfl ?_
  refine rs_getR (t := 37) fl_RX4_9 rfl (by decide) (by decide) rfl dX4_readToken_13 rfl (by omega) ?_
  refine rs_getI fl_RX4_120 rfl (by decide) (by decide) rfl dX4_readToken_16 rfl ?_
  obtain ⟨V1, V2⟩ := V
  refine rj_icmp_ge (tgt := 52) dX4_readToken_19 (by decide) (fun hc => ?_) (fun hc => ?_)
  · have V := V1 hc
    refine rj_aload_n dX4_readToken_52 0 rfl rfl ?_
    refine rj_aload_n dX4_readToken_53 0 rfl rfl ?_
    refine rs_getI fl_RX4_38 rfl (by decide) (by decide) rfl dX4_readToken_54 rfl ?_
    refine rs_putI fl_RX4_15 (ft4_3 _ nofun) rfl (by decide) (by decide) rfl dX4_readToken_57 rfl rfl rfl (fun M1 eM1 => ?_)
    have V := V M1 eM1
    refine rj_aload_n dX4_readToken_60 0 rfl rfl ?_
    refine rj_aload_n dX4_readToken_61 0 rfl rfl ?_
    refine rj_aload_n dX4_readToken_62 0 rfl rfl ?_
    refine rs_getI fl_RX4_38 rfl (by decide) (by decide) rfl dX4_readToken_63 rfl ?_
    refine rm_callVi [.int (M1 39 2)] (rest := [.ref 39]) ml_RX4_122 mvX4_typeAt rfl dX4_readToken_66 rfl rfl rfl rfl rfl (Nat.le_of_ble_eq_true rfl) (by decide) V (fun r1 M2 V => ?_)
    refine rs_putI fl_RX4_31 (ft4_1 _ nofun) rfl (by decide) (by decide) rfl dX4_readToken_69 rfl rfl rfl (fun M3 eM3 => ?_)
    have V := V M3 eM3
    refine rj_aload_n dX4_readToken_72 0 rfl rfl ?_
    refine rs_getI fl_RX4_31 rfl (by decide) (by decide) rfl dX4_readToken_73 rfl ?_
    refine rj_iconst (v := 1) dX4_readToken_76 (by decide) ?_
    obtain ⟨V1, V2⟩ := V
    refine rj_icmp_ne (tgt := 119) dX4_readToken_77 (by decide) (fun hc => ?_) (fun hc => ?_)
    · have V := V1 hc
      refine rj_aload_n dX4_readToken_119 0 rfl rfl ?_
      refine rs_getI fl_RX4_31 rfl (by decide) (by decide) rfl dX4_readToken_120 rfl ?_
      refine rj_iconst (v := 2) dX4_readToken_123 (by decide) ?_
      obtain ⟨V1, V2⟩ := V
      refine rj_icmp_ne (tgt := 134) dX4_readToken_124 (by decide) (fun hc => ?_) (fun hc => ?_)
      · have V := V1 hc
        refine rj_aload_n dX4_readToken_134 0 rfl rfl ?_
        refine rs_getI fl_RX4_31 rfl (by decide) (by decide) rfl dX4_readToken_135 rfl ?_
        obtain ⟨V1, V2⟩ := V
        refine rj_if_eq (tgt := 151) dX4_readToken_138 (by decide) (fun hc => ?_) (fun hc => ?_)
        · have V := V1 hc
          exact rm_vret dX4_readToken_151 rfl V
        · have V := V2 hc
          refine rj_aload_n dX4_readToken_141 0 rfl rfl ?_
          refine rj_dup dX4_readToken_142 rfl ?_
          refine rs_getI fl_RX4_15 rfl (by decide) (by decide) rfl dX4_readToken_143 rfl ?_
          refine rj_iconst (v := 1) dX4_readToken_146 (by decide) ?_
          refine rj_iadd dX4_readToken_147 ?_
          refine rs_putI fl_RX4_15 (ft4_3 _ nofun) rfl (by decide) (by decide) rfl dX4_readToken_148 rfl rfl rfl (fun M4 eM4 => ?_)
          have V := V M4 eM4
          exact rm_vret dX4_readToken_151 rfl V
      · have V := V2 hc
        refine rj_aload_n dX4_readToken_127 0 rfl rfl ?_
        refine rm_callVv [] (rest := []) ml_RX4_126 mvX4_readNumber rfl dX4_readToken_128 rfl rfl rfl rfl rfl (Nat.le_of_ble_eq_true rfl) (by decide) V (fun M4 V => ?_)
        refine rj_goto (tgt := 151) dX4_readToken_131 (by decide) ?_
        exact rm_vret dX4_readToken_151 rfl V
    · have V := V2 hc
      exact rs_sub [0] rfl V
  · have V := V2 hc
    refine rj_aload_n dX4_readToken_22 0 rfl rfl ?_
    refine rs_getR (t := 37) fl_RX4_9 rfl (by decide) (by decide) rfl dX4_readToken_23 rfl (by omega) ?_
    refine rs_getR (t := 38) fl_RX4_85 rfl (by decide) (by decide) rfl dX4_readToken_26 rfl (by omega) ?_
    refine rj_aload_n dX4_readToken_29 0 rfl rfl ?_
    refine rs_getI fl_RX4_38 rfl (by decide) (by decide) rfl dX4_readToken_30 rfl ?_
    obtain ⟨hb, V⟩ := V
    refine rs_iald dX4_readToken_33 rfl hb ?_
    refine rj_bipush (v := 32) dX4_readToken_34 (by decide) ?_
    obtain ⟨V1, V2⟩ := V
    refine rj_icmp_ne (tgt := 52) dX4_readToken_36 (by decide) (fun hc => ?_) (fun hc => ?_)
    · have V := V1 hc
      refine rj_aload_n dX4_readToken_52 0 rfl rfl ?_
      refine rj_aload_n dX4_readToken_53 0 rfl rfl ?_
      refine rs_getI fl_RX4_38 rfl (by decide) (by decide) rfl dX4_readToken_54 rfl ?_
      refine rs_putI fl_RX4_15 (ft4_3 _ nofun) rfl (by decide) (by decide) rfl dX4_readToken_57 rfl rfl rfl (fun M1 eM1 => ?_)
      have V := V M1 eM1
      refine rj_aload_n dX4_readToken_60 0 rfl rfl ?_
      refine rj_aload_n dX4_readToken_61 0 rfl rfl ?_
      refine rj_aload_n dX4_readToken_62 0 rfl rfl ?_
      refine rs_getI fl_RX4_38 rfl (by decide) (by decide) rfl dX4_readToken_63 rfl ?_
      refine rm_callVi [.int (M1 39 2)] (rest := [.ref 39]) ml_RX4_122 mvX4_typeAt rfl dX4_readToken_66 rfl rfl rfl rfl rfl (Nat.le_of_ble_eq_true rfl) (by decide) V (fun r1 M2 V => ?_)
      refine rs_putI fl_RX4_31 (ft4_1 _ nofun) rfl (by decide) (by decide) rfl dX4_readToken_69 rfl rfl rfl (fun M3 eM3 => ?_)
      have V := V M3 eM3
      refine rj_aload_n dX4_readToken_72 0 rfl rfl ?_
      refine rs_getI fl_RX4_31 rfl (by decide) (by decide) rfl dX4_readToken_73 rfl ?_
      refine rj_iconst (v := 1) dX4_readToken_76 (by decide) ?_
      obtain ⟨V1, V2⟩ := V
      refine rj_icmp_ne (tgt := 119) dX4_readToken_77 (by decide) (fun hc => ?_) (fun hc => ?_)
      · have V := V1 hc
        refine rj_aload_n dX4_readToken_119 0 rfl rfl ?_
        refine rs_getI fl_RX4_31 rfl (by decide) (by decide) rfl dX4_readToken_120 rfl ?_
        refine rj_iconst (v := 2) dX4_readToken_123 (by decide) ?_
        obtain ⟨V1, V2⟩ := V
        refine rj_icmp_ne (tgt := 134) dX4_readToken_124 (by decide) (fun hc => ?_) (fun hc => ?_)
        · have V := V1 hc
          refine rj_aload_n dX4_readToken_134 0 rfl rfl ?_
          refine rs_getI fl_RX4_31 rfl (by decide) (by decide) rfl dX4_readToken_135 rfl ?_
          obtain ⟨V1, V2⟩ := V
          refine rj_if_eq (tgt := 151) dX4_readToken_138 (by decide) (fun hc => ?_) (fun hc => ?_)
          · have V := V1 hc
            exact rm_vret dX4_readToken_151 rfl V
          · have V := V2 hc
            refine rj_aload_n dX4_readToken_141 0 rfl rfl ?_
            refine rj_dup dX4_readToken_142 rfl ?_
            refine rs_getI fl_RX4_15 rfl (by decide) (by decide) rfl dX4_readToken_143 rfl ?_
            refine rj_iconst (v := 1) dX4_readToken_146 (by decide) ?_
            refine rj_iadd dX4_readToken_147 ?_
            refine rs_putI fl_RX4_15 (ft4_3 _ nofun) rfl (by decide) (by decide) rfl dX4_readToken_148 rfl rfl rfl (fun M4 eM4 => ?_)
            have V := V M4 eM4
            exact rm_vret dX4_readToken_151 rfl V
        · have V := V2 hc
          refine rj_aload_n dX4_readToken_127 0 rfl rfl ?_
          refine rm_callVv [] (rest := []) ml_RX4_126 mvX4_readNumber rfl dX4_readToken_128 rfl rfl rfl rfl rfl (Nat.le_of_ble_eq_true rfl) (by decide) V (fun M4 V => ?_)
          refine rj_goto (tgt := 151) dX4_readToken_131 (by decide) ?_
          exact rm_vret dX4_readToken_151 rfl V
      · have V := V2 hc
        exact rs_sub [0] rfl V
    · have V := V2 hc
      refine rj_aload_n dX4_readToken_39 0 rfl rfl ?_
      refine rj_dup dX4_readToken_40 rfl ?_
      refine rs_getI fl_RX4_38 rfl (by decide) (by decide) rfl dX4_readToken_41 rfl ?_
      refine rj_iconst (v := 1) dX4_readToken_44 (by decide) ?_
      refine rj_iadd dX4_readToken_45 ?_
      refine rs_putI fl_RX4_38 (ft4_2 _ nofun) rfl (by decide) (by decide) rfl dX4_readToken_46 rfl rfl rfl (fun M1 eM1 => ?_)
      have V := V M1 eM1
      refine rj_goto (tgt := 8) dX4_readToken_49 (by decide) ?_
      exact rs_sub [0] rfl V
set_option maxRecDepth 100000 in
set_option maxHeartbeats 4000000 in
theorem vX4_readToken_80 {w : Wd} {h : Nat}   (M : Mem) (Q : Option Value → Mem → Prop) (V : (((M 37 1) ≤ (M 39 3) → (Q none M)) ∧ (¬ ((M 37 1) ≤ (M 39 3)) → (CSi w h kX4_typeAt [.ref 39, .int (M 39 3)] M (fun r1 M1 => ((¬ (r1 = 1) → (Q none M1)) ∧ (r1 = 1 → (∀ M2 : Mem, M2 = mset M1 39 3 ((M1 39 3) + 1) → RM w (h + 1) kX4_readToken 80 [(0, .ref 39)] [] M2 Q)))))))) : RM w (h + 1) kX4_readToken 80 [(0, .ref 39)] [] M Q := by
  refine rj_aload_n dX4_readToken_80 0 rfl rfl ?_
  refine rs_getI fl_RX4_15 rfl (by decide) (by decide) rfl dX4_readToken_81 rfl ?_
  refine rj_aload_n dX4_readToken_84 0 rfl rfl ?_
  refine rs_getR (t := 37) fl_RX4_9 rfl (by decide) (by decide) rfl dX4_readToken_85 rfl (by omega) ?_
  refine rs_getI fl_RX4_120 rfl (by decide) (by decide) rfl dX4_readToken_88 rfl ?_
  obtain ⟨V1, V2⟩ := V
  refine rj_icmp_ge (tgt := 151) dX4_readToken_91 (by decide) (fun hc => ?_) (fun hc => ?_)
  · have V := V1 hc
    exact rm_vret dX4_readToken_151 rfl V
  · have V := V2 hc
    refine rj_aload_n dX4_readToken_94 0 rfl rfl ?_
    refine rj_aload_n dX4_readToken_95 0 rfl rfl ?_
    refine rs_getI fl_RX4_15 rfl (by decide) (by decide) rfl dX4_readToken_96 rfl ?_
    refine rm_callVi [.int (M 39 3)] (rest := []) ml_RX4_122 mvX4_typeAt rfl dX4_readToken_99 rfl rfl rfl rfl rfl (Nat.le_of_ble_eq_true rfl) (by decide) V (fun r1 M1 V => ?_)
    refine rj_iconst (v := 1) dX4_readToken_102 (by decide) ?_
    obtain ⟨V1, V2⟩ := V
    refine rj_icmp_ne (tgt := 151) dX4_readToken_103 (by decide) (fun hc => ?_) (fun hc => ?_)
    · have V := V1 hc
      exact rm_vret dX4_readToken_151 rfl V
    · have V := V2 hc
      refine rj_aload_n dX4_readToken_106 0 rfl rfl ?_
      refine rj_dup dX4_readToken_107 rfl ?_
      refine rs_getI fl_RX4_15 rfl (by decide) (by decide) rfl dX4_readToken_108 rfl ?_
      refine rj_iconst (v := 1) dX4_readToken_111 (by decide) ?_
      refine rj_iadd dX4_readToken_112 ?_
      refine rs_putI fl_RX4_15 (ft4_3 _ nofun) rfl (by decide) (by decide) rfl dX4_readToken_113 rfl rfl rfl (fun M2 eM2 => ?_)
      have V := V M2 eM2
      refine rj_goto (tgt := 80) dX4_readToken_116 (by decide) ?_
      exact rs_sub [0] rfl V
-- X4_readNumber
set_option maxRecDepth 100000 in
set_option maxHeartbeats 4000000 in
theorem vX4_readNumber_0 {w : Wd} {h : Nat}   (M : Mem) (Q : Option Value → Mem → Prop) (V : (∀ M1 : Mem, M1 = mset M 39 4 0 → RM w (h + 1) kX4_readNumber 5 [(0, .ref 39)] [] M1 Q)) : RM w (h + 1) kX4_readNumber 0 [(0, .ref 39)] [] M Q := by
  refine rj_aload_n dX4_readNumber_0 0 rfl rfl ?_
  refine rj_iconst (v := 0) dX4_readNumber_1 (by decide) ?_
  refine rs_putI fl_RX4_55 (ft4_4 _ nofun) rfl (by decide) (by decide) rfl dX4_readNumber_2 rfl rfl rfl (fun M1 eM1 => ?_)
  have V := V M1 eM1
  exact rs_sub [0] rfl V
set_option maxRecDepth 100000 in
set_option maxHeartbeats 4000000 in
theorem vX4_readNumber_5 {w : Wd} {h : Nat}   (M : Mem) (Q : Option Value → Mem → Prop) (V : (((M 37 1) ≤ (M 39 3) → (Q none M)) ∧ (¬ ((M 37 1) ≤ (M 39 3)) → (CSi w h kX4_typeAt [.ref 39, .int (M 39 3)] M (fun r1 M1 => ((¬ (r1 = 2) → (Q none M1)) ∧ (r1 = 2 → (vp_in (M1 39 3) 100 ∧ (∀ M2 : Mem, M2 = mset M1 39 4 (if ((((M1 39 4) * 10) + (M1 38 (Int32.toNatClampNeg (M1 39 3)))) - 48) < 1000 then ((((M1 39 4) * 10) + (M1 38 (Int32.toNatClampNeg (M1 39 3)))) - 48) else (1000 : Int32)) → (∀ M3 : Mem, M3 = mset M2 39 3 ((M2 39 3) + 1) → RM w (h + 1) kX4_readNumber 5 [(0, .ref 39)] [] M3 Q)))))))))) : RM w (h + 1) kX4_readNumber 5 [(0, .ref 39)] [] M Q := by
  refine rj_aload_n dX4_readNumber_5 0 rfl rfl ?_
  refine rs_getI fl_RX4_15 rfl (by decide) (by decide) rfl dX4_readNumber_6 rfl ?_
  refine rj_aload_n dX4_readNumber_9 0 rfl rfl ?_
  refine rs_getR (t := 37) fl_RX4_9 rfl (by decide) (by decide) rfl dX4_readNumber_10 rfl (by omega) ?_
  refine rs_getI fl_RX4_120 rfl (by decide) (by decide) rfl dX4_readNumber_13 rfl ?_
  obtain ⟨V1, V2⟩ := V
  refine rj_icmp_ge (tgt := 77) dX4_readNumber_16 (by decide) (fun hc => ?_) (fun hc => ?_)
  · have V := V1 hc
    exact rm_vret dX4_readNumber_77 rfl V
  · have V := V2 hc
    refine rj_aload_n dX4_readNumber_19 0 rfl rfl ?_
    refine rj_aload_n dX4_readNumber_20 0 rfl rfl ?_
    refine rs_getI fl_RX4_15 rfl (by decide) (by decide) rfl dX4_readNumber_21 rfl ?_
    refine rm_callVi [.int (M 39 3)] (rest := []) ml_RX4_122 mvX4_typeAt rfl dX4_readNumber_24 rfl rfl rfl rfl rfl (Nat.le_of_ble_eq_true rfl) (by decide) V (fun r1 M1 V => ?_)
    refine rj_iconst (v := 2) dX4_readNumber_27 (by decide) ?_
    obtain ⟨V1, V2⟩ := V
    refine rj_icmp_ne (tgt := 77) dX4_readNumber_28 (by decide) (fun hc => ?_) (fun hc => ?_)
    · have V := V1 hc
      exact rm_vret dX4_readNumber_77 rfl V
    · have V := V2 hc
      refine rj_aload_n dX4_readNumber_31 0 rfl rfl ?_
      refine rj_sipush (v := 1000) dX4_readNumber_32 (by decide) ?_
      refine rj_aload_n dX4_readNumber_35 0 rfl rfl ?_
      refine rs_getI fl_RX4_55 rfl (by decide) (by decide) rfl dX4_readNumber_36 rfl ?_
      refine rj_bipush (v := 10) dX4_readNumber_39 (by decide) ?_
      refine rj_imul dX4_readNumber_41 ?_
      refine rj_aload_n dX4_readNumber_42 0 rfl rfl ?_
      refine rs_getR (t := 37) fl_RX4_9 rfl (by decide) (by decide) rfl dX4_readNumber_43 rfl (by omega) ?_
      refine rs_getR (t := 38) fl_RX4_85 rfl (by decide) (by decide) rfl dX4_readNumber_46 rfl (by omega) ?_
      refine rj_aload_n dX4_readNumber_49 0 rfl rfl ?_
      refine rs_getI fl_RX4_15 rfl (by decide) (by decide) rfl dX4_readNumber_50 rfl ?_
      obtain ⟨hb, V⟩ := V
      refine rs_iald dX4_readNumber_53 rfl hb ?_
      refine rj_iadd dX4_readNumber_54 ?_
      refine rj_bipush (v := 48) dX4_readNumber_55 (by decide) ?_
      refine rj_isub dX4_readNumber_57 ?_
      refine rm_mmin (rest := [.ref 39]) ml_RX4_129 rfl dX4_readNumber_58 (Nat.le_of_ble_eq_true rfl) ?_
      refine rs_putI fl_RX4_55 (ft4_4 _ nofun) rfl (by decide) (by decide) rfl dX4_readNumber_61 rfl rfl rfl (fun M2 eM2 => ?_)
      have V := V M2 eM2
      refine rj_aload_n dX4_readNumber_64 0 rfl rfl ?_
      refine rj_dup dX4_readNumber_65 rfl ?_
      refine rs_getI fl_RX4_15 rfl (by decide) (by decide) rfl dX4_readNumber_66 rfl ?_
      refine rj_iconst (v := 1) dX4_readNumber_69 (by decide) ?_
      refine rj_iadd dX4_readNumber_70 ?_
      refine rs_putI fl_RX4_15 (ft4_3 _ nofun) rfl (by decide) (by decide) rfl dX4_readNumber_71 rfl rfl rfl (fun M3 eM3 => ?_)
      have V := V M3 eM3
      refine rj_goto (tgt := 5) dX4_readNumber_74 (by decide) ?_
      exact rs_sub [0] rfl V
-- X4_typeAt
set_option maxRecDepth 100000 in
set_option maxHeartbeats 4000000 in
theorem vX4_typeAt_0 {w : Wd} {h : Nat} (a0 : Int32)  (M : Mem) (Q : Option Value → Mem → Prop) (V : ((a0 < (M 37 1) → (vp_in a0 100 ∧ (∀ x1 : Int32, x1 = (M 38 (Int32.toNatClampNeg a0)) → ((¬ (((97 : Int32) ≤ x1 ∧ x1 ≤ (122 : Int32))) → ((¬ (((48 : Int32) ≤ x1 ∧ x1 ≤ (57 : Int32))) → ((¬ (x1 = 59) → (Q (some (.int (if x1 = 45 then (4 : Int32) else (5 : Int32)))) M)) ∧ (x1 = 59 → (Q (some (.int 3)) M)))) ∧ (((48 : Int32) ≤ x1 ∧ x1 ≤ (57 : Int32)) → (Q (some (.int 2)) M)))) ∧ (((97 : Int32) ≤ x1 ∧ x1 ≤ (122 : Int32)) → (Q (some (.int 1)) M)))))) ∧ (¬ (a0 < (M 37 1)) → (Q (some (.int 0)) M)))) : RM w (h + 1) kX4_typeAt 0 [(0, .ref 39), (1, .int a0)] [] M Q := by
  refine rj_iload_n dX4_typeAt_0 1 rfl rfl ?_
  refine rj_aload_n dX4_typeAt_1 0 rfl rfl ?_
  refine rs_getR (t := 37) fl_RX4_9 rfl (by decide) (by decide) rfl dX4_typeAt_2 rfl (by omega) ?_
  refine rs_getI fl_RX4_120 rfl (by decide) (by decide) rfl dX4_typeAt_5 rfl ?_
  obtain ⟨V1, V2⟩ := V
  refine rj_icmp_lt (tgt := 13) dX4_typeAt_8 (by decide) (fun hc => ?_) (fun hc => ?_)
  · have V := V1 hc
    refine rj_aload_n dX4_typeAt_13 0 rfl rfl ?_
    refine rs_getR (t := 37) fl_RX4_9 rfl (by decide) (by decide) rfl dX4_typeAt_14 rfl (by omega) ?_
    refine rs_getR (t := 38) fl_RX4_85 rfl (by decide) (by decide) rfl dX4_typeAt_17 rfl (by omega) ?_
    refine rj_iload_n dX4_typeAt_20 1 rfl rfl ?_
    obtain ⟨hb, V⟩ := V
    refine rs_iald dX4_typeAt_21 rfl hb ?_
    refine rj_top (fun x1 ex1 => ?_)
    have V := V x1 ex1
    refine rj_istore_n (lv' := [(0, .ref 39), (1, .int a0), (2, .int x1)]) dX4_typeAt_22 rfl (by decide) rfl rfl ?_
    refine rj_iload_n dX4_typeAt_23 2 rfl rfl ?_
    refine rj_bipush (v := 97) dX4_typeAt_24 (by decide) ?_
    refine rj_bipush (v := 122) dX4_typeAt_26 (by decide) ?_
    refine rm_callSNi [.int x1, .int 97, .int 122] (rest := []) (K := fun x M' => b2i ((97 : Int32) ≤ x1 ∧ x1 ≤ (122 : Int32)) = x ∧ M = M') mn_RX4_72 mtX10_isWithin rfl dX4_typeAt_28 rfl rfl (Nat.le_of_ble_eq_true rfl) (by decide) (uX10_isWithin ⟨rfl, rfl⟩) (fun x M' hx => ?_)
    obtain ⟨rfl, rfl⟩ := hx
    obtain ⟨V1, V2⟩ := V
    refine rs_if_eqB (tgt := 36) dX4_typeAt_31 (by decide) (fun hc => ?_) (fun hc => ?_)
    · have V := V1 hc
      refine rj_iload_n dX4_typeAt_36 2 rfl rfl ?_
      refine rj_bipush (v := 48) dX4_typeAt_37 (by decide) ?_
      refine rj_bipush (v := 57) dX4_typeAt_39 (by decide) ?_
      refine rm_callSNi [.int x1, .int 48, .int 57] (rest := []) (K := fun x M' => b2i ((48 : Int32) ≤ x1 ∧ x1 ≤ (57 : Int32)) = x ∧ M = M') mn_RX4_72 mtX10_isWithin rfl dX4_typeAt_41 rfl rfl (Nat.le_of_ble_eq_true rfl) (by decide) (uX10_isWithin ⟨rfl, rfl⟩) (fun x M' hx => ?_)
      obtain ⟨rfl, rfl⟩ := hx
      obtain ⟨V1, V2⟩ := V
      refine rs_if_eqB (tgt := 49) dX4_typeAt_44 (by decide) (fun hc => ?_) (fun hc => ?_)
      · have V := V1 hc
        refine rj_iload_n dX4_typeAt_49 2 rfl rfl ?_
        refine rj_bipush (v := 59) dX4_typeAt_50 (by decide) ?_
        obtain ⟨V1, V2⟩ := V
        refine rj_icmp_ne (tgt := 57) dX4_typeAt_52 (by decide) (fun hc => ?_) (fun hc => ?_)
        · have V := V1 hc
          refine rj_iload_n dX4_typeAt_57 2 rfl rfl ?_
          refine rj_bipush (v := 45) dX4_typeAt_58 (by decide) ?_
          have KD : RM w (h + 1) kX4_typeAt 68 [(0, .ref 39), (1, .int a0), (2, .int x1)] [.int (if x1 = 45 then (4 : Int32) else (5 : Int32))] M Q := by
            exact rm_iret dX4_typeAt_68 rfl rfl V
          refine rj_icmp_ne (tgt := 67) dX4_typeAt_60 (by decide) (fun hc => ?_) (fun hc => ?_)
          · refine rj_iconst (v := 5) dX4_typeAt_67 (by decide) ?_
            exact rs_ite_f hc KD
          · refine rj_iconst (v := 4) dX4_typeAt_63 (by decide) ?_
            refine rj_goto (tgt := 68) dX4_typeAt_64 (by decide) ?_
            exact rs_ite_t hc KD
        · have V := V2 hc
          refine rj_iconst (v := 3) dX4_typeAt_55 (by decide) ?_
          exact rm_iret dX4_typeAt_56 rfl rfl V
      · have V := V2 hc
        refine rj_iconst (v := 2) dX4_typeAt_47 (by decide) ?_
        exact rm_iret dX4_typeAt_48 rfl rfl V
    · have V := V2 hc
      refine rj_iconst (v := 1) dX4_typeAt_34 (by decide) ?_
      exact rm_iret dX4_typeAt_35 rfl rfl V
  · have V := V2 hc
    refine rj_iconst (v := 0) dX4_typeAt_11 (by decide) ?_
    exact rm_iret dX4_typeAt_12 rfl rfl V
-- X5_become
set_option maxRecDepth 100000 in
set_option maxHeartbeats 4000000 in
theorem vX5_become_0 {w : Wd} {h : Nat} (A : Nat) (B : Nat) (hA : isScene A) (hB : isScene B)  (M : Mem) (Q : Option Value → Mem → Prop) (V : (CSv w h kX2_become [.ref (A + 1), .ref (B + 1)] M (fun M1 => (CSv w h kX0_become [.ref (A + 5), .ref (B + 5)] M1 (fun M2 => (CSv w h kX3_become [.ref (A + 10), .ref (B + 10)] M2 (fun M3 => (CSv w h kX10_copyAll [.ref (B + 15), .ref (A + 15)] M3 (fun M4 => (CSv w h kX10_copyAll [.ref (B + 16), .ref (A + 16)] M4 (fun M5 => (∀ M6 : Mem, M6 = mset M5 A 5 (M5 B 5) → (∀ M7 : Mem, M7 = mset M6 A 6 (M6 B 6) → (Q none M7)))))))))))))) : RM w (h + 1) kX5_become 0 [(0, .ref A), (1, .ref B)] [] M Q := by
  refine rj_aload_n dX5_become_0 0 rfl rfl ?_
  refine rs_getR (t := A + 1) fl_RX5_12 rfl (by decide) (by decide) rfl dX5_become_1 hA.1 (by omega) ?_
  refine rj_aload_n dX5_become_4 1 rfl rfl ?_
  refine rs_getR (t := B + 1) fl_RX5_12 rfl (by decide) (by decide) rfl dX5_become_5 hB.1 (by omega) ?_
  refine rm_callVv [.ref (B + 1)] (rest := []) ml_RX5_52 mvX2_become rfl dX5_become_8 hA.2.1.1 rfl rfl rfl rfl (Nat.le_of_ble_eq_true rfl) (by decide) V (fun M1 V => ?_)
  refine rj_aload_n dX5_become_11 0 rfl rfl ?_
  refine rs_getR (t := A + 5) fl_RX5_21 rfl (by decide) (by decide) rfl dX5_become_12 hA.1 (by omega) ?_
  refine rj_aload_n dX5_become_15 1 rfl rfl ?_
  refine rs_getR (t := B + 5) fl_RX5_21 rfl (by decide) (by decide) rfl dX5_become_16 hB.1 (by omega) ?_
  refine rm_callVv [.ref (B + 5)] (rest := []) ml_RX5_56 mvX0_become rfl dX5_become_19 hA.2.2.1.1 rfl rfl rfl rfl (Nat.le_of_ble_eq_true rfl) (by decide) V (fun M2 V => ?_)
  refine rj_aload_n dX5_become_22 0 rfl rfl ?_
  refine rs_getR (t := A + 10) fl_RX5_28 rfl (by decide) (by decide) rfl dX5_become_23 hA.1 (by omega) ?_
  refine rj_aload_n dX5_become_26 1 rfl rfl ?_
  refine rs_getR (t := B + 10) fl_RX5_28 rfl (by decide) (by decide) rfl dX5_become_27 hB.1 (by omega) ?_
  refine rm_callVv [.ref (B + 10)] (rest := []) ml_RX5_59 mvX3_become rfl dX5_become_30 hA.2.2.2.1.1 rfl rfl rfl rfl (Nat.le_of_ble_eq_true rfl) (by decide) V (fun M3 V => ?_)
  refine rj_aload_n dX5_become_33 1 rfl rfl ?_
  refine rs_getR (t := B + 15) fl_RX5_32 rfl (by decide) (by decide) rfl dX5_become_34 hB.1 (by omega) ?_
  refine rj_aload_n dX5_become_37 0 rfl rfl ?_
  refine rs_getR (t := A + 15) fl_RX5_32 rfl (by decide) (by decide) rfl dX5_become_38 hA.1 (by omega) ?_
  refine rm_callSNv [.ref (B + 15), .ref (A + 15)] (rest := []) mn_RX5_62 mtX10_copyAll rfl dX5_become_41 rfl rfl (Nat.le_of_ble_eq_true rfl) (by decide) V (fun M4 V => ?_)
  refine rj_aload_n dX5_become_44 1 rfl rfl ?_
  refine rs_getR (t := B + 16) fl_RX5_36 rfl (by decide) (by decide) rfl dX5_become_45 hB.1 (by omega) ?_
  refine rj_aload_n dX5_become_48 0 rfl rfl ?_
  refine rs_getR (t := A + 16) fl_RX5_36 rfl (by decide) (by decide) rfl dX5_become_49 hA.1 (by omega) ?_
  refine rm_callSNv [.ref (B + 16), .ref (A + 16)] (rest := []) mn_RX5_62 mtX10_copyAll rfl dX5_become_52 rfl rfl (Nat.le_of_ble_eq_true rfl) (by decide) V (fun M5 V => ?_)
  refine rj_aload_n dX5_become_55 0 rfl rfl ?_
  refine rj_aload_n dX5_become_56 1 rfl rfl ?_
  refine rs_getI fl_RX5_39 rfl (by decide) (by decide) rfl dX5_become_57 hB.1 ?_
  refine rs_putI fl_RX5_39 (ft5_5 _ nofun) rfl (by decide) (by decide) rfl dX5_become_60 rfl rfl hA.1 (fun M6 eM6 => ?_)
  have V := V M6 eM6
  refine rj_aload_n dX5_become_63 0 rfl rfl ?_
  refine rj_aload_n dX5_become_64 1 rfl rfl ?_
  refine rs_getI fl_RX5_43 rfl (by decide) (by decide) rfl dX5_become_65 hB.1 ?_
  refine rs_putI fl_RX5_43 (ft5_6 _ nofun) rfl (by decide) (by decide) rfl dX5_become_68 rfl rfl hA.1 (fun M7 eM7 => ?_)
  have V := V M7 eM7
  exact rm_vret dX5_become_71 rfl V
-- X5_draw
set_option maxRecDepth 100000 in
set_option maxHeartbeats 4000000 in
theorem vX5_draw_0 {w : Wd} {h : Nat}   (M : Mem) (Q : Option Value → Mem → Prop) (V : (∀ M1 : Mem, M1 = mset M 3 5 (((M 3 5) * 1103515245) + 12345) → (Q (some (.int ((Int32.toUInt32 (M1 3 5) >>> (Int32.toUInt32 8 &&& Int32.toUInt32 31)).toInt32))) M1))) : RM w h kX5_draw 0 [(0, .ref 3)] [] M Q := by
  refine rj_aload_n dX5_draw_0 0 rfl rfl ?_
  refine rj_aload_n dX5_draw_1 0 rfl rfl ?_
  refine rs_getI fl_RX5_39 rfl (by decide) (by decide) rfl dX5_draw_2 rfl ?_
  refine rj_ldc (v := 1103515245) rfl kc_RX5_66 dX5_draw_5 ?_
  refine rj_imul dX5_draw_7 ?_
  refine rj_sipush (v := 12345) dX5_draw_8 (by decide) ?_
  refine rj_iadd dX5_draw_11 ?_
  refine rs_putI fl_RX5_39 (ft5_5 _ nofun) rfl (by decide) (by decide) rfl dX5_draw_12 rfl rfl rfl (fun M1 eM1 => ?_)
  have V := V M1 eM1
  refine rj_aload_n dX5_draw_15 0 rfl rfl ?_
  refine rs_getI fl_RX5_39 rfl (by decide) (by decide) rfl dX5_draw_16 rfl ?_
  refine rj_bipush (v := 8) dX5_draw_19 (by decide) ?_
  refine rj_iushr dX5_draw_21 ?_
  exact rm_iret dX5_draw_22 rfl rfl V
-- X5_makeDrop
set_option maxRecDepth 100000 in
set_option maxHeartbeats 4000000 in
theorem vX5_makeDrop_0 {w : Wd} {h : Nat} (a0 : Int32) (a1 : Int32) (a2 : Int32)  (M : Mem) (Q : Option Value → Mem → Prop) (V : (CSi w h kX0_leastFree [.ref 8] M (fun r1 M1 => ((r1 = (-1) → (Q (some (.int r1)) M1)) ∧ (¬ (r1 = (-1)) → (vp_in r1 8 ∧ ∀ M2 : Mem, M2 = mset M1 9 (Int32.toNatClampNeg r1) a0 → (vp_in r1 8 ∧ ∀ M3 : Mem, M3 = mset M2 10 (Int32.toNatClampNeg r1) a1 → (vp_in r1 8 ∧ ∀ M4 : Mem, M4 = mset M3 11 (Int32.toNatClampNeg r1) a2 → (vp_in r1 8 ∧ ∀ M5 : Mem, M5 = mset M4 12 (Int32.toNatClampNeg r1) 0 → (vp_in a1 192 ∧ ∀ M6 : Mem, M6 = mset M5 6 (Int32.toNatClampNeg a1) 99 → (Q (some (.int r1)) M6))))))))))) : RM w (h + 1) kX5_makeDrop 0 [(0, .ref 3), (1, .int a0), (2, .int a1), (3, .int a2)] [] M Q := by
  refine rj_aload_n dX5_makeDrop_0 0 rfl rfl ?_
  refine rs_getR (t := 8) fl_RX5_21 rfl (by decide) (by decide) rfl dX5_makeDrop_1 rfl (by omega) ?_
  refine rm_callVi [] (rest := []) ml_RX5_67 mvX0_leastFree rfl dX5_makeDrop_4 rfl rfl rfl rfl rfl (Nat.le_of_ble_eq_true rfl) (by decide) V (fun r1 M1 V => ?_)
  refine rj_istore (lv' := [(0, .ref 3), (1, .int a0), (2, .int a1), (3, .int a2), (4, .int r1)]) dX5_makeDrop_7 (by decide) rfl rfl ?_
  refine rj_iload dX5_makeDrop_9 4 rfl ?_
  refine rj_iconst (v := (-1)) dX5_makeDrop_11 (by decide) ?_
  obtain ⟨V1, V2⟩ := V
  refine rj_icmp_eq (tgt := 70) dX5_makeDrop_12 (by decide) (fun hc => ?_) (fun hc => ?_)
  · have V := V1 hc
    refine rj_iload dX5_makeDrop_70 4 rfl ?_
    exact rm_iret dX5_makeDrop_72 rfl rfl V
  · have V := V2 hc
    refine rj_aload_n dX5_makeDrop_15 0 rfl rfl ?_
    refine rs_getR (t := 8) fl_RX5_21 rfl (by decide) (by decide) rfl dX5_makeDrop_16 rfl (by omega) ?_
    refine rs_getR (t := 9) fl_RX5_71 rfl (by decide) (by decide) rfl dX5_makeDrop_19 rfl (by omega) ?_
    refine rj_iload dX5_makeDrop_22 4 rfl ?_
    refine rj_iload_n dX5_makeDrop_24 1 rfl rfl ?_
    obtain ⟨hb, V⟩ := V
    refine rs_iast dX5_makeDrop_25 rfl hb (fun M2 eM2 => ?_)
    have V := V M2 eM2
    refine rj_aload_n dX5_makeDrop_26 0 rfl rfl ?_
    refine rs_getR (t := 8) fl_RX5_21 rfl (by decide) (by decide) rfl dX5_makeDrop_27 rfl (by omega) ?_
    refine rs_getR (t := 10) fl_RX5_74 rfl (by decide) (by decide) rfl dX5_makeDrop_30 rfl (by omega) ?_
    refine rj_iload dX5_makeDrop_33 4 rfl ?_
    refine rj_iload_n dX5_makeDrop_35 2 rfl rfl ?_
    obtain ⟨hb, V⟩ := V
    refine rs_iast dX5_makeDrop_36 rfl hb (fun M3 eM3 => ?_)
    have V := V M3 eM3
    refine rj_aload_n dX5_makeDrop_37 0 rfl rfl ?_
    refine rs_getR (t := 8) fl_RX5_21 rfl (by decide) (by decide) rfl dX5_makeDrop_38 rfl (by omega) ?_
    refine rs_getR (t := 11) fl_RX5_77 rfl (by decide) (by decide) rfl dX5_makeDrop_41 rfl (by omega) ?_
    refine rj_iload dX5_makeDrop_44 4 rfl ?_
    refine rj_iload_n dX5_makeDrop_46 3 rfl rfl ?_
    obtain ⟨hb, V⟩ := V
    refine rs_iast dX5_makeDrop_47 rfl hb (fun M4 eM4 => ?_)
    have V := V M4 eM4
    refine rj_aload_n dX5_makeDrop_48 0 rfl rfl ?_
    refine rs_getR (t := 8) fl_RX5_21 rfl (by decide) (by decide) rfl dX5_makeDrop_49 rfl (by omega) ?_
    refine rs_getR (t := 12) fl_RX5_80 rfl (by decide) (by decide) rfl dX5_makeDrop_52 rfl (by omega) ?_
    refine rj_iload dX5_makeDrop_55 4 rfl ?_
    refine rj_iconst (v := 0) dX5_makeDrop_57 (by decide) ?_
    obtain ⟨hb, V⟩ := V
    refine rs_iast dX5_makeDrop_58 rfl hb (fun M5 eM5 => ?_)
    have V := V M5 eM5
    refine rj_aload_n dX5_makeDrop_59 0 rfl rfl ?_
    refine rs_getR (t := 4) fl_RX5_12 rfl (by decide) (by decide) rfl dX5_makeDrop_60 rfl (by omega) ?_
    refine rs_getR (t := 6) fl_RX5_83 rfl (by decide) (by decide) rfl dX5_makeDrop_63 rfl (by omega) ?_
    refine rj_iload_n dX5_makeDrop_66 2 rfl rfl ?_
    refine rj_bipush (v := 99) dX5_makeDrop_67 (by decide) ?_
    obtain ⟨hb, V⟩ := V
    refine rs_iast dX5_makeDrop_69 rfl hb (fun M6 eM6 => ?_)
    have V := V M6 eM6
    refine rj_iload dX5_makeDrop_70 4 rfl ?_
    exact rm_iret dX5_makeDrop_72 rfl rfl V
-- X5_passTicks
set_option maxRecDepth 100000 in
set_option maxHeartbeats 4000000 in
theorem vX5_passTicks_0 {w : Wd} {h : Nat} (a0 : Int32)  (M : Mem) (Q : Option Value → Mem → Prop) (V : RM w (h + 1) kX5_passTicks 2 [(0, .ref 3), (1, .int a0), (2, .int 0)] [] M Q) : RM w (h + 1) kX5_passTicks 0 [(0, .ref 3), (1, .int a0)] [] M Q := by
  refine rj_iconst (v := 0) dX5_passTicks_0 (by decide) ?_
  refine rj_istore_n (lv' := [(0, .ref 3), (1, .int a0), (2, .int 0)]) dX5_passTicks_1 rfl (by decide) rfl rfl ?_
  exact rs_sub [0, 1, 2] rfl V
set_option maxRecDepth 100000 in
set_option maxHeartbeats 4000000 in
theorem vX5_passTicks_2 {w : Wd} {h : Nat} (v1 : Int32) (v2 : Int32)  (M : Mem) (Q : Option Value → Mem → Prop) (V : ((v1 ≤ v2 → (Q none M)) ∧ (¬ (v1 ≤ v2) → (CSv w h kX5_letGo [.ref 3] M (fun M1 => (CSv w h kX5_blow [.ref 3] M1 (fun M2 => (CSv w h kX0_join [.ref 8] M2 (fun M3 => (CSv w h kX2_fadeOnce [.ref 4] M3 (fun M4 => (∀ M5 : Mem, M5 = mset M4 3 6 ((M4 3 6) + 1) → (∀ x1 : Int32, x1 = v2 + 1 → RM w (h + 1) kX5_passTicks 2 [(0, .ref 3), (1, .int v1), (2, .int x1)] [] M5 Q))))))))))))) : RM w (h + 1) kX5_passTicks 2 [(0, .ref 3), (1, .int v1), (2, .int v2)] [] M Q := by
  refine rj_iload_n dX5_passTicks_2 2 rfl rfl ?_
  refine rj_iload_n dX5_passTicks_3 1 rfl rfl ?_
  obtain ⟨V1, V2⟩ := V
  refine rj_icmp_ge (tgt := 45) dX5_passTicks_4 (by decide) (fun hc => ?_) (fun hc => ?_)
  · have V := V1 hc
    exact rm_vret dX5_passTicks_45 rfl V
  · have V := V2 hc
    refine rj_aload_n dX5_passTicks_7 0 rfl rfl ?_
    refine rm_callVv [] (rest := []) ml_RX5_86 mvX5_letGo rfl dX5_passTicks_8 rfl rfl rfl rfl rfl (Nat.le_of_ble_eq_true rfl) (by decide) V (fun M1 V => ?_)
    refine rj_aload_n dX5_passTicks_11 0 rfl rfl ?_
    refine rm_callVv [] (rest := []) ml_RX5_89 mvX5_blow rfl dX5_passTicks_12 rfl rfl rfl rfl rfl (Nat.le_of_ble_eq_true rfl) (by decide) V (fun M2 V => ?_)
    refine rj_aload_n dX5_passTicks_15 0 rfl rfl ?_
    refine rs_getR (t := 8) fl_RX5_21 rfl (by decide) (by decide) rfl dX5_passTicks_16 rfl (by omega) ?_
    refine rm_callVv [] (rest := []) ml_RX5_92 mvX0_join rfl dX5_passTicks_19 rfl rfl rfl rfl rfl (Nat.le_of_ble_eq_true rfl) (by decide) V (fun M3 V => ?_)
    refine rj_aload_n dX5_passTicks_22 0 rfl rfl ?_
    refine rs_getR (t := 4) fl_RX5_12 rfl (by decide) (by decide) rfl dX5_passTicks_23 rfl (by omega) ?_
    refine rm_callVv [] (rest := []) ml_RX5_95 mvX2_fadeOnce rfl dX5_passTicks_26 rfl rfl rfl rfl rfl (Nat.le_of_ble_eq_true rfl) (by decide) V (fun M4 V => ?_)
    refine rj_aload_n dX5_passTicks_29 0 rfl rfl ?_
    refine rj_dup dX5_passTicks_30 rfl ?_
    refine rs_getI fl_RX5_43 rfl (by decide) (by decide) rfl dX5_passTicks_31 rfl ?_
    refine rj_iconst (v := 1) dX5_passTicks_34 (by decide) ?_
    refine rj_iadd dX5_passTicks_35 ?_
    refine rs_putI fl_RX5_43 (ft5_6 _ nofun) rfl (by decide) (by decide) rfl dX5_passTicks_36 rfl rfl rfl (fun M5 eM5 => ?_)
    have V := V M5 eM5
    refine rj_iincV (c := 1) (fun y => [(0, .ref 3), (1, .int v1), (2, .int y)]) dX5_passTicks_39 2 rfl (by decide) (by decide) rfl (fun _ => rfl) (fun x1 ex1 => ?_)
    have V := V x1 ex1
    refine rj_goto (tgt := 2) dX5_passTicks_42 (by decide) ?_
    exact rs_sub [0, 1, 2] rfl V
-- X5_letGo
set_option maxRecDepth 100000 in
set_option maxHeartbeats 4000000 in
theorem vX5_letGo_0 {w : Wd} {h : Nat}   (M : Mem) (Q : Option Value → Mem → Prop) (V : RM w (h + 1) kX5_letGo 2 [(0, .ref 3), (1, .int 0)] [] M Q) : RM w (h + 1) kX5_letGo 0 [(0, .ref 3)] [] M Q := by
  refine rj_iconst (v := 0) dX5_letGo_0 (by decide) ?_
  refine rj_istore_n (lv' := [(0, .ref 3), (1, .int 0)]) dX5_letGo_1 rfl (by decide) rfl rfl ?_
  exact rs_sub [0, 1] rfl V
set_option maxRecDepth 100000 in
set_option maxHeartbeats 4000000 in
theorem vX5_letGo_2 {w : Wd} {h : Nat} (v1 : Int32)  (M : Mem) (Q : Option Value → Mem → Prop) (V : ((8 ≤ v1 → (Q none M)) ∧ (¬ (8 ≤ v1) → (CSi w h kX0_isThere [.ref 8, .int v1] M (fun r1 M1 => ((r1 = 0 → (∀ x1 : Int32, x1 = v1 + 1 → RM w (h + 1) kX5_letGo 2 [(0, .ref 3), (1, .int x1)] [] M1 Q)) ∧ (¬ (r1 = 0) → (vp_in v1 8 ∧ (∀ x1 : Int32, x1 = (M1 10 (Int32.toNatClampNeg v1)) → (vp_in v1 8 ∧ (vp_in v1 8 ∧ (vp_in v1 8 ∧ (CSi w h kX2_goal [.ref 4, .int (M1 9 (Int32.toNatClampNeg v1)), .int x1, .int (M1 11 (Int32.toNatClampNeg v1)), .int (M1 12 (Int32.toNatClampNeg v1))] M1 (fun r2 M2 => ((¬ (r2 = (-1)) → ((r2 = x1 → (∀ x2 : Int32, x2 = v1 + 1 → RM w (h + 1) kX5_letGo 2 [(0, .ref 3), (1, .int x2)] [] M2 Q)) ∧ (¬ (r2 = x1) → (CSv w h kX5_comeTo [.ref 3, .int v1, .int r2] M2 (fun M3 => (∀ x2 : Int32, x2 = v1 + 1 → RM w (h + 1) kX5_letGo 2 [(0, .ref 3), (1, .int x2)] [] M3 Q)))))) ∧ (r2 = (-1) → (vp_in (x1 - x1 / 12 * 12) 12 ∧ (vp_in v1 8 ∧ (vp_in (x1 - x1 / 12 * 12) 12 ∧ ∀ M3 : Mem, M3 = mset M2 18 (Int32.toNatClampNeg (x1 - x1 / 12 * 12)) ((M2 18 (Int32.toNatClampNeg (x1 - x1 / 12 * 12))) + (M2 11 (Int32.toNatClampNeg v1))) → (vp_in v1 8 ∧ ∀ M4 : Mem, M4 = mset M3 11 (Int32.toNatClampNeg v1) 0 → (∀ x2 : Int32, x2 = v1 + 1 → RM w (h + 1) kX5_letGo 2 [(0, .ref 3), (1, .int x2)] [] M4 Q))))))))))))))))))))) : RM w (h + 1) kX5_letGo 2 [(0, .ref 3), (1, .int v1)] [] M Q := by
  refine rj_iload_n dX5_letGo_2 1 rfl rfl ?_
  refine rj_bipush (v := 8) dX5_letGo_3 (by decide) ?_
  obtain ⟨V1, V2⟩ := V
  refine rj_icmp_ge (tgt := 121) dX5_letGo_5 (by decide) (fun hc => ?_) (fun hc => ?_)
  · have V := V1 hc
    exact rm_vret dX5_letGo_121 rfl V
  · have V := V2 hc
    refine rj_aload_n dX5_letGo_8 0 rfl rfl ?_
    refine rs_getR (t := 8) fl_RX5_21 rfl (by decide) (by decide) rfl dX5_letGo_9 rfl (by omega) ?_
    refine rj_iload_n dX5_letGo_12 1 rfl rfl ?_
    refine rm_callVi [.int v1] (rest := []) ml_RX5_98 mvX0_isThere rfl dX5_letGo_13 rfl rfl rfl rfl rfl (Nat.le_of_ble_eq_true rfl) (by decide) V (fun r1 M1 V => ?_)
    obtain ⟨V1, V2⟩ := V
    refine rj_if_eq (tgt := 115) dX5_letGo_16 (by decide) (fun hc => ?_) (fun hc => ?_)
    · have V := V1 hc
      refine rj_iincV (c := 1) (fun y => [(0, .ref 3), (1, .int y)]) dX5_letGo_115 1 rfl (by decide) (by decide) rfl (fun _ => rfl) (fun x1 ex1 => ?_)
      have V := V x1 ex1
      refine rj_goto (tgt := 2) dX5_letGo_118 (by decide) ?_
      exact rs_sub [0, 1] rfl V
    · have V := V2 hc
      refine rj_aload_n dX5_letGo_19 0 rfl rfl ?_
      refine rs_getR (t := 8) fl_RX5_21 rfl (by decide) (by decide) rfl dX5_letGo_20 rfl (by omega) ?_
      refine rs_getR (t := 10) fl_RX5_74 rfl (by decide) (by decide) rfl dX5_letGo_23 rfl (by omega) ?_
      refine rj_iload_n dX5_letGo_26 1 rfl rfl ?_
      obtain ⟨hb, V⟩ := V
      refine rs_iald dX5_letGo_27 rfl hb ?_
      refine rj_top (fun x1 ex1 => ?_)
      have V := V x1 ex1
      refine rj_istore_n (lv' := [(0, .ref 3), (1, .int v1), (2, .int x1)]) dX5_letGo_28 rfl (by decide) rfl rfl ?_
      refine rj_aload_n dX5_letGo_29 0 rfl rfl ?_
      refine rs_getR (t := 4) fl_RX5_12 rfl (by decide) (by decide) rfl dX5_letGo_30 rfl (by omega) ?_
      refine rj_aload_n dX5_letGo_33 0 rfl rfl ?_
      refine rs_getR (t := 8) fl_RX5_21 rfl (by decide) (by decide) rfl dX5_letGo_34 rfl (by omega) ?_
      refine rs_getR (t := 9) fl_RX5_71 rfl (by decide) (by decide) rfl dX5_letGo_37 rfl (by omega) ?_
      refine rj_iload_n dX5_letGo_40 1 rfl rfl ?_
      obtain ⟨hb, V⟩ := V
      refine rs_iald dX5_letGo_41 rfl hb ?_
      refine rj_iload_n dX5_letGo_42 2 rfl rfl ?_
      refine rj_aload_n dX5_letGo_43 0 rfl rfl ?_
      refine rs_getR (t := 8) fl_RX5_21 rfl (by decide) (by decide) rfl dX5_letGo_44 rfl (by omega) ?_
      refine rs_getR (t := 11) fl_RX5_77 rfl (by decide) (by decide) rfl dX5_letGo_47 rfl (by omega) ?_
      refine rj_iload_n dX5_letGo_50 1 rfl rfl ?_
      obtain ⟨hb, V⟩ := V
      refine rs_iald dX5_letGo_51 rfl hb ?_
      refine rj_aload_n dX5_letGo_52 0 rfl rfl ?_
      refine rs_getR (t := 8) fl_RX5_21 rfl (by decide) (by decide) rfl dX5_letGo_53 rfl (by omega) ?_
      refine rs_getR (t := 12) fl_RX5_80 rfl (by decide) (by decide) rfl dX5_letGo_56 rfl (by omega) ?_
      refine rj_iload_n dX5_letGo_59 1 rfl rfl ?_
      obtain ⟨hb, V⟩ := V
      refine rs_iald dX5_letGo_60 rfl hb ?_
      refine rm_callVi [.int (M1 9 (Int32.toNatClampNeg v1)), .int x1, .int (M1 11 (Int32.toNatClampNeg v1)), .int (M1 12 (Int32.toNatClampNeg v1))] (rest := []) ml_RX5_102 mvX2_goal rfl dX5_letGo_61 rfl rfl rfl rfl rfl (Nat.le_of_ble_eq_true rfl) (by decide) V (fun r2 M2 V => ?_)
      refine rj_istore_n (lv' := [(0, .ref 3), (1, .int v1), (2, .int x1), (3, .int r2)]) dX5_letGo_64 rfl (by decide) rfl rfl ?_
      refine rj_iload_n dX5_letGo_65 3 rfl rfl ?_
      refine rj_iconst (v := (-1)) dX5_letGo_66 (by decide) ?_
      obtain ⟨V1, V2⟩ := V
      refine rj_icmp_ne (tgt := 104) dX5_letGo_67 (by decide) (fun hc => ?_) (fun hc => ?_)
      · have V := V1 hc
        refine rj_iload_n dX5_letGo_104 3 rfl rfl ?_
        refine rj_iload_n dX5_letGo_105 2 rfl rfl ?_
        obtain ⟨V1, V2⟩ := V
        refine rj_icmp_eq (tgt := 115) dX5_letGo_106 (by decide) (fun hc => ?_) (fun hc => ?_)
        · have V := V1 hc
          refine rj_iincV (c := 1) (fun y => [(0, .ref 3), (1, .int y), (2, .int x1), (3, .int r2)]) dX5_letGo_115 1 rfl (by decide) (by decide) rfl (fun _ => rfl) (fun x2 ex2 => ?_)
          have V := V x2 ex2
          refine rj_goto (tgt := 2) dX5_letGo_118 (by decide) ?_
          exact rs_sub [0, 1] rfl V
        · have V := V2 hc
          refine rj_aload_n dX5_letGo_109 0 rfl rfl ?_
          refine rj_iload_n dX5_letGo_110 1 rfl rfl ?_
          refine rj_iload_n dX5_letGo_111 3 rfl rfl ?_
          refine rm_callVv [.int v1, .int r2] (rest := []) ml_RX5_110 mvX5_comeTo rfl dX5_letGo_112 rfl rfl rfl rfl rfl (Nat.le_of_ble_eq_true rfl) (by decide) V (fun M3 V => ?_)
          refine rj_iincV (c := 1) (fun y => [(0, .ref 3), (1, .int y), (2, .int x1), (3, .int r2)]) dX5_letGo_115 1 rfl (by decide) (by decide) rfl (fun _ => rfl) (fun x2 ex2 => ?_)
          have V := V x2 ex2
          refine rj_goto (tgt := 2) dX5_letGo_118 (by decide) ?_
          exact rs_sub [0, 1] rfl V
      · have V := V2 hc
        refine rj_aload_n dX5_letGo_70 0 rfl rfl ?_
        refine rs_getR (t := 18) fl_RX5_32 rfl (by decide) (by decide) rfl dX5_letGo_71 rfl (by omega) ?_
        refine rj_iload_n dX5_letGo_74 2 rfl rfl ?_
        refine rm_callSNi [.int x1] (rest := [.ref 18]) (K := fun x M' => (x1 - x1 / 12 * 12) = x ∧ M2 = M') mn_RX5_106 mtX10_columnOf rfl dX5_letGo_75 rfl rfl (Nat.le_of_ble_eq_true rfl) (by decide) (uX10_columnOf ⟨rfl, rfl⟩) (fun x M' hx => ?_)
        obtain ⟨rfl, rfl⟩ := hx
        refine rj_dup2 dX5_letGo_78 rfl rfl ?_
        obtain ⟨hb, V⟩ := V
        refine rs_iald dX5_letGo_79 rfl hb ?_
        refine rj_aload_n dX5_letGo_80 0 rfl rfl ?_
        refine rs_getR (t := 8) fl_RX5_21 rfl (by decide) (by decide) rfl dX5_letGo_81 rfl (by omega) ?_
        refine rs_getR (t := 11) fl_RX5_77 rfl (by decide) (by decide) rfl dX5_letGo_84 rfl (by omega) ?_
        refine rj_iload_n dX5_letGo_87 1 rfl rfl ?_
        obtain ⟨hb, V⟩ := V
        refine rs_iald dX5_letGo_88 rfl hb ?_
        refine rj_iadd dX5_letGo_89 ?_
        obtain ⟨hb, V⟩ := V
        refine rs_iast dX5_letGo_90 rfl hb (fun M3 eM3 => ?_)
        have V := V M3 eM3
        refine rj_aload_n dX5_letGo_91 0 rfl rfl ?_
        refine rs_getR (t := 8) fl_RX5_21 rfl (by decide) (by decide) rfl dX5_letGo_92 rfl (by omega) ?_
        refine rs_getR (t := 11) fl_RX5_77 rfl (by decide) (by decide) rfl dX5_letGo_95 rfl (by omega) ?_
        refine rj_iload_n dX5_letGo_98 1 rfl rfl ?_
        refine rj_iconst (v := 0) dX5_letGo_99 (by decide) ?_
        obtain ⟨hb, V⟩ := V
        refine rs_iast dX5_letGo_100 rfl hb (fun M4 eM4 => ?_)
        have V := V M4 eM4
        refine rj_goto (tgt := 115) dX5_letGo_101 (by decide) ?_
        refine rj_iincV (c := 1) (fun y => [(0, .ref 3), (1, .int y), (2, .int x1), (3, .int r2)]) dX5_letGo_115 1 rfl (by decide) (by decide) rfl (fun _ => rfl) (fun x2 ex2 => ?_)
        have V := V x2 ex2
        refine rj_goto (tgt := 2) dX5_letGo_118 (by decide) ?_
        exact rs_sub [0, 1] rfl V
-- X5_comeTo
set_option maxRecDepth 100000 in
set_option maxHeartbeats 4000000 in
theorem vX5_comeTo_0 {w : Wd} {h : Nat} (a0 : Int32) (a1 : Int32)  (M : Mem) (Q : Option Value → Mem → Prop) (V : (vp_in a0 8 ∧ ∀ M1 : Mem, M1 = mset M 10 (Int32.toNatClampNeg a0) a1 → (vp_in a0 8 ∧ (vp_in a0 8 ∧ ∀ M2 : Mem, M2 = mset M1 12 (Int32.toNatClampNeg a0) ((M1 12 (Int32.toNatClampNeg a0)) + 1) → (vp_in a1 192 ∧ ∀ M3 : Mem, M3 = mset M2 6 (Int32.toNatClampNeg a1) 99 → (vp_in a0 8 ∧ (CSi w h kX10_isUnder [.int (M3 9 (Int32.toNatClampNeg a0)), .int 1] M3 (fun r1 M4 => ((r1 = 0 → (Q none M4)) ∧ (¬ (r1 = 0) → (vp_in a0 8 ∧ (vp_in a0 8 ∧ ∀ M5 : Mem, M5 = mset M4 11 (Int32.toNatClampNeg a0) ((M4 11 (Int32.toNatClampNeg a0)) - 1) → (Q none M5))))))))))))) : RM w (h + 1) kX5_comeTo 0 [(0, .ref 3), (1, .int a0), (2, .int a1)] [] M Q := by
  refine rj_aload_n dX5_comeTo_0 0 rfl rfl ?_
  refine rs_getR (t := 8) fl_RX5_21 rfl (by decide) (by decide) rfl dX5_comeTo_1 rfl (by omega) ?_
  refine rs_getR (t := 10) fl_RX5_74 rfl (by decide) (by decide) rfl dX5_comeTo_4 rfl (by omega) ?_
  refine rj_iload_n dX5_comeTo_7 1 rfl rfl ?_
  refine rj_iload_n dX5_comeTo_8 2 rfl rfl ?_
  obtain ⟨hb, V⟩ := V
  refine rs_iast dX5_comeTo_9 rfl hb (fun M1 eM1 => ?_)
  have V := V M1 eM1
  refine rj_aload_n dX5_comeTo_10 0 rfl rfl ?_
  refine rs_getR (t := 8) fl_RX5_21 rfl (by decide) (by decide) rfl dX5_comeTo_11 rfl (by omega) ?_
  refine rs_getR (t := 12) fl_RX5_80 rfl (by decide) (by decide) rfl dX5_comeTo_14 rfl (by omega) ?_
  refine rj_iload_n dX5_comeTo_17 1 rfl rfl ?_
  refine rj_dup2 dX5_comeTo_18 rfl rfl ?_
  obtain ⟨hb, V⟩ := V
  refine rs_iald dX5_comeTo_19 rfl hb ?_
  refine rj_iconst (v := 1) dX5_comeTo_20 (by decide) ?_
  refine rj_iadd dX5_comeTo_21 ?_
  obtain ⟨hb, V⟩ := V
  refine rs_iast dX5_comeTo_22 rfl hb (fun M2 eM2 => ?_)
  have V := V M2 eM2
  refine rj_aload_n dX5_comeTo_23 0 rfl rfl ?_
  refine rs_getR (t := 4) fl_RX5_12 rfl (by decide) (by decide) rfl dX5_comeTo_24 rfl (by omega) ?_
  refine rs_getR (t := 6) fl_RX5_83 rfl (by decide) (by decide) rfl dX5_comeTo_27 rfl (by omega) ?_
  refine rj_iload_n dX5_comeTo_30 2 rfl rfl ?_
  refine rj_bipush (v := 99) dX5_comeTo_31 (by decide) ?_
  obtain ⟨hb, V⟩ := V
  refine rs_iast dX5_comeTo_33 rfl hb (fun M3 eM3 => ?_)
  have V := V M3 eM3
  refine rj_aload_n dX5_comeTo_34 0 rfl rfl ?_
  refine rs_getR (t := 8) fl_RX5_21 rfl (by decide) (by decide) rfl dX5_comeTo_35 rfl (by omega) ?_
  refine rs_getR (t := 9) fl_RX5_71 rfl (by decide) (by decide) rfl dX5_comeTo_38 rfl (by omega) ?_
  refine rj_iload_n dX5_comeTo_41 1 rfl rfl ?_
  obtain ⟨hb, V⟩ := V
  refine rs_iald dX5_comeTo_42 rfl hb ?_
  refine rj_iconst (v := 1) dX5_comeTo_43 (by decide) ?_
  refine rm_callSNi [.int (M3 9 (Int32.toNatClampNeg a0)), .int 1] (rest := []) mn_RX5_114 mtX10_isUnder rfl dX5_comeTo_44 rfl rfl (Nat.le_of_ble_eq_true rfl) (by decide) V (fun r1 M4 V => ?_)
  obtain ⟨V1, V2⟩ := V
  refine rj_if_eq (tgt := 63) dX5_comeTo_47 (by decide) (fun hc => ?_) (fun hc => ?_)
  · have V := V1 hc
    exact rm_vret dX5_comeTo_63 rfl V
  · have V := V2 hc
    refine rj_aload_n dX5_comeTo_50 0 rfl rfl ?_
    refine rs_getR (t := 8) fl_RX5_21 rfl (by decide) (by decide) rfl dX5_comeTo_51 rfl (by omega) ?_
    refine rs_getR (t := 11) fl_RX5_77 rfl (by decide) (by decide) rfl dX5_comeTo_54 rfl (by omega) ?_
    refine rj_iload_n dX5_comeTo_57 1 rfl rfl ?_
    refine rj_dup2 dX5_comeTo_58 rfl rfl ?_
    obtain ⟨hb, V⟩ := V
    refine rs_iald dX5_comeTo_59 rfl hb ?_
    refine rj_iconst (v := 1) dX5_comeTo_60 (by decide) ?_
    refine rj_isub dX5_comeTo_61 ?_
    obtain ⟨hb, V⟩ := V
    refine rs_iast dX5_comeTo_62 rfl hb (fun M5 eM5 => ?_)
    have V := V M5 eM5
    exact rm_vret dX5_comeTo_63 rfl V
-- X5_blow
set_option maxRecDepth 100000 in
set_option maxHeartbeats 4000000 in
theorem vX5_blow_0 {w : Wd} {h : Nat}   (M : Mem) (Q : Option Value → Mem → Prop) (V : (∀ x1 : Int32, x1 = (if 0 ≤ (M 4 3) then (1 : Int32) else ((-1) : Int32)) → (∀ x2 : Int32, x2 = (if 0 ≤ (M 4 3) then (M 4 3) else 0 - (M 4 3)) → RM w (h + 1) kX5_blow 29 [(0, .ref 3), (1, .int x1), (2, .int x2), (3, .int 0)] [] M Q))) : RM w (h + 1) kX5_blow 0 [(0, .ref 3)] [] M Q := by
  refine rj_aload_n dX5_blow_0 0 rfl rfl ?_
  refine rs_getR (t := 4) fl_RX5_12 rfl (by decide) (by decide) rfl dX5_blow_1 rfl (by omega) ?_
  refine rs_getI fl_RX5_118 rfl (by decide) (by decide) rfl dX5_blow_4 rfl ?_
  have KD : RM w (h + 1) kX5_blow 15 [(0, .ref 3)] [.int (if 0 ≤ (M 4 3) then (1 : Int32) else ((-1) : Int32))] M Q := by
    refine rj_top (fun x1 ex1 => ?_)
    have V := V x1 ex1
    refine rj_istore_n (lv' := [(0, .ref 3), (1, .int x1)]) dX5_blow_15 rfl (by decide) rfl rfl ?_
    refine rj_aload_n dX5_blow_16 0 rfl rfl ?_
    refine rs_getR (t := 4) fl_RX5_12 rfl (by decide) (by decide) rfl dX5_blow_17 rfl (by omega) ?_
    refine rs_getI fl_RX5_118 rfl (by decide) (by decide) rfl dX5_blow_20 rfl ?_
    refine rm_mabs (rest := []) ml_RX5_121 rfl dX5_blow_23 (Nat.le_of_ble_eq_true rfl) ?_
    refine rj_top (fun x2 ex2 => ?_)
    have V := V x2 ex2
    refine rj_istore_n (lv' := [(0, .ref 3), (1, .int x1), (2, .int x2)]) dX5_blow_26 rfl (by decide) rfl rfl ?_
    refine rj_iconst (v := 0) dX5_blow_27 (by decide) ?_
    refine rj_istore_n (lv' := [(0, .ref 3), (1, .int x1), (2, .int x2), (3, .int 0)]) dX5_blow_28 rfl (by decide) rfl rfl ?_
    exact rs_sub [0, 1, 2, 3] rfl V
  refine rj_if_ge (tgt := 14) dX5_blow_7 (by decide) (fun hc => ?_) (fun hc => ?_)
  · refine rj_iconst (v := 1) dX5_blow_14 (by decide) ?_
    exact rs_ite_t hc KD
  · refine rj_iconst (v := (-1)) dX5_blow_10 (by decide) ?_
    refine rj_goto (tgt := 15) dX5_blow_11 (by decide) ?_
    exact rs_ite_f hc KD
set_option maxRecDepth 100000 in
set_option maxHeartbeats 4000000 in
theorem vX5_blow_29 {w : Wd} {h : Nat} (v1 : Int32) (v2 : Int32) (v3 : Int32)  (M : Mem) (Q : Option Value → Mem → Prop) (V : ((8 ≤ v3 → (Q none M)) ∧ (¬ (8 ≤ v3) → (CSi w h kX0_isThere [.ref 8, .int v3] M (fun r1 M1 => ((r1 = 0 → (∀ x1 : Int32, x1 = v3 + 1 → RM w (h + 1) kX5_blow 29 [(0, .ref 3), (1, .int v1), (2, .int v2), (3, .int x1)] [] M1 Q)) ∧ (¬ (r1 = 0) → (vp_in v3 8 ∧ ((v2 ≤ (M1 11 (Int32.toNatClampNeg v3)) → (∀ x1 : Int32, x1 = v3 + 1 → RM w (h + 1) kX5_blow 29 [(0, .ref 3), (1, .int v1), (2, .int v2), (3, .int x1)] [] M1 Q)) ∧ (¬ (v2 ≤ (M1 11 (Int32.toNatClampNeg v3))) → (vp_in v3 8 ∧ (CSi w h kX10_besideOf [.int (M1 10 (Int32.toNatClampNeg v3)), .int v1] M1 (fun r2 M2 => ((r2 = (-2) → (∀ x1 : Int32, x1 = v3 + 1 → RM w (h + 1) kX5_blow 29 [(0, .ref 3), (1, .int v1), (2, .int v2), (3, .int x1)] [] M2 Q)) ∧ (¬ (r2 = (-2)) → (vp_in v3 8 ∧ ∀ M3 : Mem, M3 = mset M2 10 (Int32.toNatClampNeg v3) r2 → (vp_in r2 192 ∧ ∀ M4 : Mem, M4 = mset M3 6 (Int32.toNatClampNeg r2) 99 → (∀ x1 : Int32, x1 = v3 + 1 → RM w (h + 1) kX5_blow 29 [(0, .ref 3), (1, .int v1), (2, .int v2), (3, .int x1)] [] M4 Q)))))))))))))))))) : RM w (h + 1) kX5_blow 29 [(0, .ref 3), (1, .int v1), (2, .int v2), (3, .int v3)] [] M Q := by
  refine rj_iload_n dX5_blow_29 3 rfl rfl ?_
  refine rj_bipush (v := 8) dX5_blow_30 (by decide) ?_
  obtain ⟨V1, V2⟩ := V
  refine rj_icmp_ge (tgt := 110) dX5_blow_32 (by decide) (fun hc => ?_) (fun hc => ?_)
  · have V := V1 hc
    exact rm_vret dX5_blow_110 rfl V
  · have V := V2 hc
    refine rj_aload_n dX5_blow_35 0 rfl rfl ?_
    refine rs_getR (t := 8) fl_RX5_21 rfl (by decide) (by decide) rfl dX5_blow_36 rfl (by omega) ?_
    refine rj_iload_n dX5_blow_39 3 rfl rfl ?_
    refine rm_callVi [.int v3] (rest := []) ml_RX5_98 mvX0_isThere rfl dX5_blow_40 rfl rfl rfl rfl rfl (Nat.le_of_ble_eq_true rfl) (by decide) V (fun r1 M1 V => ?_)
    obtain ⟨V1, V2⟩ := V
    refine rj_if_eq (tgt := 104) dX5_blow_43 (by decide) (fun hc => ?_) (fun hc => ?_)
    · have V := V1 hc
      refine rj_iincV (c := 1) (fun y => [(0, .ref 3), (1, .int v1), (2, .int v2), (3, .int y)]) dX5_blow_104 3 rfl (by decide) (by decide) rfl (fun _ => rfl) (fun x1 ex1 => ?_)
      have V := V x1 ex1
      refine rj_goto (tgt := 29) dX5_blow_107 (by decide) ?_
      exact rs_sub [0, 1, 2, 3] rfl V
    · have V := V2 hc
      refine rj_aload_n dX5_blow_46 0 rfl rfl ?_
      refine rs_getR (t := 8) fl_RX5_21 rfl (by decide) (by decide) rfl dX5_blow_47 rfl (by omega) ?_
      refine rs_getR (t := 11) fl_RX5_77 rfl (by decide) (by decide) rfl dX5_blow_50 rfl (by omega) ?_
      refine rj_iload_n dX5_blow_53 3 rfl rfl ?_
      obtain ⟨hb, V⟩ := V
      refine rs_iald dX5_blow_54 rfl hb ?_
      refine rj_iload_n dX5_blow_55 2 rfl rfl ?_
      obtain ⟨V1, V2⟩ := V
      refine rj_icmp_ge (tgt := 104) dX5_blow_56 (by decide) (fun hc => ?_) (fun hc => ?_)
      · have V := V1 hc
        refine rj_iincV (c := 1) (fun y => [(0, .ref 3), (1, .int v1), (2, .int v2), (3, .int y)]) dX5_blow_104 3 rfl (by decide) (by decide) rfl (fun _ => rfl) (fun x1 ex1 => ?_)
        have V := V x1 ex1
        refine rj_goto (tgt := 29) dX5_blow_107 (by decide) ?_
        exact rs_sub [0, 1, 2, 3] rfl V
      · have V := V2 hc
        refine rj_aload_n dX5_blow_59 0 rfl rfl ?_
        refine rs_getR (t := 8) fl_RX5_21 rfl (by decide) (by decide) rfl dX5_blow_60 rfl (by omega) ?_
        refine rs_getR (t := 10) fl_RX5_74 rfl (by decide) (by decide) rfl dX5_blow_63 rfl (by omega) ?_
        refine rj_iload_n dX5_blow_66 3 rfl rfl ?_
        obtain ⟨hb, V⟩ := V
        refine rs_iald dX5_blow_67 rfl hb ?_
        refine rj_iload_n dX5_blow_68 1 rfl rfl ?_
        refine rm_callSNi [.int (M1 10 (Int32.toNatClampNeg v3)), .int v1] (rest := []) mn_RX5_126 mtX10_besideOf rfl dX5_blow_69 rfl rfl (Nat.le_of_ble_eq_true rfl) (by decide) V (fun r2 M2 V => ?_)
        refine rj_istore (lv' := [(0, .ref 3), (1, .int v1), (2, .int v2), (3, .int v3), (4, .int r2)]) dX5_blow_72 (by decide) rfl rfl ?_
        refine rj_iload dX5_blow_74 4 rfl ?_
        refine rj_bipush (v := (-2)) dX5_blow_76 (by decide) ?_
        obtain ⟨V1, V2⟩ := V
        refine rj_icmp_eq (tgt := 104) dX5_blow_78 (by decide) (fun hc => ?_) (fun hc => ?_)
        · have V := V1 hc
          refine rj_iincV (c := 1) (fun y => [(0, .ref 3), (1, .int v1), (2, .int v2), (3, .int y), (4, .int r2)]) dX5_blow_104 3 rfl (by decide) (by decide) rfl (fun _ => rfl) (fun x1 ex1 => ?_)
          have V := V x1 ex1
          refine rj_goto (tgt := 29) dX5_blow_107 (by decide) ?_
          exact rs_sub [0, 1, 2, 3] rfl V
        · have V := V2 hc
          refine rj_aload_n dX5_blow_81 0 rfl rfl ?_
          refine rs_getR (t := 8) fl_RX5_21 rfl (by decide) (by decide) rfl dX5_blow_82 rfl (by omega) ?_
          refine rs_getR (t := 10) fl_RX5_74 rfl (by decide) (by decide) rfl dX5_blow_85 rfl (by omega) ?_
          refine rj_iload_n dX5_blow_88 3 rfl rfl ?_
          refine rj_iload dX5_blow_89 4 rfl ?_
          obtain ⟨hb, V⟩ := V
          refine rs_iast dX5_blow_91 rfl hb (fun M3 eM3 => ?_)
          have V := V M3 eM3
          refine rj_aload_n dX5_blow_92 0 rfl rfl ?_
          refine rs_getR (t := 4) fl_RX5_12 rfl (by decide) (by decide) rfl dX5_blow_93 rfl (by omega) ?_
          refine rs_getR (t := 6) fl_RX5_83 rfl (by decide) (by decide) rfl dX5_blow_96 rfl (by omega) ?_
          refine rj_iload dX5_blow_99 4 rfl ?_
          refine rj_bipush (v := 99) dX5_blow_101 (by decide) ?_
          obtain ⟨hb, V⟩ := V
          refine rs_iast dX5_blow_103 rfl hb (fun M4 eM4 => ?_)
          have V := V M4 eM4
          refine rj_iincV (c := 1) (fun y => [(0, .ref 3), (1, .int v1), (2, .int v2), (3, .int y), (4, .int r2)]) dX5_blow_104 3 rfl (by decide) (by decide) rfl (fun _ => rfl) (fun x1 ex1 => ?_)
          have V := V x1 ex1
          refine rj_goto (tgt := 29) dX5_blow_107 (by decide) ?_
          exact rs_sub [0, 1, 2, 3] rfl V
-- X5_perform
set_option maxRecDepth 100000 in
set_option maxHeartbeats 4000000 in
theorem vX5_perform_0 {w : Wd} {h : Nat} (a0 : Int32)  (M : Mem) (Q : Option Value → Mem → Prop) (V : (vp_in a0 72 ∧ (∀ x1 : Int32, x1 = (M 15 (Int32.toNatClampNeg a0)) → (vp_in a0 72 ∧ (∀ x2 : Int32, x2 = (M 16 (Int32.toNatClampNeg a0)) → ((x1 = 8 → (CSv w h kX5_passTicks [.ref 3, .int x2] M (fun M1 => (Q none M1)))) ∧ (¬ x1 = 8 → ((x1 = 9 → (∀ M1 : Mem, M1 = mset M 4 2 x2 → (Q none M1))) ∧ (¬ x1 = 9 → ((x1 = 10 → (∀ M1 : Mem, M1 = mset M 4 4 x2 → (Q none M1))) ∧ (¬ x1 = 10 → ((x1 = 11 → (∀ M1 : Mem, M1 = mset M 4 3 x2 → (Q none M1))) ∧ (¬ x1 = 11 → ((x1 = 12 → (CSi w h kX2_wetColumn [.ref 4, .int x2] M (fun r1 M1 => (Q none M1)))) ∧ (¬ x1 = 12 → (vp_in a0 72 ∧ (CSi w h kX5_makeDrop [.ref 3, .int x1, .int (M 17 (Int32.toNatClampNeg a0)), .int x2] M (fun r1 M1 => (Q none M1))))))))))))))))))) : RM w (h + 1) kX5_perform 0 [(0, .ref 3), (1, .int a0)] [] M Q := by
  refine rj_aload_n dX5_perform_0 0 rfl rfl ?_
  refine rs_getR (t := 13) fl_RX5_28 rfl (by decide) (by decide) rfl dX5_perform_1 rfl (by omega) ?_
  refine rs_getR (t := 15) fl_RX5_130 rfl (by decide) (by decide) rfl dX5_perform_4 rfl (by omega) ?_
  refine rj_iload_n dX5_perform_7 1 rfl rfl ?_
  obtain ⟨hb, V⟩ := V
  refine rs_iald dX5_perform_8 rfl hb ?_
  refine rj_top (fun x1 ex1 => ?_)
  have V := V x1 ex1
  refine rj_istore_n (lv' := [(0, .ref 3), (1, .int a0), (2, .int x1)]) dX5_perform_9 rfl (by decide) rfl rfl ?_
  refine rj_aload_n dX5_perform_10 0 rfl rfl ?_
  refine rs_getR (t := 13) fl_RX5_28 rfl (by decide) (by decide) rfl dX5_perform_11 rfl (by omega) ?_
  refine rs_getR (t := 16) fl_RX5_133 rfl (by decide) (by decide) rfl dX5_perform_14 rfl (by omega) ?_
  refine rj_iload_n dX5_perform_17 1 rfl rfl ?_
  obtain ⟨hb, V⟩ := V
  refine rs_iald dX5_perform_18 rfl hb ?_
  refine rj_top (fun x2 ex2 => ?_)
  have V := V x2 ex2
  refine rj_istore_n (lv' := [(0, .ref 3), (1, .int a0), (2, .int x1), (3, .int x2)]) dX5_perform_19 rfl (by decide) rfl rfl ?_
  refine rj_iload_n dX5_perform_20 2 rfl rfl ?_
  obtain ⟨V1, V2⟩ := V
  by_cases w0 : x1 = 8
  · have V := V1 w0
    refine rs_at w0 ?_
    refine rj_tableIn (off := 35) (tgt := 56) dX5_perform_21 (by decide) (by decide) (by decide) (by decide) ?_
    refine rj_aload_n dX5_perform_56 0 rfl rfl ?_
    refine rj_iload_n dX5_perform_57 3 rfl rfl ?_
    refine rm_callVv [.int x2] (rest := []) ml_RX5_136 mvX5_passTicks rfl dX5_perform_58 rfl rfl rfl rfl rfl (Nat.le_of_ble_eq_true rfl) (by decide) V (fun M1 V => ?_)
    refine rj_goto (tgt := 125) dX5_perform_61 (by decide) ?_
    exact rm_vret dX5_perform_125 rfl V
  · have V := V2 w0
    obtain ⟨V1, V2⟩ := V
    by_cases w1 : x1 = 9
    · have V := V1 w1
      refine rs_at w1 ?_
      refine rj_tableIn (off := 43) (tgt := 64) dX5_perform_21 (by decide) (by decide) (by decide) (by decide) ?_
      refine rj_aload_n dX5_perform_64 0 rfl rfl ?_
      refine rs_getR (t := 4) fl_RX5_12 rfl (by decide) (by decide) rfl dX5_perform_65 rfl (by omega) ?_
      refine rj_iload_n dX5_perform_68 3 rfl rfl ?_
      refine rs_putI fl_RX5_140 (ft2_2 _ nofun) rfl (by decide) (by decide) rfl dX5_perform_69 rfl rfl rfl (fun M1 eM1 => ?_)
      have V := V M1 eM1
      refine rj_goto (tgt := 125) dX5_perform_72 (by decide) ?_
      exact rm_vret dX5_perform_125 rfl V
    · have V := V2 w1
      obtain ⟨V1, V2⟩ := V
      by_cases w2 : x1 = 10
      · have V := V1 w2
        refine rs_at w2 ?_
        refine rj_tableIn (off := 54) (tgt := 75) dX5_perform_21 (by decide) (by decide) (by decide) (by decide) ?_
        refine rj_aload_n dX5_perform_75 0 rfl rfl ?_
        refine rs_getR (t := 4) fl_RX5_12 rfl (by decide) (by decide) rfl dX5_perform_76 rfl (by omega) ?_
        refine rj_iload_n dX5_perform_79 3 rfl rfl ?_
        refine rs_putI fl_RX5_143 (ft2_4 _ nofun) rfl (by decide) (by decide) rfl dX5_perform_80 rfl rfl rfl (fun M1 eM1 => ?_)
        have V := V M1 eM1
        refine rj_goto (tgt := 125) dX5_perform_83 (by decide) ?_
        exact rm_vret dX5_perform_125 rfl V
      · have V := V2 w2
        obtain ⟨V1, V2⟩ := V
        by_cases w3 : x1 = 11
        · have V := V1 w3
          refine rs_at w3 ?_
          refine rj_tableIn (off := 65) (tgt := 86) dX5_perform_21 (by decide) (by decide) (by decide) (by decide) ?_
          refine rj_aload_n dX5_perform_86 0 rfl rfl ?_
          refine rs_getR (t := 4) fl_RX5_12 rfl (by decide) (by decide) rfl dX5_perform_87 rfl (by omega) ?_
          refine rj_iload_n dX5_perform_90 3 rfl rfl ?_
          refine rs_putI fl_RX5_118 (ft2_3 _ nofun) rfl (by decide) (by decide) rfl dX5_perform_91 rfl rfl rfl (fun M1 eM1 => ?_)
          have V := V M1 eM1
          refine rj_goto (tgt := 125) dX5_perform_94 (by decide) ?_
          exact rm_vret dX5_perform_125 rfl V
        · have V := V2 w3
          obtain ⟨V1, V2⟩ := V
          by_cases w4 : x1 = 12
          · have V := V1 w4
            refine rs_at w4 ?_
            refine rj_tableIn (off := 76) (tgt := 97) dX5_perform_21 (by decide) (by decide) (by decide) (by decide) ?_
            refine rj_aload_n dX5_perform_97 0 rfl rfl ?_
            refine rs_getR (t := 4) fl_RX5_12 rfl (by decide) (by decide) rfl dX5_perform_98 rfl (by omega) ?_
            refine rj_iload_n dX5_perform_101 3 rfl rfl ?_
            refine rm_callVi [.int x2] (rest := []) ml_RX5_146 mvX2_wetColumn rfl dX5_perform_102 rfl rfl rfl rfl rfl (Nat.le_of_ble_eq_true rfl) (by decide) V (fun r1 M1 V => ?_)
            refine rj_pop dX5_perform_105 rfl ?_
            refine rj_goto (tgt := 125) dX5_perform_106 (by decide) ?_
            exact rm_vret dX5_perform_125 rfl V
          · have V := V2 w4
            refine rj_tableOut (tgt := 109) dX5_perform_21 (by have n0 := lv_neT (a := 8) w0 (by decide); have n1 := lv_neT (a := 9) w1 (by decide); have n2 := lv_neT (a := 10) w2 (by decide); have n3 := lv_neT (a := 11) w3 (by decide); have n4 := lv_neT (a := 12) w4 (by decide); omega) (by decide) ?_
            refine rj_aload_n dX5_perform_109 0 rfl rfl ?_
            refine rj_iload_n dX5_perform_110 2 rfl rfl ?_
            refine rj_aload_n dX5_perform_111 0 rfl rfl ?_
            refine rs_getR (t := 13) fl_RX5_28 rfl (by decide) (by decide) rfl dX5_perform_112 rfl (by omega) ?_
            refine rs_getR (t := 17) fl_RX5_149 rfl (by decide) (by decide) rfl dX5_perform_115 rfl (by omega) ?_
            refine rj_iload_n dX5_perform_118 1 rfl rfl ?_
            obtain ⟨hb, V⟩ := V
            refine rs_iald dX5_perform_119 rfl hb ?_
            refine rj_iload_n dX5_perform_120 3 rfl rfl ?_
            refine rm_callVi [.int x1, .int (M 17 (Int32.toNatClampNeg a0)), .int x2] (rest := []) ml_RX5_152 mvX5_makeDrop rfl dX5_perform_121 rfl rfl rfl rfl rfl (Nat.le_of_ble_eq_true rfl) (by decide) V (fun r1 M1 V => ?_)
            refine rj_pop dX5_perform_124 rfl ?_
            exact rm_vret dX5_perform_125 rfl V
-- X6_isMissing
set_option maxRecDepth 100000 in
set_option maxHeartbeats 4000000 in
theorem vX6_isMissing_0 {w : Wd} {h : Nat} (K : Nat) (hK : isSheetC K)  (M : Mem) (Q : Option Value → Mem → Prop) (V : (Q (some (.int (b2i ((M K 0) = 0)))) M)) : RM w h kX6_isMissing 0 [(0, .ref K)] [] M Q := by
  refine rj_aload_n dX6_isMissing_0 0 rfl rfl ?_
  refine rs_getI fl_RX6_9 rfl (by decide) (by decide) rfl dX6_isMissing_1 hK.1 ?_
  have KD : RM w h kX6_isMissing 12 [(0, .ref K)] [.int (b2i ((M K 0) = 0))] M Q := by
    exact rm_iret dX6_isMissing_12 rfl (isB_n isB_b2i) V
  refine rj_if_ne (tgt := 11) dX6_isMissing_4 (by decide) (fun hc => ?_) (fun hc => ?_)
  · refine rj_iconst (v := 0) dX6_isMissing_11 (by decide) ?_
    exact rs_b0 hc KD
  · refine rj_iconst (v := 1) dX6_isMissing_7 (by decide) ?_
    refine rj_goto (tgt := 12) dX6_isMissing_8 (by decide) ?_
    exact rs_b1 hc KD
-- X6_begin
set_option maxRecDepth 100000 in
set_option maxHeartbeats 4000000 in
theorem vX6_begin_0 {w : Wd} {h : Nat} (K : Nat) (a0 : Int32) (a1 : Int32) (hK : isSheetC K)  (M : Mem) (Q : Option Value → Mem → Prop) (V : (∀ M1 : Mem, M1 = mset M K 0 a0 → (∀ M2 : Mem, M2 = mset M1 K 1 a1 → (CSv w h kJ7_fill_53178 [.ref (K + 1), .int 0] M2 (fun M3 => (Q none M3)))))) : RM w (h + 1) kX6_begin 0 [(0, .ref K), (1, .int a0), (2, .int a1)] [] M Q := by
  refine rj_aload_n dX6_begin_0 0 rfl rfl ?_
  refine rj_iload_n dX6_begin_1 1 rfl rfl ?_
  refine rs_putI fl_RX6_9 (ft6_0 _ nofun) rfl (by decide) (by decide) rfl dX6_begin_2 rfl rfl hK.1 (fun M1 eM1 => ?_)
  have V := V M1 eM1
  refine rj_aload_n dX6_begin_5 0 rfl rfl ?_
  refine rj_iload_n dX6_begin_6 2 rfl rfl ?_
  refine rs_putI fl_RX6_15 (ft6_1 _ nofun) rfl (by decide) (by decide) rfl dX6_begin_7 rfl rfl hK.1 (fun M2 eM2 => ?_)
  have V := V M2 eM2
  refine rj_aload_n dX6_begin_10 0 rfl rfl ?_
  refine rs_getR (t := K + 1) fl_RX6_18 rfl (by decide) (by decide) rfl dX6_begin_11 hK.1 (by omega) ?_
  refine rj_iconst (v := 0) dX6_begin_14 (by decide) ?_
  refine rm_callSv [.ref (K + 1), .int 0] (rest := []) ml_RX6_22 mtJ7_fill_53178 rfl dX6_begin_15 rfl rfl (Nat.le_of_ble_eq_true rfl) (by decide) V (fun M3 V => ?_)
  exact rm_vret dX6_begin_18 rfl V
-- X6_put
set_option maxRecDepth 100000 in
set_option maxHeartbeats 4000000 in
theorem vX6_put_0 {w : Wd} {h : Nat} (K : Nat) (a0 : Int32) (a1 : Int32) (hK : isSheetC K)  (M : Mem) (Q : Option Value → Mem → Prop) (V : (((M K 0) = 8 → (vp_in a0 40 ∧ ∀ M1 : Mem, M1 = mset M (K + 1) (Int32.toNatClampNeg a0) ((Int32.toInt8 a1).toInt32) → (Q none M1))) ∧ (¬ (M K 0) = 8 → (((M K 0) = 16 → (vp_in a0 40 ∧ ∀ M1 : Mem, M1 = mset M (K + 1) (Int32.toNatClampNeg a0) ((Int32.toInt16 a1).toInt32) → (Q none M1))) ∧ (¬ (M K 0) = 16 → (vp_in a0 40 ∧ ∀ M1 : Mem, M1 = mset M (K + 1) (Int32.toNatClampNeg a0) a1 → (Q none M1))))))) : RM w h kX6_put 0 [(0, .ref K), (1, .int a0), (2, .int a1)] [] M Q := by
  refine rj_aload_n dX6_put_0 0 rfl rfl ?_
  refine rs_getI fl_RX6_9 rfl (by decide) (by decide) rfl dX6_put_1 hK.1 ?_
  obtain ⟨V1, V2⟩ := V
  by_cases w0 : (M K 0) = 8
  · have V := V1 w0
    refine rs_at w0 ?_
    refine rj_lookup (off := 28) (tgt := 32) dX6_put_4 (by decide) (by decide) (by decide) ?_
    refine rj_aload_n dX6_put_32 0 rfl rfl ?_
    refine rs_getR (t := K + 1) fl_RX6_18 rfl (by decide) (by decide) rfl dX6_put_33 hK.1 (by omega) ?_
    refine rj_iload_n dX6_put_36 1 rfl rfl ?_
    refine rj_iload_n dX6_put_37 2 rfl rfl ?_
    refine rj_i2b dX6_put_38 ?_
    obtain ⟨hb, V⟩ := V
    refine rs_iast dX6_put_39 hK.2 hb (fun M1 eM1 => ?_)
    have V := V M1 eM1
    refine rj_goto (tgt := 61) dX6_put_40 (by decide) ?_
    exact rm_vret dX6_put_61 rfl V
  · have V := V2 w0
    obtain ⟨V1, V2⟩ := V
    by_cases w1 : (M K 0) = 16
    · have V := V1 w1
      refine rs_at w1 ?_
      refine rj_lookup (off := 39) (tgt := 43) dX6_put_4 (by decide) (by decide) (by decide) ?_
      refine rj_aload_n dX6_put_43 0 rfl rfl ?_
      refine rs_getR (t := K + 1) fl_RX6_18 rfl (by decide) (by decide) rfl dX6_put_44 hK.1 (by omega) ?_
      refine rj_iload_n dX6_put_47 1 rfl rfl ?_
      refine rj_iload_n dX6_put_48 2 rfl rfl ?_
      refine rj_i2s dX6_put_49 ?_
      obtain ⟨hb, V⟩ := V
      refine rs_iast dX6_put_50 hK.2 hb (fun M1 eM1 => ?_)
      have V := V M1 eM1
      refine rj_goto (tgt := 61) dX6_put_51 (by decide) ?_
      exact rm_vret dX6_put_61 rfl V
    · have V := V2 w1
      refine rj_lookup (off := 50) (tgt := 54) dX6_put_4 (by decide) ((lv_osw w0 (by decide)).trans ((lv_osw w1 (by decide)).trans rfl)) (by decide) ?_
      refine rj_aload_n dX6_put_54 0 rfl rfl ?_
      refine rs_getR (t := K + 1) fl_RX6_18 rfl (by decide) (by decide) rfl dX6_put_55 hK.1 (by omega) ?_
      refine rj_iload_n dX6_put_58 1 rfl rfl ?_
      refine rj_iload_n dX6_put_59 2 rfl rfl ?_
      obtain ⟨hb, V⟩ := V
      refine rs_iast dX6_put_60 hK.2 hb (fun M1 eM1 => ?_)
      have V := V M1 eM1
      exact rm_vret dX6_put_61 rfl V
-- X6_hasStretch
set_option maxRecDepth 100000 in
set_option maxHeartbeats 4000000 in
theorem vX6_hasStretch_0 {w : Wd} {h : Nat} (K : Nat) (a0 : Int32) (a1 : Int32) (hK : isSheetC K)  (M : Mem) (Q : Option Value → Mem → Prop) (V : ((a0 < 0 → (Q (some (.int 0)) M)) ∧ (¬ (a0 < 0) → ((a1 < 0 → (Q (some (.int 0)) M)) ∧ (¬ (a1 < 0) → (Q (some (.int (b2i (¬ (((M K 1) - a1) < a0))))) M)))))) : RM w h kX6_hasStretch 0 [(0, .ref K), (1, .int a0), (2, .int a1)] [] M Q := by
  refine rj_iload_n dX6_hasStretch_0 1 rfl rfl ?_
  obtain ⟨V1, V2⟩ := V
  refine rj_if_lt (tgt := 22) dX6_hasStretch_1 (by decide) (fun hc => ?_) (fun hc => ?_)
  · have V := V1 hc
    refine rj_iconst (v := 0) dX6_hasStretch_22 (by decide) ?_
    exact rm_iret dX6_hasStretch_23 rfl rfl V
  · have V := V2 hc
    refine rj_iload_n dX6_hasStretch_4 2 rfl rfl ?_
    obtain ⟨V1, V2⟩ := V
    refine rj_if_lt (tgt := 22) dX6_hasStretch_5 (by decide) (fun hc => ?_) (fun hc => ?_)
    · have V := V1 hc
      refine rj_iconst (v := 0) dX6_hasStretch_22 (by decide) ?_
      exact rm_iret dX6_hasStretch_23 rfl rfl V
    · have V := V2 hc
      refine rj_iload_n dX6_hasStretch_8 1 rfl rfl ?_
      refine rj_aload_n dX6_hasStretch_9 0 rfl rfl ?_
      refine rs_getI fl_RX6_15 rfl (by decide) (by decide) rfl dX6_hasStretch_10 hK.1 ?_
      refine rj_iload_n dX6_hasStretch_13 2 rfl rfl ?_
      refine rj_isub dX6_hasStretch_14 ?_
      have KD : RM w h kX6_hasStretch 23 [(0, .ref K), (1, .int a0), (2, .int a1)] [.int (b2i (¬ (((M K 1) - a1) < a0)))] M Q := by
        exact rm_iret dX6_hasStretch_23 rfl (isB_n isB_b2i) V
      refine rj_icmp_gt (tgt := 22) dX6_hasStretch_15 (by decide) (fun hc => ?_) (fun hc => ?_)
      · refine rj_iconst (v := 0) dX6_hasStretch_22 (by decide) ?_
        exact rs_b0 (fun q => q hc) KD
      · refine rj_iconst (v := 1) dX6_hasStretch_18 (by decide) ?_
        refine rj_goto (tgt := 23) dX6_hasStretch_19 (by decide) ?_
        exact rs_b1 hc KD
-- X7_append
set_option maxRecDepth 100000 in
set_option maxHeartbeats 4000000 in
theorem vX7_append_0 {w : Wd} {h : Nat} (a0 : Int32) (a1 : Int32)  (M : Mem) (Q : Option Value → Mem → Prop) (V : (∀ x1 : Int32, x1 = (a1 - 1) → RM w h kX7_append 4 [(0, .ref 37), (1, .int a0), (3, .int x1)] [] M Q)) : RM w h kX7_append 0 [(0, .ref 37), (1, .int a0), (2, .int a1)] [] M Q := by
  refine rj_iload_n dX7_append_0 2 rfl rfl ?_
  refine rj_iconst (v := 1) dX7_append_1 (by decide) ?_
  refine rj_isub dX7_append_2 ?_
  refine rj_top (fun x1 ex1 => ?_)
  have V := V x1 ex1
  refine rj_istore_n (lv' := [(0, .ref 37), (1, .int a0), (2, .int a1), (3, .int x1)]) dX7_append_3 rfl (by decide) rfl rfl ?_
  exact rs_sub [0, 1, 3] rfl V
set_option maxRecDepth 100000 in
set_option maxHeartbeats 4000000 in
theorem vX7_append_4 {w : Wd} {h : Nat} (v1 : Int32) (v3 : Int32)  (M : Mem) (Q : Option Value → Mem → Prop) (V : ((v3 < 0 → (Q none M)) ∧ (¬ (v3 < 0) → (vp_in (M 37 1) 100 ∧ ∀ M1 : Mem, M1 = mset M 38 (Int32.toNatClampNeg (M 37 1)) (((Int32.toUInt32 v1 >>> (Int32.toUInt32 (8 * v3) &&& Int32.toUInt32 31)).toInt32) &&& 255) → (∀ M2 : Mem, M2 = mset M1 37 1 ((M1 37 1) + 1) → (∀ x1 : Int32, x1 = v3 + (-1) → RM w h kX7_append 4 [(0, .ref 37), (1, .int v1), (3, .int x1)] [] M2 Q)))))) : RM w h kX7_append 4 [(0, .ref 37), (1, .int v1), (3, .int v3)] [] M Q := by
  refine rj_iload_n dX7_append_4 2 rfl rfl ?_
  obtain ⟨V1, V2⟩ := V
  refine rj_if_lt (tgt := 43) dX7_append_5 (by decide) (fun hc => ?_) (fun hc => ?_)
  · have V := V1 hc
    exact rm_vret dX7_append_43 rfl V
  · have V := V2 hc
    refine rj_aload_n dX7_append_8 0 rfl rfl ?_
    refine rs_getR (t := 38) fl_RX7_9 rfl (by decide) (by decide) rfl dX7_append_9 rfl (by omega) ?_
    refine rj_aload_n dX7_append_12 0 rfl rfl ?_
    refine rs_getI fl_RX7_15 rfl (by decide) (by decide) rfl dX7_append_13 rfl ?_
    refine rj_iload_n dX7_append_16 1 rfl rfl ?_
    refine rj_bipush (v := 8) dX7_append_17 (by decide) ?_
    refine rj_iload_n dX7_append_19 2 rfl rfl ?_
    refine rj_imul dX7_append_20 ?_
    refine rj_iushr dX7_append_21 ?_
    refine rj_sipush (v := 255) dX7_append_22 (by decide) ?_
    refine rj_iand dX7_append_25 ?_
    obtain ⟨hb, V⟩ := V
    refine rs_iast dX7_append_26 rfl hb (fun M1 eM1 => ?_)
    have V := V M1 eM1
    refine rj_aload_n dX7_append_27 0 rfl rfl ?_
    refine rj_dup dX7_append_28 rfl ?_
    refine rs_getI fl_RX7_15 rfl (by decide) (by decide) rfl dX7_append_29 rfl ?_
    refine rj_iconst (v := 1) dX7_append_32 (by decide) ?_
    refine rj_iadd dX7_append_33 ?_
    refine rs_putI fl_RX7_15 (ft7_1 _ nofun) rfl (by decide) (by decide) rfl dX7_append_34 rfl rfl rfl (fun M2 eM2 => ?_)
    have V := V M2 eM2
    refine rj_iincV (c := (-1)) (fun y => [(0, .ref 37), (1, .int v1), (3, .int y)]) dX7_append_37 2 rfl (by decide) (by decide) rfl (fun _ => rfl) (fun x1 ex1 => ?_)
    have V := V x1 ex1
    refine rj_goto (tgt := 4) dX7_append_40 (by decide) ?_
    exact rs_sub [0, 1, 2] rfl V
-- X8_follow
set_option maxRecDepth 100000 in
set_option maxHeartbeats 4000000 in
theorem vX8_follow_0 {w : Wd} {h : Nat} (K : Nat) (P : Nat) (a0 : Int32) (a1 : Int32) (a2 : Int32) (hK : isWalk K) (hP : isPane P)  (M : Mem) (Q : Option Value → Mem → Prop) (V : (vp_in 0 65 ∧ ∀ M1 : Mem, M1 = mset M (K + 1) (Int32.toNatClampNeg 0) a1 → (∀ M2 : Mem, M2 = mset M1 K 1 0 → (∀ M3 : Mem, M3 = mset M2 K 2 a2 → (∀ M4 : Mem, M4 = mset M3 K 3 (-1) → (CSi w h kX10_isUnder [.int a0, .int 1] M4 (fun r1 M5 => RM w (h + 1) kX8_follow 36 [(0, .ref K), (1, .ref P), (2, .int a0), (5, .int r1), (6, .int 1), (7, .int 0)] [] M5 Q))))))) : RM w (h + 1) kX8_follow 0 [(0, .ref K), (1, .ref P), (2, .int a0), (3, .int a1), (4, .int a2)] [] M Q := by
  refine rj_aload_n dX8_follow_0 0 rfl rfl ?_
  refine rs_getR (t := K + 1) fl_RX8_9 rfl (by decide) (by decide) rfl dX8_follow_1 hK.1 (by omega) ?_
  refine rj_iconst (v := 0) dX8_follow_4 (by decide) ?_
  refine rj_iload_n dX8_follow_5 3 rfl rfl ?_
  obtain ⟨hb, V⟩ := V
  refine rs_iast dX8_follow_6 hK.2 hb (fun M1 eM1 => ?_)
  have V := V M1 eM1
  refine rj_aload_n dX8_follow_7 0 rfl rfl ?_
  refine rj_iconst (v := 0) dX8_follow_8 (by decide) ?_
  refine rs_putI fl_RX8_15 (ft8_1 _ nofun) rfl (by decide) (by decide) rfl dX8_follow_9 rfl rfl hK.1 (fun M2 eM2 => ?_)
  have V := V M2 eM2
  refine rj_aload_n dX8_follow_12 0 rfl rfl ?_
  refine rj_iload dX8_follow_13 4 rfl ?_
  refine rs_putI fl_RX8_19 (ft8_2 _ nofun) rfl (by decide) (by decide) rfl dX8_follow_15 rfl rfl hK.1 (fun M3 eM3 => ?_)
  have V := V M3 eM3
  refine rj_aload_n dX8_follow_18 0 rfl rfl ?_
  refine rj_iconst (v := (-1)) dX8_follow_19 (by decide) ?_
  refine rs_putI fl_RX8_22 (ft8_3 _ nofun) rfl (by decide) (by decide) rfl dX8_follow_20 rfl rfl hK.1 (fun M4 eM4 => ?_)
  have V := V M4 eM4
  refine rj_iload_n dX8_follow_23 2 rfl rfl ?_
  refine rj_iconst (v := 1) dX8_follow_24 (by decide) ?_
  refine rm_callSNi [.int a0, .int 1] (rest := []) mn_RX8_25 mtX10_isUnder rfl dX8_follow_25 rfl rfl (Nat.le_of_ble_eq_true rfl) (by decide) V (fun r1 M5 V => ?_)
  refine rj_istore (lv' := [(0, .ref K), (1, .ref P), (2, .int a0), (3, .int a1), (4, .int a2), (5, .int r1)]) dX8_follow_28 (by decide) rfl rfl ?_
  refine rj_iconst (v := 1) dX8_follow_30 (by decide) ?_
  refine rj_istore (lv' := [(0, .ref K), (1, .ref P), (2, .int a0), (3, .int a1), (4, .int a2), (5, .int r1), (6, .int 1)]) dX8_follow_31 (by decide) rfl rfl ?_
  refine rj_iconst (v := 0) dX8_follow_33 (by decide) ?_
  refine rj_istore (lv' := [(0, .ref K), (1, .ref P), (2, .int a0), (3, .int a1), (4, .int a2), (5, .int r1), (6, .int 1), (7, .int 0)]) dX8_follow_34 (by decide) rfl rfl ?_
  exact rs_sub [0, 1, 2, 5, 6, 7] rfl V
set_option maxRecDepth 100000 in
set_option maxHeartbeats 4000000 in
theorem vX8_follow_36 {w : Wd} {h : Nat} (K : Nat) (P : Nat) (v2 : Int32) (v5 : Int32) (v6 : Int32) (v7 : Int32) (hK : isWalk K) (hP : isPane P)  (M : Mem) (Q : Option Value → Mem → Prop) (V : ((v6 = 0 → (Q none M)) ∧ (¬ (v6 = 0) → ((64 ≤ v7 → (Q none M)) ∧ (¬ (64 ≤ v7) → (vp_in v7 65 ∧ (CSi w h kX2_goal [.ref P, .int v2, .int (M (K + 1) (Int32.toNatClampNeg v7)), .int (M K 2), .int v7] M (fun r1 M1 => (vp_in v7 65 ∧ ((¬ (r1 = (M1 (K + 1) (Int32.toNatClampNeg v7))) → (∀ M2 : Mem, M2 = mset M1 K 1 (v7 + 1) → (vp_in (M2 K 1) 65 ∧ ∀ M3 : Mem, M3 = mset M2 (K + 1) (Int32.toNatClampNeg (M2 K 1)) r1 → ((¬ (r1 = (-1)) → ((v5 = 0 → (∀ x1 : Int32, x1 = v7 + 1 → RM w (h + 1) kX8_follow 36 [(0, .ref K), (1, .ref P), (2, .int v2), (5, .int v5), (6, .int v6), (7, .int x1)] [] M3 Q)) ∧ (¬ (v5 = 0) → (∀ M4 : Mem, M4 = mset M3 K 2 ((M3 K 2) - 1) → (∀ x1 : Int32, x1 = (b2i (¬ ((M4 K 2) ≤ 0))) → (∀ x2 : Int32, x2 = v7 + 1 → RM w (h + 1) kX8_follow 36 [(0, .ref K), (1, .ref P), (2, .int v2), (5, .int v5), (6, .int x1), (7, .int x2)] [] M4 Q)))))) ∧ (r1 = (-1) → (vp_in v7 65 ∧ (∀ M4 : Mem, M4 = mset M3 K 3 ((M3 (K + 1) (Int32.toNatClampNeg v7)) - (M3 (K + 1) (Int32.toNatClampNeg v7)) / 12 * 12) → (∀ x1 : Int32, x1 = v7 + 1 → RM w (h + 1) kX8_follow 36 [(0, .ref K), (1, .ref P), (2, .int v2), (5, .int v5), (6, .int 0), (7, .int x1)] [] M4 Q)))))))) ∧ (r1 = (M1 (K + 1) (Int32.toNatClampNeg v7)) → (∀ x1 : Int32, x1 = v7 + 1 → RM w (h + 1) kX8_follow 36 [(0, .ref K), (1, .ref P), (2, .int v2), (5, .int v5), (6, .int 0), (7, .int x1)] [] M1 Q)))))))))))) : RM w (h + 1) kX8_follow 36 [(0, .ref K), (1, .ref P), (2, .int v2), (5, .int v5), (6, .int v6), (7, .int v7)] [] M Q := by
  refine rj_iload dX8_follow_36 4 rfl ?_
  obtain ⟨V1, V2⟩ := V
  refine rj_if_eq (tgt := 166) dX8_follow_38 (by decide) (fun hc => ?_) (fun hc => ?_)
  · have V := V1 hc
    exact rm_vret dX8_follow_166 rfl V
  · have V := V2 hc
    refine rj_iload dX8_follow_41 5 rfl ?_
    refine rj_bipush (v := 64) dX8_follow_43 (by decide) ?_
    obtain ⟨V1, V2⟩ := V
    refine rj_icmp_ge (tgt := 166) dX8_follow_45 (by decide) (fun hc => ?_) (fun hc => ?_)
    · have V := V1 hc
      exact rm_vret dX8_follow_166 rfl V
    · have V := V2 hc
      refine rj_aload_n dX8_follow_48 1 rfl rfl ?_
      refine rj_iload_n dX8_follow_49 2 rfl rfl ?_
      refine rj_aload_n dX8_follow_50 0 rfl rfl ?_
      refine rs_getR (t := K + 1) fl_RX8_9 rfl (by decide) (by decide) rfl dX8_follow_51 hK.1 (by omega) ?_
      refine rj_iload dX8_follow_54 5 rfl ?_
      obtain ⟨hb, V⟩ := V
      refine rs_iald dX8_follow_56 hK.2 hb ?_
      refine rj_aload_n dX8_follow_57 0 rfl rfl ?_
      refine rs_getI fl_RX8_19 rfl (by decide) (by decide) rfl dX8_follow_58 hK.1 ?_
      refine rj_iload dX8_follow_61 5 rfl ?_
      refine rm_callVi [.int v2, .int (M (K + 1) (Int32.toNatClampNeg v7)), .int (M K 2), .int v7] (rest := []) ml_RX8_29 mvX2_goal rfl dX8_follow_63 hP.1 rfl rfl rfl rfl (Nat.le_of_ble_eq_true rfl) (by decide) V (fun r1 M1 V => ?_)
      refine rj_istore (lv' := [(0, .ref K), (1, .ref P), (2, .int v2), (5, .int v5), (6, .int v6), (7, .int v7), (8, .int r1)]) dX8_follow_66 (by decide) rfl rfl ?_
      refine rj_iload dX8_follow_68 6 rfl ?_
      refine rj_aload_n dX8_follow_70 0 rfl rfl ?_
      refine rs_getR (t := K + 1) fl_RX8_9 rfl (by decide) (by decide) rfl dX8_follow_71 hK.1 (by omega) ?_
      refine rj_iload dX8_follow_74 5 rfl ?_
      obtain ⟨hb, V⟩ := V
      refine rs_iald dX8_follow_76 hK.2 hb ?_
      obtain ⟨V1, V2⟩ := V
      refine rj_icmp_ne (tgt := 86) dX8_follow_77 (by decide) (fun hc => ?_) (fun hc => ?_)
      · have V := V1 hc
        refine rj_aload_n dX8_follow_86 0 rfl rfl ?_
        refine rj_iload dX8_follow_87 5 rfl ?_
        refine rj_iconst (v := 1) dX8_follow_89 (by decide) ?_
        refine rj_iadd dX8_follow_90 ?_
        refine rs_putI fl_RX8_15 (ft8_1 _ nofun) rfl (by decide) (by decide) rfl dX8_follow_91 rfl rfl hK.1 (fun M2 eM2 => ?_)
        have V := V M2 eM2
        refine rj_aload_n dX8_follow_94 0 rfl rfl ?_
        refine rs_getR (t := K + 1) fl_RX8_9 rfl (by decide) (by decide) rfl dX8_follow_95 hK.1 (by omega) ?_
        refine rj_aload_n dX8_follow_98 0 rfl rfl ?_
        refine rs_getI fl_RX8_15 rfl (by decide) (by decide) rfl dX8_follow_99 hK.1 ?_
        refine rj_iload dX8_follow_102 6 rfl ?_
        obtain ⟨hb, V⟩ := V
        refine rs_iast dX8_follow_104 hK.2 hb (fun M3 eM3 => ?_)
        have V := V M3 eM3
        refine rj_iload dX8_follow_105 6 rfl ?_
        refine rj_iconst (v := (-1)) dX8_follow_107 (by decide) ?_
        obtain ⟨V1, V2⟩ := V
        refine rj_icmp_ne (tgt := 131) dX8_follow_108 (by decide) (fun hc => ?_) (fun hc => ?_)
        · have V := V1 hc
          refine rj_iload dX8_follow_131 3 rfl ?_
          obtain ⟨V1, V2⟩ := V
          refine rj_if_eq (tgt := 160) dX8_follow_133 (by decide) (fun hc => ?_) (fun hc => ?_)
          · have V := V1 hc
            refine rj_iincV (c := 1) (fun y => [(0, .ref K), (1, .ref P), (2, .int v2), (5, .int v5), (6, .int v6), (7, .int y), (8, .int r1)]) dX8_follow_160 5 rfl (by decide) (by decide) rfl (fun _ => rfl) (fun x1 ex1 => ?_)
            have V := V x1 ex1
            refine rj_goto (tgt := 36) dX8_follow_163 (by decide) ?_
            exact rs_sub [0, 1, 2, 3, 4, 5] rfl V
          · have V := V2 hc
            refine rj_aload_n dX8_follow_136 0 rfl rfl ?_
            refine rj_dup dX8_follow_137 rfl ?_
            refine rs_getI fl_RX8_19 rfl (by decide) (by decide) rfl dX8_follow_138 hK.1 ?_
            refine rj_iconst (v := 1) dX8_follow_141 (by decide) ?_
            refine rj_isub dX8_follow_142 ?_
            refine rs_putI fl_RX8_19 (ft8_2 _ nofun) rfl (by decide) (by decide) rfl dX8_follow_143 rfl rfl hK.1 (fun M4 eM4 => ?_)
            have V := V M4 eM4
            refine rj_aload_n dX8_follow_146 0 rfl rfl ?_
            refine rs_getI fl_RX8_19 rfl (by decide) (by decide) rfl dX8_follow_147 hK.1 ?_
            have KD : RM w (h + 1) kX8_follow 158 [(0, .ref K), (1, .ref P), (2, .int v2), (5, .int v5), (6, .int v6), (7, .int v7), (8, .int r1)] [.int (b2i (¬ ((M4 K 2) ≤ 0)))] M4 Q := by
              refine rj_top (fun x1 ex1 => ?_)
              have V := V x1 ex1
              refine rj_istore (lv' := [(0, .ref K), (1, .ref P), (2, .int v2), (5, .int v5), (6, .int x1), (7, .int v7), (8, .int r1)]) dX8_follow_158 (by decide) rfl rfl ?_
              refine rj_iincV (c := 1) (fun y => [(0, .ref K), (1, .ref P), (2, .int v2), (5, .int v5), (6, .int x1), (7, .int y), (8, .int r1)]) dX8_follow_160 5 rfl (by decide) (by decide) rfl (fun _ => rfl) (fun x2 ex2 => ?_)
              have V := V x2 ex2
              refine rj_goto (tgt := 36) dX8_follow_163 (by decide) ?_
              exact rs_sub [0, 1, 2, 3, 4, 5] rfl V
            refine rj_if_le (tgt := 157) dX8_follow_150 (by decide) (fun hc => ?_) (fun hc => ?_)
            · refine rj_iconst (v := 0) dX8_follow_157 (by decide) ?_
              exact rs_b0 (fun q => q hc) KD
            · refine rj_iconst (v := 1) dX8_follow_153 (by decide) ?_
              refine rj_goto (tgt := 158) dX8_follow_154 (by decide) ?_
              exact rs_b1 hc KD
        · have V := V2 hc
          refine rj_aload_n dX8_follow_111 0 rfl rfl ?_
          refine rj_aload_n dX8_follow_112 0 rfl rfl ?_
          refine rs_getR (t := K + 1) fl_RX8_9 rfl (by decide) (by decide) rfl dX8_follow_113 hK.1 (by omega) ?_
          refine rj_iload dX8_follow_116 5 rfl ?_
          obtain ⟨hb, V⟩ := V
          refine rs_iald dX8_follow_118 hK.2 hb ?_
          refine rm_callSNi [.int (M3 (K + 1) (Int32.toNatClampNeg v7))] (rest := [.ref K]) (K := fun x M' => ((M3 (K + 1) (Int32.toNatClampNeg v7)) - (M3 (K + 1) (Int32.toNatClampNeg v7)) / 12 * 12) = x ∧ M3 = M') mn_RX8_35 mtX10_columnOf rfl dX8_follow_119 rfl rfl (Nat.le_of_ble_eq_true rfl) (by decide) (uX10_columnOf ⟨rfl, rfl⟩) (fun x M' hx => ?_)
          obtain ⟨rfl, rfl⟩ := hx
          refine rs_putI fl_RX8_22 (ft8_3 _ nofun) rfl (by decide) (by decide) rfl dX8_follow_122 rfl rfl hK.1 (fun M4 eM4 => ?_)
          have V := V M4 eM4
          refine rj_iconst (v := 0) dX8_follow_125 (by decide) ?_
          refine rj_istore (lv' := [(0, .ref K), (1, .ref P), (2, .int v2), (5, .int v5), (6, .int 0), (7, .int v7), (8, .int r1)]) dX8_follow_126 (by decide) rfl rfl ?_
          refine rj_goto (tgt := 160) dX8_follow_128 (by decide) ?_
          refine rj_iincV (c := 1) (fun y => [(0, .ref K), (1, .ref P), (2, .int v2), (5, .int v5), (6, .int 0), (7, .int y), (8, .int r1)]) dX8_follow_160 5 rfl (by decide) (by decide) rfl (fun _ => rfl) (fun x1 ex1 => ?_)
          have V := V x1 ex1
          refine rj_goto (tgt := 36) dX8_follow_163 (by decide) ?_
          exact rs_sub [0, 1, 2, 3, 4, 5] rfl V
      · have V := V2 hc
        refine rj_iconst (v := 0) dX8_follow_80 (by decide) ?_
        refine rj_istore (lv' := [(0, .ref K), (1, .ref P), (2, .int v2), (5, .int v5), (6, .int 0), (7, .int v7), (8, .int r1)]) dX8_follow_81 (by decide) rfl rfl ?_
        refine rj_goto (tgt := 160) dX8_follow_83 (by decide) ?_
        refine rj_iincV (c := 1) (fun y => [(0, .ref K), (1, .ref P), (2, .int v2), (5, .int v5), (6, .int 0), (7, .int y), (8, .int r1)]) dX8_follow_160 5 rfl (by decide) (by decide) rfl (fun _ => rfl) (fun x1 ex1 => ?_)
        have V := V x1 ex1
        refine rj_goto (tgt := 36) dX8_follow_163 (by decide) ?_
        exact rs_sub [0, 1, 2, 3, 4, 5] rfl V
-- X8_isOut
set_option maxRecDepth 100000 in
set_option maxHeartbeats 4000000 in
theorem vX8_isOut_0 {w : Wd} {h : Nat} (K : Nat) (hK : isWalk K)  (M : Mem) (Q : Option Value → Mem → Prop) (V : (Q (some (.int (b2i (¬ ((M K 3) = (-1)))))) M)) : RM w h kX8_isOut 0 [(0, .ref K)] [] M Q := by
  refine rj_aload_n dX8_isOut_0 0 rfl rfl ?_
  refine rs_getI fl_RX8_22 rfl (by decide) (by decide) rfl dX8_isOut_1 hK.1 ?_
  refine rj_iconst (v := (-1)) dX8_isOut_4 (by decide) ?_
  have KD : RM w h kX8_isOut 13 [(0, .ref K)] [.int (b2i (¬ ((M K 3) = (-1))))] M Q := by
    exact rm_iret dX8_isOut_13 rfl (isB_n isB_b2i) V
  refine rj_icmp_eq (tgt := 12) dX8_isOut_5 (by decide) (fun hc => ?_) (fun hc => ?_)
  · refine rj_iconst (v := 0) dX8_isOut_12 (by decide) ?_
    exact rs_b0 (fun q => q hc) KD
  · refine rj_iconst (v := 1) dX8_isOut_8 (by decide) ?_
    refine rj_goto (tgt := 13) dX8_isOut_9 (by decide) ?_
    exact rs_b1 hc KD
-- X8_lastCell
set_option maxRecDepth 100000 in
set_option maxHeartbeats 4000000 in
theorem vX8_lastCell_0 {w : Wd} {h : Nat} (K : Nat) (hK : isWalk K)  (M : Mem) (Q : Option Value → Mem → Prop) (V : (CSi w h kX8_isOut [.ref K] M (fun r1 M1 => ((r1 = 0 → (vp_in (M1 K 1) 65 ∧ (Q (some (.int (M1 (K + 1) (Int32.toNatClampNeg (M1 K 1))))) M1))) ∧ (¬ (r1 = 0) → (((M1 K 1) ≤ 0 → (vp_in (M1 K 1) 65 ∧ (Q (some (.int (M1 (K + 1) (Int32.toNatClampNeg (M1 K 1))))) M1))) ∧ (¬ ((M1 K 1) ≤ 0) → (vp_in ((M1 K 1) - 1) 65 ∧ (Q (some (.int (M1 (K + 1) (Int32.toNatClampNeg ((M1 K 1) - 1))))) M1))))))))) : RM w (h + 1) kX8_lastCell 0 [(0, .ref K)] [] M Q := by
  refine rj_aload_n dX8_lastCell_0 0 rfl rfl ?_
  refine rm_callVi [] (rest := []) ml_RX8_39 mvX8_isOut rfl dX8_lastCell_1 hK.1 rfl rfl rfl rfl (Nat.le_of_ble_eq_true rfl) (by decide) V (fun r1 M1 V => ?_)
  obtain ⟨V1, V2⟩ := V
  refine rj_if_eq (tgt := 28) dX8_lastCell_4 (by decide) (fun hc => ?_) (fun hc => ?_)
  · have V := V1 hc
    refine rj_aload_n dX8_lastCell_28 0 rfl rfl ?_
    refine rs_getR (t := K + 1) fl_RX8_9 rfl (by decide) (by decide) rfl dX8_lastCell_29 hK.1 (by omega) ?_
    refine rj_aload_n dX8_lastCell_32 0 rfl rfl ?_
    refine rs_getI fl_RX8_15 rfl (by decide) (by decide) rfl dX8_lastCell_33 hK.1 ?_
    obtain ⟨hb, V⟩ := V
    refine rs_iald dX8_lastCell_36 hK.2 hb ?_
    exact rm_iret dX8_lastCell_37 rfl rfl V
  · have V := V2 hc
    refine rj_aload_n dX8_lastCell_7 0 rfl rfl ?_
    refine rs_getI fl_RX8_15 rfl (by decide) (by decide) rfl dX8_lastCell_8 hK.1 ?_
    obtain ⟨V1, V2⟩ := V
    refine rj_if_le (tgt := 28) dX8_lastCell_11 (by decide) (fun hc => ?_) (fun hc => ?_)
    · have V := V1 hc
      refine rj_aload_n dX8_lastCell_28 0 rfl rfl ?_
      refine rs_getR (t := K + 1) fl_RX8_9 rfl (by decide) (by decide) rfl dX8_lastCell_29 hK.1 (by omega) ?_
      refine rj_aload_n dX8_lastCell_32 0 rfl rfl ?_
      refine rs_getI fl_RX8_15 rfl (by decide) (by decide) rfl dX8_lastCell_33 hK.1 ?_
      obtain ⟨hb, V⟩ := V
      refine rs_iald dX8_lastCell_36 hK.2 hb ?_
      exact rm_iret dX8_lastCell_37 rfl rfl V
    · have V := V2 hc
      refine rj_aload_n dX8_lastCell_14 0 rfl rfl ?_
      refine rs_getR (t := K + 1) fl_RX8_9 rfl (by decide) (by decide) rfl dX8_lastCell_15 hK.1 (by omega) ?_
      refine rj_aload_n dX8_lastCell_18 0 rfl rfl ?_
      refine rs_getI fl_RX8_15 rfl (by decide) (by decide) rfl dX8_lastCell_19 hK.1 ?_
      refine rj_iconst (v := 1) dX8_lastCell_22 (by decide) ?_
      refine rj_isub dX8_lastCell_23 ?_
      obtain ⟨hb, V⟩ := V
      refine rs_iald dX8_lastCell_24 hK.2 hb ?_
      refine rj_goto (tgt := 37) dX8_lastCell_25 (by decide) ?_
      exact rm_iret dX8_lastCell_37 rfl rfl V
-- X8_cellBehind
set_option maxRecDepth 100000 in
set_option maxHeartbeats 4000000 in
theorem vX8_cellBehind_0 {w : Wd} {h : Nat} (K : Nat) (a0 : Int32) (hK : isWalk K)  (M : Mem) (Q : Option Value → Mem → Prop) (V : (((M K 1) < a0 → (Q (some (.int (-2))) M)) ∧ (¬ ((M K 1) < a0) → (vp_in a0 65 ∧ (((M (K + 1) (Int32.toNatClampNeg a0)) = (-1) → (Q (some (.int (-2))) M)) ∧ (¬ ((M (K + 1) (Int32.toNatClampNeg a0)) = (-1)) → (vp_in a0 65 ∧ (Q (some (.int (M (K + 1) (Int32.toNatClampNeg a0)))) M)))))))) : RM w h kX8_cellBehind 0 [(0, .ref K), (1, .int a0)] [] M Q := by
  refine rj_iload_n dX8_cellBehind_0 1 rfl rfl ?_
  refine rj_aload_n dX8_cellBehind_1 0 rfl rfl ?_
  refine rs_getI fl_RX8_15 rfl (by decide) (by decide) rfl dX8_cellBehind_2 hK.1 ?_
  obtain ⟨V1, V2⟩ := V
  refine rj_icmp_gt (tgt := 27) dX8_cellBehind_5 (by decide) (fun hc => ?_) (fun hc => ?_)
  · have V := V1 hc
    refine rj_bipush (v := (-2)) dX8_cellBehind_27 (by decide) ?_
    exact rm_iret dX8_cellBehind_29 rfl rfl V
  · have V := V2 hc
    refine rj_aload_n dX8_cellBehind_8 0 rfl rfl ?_
    refine rs_getR (t := K + 1) fl_RX8_9 rfl (by decide) (by decide) rfl dX8_cellBehind_9 hK.1 (by omega) ?_
    refine rj_iload_n dX8_cellBehind_12 1 rfl rfl ?_
    obtain ⟨hb, V⟩ := V
    refine rs_iald dX8_cellBehind_13 hK.2 hb ?_
    refine rj_iconst (v := (-1)) dX8_cellBehind_14 (by decide) ?_
    obtain ⟨V1, V2⟩ := V
    refine rj_icmp_eq (tgt := 27) dX8_cellBehind_15 (by decide) (fun hc => ?_) (fun hc => ?_)
    · have V := V1 hc
      refine rj_bipush (v := (-2)) dX8_cellBehind_27 (by decide) ?_
      exact rm_iret dX8_cellBehind_29 rfl rfl V
    · have V := V2 hc
      refine rj_aload_n dX8_cellBehind_18 0 rfl rfl ?_
      refine rs_getR (t := K + 1) fl_RX8_9 rfl (by decide) (by decide) rfl dX8_cellBehind_19 hK.1 (by omega) ?_
      refine rj_iload_n dX8_cellBehind_22 1 rfl rfl ?_
      obtain ⟨hb, V⟩ := V
      refine rs_iald dX8_cellBehind_23 hK.2 hb ?_
      refine rj_goto (tgt := 29) dX8_cellBehind_24 (by decide) ?_
      exact rm_iret dX8_cellBehind_29 rfl rfl V
-- X9_reckon
set_option maxRecDepth 100000 in
set_option maxHeartbeats 4000000 in
theorem vX9_reckon_0 {w : Wd} {h : Nat} (a0 : Int32)  (M : Mem) (Q : Option Value → Mem → Prop) (V : RM w (h + 1) kX9_reckon 4 [(0, .ref 57), (1, .ref 4), (2, .int a0), (3, .int 191)] [] M Q) : RM w (h + 1) kX9_reckon 0 [(0, .ref 57), (1, .ref 4), (2, .int a0)] [] M Q := by
  refine rj_sipush (v := 191) dX9_reckon_0 (by decide) ?_
  refine rj_istore_n (lv' := [(0, .ref 57), (1, .ref 4), (2, .int a0), (3, .int 191)]) dX9_reckon_3 rfl (by decide) rfl rfl ?_
  exact rs_sub [0, 1, 2, 3] rfl V
set_option maxRecDepth 100000 in
set_option maxHeartbeats 4000000 in
theorem vX9_reckon_4 {w : Wd} {h : Nat} (v2 : Int32) (v3 : Int32)  (M : Mem) (Q : Option Value → Mem → Prop) (V : ((v3 < 0 → (Q none M)) ∧ (¬ (v3 < 0) → ((¬ ((180 ≤ v3)) → (CSi w h kX9_leastBelow [.ref 57, .ref 4, .int v3, .int v2] M (fun r1 M1 => (vp_in v3 192 ∧ ∀ M2 : Mem, M2 = mset M1 58 (Int32.toNatClampNeg v3) r1 → (∀ x1 : Int32, x1 = v3 + (-1) → RM w (h + 1) kX9_reckon 4 [(0, .ref 57), (1, .ref 4), (2, .int v2), (3, .int x1)] [] M2 Q))))) ∧ ((180 ≤ v3) → (vp_in v3 192 ∧ ∀ M1 : Mem, M1 = mset M 58 (Int32.toNatClampNeg v3) 0 → (∀ x1 : Int32, x1 = v3 + (-1) → RM w (h + 1) kX9_reckon 4 [(0, .ref 57), (1, .ref 4), (2, .int v2), (3, .int x1)] [] M1 Q))))))) : RM w (h + 1) kX9_reckon 4 [(0, .ref 57), (1, .ref 4), (2, .int v2), (3, .int v3)] [] M Q := by
  refine rj_iload_n dX9_reckon_4 3 rfl rfl ?_
  obtain ⟨V1, V2⟩ := V
  refine rj_if_lt (tgt := 38) dX9_reckon_5 (by decide) (fun hc => ?_) (fun hc => ?_)
  · have V := V1 hc
    exact rm_vret dX9_reckon_38 rfl V
  · have V := V2 hc
    refine rj_aload_n dX9_reckon_8 0 rfl rfl ?_
    refine rs_getR (t := 58) fl_RX9_9 rfl (by decide) (by decide) rfl dX9_reckon_9 rfl (by omega) ?_
    refine rj_iload_n dX9_reckon_12 3 rfl rfl ?_
    refine rj_iload_n dX9_reckon_13 3 rfl rfl ?_
    refine rm_callSNi [.int v3] (rest := [.int v3, .ref 58]) (K := fun x M' => b2i (180 ≤ v3) = x ∧ M = M') mn_RX9_15 mtX10_isOnLastRow rfl dX9_reckon_14 rfl rfl (Nat.le_of_ble_eq_true rfl) (by decide) (uX10_isOnLastRow ⟨rfl, rfl⟩) (fun x M' hx => ?_)
    obtain ⟨rfl, rfl⟩ := hx
    obtain ⟨V1, V2⟩ := V
    refine rs_if_eqB (tgt := 24) dX9_reckon_17 (by decide) (fun hc => ?_) (fun hc => ?_)
    · have V := V1 hc
      refine rj_aload_n dX9_reckon_24 0 rfl rfl ?_
      refine rj_aload_n dX9_reckon_25 1 rfl rfl ?_
      refine rj_iload_n dX9_reckon_26 3 rfl rfl ?_
      refine rj_iload_n dX9_reckon_27 2 rfl rfl ?_
      refine rm_callVi [.ref 4, .int v3, .int v2] (rest := [.int v3, .ref 58]) ml_RX9_19 mvX9_leastBelow rfl dX9_reckon_28 rfl rfl rfl rfl rfl (Nat.le_of_ble_eq_true rfl) (by decide) V (fun r1 M1 V => ?_)
      obtain ⟨hb, V⟩ := V
      refine rs_iast dX9_reckon_31 rfl hb (fun M2 eM2 => ?_)
      have V := V M2 eM2
      refine rj_iincV (c := (-1)) (fun y => [(0, .ref 57), (1, .ref 4), (2, .int v2), (3, .int y)]) dX9_reckon_32 3 rfl (by decide) (by decide) rfl (fun _ => rfl) (fun x1 ex1 => ?_)
      have V := V x1 ex1
      refine rj_goto (tgt := 4) dX9_reckon_35 (by decide) ?_
      exact rs_sub [0, 1, 2, 3] rfl V
    · have V := V2 hc
      refine rj_iconst (v := 0) dX9_reckon_20 (by decide) ?_
      refine rj_goto (tgt := 31) dX9_reckon_21 (by decide) ?_
      obtain ⟨hb, V⟩ := V
      refine rs_iast dX9_reckon_31 rfl hb (fun M1 eM1 => ?_)
      have V := V M1 eM1
      refine rj_iincV (c := (-1)) (fun y => [(0, .ref 57), (1, .ref 4), (2, .int v2), (3, .int y)]) dX9_reckon_32 3 rfl (by decide) (by decide) rfl (fun _ => rfl) (fun x1 ex1 => ?_)
      have V := V x1 ex1
      refine rj_goto (tgt := 4) dX9_reckon_35 (by decide) ?_
      exact rs_sub [0, 1, 2, 3] rfl V
-- X9_leastBelow
set_option maxRecDepth 100000 in
set_option maxHeartbeats 4000000 in
theorem vX9_leastBelow_0 {w : Wd} {h : Nat} (a0 : Int32) (a1 : Int32)  (M : Mem) (Q : Option Value → Mem → Prop) (V : (CSi w h kX10_belowOf [.int a0, .int 0] M (fun r1 M1 => (CSi w h kX9_costOver [.ref 57, .ref 4, .int r1, .int a1] M1 (fun r2 M2 => RM w (h + 1) kX9_leastBelow 16 [(0, .ref 57), (1, .ref 4), (2, .int a0), (3, .int a1), (4, .int r2), (5, .int 1)] [] M2 Q))))) : RM w (h + 1) kX9_leastBelow 0 [(0, .ref 57), (1, .ref 4), (2, .int a0), (3, .int a1)] [] M Q := by
  refine rj_aload_n dX9_leastBelow_0 0 rfl rfl ?_
  refine rj_aload_n dX9_leastBelow_1 1 rfl rfl ?_
  refine rj_iload_n dX9_leastBelow_2 2 rfl rfl ?_
  refine rj_iconst (v := 0) dX9_leastBelow_3 (by decide) ?_
  refine rm_callSNi [.int a0, .int 0] (rest := [.ref 4, .ref 57]) mn_RX9_23 mtX10_belowOf rfl dX9_leastBelow_4 rfl rfl (Nat.le_of_ble_eq_true rfl) (by decide) V (fun r1 M1 V => ?_)
  refine rj_iload_n dX9_leastBelow_7 3 rfl rfl ?_
  refine rm_callVi [.ref 4, .int r1, .int a1] (rest := []) ml_RX9_27 mvX9_costOver rfl dX9_leastBelow_8 rfl rfl rfl rfl rfl (Nat.le_of_ble_eq_true rfl) (by decide) V (fun r2 M2 V => ?_)
  refine rj_istore (lv' := [(0, .ref 57), (1, .ref 4), (2, .int a0), (3, .int a1), (4, .int r2)]) dX9_leastBelow_11 (by decide) rfl rfl ?_
  refine rj_iconst (v := 1) dX9_leastBelow_13 (by decide) ?_
  refine rj_istore (lv' := [(0, .ref 57), (1, .ref 4), (2, .int a0), (3, .int a1), (4, .int r2), (5, .int 1)]) dX9_leastBelow_14 (by decide) rfl rfl ?_
  exact rs_sub [0, 1, 2, 3, 4, 5] rfl V
set_option maxRecDepth 100000 in
set_option maxHeartbeats 4000000 in
theorem vX9_leastBelow_16 {w : Wd} {h : Nat} (v2 : Int32) (v3 : Int32) (v4 : Int32) (v5 : Int32)  (M : Mem) (Q : Option Value → Mem → Prop) (V : ((3 ≤ v5 → (Q (some (.int v4)) M)) ∧ (¬ (3 ≤ v5) → (CSi w h kX10_belowOf [.int v2, .int v5] M (fun r1 M1 => ((r1 = (-2) → (∀ x1 : Int32, x1 = v5 + 1 → RM w (h + 1) kX9_leastBelow 16 [(0, .ref 57), (1, .ref 4), (2, .int v2), (3, .int v3), (4, .int v4), (5, .int x1)] [] M1 Q)) ∧ (¬ (r1 = (-2)) → (CSi w h kX9_costOver [.ref 57, .ref 4, .int r1, .int v3] M1 (fun r2 M2 => (∀ x1 : Int32, x1 = (if r2 < v4 then r2 else v4) → (∀ x2 : Int32, x2 = v5 + 1 → RM w (h + 1) kX9_leastBelow 16 [(0, .ref 57), (1, .ref 4), (2, .int v2), (3, .int v3), (4, .int x1), (5, .int x2)] [] M2 Q))))))))))) : RM w (h + 1) kX9_leastBelow 16 [(0, .ref 57), (1, .ref 4), (2, .int v2), (3, .int v3), (4, .int v4), (5, .int v5)] [] M Q := by
  refine rj_iload dX9_leastBelow_16 5 rfl ?_
  refine rj_iconst (v := 3) dX9_leastBelow_18 (by decide) ?_
  obtain ⟨V1, V2⟩ := V
  refine rj_icmp_ge (tgt := 58) dX9_leastBelow_19 (by decide) (fun hc => ?_) (fun hc => ?_)
  · have V := V1 hc
    refine rj_iload dX9_leastBelow_58 4 rfl ?_
    exact rm_iret dX9_leastBelow_60 rfl rfl V
  · have V := V2 hc
    refine rj_iload_n dX9_leastBelow_22 2 rfl rfl ?_
    refine rj_iload dX9_leastBelow_23 5 rfl ?_
    refine rm_callSNi [.int v2, .int v5] (rest := []) mn_RX9_23 mtX10_belowOf rfl dX9_leastBelow_25 rfl rfl (Nat.le_of_ble_eq_true rfl) (by decide) V (fun r1 M1 V => ?_)
    refine rj_istore (lv' := [(0, .ref 57), (1, .ref 4), (2, .int v2), (3, .int v3), (4, .int v4), (5, .int v5), (6, .int r1)]) dX9_leastBelow_28 (by decide) rfl rfl ?_
    refine rj_iload dX9_leastBelow_30 6 rfl ?_
    refine rj_bipush (v := (-2)) dX9_leastBelow_32 (by decide) ?_
    obtain ⟨V1, V2⟩ := V
    refine rj_icmp_eq (tgt := 52) dX9_leastBelow_34 (by decide) (fun hc => ?_) (fun hc => ?_)
    · have V := V1 hc
      refine rj_iincV (c := 1) (fun y => [(0, .ref 57), (1, .ref 4), (2, .int v2), (3, .int v3), (4, .int v4), (5, .int y), (6, .int r1)]) dX9_leastBelow_52 5 rfl (by decide) (by decide) rfl (fun _ => rfl) (fun x1 ex1 => ?_)
      have V := V x1 ex1
      refine rj_goto (tgt := 16) dX9_leastBelow_55 (by decide) ?_
      exact rs_sub [0, 1, 2, 3, 4, 5] rfl V
    · have V := V2 hc
      refine rj_iload dX9_leastBelow_37 4 rfl ?_
      refine rj_aload_n dX9_leastBelow_39 0 rfl rfl ?_
      refine rj_aload_n dX9_leastBelow_40 1 rfl rfl ?_
      refine rj_iload dX9_leastBelow_41 6 rfl ?_
      refine rj_iload_n dX9_leastBelow_43 3 rfl rfl ?_
      refine rm_callVi [.ref 4, .int r1, .int v3] (rest := [.int v4]) ml_RX9_27 mvX9_costOver rfl dX9_leastBelow_44 rfl rfl rfl rfl rfl (Nat.le_of_ble_eq_true rfl) (by decide) V (fun r2 M2 V => ?_)
      refine rm_mmin (rest := []) ml_RX9_30 rfl dX9_leastBelow_47 (Nat.le_of_ble_eq_true rfl) ?_
      refine rj_top (fun x1 ex1 => ?_)
      have V := V x1 ex1
      refine rj_istore (lv' := [(0, .ref 57), (1, .ref 4), (2, .int v2), (3, .int v3), (4, .int x1), (5, .int v5), (6, .int r1)]) dX9_leastBelow_50 (by decide) rfl rfl ?_
      refine rj_iincV (c := 1) (fun y => [(0, .ref 57), (1, .ref 4), (2, .int v2), (3, .int v3), (4, .int x1), (5, .int y), (6, .int r1)]) dX9_leastBelow_52 5 rfl (by decide) (by decide) rfl (fun _ => rfl) (fun x2 ex2 => ?_)
      have V := V x2 ex2
      refine rj_goto (tgt := 16) dX9_leastBelow_55 (by decide) ?_
      exact rs_sub [0, 1, 2, 3, 4, 5] rfl V
-- X9_costOver
set_option maxRecDepth 100000 in
set_option maxHeartbeats 4000000 in
theorem vX9_costOver_0 {w : Wd} {h : Nat} (a0 : Int32) (a1 : Int32)  (M : Mem) (Q : Option Value → Mem → Prop) (V : (CSi w h kX2_holdOf [.ref 4, .int a0] M (fun r1 M1 => ((a1 = 0 → (vp_in a0 192 ∧ (Q (some (.int (if r1 < (M1 58 (Int32.toNatClampNeg a0)) then (M1 58 (Int32.toNatClampNeg a0)) else r1))) M1))) ∧ (¬ (a1 = 0) → (vp_in a0 192 ∧ (Q (some (.int (r1 + (M1 58 (Int32.toNatClampNeg a0))))) M1))))))) : RM w (h + 1) kX9_costOver 0 [(0, .ref 57), (1, .ref 4), (2, .int a0), (3, .int a1)] [] M Q := by
  refine rj_aload_n dX9_costOver_0 1 rfl rfl ?_
  refine rj_iload_n dX9_costOver_1 2 rfl rfl ?_
  refine rm_callVi [.int a0] (rest := []) ml_RX9_35 mvX2_holdOf rfl dX9_costOver_2 rfl rfl rfl rfl rfl (Nat.le_of_ble_eq_true rfl) (by decide) V (fun r1 M1 V => ?_)
  refine rj_istore (lv' := [(0, .ref 57), (1, .ref 4), (2, .int a0), (3, .int a1), (4, .int r1)]) dX9_costOver_5 (by decide) rfl rfl ?_
  refine rj_iload_n dX9_costOver_7 3 rfl rfl ?_
  obtain ⟨V1, V2⟩ := V
  refine rj_if_eq (tgt := 23) dX9_costOver_8 (by decide) (fun hc => ?_) (fun hc => ?_)
  · have V := V1 hc
    refine rj_iload dX9_costOver_23 4 rfl ?_
    refine rj_aload_n dX9_costOver_25 0 rfl rfl ?_
    refine rs_getR (t := 58) fl_RX9_9 rfl (by decide) (by decide) rfl dX9_costOver_26 rfl (by omega) ?_
    refine rj_iload_n dX9_costOver_29 2 rfl rfl ?_
    obtain ⟨hb, V⟩ := V
    refine rs_iald dX9_costOver_30 rfl hb ?_
    refine rm_mmax (rest := []) ml_RX9_41 rfl dX9_costOver_31 (Nat.le_of_ble_eq_true rfl) ?_
    exact rm_iret dX9_costOver_34 rfl rfl V
  · have V := V2 hc
    refine rj_iload dX9_costOver_11 4 rfl ?_
    refine rj_aload_n dX9_costOver_13 0 rfl rfl ?_
    refine rs_getR (t := 58) fl_RX9_9 rfl (by decide) (by decide) rfl dX9_costOver_14 rfl (by omega) ?_
    refine rj_iload_n dX9_costOver_17 2 rfl rfl ?_
    obtain ⟨hb, V⟩ := V
    refine rs_iald dX9_costOver_18 rfl hb ?_
    refine rj_iadd dX9_costOver_19 ?_
    refine rj_goto (tgt := 34) dX9_costOver_20 (by decide) ?_
    exact rm_iret dX9_costOver_34 rfl rfl V
-- X9_leastStart
set_option maxRecDepth 100000 in
set_option maxHeartbeats 4000000 in
theorem vX9_leastStart_0 {w : Wd} {h : Nat}   (M : Mem) (Q : Option Value → Mem → Prop) (V : RM w h kX9_leastStart 4 [(0, .ref 57), (1, .int 0), (2, .int 1)] [] M Q) : RM w h kX9_leastStart 0 [(0, .ref 57)] [] M Q := by
  refine rj_iconst (v := 0) dX9_leastStart_0 (by decide) ?_
  refine rj_istore_n (lv' := [(0, .ref 57), (1, .int 0)]) dX9_leastStart_1 rfl (by decide) rfl rfl ?_
  refine rj_iconst (v := 1) dX9_leastStart_2 (by decide) ?_
  refine rj_istore_n (lv' := [(0, .ref 57), (1, .int 0), (2, .int 1)]) dX9_leastStart_3 rfl (by decide) rfl rfl ?_
  exact rs_sub [0, 1, 2] rfl V
set_option maxRecDepth 100000 in
set_option maxHeartbeats 4000000 in
theorem vX9_leastStart_4 {w : Wd} {h : Nat} (v1 : Int32) (v2 : Int32)  (M : Mem) (Q : Option Value → Mem → Prop) (V : ((12 ≤ v2 → (Q (some (.int v1)) M)) ∧ (¬ (12 ≤ v2) → (vp_in v2 192 ∧ (vp_in v1 192 ∧ (((M 58 (Int32.toNatClampNeg v1)) ≤ (M 58 (Int32.toNatClampNeg v2)) → (∀ x1 : Int32, x1 = v2 + 1 → RM w h kX9_leastStart 4 [(0, .ref 57), (1, .int v1), (2, .int x1)] [] M Q)) ∧ (¬ ((M 58 (Int32.toNatClampNeg v1)) ≤ (M 58 (Int32.toNatClampNeg v2))) → (∀ x1 : Int32, x1 = v2 + 1 → RM w h kX9_leastStart 4 [(0, .ref 57), (1, .int v2), (2, .int x1)] [] M Q)))))))) : RM w h kX9_leastStart 4 [(0, .ref 57), (1, .int v1), (2, .int v2)] [] M Q := by
  refine rj_iload_n dX9_leastStart_4 2 rfl rfl ?_
  refine rj_bipush (v := 12) dX9_leastStart_5 (by decide) ?_
  obtain ⟨V1, V2⟩ := V
  refine rj_icmp_ge (tgt := 33) dX9_leastStart_7 (by decide) (fun hc => ?_) (fun hc => ?_)
  · have V := V1 hc
    refine rj_iload_n dX9_leastStart_33 1 rfl rfl ?_
    exact rm_iret dX9_leastStart_34 rfl rfl V
  · have V := V2 hc
    refine rj_aload_n dX9_leastStart_10 0 rfl rfl ?_
    refine rs_getR (t := 58) fl_RX9_9 rfl (by decide) (by decide) rfl dX9_leastStart_11 rfl (by omega) ?_
    refine rj_iload_n dX9_leastStart_14 2 rfl rfl ?_
    obtain ⟨hb, V⟩ := V
    refine rs_iald dX9_leastStart_15 rfl hb ?_
    refine rj_aload_n dX9_leastStart_16 0 rfl rfl ?_
    refine rs_getR (t := 58) fl_RX9_9 rfl (by decide) (by decide) rfl dX9_leastStart_17 rfl (by omega) ?_
    refine rj_iload_n dX9_leastStart_20 1 rfl rfl ?_
    obtain ⟨hb, V⟩ := V
    refine rs_iald dX9_leastStart_21 rfl hb ?_
    obtain ⟨V1, V2⟩ := V
    refine rj_icmp_ge (tgt := 27) dX9_leastStart_22 (by decide) (fun hc => ?_) (fun hc => ?_)
    · have V := V1 hc
      refine rj_iincV (c := 1) (fun y => [(0, .ref 57), (1, .int v1), (2, .int y)]) dX9_leastStart_27 2 rfl (by decide) (by decide) rfl (fun _ => rfl) (fun x1 ex1 => ?_)
      have V := V x1 ex1
      refine rj_goto (tgt := 4) dX9_leastStart_30 (by decide) ?_
      exact rs_sub [0, 1, 2] rfl V
    · have V := V2 hc
      refine rj_iload_n dX9_leastStart_25 2 rfl rfl ?_
      refine rj_istore_n (lv' := [(0, .ref 57), (1, .int v2), (2, .int v2)]) dX9_leastStart_26 rfl (by decide) rfl rfl ?_
      refine rj_iincV (c := 1) (fun y => [(0, .ref 57), (1, .int v2), (2, .int y)]) dX9_leastStart_27 2 rfl (by decide) (by decide) rfl (fun _ => rfl) (fun x1 ex1 => ?_)
      have V := V x1 ex1
      refine rj_goto (tgt := 4) dX9_leastStart_30 (by decide) ?_
      exact rs_sub [0, 1, 2] rfl V
-- X9_endFrom
set_option maxRecDepth 100000 in
set_option maxHeartbeats 4000000 in
theorem vX9_endFrom_0 {w : Wd} {h : Nat} (a0 : Int32)  (M : Mem) (Q : Option Value → Mem → Prop) (V : RM w (h + 1) kX9_endFrom 5 [(0, .ref 57), (1, .ref 4), (3, .int a0), (4, .int 0)] [] M Q) : RM w (h + 1) kX9_endFrom 0 [(0, .ref 57), (1, .ref 4), (2, .int a0)] [] M Q := by
  refine rj_iload_n dX9_endFrom_0 2 rfl rfl ?_
  refine rj_istore_n (lv' := [(0, .ref 57), (1, .ref 4), (2, .int a0), (3, .int a0)]) dX9_endFrom_1 rfl (by decide) rfl rfl ?_
  refine rj_iconst (v := 0) dX9_endFrom_2 (by decide) ?_
  refine rj_istore (lv' := [(0, .ref 57), (1, .ref 4), (2, .int a0), (3, .int a0), (4, .int 0)]) dX9_endFrom_3 (by decide) rfl rfl ?_
  exact rs_sub [0, 1, 3, 4] rfl V
set_option maxRecDepth 100000 in
set_option maxHeartbeats 4000000 in
theorem vX9_endFrom_5 {w : Wd} {h : Nat} (v3 : Int32) (v4 : Int32)  (M : Mem) (Q : Option Value → Mem → Prop) (V : ((15 ≤ v4 → (Q (some (.int (v3 - v3 / 12 * 12))) M)) ∧ (¬ (15 ≤ v4) → (CSi w h kX9_downOn [.ref 57, .ref 4, .int v3] M (fun r1 M1 => (∀ x1 : Int32, x1 = v4 + 1 → RM w (h + 1) kX9_endFrom 5 [(0, .ref 57), (1, .ref 4), (3, .int r1), (4, .int x1)] [] M1 Q)))))) : RM w (h + 1) kX9_endFrom 5 [(0, .ref 57), (1, .ref 4), (3, .int v3), (4, .int v4)] [] M Q := by
  refine rj_iload dX9_endFrom_5 3 rfl ?_
  refine rj_bipush (v := 15) dX9_endFrom_7 (by decide) ?_
  obtain ⟨V1, V2⟩ := V
  refine rj_icmp_ge (tgt := 25) dX9_endFrom_9 (by decide) (fun hc => ?_) (fun hc => ?_)
  · have V := V1 hc
    refine rj_iload_n dX9_endFrom_25 2 rfl rfl ?_
    refine rm_callSNi [.int v3] (rest := []) (K := fun x M' => (v3 - v3 / 12 * 12) = x ∧ M = M') mn_RX9_48 mtX10_columnOf rfl dX9_endFrom_26 rfl rfl (Nat.le_of_ble_eq_true rfl) (by decide) (uX10_columnOf ⟨rfl, rfl⟩) (fun x M' hx => ?_)
    obtain ⟨rfl, rfl⟩ := hx
    exact rm_iret dX9_endFrom_29 rfl rfl V
  · have V := V2 hc
    refine rj_aload_n dX9_endFrom_12 0 rfl rfl ?_
    refine rj_aload_n dX9_endFrom_13 1 rfl rfl ?_
    refine rj_iload_n dX9_endFrom_14 2 rfl rfl ?_
    refine rm_callVi [.ref 4, .int v3] (rest := []) ml_RX9_44 mvX9_downOn rfl dX9_endFrom_15 rfl rfl rfl rfl rfl (Nat.le_of_ble_eq_true rfl) (by decide) V (fun r1 M1 V => ?_)
    refine rj_istore_n (lv' := [(0, .ref 57), (1, .ref 4), (3, .int r1), (4, .int v4)]) dX9_endFrom_18 rfl (by decide) rfl rfl ?_
    refine rj_iincV (c := 1) (fun y => [(0, .ref 57), (1, .ref 4), (3, .int r1), (4, .int y)]) dX9_endFrom_19 3 rfl (by decide) (by decide) rfl (fun _ => rfl) (fun x1 ex1 => ?_)
    have V := V x1 ex1
    refine rj_goto (tgt := 5) dX9_endFrom_22 (by decide) ?_
    exact rs_sub [0, 1, 2, 3] rfl V
-- X9_downOn
set_option maxRecDepth 100000 in
set_option maxHeartbeats 4000000 in
theorem vX9_downOn_0 {w : Wd} {h : Nat} (a0 : Int32)  (M : Mem) (Q : Option Value → Mem → Prop) (V : RM w (h + 1) kX9_downOn 2 [(0, .ref 57), (1, .ref 4), (2, .int a0), (3, .int 0)] [] M Q) : RM w (h + 1) kX9_downOn 0 [(0, .ref 57), (1, .ref 4), (2, .int a0)] [] M Q := by
  refine rj_iconst (v := 0) dX9_downOn_0 (by decide) ?_
  refine rj_istore_n (lv' := [(0, .ref 57), (1, .ref 4), (2, .int a0), (3, .int 0)]) dX9_downOn_1 rfl (by decide) rfl rfl ?_
  exact rs_sub [0, 1, 2, 3] rfl V
set_option maxRecDepth 100000 in
set_option maxHeartbeats 4000000 in
theorem vX9_downOn_2 {w : Wd} {h : Nat} (v2 : Int32) (v3 : Int32)  (M : Mem) (Q : Option Value → Mem → Prop) (V : ((3 ≤ v3 → (Q (some (.int v2)) M)) ∧ (¬ (3 ≤ v3) → (CSi w h kX10_belowOf [.int v2, .int v3] M (fun r1 M1 => ((r1 = (-2) → (∀ x1 : Int32, x1 = v3 + 1 → RM w (h + 1) kX9_downOn 2 [(0, .ref 57), (1, .ref 4), (2, .int v2), (3, .int x1)] [] M1 Q)) ∧ (¬ (r1 = (-2)) → (CSi w h kX9_costOver [.ref 57, .ref 4, .int r1, .int 1] M1 (fun r2 M2 => (vp_in v2 192 ∧ ((¬ (r2 = (M2 58 (Int32.toNatClampNeg v2))) → (∀ x1 : Int32, x1 = v3 + 1 → RM w (h + 1) kX9_downOn 2 [(0, .ref 57), (1, .ref 4), (2, .int v2), (3, .int x1)] [] M2 Q)) ∧ (r2 = (M2 58 (Int32.toNatClampNeg v2)) → (Q (some (.int r1)) M2))))))))))))) : RM w (h + 1) kX9_downOn 2 [(0, .ref 57), (1, .ref 4), (2, .int v2), (3, .int v3)] [] M Q := by
  refine rj_iload_n dX9_downOn_2 3 rfl rfl ?_
  refine rj_iconst (v := 3) dX9_downOn_3 (by decide) ?_
  obtain ⟨V1, V2⟩ := V
  refine rj_icmp_ge (tgt := 47) dX9_downOn_4 (by decide) (fun hc => ?_) (fun hc => ?_)
  · have V := V1 hc
    refine rj_iload_n dX9_downOn_47 2 rfl rfl ?_
    exact rm_iret dX9_downOn_48 rfl rfl V
  · have V := V2 hc
    refine rj_iload_n dX9_downOn_7 2 rfl rfl ?_
    refine rj_iload_n dX9_downOn_8 3 rfl rfl ?_
    refine rm_callSNi [.int v2, .int v3] (rest := []) mn_RX9_23 mtX10_belowOf rfl dX9_downOn_9 rfl rfl (Nat.le_of_ble_eq_true rfl) (by decide) V (fun r1 M1 V => ?_)
    refine rj_istore (lv' := [(0, .ref 57), (1, .ref 4), (2, .int v2), (3, .int v3), (4, .int r1)]) dX9_downOn_12 (by decide) rfl rfl ?_
    refine rj_iload dX9_downOn_14 4 rfl ?_
    refine rj_bipush (v := (-2)) dX9_downOn_16 (by decide) ?_
    obtain ⟨V1, V2⟩ := V
    refine rj_icmp_eq (tgt := 41) dX9_downOn_18 (by decide) (fun hc => ?_) (fun hc => ?_)
    · have V := V1 hc
      refine rj_iincV (c := 1) (fun y => [(0, .ref 57), (1, .ref 4), (2, .int v2), (3, .int y), (4, .int r1)]) dX9_downOn_41 3 rfl (by decide) (by decide) rfl (fun _ => rfl) (fun x1 ex1 => ?_)
      have V := V x1 ex1
      refine rj_goto (tgt := 2) dX9_downOn_44 (by decide) ?_
      exact rs_sub [0, 1, 2, 3] rfl V
    · have V := V2 hc
      refine rj_aload_n dX9_downOn_21 0 rfl rfl ?_
      refine rj_aload_n dX9_downOn_22 1 rfl rfl ?_
      refine rj_iload dX9_downOn_23 4 rfl ?_
      refine rj_iconst (v := 1) dX9_downOn_25 (by decide) ?_
      refine rm_callVi [.ref 4, .int r1, .int 1] (rest := []) ml_RX9_27 mvX9_costOver rfl dX9_downOn_26 rfl rfl rfl rfl rfl (Nat.le_of_ble_eq_true rfl) (by decide) V (fun r2 M2 V => ?_)
      refine rj_aload_n dX9_downOn_29 0 rfl rfl ?_
      refine rs_getR (t := 58) fl_RX9_9 rfl (by decide) (by decide) rfl dX9_downOn_30 rfl (by omega) ?_
      refine rj_iload_n dX9_downOn_33 2 rfl rfl ?_
      obtain ⟨hb, V⟩ := V
      refine rs_iald dX9_downOn_34 rfl hb ?_
      obtain ⟨V1, V2⟩ := V
      refine rj_icmp_ne (tgt := 41) dX9_downOn_35 (by decide) (fun hc => ?_) (fun hc => ?_)
      · have V := V1 hc
        refine rj_iincV (c := 1) (fun y => [(0, .ref 57), (1, .ref 4), (2, .int v2), (3, .int y), (4, .int r1)]) dX9_downOn_41 3 rfl (by decide) (by decide) rfl (fun _ => rfl) (fun x1 ex1 => ?_)
        have V := V x1 ex1
        refine rj_goto (tgt := 2) dX9_downOn_44 (by decide) ?_
        exact rs_sub [0, 1, 2, 3] rfl V
      · have V := V2 hc
        refine rj_iload dX9_downOn_38 4 rfl ?_
        exact rm_iret dX9_downOn_40 rfl rfl V

-- X11_isWord
set_option maxRecDepth 100000 in
set_option maxHeartbeats 4000000 in
theorem vX11_isWord_0 {w : Wd} {h : Nat} (i : Nat) (hi : i < 28)  (M : Mem) (Q : Option Value → Mem → Prop) (V : ((¬ ((M 59 11) = 0) → RM w (h + 1) kX11_isWord 39 [(0, .ref 59), (1, .ref (1000 + (4 + i))), (2, .int 0), (3, .int 0)] [] M Q) ∧ ((M 59 11) = 0 → ((¬ ((M 59 7) = 1) → RM w (h + 1) kX11_isWord 39 [(0, .ref 59), (1, .ref (1000 + (4 + i))), (2, .int 0), (3, .int 0)] [] M Q) ∧ ((M 59 7) = 1 → (CSi w h kJ0_length_8abf5 [.ref (1000 + (4 + i))] M (fun r1 M1 => (∀ x1 : Int32, x1 = (b2i (((M 59 9) - (M 59 8)) = r1)) → RM w (h + 1) kX11_isWord 39 [(0, .ref 59), (1, .ref (1000 + (4 + i))), (2, .int x1), (3, .int 0)] [] M1 Q)))))))) : RM w (h + 1) kX11_isWord 0 [(0, .ref 59), (1, .ref (1000 + (4 + i)))] [] M Q := by
  refine rj_aload_n dX11_isWord_0 0 rfl rfl ?_
  refine rs_getI fl_RX11_192 rfl (by decide) (by decide) rfl dX11_isWord_1 rfl ?_
  obtain ⟨V1, V2⟩ := V
  refine rj_if_ne (tgt := 35) dX11_isWord_4 (by decide) (fun hc => ?_) (fun hc => ?_)
  · have V := V1 hc
    refine rj_iconst (v := 0) dX11_isWord_35 (by decide) ?_
    refine rj_istore_n (lv' := [(0, .ref 59), (1, .ref (1000 + (4 + i))), (2, .int 0)]) dX11_isWord_36 rfl (by decide) rfl rfl ?_
    refine rj_iconst (v := 0) dX11_isWord_37 (by decide) ?_
    refine rj_istore_n (lv' := [(0, .ref 59), (1, .ref (1000 + (4 + i))), (2, .int 0), (3, .int 0)]) dX11_isWord_38 rfl (by decide) rfl rfl ?_
    exact rs_sub [0, 1, 2, 3] rfl V
  · have V := V2 hc
    refine rj_aload_n dX11_isWord_7 0 rfl rfl ?_
    refine rs_getI fl_RX11_189 rfl (by decide) (by decide) rfl dX11_isWord_8 rfl ?_
    refine rj_iconst (v := 1) dX11_isWord_11 (by decide) ?_
    obtain ⟨V1, V2⟩ := V
    refine rj_icmp_ne (tgt := 35) dX11_isWord_12 (by decide) (fun hc => ?_) (fun hc => ?_)
    · have V := V1 hc
      refine rj_iconst (v := 0) dX11_isWord_35 (by decide) ?_
      refine rj_istore_n (lv' := [(0, .ref 59), (1, .ref (1000 + (4 + i))), (2, .int 0)]) dX11_isWord_36 rfl (by decide) rfl rfl ?_
      refine rj_iconst (v := 0) dX11_isWord_37 (by decide) ?_
      refine rj_istore_n (lv' := [(0, .ref 59), (1, .ref (1000 + (4 + i))), (2, .int 0), (3, .int 0)]) dX11_isWord_38 rfl (by decide) rfl rfl ?_
      exact rs_sub [0, 1, 2, 3] rfl V
    · have V := V2 hc
      refine rj_aload_n dX11_isWord_15 0 rfl rfl ?_
      refine rs_getI fl_RX11_176 rfl (by decide) (by decide) rfl dX11_isWord_16 rfl ?_
      refine rj_aload_n dX11_isWord_19 0 rfl rfl ?_
      refine rs_getI fl_RX11_179 rfl (by decide) (by decide) rfl dX11_isWord_20 rfl ?_
      refine rj_isub dX11_isWord_23 ?_
      refine rj_aload_n dX11_isWord_24 1 rfl rfl ?_
      refine rm_callTi [] (rest := [.int ((M 59 9) - (M 59 8))]) hi ml_RX11_195 mvJ0_length_8abf5 rfl dX11_isWord_25 rfl rfl rfl (Nat.le_of_ble_eq_true rfl) (by decide) V (fun r1 M1 V => ?_)
      have KD : RM w (h + 1) kX11_isWord 36 [(0, .ref 59), (1, .ref (1000 + (4 + i)))] [.int (b2i (((M 59 9) - (M 59 8)) = r1))] M1 Q := by
        refine rj_top (fun x1 ex1 => ?_)
        have V := V x1 ex1
        refine rj_istore_n (lv' := [(0, .ref 59), (1, .ref (1000 + (4 + i))), (2, .int x1)]) dX11_isWord_36 rfl (by decide) rfl rfl ?_
        refine rj_iconst (v := 0) dX11_isWord_37 (by decide) ?_
        refine rj_istore_n (lv' := [(0, .ref 59), (1, .ref (1000 + (4 + i))), (2, .int x1), (3, .int 0)]) dX11_isWord_38 rfl (by decide) rfl rfl ?_
        exact rs_sub [0, 1, 2, 3] rfl V
      refine rj_icmp_ne (tgt := 35) dX11_isWord_28 (by decide) (fun hc => ?_) (fun hc => ?_)
      · refine rj_iconst (v := 0) dX11_isWord_35 (by decide) ?_
        exact rs_b0 hc KD
      · refine rj_iconst (v := 1) dX11_isWord_31 (by decide) ?_
        refine rj_goto (tgt := 36) dX11_isWord_32 (by decide) ?_
        exact rs_b1 hc KD
set_option maxRecDepth 100000 in
set_option maxHeartbeats 4000000 in
theorem vX11_isWord_39 {w : Wd} {h : Nat} (i : Nat) (v2 : Int32) (v3 : Int32) (hi : i < 28)  (M : Mem) (Q : Option Value → Mem → Prop) (V : ((v2 = 0 → (isB v2 ∧ Q (some (.int v2)) M)) ∧ (¬ (v2 = 0) → (CSi w h kJ0_length_8abf5 [.ref (1000 + (4 + i))] M (fun r1 M1 => ((r1 ≤ v3 → (isB v2 ∧ Q (some (.int v2)) M1)) ∧ (¬ (r1 ≤ v3) → (vp_in ((M1 59 8) + v3) 100 ∧ (CSi w h kJ0_charAt_5068e [.ref (1000 + (4 + i)), .int v3] M1 (fun r2 M2 => (∀ x1 : Int32, x1 = (b2i ((M1 63 (Int32.toNatClampNeg ((M1 59 8) + v3))) = r2)) → (∀ x2 : Int32, x2 = v3 + 1 → RM w (h + 1) kX11_isWord 39 [(0, .ref 59), (1, .ref (1000 + (4 + i))), (2, .int x1), (3, .int x2)] [] M2 Q)))))))))))) : RM w (h + 1) kX11_isWord 39 [(0, .ref 59), (1, .ref (1000 + (4 + i))), (2, .int v2), (3, .int v3)] [] M Q := by
  refine rj_iload_n dX11_isWord_39 2 rfl rfl ?_
  obtain ⟨V1, V2⟩ := V
  refine rj_if_eq (tgt := 82) dX11_isWord_40 (by decide) (fun hc => ?_) (fun hc => ?_)
  · have V := V1 hc
    refine rj_iload_n dX11_isWord_82 2 rfl rfl ?_
    obtain ⟨hb, V⟩ := V
    exact rm_iret dX11_isWord_83 rfl (isB_n hb) V
  · have V := V2 hc
    refine rj_iload_n dX11_isWord_43 3 rfl rfl ?_
    refine rj_aload_n dX11_isWord_44 1 rfl rfl ?_
    refine rm_callTi [] (rest := [.int v3]) hi ml_RX11_195 mvJ0_length_8abf5 rfl dX11_isWord_45 rfl rfl rfl (Nat.le_of_ble_eq_true rfl) (by decide) V (fun r1 M1 V => ?_)
    obtain ⟨V1, V2⟩ := V
    refine rj_icmp_ge (tgt := 82) dX11_isWord_48 (by decide) (fun hc => ?_) (fun hc => ?_)
    · have V := V1 hc
      refine rj_iload_n dX11_isWord_82 2 rfl rfl ?_
      obtain ⟨hb, V⟩ := V
      exact rm_iret dX11_isWord_83 rfl (isB_n hb) V
    · have V := V2 hc
      refine rj_aload_n dX11_isWord_51 0 rfl rfl ?_
      refine rs_getR (t := 63) fl_RX11_19 rfl (by decide) (by decide) rfl dX11_isWord_52 rfl (by omega) ?_
      refine rj_aload_n dX11_isWord_55 0 rfl rfl ?_
      refine rs_getI fl_RX11_179 rfl (by decide) (by decide) rfl dX11_isWord_56 rfl ?_
      refine rj_iload_n dX11_isWord_59 3 rfl rfl ?_
      refine rj_iadd dX11_isWord_60 ?_
      obtain ⟨hb, V⟩ := V
      refine rs_iald dX11_isWord_61 rfl hb ?_
      refine rj_aload_n dX11_isWord_62 1 rfl rfl ?_
      refine rj_iload_n dX11_isWord_63 3 rfl rfl ?_
      refine rm_callTi [.int v3] (rest := [.int (M1 63 (Int32.toNatClampNeg ((M1 59 8) + v3)))]) hi ml_RX11_200 mvJ0_charAt_5068e rfl dX11_isWord_64 rfl rfl rfl (Nat.le_of_ble_eq_true rfl) (by decide) V (fun r2 M2 V => ?_)
      have KD : RM w (h + 1) kX11_isWord 75 [(0, .ref 59), (1, .ref (1000 + (4 + i))), (2, .int v2), (3, .int v3)] [.int (b2i ((M1 63 (Int32.toNatClampNeg ((M1 59 8) + v3))) = r2))] M2 Q := by
        refine rj_top (fun x1 ex1 => ?_)
        have V := V x1 ex1
        refine rj_istore_n (lv' := [(0, .ref 59), (1, .ref (1000 + (4 + i))), (2, .int x1), (3, .int v3)]) dX11_isWord_75 rfl (by decide) rfl rfl ?_
        refine rj_iincV (c := 1) (fun y => [(0, .ref 59), (1, .ref (1000 + (4 + i))), (2, .int x1), (3, .int y)]) dX11_isWord_76 3 rfl (by decide) (by decide) rfl (fun _ => rfl) (fun x2 ex2 => ?_)
        have V := V x2 ex2
        refine rj_goto (tgt := 39) dX11_isWord_79 (by decide) ?_
        exact rs_sub [0, 1, 2, 3] rfl V
      refine rj_icmp_ne (tgt := 74) dX11_isWord_67 (by decide) (fun hc => ?_) (fun hc => ?_)
      · refine rj_iconst (v := 0) dX11_isWord_74 (by decide) ?_
        exact rs_b0 hc KD
      · refine rj_iconst (v := 1) dX11_isWord_70 (by decide) ?_
        refine rj_goto (tgt := 75) dX11_isWord_71 (by decide) ?_
        exact rs_b1 hc KD
-- X11_isSign
set_option maxRecDepth 100000 in
set_option maxHeartbeats 4000000 in
theorem vX11_isSign_0 {w : Wd} {h : Nat} (a0 : Int32)  (M : Mem) (Q : Option Value → Mem → Prop) (V : ((¬ ((M 59 11) = 0) → (Q (some (.int 0)) M)) ∧ ((M 59 11) = 0 → ((¬ ((M 59 7) = 3) → (Q (some (.int 0)) M)) ∧ ((M 59 7) = 3 → (vp_in (M 59 8) 100 ∧ (Q (some (.int (b2i ((M 63 (Int32.toNatClampNeg (M 59 8))) = a0)))) M))))))) : RM w h kX11_isSign 0 [(0, .ref 59), (1, .int a0)] [] M Q := by
  refine rj_aload_n dX11_isSign_0 0 rfl rfl ?_
  refine rs_getI fl_RX11_192 rfl (by decide) (by decide) rfl dX11_isSign_1 rfl ?_
  obtain ⟨V1, V2⟩ := V
  refine rj_if_ne (tgt := 32) dX11_isSign_4 (by decide) (fun hc => ?_) (fun hc => ?_)
  · have V := V1 hc
    refine rj_iconst (v := 0) dX11_isSign_32 (by decide) ?_
    exact rm_iret dX11_isSign_33 rfl rfl V
  · have V := V2 hc
    refine rj_aload_n dX11_isSign_7 0 rfl rfl ?_
    refine rs_getI fl_RX11_189 rfl (by decide) (by decide) rfl dX11_isSign_8 rfl ?_
    refine rj_iconst (v := 3) dX11_isSign_11 (by decide) ?_
    obtain ⟨V1, V2⟩ := V
    refine rj_icmp_ne (tgt := 32) dX11_isSign_12 (by decide) (fun hc => ?_) (fun hc => ?_)
    · have V := V1 hc
      refine rj_iconst (v := 0) dX11_isSign_32 (by decide) ?_
      exact rm_iret dX11_isSign_33 rfl rfl V
    · have V := V2 hc
      refine rj_aload_n dX11_isSign_15 0 rfl rfl ?_
      refine rs_getR (t := 63) fl_RX11_19 rfl (by decide) (by decide) rfl dX11_isSign_16 rfl (by omega) ?_
      refine rj_aload_n dX11_isSign_19 0 rfl rfl ?_
      refine rs_getI fl_RX11_179 rfl (by decide) (by decide) rfl dX11_isSign_20 rfl ?_
      obtain ⟨hb, V⟩ := V
      refine rs_iald dX11_isSign_23 rfl hb ?_
      refine rj_iload_n dX11_isSign_24 1 rfl rfl ?_
      have KD : RM w h kX11_isSign 33 [(0, .ref 59), (1, .int a0)] [.int (b2i ((M 63 (Int32.toNatClampNeg (M 59 8))) = a0))] M Q := by
        exact rm_iret dX11_isSign_33 rfl (isB_n isB_b2i) V
      refine rj_icmp_ne (tgt := 32) dX11_isSign_25 (by decide) (fun hc => ?_) (fun hc => ?_)
      · refine rj_iconst (v := 0) dX11_isSign_32 (by decide) ?_
        exact rs_b0 hc KD
      · refine rj_iconst (v := 1) dX11_isSign_28 (by decide) ?_
        refine rj_goto (tgt := 33) dX11_isSign_29 (by decide) ?_
        exact rs_b1 hc KD
-- X11_number
set_option maxRecDepth 100000 in
set_option maxHeartbeats 4000000 in
theorem vX11_number_0 {w : Wd} {h : Nat} (a0 : Int32) (a1 : Int32)  (M : Mem) (Q : Option Value → Mem → Prop) (V : ((¬ ((M 59 11) = 0) → (∀ M1 : Mem, M1 = mset M 59 11 1 → (∀ x1 : Int32, x1 = (M1 59 10) → ((¬ ((M1 59 11) = 0) → (Q (some (.int x1)) M1)) ∧ ((M1 59 11) = 0 → (CSv w h kX11_token [.ref 59] M1 (fun M2 => (Q (some (.int x1)) M2)))))))) ∧ ((M 59 11) = 0 → ((¬ ((M 59 7) = 2) → (∀ M1 : Mem, M1 = mset M 59 11 1 → (∀ x1 : Int32, x1 = (M1 59 10) → ((¬ ((M1 59 11) = 0) → (Q (some (.int x1)) M1)) ∧ ((M1 59 11) = 0 → (CSv w h kX11_token [.ref 59] M1 (fun M2 => (Q (some (.int x1)) M2)))))))) ∧ ((M 59 7) = 2 → (∀ M1 : Mem, M1 = mset M 59 11 (b2i (¬ ((a0 ≤ (M 59 10) ∧ (M 59 10) ≤ a1)))) → (∀ x1 : Int32, x1 = (M1 59 10) → ((¬ ((M1 59 11) = 0) → (Q (some (.int x1)) M1)) ∧ ((M1 59 11) = 0 → (CSv w h kX11_token [.ref 59] M1 (fun M2 => (Q (some (.int x1)) M2)))))))))))) : RM w (h + 1) kX11_number 0 [(0, .ref 59), (1, .int a0), (2, .int a1)] [] M Q := by
  refine rj_aload_n dX11_number_0 0 rfl rfl ?_
  refine rj_aload_n dX11_number_1 0 rfl rfl ?_
  refine rs_getI fl_RX11_192 rfl (by decide) (by decide) rfl dX11_number_2 rfl ?_
  obtain ⟨V1, V2⟩ := V
  refine rj_if_ne (tgt := 31) dX11_number_5 (by decide) (fun hc => ?_) (fun hc => ?_)
  · have V := V1 hc
    refine rj_iconst (v := 1) dX11_number_31 (by decide) ?_
    refine rj_goto (tgt := 36) dX11_number_32 (by decide) ?_
    refine rs_putI fl_RX11_192 (ft11_11 _ nofun) rfl (by decide) (by decide) rfl dX11_number_36 rfl rfl rfl (fun M1 eM1 => ?_)
    have V := V M1 eM1
    refine rj_aload_n dX11_number_39 0 rfl rfl ?_
    refine rs_getI fl_RX11_186 rfl (by decide) (by decide) rfl dX11_number_40 rfl ?_
    refine rj_top (fun x1 ex1 => ?_)
    have V := V x1 ex1
    refine rj_istore_n (lv' := [(0, .ref 59), (1, .int a0), (2, .int a1), (3, .int x1)]) dX11_number_43 rfl (by decide) rfl rfl ?_
    refine rj_aload_n dX11_number_44 0 rfl rfl ?_
    refine rs_getI fl_RX11_192 rfl (by decide) (by decide) rfl dX11_number_45 rfl ?_
    obtain ⟨V1, V2⟩ := V
    refine rj_if_ne (tgt := 55) dX11_number_48 (by decide) (fun hc => ?_) (fun hc => ?_)
    · have V := V1 hc
      refine rj_iload_n dX11_number_55 3 rfl rfl ?_
      exact rm_iret dX11_number_56 rfl rfl V
    · have V := V2 hc
      refine rj_aload_n dX11_number_51 0 rfl rfl ?_
      refine rm_callVv [] (rest := []) ml_RX11_204 mvX11_token rfl dX11_number_52 rfl rfl rfl rfl rfl (Nat.le_of_ble_eq_true rfl) (by decide) V (fun M2 V => ?_)
      refine rj_iload_n dX11_number_55 3 rfl rfl ?_
      exact rm_iret dX11_number_56 rfl rfl V
  · have V := V2 hc
    refine rj_aload_n dX11_number_8 0 rfl rfl ?_
    refine rs_getI fl_RX11_189 rfl (by decide) (by decide) rfl dX11_number_9 rfl ?_
    refine rj_iconst (v := 2) dX11_number_12 (by decide) ?_
    obtain ⟨V1, V2⟩ := V
    refine rj_icmp_ne (tgt := 31) dX11_number_13 (by decide) (fun hc => ?_) (fun hc => ?_)
    · have V := V1 hc
      refine rj_iconst (v := 1) dX11_number_31 (by decide) ?_
      refine rj_goto (tgt := 36) dX11_number_32 (by decide) ?_
      refine rs_putI fl_RX11_192 (ft11_11 _ nofun) rfl (by decide) (by decide) rfl dX11_number_36 rfl rfl rfl (fun M1 eM1 => ?_)
      have V := V M1 eM1
      refine rj_aload_n dX11_number_39 0 rfl rfl ?_
      refine rs_getI fl_RX11_186 rfl (by decide) (by decide) rfl dX11_number_40 rfl ?_
      refine rj_top (fun x1 ex1 => ?_)
      have V := V x1 ex1
      refine rj_istore_n (lv' := [(0, .ref 59), (1, .int a0), (2, .int a1), (3, .int x1)]) dX11_number_43 rfl (by decide) rfl rfl ?_
      refine rj_aload_n dX11_number_44 0 rfl rfl ?_
      refine rs_getI fl_RX11_192 rfl (by decide) (by decide) rfl dX11_number_45 rfl ?_
      obtain ⟨V1, V2⟩ := V
      refine rj_if_ne (tgt := 55) dX11_number_48 (by decide) (fun hc => ?_) (fun hc => ?_)
      · have V := V1 hc
        refine rj_iload_n dX11_number_55 3 rfl rfl ?_
        exact rm_iret dX11_number_56 rfl rfl V
      · have V := V2 hc
        refine rj_aload_n dX11_number_51 0 rfl rfl ?_
        refine rm_callVv [] (rest := []) ml_RX11_204 mvX11_token rfl dX11_number_52 rfl rfl rfl rfl rfl (Nat.le_of_ble_eq_true rfl) (by decide) V (fun M2 V => ?_)
        refine rj_iload_n dX11_number_55 3 rfl rfl ?_
        exact rm_iret dX11_number_56 rfl rfl V
    · have V := V2 hc
      refine rj_aload_n dX11_number_16 0 rfl rfl ?_
      refine rs_getI fl_RX11_186 rfl (by decide) (by decide) rfl dX11_number_17 rfl ?_
      refine rj_i2l dX11_number_20 ?_
      refine rj_iload_n dX11_number_21 1 rfl rfl ?_
      refine rj_i2l dX11_number_22 ?_
      refine rj_iload_n dX11_number_23 2 rfl rfl ?_
      refine rj_i2l dX11_number_24 ?_
      refine rm_callSi [.long (Int32.toInt64 (M 59 10)), .long (Int32.toInt64 a0), .long (Int32.toInt64 a1)] (rest := [.ref 59]) (K := fun x M' => b2i (a0 ≤ (M 59 10) ∧ (M 59 10) ≤ a1) = x ∧ M = M') ml_RX11_43 mtX11_in rfl dX11_number_25 rfl rfl (Nat.le_of_ble_eq_true rfl) (by decide) (uX11_in ((M 59 10)) (a0) (a1) rfl rfl ⟨rfl, rfl⟩) (fun x M' hx => ?_)
      obtain ⟨rfl, rfl⟩ := hx
      have KD : RM w (h + 1) kX11_number 36 [(0, .ref 59), (1, .int a0), (2, .int a1)] [.int (b2i (¬ ((a0 ≤ (M 59 10) ∧ (M 59 10) ≤ a1)))), .ref 59] M Q := by
        refine rs_putI fl_RX11_192 (ft11_11 _ nofun) rfl (by decide) (by decide) rfl dX11_number_36 (isB_n isB_b2i) (isB_f isB_b2i) rfl (fun M1 eM1 => ?_)
        have V := V M1 eM1
        refine rj_aload_n dX11_number_39 0 rfl rfl ?_
        refine rs_getI fl_RX11_186 rfl (by decide) (by decide) rfl dX11_number_40 rfl ?_
        refine rj_top (fun x1 ex1 => ?_)
        have V := V x1 ex1
        refine rj_istore_n (lv' := [(0, .ref 59), (1, .int a0), (2, .int a1), (3, .int x1)]) dX11_number_43 rfl (by decide) rfl rfl ?_
        refine rj_aload_n dX11_number_44 0 rfl rfl ?_
        refine rs_getI fl_RX11_192 rfl (by decide) (by decide) rfl dX11_number_45 rfl ?_
        obtain ⟨V1, V2⟩ := V
        refine rj_if_ne (tgt := 55) dX11_number_48 (by decide) (fun hc => ?_) (fun hc => ?_)
        · have V := V1 hc
          refine rj_iload_n dX11_number_55 3 rfl rfl ?_
          exact rm_iret dX11_number_56 rfl rfl V
        · have V := V2 hc
          refine rj_aload_n dX11_number_51 0 rfl rfl ?_
          refine rm_callVv [] (rest := []) ml_RX11_204 mvX11_token rfl dX11_number_52 rfl rfl rfl rfl rfl (Nat.le_of_ble_eq_true rfl) (by decide) V (fun M2 V => ?_)
          refine rj_iload_n dX11_number_55 3 rfl rfl ?_
          exact rm_iret dX11_number_56 rfl rfl V
      refine rs_if_neB (tgt := 35) dX11_number_28 (by decide) (fun hc => ?_) (fun hc => ?_)
      · refine rj_iconst (v := 0) dX11_number_35 (by decide) ?_
        exact rs_b0 (fun q => q hc) KD
      · refine rj_iconst (v := 1) dX11_number_31 (by decide) ?_
        refine rj_goto (tgt := 36) dX11_number_32 (by decide) ?_
        exact rs_b1 hc KD
-- X11_deedHere
set_option maxRecDepth 100000 in
set_option maxHeartbeats 4000000 in
theorem vX11_deedHere_0 {w : Wd} {h : Nat}   (M : Mem) (Q : Option Value → Mem → Prop) (V : (CSi w h kX11_isWord [.ref 59, .ref (1000 + (4 + 14))] M (fun r1 M1 => ((r1 = 0 → (CSi w h kX11_isWord [.ref 59, .ref (1000 + (4 + 15))] M1 (fun r2 M2 => ((r2 = 0 → (CSi w h kX11_isWord [.ref 59, .ref (1000 + (4 + 16))] M2 (fun r3 M3 => ((r3 = 0 → (CSi w h kX11_isWord [.ref 59, .ref (1000 + (4 + 17))] M3 (fun r4 M4 => ((r4 = 0 → (CSi w h kX11_isWord [.ref 59, .ref (1000 + (4 + 18))] M4 (fun r5 M5 => ((r5 = 0 → (CSi w h kX11_isWord [.ref 59, .ref (1000 + (4 + 19))] M5 (fun r6 M6 => ((r6 = 0 → (CSi w h kX11_isWord [.ref 59, .ref (1000 + (4 + 20))] M6 (fun r7 M7 => ((r7 = 0 → (CSi w h kX11_isWord [.ref 59, .ref (1000 + (4 + 21))] M7 (fun r8 M8 => ((r8 = 0 → (CSi w h kX11_isWord [.ref 59, .ref (1000 + (4 + 22))] M8 (fun r9 M9 => ((r9 = 0 → (CSi w h kX11_isWord [.ref 59, .ref (1000 + (4 + 23))] M9 (fun r10 M10 => ((r10 = 0 → (CSi w h kX11_isWord [.ref 59, .ref (1000 + (4 + 24))] M10 (fun r11 M11 => ((r11 = 0 → (CSi w h kX11_isWord [.ref 59, .ref (1000 + (4 + 25))] M11 (fun r12 M12 => ((r12 = 0 → (CSi w h kX11_isWord [.ref 59, .ref (1000 + (4 + 26))] M12 (fun r13 M13 => (Q (some (.int (if r13 = 0 then ((-1) : Int32) else (12 : Int32)))) M13)))) ∧ (¬ (r12 = 0) → (Q (some (.int 11)) M12)))))) ∧ (¬ (r11 = 0) → (Q (some (.int 10)) M11)))))) ∧ (¬ (r10 = 0) → (Q (some (.int 9)) M10)))))) ∧ (¬ (r9 = 0) → (Q (some (.int 8)) M9)))))) ∧ (¬ (r8 = 0) → (Q (some (.int 7)) M8)))))) ∧ (¬ (r7 = 0) → (Q (some (.int 6)) M7)))))) ∧ (¬ (r6 = 0) → (Q (some (.int 5)) M6)))))) ∧ (¬ (r5 = 0) → (Q (some (.int 4)) M5)))))) ∧ (¬ (r4 = 0) → (Q (some (.int 3)) M4)))))) ∧ (¬ (r3 = 0) → (Q (some (.int 2)) M3)))))) ∧ (¬ (r2 = 0) → (Q (some (.int 1)) M2)))))) ∧ (¬ (r1 = 0) → (Q (some (.int 0)) M1)))))) : RM w (h + 1) kX11_deedHere 0 [(0, .ref 59)] [] M Q := by
  refine rj_aload_n dX11_deedHere_0 0 rfl rfl ?_
  refine rj_ldcS (i := 14) (by decide) rfl rfl rfl dX11_deedHere_1 ?_
  refine rm_callVi [.ref (1000 + (4 + 14))] (rest := []) ml_RX11_209 mvX11_isWord rfl dX11_deedHere_3 rfl rfl rfl rfl rfl (Nat.le_of_ble_eq_true rfl) (by decide) V (fun r1 M1 V => ?_)
  obtain ⟨V1, V2⟩ := V
  refine rj_if_eq (tgt := 11) dX11_deedHere_6 (by decide) (fun hc => ?_) (fun hc => ?_)
  · have V := V1 hc
    refine rj_aload_n dX11_deedHere_11 0 rfl rfl ?_
    refine rj_ldcS (i := 15) (by decide) rfl rfl rfl dX11_deedHere_12 ?_
    refine rm_callVi [.ref (1000 + (4 + 15))] (rest := []) ml_RX11_209 mvX11_isWord rfl dX11_deedHere_14 rfl rfl rfl rfl rfl (Nat.le_of_ble_eq_true rfl) (by decide) V (fun r2 M2 V => ?_)
    obtain ⟨V1, V2⟩ := V
    refine rj_if_eq (tgt := 22) dX11_deedHere_17 (by decide) (fun hc => ?_) (fun hc => ?_)
    · have V := V1 hc
      refine rj_aload_n dX11_deedHere_22 0 rfl rfl ?_
      refine rj_ldcS (i := 16) (by decide) rfl rfl rfl dX11_deedHere_23 ?_
      refine rm_callVi [.ref (1000 + (4 + 16))] (rest := []) ml_RX11_209 mvX11_isWord rfl dX11_deedHere_25 rfl rfl rfl rfl rfl (Nat.le_of_ble_eq_true rfl) (by decide) V (fun r3 M3 V => ?_)
      obtain ⟨V1, V2⟩ := V
      refine rj_if_eq (tgt := 33) dX11_deedHere_28 (by decide) (fun hc => ?_) (fun hc => ?_)
      · have V := V1 hc
        refine rj_aload_n dX11_deedHere_33 0 rfl rfl ?_
        refine rj_ldcS (i := 17) (by decide) rfl rfl rfl dX11_deedHere_34 ?_
        refine rm_callVi [.ref (1000 + (4 + 17))] (rest := []) ml_RX11_209 mvX11_isWord rfl dX11_deedHere_36 rfl rfl rfl rfl rfl (Nat.le_of_ble_eq_true rfl) (by decide) V (fun r4 M4 V => ?_)
        obtain ⟨V1, V2⟩ := V
        refine rj_if_eq (tgt := 44) dX11_deedHere_39 (by decide) (fun hc => ?_) (fun hc => ?_)
        · have V := V1 hc
          refine rj_aload_n dX11_deedHere_44 0 rfl rfl ?_
          refine rj_ldcS (i := 18) (by decide) rfl rfl rfl dX11_deedHere_45 ?_
          refine rm_callVi [.ref (1000 + (4 + 18))] (rest := []) ml_RX11_209 mvX11_isWord rfl dX11_deedHere_47 rfl rfl rfl rfl rfl (Nat.le_of_ble_eq_true rfl) (by decide) V (fun r5 M5 V => ?_)
          obtain ⟨V1, V2⟩ := V
          refine rj_if_eq (tgt := 55) dX11_deedHere_50 (by decide) (fun hc => ?_) (fun hc => ?_)
          · have V := V1 hc
            refine rj_aload_n dX11_deedHere_55 0 rfl rfl ?_
            refine rj_ldcS (i := 19) (by decide) rfl rfl rfl dX11_deedHere_56 ?_
            refine rm_callVi [.ref (1000 + (4 + 19))] (rest := []) ml_RX11_209 mvX11_isWord rfl dX11_deedHere_58 rfl rfl rfl rfl rfl (Nat.le_of_ble_eq_true rfl) (by decide) V (fun r6 M6 V => ?_)
            obtain ⟨V1, V2⟩ := V
            refine rj_if_eq (tgt := 66) dX11_deedHere_61 (by decide) (fun hc => ?_) (fun hc => ?_)
            · have V := V1 hc
              refine rj_aload_n dX11_deedHere_66 0 rfl rfl ?_
              refine rj_ldcS (i := 20) (by decide) rfl rfl rfl dX11_deedHere_67 ?_
              refine rm_callVi [.ref (1000 + (4 + 20))] (rest := []) ml_RX11_209 mvX11_isWord rfl dX11_deedHere_69 rfl rfl rfl rfl rfl (Nat.le_of_ble_eq_true rfl) (by decide) V (fun r7 M7 V => ?_)
              obtain ⟨V1, V2⟩ := V
              refine rj_if_eq (tgt := 78) dX11_deedHere_72 (by decide) (fun hc => ?_) (fun hc => ?_)
              · have V := V1 hc
                refine rj_aload_n dX11_deedHere_78 0 rfl rfl ?_
                refine rj_ldcS (i := 21) (by decide) rfl rfl rfl dX11_deedHere_79 ?_
                refine rm_callVi [.ref (1000 + (4 + 21))] (rest := []) ml_RX11_209 mvX11_isWord rfl dX11_deedHere_81 rfl rfl rfl rfl rfl (Nat.le_of_ble_eq_true rfl) (by decide) V (fun r8 M8 V => ?_)
                obtain ⟨V1, V2⟩ := V
                refine rj_if_eq (tgt := 90) dX11_deedHere_84 (by decide) (fun hc => ?_) (fun hc => ?_)
                · have V := V1 hc
                  refine rj_aload_n dX11_deedHere_90 0 rfl rfl ?_
                  refine rj_ldcS (i := 22) (by decide) rfl rfl rfl dX11_deedHere_91 ?_
                  refine rm_callVi [.ref (1000 + (4 + 22))] (rest := []) ml_RX11_209 mvX11_isWord rfl dX11_deedHere_93 rfl rfl rfl rfl rfl (Nat.le_of_ble_eq_true rfl) (by decide) V (fun r9 M9 V => ?_)
                  obtain ⟨V1, V2⟩ := V
                  refine rj_if_eq (tgt := 102) dX11_deedHere_96 (by decide) (fun hc => ?_) (fun hc => ?_)
                  · have V := V1 hc
                    refine rj_aload_n dX11_deedHere_102 0 rfl rfl ?_
                    refine rj_ldcS (i := 23) (by decide) rfl rfl rfl dX11_deedHere_103 ?_
                    refine rm_callVi [.ref (1000 + (4 + 23))] (rest := []) ml_RX11_209 mvX11_isWord rfl dX11_deedHere_105 rfl rfl rfl rfl rfl (Nat.le_of_ble_eq_true rfl) (by decide) V (fun r10 M10 V => ?_)
                    obtain ⟨V1, V2⟩ := V
                    refine rj_if_eq (tgt := 114) dX11_deedHere_108 (by decide) (fun hc => ?_) (fun hc => ?_)
                    · have V := V1 hc
                      refine rj_aload_n dX11_deedHere_114 0 rfl rfl ?_
                      refine rj_ldcS (i := 24) (by decide) rfl rfl rfl dX11_deedHere_115 ?_
                      refine rm_callVi [.ref (1000 + (4 + 24))] (rest := []) ml_RX11_209 mvX11_isWord rfl dX11_deedHere_117 rfl rfl rfl rfl rfl (Nat.le_of_ble_eq_true rfl) (by decide) V (fun r11 M11 V => ?_)
                      obtain ⟨V1, V2⟩ := V
                      refine rj_if_eq (tgt := 126) dX11_deedHere_120 (by decide) (fun hc => ?_) (fun hc => ?_)
                      · have V := V1 hc
                        refine rj_aload_n dX11_deedHere_126 0 rfl rfl ?_
                        refine rj_ldcS (i := 25) (by decide) rfl rfl rfl dX11_deedHere_127 ?_
                        refine rm_callVi [.ref (1000 + (4 + 25))] (rest := []) ml_RX11_209 mvX11_isWord rfl dX11_deedHere_129 rfl rfl rfl rfl rfl (Nat.le_of_ble_eq_true rfl) (by decide) V (fun r12 M12 V => ?_)
                        obtain ⟨V1, V2⟩ := V
                        refine rj_if_eq (tgt := 140) dX11_deedHere_132 (by decide) (fun hc => ?_) (fun hc => ?_)
                        · have V := V1 hc
                          refine rj_aload_n dX11_deedHere_140 0 rfl rfl ?_
                          refine rj_ldcS (i := 26) (by decide) rfl rfl rfl dX11_deedHere_141 ?_
                          refine rm_callVi [.ref (1000 + (4 + 26))] (rest := []) ml_RX11_209 mvX11_isWord rfl dX11_deedHere_143 rfl rfl rfl rfl rfl (Nat.le_of_ble_eq_true rfl) (by decide) V (fun r13 M13 V => ?_)
                          have KD : RM w (h + 1) kX11_deedHere 155 [(0, .ref 59)] [.int (if r13 = 0 then ((-1) : Int32) else (12 : Int32))] M13 Q := by
                            exact rm_iret dX11_deedHere_155 rfl rfl V
                          refine rj_if_eq (tgt := 154) dX11_deedHere_146 (by decide) (fun hc => ?_) (fun hc => ?_)
                          · refine rj_iconst (v := (-1)) dX11_deedHere_154 (by decide) ?_
                            exact rs_ite_t hc KD
                          · refine rj_bipush (v := 12) dX11_deedHere_149 (by decide) ?_
                            refine rj_goto (tgt := 155) dX11_deedHere_151 (by decide) ?_
                            exact rs_ite_f hc KD
                        · have V := V2 hc
                          refine rj_bipush (v := 11) dX11_deedHere_135 (by decide) ?_
                          refine rj_goto (tgt := 155) dX11_deedHere_137 (by decide) ?_
                          exact rm_iret dX11_deedHere_155 rfl rfl V
                      · have V := V2 hc
                        refine rj_bipush (v := 10) dX11_deedHere_123 (by decide) ?_
                        exact rm_iret dX11_deedHere_125 rfl rfl V
                    · have V := V2 hc
                      refine rj_bipush (v := 9) dX11_deedHere_111 (by decide) ?_
                      exact rm_iret dX11_deedHere_113 rfl rfl V
                  · have V := V2 hc
                    refine rj_bipush (v := 8) dX11_deedHere_99 (by decide) ?_
                    exact rm_iret dX11_deedHere_101 rfl rfl V
                · have V := V2 hc
                  refine rj_bipush (v := 7) dX11_deedHere_87 (by decide) ?_
                  exact rm_iret dX11_deedHere_89 rfl rfl V
              · have V := V2 hc
                refine rj_bipush (v := 6) dX11_deedHere_75 (by decide) ?_
                exact rm_iret dX11_deedHere_77 rfl rfl V
            · have V := V2 hc
              refine rj_iconst (v := 5) dX11_deedHere_64 (by decide) ?_
              exact rm_iret dX11_deedHere_65 rfl rfl V
          · have V := V2 hc
            refine rj_iconst (v := 4) dX11_deedHere_53 (by decide) ?_
            exact rm_iret dX11_deedHere_54 rfl rfl V
        · have V := V2 hc
          refine rj_iconst (v := 3) dX11_deedHere_42 (by decide) ?_
          exact rm_iret dX11_deedHere_43 rfl rfl V
      · have V := V2 hc
        refine rj_iconst (v := 2) dX11_deedHere_31 (by decide) ?_
        exact rm_iret dX11_deedHere_32 rfl rfl V
    · have V := V2 hc
      refine rj_iconst (v := 1) dX11_deedHere_20 (by decide) ?_
      exact rm_iret dX11_deedHere_21 rfl rfl V
  · have V := V2 hc
    refine rj_iconst (v := 0) dX11_deedHere_9 (by decide) ?_
    exact rm_iret dX11_deedHere_10 rfl rfl V
-- X11_wind
set_option maxRecDepth 100000 in
set_option maxHeartbeats 4000000 in
theorem vX11_wind_0 {w : Wd} {h : Nat}   (M : Mem) (Q : Option Value → Mem → Prop) (V : (CSi w h kX11_isSign [.ref 59, .int 45] M (fun r1 M1 => ((r1 = 0 → (CSi w h kX11_number [.ref 59, .int 0, .int 20] M1 (fun r2 M2 => (Q (some (.int (if r1 = 0 then r2 else (-r2)))) M2)))) ∧ (¬ (r1 = 0) → (CSv w h kX11_token [.ref 59] M1 (fun M2 => (CSi w h kX11_number [.ref 59, .int 0, .int 20] M2 (fun r2 M3 => (Q (some (.int (if r1 = 0 then r2 else (-r2)))) M3)))))))))) : RM w (h + 1) kX11_wind 0 [(0, .ref 59)] [] M Q := by
  refine rj_aload_n dX11_wind_0 0 rfl rfl ?_
  refine rj_bipush (v := 45) dX11_wind_1 (by decide) ?_
  refine rm_callVi [.int 45] (rest := []) ml_RX11_237 mvX11_isSign rfl dX11_wind_3 rfl rfl rfl rfl rfl (Nat.le_of_ble_eq_true rfl) (by decide) V (fun r1 M1 V => ?_)
  refine rj_istore_n (lv' := [(0, .ref 59), (1, .int r1)]) dX11_wind_6 rfl (by decide) rfl rfl ?_
  refine rj_iload_n dX11_wind_7 1 rfl rfl ?_
  obtain ⟨V1, V2⟩ := V
  refine rj_if_eq (tgt := 15) dX11_wind_8 (by decide) (fun hc => ?_) (fun hc => ?_)
  · have V := V1 hc
    refine rj_aload_n dX11_wind_15 0 rfl rfl ?_
    refine rj_iconst (v := 0) dX11_wind_16 (by decide) ?_
    refine rj_bipush (v := 20) dX11_wind_17 (by decide) ?_
    refine rm_callVi [.int 0, .int 20] (rest := []) ml_RX11_240 mvX11_number rfl dX11_wind_19 rfl rfl rfl rfl rfl (Nat.le_of_ble_eq_true rfl) (by decide) V (fun r2 M2 V => ?_)
    refine rj_istore_n (lv' := [(0, .ref 59), (1, .int r1), (2, .int r2)]) dX11_wind_22 rfl (by decide) rfl rfl ?_
    refine rj_iload_n dX11_wind_23 1 rfl rfl ?_
    have KD : RM w (h + 1) kX11_wind 33 [(0, .ref 59), (1, .int r1), (2, .int r2)] [.int (if r1 = 0 then r2 else (-r2))] M2 Q := by
      exact rm_iret dX11_wind_33 rfl rfl V
    refine rj_if_eq (tgt := 32) dX11_wind_24 (by decide) (fun hc => ?_) (fun hc => ?_)
    · refine rj_iload_n dX11_wind_32 2 rfl rfl ?_
      exact rs_ite_t hc KD
    · refine rj_iload_n dX11_wind_27 2 rfl rfl ?_
      refine rj_ineg dX11_wind_28 ?_
      refine rj_goto (tgt := 33) dX11_wind_29 (by decide) ?_
      exact rs_ite_f hc KD
  · have V := V2 hc
    refine rj_aload_n dX11_wind_11 0 rfl rfl ?_
    refine rm_callVv [] (rest := []) ml_RX11_204 mvX11_token rfl dX11_wind_12 rfl rfl rfl rfl rfl (Nat.le_of_ble_eq_true rfl) (by decide) V (fun M2 V => ?_)
    refine rj_aload_n dX11_wind_15 0 rfl rfl ?_
    refine rj_iconst (v := 0) dX11_wind_16 (by decide) ?_
    refine rj_bipush (v := 20) dX11_wind_17 (by decide) ?_
    refine rm_callVi [.int 0, .int 20] (rest := []) ml_RX11_240 mvX11_number rfl dX11_wind_19 rfl rfl rfl rfl rfl (Nat.le_of_ble_eq_true rfl) (by decide) V (fun r2 M3 V => ?_)
    refine rj_istore_n (lv' := [(0, .ref 59), (1, .int r1), (2, .int r2)]) dX11_wind_22 rfl (by decide) rfl rfl ?_
    refine rj_iload_n dX11_wind_23 1 rfl rfl ?_
    have KD : RM w (h + 1) kX11_wind 33 [(0, .ref 59), (1, .int r1), (2, .int r2)] [.int (if r1 = 0 then r2 else (-r2))] M3 Q := by
      exact rm_iret dX11_wind_33 rfl rfl V
    refine rj_if_eq (tgt := 32) dX11_wind_24 (by decide) (fun hc => ?_) (fun hc => ?_)
    · refine rj_iload_n dX11_wind_32 2 rfl rfl ?_
      exact rs_ite_t hc KD
    · refine rj_iload_n dX11_wind_27 2 rfl rfl ?_
      refine rj_ineg dX11_wind_28 ?_
      refine rj_goto (tgt := 33) dX11_wind_29 (by decide) ?_
      exact rs_ite_f hc KD
-- X11_deed
set_option maxRecDepth 100000 in
set_option maxHeartbeats 4000000 in
theorem vX11_deed_0 {w : Wd} {h : Nat} (a0 : Int32)  (M : Mem) (Q : Option Value → Mem → Prop) (V : (CSi w h kX11_deedHere [.ref 59] M (fun r1 M1 => ((¬ ((M1 59 11) = 0) → (∀ M2 : Mem, M2 = mset M1 59 11 1 → RM w (h + 1) kX11_deed 25 [(0, .ref 59), (1, .int a0), (2, .int r1)] [] M2 Q)) ∧ ((M1 59 11) = 0 → (∀ M2 : Mem, M2 = mset M1 59 11 (b2i (¬ (0 ≤ r1))) → RM w (h + 1) kX11_deed 25 [(0, .ref 59), (1, .int a0), (2, .int r1)] [] M2 Q)))))) : RM w (h + 1) kX11_deed 0 [(0, .ref 59), (1, .int a0)] [] M Q := by
  refine rj_aload_n dX11_deed_0 0 rfl rfl ?_
  refine rm_callVi [] (rest := []) ml_RX11_242 mvX11_deedHere rfl dX11_deed_1 rfl rfl rfl rfl rfl (Nat.le_of_ble_eq_true rfl) (by decide) V (fun r1 M1 V => ?_)
  refine rj_istore_n (lv' := [(0, .ref 59), (1, .int a0), (2, .int r1)]) dX11_deed_4 rfl (by decide) rfl rfl ?_
  refine rj_aload_n dX11_deed_5 0 rfl rfl ?_
  refine rj_aload_n dX11_deed_6 0 rfl rfl ?_
  refine rs_getI fl_RX11_192 rfl (by decide) (by decide) rfl dX11_deed_7 rfl ?_
  obtain ⟨V1, V2⟩ := V
  refine rj_if_ne (tgt := 17) dX11_deed_10 (by decide) (fun hc => ?_) (fun hc => ?_)
  · have V := V1 hc
    refine rj_iconst (v := 1) dX11_deed_17 (by decide) ?_
    refine rj_goto (tgt := 22) dX11_deed_18 (by decide) ?_
    refine rs_putI fl_RX11_192 (ft11_11 _ nofun) rfl (by decide) (by decide) rfl dX11_deed_22 rfl rfl rfl (fun M2 eM2 => ?_)
    have V := V M2 eM2
    exact rs_sub [0, 1, 2] rfl V
  · have V := V2 hc
    refine rj_iload_n dX11_deed_13 2 rfl rfl ?_
    have KD : RM w (h + 1) kX11_deed 22 [(0, .ref 59), (1, .int a0), (2, .int r1)] [.int (b2i (¬ (0 ≤ r1))), .ref 59] M1 Q := by
      refine rs_putI fl_RX11_192 (ft11_11 _ nofun) rfl (by decide) (by decide) rfl dX11_deed_22 (isB_n isB_b2i) (isB_f isB_b2i) rfl (fun M2 eM2 => ?_)
      have V := V M2 eM2
      exact rs_sub [0, 1, 2] rfl V
    refine rj_if_ge (tgt := 21) dX11_deed_14 (by decide) (fun hc => ?_) (fun hc => ?_)
    · refine rj_iconst (v := 0) dX11_deed_21 (by decide) ?_
      exact rs_b0 (fun q => q hc) KD
    · refine rj_iconst (v := 1) dX11_deed_17 (by decide) ?_
      refine rj_goto (tgt := 22) dX11_deed_18 (by decide) ?_
      exact rs_b1 hc KD
set_option maxRecDepth 100000 in
set_option maxHeartbeats 4000000 in
theorem vX11_deed_25 {w : Wd} {h : Nat} (v1 : Int32) (v2 : Int32)  (M : Mem) (Q : Option Value → Mem → Prop) (V : (((M 59 11) = 0 → (CSv w h kX11_token [.ref 59] M (fun M1 => (vp_in v1 666 ∧ ∀ M2 : Mem, M2 = mset M1 60 (Int32.toNatClampNeg v1) v2 → ((8 ≤ v2 → ((¬ (v2 = 10) → ((¬ (v2 = 8) → (CSi w h kX11_number [.ref 59, .int (b2i (v2 = 8)), .int (if v2 = 12 then (11 : Int32) else (9 : Int32))] M2 (fun r1 M3 => (vp_in (v1 + 1) 666 ∧ ∀ M4 : Mem, M4 = mset M3 60 (Int32.toNatClampNeg (v1 + 1)) r1 → (Q none M4))))) ∧ (v2 = 8 → (CSi w h kX11_number [.ref 59, .int (b2i (v2 = 8)), .int 50] M2 (fun r1 M3 => (vp_in (v1 + 1) 666 ∧ ∀ M4 : Mem, M4 = mset M3 60 (Int32.toNatClampNeg (v1 + 1)) r1 → (Q none M4))))))) ∧ (v2 = 10 → (CSi w h kX11_wind [.ref 59] M2 (fun r1 M3 => (vp_in (v1 + 1) 666 ∧ ∀ M4 : Mem, M4 = mset M3 60 (Int32.toNatClampNeg (v1 + 1)) r1 → (Q none M4))))))) ∧ (¬ (8 ≤ v2) → (CSi w h kX11_number [.ref 59, .int 1, .int 99] M2 (fun r1 M3 => (vp_in (v1 + 1) 666 ∧ ∀ M4 : Mem, M4 = mset M3 60 (Int32.toNatClampNeg (v1 + 1)) r1 → ((¬ ((M4 59 11) = 0) → (∀ M5 : Mem, M5 = mset M4 59 11 1 → RM w (h + 1) kX11_deed 90 [(0, .ref 59), (1, .int v1)] [] M5 Q)) ∧ ((M4 59 11) = 0 → (CSi w h kX11_isWord [.ref 59, .ref (1000 + (4 + 27))] M4 (fun r2 M5 => (∀ M6 : Mem, M6 = mset M5 59 11 (b2i (r2 = 0)) → RM w (h + 1) kX11_deed 90 [(0, .ref 59), (1, .int v1)] [] M6 Q)))))))))))))) ∧ (¬ ((M 59 11) = 0) → (Q none M)))) : RM w (h + 1) kX11_deed 25 [(0, .ref 59), (1, .int v1), (2, .int v2)] [] M Q := by
  refine rj_aload_n dX11_deed_25 0 rfl rfl ?_
  refine rs_getI fl_RX11_192 rfl (by decide) (by decide) rfl dX11_deed_26 rfl ?_
  obtain ⟨V1, V2⟩ := V
  refine rj_if_eq (tgt := 33) dX11_deed_29 (by decide) (fun hc => ?_) (fun hc => ?_)
  · have V := V1 hc
    refine rj_aload_n dX11_deed_33 0 rfl rfl ?_
    refine rm_callVv [] (rest := []) ml_RX11_204 mvX11_token rfl dX11_deed_34 rfl rfl rfl rfl rfl (Nat.le_of_ble_eq_true rfl) (by decide) V (fun M1 V => ?_)
    refine rj_aload_n dX11_deed_37 0 rfl rfl ?_
    refine rs_getR (t := 60) fl_RX11_9 rfl (by decide) (by decide) rfl dX11_deed_38 rfl (by omega) ?_
    refine rj_iload_n dX11_deed_41 1 rfl rfl ?_
    refine rj_iload_n dX11_deed_42 2 rfl rfl ?_
    obtain ⟨hb, V⟩ := V
    refine rs_iast dX11_deed_43 rfl hb (fun M2 eM2 => ?_)
    have V := V M2 eM2
    refine rj_iload_n dX11_deed_44 2 rfl rfl ?_
    refine rj_bipush (v := 8) dX11_deed_45 (by decide) ?_
    obtain ⟨V1, V2⟩ := V
    refine rj_icmp_ge (tgt := 120) dX11_deed_47 (by decide) (fun hc => ?_) (fun hc => ?_)
    · have V := V1 hc
      refine rj_iload_n dX11_deed_120 2 rfl rfl ?_
      refine rj_bipush (v := 10) dX11_deed_121 (by decide) ?_
      obtain ⟨V1, V2⟩ := V
      refine rj_icmp_ne (tgt := 141) dX11_deed_123 (by decide) (fun hc => ?_) (fun hc => ?_)
      · have V := V1 hc
        refine rj_aload_n dX11_deed_141 0 rfl rfl ?_
        refine rs_getR (t := 60) fl_RX11_9 rfl (by decide) (by decide) rfl dX11_deed_142 rfl (by omega) ?_
        refine rj_iload_n dX11_deed_145 1 rfl rfl ?_
        refine rj_iconst (v := 1) dX11_deed_146 (by decide) ?_
        refine rj_iadd dX11_deed_147 ?_
        refine rj_aload_n dX11_deed_148 0 rfl rfl ?_
        refine rj_iload_n dX11_deed_149 2 rfl rfl ?_
        refine rj_bipush (v := 8) dX11_deed_150 (by decide) ?_
        have KD : RM w (h + 1) kX11_deed 160 [(0, .ref 59), (1, .int v1), (2, .int v2)] [.int (b2i (v2 = 8)), .ref 59, .int (v1 + 1), .ref 60] M2 Q := by
          refine rj_iload_n dX11_deed_160 2 rfl rfl ?_
          refine rj_bipush (v := 8) dX11_deed_161 (by decide) ?_
          obtain ⟨V1, V2⟩ := V
          refine rj_icmp_ne (tgt := 171) dX11_deed_163 (by decide) (fun hc => ?_) (fun hc => ?_)
          · have V := V1 hc
            refine rj_iload_n dX11_deed_171 2 rfl rfl ?_
            refine rj_bipush (v := 12) dX11_deed_172 (by decide) ?_
            have KD : RM w (h + 1) kX11_deed 184 [(0, .ref 59), (1, .int v1), (2, .int v2)] [.int (if v2 = 12 then (11 : Int32) else (9 : Int32)), .int (b2i (v2 = 8)), .ref 59, .int (v1 + 1), .ref 60] M2 Q := by
              refine rm_callVi [.int (b2i (v2 = 8)), .int (if v2 = 12 then (11 : Int32) else (9 : Int32))] (rest := [.int (v1 + 1), .ref 60]) ml_RX11_240 mvX11_number rfl dX11_deed_184 rfl rfl rfl rfl rfl (Nat.le_of_ble_eq_true rfl) (by decide) V (fun r1 M3 V => ?_)
              obtain ⟨hb, V⟩ := V
              refine rs_iast dX11_deed_187 rfl hb (fun M4 eM4 => ?_)
              have V := V M4 eM4
              exact rm_vret dX11_deed_188 rfl V
            refine rj_icmp_ne (tgt := 182) dX11_deed_174 (by decide) (fun hc => ?_) (fun hc => ?_)
            · refine rj_bipush (v := 9) dX11_deed_182 (by decide) ?_
              exact rs_ite_f hc KD
            · refine rj_bipush (v := 11) dX11_deed_177 (by decide) ?_
              refine rj_goto (tgt := 184) dX11_deed_179 (by decide) ?_
              exact rs_ite_t hc KD
          · have V := V2 hc
            refine rj_bipush (v := 50) dX11_deed_166 (by decide) ?_
            refine rj_goto (tgt := 184) dX11_deed_168 (by decide) ?_
            refine rm_callVi [.int (b2i (v2 = 8)), .int 50] (rest := [.int (v1 + 1), .ref 60]) ml_RX11_240 mvX11_number rfl dX11_deed_184 rfl rfl rfl rfl rfl (Nat.le_of_ble_eq_true rfl) (by decide) V (fun r1 M3 V => ?_)
            obtain ⟨hb, V⟩ := V
            refine rs_iast dX11_deed_187 rfl hb (fun M4 eM4 => ?_)
            have V := V M4 eM4
            exact rm_vret dX11_deed_188 rfl V
        refine rj_icmp_ne (tgt := 159) dX11_deed_152 (by decide) (fun hc => ?_) (fun hc => ?_)
        · refine rj_iconst (v := 0) dX11_deed_159 (by decide) ?_
          exact rs_b0 hc KD
        · refine rj_iconst (v := 1) dX11_deed_155 (by decide) ?_
          refine rj_goto (tgt := 160) dX11_deed_156 (by decide) ?_
          exact rs_b1 hc KD
      · have V := V2 hc
        refine rj_aload_n dX11_deed_126 0 rfl rfl ?_
        refine rs_getR (t := 60) fl_RX11_9 rfl (by decide) (by decide) rfl dX11_deed_127 rfl (by omega) ?_
        refine rj_iload_n dX11_deed_130 1 rfl rfl ?_
        refine rj_iconst (v := 1) dX11_deed_131 (by decide) ?_
        refine rj_iadd dX11_deed_132 ?_
        refine rj_aload_n dX11_deed_133 0 rfl rfl ?_
        refine rm_callVi [] (rest := [.int (v1 + 1), .ref 60]) ml_RX11_247 mvX11_wind rfl dX11_deed_134 rfl rfl rfl rfl rfl (Nat.le_of_ble_eq_true rfl) (by decide) V (fun r1 M3 V => ?_)
        obtain ⟨hb, V⟩ := V
        refine rs_iast dX11_deed_137 rfl hb (fun M4 eM4 => ?_)
        have V := V M4 eM4
        refine rj_goto (tgt := 188) dX11_deed_138 (by decide) ?_
        exact rm_vret dX11_deed_188 rfl V
    · have V := V2 hc
      refine rj_aload_n dX11_deed_50 0 rfl rfl ?_
      refine rs_getR (t := 60) fl_RX11_9 rfl (by decide) (by decide) rfl dX11_deed_51 rfl (by omega) ?_
      refine rj_iload_n dX11_deed_54 1 rfl rfl ?_
      refine rj_iconst (v := 1) dX11_deed_55 (by decide) ?_
      refine rj_iadd dX11_deed_56 ?_
      refine rj_aload_n dX11_deed_57 0 rfl rfl ?_
      refine rj_iconst (v := 1) dX11_deed_58 (by decide) ?_
      refine rj_bipush (v := 99) dX11_deed_59 (by decide) ?_
      refine rm_callVi [.int 1, .int 99] (rest := [.int (v1 + 1), .ref 60]) ml_RX11_240 mvX11_number rfl dX11_deed_61 rfl rfl rfl rfl rfl (Nat.le_of_ble_eq_true rfl) (by decide) V (fun r1 M3 V => ?_)
      obtain ⟨hb, V⟩ := V
      refine rs_iast dX11_deed_64 rfl hb (fun M4 eM4 => ?_)
      have V := V M4 eM4
      refine rj_aload_n dX11_deed_65 0 rfl rfl ?_
      refine rj_aload_n dX11_deed_66 0 rfl rfl ?_
      refine rs_getI fl_RX11_192 rfl (by decide) (by decide) rfl dX11_deed_67 rfl ?_
      obtain ⟨V1, V2⟩ := V
      refine rj_if_ne (tgt := 82) dX11_deed_70 (by decide) (fun hc => ?_) (fun hc => ?_)
      · have V := V1 hc
        refine rj_iconst (v := 1) dX11_deed_82 (by decide) ?_
        refine rj_goto (tgt := 87) dX11_deed_83 (by decide) ?_
        refine rs_putI fl_RX11_192 (ft11_11 _ nofun) rfl (by decide) (by decide) rfl dX11_deed_87 rfl rfl rfl (fun M5 eM5 => ?_)
        have V := V M5 eM5
        exact rs_sub [0, 1] rfl V
      · have V := V2 hc
        refine rj_aload_n dX11_deed_73 0 rfl rfl ?_
        refine rj_ldcS (i := 27) (by decide) rfl rfl rfl dX11_deed_74 ?_
        refine rm_callVi [.ref (1000 + (4 + 27))] (rest := [.ref 59]) ml_RX11_209 mvX11_isWord rfl dX11_deed_76 rfl rfl rfl rfl rfl (Nat.le_of_ble_eq_true rfl) (by decide) V (fun r2 M5 V => ?_)
        have KD : RM w (h + 1) kX11_deed 87 [(0, .ref 59), (1, .int v1), (2, .int v2)] [.int (b2i (r2 = 0)), .ref 59] M5 Q := by
          refine rs_putI fl_RX11_192 (ft11_11 _ nofun) rfl (by decide) (by decide) rfl dX11_deed_87 (isB_n isB_b2i) (isB_f isB_b2i) rfl (fun M6 eM6 => ?_)
          have V := V M6 eM6
          exact rs_sub [0, 1] rfl V
        refine rj_if_ne (tgt := 86) dX11_deed_79 (by decide) (fun hc => ?_) (fun hc => ?_)
        · refine rj_iconst (v := 0) dX11_deed_86 (by decide) ?_
          exact rs_b0 hc KD
        · refine rj_iconst (v := 1) dX11_deed_82 (by decide) ?_
          refine rj_goto (tgt := 87) dX11_deed_83 (by decide) ?_
          exact rs_b1 hc KD
  · have V := V2 hc
    exact rm_vret dX11_deed_32 rfl V
set_option maxRecDepth 100000 in
set_option maxHeartbeats 4000000 in
theorem vX11_deed_90 {w : Wd} {h : Nat} (v1 : Int32)  (M : Mem) (Q : Option Value → Mem → Prop) (V : (((M 59 11) = 0 → (CSv w h kX11_token [.ref 59] M (fun M1 => (CSi w h kX11_number [.ref 59, .int 0, .int 11] M1 (fun r1 M2 => (vp_in (v1 + 2) 666 ∧ ∀ M3 : Mem, M3 = mset M2 60 (Int32.toNatClampNeg (v1 + 2)) r1 → (Q none M3))))))) ∧ (¬ ((M 59 11) = 0) → (Q none M)))) : RM w (h + 1) kX11_deed 90 [(0, .ref 59), (1, .int v1)] [] M Q := by
  refine rj_aload_n dX11_deed_90 0 rfl rfl ?_
  refine rs_getI fl_RX11_192 rfl (by decide) (by decide) rfl dX11_deed_91 rfl ?_
  obtain ⟨V1, V2⟩ := V
  refine rj_if_eq (tgt := 98) dX11_deed_94 (by decide) (fun hc => ?_) (fun hc => ?_)
  · have V := V1 hc
    refine rj_aload_n dX11_deed_98 0 rfl rfl ?_
    refine rm_callVv [] (rest := []) ml_RX11_204 mvX11_token rfl dX11_deed_99 rfl rfl rfl rfl rfl (Nat.le_of_ble_eq_true rfl) (by decide) V (fun M1 V => ?_)
    refine rj_aload_n dX11_deed_102 0 rfl rfl ?_
    refine rs_getR (t := 60) fl_RX11_9 rfl (by decide) (by decide) rfl dX11_deed_103 rfl (by omega) ?_
    refine rj_iload_n dX11_deed_106 1 rfl rfl ?_
    refine rj_iconst (v := 2) dX11_deed_107 (by decide) ?_
    refine rj_iadd dX11_deed_108 ?_
    refine rj_aload_n dX11_deed_109 0 rfl rfl ?_
    refine rj_iconst (v := 0) dX11_deed_110 (by decide) ?_
    refine rj_bipush (v := 11) dX11_deed_111 (by decide) ?_
    refine rm_callVi [.int 0, .int 11] (rest := [.int (v1 + 2), .ref 60]) ml_RX11_240 mvX11_number rfl dX11_deed_113 rfl rfl rfl rfl rfl (Nat.le_of_ble_eq_true rfl) (by decide) V (fun r1 M2 V => ?_)
    obtain ⟨hb, V⟩ := V
    refine rs_iast dX11_deed_116 rfl hb (fun M3 eM3 => ?_)
    have V := V M3 eM3
    refine rj_goto (tgt := 188) dX11_deed_117 (by decide) ?_
    exact rm_vret dX11_deed_188 rfl V
  · have V := V2 hc
    exact rm_vret dX11_deed_97 rfl V
-- X11_program
set_option maxRecDepth 100000 in
set_option maxHeartbeats 4000000 in
theorem vX11_program_0 {w : Wd} {h : Nat}   (M : Mem) (Q : Option Value → Mem → Prop) (V : (vp_in 5 666 ∧ ((¬ ((M 60 (Int32.toNatClampNeg 5)) = 6) → (vp_in 5 666 ∧ (∀ x1 : Int32, x1 = (434 + (37 * (M 60 (Int32.toNatClampNeg 5)))) → (∀ M1 : Mem, M1 = mset M 59 9 0 → (∀ M2 : Mem, M2 = mset M1 59 11 0 → (CSv w h kX11_token [.ref 59] M2 (fun M3 => RM w (h + 1) kX11_program 50 [(0, .ref 59), (1, .int x1), (2, .int 0), (3, .int 1)] [] M3 Q))))))) ∧ ((M 60 (Int32.toNatClampNeg 5)) = 6 → (CSi w h kX11_finds [.ref 59, .int (-1000002)] M (fun r1 M1 => (Q (some (.int r1)) M1))))))) : RM w (h + 1) kX11_program 0 [(0, .ref 59)] [] M Q := by
  refine rj_aload_n dX11_program_0 0 rfl rfl ?_
  refine rs_getR (t := 60) fl_RX11_9 rfl (by decide) (by decide) rfl dX11_program_1 rfl (by omega) ?_
  refine rj_iconst (v := 5) dX11_program_4 (by decide) ?_
  obtain ⟨hb, V⟩ := V
  refine rs_iald dX11_program_5 rfl hb ?_
  refine rj_bipush (v := 6) dX11_program_6 (by decide) ?_
  obtain ⟨V1, V2⟩ := V
  refine rj_icmp_ne (tgt := 18) dX11_program_8 (by decide) (fun hc => ?_) (fun hc => ?_)
  · have V := V1 hc
    refine rj_sipush (v := 434) dX11_program_18 (by decide) ?_
    refine rj_bipush (v := 37) dX11_program_21 (by decide) ?_
    refine rj_aload_n dX11_program_23 0 rfl rfl ?_
    refine rs_getR (t := 60) fl_RX11_9 rfl (by decide) (by decide) rfl dX11_program_24 rfl (by omega) ?_
    refine rj_iconst (v := 5) dX11_program_27 (by decide) ?_
    obtain ⟨hb, V⟩ := V
    refine rs_iald dX11_program_28 rfl hb ?_
    refine rj_imul dX11_program_29 ?_
    refine rj_iadd dX11_program_30 ?_
    refine rj_top (fun x1 ex1 => ?_)
    have V := V x1 ex1
    refine rj_istore_n (lv' := [(0, .ref 59), (1, .int x1)]) dX11_program_31 rfl (by decide) rfl rfl ?_
    refine rj_aload_n dX11_program_32 0 rfl rfl ?_
    refine rj_iconst (v := 0) dX11_program_33 (by decide) ?_
    refine rs_putI fl_RX11_176 (ft11_9 _ nofun) rfl (by decide) (by decide) rfl dX11_program_34 rfl rfl rfl (fun M1 eM1 => ?_)
    have V := V M1 eM1
    refine rj_aload_n dX11_program_37 0 rfl rfl ?_
    refine rj_iconst (v := 0) dX11_program_38 (by decide) ?_
    refine rs_putI fl_RX11_192 (ft11_11 _ nofun) rfl (by decide) (by decide) rfl dX11_program_39 rfl rfl rfl (fun M2 eM2 => ?_)
    have V := V M2 eM2
    refine rj_aload_n dX11_program_42 0 rfl rfl ?_
    refine rm_callVv [] (rest := []) ml_RX11_204 mvX11_token rfl dX11_program_43 rfl rfl rfl rfl rfl (Nat.le_of_ble_eq_true rfl) (by decide) V (fun M3 V => ?_)
    refine rj_iconst (v := 0) dX11_program_46 (by decide) ?_
    refine rj_istore_n (lv' := [(0, .ref 59), (1, .int x1), (2, .int 0)]) dX11_program_47 rfl (by decide) rfl rfl ?_
    refine rj_iconst (v := 1) dX11_program_48 (by decide) ?_
    refine rj_istore_n (lv' := [(0, .ref 59), (1, .int x1), (2, .int 0), (3, .int 1)]) dX11_program_49 rfl (by decide) rfl rfl ?_
    exact rs_sub [0, 1, 2, 3] rfl V
  · have V := V2 hc
    refine rj_aload_n dX11_program_11 0 rfl rfl ?_
    refine rj_ldc (v := (-1000002)) rfl kc_RX11_136 dX11_program_12 ?_
    refine rm_callVi [.int (-1000002)] (rest := []) ml_RX11_94 mvX11_finds rfl dX11_program_14 rfl rfl rfl rfl rfl (Nat.le_of_ble_eq_true rfl) (by decide) V (fun r1 M1 V => ?_)
    exact rm_iret dX11_program_17 rfl rfl V
set_option maxRecDepth 100000 in
set_option maxHeartbeats 4000000 in
theorem vX11_program_50 {w : Wd} {h : Nat} (v1 : Int32) (v2 : Int32) (v3 : Int32)  (M : Mem) (Q : Option Value → Mem → Prop) (V : ((v3 = 0 → ((¬ ((M 59 11) = 0) → (∀ M1 : Mem, M1 = mset M 59 11 1 → (∀ x1 : Int32, x1 = (M1 59 8) → (∀ M2 : Mem, M2 = mset M1 59 6 0 → (((M2 59 11) = 0 → (vp_in v1 666 ∧ ∀ M3 : Mem, M3 = mset M2 60 (Int32.toNatClampNeg v1) v2 → (vp_in 5 666 ∧ (vp_in 5 666 ∧ ∀ M4 : Mem, M4 = mset M3 60 (Int32.toNatClampNeg 5) ((M3 60 (Int32.toNatClampNeg 5)) + 1) → (vp_in 5 666 ∧ (Q (some (.int ((M4 60 (Int32.toNatClampNeg 5)) - 1))) M4)))))) ∧ (¬ ((M2 59 11) = 0) → (Q (some (.int ((-1) - x1))) M2))))))) ∧ ((M 59 11) = 0 → (∀ M1 : Mem, M1 = mset M 59 11 (b2i (¬ ((M 59 7) = 0))) → (∀ x1 : Int32, x1 = (M1 59 8) → (∀ M2 : Mem, M2 = mset M1 59 6 0 → (((M2 59 11) = 0 → (vp_in v1 666 ∧ ∀ M3 : Mem, M3 = mset M2 60 (Int32.toNatClampNeg v1) v2 → (vp_in 5 666 ∧ (vp_in 5 666 ∧ ∀ M4 : Mem, M4 = mset M3 60 (Int32.toNatClampNeg 5) ((M3 60 (Int32.toNatClampNeg 5)) + 1) → (vp_in 5 666 ∧ (Q (some (.int ((M4 60 (Int32.toNatClampNeg 5)) - 1))) M4)))))) ∧ (¬ ((M2 59 11) = 0) → (Q (some (.int ((-1) - x1))) M2))))))))) ∧ (¬ (v3 = 0) → (∀ M1 : Mem, M1 = mset M 59 11 (b2i (v2 = 12)) → ((¬ ((M1 59 11) = 0) → (∀ x1 : Int32, x1 = v2 + 1 → (CSi w h kX11_isSign [.ref 59, .int 59] M1 (fun r1 M2 => ((r1 = 0 → RM w (h + 1) kX11_program 50 [(0, .ref 59), (1, .int v1), (2, .int x1), (3, .int r1)] [] M2 Q) ∧ (¬ (r1 = 0) → (CSv w h kX11_token [.ref 59] M2 (fun M3 => RM w (h + 1) kX11_program 50 [(0, .ref 59), (1, .int v1), (2, .int x1), (3, .int r1)] [] M3 Q)))))))) ∧ ((M1 59 11) = 0 → (CSv w h kX11_deed [.ref 59, .int ((v1 + 1) + (3 * v2))] M1 (fun M2 => (∀ x1 : Int32, x1 = v2 + 1 → (CSi w h kX11_isSign [.ref 59, .int 59] M2 (fun r1 M3 => ((r1 = 0 → RM w (h + 1) kX11_program 50 [(0, .ref 59), (1, .int v1), (2, .int x1), (3, .int r1)] [] M3 Q) ∧ (¬ (r1 = 0) → (CSv w h kX11_token [.ref 59] M3 (fun M4 => RM w (h + 1) kX11_program 50 [(0, .ref 59), (1, .int v1), (2, .int x1), (3, .int r1)] [] M4 Q))))))))))))))) : RM w (h + 1) kX11_program 50 [(0, .ref 59), (1, .int v1), (2, .int v2), (3, .int v3)] [] M Q := by
  refine rj_iload_n dX11_program_50 3 rfl rfl ?_
  obtain ⟨V1, V2⟩ := V
  refine rj_if_eq (tgt := 108) dX11_program_51 (by decide) (fun hc => ?_) (fun hc => ?_)
  · have V := V1 hc
    refine rj_aload_n dX11_program_108 0 rfl rfl ?_
    refine rj_aload_n dX11_program_109 0 rfl rfl ?_
    refine rs_getI fl_RX11_192 rfl (by decide) (by decide) rfl dX11_program_110 rfl ?_
    obtain ⟨V1, V2⟩ := V
    refine rj_if_ne (tgt := 123) dX11_program_113 (by decide) (fun hc => ?_) (fun hc => ?_)
    · have V := V1 hc
      refine rj_iconst (v := 1) dX11_program_123 (by decide) ?_
      refine rj_goto (tgt := 128) dX11_program_124 (by decide) ?_
      refine rs_putI fl_RX11_192 (ft11_11 _ nofun) rfl (by decide) (by decide) rfl dX11_program_128 rfl rfl rfl (fun M1 eM1 => ?_)
      have V := V M1 eM1
      refine rj_aload_n dX11_program_131 0 rfl rfl ?_
      refine rs_getI fl_RX11_179 rfl (by decide) (by decide) rfl dX11_program_132 rfl ?_
      refine rj_top (fun x1 ex1 => ?_)
      have V := V x1 ex1
      refine rj_istore (lv' := [(0, .ref 59), (1, .int v1), (2, .int v2), (3, .int v3), (4, .int x1)]) dX11_program_135 (by decide) rfl rfl ?_
      refine rj_aload_n dX11_program_137 0 rfl rfl ?_
      refine rj_iconst (v := 0) dX11_program_138 (by decide) ?_
      refine rs_putI fl_RX11_172 (ft11_6 _ nofun) rfl (by decide) (by decide) rfl dX11_program_139 rfl rfl rfl (fun M2 eM2 => ?_)
      have V := V M2 eM2
      refine rj_aload_n dX11_program_142 0 rfl rfl ?_
      refine rs_getI fl_RX11_192 rfl (by decide) (by decide) rfl dX11_program_143 rfl ?_
      obtain ⟨V1, V2⟩ := V
      refine rj_if_eq (tgt := 154) dX11_program_146 (by decide) (fun hc => ?_) (fun hc => ?_)
      · have V := V1 hc
        refine rj_aload_n dX11_program_154 0 rfl rfl ?_
        refine rs_getR (t := 60) fl_RX11_9 rfl (by decide) (by decide) rfl dX11_program_155 rfl (by omega) ?_
        refine rj_iload_n dX11_program_158 1 rfl rfl ?_
        refine rj_iload_n dX11_program_159 2 rfl rfl ?_
        obtain ⟨hb, V⟩ := V
        refine rs_iast dX11_program_160 rfl hb (fun M3 eM3 => ?_)
        have V := V M3 eM3
        refine rj_aload_n dX11_program_161 0 rfl rfl ?_
        refine rs_getR (t := 60) fl_RX11_9 rfl (by decide) (by decide) rfl dX11_program_162 rfl (by omega) ?_
        refine rj_iconst (v := 5) dX11_program_165 (by decide) ?_
        refine rj_dup2 dX11_program_166 rfl rfl ?_
        obtain ⟨hb, V⟩ := V
        refine rs_iald dX11_program_167 rfl hb ?_
        refine rj_iconst (v := 1) dX11_program_168 (by decide) ?_
        refine rj_iadd dX11_program_169 ?_
        obtain ⟨hb, V⟩ := V
        refine rs_iast dX11_program_170 rfl hb (fun M4 eM4 => ?_)
        have V := V M4 eM4
        refine rj_aload_n dX11_program_171 0 rfl rfl ?_
        refine rs_getR (t := 60) fl_RX11_9 rfl (by decide) (by decide) rfl dX11_program_172 rfl (by omega) ?_
        refine rj_iconst (v := 5) dX11_program_175 (by decide) ?_
        obtain ⟨hb, V⟩ := V
        refine rs_iald dX11_program_176 rfl hb ?_
        refine rj_iconst (v := 1) dX11_program_177 (by decide) ?_
        refine rj_isub dX11_program_178 ?_
        exact rm_iret dX11_program_179 rfl rfl V
      · have V := V2 hc
        refine rj_iconst (v := (-1)) dX11_program_149 (by decide) ?_
        refine rj_iload dX11_program_150 4 rfl ?_
        refine rj_isub dX11_program_152 ?_
        exact rm_iret dX11_program_153 rfl rfl V
    · have V := V2 hc
      refine rj_aload_n dX11_program_116 0 rfl rfl ?_
      refine rs_getI fl_RX11_189 rfl (by decide) (by decide) rfl dX11_program_117 rfl ?_
      have KD : RM w (h + 1) kX11_program 128 [(0, .ref 59), (1, .int v1), (2, .int v2), (3, .int v3)] [.int (b2i (¬ ((M 59 7) = 0))), .ref 59] M Q := by
        refine rs_putI fl_RX11_192 (ft11_11 _ nofun) rfl (by decide) (by decide) rfl dX11_program_128 (isB_n isB_b2i) (isB_f isB_b2i) rfl (fun M1 eM1 => ?_)
        have V := V M1 eM1
        refine rj_aload_n dX11_program_131 0 rfl rfl ?_
        refine rs_getI fl_RX11_179 rfl (by decide) (by decide) rfl dX11_program_132 rfl ?_
        refine rj_top (fun x1 ex1 => ?_)
        have V := V x1 ex1
        refine rj_istore (lv' := [(0, .ref 59), (1, .int v1), (2, .int v2), (3, .int v3), (4, .int x1)]) dX11_program_135 (by decide) rfl rfl ?_
        refine rj_aload_n dX11_program_137 0 rfl rfl ?_
        refine rj_iconst (v := 0) dX11_program_138 (by decide) ?_
        refine rs_putI fl_RX11_172 (ft11_6 _ nofun) rfl (by decide) (by decide) rfl dX11_program_139 rfl rfl rfl (fun M2 eM2 => ?_)
        have V := V M2 eM2
        refine rj_aload_n dX11_program_142 0 rfl rfl ?_
        refine rs_getI fl_RX11_192 rfl (by decide) (by decide) rfl dX11_program_143 rfl ?_
        obtain ⟨V1, V2⟩ := V
        refine rj_if_eq (tgt := 154) dX11_program_146 (by decide) (fun hc => ?_) (fun hc => ?_)
        · have V := V1 hc
          refine rj_aload_n dX11_program_154 0 rfl rfl ?_
          refine rs_getR (t := 60) fl_RX11_9 rfl (by decide) (by decide) rfl dX11_program_155 rfl (by omega) ?_
          refine rj_iload_n dX11_program_158 1 rfl rfl ?_
          refine rj_iload_n dX11_program_159 2 rfl rfl ?_
          obtain ⟨hb, V⟩ := V
          refine rs_iast dX11_program_160 rfl hb (fun M3 eM3 => ?_)
          have V := V M3 eM3
          refine rj_aload_n dX11_program_161 0 rfl rfl ?_
          refine rs_getR (t := 60) fl_RX11_9 rfl (by decide) (by decide) rfl dX11_program_162 rfl (by omega) ?_
          refine rj_iconst (v := 5) dX11_program_165 (by decide) ?_
          refine rj_dup2 dX11_program_166 rfl rfl ?_
          obtain ⟨hb, V⟩ := V
          refine rs_iald dX11_program_167 rfl hb ?_
          refine rj_iconst (v := 1) dX11_program_168 (by decide) ?_
          refine rj_iadd dX11_program_169 ?_
          obtain ⟨hb, V⟩ := V
          refine rs_iast dX11_program_170 rfl hb (fun M4 eM4 => ?_)
          have V := V M4 eM4
          refine rj_aload_n dX11_program_171 0 rfl rfl ?_
          refine rs_getR (t := 60) fl_RX11_9 rfl (by decide) (by decide) rfl dX11_program_172 rfl (by omega) ?_
          refine rj_iconst (v := 5) dX11_program_175 (by decide) ?_
          obtain ⟨hb, V⟩ := V
          refine rs_iald dX11_program_176 rfl hb ?_
          refine rj_iconst (v := 1) dX11_program_177 (by decide) ?_
          refine rj_isub dX11_program_178 ?_
          exact rm_iret dX11_program_179 rfl rfl V
        · have V := V2 hc
          refine rj_iconst (v := (-1)) dX11_program_149 (by decide) ?_
          refine rj_iload dX11_program_150 4 rfl ?_
          refine rj_isub dX11_program_152 ?_
          exact rm_iret dX11_program_153 rfl rfl V
      refine rj_if_eq (tgt := 127) dX11_program_120 (by decide) (fun hc => ?_) (fun hc => ?_)
      · refine rj_iconst (v := 0) dX11_program_127 (by decide) ?_
        exact rs_b0 (fun q => q hc) KD
      · refine rj_iconst (v := 1) dX11_program_123 (by decide) ?_
        refine rj_goto (tgt := 128) dX11_program_124 (by decide) ?_
        exact rs_b1 hc KD
  · have V := V2 hc
    refine rj_aload_n dX11_program_54 0 rfl rfl ?_
    refine rj_iload_n dX11_program_55 2 rfl rfl ?_
    refine rj_bipush (v := 12) dX11_program_56 (by decide) ?_
    have KD : RM w (h + 1) kX11_program 66 [(0, .ref 59), (1, .int v1), (2, .int v2), (3, .int v3)] [.int (b2i (v2 = 12)), .ref 59] M Q := by
      refine rs_putI fl_RX11_192 (ft11_11 _ nofun) rfl (by decide) (by decide) rfl dX11_program_66 (isB_n isB_b2i) (isB_f isB_b2i) rfl (fun M1 eM1 => ?_)
      have V := V M1 eM1
      refine rj_aload_n dX11_program_69 0 rfl rfl ?_
      refine rs_getI fl_RX11_192 rfl (by decide) (by decide) rfl dX11_program_70 rfl ?_
      obtain ⟨V1, V2⟩ := V
      refine rj_if_ne (tgt := 87) dX11_program_73 (by decide) (fun hc => ?_) (fun hc => ?_)
      · have V := V1 hc
        refine rj_iincV (c := 1) (fun y => [(0, .ref 59), (1, .int v1), (2, .int y), (3, .int v3)]) dX11_program_87 2 rfl (by decide) (by decide) rfl (fun _ => rfl) (fun x1 ex1 => ?_)
        have V := V x1 ex1
        refine rj_aload_n dX11_program_90 0 rfl rfl ?_
        refine rj_bipush (v := 59) dX11_program_91 (by decide) ?_
        refine rm_callVi [.int 59] (rest := []) ml_RX11_237 mvX11_isSign rfl dX11_program_93 rfl rfl rfl rfl rfl (Nat.le_of_ble_eq_true rfl) (by decide) V (fun r1 M2 V => ?_)
        refine rj_istore_n (lv' := [(0, .ref 59), (1, .int v1), (2, .int x1), (3, .int r1)]) dX11_program_96 rfl (by decide) rfl rfl ?_
        refine rj_iload_n dX11_program_97 3 rfl rfl ?_
        obtain ⟨V1, V2⟩ := V
        refine rj_if_eq (tgt := 50) dX11_program_98 (by decide) (fun hc => ?_) (fun hc => ?_)
        · have V := V1 hc
          exact rs_sub [0, 1, 2, 3] rfl V
        · have V := V2 hc
          refine rj_aload_n dX11_program_101 0 rfl rfl ?_
          refine rm_callVv [] (rest := []) ml_RX11_204 mvX11_token rfl dX11_program_102 rfl rfl rfl rfl rfl (Nat.le_of_ble_eq_true rfl) (by decide) V (fun M3 V => ?_)
          refine rj_goto (tgt := 50) dX11_program_105 (by decide) ?_
          exact rs_sub [0, 1, 2, 3] rfl V
      · have V := V2 hc
        refine rj_aload_n dX11_program_76 0 rfl rfl ?_
        refine rj_iload_n dX11_program_77 1 rfl rfl ?_
        refine rj_iconst (v := 1) dX11_program_78 (by decide) ?_
        refine rj_iadd dX11_program_79 ?_
        refine rj_iconst (v := 3) dX11_program_80 (by decide) ?_
        refine rj_iload_n dX11_program_81 2 rfl rfl ?_
        refine rj_imul dX11_program_82 ?_
        refine rj_iadd dX11_program_83 ?_
        refine rm_callVv [.int ((v1 + 1) + (3 * v2))] (rest := []) ml_RX11_249 mvX11_deed rfl dX11_program_84 rfl rfl rfl rfl rfl (Nat.le_of_ble_eq_true rfl) (by decide) V (fun M2 V => ?_)
        refine rj_iincV (c := 1) (fun y => [(0, .ref 59), (1, .int v1), (2, .int y), (3, .int v3)]) dX11_program_87 2 rfl (by decide) (by decide) rfl (fun _ => rfl) (fun x1 ex1 => ?_)
        have V := V x1 ex1
        refine rj_aload_n dX11_program_90 0 rfl rfl ?_
        refine rj_bipush (v := 59) dX11_program_91 (by decide) ?_
        refine rm_callVi [.int 59] (rest := []) ml_RX11_237 mvX11_isSign rfl dX11_program_93 rfl rfl rfl rfl rfl (Nat.le_of_ble_eq_true rfl) (by decide) V (fun r1 M3 V => ?_)
        refine rj_istore_n (lv' := [(0, .ref 59), (1, .int v1), (2, .int x1), (3, .int r1)]) dX11_program_96 rfl (by decide) rfl rfl ?_
        refine rj_iload_n dX11_program_97 3 rfl rfl ?_
        obtain ⟨V1, V2⟩ := V
        refine rj_if_eq (tgt := 50) dX11_program_98 (by decide) (fun hc => ?_) (fun hc => ?_)
        · have V := V1 hc
          exact rs_sub [0, 1, 2, 3] rfl V
        · have V := V2 hc
          refine rj_aload_n dX11_program_101 0 rfl rfl ?_
          refine rm_callVv [] (rest := []) ml_RX11_204 mvX11_token rfl dX11_program_102 rfl rfl rfl rfl rfl (Nat.le_of_ble_eq_true rfl) (by decide) V (fun M4 V => ?_)
          refine rj_goto (tgt := 50) dX11_program_105 (by decide) ?_
          exact rs_sub [0, 1, 2, 3] rfl V
    refine rj_icmp_ne (tgt := 65) dX11_program_58 (by decide) (fun hc => ?_) (fun hc => ?_)
    · refine rj_iconst (v := 0) dX11_program_65 (by decide) ?_
      exact rs_b0 hc KD
    · refine rj_iconst (v := 1) dX11_program_61 (by decide) ?_
      refine rj_goto (tgt := 66) dX11_program_62 (by decide) ?_
      exact rs_b1 hc KD
-- X11_isProgram
set_option maxRecDepth 100000 in
set_option maxHeartbeats 4000000 in
theorem vX11_isProgram_0 {w : Wd} {h : Nat} (a0 : Int32)  (M : Mem) (Q : Option Value → Mem → Prop) (V : (vp_in 5 666 ∧ (Q (some (.int (b2i ((0 : Int32) ≤ a0 ∧ a0 ≤ ((M 60 (Int32.toNatClampNeg 5)) - 1))))) M))) : RM w (h + 1) kX11_isProgram 0 [(0, .ref 59), (1, .int a0)] [] M Q := by
  refine rj_iload_n dX11_isProgram_0 1 rfl rfl ?_
  refine rj_i2l dX11_isProgram_1 ?_
  refine rj_lconst (v := 0) dX11_isProgram_2 (by decide) ?_
  refine rj_aload_n dX11_isProgram_3 0 rfl rfl ?_
  refine rs_getR (t := 60) fl_RX11_9 rfl (by decide) (by decide) rfl dX11_isProgram_4 rfl (by omega) ?_
  refine rj_iconst (v := 5) dX11_isProgram_7 (by decide) ?_
  obtain ⟨hb, V⟩ := V
  refine rs_iald dX11_isProgram_8 rfl hb ?_
  refine rj_iconst (v := 1) dX11_isProgram_9 (by decide) ?_
  refine rj_isub dX11_isProgram_10 ?_
  refine rj_i2l dX11_isProgram_11 ?_
  refine rm_callSi [.long (Int32.toInt64 a0), .long 0, .long (Int32.toInt64 ((M 60 (Int32.toNatClampNeg 5)) - 1))] (rest := []) (K := fun x M' => b2i ((0 : Int32) ≤ a0 ∧ a0 ≤ ((M 60 (Int32.toNatClampNeg 5)) - 1)) = x ∧ M = M') ml_RX11_43 mtX11_in rfl dX11_isProgram_12 rfl rfl (Nat.le_of_ble_eq_true rfl) (by decide) (uX11_in (a0) (0) (((M 60 (Int32.toNatClampNeg 5)) - 1)) (by decide) rfl ⟨rfl, rfl⟩) (fun x M' hx => ?_)
  obtain ⟨rfl, rfl⟩ := hx
  exact rm_iret dX11_isProgram_15 rfl (isB_n isB_b2i) V
-- X11_programOf
set_option maxRecDepth 100000 in
set_option maxHeartbeats 4000000 in
theorem vX11_programOf_0 {w : Wd} {h : Nat} (a0 : Int32) (a1 : Int32)  (M : Mem) (Q : Option Value → Mem → Prop) (V : (CSi w h kX11_isProgram [.ref 59, .int a0] M (fun r1 M1 => ((r1 = 0 → (CSi w h kX11_finds [.ref 59, .int (-1000001)] M1 (fun r2 M2 => (Q (some (.int r2)) M2)))) ∧ (¬ (r1 = 0) → ((((0 : Int32) ≤ a1 ∧ a1 ≤ (1 : Int32)) → (∀ x1 : Int32, x1 = (434 + (37 * a0)) → RM w (h + 1) kX11_programOf 40 [(0, .ref 59), (2, .int a1), (3, .int x1), (4, .int 0), (5, .int 0)] [] M1 Q)) ∧ (¬ (((0 : Int32) ≤ a1 ∧ a1 ≤ (1 : Int32))) → (CSi w h kX11_finds [.ref 59, .int (-1000001)] M1 (fun r2 M2 => (Q (some (.int r2)) M2)))))))))) : RM w (h + 1) kX11_programOf 0 [(0, .ref 59), (1, .int a0), (2, .int a1)] [] M Q := by
  refine rj_aload_n dX11_programOf_0 0 rfl rfl ?_
  refine rj_iload_n dX11_programOf_1 1 rfl rfl ?_
  refine rm_callVi [.int a0] (rest := []) ml_RX11_252 mvX11_isProgram rfl dX11_programOf_2 rfl rfl rfl rfl rfl (Nat.le_of_ble_eq_true rfl) (by decide) V (fun r1 M1 V => ?_)
  obtain ⟨V1, V2⟩ := V
  refine rj_if_eq (tgt := 18) dX11_programOf_5 (by decide) (fun hc => ?_) (fun hc => ?_)
  · have V := V1 hc
    refine rj_aload_n dX11_programOf_18 0 rfl rfl ?_
    refine rj_ldc (v := (-1000001)) rfl kc_RX11_40 dX11_programOf_19 ?_
    refine rm_callVi [.int (-1000001)] (rest := []) ml_RX11_94 mvX11_finds rfl dX11_programOf_21 rfl rfl rfl rfl rfl (Nat.le_of_ble_eq_true rfl) (by decide) V (fun r2 M2 V => ?_)
    exact rm_iret dX11_programOf_24 rfl rfl V
  · have V := V2 hc
    refine rj_iload_n dX11_programOf_8 2 rfl rfl ?_
    refine rj_i2l dX11_programOf_9 ?_
    refine rj_lconst (v := 0) dX11_programOf_10 (by decide) ?_
    refine rj_lconst (v := 1) dX11_programOf_11 (by decide) ?_
    refine rm_callSi [.long (Int32.toInt64 a1), .long 0, .long 1] (rest := []) (K := fun x M' => b2i ((0 : Int32) ≤ a1 ∧ a1 ≤ (1 : Int32)) = x ∧ M1 = M') ml_RX11_43 mtX11_in rfl dX11_programOf_12 rfl rfl (Nat.le_of_ble_eq_true rfl) (by decide) (uX11_in (a1) (0) (1) (by decide) (by decide) ⟨rfl, rfl⟩) (fun x M' hx => ?_)
    obtain ⟨rfl, rfl⟩ := hx
    obtain ⟨V1, V2⟩ := V
    refine rs_if_neB (tgt := 25) dX11_programOf_15 (by decide) (fun hc => ?_) (fun hc => ?_)
    · have V := V1 hc
      refine rj_sipush (v := 434) dX11_programOf_25 (by decide) ?_
      refine rj_bipush (v := 37) dX11_programOf_28 (by decide) ?_
      refine rj_iload_n dX11_programOf_30 1 rfl rfl ?_
      refine rj_imul dX11_programOf_31 ?_
      refine rj_iadd dX11_programOf_32 ?_
      refine rj_top (fun x1 ex1 => ?_)
      have V := V x1 ex1
      refine rj_istore_n (lv' := [(0, .ref 59), (1, .int a0), (2, .int a1), (3, .int x1)]) dX11_programOf_33 rfl (by decide) rfl rfl ?_
      refine rj_iconst (v := 0) dX11_programOf_34 (by decide) ?_
      refine rj_istore (lv' := [(0, .ref 59), (1, .int a0), (2, .int a1), (3, .int x1), (4, .int 0)]) dX11_programOf_35 (by decide) rfl rfl ?_
      refine rj_iconst (v := 0) dX11_programOf_37 (by decide) ?_
      refine rj_istore (lv' := [(0, .ref 59), (1, .int a0), (2, .int a1), (3, .int x1), (4, .int 0), (5, .int 0)]) dX11_programOf_38 (by decide) rfl rfl ?_
      exact rs_sub [0, 2, 3, 4, 5] rfl V
    · have V := V2 hc
      refine rj_aload_n dX11_programOf_18 0 rfl rfl ?_
      refine rj_ldc (v := (-1000001)) rfl kc_RX11_40 dX11_programOf_19 ?_
      refine rm_callVi [.int (-1000001)] (rest := []) ml_RX11_94 mvX11_finds rfl dX11_programOf_21 rfl rfl rfl rfl rfl (Nat.le_of_ble_eq_true rfl) (by decide) V (fun r2 M2 V => ?_)
      exact rm_iret dX11_programOf_24 rfl rfl V
set_option maxRecDepth 100000 in
set_option maxHeartbeats 4000000 in
theorem vX11_programOf_40 {w : Wd} {h : Nat} (v2 : Int32) (v3 : Int32) (v4 : Int32) (v5 : Int32)  (M : Mem) (Q : Option Value → Mem → Prop) (V : (vp_in v3 666 ∧ (((M 60 (Int32.toNatClampNeg v3)) ≤ v5 → ((¬ (v2 = 0) → (Q (some (.int v4)) M)) ∧ (v2 = 0 → (vp_in v3 666 ∧ (Q (some (.int (M 60 (Int32.toNatClampNeg v3)))) M))))) ∧ (¬ ((M 60 (Int32.toNatClampNeg v3)) ≤ v5) → (vp_in ((v3 + 1) + (3 * v5)) 666 ∧ ((¬ ((M 60 (Int32.toNatClampNeg ((v3 + 1) + (3 * v5)))) = 8) → (∀ x1 : Int32, x1 = (v4 + 0) → (∀ x2 : Int32, x2 = v5 + 1 → RM w (h + 1) kX11_programOf 40 [(0, .ref 59), (2, .int v2), (3, .int v3), (4, .int x1), (5, .int x2)] [] M Q))) ∧ ((M 60 (Int32.toNatClampNeg ((v3 + 1) + (3 * v5)))) = 8 → (vp_in ((v3 + 2) + (3 * v5)) 666 ∧ (∀ x1 : Int32, x1 = (v4 + (M 60 (Int32.toNatClampNeg ((v3 + 2) + (3 * v5))))) → (∀ x2 : Int32, x2 = v5 + 1 → RM w (h + 1) kX11_programOf 40 [(0, .ref 59), (2, .int v2), (3, .int v3), (4, .int x1), (5, .int x2)] [] M Q)))))))))) : RM w (h + 1) kX11_programOf 40 [(0, .ref 59), (2, .int v2), (3, .int v3), (4, .int v4), (5, .int v5)] [] M Q := by
  refine rj_iload dX11_programOf_40 4 rfl ?_
  refine rj_aload_n dX11_programOf_42 0 rfl rfl ?_
  refine rs_getR (t := 60) fl_RX11_9 rfl (by decide) (by decide) rfl dX11_programOf_43 rfl (by omega) ?_
  refine rj_iload_n dX11_programOf_46 2 rfl rfl ?_
  obtain ⟨hb, V⟩ := V
  refine rs_iald dX11_programOf_47 rfl hb ?_
  obtain ⟨V1, V2⟩ := V
  refine rj_icmp_ge (tgt := 97) dX11_programOf_48 (by decide) (fun hc => ?_) (fun hc => ?_)
  · have V := V1 hc
    refine rj_iload_n dX11_programOf_97 1 rfl rfl ?_
    obtain ⟨V1, V2⟩ := V
    refine rj_if_ne (tgt := 110) dX11_programOf_98 (by decide) (fun hc => ?_) (fun hc => ?_)
    · have V := V1 hc
      refine rj_iload dX11_programOf_110 3 rfl ?_
      exact rm_iret dX11_programOf_112 rfl rfl V
    · have V := V2 hc
      refine rj_aload_n dX11_programOf_101 0 rfl rfl ?_
      refine rs_getR (t := 60) fl_RX11_9 rfl (by decide) (by decide) rfl dX11_programOf_102 rfl (by omega) ?_
      refine rj_iload_n dX11_programOf_105 2 rfl rfl ?_
      obtain ⟨hb, V⟩ := V
      refine rs_iald dX11_programOf_106 rfl hb ?_
      refine rj_goto (tgt := 112) dX11_programOf_107 (by decide) ?_
      exact rm_iret dX11_programOf_112 rfl rfl V
  · have V := V2 hc
    refine rj_iload dX11_programOf_51 3 rfl ?_
    refine rj_aload_n dX11_programOf_53 0 rfl rfl ?_
    refine rs_getR (t := 60) fl_RX11_9 rfl (by decide) (by decide) rfl dX11_programOf_54 rfl (by omega) ?_
    refine rj_iload_n dX11_programOf_57 2 rfl rfl ?_
    refine rj_iconst (v := 1) dX11_programOf_58 (by decide) ?_
    refine rj_iadd dX11_programOf_59 ?_
    refine rj_iconst (v := 3) dX11_programOf_60 (by decide) ?_
    refine rj_iload dX11_programOf_61 4 rfl ?_
    refine rj_imul dX11_programOf_63 ?_
    refine rj_iadd dX11_programOf_64 ?_
    obtain ⟨hb, V⟩ := V
    refine rs_iald dX11_programOf_65 rfl hb ?_
    refine rj_bipush (v := 8) dX11_programOf_66 (by decide) ?_
    obtain ⟨V1, V2⟩ := V
    refine rj_icmp_ne (tgt := 87) dX11_programOf_68 (by decide) (fun hc => ?_) (fun hc => ?_)
    · have V := V1 hc
      refine rj_iconst (v := 0) dX11_programOf_87 (by decide) ?_
      refine rj_iadd dX11_programOf_88 ?_
      refine rj_top (fun x1 ex1 => ?_)
      have V := V x1 ex1
      refine rj_istore (lv' := [(0, .ref 59), (2, .int v2), (3, .int v3), (4, .int x1), (5, .int v5)]) dX11_programOf_89 (by decide) rfl rfl ?_
      refine rj_iincV (c := 1) (fun y => [(0, .ref 59), (2, .int v2), (3, .int v3), (4, .int x1), (5, .int y)]) dX11_programOf_91 4 rfl (by decide) (by decide) rfl (fun _ => rfl) (fun x2 ex2 => ?_)
      have V := V x2 ex2
      refine rj_goto (tgt := 40) dX11_programOf_94 (by decide) ?_
      exact rs_sub [0, 1, 2, 3, 4] rfl V
    · have V := V2 hc
      refine rj_aload_n dX11_programOf_71 0 rfl rfl ?_
      refine rs_getR (t := 60) fl_RX11_9 rfl (by decide) (by decide) rfl dX11_programOf_72 rfl (by omega) ?_
      refine rj_iload_n dX11_programOf_75 2 rfl rfl ?_
      refine rj_iconst (v := 2) dX11_programOf_76 (by decide) ?_
      refine rj_iadd dX11_programOf_77 ?_
      refine rj_iconst (v := 3) dX11_programOf_78 (by decide) ?_
      refine rj_iload dX11_programOf_79 4 rfl ?_
      refine rj_imul dX11_programOf_81 ?_
      refine rj_iadd dX11_programOf_82 ?_
      obtain ⟨hb, V⟩ := V
      refine rs_iald dX11_programOf_83 rfl hb ?_
      refine rj_goto (tgt := 88) dX11_programOf_84 (by decide) ?_
      refine rj_iadd dX11_programOf_88 ?_
      refine rj_top (fun x1 ex1 => ?_)
      have V := V x1 ex1
      refine rj_istore (lv' := [(0, .ref 59), (2, .int v2), (3, .int v3), (4, .int x1), (5, .int v5)]) dX11_programOf_89 (by decide) rfl rfl ?_
      refine rj_iincV (c := 1) (fun y => [(0, .ref 59), (2, .int v2), (3, .int v3), (4, .int x1), (5, .int y)]) dX11_programOf_91 4 rfl (by decide) (by decide) rfl (fun _ => rfl) (fun x2 ex2 => ?_)
      have V := V x2 ex2
      refine rj_goto (tgt := 40) dX11_programOf_94 (by decide) ?_
      exact rs_sub [0, 1, 2, 3, 4] rfl V
-- X11_does
set_option maxRecDepth 100000 in
set_option maxHeartbeats 4000000 in
theorem vX11_does_0 {w : Wd} {h : Nat} (a0 : Int32) (a1 : Int32) (a2 : Int32)  (M : Mem) (Q : Option Value → Mem → Prop) (V : ((8 ≤ a0 → ((¬ (a0 = 8) → ((¬ (a0 = 12) → (vp_in ((0 + a0) - 9) 666 ∧ ∀ M1 : Mem, M1 = mset M 60 (Int32.toNatClampNeg ((0 + a0) - 9)) a1 → (Q none M1))) ∧ (a0 = 12 → (CSi w h kX11_fingers [.ref 59, .int a1] M (fun r1 M1 => (Q none M1)))))) ∧ (a0 = 8 → (CSv w h kX11_ticks [.ref 59, .int a1] M (fun M1 => (Q none M1)))))) ∧ (¬ (8 ≤ a0) → (CSi w h kX11_comes [.ref 59, .int a0, .int a2, .int a1] M (fun r1 M1 => (Q none M1)))))) : RM w (h + 1) kX11_does 0 [(0, .ref 59), (1, .int a0), (2, .int a1), (3, .int a2)] [] M Q := by
  refine rj_iload_n dX11_does_0 1 rfl rfl ?_
  refine rj_bipush (v := 8) dX11_does_1 (by decide) ?_
  obtain ⟨V1, V2⟩ := V
  refine rj_icmp_ge (tgt := 17) dX11_does_3 (by decide) (fun hc => ?_) (fun hc => ?_)
  · have V := V1 hc
    refine rj_iload_n dX11_does_17 1 rfl rfl ?_
    refine rj_bipush (v := 8) dX11_does_18 (by decide) ?_
    obtain ⟨V1, V2⟩ := V
    refine rj_icmp_ne (tgt := 31) dX11_does_20 (by decide) (fun hc => ?_) (fun hc => ?_)
    · have V := V1 hc
      refine rj_iload_n dX11_does_31 1 rfl rfl ?_
      refine rj_bipush (v := 12) dX11_does_32 (by decide) ?_
      obtain ⟨V1, V2⟩ := V
      refine rj_icmp_ne (tgt := 46) dX11_does_34 (by decide) (fun hc => ?_) (fun hc => ?_)
      · have V := V1 hc
        refine rj_aload_n dX11_does_46 0 rfl rfl ?_
        refine rs_getR (t := 60) fl_RX11_9 rfl (by decide) (by decide) rfl dX11_does_47 rfl (by omega) ?_
        refine rj_iconst (v := 0) dX11_does_50 (by decide) ?_
        refine rj_iload_n dX11_does_51 1 rfl rfl ?_
        refine rj_iadd dX11_does_52 ?_
        refine rj_bipush (v := 9) dX11_does_53 (by decide) ?_
        refine rj_isub dX11_does_55 ?_
        refine rj_iload_n dX11_does_56 2 rfl rfl ?_
        obtain ⟨hb, V⟩ := V
        refine rs_iast dX11_does_57 rfl hb (fun M1 eM1 => ?_)
        have V := V M1 eM1
        exact rm_vret dX11_does_58 rfl V
      · have V := V2 hc
        refine rj_aload_n dX11_does_37 0 rfl rfl ?_
        refine rj_iload_n dX11_does_38 2 rfl rfl ?_
        refine rm_callVi [.int a1] (rest := []) ml_RX11_123 mvX11_fingers rfl dX11_does_39 rfl rfl rfl rfl rfl (Nat.le_of_ble_eq_true rfl) (by decide) V (fun r1 M1 V => ?_)
        refine rj_pop dX11_does_42 rfl ?_
        refine rj_goto (tgt := 58) dX11_does_43 (by decide) ?_
        exact rm_vret dX11_does_58 rfl V
    · have V := V2 hc
      refine rj_aload_n dX11_does_23 0 rfl rfl ?_
      refine rj_iload_n dX11_does_24 2 rfl rfl ?_
      refine rm_callVv [.int a1] (rest := []) ml_RX11_162 mvX11_ticks rfl dX11_does_25 rfl rfl rfl rfl rfl (Nat.le_of_ble_eq_true rfl) (by decide) V (fun M1 V => ?_)
      refine rj_goto (tgt := 58) dX11_does_28 (by decide) ?_
      exact rm_vret dX11_does_58 rfl V
  · have V := V2 hc
    refine rj_aload_n dX11_does_6 0 rfl rfl ?_
    refine rj_iload_n dX11_does_7 1 rfl rfl ?_
    refine rj_iload_n dX11_does_8 3 rfl rfl ?_
    refine rj_iload_n dX11_does_9 2 rfl rfl ?_
    refine rm_callVi [.int a0, .int a2, .int a1] (rest := []) ml_RX11_133 mvX11_comes rfl dX11_does_10 rfl rfl rfl rfl rfl (Nat.le_of_ble_eq_true rfl) (by decide) V (fun r1 M1 V => ?_)
    refine rj_pop dX11_does_13 rfl ?_
    refine rj_goto (tgt := 58) dX11_does_14 (by decide) ?_
    exact rm_vret dX11_does_58 rfl V
-- X11_play
set_option maxRecDepth 100000 in
set_option maxHeartbeats 4000000 in
theorem vX11_play_0 {w : Wd} {h : Nat} (a0 : Int32)  (M : Mem) (Q : Option Value → Mem → Prop) (V : (CSi w h kX11_isProgram [.ref 59, .int a0] M (fun r1 M1 => ((¬ (r1 = 0) → (∀ x1 : Int32, x1 = (434 + (37 * a0)) → RM w (h + 1) kX11_play 26 [(0, .ref 59), (2, .int x1), (3, .int 0)] [] M1 Q)) ∧ (r1 = 0 → (CSi w h kX11_finds [.ref 59, .int (-1000001)] M1 (fun r2 M2 => (Q (some (.int r2)) M2)))))))) : RM w (h + 1) kX11_play 0 [(0, .ref 59), (1, .int a0)] [] M Q := by
  refine rj_aload_n dX11_play_0 0 rfl rfl ?_
  refine rj_iload_n dX11_play_1 1 rfl rfl ?_
  refine rm_callVi [.int a0] (rest := []) ml_RX11_252 mvX11_isProgram rfl dX11_play_2 rfl rfl rfl rfl rfl (Nat.le_of_ble_eq_true rfl) (by decide) V (fun r1 M1 V => ?_)
  obtain ⟨V1, V2⟩ := V
  refine rj_if_ne (tgt := 15) dX11_play_5 (by decide) (fun hc => ?_) (fun hc => ?_)
  · have V := V1 hc
    refine rj_sipush (v := 434) dX11_play_15 (by decide) ?_
    refine rj_bipush (v := 37) dX11_play_18 (by decide) ?_
    refine rj_iload_n dX11_play_20 1 rfl rfl ?_
    refine rj_imul dX11_play_21 ?_
    refine rj_iadd dX11_play_22 ?_
    refine rj_top (fun x1 ex1 => ?_)
    have V := V x1 ex1
    refine rj_istore_n (lv' := [(0, .ref 59), (1, .int a0), (2, .int x1)]) dX11_play_23 rfl (by decide) rfl rfl ?_
    refine rj_iconst (v := 0) dX11_play_24 (by decide) ?_
    refine rj_istore_n (lv' := [(0, .ref 59), (1, .int a0), (2, .int x1), (3, .int 0)]) dX11_play_25 rfl (by decide) rfl rfl ?_
    exact rs_sub [0, 2, 3] rfl V
  · have V := V2 hc
    refine rj_aload_n dX11_play_8 0 rfl rfl ?_
    refine rj_ldc (v := (-1000001)) rfl kc_RX11_40 dX11_play_9 ?_
    refine rm_callVi [.int (-1000001)] (rest := []) ml_RX11_94 mvX11_finds rfl dX11_play_11 rfl rfl rfl rfl rfl (Nat.le_of_ble_eq_true rfl) (by decide) V (fun r2 M2 V => ?_)
    exact rm_iret dX11_play_14 rfl rfl V
set_option maxRecDepth 100000 in
set_option maxHeartbeats 4000000 in
theorem vX11_play_26 {w : Wd} {h : Nat} (v2 : Int32) (v3 : Int32)  (M : Mem) (Q : Option Value → Mem → Prop) (V : (vp_in v2 666 ∧ (((M 60 (Int32.toNatClampNeg v2)) ≤ v3 → (CSi w h kX11_drops [.ref 59] M (fun r1 M1 => (Q (some (.int r1)) M1)))) ∧ (¬ ((M 60 (Int32.toNatClampNeg v2)) ≤ v3) → (vp_in ((v2 + 1) + (3 * v3)) 666 ∧ (vp_in ((v2 + 2) + (3 * v3)) 666 ∧ (vp_in ((v2 + 3) + (3 * v3)) 666 ∧ (CSv w h kX11_does [.ref 59, .int (M 60 (Int32.toNatClampNeg ((v2 + 1) + (3 * v3)))), .int (M 60 (Int32.toNatClampNeg ((v2 + 2) + (3 * v3)))), .int (M 60 (Int32.toNatClampNeg ((v2 + 3) + (3 * v3))))] M (fun M1 => (∀ x1 : Int32, x1 = v3 + 1 → RM w (h + 1) kX11_play 26 [(0, .ref 59), (2, .int v2), (3, .int x1)] [] M1 Q)))))))))) : RM w (h + 1) kX11_play 26 [(0, .ref 59), (2, .int v2), (3, .int v3)] [] M Q := by
  refine rj_iload_n dX11_play_26 2 rfl rfl ?_
  refine rj_aload_n dX11_play_27 0 rfl rfl ?_
  refine rs_getR (t := 60) fl_RX11_9 rfl (by decide) (by decide) rfl dX11_play_28 rfl (by omega) ?_
  refine rj_iload_n dX11_play_31 1 rfl rfl ?_
  obtain ⟨hb, V⟩ := V
  refine rs_iald dX11_play_32 rfl hb ?_
  obtain ⟨V1, V2⟩ := V
  refine rj_icmp_ge (tgt := 82) dX11_play_33 (by decide) (fun hc => ?_) (fun hc => ?_)
  · have V := V1 hc
    refine rj_aload_n dX11_play_82 0 rfl rfl ?_
    refine rm_callVi [] (rest := []) ml_RX11_165 mvX11_drops rfl dX11_play_83 rfl rfl rfl rfl rfl (Nat.le_of_ble_eq_true rfl) (by decide) V (fun r1 M1 V => ?_)
    exact rm_iret dX11_play_86 rfl rfl V
  · have V := V2 hc
    refine rj_aload_n dX11_play_36 0 rfl rfl ?_
    refine rj_aload_n dX11_play_37 0 rfl rfl ?_
    refine rs_getR (t := 60) fl_RX11_9 rfl (by decide) (by decide) rfl dX11_play_38 rfl (by omega) ?_
    refine rj_iload_n dX11_play_41 1 rfl rfl ?_
    refine rj_iconst (v := 1) dX11_play_42 (by decide) ?_
    refine rj_iadd dX11_play_43 ?_
    refine rj_iconst (v := 3) dX11_play_44 (by decide) ?_
    refine rj_iload_n dX11_play_45 2 rfl rfl ?_
    refine rj_imul dX11_play_46 ?_
    refine rj_iadd dX11_play_47 ?_
    obtain ⟨hb, V⟩ := V
    refine rs_iald dX11_play_48 rfl hb ?_
    refine rj_aload_n dX11_play_49 0 rfl rfl ?_
    refine rs_getR (t := 60) fl_RX11_9 rfl (by decide) (by decide) rfl dX11_play_50 rfl (by omega) ?_
    refine rj_iload_n dX11_play_53 1 rfl rfl ?_
    refine rj_iconst (v := 2) dX11_play_54 (by decide) ?_
    refine rj_iadd dX11_play_55 ?_
    refine rj_iconst (v := 3) dX11_play_56 (by decide) ?_
    refine rj_iload_n dX11_play_57 2 rfl rfl ?_
    refine rj_imul dX11_play_58 ?_
    refine rj_iadd dX11_play_59 ?_
    obtain ⟨hb, V⟩ := V
    refine rs_iald dX11_play_60 rfl hb ?_
    refine rj_aload_n dX11_play_61 0 rfl rfl ?_
    refine rs_getR (t := 60) fl_RX11_9 rfl (by decide) (by decide) rfl dX11_play_62 rfl (by omega) ?_
    refine rj_iload_n dX11_play_65 1 rfl rfl ?_
    refine rj_iconst (v := 3) dX11_play_66 (by decide) ?_
    refine rj_iadd dX11_play_67 ?_
    refine rj_iconst (v := 3) dX11_play_68 (by decide) ?_
    refine rj_iload_n dX11_play_69 2 rfl rfl ?_
    refine rj_imul dX11_play_70 ?_
    refine rj_iadd dX11_play_71 ?_
    obtain ⟨hb, V⟩ := V
    refine rs_iald dX11_play_72 rfl hb ?_
    refine rm_callVv [.int (M 60 (Int32.toNatClampNeg ((v2 + 1) + (3 * v3)))), .int (M 60 (Int32.toNatClampNeg ((v2 + 2) + (3 * v3)))), .int (M 60 (Int32.toNatClampNeg ((v2 + 3) + (3 * v3))))] (rest := []) ml_RX11_255 mvX11_does rfl dX11_play_73 rfl rfl rfl rfl rfl (Nat.le_of_ble_eq_true rfl) (by decide) V (fun M1 V => ?_)
    refine rj_iincV (c := 1) (fun y => [(0, .ref 59), (2, .int v2), (3, .int y)]) dX11_play_76 2 rfl (by decide) (by decide) rfl (fun _ => rfl) (fun x1 ex1 => ?_)
    have V := V x1 ex1
    refine rj_goto (tgt := 26) dX11_play_79 (by decide) ?_
    exact rs_sub [0, 1, 2] rfl V
-- X11_goesAll
set_option maxRecDepth 100000 in
set_option maxHeartbeats 4000000 in
theorem vX11_goesAll_0 {w : Wd} {h : Nat} (a0 : Int32) (a1 : Int32) (a2 : Int32)  (M : Mem) (Q : Option Value → Mem → Prop) (V : (∀ M1 : Mem, M1 = mset M 59 13 0 → (∀ M2 : Mem, M2 = mset M1 59 14 (-1) → (∀ M3 : Mem, M3 = mset M2 59 15 a2 → (vp_in 0 65 ∧ ∀ M4 : Mem, M4 = mset M3 64 (Int32.toNatClampNeg 0) a1 → RM w (h + 1) kX11_goesAll 26 [(0, .ref 59), (1, .int a0), (4, .int a1)] [] M4 Q))))) : RM w (h + 1) kX11_goesAll 0 [(0, .ref 59), (1, .int a0), (2, .int a1), (3, .int a2)] [] M Q := by
  refine rj_iload_n dX11_goesAll_0 2 rfl rfl ?_
  refine rj_istore (lv' := [(0, .ref 59), (1, .int a0), (2, .int a1), (3, .int a2), (4, .int a1)]) dX11_goesAll_1 (by decide) rfl rfl ?_
  refine rj_aload_n dX11_goesAll_3 0 rfl rfl ?_
  refine rj_iconst (v := 0) dX11_goesAll_4 (by decide) ?_
  refine rs_putI fl_RX11_259 (ft11_13 _ nofun) rfl (by decide) (by decide) rfl dX11_goesAll_5 rfl rfl rfl (fun M1 eM1 => ?_)
  have V := V M1 eM1
  refine rj_aload_n dX11_goesAll_8 0 rfl rfl ?_
  refine rj_iconst (v := (-1)) dX11_goesAll_9 (by decide) ?_
  refine rs_putI fl_RX11_262 (ft11_14 _ nofun) rfl (by decide) (by decide) rfl dX11_goesAll_10 rfl rfl rfl (fun M2 eM2 => ?_)
  have V := V M2 eM2
  refine rj_aload_n dX11_goesAll_13 0 rfl rfl ?_
  refine rj_iload_n dX11_goesAll_14 3 rfl rfl ?_
  refine rs_putI fl_RX11_265 (ft11_15 _ nofun) rfl (by decide) (by decide) rfl dX11_goesAll_15 rfl rfl rfl (fun M3 eM3 => ?_)
  have V := V M3 eM3
  refine rj_aload_n dX11_goesAll_18 0 rfl rfl ?_
  refine rs_getR (t := 64) fl_RX11_22 rfl (by decide) (by decide) rfl dX11_goesAll_19 rfl (by omega) ?_
  refine rj_iconst (v := 0) dX11_goesAll_22 (by decide) ?_
  refine rj_iload dX11_goesAll_23 4 rfl ?_
  obtain ⟨hb, V⟩ := V
  refine rs_iast dX11_goesAll_25 rfl hb (fun M4 eM4 => ?_)
  have V := V M4 eM4
  exact rs_sub [0, 1, 4] rfl V
set_option maxRecDepth 100000 in
set_option maxHeartbeats 4000000 in
theorem vX11_goesAll_26 {w : Wd} {h : Nat} (v1 : Int32) (v4 : Int32)  (M : Mem) (Q : Option Value → Mem → Prop) (V : ((64 ≤ (M 59 13) → (Q none M)) ∧ (¬ (64 ≤ (M 59 13)) → (((M 59 15) ≤ 0 → (Q none M)) ∧ (¬ ((M 59 15) ≤ 0) → (CSi w h kX11_goesTo [.ref 59, .int v1, .int v4, .int (M 59 15), .int (M 59 13)] M (fun r1 M1 => ((¬ (r1 = v4) → (∀ M2 : Mem, M2 = mset M1 59 13 ((M1 59 13) + 1) → ((0 ≤ r1 → (vp_in (M2 59 13) 65 ∧ ∀ M3 : Mem, M3 = mset M2 64 (Int32.toNatClampNeg (M2 59 13)) r1 → (∀ M4 : Mem, M4 = mset M3 59 15 ((M3 59 15) - (b2i ((v1 = 1 ∨ v1 = 7)))) → RM w (h + 1) kX11_goesAll 26 [(0, .ref 59), (1, .int v1), (4, .int r1)] [] M4 Q))) ∧ (¬ (0 ≤ r1) → (∀ M3 : Mem, M3 = mset M2 59 14 (v4 - v4 / 12 * 12) → (Q none M3)))))) ∧ (r1 = v4 → (Q none M1)))))))))) : RM w (h + 1) kX11_goesAll 26 [(0, .ref 59), (1, .int v1), (4, .int v4)] [] M Q := by
  refine rj_aload_n dX11_goesAll_26 0 rfl rfl ?_
  refine rs_getI fl_RX11_259 rfl (by decide) (by decide) rfl dX11_goesAll_27 rfl ?_
  refine rj_bipush (v := 64) dX11_goesAll_30 (by decide) ?_
  obtain ⟨V1, V2⟩ := V
  refine rj_icmp_ge (tgt := 131) dX11_goesAll_32 (by decide) (fun hc => ?_) (fun hc => ?_)
  · have V := V1 hc
    exact rm_vret dX11_goesAll_131 rfl V
  · have V := V2 hc
    refine rj_aload_n dX11_goesAll_35 0 rfl rfl ?_
    refine rs_getI fl_RX11_265 rfl (by decide) (by decide) rfl dX11_goesAll_36 rfl ?_
    obtain ⟨V1, V2⟩ := V
    refine rj_if_le (tgt := 131) dX11_goesAll_39 (by decide) (fun hc => ?_) (fun hc => ?_)
    · have V := V1 hc
      exact rm_vret dX11_goesAll_131 rfl V
    · have V := V2 hc
      refine rj_aload_n dX11_goesAll_42 0 rfl rfl ?_
      refine rj_iload_n dX11_goesAll_43 1 rfl rfl ?_
      refine rj_iload dX11_goesAll_44 2 rfl ?_
      refine rj_aload_n dX11_goesAll_46 0 rfl rfl ?_
      refine rs_getI fl_RX11_265 rfl (by decide) (by decide) rfl dX11_goesAll_47 rfl ?_
      refine rj_aload_n dX11_goesAll_50 0 rfl rfl ?_
      refine rs_getI fl_RX11_259 rfl (by decide) (by decide) rfl dX11_goesAll_51 rfl ?_
      refine rm_callVi [.int v1, .int v4, .int (M 59 15), .int (M 59 13)] (rest := []) ml_RX11_140 mvX11_goesTo rfl dX11_goesAll_54 rfl rfl rfl rfl rfl (Nat.le_of_ble_eq_true rfl) (by decide) V (fun r1 M1 V => ?_)
      refine rj_istore (lv' := [(0, .ref 59), (1, .int v1), (4, .int v4), (5, .int r1)]) dX11_goesAll_57 (by decide) rfl rfl ?_
      refine rj_iload dX11_goesAll_59 3 rfl ?_
      refine rj_iload dX11_goesAll_61 2 rfl ?_
      obtain ⟨V1, V2⟩ := V
      refine rj_icmp_ne (tgt := 67) dX11_goesAll_63 (by decide) (fun hc => ?_) (fun hc => ?_)
      · have V := V1 hc
        refine rj_aload_n dX11_goesAll_67 0 rfl rfl ?_
        refine rj_dup dX11_goesAll_68 rfl ?_
        refine rs_getI fl_RX11_259 rfl (by decide) (by decide) rfl dX11_goesAll_69 rfl ?_
        refine rj_iconst (v := 1) dX11_goesAll_72 (by decide) ?_
        refine rj_iadd dX11_goesAll_73 ?_
        refine rs_putI fl_RX11_259 (ft11_13 _ nofun) rfl (by decide) (by decide) rfl dX11_goesAll_74 rfl rfl rfl (fun M2 eM2 => ?_)
        have V := V M2 eM2
        refine rj_iload dX11_goesAll_77 3 rfl ?_
        obtain ⟨V1, V2⟩ := V
        refine rj_if_ge (tgt := 92) dX11_goesAll_79 (by decide) (fun hc => ?_) (fun hc => ?_)
        · have V := V1 hc
          refine rj_iload dX11_goesAll_92 3 rfl ?_
          refine rj_istore (lv' := [(0, .ref 59), (1, .int v1), (4, .int r1), (5, .int r1)]) dX11_goesAll_94 (by decide) rfl rfl ?_
          refine rj_aload_n dX11_goesAll_96 0 rfl rfl ?_
          refine rs_getR (t := 64) fl_RX11_22 rfl (by decide) (by decide) rfl dX11_goesAll_97 rfl (by omega) ?_
          refine rj_aload_n dX11_goesAll_100 0 rfl rfl ?_
          refine rs_getI fl_RX11_259 rfl (by decide) (by decide) rfl dX11_goesAll_101 rfl ?_
          refine rj_iload dX11_goesAll_104 2 rfl ?_
          obtain ⟨hb, V⟩ := V
          refine rs_iast dX11_goesAll_106 rfl hb (fun M3 eM3 => ?_)
          have V := V M3 eM3
          refine rj_aload_n dX11_goesAll_107 0 rfl rfl ?_
          refine rj_dup dX11_goesAll_108 rfl ?_
          refine rs_getI fl_RX11_265 rfl (by decide) (by decide) rfl dX11_goesAll_109 rfl ?_
          refine rj_iload_n dX11_goesAll_112 1 rfl rfl ?_
          refine rm_callSi [.int v1] (rest := [.int (M3 59 15), .ref 59]) (K := fun x M' => b2i (v1 = 1 ∨ v1 = 7) = x ∧ M3 = M') ml_RX11_147 mtX11_isLosing rfl dX11_goesAll_113 rfl rfl (Nat.le_of_ble_eq_true rfl) (by decide) (uX11_isLosing ⟨rfl, rfl⟩) (fun x M' hx => ?_)
          obtain ⟨rfl, rfl⟩ := hx
          have KD : RM w (h + 1) kX11_goesAll 124 [(0, .ref 59), (1, .int v1), (4, .int r1), (5, .int r1)] [.int (b2i ((v1 = 1 ∨ v1 = 7))), .int (M3 59 15), .ref 59] M3 Q := by
            refine rj_isub dX11_goesAll_124 ?_
            refine rs_putI fl_RX11_265 (ft11_15 _ nofun) rfl (by decide) (by decide) rfl dX11_goesAll_125 rfl rfl rfl (fun M4 eM4 => ?_)
            have V := V M4 eM4
            refine rj_goto (tgt := 26) dX11_goesAll_128 (by decide) ?_
            exact rs_sub [0, 1, 2] rfl V
          refine rs_if_eqB (tgt := 123) dX11_goesAll_116 (by decide) (fun hc => ?_) (fun hc => ?_)
          · refine rj_iconst (v := 0) dX11_goesAll_123 (by decide) ?_
            exact rs_b0 hc KD
          · refine rj_iconst (v := 1) dX11_goesAll_119 (by decide) ?_
            refine rj_goto (tgt := 124) dX11_goesAll_120 (by decide) ?_
            exact rs_b1 hc KD
        · have V := V2 hc
          refine rj_aload_n dX11_goesAll_82 0 rfl rfl ?_
          refine rj_iload dX11_goesAll_83 2 rfl ?_
          refine rj_bipush (v := 12) dX11_goesAll_85 (by decide) ?_
          refine rj_irem dX11_goesAll_87 (by decide) ?_
          refine rs_putI fl_RX11_262 (ft11_14 _ nofun) rfl (by decide) (by decide) rfl dX11_goesAll_88 rfl rfl rfl (fun M3 eM3 => ?_)
          have V := V M3 eM3
          exact rm_vret dX11_goesAll_91 rfl V
      · have V := V2 hc
        exact rm_vret dX11_goesAll_66 rfl V
-- X11_onCells
set_option maxRecDepth 100000 in
set_option maxHeartbeats 4000000 in
theorem vX11_onCells_0 {w : Wd} {h : Nat}   (M : Mem) (Q : Option Value → Mem → Prop) (V : (Q (some (.int (if 0 ≤ (M 59 14) then ((M 59 13) - 1) else (M 59 13)))) M)) : RM w h kX11_onCells 0 [(0, .ref 59)] [] M Q := by
  refine rj_aload_n dX11_onCells_0 0 rfl rfl ?_
  refine rs_getI fl_RX11_262 rfl (by decide) (by decide) rfl dX11_onCells_1 rfl ?_
  have KD : RM w h kX11_onCells 20 [(0, .ref 59)] [.int (if 0 ≤ (M 59 14) then ((M 59 13) - 1) else (M 59 13))] M Q := by
    exact rm_iret dX11_onCells_20 rfl rfl V
  refine rj_if_ge (tgt := 14) dX11_onCells_4 (by decide) (fun hc => ?_) (fun hc => ?_)
  · refine rj_aload_n dX11_onCells_14 0 rfl rfl ?_
    refine rs_getI fl_RX11_259 rfl (by decide) (by decide) rfl dX11_onCells_15 rfl ?_
    refine rj_iconst (v := 1) dX11_onCells_18 (by decide) ?_
    refine rj_isub dX11_onCells_19 ?_
    exact rs_ite_t hc KD
  · refine rj_aload_n dX11_onCells_7 0 rfl rfl ?_
    refine rs_getI fl_RX11_259 rfl (by decide) (by decide) rfl dX11_onCells_8 rfl ?_
    refine rj_goto (tgt := 20) dX11_onCells_11 (by decide) ?_
    exact rs_ite_f hc KD
-- X11_path
set_option maxRecDepth 100000 in
set_option maxHeartbeats 4000000 in
theorem vX11_path_0 {w : Wd} {h : Nat} (hh : 2 ≤ h) (a0 : Int32) (a1 : Int32) (a2 : Int32) (a3 : Int32)  (M : Mem) (Q : Option Value → Mem → Prop) (V : ((¬ (((0 ≤ a0 ∧ a0 ≤ 7) ∧ (0 ≤ a1 ∧ a1 ≤ 11) ∧ (1 ≤ a2 ∧ a2 ≤ 99))) → (CSi w h kX11_finds [.ref 59, .int (-1000001)] M (fun r1 M1 => (Q (some (.int r1)) M1)))) ∧ (((0 ≤ a0 ∧ a0 ≤ 7) ∧ (0 ≤ a1 ∧ a1 ≤ 11) ∧ (1 ≤ a2 ∧ a2 ≤ 99)) → ((((0 : Int32) ≤ a3 ∧ a3 ≤ (3 : Int32)) → (CSv w h kX11_goesAll [.ref 59, .int a0, .int a1, .int a2] M (fun M1 => ((¬ (a3 = 0) → ((¬ (a3 = 1) → ((¬ (a3 = 2) → (Q (some (.int (M1 59 15))) M1)) ∧ (a3 = 2 → (CSi w h kX11_onCells [.ref 59] M1 (fun r1 M2 => (vp_in r1 65 ∧ (Q (some (.int (M2 64 (Int32.toNatClampNeg r1)))) M2))))))) ∧ (a3 = 1 → (Q (some (.int (M1 59 13))) M1)))) ∧ (a3 = 0 → (Q (some (.int (M1 59 14))) M1)))))) ∧ (¬ (((0 : Int32) ≤ a3 ∧ a3 ≤ (3 : Int32))) → (CSi w h kX11_finds [.ref 59, .int (-1000001)] M (fun r1 M1 => (Q (some (.int r1)) M1)))))))) : RM w (h + 1) kX11_path 0 [(0, .ref 59), (1, .int a0), (2, .int a1), (3, .int a2), (4, .int a3)] [] M Q := by
  refine rj_iload_n dX11_path_0 1 rfl rfl ?_
  refine rj_iload_n dX11_path_1 2 rfl rfl ?_
  refine rj_iload_n dX11_path_2 3 rfl rfl ?_
  refine rm_callSi [.int a0, .int a1, .int a2] (rest := []) (K := fun x M' => b2i ((0 ≤ a0 ∧ a0 ≤ 7) ∧ (0 ≤ a1 ∧ a1 ≤ 11) ∧ (1 ≤ a2 ∧ a2 ≤ 99)) = x ∧ M = M') ml_RX11_268 mtX11_isPath rfl dX11_path_3 rfl rfl (Nat.le_of_ble_eq_true rfl) (by decide) (uX11_isPath (by omega) ⟨rfl, rfl⟩) (fun x M' hx => ?_)
  obtain ⟨rfl, rfl⟩ := hx
  obtain ⟨V1, V2⟩ := V
  refine rs_if_eqB (tgt := 22) dX11_path_6 (by decide) (fun hc => ?_) (fun hc => ?_)
  · have V := V1 hc
    refine rj_aload_n dX11_path_22 0 rfl rfl ?_
    refine rj_ldc (v := (-1000001)) rfl kc_RX11_40 dX11_path_23 ?_
    refine rm_callVi [.int (-1000001)] (rest := []) ml_RX11_94 mvX11_finds rfl dX11_path_25 rfl rfl rfl rfl rfl (Nat.le_of_ble_eq_true rfl) (by decide) V (fun r1 M1 V => ?_)
    exact rm_iret dX11_path_28 rfl rfl V
  · have V := V2 hc
    refine rj_iload dX11_path_9 4 rfl ?_
    refine rj_i2l dX11_path_11 ?_
    refine rj_lconst (v := 0) dX11_path_12 (by decide) ?_
    refine rj_ldc2 (v := 3) rfl kl_RX11_92 dX11_path_13 ?_
    refine rm_callSi [.long (Int32.toInt64 a3), .long 0, .long 3] (rest := []) (K := fun x M' => b2i ((0 : Int32) ≤ a3 ∧ a3 ≤ (3 : Int32)) = x ∧ M = M') ml_RX11_43 mtX11_in rfl dX11_path_16 rfl rfl (Nat.le_of_ble_eq_true rfl) (by decide) (uX11_in (a3) (0) (3) (by decide) (by decide) ⟨rfl, rfl⟩) (fun x M' hx => ?_)
    obtain ⟨rfl, rfl⟩ := hx
    obtain ⟨V1, V2⟩ := V
    refine rs_if_neB (tgt := 29) dX11_path_19 (by decide) (fun hc => ?_) (fun hc => ?_)
    · have V := V1 hc
      refine rj_aload_n dX11_path_29 0 rfl rfl ?_
      refine rj_iload_n dX11_path_30 1 rfl rfl ?_
      refine rj_iload_n dX11_path_31 2 rfl rfl ?_
      refine rj_iload_n dX11_path_32 3 rfl rfl ?_
      refine rm_callVv [.int a0, .int a1, .int a2] (rest := []) ml_RX11_271 mvX11_goesAll rfl dX11_path_33 rfl rfl rfl rfl rfl (Nat.le_of_ble_eq_true rfl) (by decide) V (fun M1 V => ?_)
      refine rj_iload dX11_path_36 4 rfl ?_
      obtain ⟨V1, V2⟩ := V
      refine rj_if_ne (tgt := 48) dX11_path_38 (by decide) (fun hc => ?_) (fun hc => ?_)
      · have V := V1 hc
        refine rj_iload dX11_path_48 4 rfl ?_
        refine rj_iconst (v := 1) dX11_path_50 (by decide) ?_
        obtain ⟨V1, V2⟩ := V
        refine rj_icmp_ne (tgt := 61) dX11_path_51 (by decide) (fun hc => ?_) (fun hc => ?_)
        · have V := V1 hc
          refine rj_iload dX11_path_61 4 rfl ?_
          refine rj_iconst (v := 2) dX11_path_63 (by decide) ?_
          obtain ⟨V1, V2⟩ := V
          refine rj_icmp_ne (tgt := 79) dX11_path_64 (by decide) (fun hc => ?_) (fun hc => ?_)
          · have V := V1 hc
            refine rj_aload_n dX11_path_79 0 rfl rfl ?_
            refine rs_getI fl_RX11_265 rfl (by decide) (by decide) rfl dX11_path_80 rfl ?_
            exact rm_iret dX11_path_83 rfl rfl V
          · have V := V2 hc
            refine rj_aload_n dX11_path_67 0 rfl rfl ?_
            refine rs_getR (t := 64) fl_RX11_22 rfl (by decide) (by decide) rfl dX11_path_68 rfl (by omega) ?_
            refine rj_aload_n dX11_path_71 0 rfl rfl ?_
            refine rm_callVi [] (rest := [.ref 64]) ml_RX11_274 mvX11_onCells rfl dX11_path_72 rfl rfl rfl rfl rfl (Nat.le_of_ble_eq_true rfl) (by decide) V (fun r1 M2 V => ?_)
            obtain ⟨hb, V⟩ := V
            refine rs_iald dX11_path_75 rfl hb ?_
            refine rj_goto (tgt := 83) dX11_path_76 (by decide) ?_
            exact rm_iret dX11_path_83 rfl rfl V
        · have V := V2 hc
          refine rj_aload_n dX11_path_54 0 rfl rfl ?_
          refine rs_getI fl_RX11_259 rfl (by decide) (by decide) rfl dX11_path_55 rfl ?_
          refine rj_goto (tgt := 83) dX11_path_58 (by decide) ?_
          exact rm_iret dX11_path_83 rfl rfl V
      · have V := V2 hc
        refine rj_aload_n dX11_path_41 0 rfl rfl ?_
        refine rs_getI fl_RX11_262 rfl (by decide) (by decide) rfl dX11_path_42 rfl ?_
        refine rj_goto (tgt := 83) dX11_path_45 (by decide) ?_
        exact rm_iret dX11_path_83 rfl rfl V
    · have V := V2 hc
      refine rj_aload_n dX11_path_22 0 rfl rfl ?_
      refine rj_ldc (v := (-1000001)) rfl kc_RX11_40 dX11_path_23 ?_
      refine rm_callVi [.int (-1000001)] (rest := []) ml_RX11_94 mvX11_finds rfl dX11_path_25 rfl rfl rfl rfl rfl (Nat.le_of_ble_eq_true rfl) (by decide) V (fun r1 M1 V => ?_)
      exact rm_iret dX11_path_28 rfl rfl V
-- X11_along
set_option maxRecDepth 100000 in
set_option maxHeartbeats 4000000 in
theorem vX11_along_0 {w : Wd} {h : Nat} (hh : 2 ≤ h) (a0 : Int32) (a1 : Int32) (a2 : Int32) (a3 : Int32)  (M : Mem) (Q : Option Value → Mem → Prop) (V : ((¬ (((0 ≤ a0 ∧ a0 ≤ 7) ∧ (0 ≤ a1 ∧ a1 ≤ 11) ∧ (1 ≤ a2 ∧ a2 ≤ 99))) → (CSi w h kX11_finds [.ref 59, .int (-1000001)] M (fun r1 M1 => (Q (some (.int r1)) M1)))) ∧ (((0 ≤ a0 ∧ a0 ≤ 7) ∧ (0 ≤ a1 ∧ a1 ≤ 11) ∧ (1 ≤ a2 ∧ a2 ≤ 99)) → ((((0 : Int32) ≤ a3 ∧ a3 ≤ (64 : Int32)) → (CSv w h kX11_goesAll [.ref 59, .int a0, .int a1, .int a2] M (fun M1 => (CSi w h kX11_onCells [.ref 59] M1 (fun r1 M2 => ((a3 ≤ r1 → (vp_in a3 65 ∧ (Q (some (.int (M2 64 (Int32.toNatClampNeg a3)))) M2))) ∧ (¬ (a3 ≤ r1) → (CSi w h kX11_finds [.ref 59, .int (-1000004)] M2 (fun r2 M3 => (Q (some (.int r2)) M3)))))))))) ∧ (¬ (((0 : Int32) ≤ a3 ∧ a3 ≤ (64 : Int32))) → (CSi w h kX11_finds [.ref 59, .int (-1000001)] M (fun r1 M1 => (Q (some (.int r1)) M1)))))))) : RM w (h + 1) kX11_along 0 [(0, .ref 59), (1, .int a0), (2, .int a1), (3, .int a2), (4, .int a3)] [] M Q := by
  refine rj_iload_n dX11_along_0 1 rfl rfl ?_
  refine rj_iload_n dX11_along_1 2 rfl rfl ?_
  refine rj_iload_n dX11_along_2 3 rfl rfl ?_
  refine rm_callSi [.int a0, .int a1, .int a2] (rest := []) (K := fun x M' => b2i ((0 ≤ a0 ∧ a0 ≤ 7) ∧ (0 ≤ a1 ∧ a1 ≤ 11) ∧ (1 ≤ a2 ∧ a2 ≤ 99)) = x ∧ M = M') ml_RX11_268 mtX11_isPath rfl dX11_along_3 rfl rfl (Nat.le_of_ble_eq_true rfl) (by decide) (uX11_isPath (by omega) ⟨rfl, rfl⟩) (fun x M' hx => ?_)
  obtain ⟨rfl, rfl⟩ := hx
  obtain ⟨V1, V2⟩ := V
  refine rs_if_eqB (tgt := 22) dX11_along_6 (by decide) (fun hc => ?_) (fun hc => ?_)
  · have V := V1 hc
    refine rj_aload_n dX11_along_22 0 rfl rfl ?_
    refine rj_ldc (v := (-1000001)) rfl kc_RX11_40 dX11_along_23 ?_
    refine rm_callVi [.int (-1000001)] (rest := []) ml_RX11_94 mvX11_finds rfl dX11_along_25 rfl rfl rfl rfl rfl (Nat.le_of_ble_eq_true rfl) (by decide) V (fun r1 M1 V => ?_)
    exact rm_iret dX11_along_28 rfl rfl V
  · have V := V2 hc
    refine rj_iload dX11_along_9 4 rfl ?_
    refine rj_i2l dX11_along_11 ?_
    refine rj_lconst (v := 0) dX11_along_12 (by decide) ?_
    refine rj_ldc2 (v := 64) rfl kl_RX11_277 dX11_along_13 ?_
    refine rm_callSi [.long (Int32.toInt64 a3), .long 0, .long 64] (rest := []) (K := fun x M' => b2i ((0 : Int32) ≤ a3 ∧ a3 ≤ (64 : Int32)) = x ∧ M = M') ml_RX11_43 mtX11_in rfl dX11_along_16 rfl rfl (Nat.le_of_ble_eq_true rfl) (by decide) (uX11_in (a3) (0) (64) (by decide) (by decide) ⟨rfl, rfl⟩) (fun x M' hx => ?_)
    obtain ⟨rfl, rfl⟩ := hx
    obtain ⟨V1, V2⟩ := V
    refine rs_if_neB (tgt := 29) dX11_along_19 (by decide) (fun hc => ?_) (fun hc => ?_)
    · have V := V1 hc
      refine rj_aload_n dX11_along_29 0 rfl rfl ?_
      refine rj_iload_n dX11_along_30 1 rfl rfl ?_
      refine rj_iload_n dX11_along_31 2 rfl rfl ?_
      refine rj_iload_n dX11_along_32 3 rfl rfl ?_
      refine rm_callVv [.int a0, .int a1, .int a2] (rest := []) ml_RX11_271 mvX11_goesAll rfl dX11_along_33 rfl rfl rfl rfl rfl (Nat.le_of_ble_eq_true rfl) (by decide) V (fun M1 V => ?_)
      refine rj_iload dX11_along_36 4 rfl ?_
      refine rj_aload_n dX11_along_38 0 rfl rfl ?_
      refine rm_callVi [] (rest := [.int a3]) ml_RX11_274 mvX11_onCells rfl dX11_along_39 rfl rfl rfl rfl rfl (Nat.le_of_ble_eq_true rfl) (by decide) V (fun r1 M2 V => ?_)
      obtain ⟨V1, V2⟩ := V
      refine rj_icmp_le (tgt := 54) dX11_along_42 (by decide) (fun hc => ?_) (fun hc => ?_)
      · have V := V1 hc
        refine rj_aload_n dX11_along_54 0 rfl rfl ?_
        refine rs_getR (t := 64) fl_RX11_22 rfl (by decide) (by decide) rfl dX11_along_55 rfl (by omega) ?_
        refine rj_iload dX11_along_58 4 rfl ?_
        obtain ⟨hb, V⟩ := V
        refine rs_iald dX11_along_60 rfl hb ?_
        exact rm_iret dX11_along_61 rfl rfl V
      · have V := V2 hc
        refine rj_aload_n dX11_along_45 0 rfl rfl ?_
        refine rj_ldc (v := (-1000004)) rfl kc_RX11_126 dX11_along_46 ?_
        refine rm_callVi [.int (-1000004)] (rest := []) ml_RX11_94 mvX11_finds rfl dX11_along_48 rfl rfl rfl rfl rfl (Nat.le_of_ble_eq_true rfl) (by decide) V (fun r2 M3 V => ?_)
        refine rj_goto (tgt := 61) dX11_along_51 (by decide) ?_
        exact rm_iret dX11_along_61 rfl rfl V
    · have V := V2 hc
      refine rj_aload_n dX11_along_22 0 rfl rfl ?_
      refine rj_ldc (v := (-1000001)) rfl kc_RX11_40 dX11_along_23 ?_
      refine rm_callVi [.int (-1000001)] (rest := []) ml_RX11_94 mvX11_finds rfl dX11_along_25 rfl rfl rfl rfl rfl (Nat.le_of_ble_eq_true rfl) (by decide) V (fun r1 M1 V => ?_)
      exact rm_iret dX11_along_28 rfl rfl V
-- X11_least
set_option maxRecDepth 100000 in
set_option maxHeartbeats 4000000 in
theorem vX11_least_0 {w : Wd} {h : Nat} (hh : 2 ≤ h) (a0 : Int32) (a1 : Int32) (a2 : Int32)  (M : Mem) (Q : Option Value → Mem → Prop) (V : ((((0 ≤ a0 ∧ a0 ≤ 7) ∧ (0 ≤ a1 ∧ a1 ≤ 11) ∧ (1 ≤ (1 : Int32) ∧ (1 : Int32) ≤ 99)) → (isB a2 ∧ ∀ M1 : Mem, M1 = mset M 59 4 a2 → RM w (h + 1) kX11_least 27 [(0, .ref 59), (1, .int a0), (2, .int a1), (4, .int (-1)), (5, .int 1)] [] M1 Q)) ∧ (¬ (((0 ≤ a0 ∧ a0 ≤ 7) ∧ (0 ≤ a1 ∧ a1 ≤ 11) ∧ (1 ≤ (1 : Int32) ∧ (1 : Int32) ≤ 99))) → (CSi w h kX11_finds [.ref 59, .int (-1000001)] M (fun r1 M1 => (Q (some (.int r1)) M1)))))) : RM w (h + 1) kX11_least 0 [(0, .ref 59), (1, .int a0), (2, .int a1), (3, .int a2)] [] M Q := by
  refine rj_iload_n dX11_least_0 1 rfl rfl ?_
  refine rj_iload_n dX11_least_1 2 rfl rfl ?_
  refine rj_iconst (v := 1) dX11_least_2 (by decide) ?_
  refine rm_callSi [.int a0, .int a1, .int 1] (rest := []) (K := fun x M' => b2i ((0 ≤ a0 ∧ a0 ≤ 7) ∧ (0 ≤ a1 ∧ a1 ≤ 11) ∧ (1 ≤ (1 : Int32) ∧ (1 : Int32) ≤ 99)) = x ∧ M = M') ml_RX11_268 mtX11_isPath rfl dX11_least_3 rfl rfl (Nat.le_of_ble_eq_true rfl) (by decide) (uX11_isPath (by omega) ⟨rfl, rfl⟩) (fun x M' hx => ?_)
  obtain ⟨rfl, rfl⟩ := hx
  obtain ⟨V1, V2⟩ := V
  refine rs_if_neB (tgt := 16) dX11_least_6 (by decide) (fun hc => ?_) (fun hc => ?_)
  · have V := V1 hc
    refine rj_iconst (v := (-1)) dX11_least_16 (by decide) ?_
    refine rj_istore (lv' := [(0, .ref 59), (1, .int a0), (2, .int a1), (3, .int a2), (4, .int (-1))]) dX11_least_17 (by decide) rfl rfl ?_
    refine rj_aload_n dX11_least_19 0 rfl rfl ?_
    refine rj_iload_n dX11_least_20 3 rfl rfl ?_
    obtain ⟨hb, V⟩ := V
    refine rs_putI fl_RX11_57 (ft11_4 _ nofun) rfl (by decide) (by decide) rfl dX11_least_21 (isB_n hb) (isB_f hb) rfl (fun M1 eM1 => ?_)
    have V := V M1 eM1
    refine rj_iconst (v := 1) dX11_least_24 (by decide) ?_
    refine rj_istore (lv' := [(0, .ref 59), (1, .int a0), (2, .int a1), (3, .int a2), (4, .int (-1)), (5, .int 1)]) dX11_least_25 (by decide) rfl rfl ?_
    exact rs_sub [0, 1, 2, 4, 5] rfl V
  · have V := V2 hc
    refine rj_aload_n dX11_least_9 0 rfl rfl ?_
    refine rj_ldc (v := (-1000001)) rfl kc_RX11_40 dX11_least_10 ?_
    refine rm_callVi [.int (-1000001)] (rest := []) ml_RX11_94 mvX11_finds rfl dX11_least_12 rfl rfl rfl rfl rfl (Nat.le_of_ble_eq_true rfl) (by decide) V (fun r1 M1 V => ?_)
    exact rm_iret dX11_least_15 rfl rfl V
set_option maxRecDepth 100000 in
set_option maxHeartbeats 4000000 in
theorem vX11_least_27 {w : Wd} {h : Nat} (hh : 2 ≤ h) (v1 : Int32) (v2 : Int32) (v4 : Int32) (v5 : Int32)  (M : Mem) (Q : Option Value → Mem → Prop) (V : ((100 ≤ v5 → (∀ M1 : Mem, M1 = mset M 59 4 0 → ((0 ≤ v4 → (Q (some (.int v4)) M1)) ∧ (¬ (0 ≤ v4) → (CSi w h kX11_finds [.ref 59, .int (-1000004)] M1 (fun r1 M2 => (Q (some (.int r1)) M2))))))) ∧ (¬ (100 ≤ v5) → ((0 ≤ v4 → (∀ M1 : Mem, M1 = mset M 59 4 0 → ((0 ≤ v4 → (Q (some (.int v4)) M1)) ∧ (¬ (0 ≤ v4) → (CSi w h kX11_finds [.ref 59, .int (-1000004)] M1 (fun r1 M2 => (Q (some (.int r1)) M2))))))) ∧ (¬ (0 ≤ v4) → (CSv w h kX11_goesAll [.ref 59, .int v1, .int v2, .int v5] M (fun M1 => (∀ x1 : Int32, x1 = (if 0 ≤ (M1 59 14) then v5 else ((-1) : Int32)) → (∀ x2 : Int32, x2 = v5 + 1 → RM w (h + 1) kX11_least 27 [(0, .ref 59), (1, .int v1), (2, .int v2), (4, .int x1), (5, .int x2)] [] M1 Q))))))))) : RM w (h + 1) kX11_least 27 [(0, .ref 59), (1, .int v1), (2, .int v2), (4, .int v4), (5, .int v5)] [] M Q := by
  refine rj_iload dX11_least_27 4 rfl ?_
  refine rj_bipush (v := 100) dX11_least_29 (by decide) ?_
  obtain ⟨V1, V2⟩ := V
  refine rj_icmp_ge (tgt := 68) dX11_least_31 (by decide) (fun hc => ?_) (fun hc => ?_)
  · have V := V1 hc
    refine rj_aload_n dX11_least_68 0 rfl rfl ?_
    refine rj_iconst (v := 0) dX11_least_69 (by decide) ?_
    refine rs_putI fl_RX11_57 (ft11_4 _ nofun) rfl (by decide) (by decide) rfl dX11_least_70 rfl rfl rfl (fun M1 eM1 => ?_)
    have V := V M1 eM1
    refine rj_iload dX11_least_73 3 rfl ?_
    obtain ⟨V1, V2⟩ := V
    refine rj_if_ge (tgt := 87) dX11_least_75 (by decide) (fun hc => ?_) (fun hc => ?_)
    · have V := V1 hc
      refine rj_iload dX11_least_87 3 rfl ?_
      exact rm_iret dX11_least_89 rfl rfl V
    · have V := V2 hc
      refine rj_aload_n dX11_least_78 0 rfl rfl ?_
      refine rj_ldc (v := (-1000004)) rfl kc_RX11_126 dX11_least_79 ?_
      refine rm_callVi [.int (-1000004)] (rest := []) ml_RX11_94 mvX11_finds rfl dX11_least_81 rfl rfl rfl rfl rfl (Nat.le_of_ble_eq_true rfl) (by decide) V (fun r1 M2 V => ?_)
      refine rj_goto (tgt := 89) dX11_least_84 (by decide) ?_
      exact rm_iret dX11_least_89 rfl rfl V
  · have V := V2 hc
    refine rj_iload dX11_least_34 3 rfl ?_
    obtain ⟨V1, V2⟩ := V
    refine rj_if_ge (tgt := 68) dX11_least_36 (by decide) (fun hc => ?_) (fun hc => ?_)
    · have V := V1 hc
      refine rj_aload_n dX11_least_68 0 rfl rfl ?_
      refine rj_iconst (v := 0) dX11_least_69 (by decide) ?_
      refine rs_putI fl_RX11_57 (ft11_4 _ nofun) rfl (by decide) (by decide) rfl dX11_least_70 rfl rfl rfl (fun M1 eM1 => ?_)
      have V := V M1 eM1
      refine rj_iload dX11_least_73 3 rfl ?_
      obtain ⟨V1, V2⟩ := V
      refine rj_if_ge (tgt := 87) dX11_least_75 (by decide) (fun hc => ?_) (fun hc => ?_)
      · have V := V1 hc
        refine rj_iload dX11_least_87 3 rfl ?_
        exact rm_iret dX11_least_89 rfl rfl V
      · have V := V2 hc
        refine rj_aload_n dX11_least_78 0 rfl rfl ?_
        refine rj_ldc (v := (-1000004)) rfl kc_RX11_126 dX11_least_79 ?_
        refine rm_callVi [.int (-1000004)] (rest := []) ml_RX11_94 mvX11_finds rfl dX11_least_81 rfl rfl rfl rfl rfl (Nat.le_of_ble_eq_true rfl) (by decide) V (fun r1 M2 V => ?_)
        refine rj_goto (tgt := 89) dX11_least_84 (by decide) ?_
        exact rm_iret dX11_least_89 rfl rfl V
    · have V := V2 hc
      refine rj_aload_n dX11_least_39 0 rfl rfl ?_
      refine rj_iload_n dX11_least_40 1 rfl rfl ?_
      refine rj_iload_n dX11_least_41 2 rfl rfl ?_
      refine rj_iload dX11_least_42 4 rfl ?_
      refine rm_callVv [.int v1, .int v2, .int v5] (rest := []) ml_RX11_271 mvX11_goesAll rfl dX11_least_44 rfl rfl rfl rfl rfl (Nat.le_of_ble_eq_true rfl) (by decide) V (fun M1 V => ?_)
      refine rj_aload_n dX11_least_47 0 rfl rfl ?_
      refine rs_getI fl_RX11_262 rfl (by decide) (by decide) rfl dX11_least_48 rfl ?_
      have KD : RM w (h + 1) kX11_least 60 [(0, .ref 59), (1, .int v1), (2, .int v2), (4, .int v4), (5, .int v5)] [.int (if 0 ≤ (M1 59 14) then v5 else ((-1) : Int32))] M1 Q := by
        refine rj_top (fun x1 ex1 => ?_)
        have V := V x1 ex1
        refine rj_istore (lv' := [(0, .ref 59), (1, .int v1), (2, .int v2), (4, .int x1), (5, .int v5)]) dX11_least_60 (by decide) rfl rfl ?_
        refine rj_iincV (c := 1) (fun y => [(0, .ref 59), (1, .int v1), (2, .int v2), (4, .int x1), (5, .int y)]) dX11_least_62 4 rfl (by decide) (by decide) rfl (fun _ => rfl) (fun x2 ex2 => ?_)
        have V := V x2 ex2
        refine rj_goto (tgt := 27) dX11_least_65 (by decide) ?_
        exact rs_sub [0, 1, 2, 3, 4] rfl V
      refine rj_if_ge (tgt := 58) dX11_least_51 (by decide) (fun hc => ?_) (fun hc => ?_)
      · refine rj_iload dX11_least_58 4 rfl ?_
        exact rs_ite_t hc KD
      · refine rj_iconst (v := (-1)) dX11_least_54 (by decide) ?_
        refine rj_goto (tgt := 60) dX11_least_55 (by decide) ?_
        exact rs_ite_f hc KD
-- X11_basin
set_option maxRecDepth 100000 in
set_option maxHeartbeats 4000000 in
theorem vX11_basin_0 {w : Wd} {h : Nat} (hh : 2 ≤ h) (a0 : Int32) (a1 : Int32) (a2 : Int32)  (M : Mem) (Q : Option Value → Mem → Prop) (V : ((((0 ≤ a0 ∧ a0 ≤ 7) ∧ (0 ≤ a2 ∧ a2 ≤ 11) ∧ (1 ≤ a1 ∧ a1 ≤ 99)) → RM w (h + 1) kX11_basin 22 [(0, .ref 59), (1, .int a0), (2, .int a1), (3, .int a2), (4, .int 0), (5, .int 0)] [] M Q) ∧ (¬ (((0 ≤ a0 ∧ a0 ≤ 7) ∧ (0 ≤ a2 ∧ a2 ≤ 11) ∧ (1 ≤ a1 ∧ a1 ≤ 99))) → (CSi w h kX11_finds [.ref 59, .int (-1000001)] M (fun r1 M1 => (Q (some (.int r1)) M1)))))) : RM w (h + 1) kX11_basin 0 [(0, .ref 59), (1, .int a0), (2, .int a1), (3, .int a2)] [] M Q := by
  refine rj_iload_n dX11_basin_0 1 rfl rfl ?_
  refine rj_iload_n dX11_basin_1 3 rfl rfl ?_
  refine rj_iload_n dX11_basin_2 2 rfl rfl ?_
  refine rm_callSi [.int a0, .int a2, .int a1] (rest := []) (K := fun x M' => b2i ((0 ≤ a0 ∧ a0 ≤ 7) ∧ (0 ≤ a2 ∧ a2 ≤ 11) ∧ (1 ≤ a1 ∧ a1 ≤ 99)) = x ∧ M = M') ml_RX11_268 mtX11_isPath rfl dX11_basin_3 rfl rfl (Nat.le_of_ble_eq_true rfl) (by decide) (uX11_isPath (by omega) ⟨rfl, rfl⟩) (fun x M' hx => ?_)
  obtain ⟨rfl, rfl⟩ := hx
  obtain ⟨V1, V2⟩ := V
  refine rs_if_neB (tgt := 16) dX11_basin_6 (by decide) (fun hc => ?_) (fun hc => ?_)
  · have V := V1 hc
    refine rj_iconst (v := 0) dX11_basin_16 (by decide) ?_
    refine rj_istore (lv' := [(0, .ref 59), (1, .int a0), (2, .int a1), (3, .int a2), (4, .int 0)]) dX11_basin_17 (by decide) rfl rfl ?_
    refine rj_iconst (v := 0) dX11_basin_19 (by decide) ?_
    refine rj_istore (lv' := [(0, .ref 59), (1, .int a0), (2, .int a1), (3, .int a2), (4, .int 0), (5, .int 0)]) dX11_basin_20 (by decide) rfl rfl ?_
    exact rs_sub [0, 1, 2, 3, 4, 5] rfl V
  · have V := V2 hc
    refine rj_aload_n dX11_basin_9 0 rfl rfl ?_
    refine rj_ldc (v := (-1000001)) rfl kc_RX11_40 dX11_basin_10 ?_
    refine rm_callVi [.int (-1000001)] (rest := []) ml_RX11_94 mvX11_finds rfl dX11_basin_12 rfl rfl rfl rfl rfl (Nat.le_of_ble_eq_true rfl) (by decide) V (fun r1 M1 V => ?_)
    exact rm_iret dX11_basin_15 rfl rfl V
set_option maxRecDepth 100000 in
set_option maxHeartbeats 4000000 in
theorem vX11_basin_22 {w : Wd} {h : Nat} (hh : 2 ≤ h) (v1 : Int32) (v2 : Int32) (v3 : Int32) (v4 : Int32) (v5 : Int32)  (M : Mem) (Q : Option Value → Mem → Prop) (V : ((12 ≤ v5 → (Q (some (.int v4)) M)) ∧ (¬ (12 ≤ v5) → (CSv w h kX11_goesAll [.ref 59, .int v1, .int v5, .int v2] M (fun M1 => (∀ x1 : Int32, x1 = (v4 ||| (if (M1 59 14) = v3 then (1 <<< (v5 &&& 31)) else (0 : Int32))) → (∀ x2 : Int32, x2 = v5 + 1 → RM w (h + 1) kX11_basin 22 [(0, .ref 59), (1, .int v1), (2, .int v2), (3, .int v3), (4, .int x1), (5, .int x2)] [] M1 Q))))))) : RM w (h + 1) kX11_basin 22 [(0, .ref 59), (1, .int v1), (2, .int v2), (3, .int v3), (4, .int v4), (5, .int v5)] [] M Q := by
  refine rj_iload dX11_basin_22 5 rfl ?_
  refine rj_bipush (v := 12) dX11_basin_24 (by decide) ?_
  obtain ⟨V1, V2⟩ := V
  refine rj_icmp_ge (tgt := 64) dX11_basin_26 (by decide) (fun hc => ?_) (fun hc => ?_)
  · have V := V1 hc
    refine rj_iload dX11_basin_64 4 rfl ?_
    exact rm_iret dX11_basin_66 rfl rfl V
  · have V := V2 hc
    refine rj_aload_n dX11_basin_29 0 rfl rfl ?_
    refine rj_iload_n dX11_basin_30 1 rfl rfl ?_
    refine rj_iload dX11_basin_31 5 rfl ?_
    refine rj_iload_n dX11_basin_33 2 rfl rfl ?_
    refine rm_callVv [.int v1, .int v5, .int v2] (rest := []) ml_RX11_271 mvX11_goesAll rfl dX11_basin_34 rfl rfl rfl rfl rfl (Nat.le_of_ble_eq_true rfl) (by decide) V (fun M1 V => ?_)
    refine rj_iload dX11_basin_37 4 rfl ?_
    refine rj_aload_n dX11_basin_39 0 rfl rfl ?_
    refine rs_getI fl_RX11_262 rfl (by decide) (by decide) rfl dX11_basin_40 rfl ?_
    refine rj_iload_n dX11_basin_43 3 rfl rfl ?_
    have KD : RM w (h + 1) kX11_basin 55 [(0, .ref 59), (1, .int v1), (2, .int v2), (3, .int v3), (4, .int v4), (5, .int v5)] [.int (if (M1 59 14) = v3 then (1 <<< (v5 &&& 31)) else (0 : Int32)), .int v4] M1 Q := by
      refine rj_ior dX11_basin_55 ?_
      refine rj_top (fun x1 ex1 => ?_)
      have V := V x1 ex1
      refine rj_istore (lv' := [(0, .ref 59), (1, .int v1), (2, .int v2), (3, .int v3), (4, .int x1), (5, .int v5)]) dX11_basin_56 (by decide) rfl rfl ?_
      refine rj_iincV (c := 1) (fun y => [(0, .ref 59), (1, .int v1), (2, .int v2), (3, .int v3), (4, .int x1), (5, .int y)]) dX11_basin_58 5 rfl (by decide) (by decide) rfl (fun _ => rfl) (fun x2 ex2 => ?_)
      have V := V x2 ex2
      refine rj_goto (tgt := 22) dX11_basin_61 (by decide) ?_
      exact rs_sub [0, 1, 2, 3, 4, 5] rfl V
    refine rj_icmp_ne (tgt := 54) dX11_basin_44 (by decide) (fun hc => ?_) (fun hc => ?_)
    · refine rj_iconst (v := 0) dX11_basin_54 (by decide) ?_
      exact rs_ite_f hc KD
    · refine rj_iconst (v := 1) dX11_basin_47 (by decide) ?_
      refine rj_iload dX11_basin_48 5 rfl ?_
      refine rj_ishl dX11_basin_50 ?_
      refine rj_goto (tgt := 55) dX11_basin_51 (by decide) ?_
      exact rs_ite_t hc KD
-- X11_ways
set_option maxRecDepth 100000 in
set_option maxHeartbeats 4000000 in
theorem vX11_ways_0 {w : Wd} {h : Nat} (hh : 2 ≤ h) (a0 : Int32) (a1 : Int32)  (M : Mem) (Q : Option Value → Mem → Prop) (V : ((((0 ≤ a0 ∧ a0 ≤ 7) ∧ (0 ≤ (0 : Int32) ∧ (0 : Int32) ≤ 11) ∧ (1 ≤ a1 ∧ a1 ≤ 99)) → RM w (h + 1) kX11_ways 21 [(0, .ref 59), (1, .int a0), (2, .int a1), (3, .int 0), (4, .int 0)] [] M Q) ∧ (¬ (((0 ≤ a0 ∧ a0 ≤ 7) ∧ (0 ≤ (0 : Int32) ∧ (0 : Int32) ≤ 11) ∧ (1 ≤ a1 ∧ a1 ≤ 99))) → (CSi w h kX11_finds [.ref 59, .int (-1000001)] M (fun r1 M1 => (Q (some (.int r1)) M1)))))) : RM w (h + 1) kX11_ways 0 [(0, .ref 59), (1, .int a0), (2, .int a1)] [] M Q := by
  refine rj_iload_n dX11_ways_0 1 rfl rfl ?_
  refine rj_iconst (v := 0) dX11_ways_1 (by decide) ?_
  refine rj_iload_n dX11_ways_2 2 rfl rfl ?_
  refine rm_callSi [.int a0, .int 0, .int a1] (rest := []) (K := fun x M' => b2i ((0 ≤ a0 ∧ a0 ≤ 7) ∧ (0 ≤ (0 : Int32) ∧ (0 : Int32) ≤ 11) ∧ (1 ≤ a1 ∧ a1 ≤ 99)) = x ∧ M = M') ml_RX11_268 mtX11_isPath rfl dX11_ways_3 rfl rfl (Nat.le_of_ble_eq_true rfl) (by decide) (uX11_isPath (by omega) ⟨rfl, rfl⟩) (fun x M' hx => ?_)
  obtain ⟨rfl, rfl⟩ := hx
  obtain ⟨V1, V2⟩ := V
  refine rs_if_neB (tgt := 16) dX11_ways_6 (by decide) (fun hc => ?_) (fun hc => ?_)
  · have V := V1 hc
    refine rj_iconst (v := 0) dX11_ways_16 (by decide) ?_
    refine rj_istore_n (lv' := [(0, .ref 59), (1, .int a0), (2, .int a1), (3, .int 0)]) dX11_ways_17 rfl (by decide) rfl rfl ?_
    refine rj_iconst (v := 0) dX11_ways_18 (by decide) ?_
    refine rj_istore (lv' := [(0, .ref 59), (1, .int a0), (2, .int a1), (3, .int 0), (4, .int 0)]) dX11_ways_19 (by decide) rfl rfl ?_
    exact rs_sub [0, 1, 2, 3, 4] rfl V
  · have V := V2 hc
    refine rj_aload_n dX11_ways_9 0 rfl rfl ?_
    refine rj_ldc (v := (-1000001)) rfl kc_RX11_40 dX11_ways_10 ?_
    refine rm_callVi [.int (-1000001)] (rest := []) ml_RX11_94 mvX11_finds rfl dX11_ways_12 rfl rfl rfl rfl rfl (Nat.le_of_ble_eq_true rfl) (by decide) V (fun r1 M1 V => ?_)
    exact rm_iret dX11_ways_15 rfl rfl V
set_option maxRecDepth 100000 in
set_option maxHeartbeats 4000000 in
theorem vX11_ways_21 {w : Wd} {h : Nat} (hh : 2 ≤ h) (v1 : Int32) (v2 : Int32) (v3 : Int32) (v4 : Int32)  (M : Mem) (Q : Option Value → Mem → Prop) (V : ((12 ≤ v4 → (Q (some (.int v3)) M)) ∧ (¬ (12 ≤ v4) → (CSv w h kX11_goesAll [.ref 59, .int v1, .int v4, .int v2] M (fun M1 => (∀ x1 : Int32, x1 = (v3 ||| (if 0 ≤ (M1 59 14) then (1 <<< ((M1 59 14) &&& 31)) else (0 : Int32))) → (∀ x2 : Int32, x2 = v4 + 1 → RM w (h + 1) kX11_ways 21 [(0, .ref 59), (1, .int v1), (2, .int v2), (3, .int x1), (4, .int x2)] [] M1 Q))))))) : RM w (h + 1) kX11_ways 21 [(0, .ref 59), (1, .int v1), (2, .int v2), (3, .int v3), (4, .int v4)] [] M Q := by
  refine rj_iload dX11_ways_21 4 rfl ?_
  refine rj_bipush (v := 12) dX11_ways_23 (by decide) ?_
  obtain ⟨V1, V2⟩ := V
  refine rj_icmp_ge (tgt := 62) dX11_ways_25 (by decide) (fun hc => ?_) (fun hc => ?_)
  · have V := V1 hc
    refine rj_iload_n dX11_ways_62 3 rfl rfl ?_
    exact rm_iret dX11_ways_63 rfl rfl V
  · have V := V2 hc
    refine rj_aload_n dX11_ways_28 0 rfl rfl ?_
    refine rj_iload_n dX11_ways_29 1 rfl rfl ?_
    refine rj_iload dX11_ways_30 4 rfl ?_
    refine rj_iload_n dX11_ways_32 2 rfl rfl ?_
    refine rm_callVv [.int v1, .int v4, .int v2] (rest := []) ml_RX11_271 mvX11_goesAll rfl dX11_ways_33 rfl rfl rfl rfl rfl (Nat.le_of_ble_eq_true rfl) (by decide) V (fun M1 V => ?_)
    refine rj_iload_n dX11_ways_36 3 rfl rfl ?_
    refine rj_aload_n dX11_ways_37 0 rfl rfl ?_
    refine rs_getI fl_RX11_262 rfl (by decide) (by decide) rfl dX11_ways_38 rfl ?_
    have KD : RM w (h + 1) kX11_ways 54 [(0, .ref 59), (1, .int v1), (2, .int v2), (3, .int v3), (4, .int v4)] [.int (if 0 ≤ (M1 59 14) then (1 <<< ((M1 59 14) &&& 31)) else (0 : Int32)), .int v3] M1 Q := by
      refine rj_ior dX11_ways_54 ?_
      refine rj_top (fun x1 ex1 => ?_)
      have V := V x1 ex1
      refine rj_istore_n (lv' := [(0, .ref 59), (1, .int v1), (2, .int v2), (3, .int x1), (4, .int v4)]) dX11_ways_55 rfl (by decide) rfl rfl ?_
      refine rj_iincV (c := 1) (fun y => [(0, .ref 59), (1, .int v1), (2, .int v2), (3, .int x1), (4, .int y)]) dX11_ways_56 4 rfl (by decide) (by decide) rfl (fun _ => rfl) (fun x2 ex2 => ?_)
      have V := V x2 ex2
      refine rj_goto (tgt := 21) dX11_ways_59 (by decide) ?_
      exact rs_sub [0, 1, 2, 3, 4] rfl V
    refine rj_if_ge (tgt := 48) dX11_ways_41 (by decide) (fun hc => ?_) (fun hc => ?_)
    · refine rj_iconst (v := 1) dX11_ways_48 (by decide) ?_
      refine rj_aload_n dX11_ways_49 0 rfl rfl ?_
      refine rs_getI fl_RX11_262 rfl (by decide) (by decide) rfl dX11_ways_50 rfl ?_
      refine rj_ishl dX11_ways_53 ?_
      exact rs_ite_t hc KD
    · refine rj_iconst (v := 0) dX11_ways_44 (by decide) ?_
      refine rj_goto (tgt := 54) dX11_ways_45 (by decide) ?_
      exact rs_ite_f hc KD
-- X11_soonest
set_option maxRecDepth 100000 in
set_option maxHeartbeats 4000000 in
theorem vX11_soonest_0 {w : Wd} {h : Nat} (hh : 2 ≤ h) (a0 : Int32) (a1 : Int32) (a2 : Int32)  (M : Mem) (Q : Option Value → Mem → Prop) (V : ((((0 ≤ a0 ∧ a0 ≤ 7) ∧ (0 ≤ a1 ∧ a1 ≤ 11) ∧ (1 ≤ a2 ∧ a2 ≤ 99)) → (vp_in 0 666 ∧ (∀ x1 : Int32, x1 = (M 60 (Int32.toNatClampNeg 0)) → RM w (h + 1) kX11_soonest 33 [(0, .ref 59), (1, .int a0), (2, .int a1), (3, .int a2), (4, .int x1), (5, .int (-1)), (6, .int 0), (7, .int 0)] [] M Q))) ∧ (¬ (((0 ≤ a0 ∧ a0 ≤ 7) ∧ (0 ≤ a1 ∧ a1 ≤ 11) ∧ (1 ≤ a2 ∧ a2 ≤ 99))) → (CSi w h kX11_finds [.ref 59, .int (-1000001)] M (fun r1 M1 => (Q (some (.int r1)) M1)))))) : RM w (h + 1) kX11_soonest 0 [(0, .ref 59), (1, .int a0), (2, .int a1), (3, .int a2)] [] M Q := by
  refine rj_iload_n dX11_soonest_0 1 rfl rfl ?_
  refine rj_iload_n dX11_soonest_1 2 rfl rfl ?_
  refine rj_iload_n dX11_soonest_2 3 rfl rfl ?_
  refine rm_callSi [.int a0, .int a1, .int a2] (rest := []) (K := fun x M' => b2i ((0 ≤ a0 ∧ a0 ≤ 7) ∧ (0 ≤ a1 ∧ a1 ≤ 11) ∧ (1 ≤ a2 ∧ a2 ≤ 99)) = x ∧ M = M') ml_RX11_268 mtX11_isPath rfl dX11_soonest_3 rfl rfl (Nat.le_of_ble_eq_true rfl) (by decide) (uX11_isPath (by omega) ⟨rfl, rfl⟩) (fun x M' hx => ?_)
  obtain ⟨rfl, rfl⟩ := hx
  obtain ⟨V1, V2⟩ := V
  refine rs_if_neB (tgt := 16) dX11_soonest_6 (by decide) (fun hc => ?_) (fun hc => ?_)
  · have V := V1 hc
    refine rj_aload_n dX11_soonest_16 0 rfl rfl ?_
    refine rs_getR (t := 60) fl_RX11_9 rfl (by decide) (by decide) rfl dX11_soonest_17 rfl (by omega) ?_
    refine rj_iconst (v := 0) dX11_soonest_20 (by decide) ?_
    obtain ⟨hb, V⟩ := V
    refine rs_iald dX11_soonest_21 rfl hb ?_
    refine rj_top (fun x1 ex1 => ?_)
    have V := V x1 ex1
    refine rj_istore (lv' := [(0, .ref 59), (1, .int a0), (2, .int a1), (3, .int a2), (4, .int x1)]) dX11_soonest_22 (by decide) rfl rfl ?_
    refine rj_iconst (v := (-1)) dX11_soonest_24 (by decide) ?_
    refine rj_istore (lv' := [(0, .ref 59), (1, .int a0), (2, .int a1), (3, .int a2), (4, .int x1), (5, .int (-1))]) dX11_soonest_25 (by decide) rfl rfl ?_
    refine rj_iconst (v := 0) dX11_soonest_27 (by decide) ?_
    refine rj_istore (lv' := [(0, .ref 59), (1, .int a0), (2, .int a1), (3, .int a2), (4, .int x1), (5, .int (-1)), (6, .int 0)]) dX11_soonest_28 (by decide) rfl rfl ?_
    refine rj_iconst (v := 0) dX11_soonest_30 (by decide) ?_
    refine rj_istore (lv' := [(0, .ref 59), (1, .int a0), (2, .int a1), (3, .int a2), (4, .int x1), (5, .int (-1)), (6, .int 0), (7, .int 0)]) dX11_soonest_31 (by decide) rfl rfl ?_
    exact rs_sub [0, 1, 2, 3, 4, 5, 6, 7] rfl V
  · have V := V2 hc
    refine rj_aload_n dX11_soonest_9 0 rfl rfl ?_
    refine rj_ldc (v := (-1000001)) rfl kc_RX11_40 dX11_soonest_10 ?_
    refine rm_callVi [.int (-1000001)] (rest := []) ml_RX11_94 mvX11_finds rfl dX11_soonest_12 rfl rfl rfl rfl rfl (Nat.le_of_ble_eq_true rfl) (by decide) V (fun r1 M1 V => ?_)
    exact rm_iret dX11_soonest_15 rfl rfl V
set_option maxRecDepth 100000 in
set_option maxHeartbeats 4000000 in
theorem vX11_soonest_33 {w : Wd} {h : Nat} (hh : 2 ≤ h) (v1 : Int32) (v2 : Int32) (v3 : Int32) (v4 : Int32) (v5 : Int32) (v6 : Int32) (v7 : Int32)  (M : Mem) (Q : Option Value → Mem → Prop) (V : ((10 ≤ v7 → (vp_in 0 666 ∧ ∀ M1 : Mem, M1 = mset M 60 (Int32.toNatClampNeg 0) v4 → ((0 ≤ v5 → (Q (some (.int v5)) M1)) ∧ (¬ (0 ≤ v5) → (CSi w h kX11_finds [.ref 59, .int (-1000004)] M1 (fun r1 M2 => (Q (some (.int r1)) M2))))))) ∧ (¬ (10 ≤ v7) → (vp_in 0 666 ∧ ∀ M1 : Mem, M1 = mset M 60 (Int32.toNatClampNeg 0) v7 → (CSv w h kX11_goesAll [.ref 59, .int v1, .int v2, .int v3] M1 (fun M2 => (((M2 59 14) < 0 → (∀ x1 : Int32, x1 = v7 + 1 → RM w (h + 1) kX11_soonest 33 [(0, .ref 59), (1, .int v1), (2, .int v2), (3, .int v3), (4, .int v4), (5, .int v5), (6, .int v6), (7, .int x1)] [] M2 Q)) ∧ (¬ ((M2 59 14) < 0) → ((v5 < 0 → (∀ x1 : Int32, x1 = (M2 59 13) → (∀ x2 : Int32, x2 = v7 + 1 → RM w (h + 1) kX11_soonest 33 [(0, .ref 59), (1, .int v1), (2, .int v2), (3, .int v3), (4, .int v4), (5, .int v7), (6, .int x1), (7, .int x2)] [] M2 Q))) ∧ (¬ (v5 < 0) → (((M2 59 13) < v6 → (∀ x1 : Int32, x1 = (M2 59 13) → (∀ x2 : Int32, x2 = v7 + 1 → RM w (h + 1) kX11_soonest 33 [(0, .ref 59), (1, .int v1), (2, .int v2), (3, .int v3), (4, .int v4), (5, .int v7), (6, .int x1), (7, .int x2)] [] M2 Q))) ∧ (¬ ((M2 59 13) < v6) → (∀ x1 : Int32, x1 = v7 + 1 → RM w (h + 1) kX11_soonest 33 [(0, .ref 59), (1, .int v1), (2, .int v2), (3, .int v3), (4, .int v4), (5, .int v5), (6, .int v6), (7, .int x1)] [] M2 Q))))))))))))) : RM w (h + 1) kX11_soonest 33 [(0, .ref 59), (1, .int v1), (2, .int v2), (3, .int v3), (4, .int v4), (5, .int v5), (6, .int v6), (7, .int v7)] [] M Q := by
  refine rj_iload dX11_soonest_33 7 rfl ?_
  refine rj_bipush (v := 10) dX11_soonest_35 (by decide) ?_
  obtain ⟨V1, V2⟩ := V
  refine rj_icmp_ge (tgt := 95) dX11_soonest_37 (by decide) (fun hc => ?_) (fun hc => ?_)
  · have V := V1 hc
    refine rj_aload_n dX11_soonest_95 0 rfl rfl ?_
    refine rs_getR (t := 60) fl_RX11_9 rfl (by decide) (by decide) rfl dX11_soonest_96 rfl (by omega) ?_
    refine rj_iconst (v := 0) dX11_soonest_99 (by decide) ?_
    refine rj_iload dX11_soonest_100 4 rfl ?_
    obtain ⟨hb, V⟩ := V
    refine rs_iast dX11_soonest_102 rfl hb (fun M1 eM1 => ?_)
    have V := V M1 eM1
    refine rj_iload dX11_soonest_103 5 rfl ?_
    obtain ⟨V1, V2⟩ := V
    refine rj_if_ge (tgt := 117) dX11_soonest_105 (by decide) (fun hc => ?_) (fun hc => ?_)
    · have V := V1 hc
      refine rj_iload dX11_soonest_117 5 rfl ?_
      exact rm_iret dX11_soonest_119 rfl rfl V
    · have V := V2 hc
      refine rj_aload_n dX11_soonest_108 0 rfl rfl ?_
      refine rj_ldc (v := (-1000004)) rfl kc_RX11_126 dX11_soonest_109 ?_
      refine rm_callVi [.int (-1000004)] (rest := []) ml_RX11_94 mvX11_finds rfl dX11_soonest_111 rfl rfl rfl rfl rfl (Nat.le_of_ble_eq_true rfl) (by decide) V (fun r1 M2 V => ?_)
      refine rj_goto (tgt := 119) dX11_soonest_114 (by decide) ?_
      exact rm_iret dX11_soonest_119 rfl rfl V
  · have V := V2 hc
    refine rj_aload_n dX11_soonest_40 0 rfl rfl ?_
    refine rs_getR (t := 60) fl_RX11_9 rfl (by decide) (by decide) rfl dX11_soonest_41 rfl (by omega) ?_
    refine rj_iconst (v := 0) dX11_soonest_44 (by decide) ?_
    refine rj_iload dX11_soonest_45 7 rfl ?_
    obtain ⟨hb, V⟩ := V
    refine rs_iast dX11_soonest_47 rfl hb (fun M1 eM1 => ?_)
    have V := V M1 eM1
    refine rj_aload_n dX11_soonest_48 0 rfl rfl ?_
    refine rj_iload_n dX11_soonest_49 1 rfl rfl ?_
    refine rj_iload_n dX11_soonest_50 2 rfl rfl ?_
    refine rj_iload_n dX11_soonest_51 3 rfl rfl ?_
    refine rm_callVv [.int v1, .int v2, .int v3] (rest := []) ml_RX11_271 mvX11_goesAll rfl dX11_soonest_52 rfl rfl rfl rfl rfl (Nat.le_of_ble_eq_true rfl) (by decide) V (fun M2 V => ?_)
    refine rj_aload_n dX11_soonest_55 0 rfl rfl ?_
    refine rs_getI fl_RX11_262 rfl (by decide) (by decide) rfl dX11_soonest_56 rfl ?_
    obtain ⟨V1, V2⟩ := V
    refine rj_if_lt (tgt := 89) dX11_soonest_59 (by decide) (fun hc => ?_) (fun hc => ?_)
    · have V := V1 hc
      refine rj_iincV (c := 1) (fun y => [(0, .ref 59), (1, .int v1), (2, .int v2), (3, .int v3), (4, .int v4), (5, .int v5), (6, .int v6), (7, .int y)]) dX11_soonest_89 7 rfl (by decide) (by decide) rfl (fun _ => rfl) (fun x1 ex1 => ?_)
      have V := V x1 ex1
      refine rj_goto (tgt := 33) dX11_soonest_92 (by decide) ?_
      exact rs_sub [0, 1, 2, 3, 4, 5, 6, 7] rfl V
    · have V := V2 hc
      refine rj_iload dX11_soonest_62 5 rfl ?_
      obtain ⟨V1, V2⟩ := V
      refine rj_if_lt (tgt := 79) dX11_soonest_64 (by decide) (fun hc => ?_) (fun hc => ?_)
      · have V := V1 hc
        refine rj_iload dX11_soonest_79 7 rfl ?_
        refine rj_istore (lv' := [(0, .ref 59), (1, .int v1), (2, .int v2), (3, .int v3), (4, .int v4), (5, .int v7), (6, .int v6), (7, .int v7)]) dX11_soonest_81 (by decide) rfl rfl ?_
        refine rj_aload_n dX11_soonest_83 0 rfl rfl ?_
        refine rs_getI fl_RX11_259 rfl (by decide) (by decide) rfl dX11_soonest_84 rfl ?_
        refine rj_top (fun x1 ex1 => ?_)
        have V := V x1 ex1
        refine rj_istore (lv' := [(0, .ref 59), (1, .int v1), (2, .int v2), (3, .int v3), (4, .int v4), (5, .int v7), (6, .int x1), (7, .int v7)]) dX11_soonest_87 (by decide) rfl rfl ?_
        refine rj_iincV (c := 1) (fun y => [(0, .ref 59), (1, .int v1), (2, .int v2), (3, .int v3), (4, .int v4), (5, .int v7), (6, .int x1), (7, .int y)]) dX11_soonest_89 7 rfl (by decide) (by decide) rfl (fun _ => rfl) (fun x2 ex2 => ?_)
        have V := V x2 ex2
        refine rj_goto (tgt := 33) dX11_soonest_92 (by decide) ?_
        exact rs_sub [0, 1, 2, 3, 4, 5, 6, 7] rfl V
      · have V := V2 hc
        refine rj_aload_n dX11_soonest_67 0 rfl rfl ?_
        refine rs_getI fl_RX11_259 rfl (by decide) (by decide) rfl dX11_soonest_68 rfl ?_
        refine rj_iload dX11_soonest_71 6 rfl ?_
        obtain ⟨V1, V2⟩ := V
        refine rj_icmp_lt (tgt := 79) dX11_soonest_73 (by decide) (fun hc => ?_) (fun hc => ?_)
        · have V := V1 hc
          refine rj_iload dX11_soonest_79 7 rfl ?_
          refine rj_istore (lv' := [(0, .ref 59), (1, .int v1), (2, .int v2), (3, .int v3), (4, .int v4), (5, .int v7), (6, .int v6), (7, .int v7)]) dX11_soonest_81 (by decide) rfl rfl ?_
          refine rj_aload_n dX11_soonest_83 0 rfl rfl ?_
          refine rs_getI fl_RX11_259 rfl (by decide) (by decide) rfl dX11_soonest_84 rfl ?_
          refine rj_top (fun x1 ex1 => ?_)
          have V := V x1 ex1
          refine rj_istore (lv' := [(0, .ref 59), (1, .int v1), (2, .int v2), (3, .int v3), (4, .int v4), (5, .int v7), (6, .int x1), (7, .int v7)]) dX11_soonest_87 (by decide) rfl rfl ?_
          refine rj_iincV (c := 1) (fun y => [(0, .ref 59), (1, .int v1), (2, .int v2), (3, .int v3), (4, .int v4), (5, .int v7), (6, .int x1), (7, .int y)]) dX11_soonest_89 7 rfl (by decide) (by decide) rfl (fun _ => rfl) (fun x2 ex2 => ?_)
          have V := V x2 ex2
          refine rj_goto (tgt := 33) dX11_soonest_92 (by decide) ?_
          exact rs_sub [0, 1, 2, 3, 4, 5, 6, 7] rfl V
        · have V := V2 hc
          refine rj_goto (tgt := 89) dX11_soonest_76 (by decide) ?_
          refine rj_iincV (c := 1) (fun y => [(0, .ref 59), (1, .int v1), (2, .int v2), (3, .int v3), (4, .int v4), (5, .int v5), (6, .int v6), (7, .int y)]) dX11_soonest_89 7 rfl (by decide) (by decide) rfl (fun _ => rfl) (fun x1 ex1 => ?_)
          have V := V x1 ex1
          refine rj_goto (tgt := 33) dX11_soonest_92 (by decide) ?_
          exact rs_sub [0, 1, 2, 3, 4, 5, 6, 7] rfl V
-- X11_meet
set_option maxRecDepth 100000 in
set_option maxHeartbeats 4000000 in
theorem vX11_meet_0 {w : Wd} {h : Nat} (hh : 2 ≤ h) (a0 : Int32) (a1 : Int32) (a2 : Int32) (a3 : Int32)  (M : Mem) (Q : Option Value → Mem → Prop) (V : ((¬ (((0 ≤ a0 ∧ a0 ≤ 7) ∧ (0 ≤ a1 ∧ a1 ≤ 11) ∧ (1 ≤ a3 ∧ a3 ≤ 99))) → (CSi w h kX11_finds [.ref 59, .int (-1000001)] M (fun r1 M1 => (Q (some (.int r1)) M1)))) ∧ (((0 ≤ a0 ∧ a0 ≤ 7) ∧ (0 ≤ a1 ∧ a1 ≤ 11) ∧ (1 ≤ a3 ∧ a3 ≤ 99)) → ((¬ ((0 ≤ a2 ∧ a2 ≤ 11)) → (CSi w h kX11_finds [.ref 59, .int (-1000001)] M (fun r1 M1 => (Q (some (.int r1)) M1)))) ∧ ((0 ≤ a2 ∧ a2 ≤ 11) → ((¬ (a1 = a2) → (CSv w h kX11_goesAll [.ref 59, .int a0, .int a1, .int a3] M (fun M1 => (CSi w h kX11_onCells [.ref 59] M1 (fun r1 M2 => RM w (h + 1) kX11_meet 46 [(0, .ref 59), (1, .int a0), (3, .int a2), (4, .int a3), (5, .int r1), (6, .int 0)] [] M2 Q))))) ∧ (a1 = a2 → (CSi w h kX11_finds [.ref 59, .int (-1000001)] M (fun r1 M1 => (Q (some (.int r1)) M1)))))))))) : RM w (h + 1) kX11_meet 0 [(0, .ref 59), (1, .int a0), (2, .int a1), (3, .int a2), (4, .int a3)] [] M Q := by
  refine rj_iload_n dX11_meet_0 1 rfl rfl ?_
  refine rj_iload_n dX11_meet_1 2 rfl rfl ?_
  refine rj_iload dX11_meet_2 4 rfl ?_
  refine rm_callSi [.int a0, .int a1, .int a3] (rest := []) (K := fun x M' => b2i ((0 ≤ a0 ∧ a0 ≤ 7) ∧ (0 ≤ a1 ∧ a1 ≤ 11) ∧ (1 ≤ a3 ∧ a3 ≤ 99)) = x ∧ M = M') ml_RX11_268 mtX11_isPath rfl dX11_meet_4 rfl rfl (Nat.le_of_ble_eq_true rfl) (by decide) (uX11_isPath (by omega) ⟨rfl, rfl⟩) (fun x M' hx => ?_)
  obtain ⟨rfl, rfl⟩ := hx
  obtain ⟨V1, V2⟩ := V
  refine rs_if_eqB (tgt := 22) dX11_meet_7 (by decide) (fun hc => ?_) (fun hc => ?_)
  · have V := V1 hc
    refine rj_aload_n dX11_meet_22 0 rfl rfl ?_
    refine rj_ldc (v := (-1000001)) rfl kc_RX11_40 dX11_meet_23 ?_
    refine rm_callVi [.int (-1000001)] (rest := []) ml_RX11_94 mvX11_finds rfl dX11_meet_25 rfl rfl rfl rfl rfl (Nat.le_of_ble_eq_true rfl) (by decide) V (fun r1 M1 V => ?_)
    exact rm_iret dX11_meet_28 rfl rfl V
  · have V := V2 hc
    refine rj_iload_n dX11_meet_10 3 rfl rfl ?_
    refine rm_callSi [.int a2] (rest := []) (K := fun x M' => b2i (0 ≤ a2 ∧ a2 ≤ 11) = x ∧ M = M') ml_RX11_120 mtX11_isColumn rfl dX11_meet_11 rfl rfl (Nat.le_of_ble_eq_true rfl) (by decide) (uX11_isColumn (by omega) ⟨rfl, rfl⟩) (fun x M' hx => ?_)
    obtain ⟨rfl, rfl⟩ := hx
    obtain ⟨V1, V2⟩ := V
    refine rs_if_eqB (tgt := 22) dX11_meet_14 (by decide) (fun hc => ?_) (fun hc => ?_)
    · have V := V1 hc
      refine rj_aload_n dX11_meet_22 0 rfl rfl ?_
      refine rj_ldc (v := (-1000001)) rfl kc_RX11_40 dX11_meet_23 ?_
      refine rm_callVi [.int (-1000001)] (rest := []) ml_RX11_94 mvX11_finds rfl dX11_meet_25 rfl rfl rfl rfl rfl (Nat.le_of_ble_eq_true rfl) (by decide) V (fun r1 M1 V => ?_)
      exact rm_iret dX11_meet_28 rfl rfl V
    · have V := V2 hc
      refine rj_iload_n dX11_meet_17 2 rfl rfl ?_
      refine rj_iload_n dX11_meet_18 3 rfl rfl ?_
      obtain ⟨V1, V2⟩ := V
      refine rj_icmp_ne (tgt := 29) dX11_meet_19 (by decide) (fun hc => ?_) (fun hc => ?_)
      · have V := V1 hc
        refine rj_aload_n dX11_meet_29 0 rfl rfl ?_
        refine rj_iload_n dX11_meet_30 1 rfl rfl ?_
        refine rj_iload_n dX11_meet_31 2 rfl rfl ?_
        refine rj_iload dX11_meet_32 4 rfl ?_
        refine rm_callVv [.int a0, .int a1, .int a3] (rest := []) ml_RX11_271 mvX11_goesAll rfl dX11_meet_34 rfl rfl rfl rfl rfl (Nat.le_of_ble_eq_true rfl) (by decide) V (fun M1 V => ?_)
        refine rj_aload_n dX11_meet_37 0 rfl rfl ?_
        refine rm_callVi [] (rest := []) ml_RX11_274 mvX11_onCells rfl dX11_meet_38 rfl rfl rfl rfl rfl (Nat.le_of_ble_eq_true rfl) (by decide) V (fun r1 M2 V => ?_)
        refine rj_istore (lv' := [(0, .ref 59), (1, .int a0), (2, .int a1), (3, .int a2), (4, .int a3), (5, .int r1)]) dX11_meet_41 (by decide) rfl rfl ?_
        refine rj_iconst (v := 0) dX11_meet_43 (by decide) ?_
        refine rj_istore (lv' := [(0, .ref 59), (1, .int a0), (2, .int a1), (3, .int a2), (4, .int a3), (5, .int r1), (6, .int 0)]) dX11_meet_44 (by decide) rfl rfl ?_
        exact rs_sub [0, 1, 3, 4, 5, 6] rfl V
      · have V := V2 hc
        refine rj_aload_n dX11_meet_22 0 rfl rfl ?_
        refine rj_ldc (v := (-1000001)) rfl kc_RX11_40 dX11_meet_23 ?_
        refine rm_callVi [.int (-1000001)] (rest := []) ml_RX11_94 mvX11_finds rfl dX11_meet_25 rfl rfl rfl rfl rfl (Nat.le_of_ble_eq_true rfl) (by decide) V (fun r1 M1 V => ?_)
        exact rm_iret dX11_meet_28 rfl rfl V
set_option maxRecDepth 100000 in
set_option maxHeartbeats 4000000 in
theorem vX11_meet_46 {w : Wd} {h : Nat} (hh : 2 ≤ h) (v1 : Int32) (v3 : Int32) (v4 : Int32) (v5 : Int32) (v6 : Int32)  (M : Mem) (Q : Option Value → Mem → Prop) (V : ((v5 < v6 → (CSv w h kX11_goesAll [.ref 59, .int v1, .int v3, .int v4] M (fun M1 => RM w (h + 1) kX11_meet 84 [(0, .ref 59), (5, .int v5), (6, .int 0)] [] M1 Q))) ∧ (¬ (v5 < v6) → (vp_in v6 65 ∧ (vp_in v6 65 ∧ ∀ M1 : Mem, M1 = mset M 65 (Int32.toNatClampNeg v6) (M 64 (Int32.toNatClampNeg v6)) → (∀ x1 : Int32, x1 = v6 + 1 → RM w (h + 1) kX11_meet 46 [(0, .ref 59), (1, .int v1), (3, .int v3), (4, .int v4), (5, .int v5), (6, .int x1)] [] M1 Q)))))) : RM w (h + 1) kX11_meet 46 [(0, .ref 59), (1, .int v1), (3, .int v3), (4, .int v4), (5, .int v5), (6, .int v6)] [] M Q := by
  refine rj_iload dX11_meet_46 5 rfl ?_
  refine rj_iload dX11_meet_48 4 rfl ?_
  obtain ⟨V1, V2⟩ := V
  refine rj_icmp_gt (tgt := 73) dX11_meet_50 (by decide) (fun hc => ?_) (fun hc => ?_)
  · have V := V1 hc
    refine rj_aload_n dX11_meet_73 0 rfl rfl ?_
    refine rj_iload_n dX11_meet_74 1 rfl rfl ?_
    refine rj_iload_n dX11_meet_75 2 rfl rfl ?_
    refine rj_iload dX11_meet_76 3 rfl ?_
    refine rm_callVv [.int v1, .int v3, .int v4] (rest := []) ml_RX11_271 mvX11_goesAll rfl dX11_meet_78 rfl rfl rfl rfl rfl (Nat.le_of_ble_eq_true rfl) (by decide) V (fun M1 V => ?_)
    refine rj_iconst (v := 0) dX11_meet_81 (by decide) ?_
    refine rj_istore (lv' := [(0, .ref 59), (1, .int v1), (3, .int v3), (4, .int v4), (5, .int v5), (6, .int 0)]) dX11_meet_82 (by decide) rfl rfl ?_
    exact rs_sub [0, 4, 5] rfl V
  · have V := V2 hc
    refine rj_aload_n dX11_meet_53 0 rfl rfl ?_
    refine rs_getR (t := 65) fl_RX11_25 rfl (by decide) (by decide) rfl dX11_meet_54 rfl (by omega) ?_
    refine rj_iload dX11_meet_57 5 rfl ?_
    refine rj_aload_n dX11_meet_59 0 rfl rfl ?_
    refine rs_getR (t := 64) fl_RX11_22 rfl (by decide) (by decide) rfl dX11_meet_60 rfl (by omega) ?_
    refine rj_iload dX11_meet_63 5 rfl ?_
    obtain ⟨hb, V⟩ := V
    refine rs_iald dX11_meet_65 rfl hb ?_
    obtain ⟨hb, V⟩ := V
    refine rs_iast dX11_meet_66 rfl hb (fun M1 eM1 => ?_)
    have V := V M1 eM1
    refine rj_iincV (c := 1) (fun y => [(0, .ref 59), (1, .int v1), (3, .int v3), (4, .int v4), (5, .int v5), (6, .int y)]) dX11_meet_67 5 rfl (by decide) (by decide) rfl (fun _ => rfl) (fun x1 ex1 => ?_)
    have V := V x1 ex1
    refine rj_goto (tgt := 46) dX11_meet_70 (by decide) ?_
    exact rs_sub [0, 1, 2, 3, 4, 5] rfl V
set_option maxRecDepth 100000 in
set_option maxHeartbeats 4000000 in
theorem vX11_meet_84 {w : Wd} {h : Nat} (hh : 2 ≤ h) (v5 : Int32) (v6 : Int32)  (M : Mem) (Q : Option Value → Mem → Prop) (V : ((v5 < v6 → (CSi w h kX11_finds [.ref 59, .int (-1000004)] M (fun r1 M1 => (Q (some (.int r1)) M1)))) ∧ (¬ (v5 < v6) → (CSi w h kX11_onCells [.ref 59] M (fun r1 M1 => ((r1 < v6 → (CSi w h kX11_finds [.ref 59, .int (-1000004)] M1 (fun r2 M2 => (Q (some (.int r2)) M2)))) ∧ (¬ (r1 < v6) → (vp_in v6 65 ∧ (vp_in v6 65 ∧ ((¬ ((M1 65 (Int32.toNatClampNeg v6)) = (M1 64 (Int32.toNatClampNeg v6))) → (∀ x1 : Int32, x1 = v6 + 1 → RM w (h + 1) kX11_meet 84 [(0, .ref 59), (5, .int v5), (6, .int x1)] [] M1 Q)) ∧ ((M1 65 (Int32.toNatClampNeg v6)) = (M1 64 (Int32.toNatClampNeg v6)) → (Q (some (.int v6)) M1)))))))))))) : RM w (h + 1) kX11_meet 84 [(0, .ref 59), (5, .int v5), (6, .int v6)] [] M Q := by
  refine rj_iload dX11_meet_84 2 rfl ?_
  refine rj_iload dX11_meet_86 1 rfl ?_
  obtain ⟨V1, V2⟩ := V
  refine rj_icmp_gt (tgt := 126) dX11_meet_88 (by decide) (fun hc => ?_) (fun hc => ?_)
  · have V := V1 hc
    refine rj_aload_n dX11_meet_126 0 rfl rfl ?_
    refine rj_ldc (v := (-1000004)) rfl kc_RX11_126 dX11_meet_127 ?_
    refine rm_callVi [.int (-1000004)] (rest := []) ml_RX11_94 mvX11_finds rfl dX11_meet_129 rfl rfl rfl rfl rfl (Nat.le_of_ble_eq_true rfl) (by decide) V (fun r1 M1 V => ?_)
    exact rm_iret dX11_meet_132 rfl rfl V
  · have V := V2 hc
    refine rj_iload dX11_meet_91 2 rfl ?_
    refine rj_aload_n dX11_meet_93 0 rfl rfl ?_
    refine rm_callVi [] (rest := [.int v6]) ml_RX11_274 mvX11_onCells rfl dX11_meet_94 rfl rfl rfl rfl rfl (Nat.le_of_ble_eq_true rfl) (by decide) V (fun r1 M1 V => ?_)
    obtain ⟨V1, V2⟩ := V
    refine rj_icmp_gt (tgt := 126) dX11_meet_97 (by decide) (fun hc => ?_) (fun hc => ?_)
    · have V := V1 hc
      refine rj_aload_n dX11_meet_126 0 rfl rfl ?_
      refine rj_ldc (v := (-1000004)) rfl kc_RX11_126 dX11_meet_127 ?_
      refine rm_callVi [.int (-1000004)] (rest := []) ml_RX11_94 mvX11_finds rfl dX11_meet_129 rfl rfl rfl rfl rfl (Nat.le_of_ble_eq_true rfl) (by decide) V (fun r2 M2 V => ?_)
      exact rm_iret dX11_meet_132 rfl rfl V
    · have V := V2 hc
      refine rj_aload_n dX11_meet_100 0 rfl rfl ?_
      refine rs_getR (t := 65) fl_RX11_25 rfl (by decide) (by decide) rfl dX11_meet_101 rfl (by omega) ?_
      refine rj_iload dX11_meet_104 2 rfl ?_
      obtain ⟨hb, V⟩ := V
      refine rs_iald dX11_meet_106 rfl hb ?_
      refine rj_aload_n dX11_meet_107 0 rfl rfl ?_
      refine rs_getR (t := 64) fl_RX11_22 rfl (by decide) (by decide) rfl dX11_meet_108 rfl (by omega) ?_
      refine rj_iload dX11_meet_111 2 rfl ?_
      obtain ⟨hb, V⟩ := V
      refine rs_iald dX11_meet_113 rfl hb ?_
      obtain ⟨V1, V2⟩ := V
      refine rj_icmp_ne (tgt := 120) dX11_meet_114 (by decide) (fun hc => ?_) (fun hc => ?_)
      · have V := V1 hc
        refine rj_iincV (c := 1) (fun y => [(0, .ref 59), (5, .int v5), (6, .int y)]) dX11_meet_120 2 rfl (by decide) (by decide) rfl (fun _ => rfl) (fun x1 ex1 => ?_)
        have V := V x1 ex1
        refine rj_goto (tgt := 84) dX11_meet_123 (by decide) ?_
        exact rs_sub [0, 1, 2] rfl V
      · have V := V2 hc
        refine rj_iload dX11_meet_117 2 rfl ?_
        exact rm_iret dX11_meet_119 rfl rfl V
-- X11_edge
set_option maxRecDepth 100000 in
set_option maxHeartbeats 4000000 in
theorem vX11_edge_0 {w : Wd} {h : Nat} (hh : 2 ≤ h) (a0 : Int32) (a1 : Int32) (a2 : Int32)  (M : Mem) (Q : Option Value → Mem → Prop) (V : ((¬ ((0 ≤ a0 ∧ a0 ≤ 191)) → (CSi w h kX11_finds [.ref 59, .int (-1000001)] M (fun r1 M1 => (Q (some (.int r1)) M1)))) ∧ ((0 ≤ a0 ∧ a0 ≤ 191) → ((((0 ≤ a1 ∧ a1 ≤ 7) ∧ (0 ≤ a2 ∧ a2 ≤ 11) ∧ (1 ≤ (20 : Int32) ∧ (20 : Int32) ≤ 99)) → (vp_in (18 + a0) 666 ∧ (∀ x1 : Int32, x1 = (M 60 (Int32.toNatClampNeg (18 + a0))) → RM w (h + 1) kX11_edge 41 [(0, .ref 59), (1, .int a0), (2, .int a1), (3, .int a2), (4, .int x1), (5, .int (-1)), (6, .int 0)] [] M Q))) ∧ (¬ (((0 ≤ a1 ∧ a1 ≤ 7) ∧ (0 ≤ a2 ∧ a2 ≤ 11) ∧ (1 ≤ (20 : Int32) ∧ (20 : Int32) ≤ 99))) → (CSi w h kX11_finds [.ref 59, .int (-1000001)] M (fun r1 M1 => (Q (some (.int r1)) M1)))))))) : RM w (h + 1) kX11_edge 0 [(0, .ref 59), (1, .int a0), (2, .int a1), (3, .int a2)] [] M Q := by
  refine rj_iload_n dX11_edge_0 1 rfl rfl ?_
  refine rm_callSi [.int a0] (rest := []) (K := fun x M' => b2i (0 ≤ a0 ∧ a0 ≤ 191) = x ∧ M = M') ml_RX11_88 mtX11_isCell rfl dX11_edge_1 rfl rfl (Nat.le_of_ble_eq_true rfl) (by decide) (uX11_isCell (by omega) ⟨rfl, rfl⟩) (fun x M' hx => ?_)
  obtain ⟨rfl, rfl⟩ := hx
  obtain ⟨V1, V2⟩ := V
  refine rs_if_eqB (tgt := 17) dX11_edge_4 (by decide) (fun hc => ?_) (fun hc => ?_)
  · have V := V1 hc
    refine rj_aload_n dX11_edge_17 0 rfl rfl ?_
    refine rj_ldc (v := (-1000001)) rfl kc_RX11_40 dX11_edge_18 ?_
    refine rm_callVi [.int (-1000001)] (rest := []) ml_RX11_94 mvX11_finds rfl dX11_edge_20 rfl rfl rfl rfl rfl (Nat.le_of_ble_eq_true rfl) (by decide) V (fun r1 M1 V => ?_)
    exact rm_iret dX11_edge_23 rfl rfl V
  · have V := V2 hc
    refine rj_iload_n dX11_edge_7 2 rfl rfl ?_
    refine rj_iload_n dX11_edge_8 3 rfl rfl ?_
    refine rj_bipush (v := 20) dX11_edge_9 (by decide) ?_
    refine rm_callSi [.int a1, .int a2, .int 20] (rest := []) (K := fun x M' => b2i ((0 ≤ a1 ∧ a1 ≤ 7) ∧ (0 ≤ a2 ∧ a2 ≤ 11) ∧ (1 ≤ (20 : Int32) ∧ (20 : Int32) ≤ 99)) = x ∧ M = M') ml_RX11_268 mtX11_isPath rfl dX11_edge_11 rfl rfl (Nat.le_of_ble_eq_true rfl) (by decide) (uX11_isPath (by omega) ⟨rfl, rfl⟩) (fun x M' hx => ?_)
    obtain ⟨rfl, rfl⟩ := hx
    obtain ⟨V1, V2⟩ := V
    refine rs_if_neB (tgt := 24) dX11_edge_14 (by decide) (fun hc => ?_) (fun hc => ?_)
    · have V := V1 hc
      refine rj_aload_n dX11_edge_24 0 rfl rfl ?_
      refine rs_getR (t := 60) fl_RX11_9 rfl (by decide) (by decide) rfl dX11_edge_25 rfl (by omega) ?_
      refine rj_bipush (v := 18) dX11_edge_28 (by decide) ?_
      refine rj_iload_n dX11_edge_30 1 rfl rfl ?_
      refine rj_iadd dX11_edge_31 ?_
      obtain ⟨hb, V⟩ := V
      refine rs_iald dX11_edge_32 rfl hb ?_
      refine rj_top (fun x1 ex1 => ?_)
      have V := V x1 ex1
      refine rj_istore (lv' := [(0, .ref 59), (1, .int a0), (2, .int a1), (3, .int a2), (4, .int x1)]) dX11_edge_33 (by decide) rfl rfl ?_
      refine rj_iconst (v := (-1)) dX11_edge_35 (by decide) ?_
      refine rj_istore (lv' := [(0, .ref 59), (1, .int a0), (2, .int a1), (3, .int a2), (4, .int x1), (5, .int (-1))]) dX11_edge_36 (by decide) rfl rfl ?_
      refine rj_iconst (v := 0) dX11_edge_38 (by decide) ?_
      refine rj_istore (lv' := [(0, .ref 59), (1, .int a0), (2, .int a1), (3, .int a2), (4, .int x1), (5, .int (-1)), (6, .int 0)]) dX11_edge_39 (by decide) rfl rfl ?_
      exact rs_sub [0, 1, 2, 3, 4, 5, 6] rfl V
    · have V := V2 hc
      refine rj_aload_n dX11_edge_17 0 rfl rfl ?_
      refine rj_ldc (v := (-1000001)) rfl kc_RX11_40 dX11_edge_18 ?_
      refine rm_callVi [.int (-1000001)] (rest := []) ml_RX11_94 mvX11_finds rfl dX11_edge_20 rfl rfl rfl rfl rfl (Nat.le_of_ble_eq_true rfl) (by decide) V (fun r1 M1 V => ?_)
      exact rm_iret dX11_edge_23 rfl rfl V
set_option maxRecDepth 100000 in
set_option maxHeartbeats 4000000 in
theorem vX11_edge_41 {w : Wd} {h : Nat} (hh : 2 ≤ h) (v1 : Int32) (v2 : Int32) (v3 : Int32) (v4 : Int32) (v5 : Int32) (v6 : Int32)  (M : Mem) (Q : Option Value → Mem → Prop) (V : ((10 ≤ v6 → (vp_in (18 + v1) 666 ∧ ∀ M1 : Mem, M1 = mset M 60 (Int32.toNatClampNeg (18 + v1)) v4 → ((0 ≤ v5 → (Q (some (.int v5)) M1)) ∧ (¬ (0 ≤ v5) → (CSi w h kX11_finds [.ref 59, .int (-1000004)] M1 (fun r1 M2 => (Q (some (.int r1)) M2))))))) ∧ (¬ (10 ≤ v6) → (vp_in (18 + v1) 666 ∧ ∀ M1 : Mem, M1 = mset M 60 (Int32.toNatClampNeg (18 + v1)) v6 → (CSv w h kX11_goesAll [.ref 59, .int v2, .int v3, .int 20] M1 (fun M2 => (∀ x1 : Int32, x1 = (if 0 ≤ (M2 59 14) then v6 else v5) → (∀ x2 : Int32, x2 = v6 + 1 → RM w (h + 1) kX11_edge 41 [(0, .ref 59), (1, .int v1), (2, .int v2), (3, .int v3), (4, .int v4), (5, .int x1), (6, .int x2)] [] M2 Q)))))))) : RM w (h + 1) kX11_edge 41 [(0, .ref 59), (1, .int v1), (2, .int v2), (3, .int v3), (4, .int v4), (5, .int v5), (6, .int v6)] [] M Q := by
  refine rj_iload dX11_edge_41 6 rfl ?_
  refine rj_bipush (v := 10) dX11_edge_43 (by decide) ?_
  obtain ⟨V1, V2⟩ := V
  refine rj_icmp_ge (tgt := 89) dX11_edge_45 (by decide) (fun hc => ?_) (fun hc => ?_)
  · have V := V1 hc
    refine rj_aload_n dX11_edge_89 0 rfl rfl ?_
    refine rs_getR (t := 60) fl_RX11_9 rfl (by decide) (by decide) rfl dX11_edge_90 rfl (by omega) ?_
    refine rj_bipush (v := 18) dX11_edge_93 (by decide) ?_
    refine rj_iload_n dX11_edge_95 1 rfl rfl ?_
    refine rj_iadd dX11_edge_96 ?_
    refine rj_iload dX11_edge_97 4 rfl ?_
    obtain ⟨hb, V⟩ := V
    refine rs_iast dX11_edge_99 rfl hb (fun M1 eM1 => ?_)
    have V := V M1 eM1
    refine rj_iload dX11_edge_100 5 rfl ?_
    obtain ⟨V1, V2⟩ := V
    refine rj_if_ge (tgt := 114) dX11_edge_102 (by decide) (fun hc => ?_) (fun hc => ?_)
    · have V := V1 hc
      refine rj_iload dX11_edge_114 5 rfl ?_
      exact rm_iret dX11_edge_116 rfl rfl V
    · have V := V2 hc
      refine rj_aload_n dX11_edge_105 0 rfl rfl ?_
      refine rj_ldc (v := (-1000004)) rfl kc_RX11_126 dX11_edge_106 ?_
      refine rm_callVi [.int (-1000004)] (rest := []) ml_RX11_94 mvX11_finds rfl dX11_edge_108 rfl rfl rfl rfl rfl (Nat.le_of_ble_eq_true rfl) (by decide) V (fun r1 M2 V => ?_)
      refine rj_goto (tgt := 116) dX11_edge_111 (by decide) ?_
      exact rm_iret dX11_edge_116 rfl rfl V
  · have V := V2 hc
    refine rj_aload_n dX11_edge_48 0 rfl rfl ?_
    refine rs_getR (t := 60) fl_RX11_9 rfl (by decide) (by decide) rfl dX11_edge_49 rfl (by omega) ?_
    refine rj_bipush (v := 18) dX11_edge_52 (by decide) ?_
    refine rj_iload_n dX11_edge_54 1 rfl rfl ?_
    refine rj_iadd dX11_edge_55 ?_
    refine rj_iload dX11_edge_56 6 rfl ?_
    obtain ⟨hb, V⟩ := V
    refine rs_iast dX11_edge_58 rfl hb (fun M1 eM1 => ?_)
    have V := V M1 eM1
    refine rj_aload_n dX11_edge_59 0 rfl rfl ?_
    refine rj_iload_n dX11_edge_60 2 rfl rfl ?_
    refine rj_iload_n dX11_edge_61 3 rfl rfl ?_
    refine rj_bipush (v := 20) dX11_edge_62 (by decide) ?_
    refine rm_callVv [.int v2, .int v3, .int 20] (rest := []) ml_RX11_271 mvX11_goesAll rfl dX11_edge_64 rfl rfl rfl rfl rfl (Nat.le_of_ble_eq_true rfl) (by decide) V (fun M2 V => ?_)
    refine rj_aload_n dX11_edge_67 0 rfl rfl ?_
    refine rs_getI fl_RX11_262 rfl (by decide) (by decide) rfl dX11_edge_68 rfl ?_
    have KD : RM w (h + 1) kX11_edge 81 [(0, .ref 59), (1, .int v1), (2, .int v2), (3, .int v3), (4, .int v4), (5, .int v5), (6, .int v6)] [.int (if 0 ≤ (M2 59 14) then v6 else v5)] M2 Q := by
      refine rj_top (fun x1 ex1 => ?_)
      have V := V x1 ex1
      refine rj_istore (lv' := [(0, .ref 59), (1, .int v1), (2, .int v2), (3, .int v3), (4, .int v4), (5, .int x1), (6, .int v6)]) dX11_edge_81 (by decide) rfl rfl ?_
      refine rj_iincV (c := 1) (fun y => [(0, .ref 59), (1, .int v1), (2, .int v2), (3, .int v3), (4, .int v4), (5, .int x1), (6, .int y)]) dX11_edge_83 6 rfl (by decide) (by decide) rfl (fun _ => rfl) (fun x2 ex2 => ?_)
      have V := V x2 ex2
      refine rj_goto (tgt := 41) dX11_edge_86 (by decide) ?_
      exact rs_sub [0, 1, 2, 3, 4, 5, 6] rfl V
    refine rj_if_ge (tgt := 79) dX11_edge_71 (by decide) (fun hc => ?_) (fun hc => ?_)
    · refine rj_iload dX11_edge_79 6 rfl ?_
      exact rs_ite_t hc KD
    · refine rj_iload dX11_edge_74 5 rfl ?_
      refine rj_goto (tgt := 81) dX11_edge_76 (by decide) ?_
      exact rs_ite_f hc KD
-- X11_findSums
set_option maxRecDepth 100000 in
set_option maxHeartbeats 4000000 in
theorem vX11_findSums_0 {w : Wd} {h : Nat}   (M : Mem) (Q : Option Value → Mem → Prop) (V : RM w (h + 1) kX11_findSums 4 [(0, .ref 59), (1, .int 191)] [] M Q) : RM w (h + 1) kX11_findSums 0 [(0, .ref 59)] [] M Q := by
  refine rj_sipush (v := 191) dX11_findSums_0 (by decide) ?_
  refine rj_istore_n (lv' := [(0, .ref 59), (1, .int 191)]) dX11_findSums_3 rfl (by decide) rfl rfl ?_
  exact rs_sub [0, 1] rfl V
set_option maxRecDepth 100000 in
set_option maxHeartbeats 4000000 in
theorem vX11_findSums_4 {w : Wd} {h : Nat} (v1 : Int32)  (M : Mem) (Q : Option Value → Mem → Prop) (V : ((v1 < 0 → (Q none M)) ∧ (¬ (v1 < 0) → (vp_in v1 192 ∧ ∀ M1 : Mem, M1 = mset M 66 (Int32.toNatClampNeg v1) 0 → ((v1 < 180 → (vp_in v1 192 ∧ ∀ M2 : Mem, M2 = mset M1 66 (Int32.toNatClampNeg v1) 2147483647 → RM w (h + 1) kX11_findSums 36 [(0, .ref 59), (1, .int v1), (2, .int 0)] [] M2 Q)) ∧ (¬ (v1 < 180) → (∀ x1 : Int32, x1 = v1 + (-1) → RM w (h + 1) kX11_findSums 4 [(0, .ref 59), (1, .int x1)] [] M1 Q))))))) : RM w (h + 1) kX11_findSums 4 [(0, .ref 59), (1, .int v1)] [] M Q := by
  refine rj_iload_n dX11_findSums_4 1 rfl rfl ?_
  obtain ⟨V1, V2⟩ := V
  refine rj_if_lt (tgt := 102) dX11_findSums_5 (by decide) (fun hc => ?_) (fun hc => ?_)
  · have V := V1 hc
    exact rm_vret dX11_findSums_102 rfl V
  · have V := V2 hc
    refine rj_aload_n dX11_findSums_8 0 rfl rfl ?_
    refine rs_getR (t := 66) fl_RX11_28 rfl (by decide) (by decide) rfl dX11_findSums_9 rfl (by omega) ?_
    refine rj_iload_n dX11_findSums_12 1 rfl rfl ?_
    refine rj_iconst (v := 0) dX11_findSums_13 (by decide) ?_
    obtain ⟨hb, V⟩ := V
    refine rs_iast dX11_findSums_14 rfl hb (fun M1 eM1 => ?_)
    have V := V M1 eM1
    refine rj_iload_n dX11_findSums_15 1 rfl rfl ?_
    refine rj_sipush (v := 180) dX11_findSums_16 (by decide) ?_
    obtain ⟨V1, V2⟩ := V
    refine rj_icmp_lt (tgt := 25) dX11_findSums_19 (by decide) (fun hc => ?_) (fun hc => ?_)
    · have V := V1 hc
      refine rj_aload_n dX11_findSums_25 0 rfl rfl ?_
      refine rs_getR (t := 66) fl_RX11_28 rfl (by decide) (by decide) rfl dX11_findSums_26 rfl (by omega) ?_
      refine rj_iload_n dX11_findSums_29 1 rfl rfl ?_
      refine rj_ldcw (v := 2147483647) rfl kc_RX11_281 dX11_findSums_30 ?_
      obtain ⟨hb, V⟩ := V
      refine rs_iast dX11_findSums_33 rfl hb (fun M2 eM2 => ?_)
      have V := V M2 eM2
      refine rj_iconst (v := 0) dX11_findSums_34 (by decide) ?_
      refine rj_istore_n (lv' := [(0, .ref 59), (1, .int v1), (2, .int 0)]) dX11_findSums_35 rfl (by decide) rfl rfl ?_
      exact rs_sub [0, 1, 2] rfl V
    · have V := V2 hc
      refine rj_goto (tgt := 96) dX11_findSums_22 (by decide) ?_
      refine rj_iincV (c := (-1)) (fun y => [(0, .ref 59), (1, .int y)]) dX11_findSums_96 1 rfl (by decide) (by decide) rfl (fun _ => rfl) (fun x1 ex1 => ?_)
      have V := V x1 ex1
      refine rj_goto (tgt := 4) dX11_findSums_99 (by decide) ?_
      exact rs_sub [0, 1] rfl V
set_option maxRecDepth 100000 in
set_option maxHeartbeats 4000000 in
theorem vX11_findSums_36 {w : Wd} {h : Nat} (v1 : Int32) (v2 : Int32)  (M : Mem) (Q : Option Value → Mem → Prop) (V : ((3 ≤ v2 → (∀ x1 : Int32, x1 = v1 + (-1) → RM w (h + 1) kX11_findSums 4 [(0, .ref 59), (1, .int x1)] [] M Q)) ∧ (¬ (3 ≤ v2) → (CSi w h kX11_below [.int v1, .int v2] M (fun r1 M1 => ((r1 < 0 → (∀ x1 : Int32, x1 = v2 + 1 → RM w (h + 1) kX11_findSums 36 [(0, .ref 59), (1, .int v1), (2, .int x1)] [] M1 Q)) ∧ (¬ (r1 < 0) → (CSi w h kX11_holdOf [.ref 59, .int r1] M1 (fun r2 M2 => (vp_in r1 192 ∧ (vp_in v1 192 ∧ (((M2 66 (Int32.toNatClampNeg v1)) ≤ (r2 + (M2 66 (Int32.toNatClampNeg r1))) → (∀ x1 : Int32, x1 = v2 + 1 → RM w (h + 1) kX11_findSums 36 [(0, .ref 59), (1, .int v1), (2, .int x1)] [] M2 Q)) ∧ (¬ ((M2 66 (Int32.toNatClampNeg v1)) ≤ (r2 + (M2 66 (Int32.toNatClampNeg r1)))) → (CSi w h kX11_holdOf [.ref 59, .int r1] M2 (fun r3 M3 => (vp_in r1 192 ∧ (vp_in v1 192 ∧ ∀ M4 : Mem, M4 = mset M3 66 (Int32.toNatClampNeg v1) (r3 + (M3 66 (Int32.toNatClampNeg r1))) → (∀ x1 : Int32, x1 = v2 + 1 → RM w (h + 1) kX11_findSums 36 [(0, .ref 59), (1, .int v1), (2, .int x1)] [] M4 Q)))))))))))))))))) : RM w (h + 1) kX11_findSums 36 [(0, .ref 59), (1, .int v1), (2, .int v2)] [] M Q := by
  refine rj_iload_n dX11_findSums_36 2 rfl rfl ?_
  refine rj_iconst (v := 3) dX11_findSums_37 (by decide) ?_
  obtain ⟨V1, V2⟩ := V
  refine rj_icmp_ge (tgt := 96) dX11_findSums_38 (by decide) (fun hc => ?_) (fun hc => ?_)
  · have V := V1 hc
    refine rj_iincV (c := (-1)) (fun y => [(0, .ref 59), (1, .int y), (2, .int v2)]) dX11_findSums_96 1 rfl (by decide) (by decide) rfl (fun _ => rfl) (fun x1 ex1 => ?_)
    have V := V x1 ex1
    refine rj_goto (tgt := 4) dX11_findSums_99 (by decide) ?_
    exact rs_sub [0, 1] rfl V
  · have V := V2 hc
    refine rj_iload_n dX11_findSums_41 1 rfl rfl ?_
    refine rj_iload_n dX11_findSums_42 2 rfl rfl ?_
    refine rm_callSi [.int v1, .int v2] (rest := []) ml_RX11_68 mtX11_below rfl dX11_findSums_43 rfl rfl (Nat.le_of_ble_eq_true rfl) (by decide) V (fun r1 M1 V => ?_)
    refine rj_istore_n (lv' := [(0, .ref 59), (1, .int v1), (2, .int v2), (3, .int r1)]) dX11_findSums_46 rfl (by decide) rfl rfl ?_
    refine rj_iload_n dX11_findSums_47 3 rfl rfl ?_
    obtain ⟨V1, V2⟩ := V
    refine rj_if_lt (tgt := 90) dX11_findSums_48 (by decide) (fun hc => ?_) (fun hc => ?_)
    · have V := V1 hc
      refine rj_iincV (c := 1) (fun y => [(0, .ref 59), (1, .int v1), (2, .int y), (3, .int r1)]) dX11_findSums_90 2 rfl (by decide) (by decide) rfl (fun _ => rfl) (fun x1 ex1 => ?_)
      have V := V x1 ex1
      refine rj_goto (tgt := 36) dX11_findSums_93 (by decide) ?_
      exact rs_sub [0, 1, 2] rfl V
    · have V := V2 hc
      refine rj_aload_n dX11_findSums_51 0 rfl rfl ?_
      refine rj_iload_n dX11_findSums_52 3 rfl rfl ?_
      refine rm_callVi [.int r1] (rest := []) ml_RX11_65 mvX11_holdOf rfl dX11_findSums_53 rfl rfl rfl rfl rfl (Nat.le_of_ble_eq_true rfl) (by decide) V (fun r2 M2 V => ?_)
      refine rj_aload_n dX11_findSums_56 0 rfl rfl ?_
      refine rs_getR (t := 66) fl_RX11_28 rfl (by decide) (by decide) rfl dX11_findSums_57 rfl (by omega) ?_
      refine rj_iload_n dX11_findSums_60 3 rfl rfl ?_
      obtain ⟨hb, V⟩ := V
      refine rs_iald dX11_findSums_61 rfl hb ?_
      refine rj_iadd dX11_findSums_62 ?_
      refine rj_aload_n dX11_findSums_63 0 rfl rfl ?_
      refine rs_getR (t := 66) fl_RX11_28 rfl (by decide) (by decide) rfl dX11_findSums_64 rfl (by omega) ?_
      refine rj_iload_n dX11_findSums_67 1 rfl rfl ?_
      obtain ⟨hb, V⟩ := V
      refine rs_iald dX11_findSums_68 rfl hb ?_
      obtain ⟨V1, V2⟩ := V
      refine rj_icmp_ge (tgt := 90) dX11_findSums_69 (by decide) (fun hc => ?_) (fun hc => ?_)
      · have V := V1 hc
        refine rj_iincV (c := 1) (fun y => [(0, .ref 59), (1, .int v1), (2, .int y), (3, .int r1)]) dX11_findSums_90 2 rfl (by decide) (by decide) rfl (fun _ => rfl) (fun x1 ex1 => ?_)
        have V := V x1 ex1
        refine rj_goto (tgt := 36) dX11_findSums_93 (by decide) ?_
        exact rs_sub [0, 1, 2] rfl V
      · have V := V2 hc
        refine rj_aload_n dX11_findSums_72 0 rfl rfl ?_
        refine rs_getR (t := 66) fl_RX11_28 rfl (by decide) (by decide) rfl dX11_findSums_73 rfl (by omega) ?_
        refine rj_iload_n dX11_findSums_76 1 rfl rfl ?_
        refine rj_aload_n dX11_findSums_77 0 rfl rfl ?_
        refine rj_iload_n dX11_findSums_78 3 rfl rfl ?_
        refine rm_callVi [.int r1] (rest := [.int v1, .ref 66]) ml_RX11_65 mvX11_holdOf rfl dX11_findSums_79 rfl rfl rfl rfl rfl (Nat.le_of_ble_eq_true rfl) (by decide) V (fun r3 M3 V => ?_)
        refine rj_aload_n dX11_findSums_82 0 rfl rfl ?_
        refine rs_getR (t := 66) fl_RX11_28 rfl (by decide) (by decide) rfl dX11_findSums_83 rfl (by omega) ?_
        refine rj_iload_n dX11_findSums_86 3 rfl rfl ?_
        obtain ⟨hb, V⟩ := V
        refine rs_iald dX11_findSums_87 rfl hb ?_
        refine rj_iadd dX11_findSums_88 ?_
        obtain ⟨hb, V⟩ := V
        refine rs_iast dX11_findSums_89 rfl hb (fun M4 eM4 => ?_)
        have V := V M4 eM4
        refine rj_iincV (c := 1) (fun y => [(0, .ref 59), (1, .int v1), (2, .int y), (3, .int r1)]) dX11_findSums_90 2 rfl (by decide) (by decide) rfl (fun _ => rfl) (fun x1 ex1 => ?_)
        have V := V x1 ex1
        refine rj_goto (tgt := 36) dX11_findSums_93 (by decide) ?_
        exact rs_sub [0, 1, 2] rfl V
-- X11_soft
set_option maxRecDepth 100000 in
set_option maxHeartbeats 4000000 in
theorem vX11_soft_0 {w : Wd} {h : Nat} (a0 : Int32)  (M : Mem) (Q : Option Value → Mem → Prop) (V : ((((0 : Int32) ≤ a0 ∧ a0 ≤ (2 : Int32)) → (CSv w h kX11_findSums [.ref 59] M (fun M1 => RM w (h + 1) kX11_soft 27 [(0, .ref 59), (1, .int a0), (2, .int 0), (3, .int 1)] [] M1 Q))) ∧ (¬ (((0 : Int32) ≤ a0 ∧ a0 ≤ (2 : Int32))) → (CSi w h kX11_finds [.ref 59, .int (-1000001)] M (fun r1 M1 => (Q (some (.int r1)) M1)))))) : RM w (h + 1) kX11_soft 0 [(0, .ref 59), (1, .int a0)] [] M Q := by
  refine rj_iload_n dX11_soft_0 1 rfl rfl ?_
  refine rj_i2l dX11_soft_1 ?_
  refine rj_lconst (v := 0) dX11_soft_2 (by decide) ?_
  refine rj_ldc2 (v := 2) rfl kl_RX11_102 dX11_soft_3 ?_
  refine rm_callSi [.long (Int32.toInt64 a0), .long 0, .long 2] (rest := []) (K := fun x M' => b2i ((0 : Int32) ≤ a0 ∧ a0 ≤ (2 : Int32)) = x ∧ M = M') ml_RX11_43 mtX11_in rfl dX11_soft_6 rfl rfl (Nat.le_of_ble_eq_true rfl) (by decide) (uX11_in (a0) (0) (2) (by decide) (by decide) ⟨rfl, rfl⟩) (fun x M' hx => ?_)
  obtain ⟨rfl, rfl⟩ := hx
  obtain ⟨V1, V2⟩ := V
  refine rs_if_neB (tgt := 19) dX11_soft_9 (by decide) (fun hc => ?_) (fun hc => ?_)
  · have V := V1 hc
    refine rj_aload_n dX11_soft_19 0 rfl rfl ?_
    refine rm_callVv [] (rest := []) ml_RX11_282 mvX11_findSums rfl dX11_soft_20 rfl rfl rfl rfl rfl (Nat.le_of_ble_eq_true rfl) (by decide) V (fun M1 V => ?_)
    refine rj_iconst (v := 0) dX11_soft_23 (by decide) ?_
    refine rj_istore_n (lv' := [(0, .ref 59), (1, .int a0), (2, .int 0)]) dX11_soft_24 rfl (by decide) rfl rfl ?_
    refine rj_iconst (v := 1) dX11_soft_25 (by decide) ?_
    refine rj_istore_n (lv' := [(0, .ref 59), (1, .int a0), (2, .int 0), (3, .int 1)]) dX11_soft_26 rfl (by decide) rfl rfl ?_
    exact rs_sub [0, 1, 2, 3] rfl V
  · have V := V2 hc
    refine rj_aload_n dX11_soft_12 0 rfl rfl ?_
    refine rj_ldc (v := (-1000001)) rfl kc_RX11_40 dX11_soft_13 ?_
    refine rm_callVi [.int (-1000001)] (rest := []) ml_RX11_94 mvX11_finds rfl dX11_soft_15 rfl rfl rfl rfl rfl (Nat.le_of_ble_eq_true rfl) (by decide) V (fun r1 M1 V => ?_)
    exact rm_iret dX11_soft_18 rfl rfl V
set_option maxRecDepth 100000 in
set_option maxHeartbeats 4000000 in
theorem vX11_soft_27 {w : Wd} {h : Nat} (v1 : Int32) (v2 : Int32) (v3 : Int32)  (M : Mem) (Q : Option Value → Mem → Prop) (V : ((12 ≤ v3 → ((2 ≤ v1 → RM w (h + 1) kX11_soft 82 [(0, .ref 59), (3, .int v2)] [] M Q) ∧ (¬ (2 ≤ v1) → ((¬ (v1 = 0) → (Q (some (.int v2)) M)) ∧ (v1 = 0 → (vp_in v2 192 ∧ (Q (some (.int (M 66 (Int32.toNatClampNeg v2)))) M))))))) ∧ (¬ (12 ≤ v3) → (vp_in v3 192 ∧ (vp_in v2 192 ∧ (∀ x1 : Int32, x1 = (if (M 66 (Int32.toNatClampNeg v2)) ≤ (M 66 (Int32.toNatClampNeg v3)) then v2 else v3) → (∀ x2 : Int32, x2 = v3 + 1 → RM w (h + 1) kX11_soft 27 [(0, .ref 59), (1, .int v1), (2, .int x1), (3, .int x2)] [] M Q))))))) : RM w (h + 1) kX11_soft 27 [(0, .ref 59), (1, .int v1), (2, .int v2), (3, .int v3)] [] M Q := by
  refine rj_iload_n dX11_soft_27 3 rfl rfl ?_
  refine rj_bipush (v := 12) dX11_soft_28 (by decide) ?_
  obtain ⟨V1, V2⟩ := V
  refine rj_icmp_ge (tgt := 60) dX11_soft_30 (by decide) (fun hc => ?_) (fun hc => ?_)
  · have V := V1 hc
    refine rj_iload_n dX11_soft_60 1 rfl rfl ?_
    refine rj_iconst (v := 2) dX11_soft_61 (by decide) ?_
    obtain ⟨V1, V2⟩ := V
    refine rj_icmp_ge (tgt := 80) dX11_soft_62 (by decide) (fun hc => ?_) (fun hc => ?_)
    · have V := V1 hc
      refine rj_iload_n dX11_soft_80 2 rfl rfl ?_
      refine rj_istore_n (lv' := [(0, .ref 59), (1, .int v1), (2, .int v2), (3, .int v2)]) dX11_soft_81 rfl (by decide) rfl rfl ?_
      exact rs_sub [0, 3] rfl V
    · have V := V2 hc
      refine rj_iload_n dX11_soft_65 1 rfl rfl ?_
      obtain ⟨V1, V2⟩ := V
      refine rj_if_ne (tgt := 78) dX11_soft_66 (by decide) (fun hc => ?_) (fun hc => ?_)
      · have V := V1 hc
        refine rj_iload_n dX11_soft_78 2 rfl rfl ?_
        exact rm_iret dX11_soft_79 rfl rfl V
      · have V := V2 hc
        refine rj_aload_n dX11_soft_69 0 rfl rfl ?_
        refine rs_getR (t := 66) fl_RX11_28 rfl (by decide) (by decide) rfl dX11_soft_70 rfl (by omega) ?_
        refine rj_iload_n dX11_soft_73 2 rfl rfl ?_
        obtain ⟨hb, V⟩ := V
        refine rs_iald dX11_soft_74 rfl hb ?_
        refine rj_goto (tgt := 79) dX11_soft_75 (by decide) ?_
        exact rm_iret dX11_soft_79 rfl rfl V
  · have V := V2 hc
    refine rj_aload_n dX11_soft_33 0 rfl rfl ?_
    refine rs_getR (t := 66) fl_RX11_28 rfl (by decide) (by decide) rfl dX11_soft_34 rfl (by omega) ?_
    refine rj_iload_n dX11_soft_37 3 rfl rfl ?_
    obtain ⟨hb, V⟩ := V
    refine rs_iald dX11_soft_38 rfl hb ?_
    refine rj_aload_n dX11_soft_39 0 rfl rfl ?_
    refine rs_getR (t := 66) fl_RX11_28 rfl (by decide) (by decide) rfl dX11_soft_40 rfl (by omega) ?_
    refine rj_iload_n dX11_soft_43 2 rfl rfl ?_
    obtain ⟨hb, V⟩ := V
    refine rs_iald dX11_soft_44 rfl hb ?_
    have KD : RM w (h + 1) kX11_soft 53 [(0, .ref 59), (1, .int v1), (2, .int v2), (3, .int v3)] [.int (if (M 66 (Int32.toNatClampNeg v2)) ≤ (M 66 (Int32.toNatClampNeg v3)) then v2 else v3)] M Q := by
      refine rj_top (fun x1 ex1 => ?_)
      have V := V x1 ex1
      refine rj_istore_n (lv' := [(0, .ref 59), (1, .int v1), (2, .int x1), (3, .int v3)]) dX11_soft_53 rfl (by decide) rfl rfl ?_
      refine rj_iincV (c := 1) (fun y => [(0, .ref 59), (1, .int v1), (2, .int x1), (3, .int y)]) dX11_soft_54 3 rfl (by decide) (by decide) rfl (fun _ => rfl) (fun x2 ex2 => ?_)
      have V := V x2 ex2
      refine rj_goto (tgt := 27) dX11_soft_57 (by decide) ?_
      exact rs_sub [0, 1, 2, 3] rfl V
    refine rj_icmp_ge (tgt := 52) dX11_soft_45 (by decide) (fun hc => ?_) (fun hc => ?_)
    · refine rj_iload_n dX11_soft_52 2 rfl rfl ?_
      exact rs_ite_t hc KD
    · refine rj_iload_n dX11_soft_48 3 rfl rfl ?_
      refine rj_goto (tgt := 53) dX11_soft_49 (by decide) ?_
      exact rs_ite_f hc KD
set_option maxRecDepth 100000 in
set_option maxHeartbeats 4000000 in
theorem vX11_soft_82 {w : Wd} {h : Nat} (v3 : Int32)  (M : Mem) (Q : Option Value → Mem → Prop) (V : ((180 ≤ v3 → (Q (some (.int (v3 - v3 / 12 * 12))) M)) ∧ (¬ (180 ≤ v3) → RM w (h + 1) kX11_soft 92 [(0, .ref 59), (3, .int v3), (4, .int 0)] [] M Q))) : RM w (h + 1) kX11_soft 82 [(0, .ref 59), (3, .int v3)] [] M Q := by
  refine rj_iload_n dX11_soft_82 1 rfl rfl ?_
  refine rj_sipush (v := 180) dX11_soft_83 (by decide) ?_
  obtain ⟨V1, V2⟩ := V
  refine rj_icmp_ge (tgt := 148) dX11_soft_86 (by decide) (fun hc => ?_) (fun hc => ?_)
  · have V := V1 hc
    refine rj_iload_n dX11_soft_148 1 rfl rfl ?_
    refine rj_bipush (v := 12) dX11_soft_149 (by decide) ?_
    refine rj_irem dX11_soft_151 (by decide) ?_
    exact rm_iret dX11_soft_152 rfl rfl V
  · have V := V2 hc
    refine rj_iconst (v := 0) dX11_soft_89 (by decide) ?_
    refine rj_istore (lv' := [(0, .ref 59), (3, .int v3), (4, .int 0)]) dX11_soft_90 (by decide) rfl rfl ?_
    exact rs_sub [0, 1, 2] rfl V
set_option maxRecDepth 100000 in
set_option maxHeartbeats 4000000 in
theorem vX11_soft_92 {w : Wd} {h : Nat} (v3 : Int32) (v4 : Int32)  (M : Mem) (Q : Option Value → Mem → Prop) (V : (CSi w h kX11_below [.int v3, .int v4] M (fun r1 M1 => ((r1 < 0 → (∀ x1 : Int32, x1 = v4 + 1 → RM w (h + 1) kX11_soft 92 [(0, .ref 59), (3, .int v3), (4, .int x1)] [] M1 Q)) ∧ (¬ (r1 < 0) → (CSi w h kX11_below [.int v3, .int v4] M1 (fun r2 M2 => (CSi w h kX11_holdOf [.ref 59, .int r2] M2 (fun r3 M3 => (CSi w h kX11_below [.int v3, .int v4] M3 (fun r4 M4 => (vp_in r4 192 ∧ (vp_in v3 192 ∧ (((r3 + (M4 66 (Int32.toNatClampNeg r4))) = (M4 66 (Int32.toNatClampNeg v3)) → (CSi w h kX11_below [.int v3, .int v4] M4 (fun r5 M5 => RM w (h + 1) kX11_soft 82 [(0, .ref 59), (3, .int r5)] [] M5 Q))) ∧ (¬ ((r3 + (M4 66 (Int32.toNatClampNeg r4))) = (M4 66 (Int32.toNatClampNeg v3))) → (∀ x1 : Int32, x1 = v4 + 1 → RM w (h + 1) kX11_soft 92 [(0, .ref 59), (3, .int v3), (4, .int x1)] [] M4 Q)))))))))))))))) : RM w (h + 1) kX11_soft 92 [(0, .ref 59), (3, .int v3), (4, .int v4)] [] M Q := by
  refine rj_iload_n dX11_soft_92 1 rfl rfl ?_
  refine rj_iload dX11_soft_93 2 rfl ?_
  refine rm_callSi [.int v3, .int v4] (rest := []) ml_RX11_68 mtX11_below rfl dX11_soft_95 rfl rfl (Nat.le_of_ble_eq_true rfl) (by decide) V (fun r1 M1 V => ?_)
  obtain ⟨V1, V2⟩ := V
  refine rj_if_lt (tgt := 132) dX11_soft_98 (by decide) (fun hc => ?_) (fun hc => ?_)
  · have V := V1 hc
    refine rj_iincV (c := 1) (fun y => [(0, .ref 59), (3, .int v3), (4, .int y)]) dX11_soft_132 2 rfl (by decide) (by decide) rfl (fun _ => rfl) (fun x1 ex1 => ?_)
    have V := V x1 ex1
    refine rj_goto (tgt := 92) dX11_soft_135 (by decide) ?_
    exact rs_sub [0, 1, 2] rfl V
  · have V := V2 hc
    refine rj_aload_n dX11_soft_101 0 rfl rfl ?_
    refine rj_iload_n dX11_soft_102 1 rfl rfl ?_
    refine rj_iload dX11_soft_103 2 rfl ?_
    refine rm_callSi [.int v3, .int v4] (rest := [.ref 59]) ml_RX11_68 mtX11_below rfl dX11_soft_105 rfl rfl (Nat.le_of_ble_eq_true rfl) (by decide) V (fun r2 M2 V => ?_)
    refine rm_callVi [.int r2] (rest := []) ml_RX11_65 mvX11_holdOf rfl dX11_soft_108 rfl rfl rfl rfl rfl (Nat.le_of_ble_eq_true rfl) (by decide) V (fun r3 M3 V => ?_)
    refine rj_aload_n dX11_soft_111 0 rfl rfl ?_
    refine rs_getR (t := 66) fl_RX11_28 rfl (by decide) (by decide) rfl dX11_soft_112 rfl (by omega) ?_
    refine rj_iload_n dX11_soft_115 1 rfl rfl ?_
    refine rj_iload dX11_soft_116 2 rfl ?_
    refine rm_callSi [.int v3, .int v4] (rest := [.ref 66, .int r3]) ml_RX11_68 mtX11_below rfl dX11_soft_118 rfl rfl (Nat.le_of_ble_eq_true rfl) (by decide) V (fun r4 M4 V => ?_)
    obtain ⟨hb, V⟩ := V
    refine rs_iald dX11_soft_121 rfl hb ?_
    refine rj_iadd dX11_soft_122 ?_
    refine rj_aload_n dX11_soft_123 0 rfl rfl ?_
    refine rs_getR (t := 66) fl_RX11_28 rfl (by decide) (by decide) rfl dX11_soft_124 rfl (by omega) ?_
    refine rj_iload_n dX11_soft_127 1 rfl rfl ?_
    obtain ⟨hb, V⟩ := V
    refine rs_iald dX11_soft_128 rfl hb ?_
    obtain ⟨V1, V2⟩ := V
    refine rj_icmp_eq (tgt := 138) dX11_soft_129 (by decide) (fun hc => ?_) (fun hc => ?_)
    · have V := V1 hc
      refine rj_iload_n dX11_soft_138 1 rfl rfl ?_
      refine rj_iload dX11_soft_139 2 rfl ?_
      refine rm_callSi [.int v3, .int v4] (rest := []) ml_RX11_68 mtX11_below rfl dX11_soft_141 rfl rfl (Nat.le_of_ble_eq_true rfl) (by decide) V (fun r5 M5 V => ?_)
      refine rj_istore_n (lv' := [(0, .ref 59), (3, .int r5), (4, .int v4)]) dX11_soft_144 rfl (by decide) rfl rfl ?_
      refine rj_goto (tgt := 82) dX11_soft_145 (by decide) ?_
      exact rs_sub [0, 1] rfl V
    · have V := V2 hc
      refine rj_iincV (c := 1) (fun y => [(0, .ref 59), (3, .int v3), (4, .int y)]) dX11_soft_132 2 rfl (by decide) (by decide) rfl (fun _ => rfl) (fun x1 ex1 => ?_)
      have V := V x1 ex1
      refine rj_goto (tgt := 92) dX11_soft_135 (by decide) ?_
      exact rs_sub [0, 1, 2] rfl V
-- X11_isWay
set_option maxRecDepth 100000 in
set_option maxHeartbeats 4000000 in
theorem vX11_isWay_0 {w : Wd} {h : Nat} (a0 : Int32)  (M : Mem) (Q : Option Value → Mem → Prop) (V : RM w (h + 1) kX11_isWay 6 [(0, .ref 59), (1, .int a0), (2, .int 4095), (3, .int 1)] [] M Q) : RM w (h + 1) kX11_isWay 0 [(0, .ref 59), (1, .int a0)] [] M Q := by
  refine rj_sipush (v := 4095) dX11_isWay_0 (by decide) ?_
  refine rj_istore_n (lv' := [(0, .ref 59), (1, .int a0), (2, .int 4095)]) dX11_isWay_3 rfl (by decide) rfl rfl ?_
  refine rj_iconst (v := 1) dX11_isWay_4 (by decide) ?_
  refine rj_istore_n (lv' := [(0, .ref 59), (1, .int a0), (2, .int 4095), (3, .int 1)]) dX11_isWay_5 rfl (by decide) rfl rfl ?_
  exact rs_sub [0, 1, 2, 3] rfl V
set_option maxRecDepth 100000 in
set_option maxHeartbeats 4000000 in
theorem vX11_isWay_6 {w : Wd} {h : Nat} (v1 : Int32) (v2 : Int32) (v3 : Int32)  (M : Mem) (Q : Option Value → Mem → Prop) (V : ((16 ≤ v3 → (Q (some (.int (b2i (¬ (v2 = 0))))) M)) ∧ (¬ (16 ≤ v3) → RM w (h + 1) kX11_isWay 18 [(0, .ref 59), (1, .int v1), (2, .int v2), (3, .int v3), (4, .int 0), (5, .int 0)] [] M Q))) : RM w (h + 1) kX11_isWay 6 [(0, .ref 59), (1, .int v1), (2, .int v2), (3, .int v3)] [] M Q := by
  refine rj_iload_n dX11_isWay_6 3 rfl rfl ?_
  refine rj_bipush (v := 16) dX11_isWay_7 (by decide) ?_
  obtain ⟨V1, V2⟩ := V
  refine rj_icmp_ge (tgt := 92) dX11_isWay_9 (by decide) (fun hc => ?_) (fun hc => ?_)
  · have V := V1 hc
    refine rj_iload_n dX11_isWay_92 2 rfl rfl ?_
    have KD : RM w (h + 1) kX11_isWay 101 [(0, .ref 59), (1, .int v1), (2, .int v2), (3, .int v3)] [.int (b2i (¬ (v2 = 0)))] M Q := by
      exact rm_iret dX11_isWay_101 rfl (isB_n isB_b2i) V
    refine rj_if_eq (tgt := 100) dX11_isWay_93 (by decide) (fun hc => ?_) (fun hc => ?_)
    · refine rj_iconst (v := 0) dX11_isWay_100 (by decide) ?_
      exact rs_b0 (fun q => q hc) KD
    · refine rj_iconst (v := 1) dX11_isWay_96 (by decide) ?_
      refine rj_goto (tgt := 101) dX11_isWay_97 (by decide) ?_
      exact rs_b1 hc KD
  · have V := V2 hc
    refine rj_iconst (v := 0) dX11_isWay_12 (by decide) ?_
    refine rj_istore (lv' := [(0, .ref 59), (1, .int v1), (2, .int v2), (3, .int v3), (4, .int 0)]) dX11_isWay_13 (by decide) rfl rfl ?_
    refine rj_iconst (v := 0) dX11_isWay_15 (by decide) ?_
    refine rj_istore (lv' := [(0, .ref 59), (1, .int v1), (2, .int v2), (3, .int v3), (4, .int 0), (5, .int 0)]) dX11_isWay_16 (by decide) rfl rfl ?_
    exact rs_sub [0, 1, 2, 3, 4, 5] rfl V
set_option maxRecDepth 100000 in
set_option maxHeartbeats 4000000 in
theorem vX11_isWay_18 {w : Wd} {h : Nat} (v1 : Int32) (v2 : Int32) (v3 : Int32) (v4 : Int32) (v5 : Int32)  (M : Mem) (Q : Option Value → Mem → Prop) (V : ((12 ≤ v5 → (∀ x1 : Int32, x1 = v3 + 1 → RM w (h + 1) kX11_isWay 6 [(0, .ref 59), (1, .int v1), (2, .int v4), (3, .int x1)] [] M Q)) ∧ (¬ (12 ≤ v5) → (∀ x1 : Int32, x1 = (b2i (¬ ((((v2 <<< (1 &&& 31)) >>> (v5 &&& 31)) &&& 7) = 0))) → ((x1 = 0 → (∀ x2 : Int32, x2 = (v4 ||| 0) → (∀ x3 : Int32, x3 = v5 + 1 → RM w (h + 1) kX11_isWay 18 [(0, .ref 59), (1, .int v1), (2, .int v2), (3, .int v3), (4, .int x2), (5, .int x3)] [] M Q))) ∧ (¬ (x1 = 0) → (CSi w h kX11_holdOf [.ref 59, .int ((12 * v3) + v5)] M (fun r1 M1 => (∀ x2 : Int32, x2 = (v4 ||| (if v1 < r1 then (0 : Int32) else (1 <<< (v5 &&& 31)))) → (∀ x3 : Int32, x3 = v5 + 1 → RM w (h + 1) kX11_isWay 18 [(0, .ref 59), (1, .int v1), (2, .int v2), (3, .int v3), (4, .int x2), (5, .int x3)] [] M1 Q)))))))))) : RM w (h + 1) kX11_isWay 18 [(0, .ref 59), (1, .int v1), (2, .int v2), (3, .int v3), (4, .int v4), (5, .int v5)] [] M Q := by
  refine rj_iload dX11_isWay_18 5 rfl ?_
  refine rj_bipush (v := 12) dX11_isWay_20 (by decide) ?_
  obtain ⟨V1, V2⟩ := V
  refine rj_icmp_ge (tgt := 83) dX11_isWay_22 (by decide) (fun hc => ?_) (fun hc => ?_)
  · have V := V1 hc
    refine rj_iload dX11_isWay_83 4 rfl ?_
    refine rj_istore_n (lv' := [(0, .ref 59), (1, .int v1), (2, .int v4), (3, .int v3), (4, .int v4), (5, .int v5)]) dX11_isWay_85 rfl (by decide) rfl rfl ?_
    refine rj_iincV (c := 1) (fun y => [(0, .ref 59), (1, .int v1), (2, .int v4), (3, .int y), (4, .int v4), (5, .int v5)]) dX11_isWay_86 3 rfl (by decide) (by decide) rfl (fun _ => rfl) (fun x1 ex1 => ?_)
    have V := V x1 ex1
    refine rj_goto (tgt := 6) dX11_isWay_89 (by decide) ?_
    exact rs_sub [0, 1, 2, 3] rfl V
  · have V := V2 hc
    refine rj_iload_n dX11_isWay_25 2 rfl rfl ?_
    refine rj_iconst (v := 1) dX11_isWay_26 (by decide) ?_
    refine rj_ishl dX11_isWay_27 ?_
    refine rj_iload dX11_isWay_28 5 rfl ?_
    refine rj_ishr dX11_isWay_30 ?_
    refine rj_bipush (v := 7) dX11_isWay_31 (by decide) ?_
    refine rj_iand dX11_isWay_33 ?_
    have KD : RM w (h + 1) kX11_isWay 42 [(0, .ref 59), (1, .int v1), (2, .int v2), (3, .int v3), (4, .int v4), (5, .int v5)] [.int (b2i (¬ ((((v2 <<< (1 &&& 31)) >>> (v5 &&& 31)) &&& 7) = 0)))] M Q := by
      refine rj_top (fun x1 ex1 => ?_)
      have V := V x1 ex1
      refine rj_istore (lv' := [(0, .ref 59), (1, .int v1), (2, .int v2), (3, .int v3), (4, .int v4), (5, .int v5), (6, .int x1)]) dX11_isWay_42 (by decide) rfl rfl ?_
      refine rj_iload dX11_isWay_44 4 rfl ?_
      refine rj_iload dX11_isWay_46 6 rfl ?_
      obtain ⟨V1, V2⟩ := V
      refine rj_if_eq (tgt := 73) dX11_isWay_48 (by decide) (fun hc => ?_) (fun hc => ?_)
      · have V := V1 hc
        refine rj_iconst (v := 0) dX11_isWay_73 (by decide) ?_
        refine rj_ior dX11_isWay_74 ?_
        refine rj_top (fun x2 ex2 => ?_)
        have V := V x2 ex2
        refine rj_istore (lv' := [(0, .ref 59), (1, .int v1), (2, .int v2), (3, .int v3), (4, .int x2), (5, .int v5), (6, .int x1)]) dX11_isWay_75 (by decide) rfl rfl ?_
        refine rj_iincV (c := 1) (fun y => [(0, .ref 59), (1, .int v1), (2, .int v2), (3, .int v3), (4, .int x2), (5, .int y), (6, .int x1)]) dX11_isWay_77 5 rfl (by decide) (by decide) rfl (fun _ => rfl) (fun x3 ex3 => ?_)
        have V := V x3 ex3
        refine rj_goto (tgt := 18) dX11_isWay_80 (by decide) ?_
        exact rs_sub [0, 1, 2, 3, 4, 5] rfl V
      · have V := V2 hc
        refine rj_aload_n dX11_isWay_51 0 rfl rfl ?_
        refine rj_bipush (v := 12) dX11_isWay_52 (by decide) ?_
        refine rj_iload_n dX11_isWay_54 3 rfl rfl ?_
        refine rj_imul dX11_isWay_55 ?_
        refine rj_iload dX11_isWay_56 5 rfl ?_
        refine rj_iadd dX11_isWay_58 ?_
        refine rm_callVi [.int ((12 * v3) + v5)] (rest := [.int v4]) ml_RX11_65 mvX11_holdOf rfl dX11_isWay_59 rfl rfl rfl rfl rfl (Nat.le_of_ble_eq_true rfl) (by decide) V (fun r1 M1 V => ?_)
        refine rj_iload_n dX11_isWay_62 1 rfl rfl ?_
        have KD : RM w (h + 1) kX11_isWay 74 [(0, .ref 59), (1, .int v1), (2, .int v2), (3, .int v3), (4, .int v4), (5, .int v5), (6, .int x1)] [.int (if v1 < r1 then (0 : Int32) else (1 <<< (v5 &&& 31))), .int v4] M1 Q := by
          refine rj_ior dX11_isWay_74 ?_
          refine rj_top (fun x2 ex2 => ?_)
          have V := V x2 ex2
          refine rj_istore (lv' := [(0, .ref 59), (1, .int v1), (2, .int v2), (3, .int v3), (4, .int x2), (5, .int v5), (6, .int x1)]) dX11_isWay_75 (by decide) rfl rfl ?_
          refine rj_iincV (c := 1) (fun y => [(0, .ref 59), (1, .int v1), (2, .int v2), (3, .int v3), (4, .int x2), (5, .int y), (6, .int x1)]) dX11_isWay_77 5 rfl (by decide) (by decide) rfl (fun _ => rfl) (fun x3 ex3 => ?_)
          have V := V x3 ex3
          refine rj_goto (tgt := 18) dX11_isWay_80 (by decide) ?_
          exact rs_sub [0, 1, 2, 3, 4, 5] rfl V
        refine rj_icmp_gt (tgt := 73) dX11_isWay_63 (by decide) (fun hc => ?_) (fun hc => ?_)
        · refine rj_iconst (v := 0) dX11_isWay_73 (by decide) ?_
          exact rs_ite_t hc KD
        · refine rj_iconst (v := 1) dX11_isWay_66 (by decide) ?_
          refine rj_iload dX11_isWay_67 5 rfl ?_
          refine rj_ishl dX11_isWay_69 ?_
          refine rj_goto (tgt := 74) dX11_isWay_70 (by decide) ?_
          exact rs_ite_f hc KD
    refine rj_if_eq (tgt := 41) dX11_isWay_34 (by decide) (fun hc => ?_) (fun hc => ?_)
    · refine rj_iconst (v := 0) dX11_isWay_41 (by decide) ?_
      exact rs_b0 (fun q => q hc) KD
    · refine rj_iconst (v := 1) dX11_isWay_37 (by decide) ?_
      refine rj_goto (tgt := 42) dX11_isWay_38 (by decide) ?_
      exact rs_b1 hc KD
-- X11_need
set_option maxRecDepth 100000 in
set_option maxHeartbeats 4000000 in
theorem vX11_need_0 {w : Wd} {h : Nat}   (M : Mem) (Q : Option Value → Mem → Prop) (V : RM w (h + 1) kX11_need 2 [(0, .ref 59), (1, .int 0)] [] M Q) : RM w (h + 1) kX11_need 0 [(0, .ref 59)] [] M Q := by
  refine rj_iconst (v := 0) dX11_need_0 (by decide) ?_
  refine rj_istore_n (lv' := [(0, .ref 59), (1, .int 0)]) dX11_need_1 rfl (by decide) rfl rfl ?_
  exact rs_sub [0, 1] rfl V
set_option maxRecDepth 100000 in
set_option maxHeartbeats 4000000 in
theorem vX11_need_2 {w : Wd} {h : Nat} (v1 : Int32)  (M : Mem) (Q : Option Value → Mem → Prop) (V : (CSi w h kX11_isWay [.ref 59, .int v1] M (fun r1 M1 => ((¬ (r1 = 0) → (Q (some (.int v1)) M1)) ∧ (r1 = 0 → (∀ x1 : Int32, x1 = v1 + 1 → RM w (h + 1) kX11_need 2 [(0, .ref 59), (1, .int x1)] [] M1 Q)))))) : RM w (h + 1) kX11_need 2 [(0, .ref 59), (1, .int v1)] [] M Q := by
  refine rj_aload_n dX11_need_2 0 rfl rfl ?_
  refine rj_iload_n dX11_need_3 1 rfl rfl ?_
  refine rm_callVi [.int v1] (rest := []) ml_RX11_285 mvX11_isWay rfl dX11_need_4 rfl rfl rfl rfl rfl (Nat.le_of_ble_eq_true rfl) (by decide) V (fun r1 M1 V => ?_)
  obtain ⟨V1, V2⟩ := V
  refine rj_if_ne (tgt := 16) dX11_need_7 (by decide) (fun hc => ?_) (fun hc => ?_)
  · have V := V1 hc
    refine rj_iload_n dX11_need_16 1 rfl rfl ?_
    exact rm_iret dX11_need_17 rfl rfl V
  · have V := V2 hc
    refine rj_iincV (c := 1) (fun y => [(0, .ref 59), (1, .int y)]) dX11_need_10 1 rfl (by decide) (by decide) rfl (fun _ => rfl) (fun x1 ex1 => ?_)
    have V := V x1 ex1
    refine rj_goto (tgt := 2) dX11_need_13 (by decide) ?_
    exact rs_sub [0, 1] rfl V
-- X11_open
set_option maxRecDepth 100000 in
set_option maxHeartbeats 4000000 in
theorem vX11_open_0 {w : Wd} {h : Nat} (hh : 1 ≤ h) (a0 : Int32) (a1 : Int32)  (M : Mem) (Q : Option Value → Mem → Prop) (V : ((¬ (((0 : Int32) ≤ a0 ∧ a0 ≤ (15 : Int32))) → (CSi w h kX11_finds [.ref 59, .int (-1000001)] M (fun r1 M1 => (Q (some (.int r1)) M1)))) ∧ (((0 : Int32) ≤ a0 ∧ a0 ≤ (15 : Int32)) → (((1 ≤ a1 ∧ a1 ≤ 99) → (∀ x1 : Int32, x1 = (12 * a0) → RM w (h + 1) kX11_open 34 [(0, .ref 59), (1, .int a0), (2, .int a1), (3, .int 0), (4, .int x1)] [] M Q)) ∧ (¬ ((1 ≤ a1 ∧ a1 ≤ 99)) → (CSi w h kX11_finds [.ref 59, .int (-1000001)] M (fun r1 M1 => (Q (some (.int r1)) M1)))))))) : RM w (h + 1) kX11_open 0 [(0, .ref 59), (1, .int a0), (2, .int a1)] [] M Q := by
  refine rj_iload_n dX11_open_0 1 rfl rfl ?_
  refine rj_i2l dX11_open_1 ?_
  refine rj_lconst (v := 0) dX11_open_2 (by decide) ?_
  refine rj_ldc2 (v := 15) rfl kl_RX11_118 dX11_open_3 ?_
  refine rm_callSi [.long (Int32.toInt64 a0), .long 0, .long 15] (rest := []) (K := fun x M' => b2i ((0 : Int32) ≤ a0 ∧ a0 ≤ (15 : Int32)) = x ∧ M = M') ml_RX11_43 mtX11_in rfl dX11_open_6 rfl rfl (Nat.le_of_ble_eq_true rfl) (by decide) (uX11_in (a0) (0) (15) (by decide) (by decide) ⟨rfl, rfl⟩) (fun x M' hx => ?_)
  obtain ⟨rfl, rfl⟩ := hx
  obtain ⟨V1, V2⟩ := V
  refine rs_if_eqB (tgt := 19) dX11_open_9 (by decide) (fun hc => ?_) (fun hc => ?_)
  · have V := V1 hc
    refine rj_aload_n dX11_open_19 0 rfl rfl ?_
    refine rj_ldc (v := (-1000001)) rfl kc_RX11_40 dX11_open_20 ?_
    refine rm_callVi [.int (-1000001)] (rest := []) ml_RX11_94 mvX11_finds rfl dX11_open_22 rfl rfl rfl rfl rfl (Nat.le_of_ble_eq_true rfl) (by decide) V (fun r1 M1 V => ?_)
    exact rm_iret dX11_open_25 rfl rfl V
  · have V := V2 hc
    refine rj_iload_n dX11_open_12 2 rfl rfl ?_
    refine rm_callSi [.int a1] (rest := []) (K := fun x M' => b2i (1 ≤ a1 ∧ a1 ≤ 99) = x ∧ M = M') ml_RX11_130 mtX11_isWater rfl dX11_open_13 rfl rfl (Nat.le_of_ble_eq_true rfl) (by decide) (uX11_isWater (by omega) ⟨rfl, rfl⟩) (fun x M' hx => ?_)
    obtain ⟨rfl, rfl⟩ := hx
    obtain ⟨V1, V2⟩ := V
    refine rs_if_neB (tgt := 26) dX11_open_16 (by decide) (fun hc => ?_) (fun hc => ?_)
    · have V := V1 hc
      refine rj_iconst (v := 0) dX11_open_26 (by decide) ?_
      refine rj_istore_n (lv' := [(0, .ref 59), (1, .int a0), (2, .int a1), (3, .int 0)]) dX11_open_27 rfl (by decide) rfl rfl ?_
      refine rj_bipush (v := 12) dX11_open_28 (by decide) ?_
      refine rj_iload_n dX11_open_30 1 rfl rfl ?_
      refine rj_imul dX11_open_31 ?_
      refine rj_top (fun x1 ex1 => ?_)
      have V := V x1 ex1
      refine rj_istore (lv' := [(0, .ref 59), (1, .int a0), (2, .int a1), (3, .int 0), (4, .int x1)]) dX11_open_32 (by decide) rfl rfl ?_
      exact rs_sub [0, 1, 2, 3, 4] rfl V
    · have V := V2 hc
      refine rj_aload_n dX11_open_19 0 rfl rfl ?_
      refine rj_ldc (v := (-1000001)) rfl kc_RX11_40 dX11_open_20 ?_
      refine rm_callVi [.int (-1000001)] (rest := []) ml_RX11_94 mvX11_finds rfl dX11_open_22 rfl rfl rfl rfl rfl (Nat.le_of_ble_eq_true rfl) (by decide) V (fun r1 M1 V => ?_)
      exact rm_iret dX11_open_25 rfl rfl V
set_option maxRecDepth 100000 in
set_option maxHeartbeats 4000000 in
theorem vX11_open_34 {w : Wd} {h : Nat} (hh : 1 ≤ h) (v1 : Int32) (v2 : Int32) (v3 : Int32) (v4 : Int32)  (M : Mem) (Q : Option Value → Mem → Prop) (V : ((((12 * v1) + 12) ≤ v4 → (Q (some (.int v3)) M)) ∧ (¬ (((12 * v1) + 12) ≤ v4) → (CSi w h kX11_can [.ref 59, .int v4, .int v2] M (fun r1 M1 => (∀ x1 : Int32, x1 = (v3 + (b2i (¬ (r1 = 0)))) → (∀ x2 : Int32, x2 = v4 + 1 → RM w (h + 1) kX11_open 34 [(0, .ref 59), (1, .int v1), (2, .int v2), (3, .int x1), (4, .int x2)] [] M1 Q))))))) : RM w (h + 1) kX11_open 34 [(0, .ref 59), (1, .int v1), (2, .int v2), (3, .int v3), (4, .int v4)] [] M Q := by
  refine rj_iload dX11_open_34 4 rfl ?_
  refine rj_bipush (v := 12) dX11_open_36 (by decide) ?_
  refine rj_iload_n dX11_open_38 1 rfl rfl ?_
  refine rj_imul dX11_open_39 ?_
  refine rj_bipush (v := 12) dX11_open_40 (by decide) ?_
  refine rj_iadd dX11_open_42 ?_
  obtain ⟨V1, V2⟩ := V
  refine rj_icmp_ge (tgt := 70) dX11_open_43 (by decide) (fun hc => ?_) (fun hc => ?_)
  · have V := V1 hc
    refine rj_iload_n dX11_open_70 3 rfl rfl ?_
    exact rm_iret dX11_open_71 rfl rfl V
  · have V := V2 hc
    refine rj_iload_n dX11_open_46 3 rfl rfl ?_
    refine rj_aload_n dX11_open_47 0 rfl rfl ?_
    refine rj_iload dX11_open_48 4 rfl ?_
    refine rj_iload_n dX11_open_50 2 rfl rfl ?_
    refine rm_callVi [.int v4, .int v2] (rest := [.int v3]) ml_RX11_71 mvX11_can rfl dX11_open_51 rfl rfl rfl rfl rfl (Nat.le_of_ble_eq_true rfl) (by decide) V (fun r1 M1 V => ?_)
    have KD : RM w (h + 1) kX11_open 62 [(0, .ref 59), (1, .int v1), (2, .int v2), (3, .int v3), (4, .int v4)] [.int (b2i (¬ (r1 = 0))), .int v3] M1 Q := by
      refine rj_iadd dX11_open_62 ?_
      refine rj_top (fun x1 ex1 => ?_)
      have V := V x1 ex1
      refine rj_istore_n (lv' := [(0, .ref 59), (1, .int v1), (2, .int v2), (3, .int x1), (4, .int v4)]) dX11_open_63 rfl (by decide) rfl rfl ?_
      refine rj_iincV (c := 1) (fun y => [(0, .ref 59), (1, .int v1), (2, .int v2), (3, .int x1), (4, .int y)]) dX11_open_64 4 rfl (by decide) (by decide) rfl (fun _ => rfl) (fun x2 ex2 => ?_)
      have V := V x2 ex2
      refine rj_goto (tgt := 34) dX11_open_67 (by decide) ?_
      exact rs_sub [0, 1, 2, 3, 4] rfl V
    refine rj_if_eq (tgt := 61) dX11_open_54 (by decide) (fun hc => ?_) (fun hc => ?_)
    · refine rj_iconst (v := 0) dX11_open_61 (by decide) ?_
      exact rs_b0 (fun q => q hc) KD
    · refine rj_iconst (v := 1) dX11_open_57 (by decide) ?_
      refine rj_goto (tgt := 62) dX11_open_58 (by decide) ?_
      exact rs_b1 hc KD
-- X11_seed
set_option maxRecDepth 100000 in
set_option maxHeartbeats 4000000 in
theorem vX11_seed_0 {w : Wd} {h : Nat} (a0 : Int32)  (M : Mem) (Q : Option Value → Mem → Prop) (V : (CSi w h kX11_becomes [.ref 59, .int 3, .int a0] M (fun r1 M1 => (Q (some (.int r1)) M1)))) : RM w (h + 1) kX11_seed 0 [(0, .ref 59), (1, .int a0)] [] M Q := by
  refine rj_aload_n dX11_seed_0 0 rfl rfl ?_
  refine rj_iconst (v := 3) dX11_seed_1 (by decide) ?_
  refine rj_iload_n dX11_seed_2 1 rfl rfl ?_
  refine rm_callVi [.int 3, .int a0] (rest := []) ml_RX11_99 mvX11_becomes rfl dX11_seed_3 rfl rfl rfl rfl rfl (Nat.le_of_ble_eq_true rfl) (by decide) V (fun r1 M1 V => ?_)
  exact rm_iret dX11_seed_6 rfl rfl V
-- X11_hold
set_option maxRecDepth 100000 in
set_option maxHeartbeats 4000000 in
theorem vX11_hold_0 {w : Wd} {h : Nat} (a0 : Int32) (a1 : Int32)  (M : Mem) (Q : Option Value → Mem → Prop) (V : ((¬ (((0 : Int32) ≤ a0 ∧ a0 ≤ (9 : Int32))) → (CSi w h kX11_finds [.ref 59, .int (-1000001)] M (fun r1 M1 => (Q (some (.int r1)) M1)))) ∧ (((0 : Int32) ≤ a0 ∧ a0 ≤ (9 : Int32)) → (((((-1) : Int32) ≤ a1 ∧ a1 ≤ (7 : Int32)) → ((a1 < 0 → (vp_in (656 + a0) 666 ∧ ∀ M1 : Mem, M1 = mset M 60 (Int32.toNatClampNeg (656 + a0)) a1 → (Q (some (.int 1)) M1))) ∧ (¬ (a1 < 0) → (CSi w h kX11_isDrop [.ref 59, .int a1] M (fun r1 M1 => ((¬ (r1 = 0) → (vp_in (656 + a0) 666 ∧ ∀ M2 : Mem, M2 = mset M1 60 (Int32.toNatClampNeg (656 + a0)) a1 → (Q (some (.int 1)) M2))) ∧ (r1 = 0 → (CSi w h kX11_finds [.ref 59, .int (-1000004)] M1 (fun r2 M2 => (Q (some (.int r2)) M2)))))))))) ∧ (¬ ((((-1) : Int32) ≤ a1 ∧ a1 ≤ (7 : Int32))) → (CSi w h kX11_finds [.ref 59, .int (-1000001)] M (fun r1 M1 => (Q (some (.int r1)) M1)))))))) : RM w (h + 1) kX11_hold 0 [(0, .ref 59), (1, .int a0), (2, .int a1)] [] M Q := by
  refine rj_iload_n dX11_hold_0 1 rfl rfl ?_
  refine rj_i2l dX11_hold_1 ?_
  refine rj_lconst (v := 0) dX11_hold_2 (by decide) ?_
  refine rj_ldc2 (v := 9) rfl kl_RX11_97 dX11_hold_3 ?_
  refine rm_callSi [.long (Int32.toInt64 a0), .long 0, .long 9] (rest := []) (K := fun x M' => b2i ((0 : Int32) ≤ a0 ∧ a0 ≤ (9 : Int32)) = x ∧ M = M') ml_RX11_43 mtX11_in rfl dX11_hold_6 rfl rfl (Nat.le_of_ble_eq_true rfl) (by decide) (uX11_in (a0) (0) (9) (by decide) (by decide) ⟨rfl, rfl⟩) (fun x M' hx => ?_)
  obtain ⟨rfl, rfl⟩ := hx
  obtain ⟨V1, V2⟩ := V
  refine rs_if_eqB (tgt := 26) dX11_hold_9 (by decide) (fun hc => ?_) (fun hc => ?_)
  · have V := V1 hc
    refine rj_aload_n dX11_hold_26 0 rfl rfl ?_
    refine rj_ldc (v := (-1000001)) rfl kc_RX11_40 dX11_hold_27 ?_
    refine rm_callVi [.int (-1000001)] (rest := []) ml_RX11_94 mvX11_finds rfl dX11_hold_29 rfl rfl rfl rfl rfl (Nat.le_of_ble_eq_true rfl) (by decide) V (fun r1 M1 V => ?_)
    exact rm_iret dX11_hold_32 rfl rfl V
  · have V := V2 hc
    refine rj_iload_n dX11_hold_12 2 rfl rfl ?_
    refine rj_i2l dX11_hold_13 ?_
    refine rj_ldc2 (v := (-1)) rfl kl_RX11_168 dX11_hold_14 ?_
    refine rj_ldc2 (v := 7) rfl kl_RX11_51 dX11_hold_17 ?_
    refine rm_callSi [.long (Int32.toInt64 a1), .long (-1), .long 7] (rest := []) (K := fun x M' => b2i (((-1) : Int32) ≤ a1 ∧ a1 ≤ (7 : Int32)) = x ∧ M = M') ml_RX11_43 mtX11_in rfl dX11_hold_20 rfl rfl (Nat.le_of_ble_eq_true rfl) (by decide) (uX11_in (a1) ((-1)) (7) (by decide) (by decide) ⟨rfl, rfl⟩) (fun x M' hx => ?_)
    obtain ⟨rfl, rfl⟩ := hx
    obtain ⟨V1, V2⟩ := V
    refine rs_if_neB (tgt := 33) dX11_hold_23 (by decide) (fun hc => ?_) (fun hc => ?_)
    · have V := V1 hc
      refine rj_iload_n dX11_hold_33 2 rfl rfl ?_
      obtain ⟨V1, V2⟩ := V
      refine rj_if_lt (tgt := 52) dX11_hold_34 (by decide) (fun hc => ?_) (fun hc => ?_)
      · have V := V1 hc
        refine rj_aload_n dX11_hold_52 0 rfl rfl ?_
        refine rs_getR (t := 60) fl_RX11_9 rfl (by decide) (by decide) rfl dX11_hold_53 rfl (by omega) ?_
        refine rj_sipush (v := 656) dX11_hold_56 (by decide) ?_
        refine rj_iload_n dX11_hold_59 1 rfl rfl ?_
        refine rj_iadd dX11_hold_60 ?_
        refine rj_iload_n dX11_hold_61 2 rfl rfl ?_
        obtain ⟨hb, V⟩ := V
        refine rs_iast dX11_hold_62 rfl hb (fun M1 eM1 => ?_)
        have V := V M1 eM1
        refine rj_iconst (v := 1) dX11_hold_63 (by decide) ?_
        exact rm_iret dX11_hold_64 rfl rfl V
      · have V := V2 hc
        refine rj_aload_n dX11_hold_37 0 rfl rfl ?_
        refine rj_iload_n dX11_hold_38 2 rfl rfl ?_
        refine rm_callVi [.int a1] (rest := []) ml_RX11_137 mvX11_isDrop rfl dX11_hold_39 rfl rfl rfl rfl rfl (Nat.le_of_ble_eq_true rfl) (by decide) V (fun r1 M1 V => ?_)
        obtain ⟨V1, V2⟩ := V
        refine rj_if_ne (tgt := 52) dX11_hold_42 (by decide) (fun hc => ?_) (fun hc => ?_)
        · have V := V1 hc
          refine rj_aload_n dX11_hold_52 0 rfl rfl ?_
          refine rs_getR (t := 60) fl_RX11_9 rfl (by decide) (by decide) rfl dX11_hold_53 rfl (by omega) ?_
          refine rj_sipush (v := 656) dX11_hold_56 (by decide) ?_
          refine rj_iload_n dX11_hold_59 1 rfl rfl ?_
          refine rj_iadd dX11_hold_60 ?_
          refine rj_iload_n dX11_hold_61 2 rfl rfl ?_
          obtain ⟨hb, V⟩ := V
          refine rs_iast dX11_hold_62 rfl hb (fun M2 eM2 => ?_)
          have V := V M2 eM2
          refine rj_iconst (v := 1) dX11_hold_63 (by decide) ?_
          exact rm_iret dX11_hold_64 rfl rfl V
        · have V := V2 hc
          refine rj_aload_n dX11_hold_45 0 rfl rfl ?_
          refine rj_ldc (v := (-1000004)) rfl kc_RX11_126 dX11_hold_46 ?_
          refine rm_callVi [.int (-1000004)] (rest := []) ml_RX11_94 mvX11_finds rfl dX11_hold_48 rfl rfl rfl rfl rfl (Nat.le_of_ble_eq_true rfl) (by decide) V (fun r2 M2 V => ?_)
          exact rm_iret dX11_hold_51 rfl rfl V
    · have V := V2 hc
      refine rj_aload_n dX11_hold_26 0 rfl rfl ?_
      refine rj_ldc (v := (-1000001)) rfl kc_RX11_40 dX11_hold_27 ?_
      refine rm_callVi [.int (-1000001)] (rest := []) ml_RX11_94 mvX11_finds rfl dX11_hold_29 rfl rfl rfl rfl rfl (Nat.le_of_ble_eq_true rfl) (by decide) V (fun r1 M1 V => ?_)
      exact rm_iret dX11_hold_32 rfl rfl V
-- X11_above
set_option maxRecDepth 100000 in
set_option maxHeartbeats 4000000 in
theorem vX11_above_0 {w : Wd} {h : Nat} (a0 : Int32)  (M : Mem) (Q : Option Value → Mem → Prop) (V : ((a0 = 0 → (Q (some (.int (-1))) M)) ∧ (¬ a0 = 0 → ((a0 = 1 → (Q (some (.int 0)) M)) ∧ (¬ a0 = 1 → ((a0 = 2 → (Q (some (.int 0)) M)) ∧ (¬ a0 = 2 → ((a0 = 3 → (Q (some (.int 2)) M)) ∧ (¬ a0 = 3 → ((a0 = 4 → (Q (some (.int 0)) M)) ∧ (¬ a0 = 4 → ((a0 = 5 → (Q (some (.int 4)) M)) ∧ (¬ a0 = 5 → ((a0 = 6 → (Q (some (.int 2)) M)) ∧ (¬ a0 = 6 → ((a0 = 7 → (Q (some (.int 1)) M)) ∧ (¬ a0 = 7 → (Q (some (.int 0)) M)))))))))))))))))) : RM w h kX11_above 0 [(0, .int a0)] [] M Q := by
  refine rj_iload_n dX11_above_0 0 rfl rfl ?_
  obtain ⟨V1, V2⟩ := V
  by_cases w0 : a0 = 0
  · have V := V1 w0
    refine rs_at w0 ?_
    refine rj_tableIn (off := 47) (tgt := 48) dX11_above_1 (by decide) (by decide) (by decide) (by decide) ?_
    refine rj_iconst (v := (-1)) dX11_above_48 (by decide) ?_
    exact rm_iret dX11_above_49 rfl rfl V
  · have V := V2 w0
    obtain ⟨V1, V2⟩ := V
    by_cases w1 : a0 = 1
    · have V := V1 w1
      refine rs_at w1 ?_
      refine rj_tableIn (off := 55) (tgt := 56) dX11_above_1 (by decide) (by decide) (by decide) (by decide) ?_
      refine rj_iconst (v := 0) dX11_above_56 (by decide) ?_
      exact rm_iret dX11_above_57 rfl rfl V
    · have V := V2 w1
      obtain ⟨V1, V2⟩ := V
      by_cases w2 : a0 = 2
      · have V := V1 w2
        refine rs_at w2 ?_
        refine rj_tableIn (off := 55) (tgt := 56) dX11_above_1 (by decide) (by decide) (by decide) (by decide) ?_
        refine rj_iconst (v := 0) dX11_above_56 (by decide) ?_
        exact rm_iret dX11_above_57 rfl rfl V
      · have V := V2 w2
        obtain ⟨V1, V2⟩ := V
        by_cases w3 : a0 = 3
        · have V := V1 w3
          refine rs_at w3 ?_
          refine rj_tableIn (off := 49) (tgt := 50) dX11_above_1 (by decide) (by decide) (by decide) (by decide) ?_
          refine rj_iconst (v := 2) dX11_above_50 (by decide) ?_
          exact rm_iret dX11_above_51 rfl rfl V
        · have V := V2 w3
          obtain ⟨V1, V2⟩ := V
          by_cases w4 : a0 = 4
          · have V := V1 w4
            refine rs_at w4 ?_
            refine rj_tableIn (off := 55) (tgt := 56) dX11_above_1 (by decide) (by decide) (by decide) (by decide) ?_
            refine rj_iconst (v := 0) dX11_above_56 (by decide) ?_
            exact rm_iret dX11_above_57 rfl rfl V
          · have V := V2 w4
            obtain ⟨V1, V2⟩ := V
            by_cases w5 : a0 = 5
            · have V := V1 w5
              refine rs_at w5 ?_
              refine rj_tableIn (off := 51) (tgt := 52) dX11_above_1 (by decide) (by decide) (by decide) (by decide) ?_
              refine rj_iconst (v := 4) dX11_above_52 (by decide) ?_
              exact rm_iret dX11_above_53 rfl rfl V
            · have V := V2 w5
              obtain ⟨V1, V2⟩ := V
              by_cases w6 : a0 = 6
              · have V := V1 w6
                refine rs_at w6 ?_
                refine rj_tableIn (off := 49) (tgt := 50) dX11_above_1 (by decide) (by decide) (by decide) (by decide) ?_
                refine rj_iconst (v := 2) dX11_above_50 (by decide) ?_
                exact rm_iret dX11_above_51 rfl rfl V
              · have V := V2 w6
                obtain ⟨V1, V2⟩ := V
                by_cases w7 : a0 = 7
                · have V := V1 w7
                  refine rs_at w7 ?_
                  refine rj_tableIn (off := 53) (tgt := 54) dX11_above_1 (by decide) (by decide) (by decide) (by decide) ?_
                  refine rj_iconst (v := 1) dX11_above_54 (by decide) ?_
                  exact rm_iret dX11_above_55 rfl rfl V
                · have V := V2 w7
                  refine rj_tableOut (tgt := 56) dX11_above_1 (by have n0 := lv_neT (a := 0) w0 (by decide); have n1 := lv_neT (a := 1) w1 (by decide); have n2 := lv_neT (a := 2) w2 (by decide); have n3 := lv_neT (a := 3) w3 (by decide); have n4 := lv_neT (a := 4) w4 (by decide); have n5 := lv_neT (a := 5) w5 (by decide); have n6 := lv_neT (a := 6) w6 (by decide); have n7 := lv_neT (a := 7) w7 (by decide); omega) (by decide) ?_
                  refine rj_iconst (v := 0) dX11_above_56 (by decide) ?_
                  exact rm_iret dX11_above_57 rfl rfl V
-- X11_as
set_option maxRecDepth 100000 in
set_option maxHeartbeats 4000000 in
theorem vX11_as_0 {w : Wd} {h : Nat} (hh : 1 ≤ h) (a0 : Int32) (a1 : Int32)  (M : Mem) (Q : Option Value → Mem → Prop) (V : ((¬ (((0 : Int32) ≤ a0 ∧ a0 ≤ (9 : Int32))) → (CSi w h kX11_finds [.ref 59, .int (-1000001)] M (fun r1 M1 => (Q (some (.int r1)) M1)))) ∧ (((0 : Int32) ≤ a0 ∧ a0 ≤ (9 : Int32)) → (((0 ≤ a1 ∧ a1 ≤ 7) → (vp_in (656 + a0) 666 ∧ (∀ x1 : Int32, x1 = (M 60 (Int32.toNatClampNeg (656 + a0))) → (CSi w h kX11_isDrop [.ref 59, .int x1] M (fun r1 M1 => ((¬ (r1 = 0) → (CSi w h kX11_of [.ref 59, .int x1, .int 0] M1 (fun r2 M2 => RM w (h + 1) kX11_as 61 [(0, .ref 59), (2, .int a1), (3, .int x1), (4, .int r2)] [] M2 Q))) ∧ (r1 = 0 → (CSi w h kX11_finds [.ref 59, .int (-1000006)] M1 (fun r2 M2 => (Q (some (.int r2)) M2)))))))))) ∧ (¬ ((0 ≤ a1 ∧ a1 ≤ 7)) → (CSi w h kX11_finds [.ref 59, .int (-1000001)] M (fun r1 M1 => (Q (some (.int r1)) M1)))))))) : RM w (h + 1) kX11_as 0 [(0, .ref 59), (1, .int a0), (2, .int a1)] [] M Q := by
  refine rj_iload_n dX11_as_0 1 rfl rfl ?_
  refine rj_i2l dX11_as_1 ?_
  refine rj_lconst (v := 0) dX11_as_2 (by decide) ?_
  refine rj_ldc2 (v := 9) rfl kl_RX11_97 dX11_as_3 ?_
  refine rm_callSi [.long (Int32.toInt64 a0), .long 0, .long 9] (rest := []) (K := fun x M' => b2i ((0 : Int32) ≤ a0 ∧ a0 ≤ (9 : Int32)) = x ∧ M = M') ml_RX11_43 mtX11_in rfl dX11_as_6 rfl rfl (Nat.le_of_ble_eq_true rfl) (by decide) (uX11_in (a0) (0) (9) (by decide) (by decide) ⟨rfl, rfl⟩) (fun x M' hx => ?_)
  obtain ⟨rfl, rfl⟩ := hx
  obtain ⟨V1, V2⟩ := V
  refine rs_if_eqB (tgt := 19) dX11_as_9 (by decide) (fun hc => ?_) (fun hc => ?_)
  · have V := V1 hc
    refine rj_aload_n dX11_as_19 0 rfl rfl ?_
    refine rj_ldc (v := (-1000001)) rfl kc_RX11_40 dX11_as_20 ?_
    refine rm_callVi [.int (-1000001)] (rest := []) ml_RX11_94 mvX11_finds rfl dX11_as_22 rfl rfl rfl rfl rfl (Nat.le_of_ble_eq_true rfl) (by decide) V (fun r1 M1 V => ?_)
    exact rm_iret dX11_as_25 rfl rfl V
  · have V := V2 hc
    refine rj_iload_n dX11_as_12 2 rfl rfl ?_
    refine rm_callSi [.int a1] (rest := []) (K := fun x M' => b2i (0 ≤ a1 ∧ a1 ≤ 7) = x ∧ M = M') ml_RX11_127 mtX11_isKind rfl dX11_as_13 rfl rfl (Nat.le_of_ble_eq_true rfl) (by decide) (uX11_isKind (by omega) ⟨rfl, rfl⟩) (fun x M' hx => ?_)
    obtain ⟨rfl, rfl⟩ := hx
    obtain ⟨V1, V2⟩ := V
    refine rs_if_neB (tgt := 26) dX11_as_16 (by decide) (fun hc => ?_) (fun hc => ?_)
    · have V := V1 hc
      refine rj_aload_n dX11_as_26 0 rfl rfl ?_
      refine rs_getR (t := 60) fl_RX11_9 rfl (by decide) (by decide) rfl dX11_as_27 rfl (by omega) ?_
      refine rj_sipush (v := 656) dX11_as_30 (by decide) ?_
      refine rj_iload_n dX11_as_33 1 rfl rfl ?_
      refine rj_iadd dX11_as_34 ?_
      obtain ⟨hb, V⟩ := V
      refine rs_iald dX11_as_35 rfl hb ?_
      refine rj_top (fun x1 ex1 => ?_)
      have V := V x1 ex1
      refine rj_istore_n (lv' := [(0, .ref 59), (1, .int a0), (2, .int a1), (3, .int x1)]) dX11_as_36 rfl (by decide) rfl rfl ?_
      refine rj_aload_n dX11_as_37 0 rfl rfl ?_
      refine rj_iload_n dX11_as_38 3 rfl rfl ?_
      refine rm_callVi [.int x1] (rest := []) ml_RX11_137 mvX11_isDrop rfl dX11_as_39 rfl rfl rfl rfl rfl (Nat.le_of_ble_eq_true rfl) (by decide) V (fun r1 M1 V => ?_)
      obtain ⟨V1, V2⟩ := V
      refine rj_if_ne (tgt := 53) dX11_as_42 (by decide) (fun hc => ?_) (fun hc => ?_)
      · have V := V1 hc
        refine rj_aload_n dX11_as_53 0 rfl rfl ?_
        refine rj_iload_n dX11_as_54 3 rfl rfl ?_
        refine rj_iconst (v := 0) dX11_as_55 (by decide) ?_
        refine rm_callVi [.int x1, .int 0] (rest := []) ml_RX11_53 mvX11_of rfl dX11_as_56 rfl rfl rfl rfl rfl (Nat.le_of_ble_eq_true rfl) (by decide) V (fun r2 M2 V => ?_)
        refine rj_istore (lv' := [(0, .ref 59), (1, .int a0), (2, .int a1), (3, .int x1), (4, .int r2)]) dX11_as_59 (by decide) rfl rfl ?_
        exact rs_sub [0, 2, 3, 4] rfl V
      · have V := V2 hc
        refine rj_aload_n dX11_as_45 0 rfl rfl ?_
        refine rj_ldcw (v := (-1000006)) rfl kc_RX11_288 dX11_as_46 ?_
        refine rm_callVi [.int (-1000006)] (rest := []) ml_RX11_94 mvX11_finds rfl dX11_as_49 rfl rfl rfl rfl rfl (Nat.le_of_ble_eq_true rfl) (by decide) V (fun r2 M2 V => ?_)
        exact rm_iret dX11_as_52 rfl rfl V
    · have V := V2 hc
      refine rj_aload_n dX11_as_19 0 rfl rfl ?_
      refine rj_ldc (v := (-1000001)) rfl kc_RX11_40 dX11_as_20 ?_
      refine rm_callVi [.int (-1000001)] (rest := []) ml_RX11_94 mvX11_finds rfl dX11_as_22 rfl rfl rfl rfl rfl (Nat.le_of_ble_eq_true rfl) (by decide) V (fun r1 M1 V => ?_)
      exact rm_iret dX11_as_25 rfl rfl V
set_option maxRecDepth 100000 in
set_option maxHeartbeats 4000000 in
theorem vX11_as_61 {w : Wd} {h : Nat} (hh : 1 ≤ h) (v2 : Int32) (v3 : Int32) (v4 : Int32)  (M : Mem) (Q : Option Value → Mem → Prop) (V : ((v4 < 0 → (CSi w h kX11_finds [.ref 59, .int (-1000003)] M (fun r1 M1 => (Q (some (.int r1)) M1)))) ∧ (¬ (v4 < 0) → ((¬ (v4 = v2) → (CSi w h kX11_above [.int v4] M (fun r1 M1 => RM w (h + 1) kX11_as 61 [(0, .ref 59), (2, .int v2), (3, .int v3), (4, .int r1)] [] M1 Q))) ∧ (v4 = v2 → (Q (some (.int v3)) M)))))) : RM w (h + 1) kX11_as 61 [(0, .ref 59), (2, .int v2), (3, .int v3), (4, .int v4)] [] M Q := by
  refine rj_iload dX11_as_61 3 rfl ?_
  obtain ⟨V1, V2⟩ := V
  refine rj_if_lt (tgt := 84) dX11_as_63 (by decide) (fun hc => ?_) (fun hc => ?_)
  · have V := V1 hc
    refine rj_aload_n dX11_as_84 0 rfl rfl ?_
    refine rj_ldcw (v := (-1000003)) rfl kc_RX11_292 dX11_as_85 ?_
    refine rm_callVi [.int (-1000003)] (rest := []) ml_RX11_94 mvX11_finds rfl dX11_as_88 rfl rfl rfl rfl rfl (Nat.le_of_ble_eq_true rfl) (by decide) V (fun r1 M1 V => ?_)
    exact rm_iret dX11_as_91 rfl rfl V
  · have V := V2 hc
    refine rj_iload dX11_as_66 3 rfl ?_
    refine rj_iload_n dX11_as_68 1 rfl rfl ?_
    obtain ⟨V1, V2⟩ := V
    refine rj_icmp_ne (tgt := 74) dX11_as_69 (by decide) (fun hc => ?_) (fun hc => ?_)
    · have V := V1 hc
      refine rj_iload dX11_as_74 3 rfl ?_
      refine rm_callSi [.int v4] (rest := []) ml_RX11_289 mtX11_above rfl dX11_as_76 rfl rfl (Nat.le_of_ble_eq_true rfl) (by decide) V (fun r1 M1 V => ?_)
      refine rj_istore (lv' := [(0, .ref 59), (2, .int v2), (3, .int v3), (4, .int r1)]) dX11_as_79 (by decide) rfl rfl ?_
      refine rj_goto (tgt := 61) dX11_as_81 (by decide) ?_
      exact rs_sub [0, 1, 2, 3] rfl V
    · have V := V2 hc
      refine rj_iload_n dX11_as_72 2 rfl rfl ?_
      exact rm_iret dX11_as_73 rfl rfl V
-- X11_sheet
set_option maxRecDepth 100000 in
set_option maxHeartbeats 4000000 in
theorem vX11_sheet_0 {w : Wd} {h : Nat} (hh : 1 ≤ h) (a0 : Int32) (a1 : Int32) (a2 : Int32)  (M : Mem) (Q : Option Value → Mem → Prop) (V : ((¬ ((0 ≤ a0 ∧ a0 ≤ 3)) → (CSi w h kX11_finds [.ref 59, .int (-1000001)] M (fun r1 M1 => (Q (some (.int r1)) M1)))) ∧ ((0 ≤ a0 ∧ a0 ≤ 3) → ((a1 = 0 → ((0 ≤ a2 → ((a2 ≤ 40 → (vp_in a0 4 ∧ ∀ M1 : Mem, M1 = mset M 67 (Int32.toNatClampNeg a0) a1 → (vp_in a0 4 ∧ ∀ M2 : Mem, M2 = mset M1 68 (Int32.toNatClampNeg a0) (if a1 = 0 then (0 : Int32) else a2) → RM w (h + 1) kX11_sheet 86 [(0, .ref 59), (1, .int a0), (4, .int 0)] [] M2 Q))) ∧ (¬ (a2 ≤ 40) → (CSi w h kX11_finds [.ref 59, .int (-1000001)] M (fun r1 M1 => (Q (some (.int r1)) M1)))))) ∧ (¬ (0 ≤ a2) → (CSi w h kX11_finds [.ref 59, .int (-1000007)] M (fun r1 M1 => (Q (some (.int r1)) M1)))))) ∧ (¬ (a1 = 0) → ((a1 = 8 → ((0 ≤ a2 → ((a2 ≤ 40 → (vp_in a0 4 ∧ ∀ M1 : Mem, M1 = mset M 67 (Int32.toNatClampNeg a0) a1 → (vp_in a0 4 ∧ ∀ M2 : Mem, M2 = mset M1 68 (Int32.toNatClampNeg a0) (if a1 = 0 then (0 : Int32) else a2) → RM w (h + 1) kX11_sheet 86 [(0, .ref 59), (1, .int a0), (4, .int 0)] [] M2 Q))) ∧ (¬ (a2 ≤ 40) → (CSi w h kX11_finds [.ref 59, .int (-1000001)] M (fun r1 M1 => (Q (some (.int r1)) M1)))))) ∧ (¬ (0 ≤ a2) → (CSi w h kX11_finds [.ref 59, .int (-1000007)] M (fun r1 M1 => (Q (some (.int r1)) M1)))))) ∧ (¬ (a1 = 8) → ((a1 = 16 → ((0 ≤ a2 → ((a2 ≤ 40 → (vp_in a0 4 ∧ ∀ M1 : Mem, M1 = mset M 67 (Int32.toNatClampNeg a0) a1 → (vp_in a0 4 ∧ ∀ M2 : Mem, M2 = mset M1 68 (Int32.toNatClampNeg a0) (if a1 = 0 then (0 : Int32) else a2) → RM w (h + 1) kX11_sheet 86 [(0, .ref 59), (1, .int a0), (4, .int 0)] [] M2 Q))) ∧ (¬ (a2 ≤ 40) → (CSi w h kX11_finds [.ref 59, .int (-1000001)] M (fun r1 M1 => (Q (some (.int r1)) M1)))))) ∧ (¬ (0 ≤ a2) → (CSi w h kX11_finds [.ref 59, .int (-1000007)] M (fun r1 M1 => (Q (some (.int r1)) M1)))))) ∧ (¬ (a1 = 16) → ((a1 = 32 → ((0 ≤ a2 → ((a2 ≤ 40 → (vp_in a0 4 ∧ ∀ M1 : Mem, M1 = mset M 67 (Int32.toNatClampNeg a0) a1 → (vp_in a0 4 ∧ ∀ M2 : Mem, M2 = mset M1 68 (Int32.toNatClampNeg a0) (if a1 = 0 then (0 : Int32) else a2) → RM w (h + 1) kX11_sheet 86 [(0, .ref 59), (1, .int a0), (4, .int 0)] [] M2 Q))) ∧ (¬ (a2 ≤ 40) → (CSi w h kX11_finds [.ref 59, .int (-1000001)] M (fun r1 M1 => (Q (some (.int r1)) M1)))))) ∧ (¬ (0 ≤ a2) → (CSi w h kX11_finds [.ref 59, .int (-1000007)] M (fun r1 M1 => (Q (some (.int r1)) M1)))))) ∧ (¬ (a1 = 32) → (CSi w h kX11_finds [.ref 59, .int (-1000001)] M (fun r1 M1 => (Q (some (.int r1)) M1)))))))))))))) : RM w (h + 1) kX11_sheet 0 [(0, .ref 59), (1, .int a0), (2, .int a1), (3, .int a2)] [] M Q := by
  refine rj_iload_n dX11_sheet_0 1 rfl rfl ?_
  refine rm_callSi [.int a0] (rest := []) (K := fun x M' => b2i (0 ≤ a0 ∧ a0 ≤ 3) = x ∧ M = M') ml_RX11_293 mtX11_isSheet rfl dX11_sheet_1 rfl rfl (Nat.le_of_ble_eq_true rfl) (by decide) (uX11_isSheet (by omega) ⟨rfl, rfl⟩) (fun x M' hx => ?_)
  obtain ⟨rfl, rfl⟩ := hx
  obtain ⟨V1, V2⟩ := V
  refine rs_if_eqB (tgt := 29) dX11_sheet_4 (by decide) (fun hc => ?_) (fun hc => ?_)
  · have V := V1 hc
    refine rj_aload_n dX11_sheet_29 0 rfl rfl ?_
    refine rj_ldc (v := (-1000001)) rfl kc_RX11_40 dX11_sheet_30 ?_
    refine rm_callVi [.int (-1000001)] (rest := []) ml_RX11_94 mvX11_finds rfl dX11_sheet_32 rfl rfl rfl rfl rfl (Nat.le_of_ble_eq_true rfl) (by decide) V (fun r1 M1 V => ?_)
    exact rm_iret dX11_sheet_35 rfl rfl V
  · have V := V2 hc
    refine rj_iload_n dX11_sheet_7 2 rfl rfl ?_
    obtain ⟨V1, V2⟩ := V
    refine rj_if_eq (tgt := 36) dX11_sheet_8 (by decide) (fun hc => ?_) (fun hc => ?_)
    · have V := V1 hc
      refine rj_iload_n dX11_sheet_36 3 rfl rfl ?_
      obtain ⟨V1, V2⟩ := V
      refine rj_if_ge (tgt := 48) dX11_sheet_37 (by decide) (fun hc => ?_) (fun hc => ?_)
      · have V := V1 hc
        refine rj_iload_n dX11_sheet_48 3 rfl rfl ?_
        refine rj_bipush (v := 40) dX11_sheet_49 (by decide) ?_
        obtain ⟨V1, V2⟩ := V
        refine rj_icmp_le (tgt := 61) dX11_sheet_51 (by decide) (fun hc => ?_) (fun hc => ?_)
        · have V := V1 hc
          refine rj_aload_n dX11_sheet_61 0 rfl rfl ?_
          refine rs_getR (t := 67) fl_RX11_31 rfl (by decide) (by decide) rfl dX11_sheet_62 rfl (by omega) ?_
          refine rj_iload_n dX11_sheet_65 1 rfl rfl ?_
          refine rj_iload_n dX11_sheet_66 2 rfl rfl ?_
          obtain ⟨hb, V⟩ := V
          refine rs_iast dX11_sheet_67 rfl hb (fun M1 eM1 => ?_)
          have V := V M1 eM1
          refine rj_aload_n dX11_sheet_68 0 rfl rfl ?_
          refine rs_getR (t := 68) fl_RX11_34 rfl (by decide) (by decide) rfl dX11_sheet_69 rfl (by omega) ?_
          refine rj_iload_n dX11_sheet_72 1 rfl rfl ?_
          refine rj_iload_n dX11_sheet_73 2 rfl rfl ?_
          have KD : RM w (h + 1) kX11_sheet 82 [(0, .ref 59), (1, .int a0), (2, .int a1), (3, .int a2)] [.int (if a1 = 0 then (0 : Int32) else a2), .int a0, .ref 68] M1 Q := by
            obtain ⟨hb, V⟩ := V
            refine rs_iast dX11_sheet_82 rfl hb (fun M2 eM2 => ?_)
            have V := V M2 eM2
            refine rj_iconst (v := 0) dX11_sheet_83 (by decide) ?_
            refine rj_istore (lv' := [(0, .ref 59), (1, .int a0), (2, .int a1), (3, .int a2), (4, .int 0)]) dX11_sheet_84 (by decide) rfl rfl ?_
            exact rs_sub [0, 1, 4] rfl V
          refine rj_if_ne (tgt := 81) dX11_sheet_74 (by decide) (fun hc => ?_) (fun hc => ?_)
          · refine rj_iload_n dX11_sheet_81 3 rfl rfl ?_
            exact rs_ite_f hc KD
          · refine rj_iconst (v := 0) dX11_sheet_77 (by decide) ?_
            refine rj_goto (tgt := 82) dX11_sheet_78 (by decide) ?_
            exact rs_ite_t hc KD
        · have V := V2 hc
          refine rj_aload_n dX11_sheet_54 0 rfl rfl ?_
          refine rj_ldc (v := (-1000001)) rfl kc_RX11_40 dX11_sheet_55 ?_
          refine rm_callVi [.int (-1000001)] (rest := []) ml_RX11_94 mvX11_finds rfl dX11_sheet_57 rfl rfl rfl rfl rfl (Nat.le_of_ble_eq_true rfl) (by decide) V (fun r1 M1 V => ?_)
          exact rm_iret dX11_sheet_60 rfl rfl V
      · have V := V2 hc
        refine rj_aload_n dX11_sheet_40 0 rfl rfl ?_
        refine rj_ldcw (v := (-1000007)) rfl kc_RX11_296 dX11_sheet_41 ?_
        refine rm_callVi [.int (-1000007)] (rest := []) ml_RX11_94 mvX11_finds rfl dX11_sheet_44 rfl rfl rfl rfl rfl (Nat.le_of_ble_eq_true rfl) (by decide) V (fun r1 M1 V => ?_)
        exact rm_iret dX11_sheet_47 rfl rfl V
    · have V := V2 hc
      refine rj_iload_n dX11_sheet_11 2 rfl rfl ?_
      refine rj_bipush (v := 8) dX11_sheet_12 (by decide) ?_
      obtain ⟨V1, V2⟩ := V
      refine rj_icmp_eq (tgt := 36) dX11_sheet_14 (by decide) (fun hc => ?_) (fun hc => ?_)
      · have V := V1 hc
        refine rj_iload_n dX11_sheet_36 3 rfl rfl ?_
        obtain ⟨V1, V2⟩ := V
        refine rj_if_ge (tgt := 48) dX11_sheet_37 (by decide) (fun hc => ?_) (fun hc => ?_)
        · have V := V1 hc
          refine rj_iload_n dX11_sheet_48 3 rfl rfl ?_
          refine rj_bipush (v := 40) dX11_sheet_49 (by decide) ?_
          obtain ⟨V1, V2⟩ := V
          refine rj_icmp_le (tgt := 61) dX11_sheet_51 (by decide) (fun hc => ?_) (fun hc => ?_)
          · have V := V1 hc
            refine rj_aload_n dX11_sheet_61 0 rfl rfl ?_
            refine rs_getR (t := 67) fl_RX11_31 rfl (by decide) (by decide) rfl dX11_sheet_62 rfl (by omega) ?_
            refine rj_iload_n dX11_sheet_65 1 rfl rfl ?_
            refine rj_iload_n dX11_sheet_66 2 rfl rfl ?_
            obtain ⟨hb, V⟩ := V
            refine rs_iast dX11_sheet_67 rfl hb (fun M1 eM1 => ?_)
            have V := V M1 eM1
            refine rj_aload_n dX11_sheet_68 0 rfl rfl ?_
            refine rs_getR (t := 68) fl_RX11_34 rfl (by decide) (by decide) rfl dX11_sheet_69 rfl (by omega) ?_
            refine rj_iload_n dX11_sheet_72 1 rfl rfl ?_
            refine rj_iload_n dX11_sheet_73 2 rfl rfl ?_
            have KD : RM w (h + 1) kX11_sheet 82 [(0, .ref 59), (1, .int a0), (2, .int a1), (3, .int a2)] [.int (if a1 = 0 then (0 : Int32) else a2), .int a0, .ref 68] M1 Q := by
              obtain ⟨hb, V⟩ := V
              refine rs_iast dX11_sheet_82 rfl hb (fun M2 eM2 => ?_)
              have V := V M2 eM2
              refine rj_iconst (v := 0) dX11_sheet_83 (by decide) ?_
              refine rj_istore (lv' := [(0, .ref 59), (1, .int a0), (2, .int a1), (3, .int a2), (4, .int 0)]) dX11_sheet_84 (by decide) rfl rfl ?_
              exact rs_sub [0, 1, 4] rfl V
            refine rj_if_ne (tgt := 81) dX11_sheet_74 (by decide) (fun hc => ?_) (fun hc => ?_)
            · refine rj_iload_n dX11_sheet_81 3 rfl rfl ?_
              exact rs_ite_f hc KD
            · refine rj_iconst (v := 0) dX11_sheet_77 (by decide) ?_
              refine rj_goto (tgt := 82) dX11_sheet_78 (by decide) ?_
              exact rs_ite_t hc KD
          · have V := V2 hc
            refine rj_aload_n dX11_sheet_54 0 rfl rfl ?_
            refine rj_ldc (v := (-1000001)) rfl kc_RX11_40 dX11_sheet_55 ?_
            refine rm_callVi [.int (-1000001)] (rest := []) ml_RX11_94 mvX11_finds rfl dX11_sheet_57 rfl rfl rfl rfl rfl (Nat.le_of_ble_eq_true rfl) (by decide) V (fun r1 M1 V => ?_)
            exact rm_iret dX11_sheet_60 rfl rfl V
        · have V := V2 hc
          refine rj_aload_n dX11_sheet_40 0 rfl rfl ?_
          refine rj_ldcw (v := (-1000007)) rfl kc_RX11_296 dX11_sheet_41 ?_
          refine rm_callVi [.int (-1000007)] (rest := []) ml_RX11_94 mvX11_finds rfl dX11_sheet_44 rfl rfl rfl rfl rfl (Nat.le_of_ble_eq_true rfl) (by decide) V (fun r1 M1 V => ?_)
          exact rm_iret dX11_sheet_47 rfl rfl V
      · have V := V2 hc
        refine rj_iload_n dX11_sheet_17 2 rfl rfl ?_
        refine rj_bipush (v := 16) dX11_sheet_18 (by decide) ?_
        obtain ⟨V1, V2⟩ := V
        refine rj_icmp_eq (tgt := 36) dX11_sheet_20 (by decide) (fun hc => ?_) (fun hc => ?_)
        · have V := V1 hc
          refine rj_iload_n dX11_sheet_36 3 rfl rfl ?_
          obtain ⟨V1, V2⟩ := V
          refine rj_if_ge (tgt := 48) dX11_sheet_37 (by decide) (fun hc => ?_) (fun hc => ?_)
          · have V := V1 hc
            refine rj_iload_n dX11_sheet_48 3 rfl rfl ?_
            refine rj_bipush (v := 40) dX11_sheet_49 (by decide) ?_
            obtain ⟨V1, V2⟩ := V
            refine rj_icmp_le (tgt := 61) dX11_sheet_51 (by decide) (fun hc => ?_) (fun hc => ?_)
            · have V := V1 hc
              refine rj_aload_n dX11_sheet_61 0 rfl rfl ?_
              refine rs_getR (t := 67) fl_RX11_31 rfl (by decide) (by decide) rfl dX11_sheet_62 rfl (by omega) ?_
              refine rj_iload_n dX11_sheet_65 1 rfl rfl ?_
              refine rj_iload_n dX11_sheet_66 2 rfl rfl ?_
              obtain ⟨hb, V⟩ := V
              refine rs_iast dX11_sheet_67 rfl hb (fun M1 eM1 => ?_)
              have V := V M1 eM1
              refine rj_aload_n dX11_sheet_68 0 rfl rfl ?_
              refine rs_getR (t := 68) fl_RX11_34 rfl (by decide) (by decide) rfl dX11_sheet_69 rfl (by omega) ?_
              refine rj_iload_n dX11_sheet_72 1 rfl rfl ?_
              refine rj_iload_n dX11_sheet_73 2 rfl rfl ?_
              have KD : RM w (h + 1) kX11_sheet 82 [(0, .ref 59), (1, .int a0), (2, .int a1), (3, .int a2)] [.int (if a1 = 0 then (0 : Int32) else a2), .int a0, .ref 68] M1 Q := by
                obtain ⟨hb, V⟩ := V
                refine rs_iast dX11_sheet_82 rfl hb (fun M2 eM2 => ?_)
                have V := V M2 eM2
                refine rj_iconst (v := 0) dX11_sheet_83 (by decide) ?_
                refine rj_istore (lv' := [(0, .ref 59), (1, .int a0), (2, .int a1), (3, .int a2), (4, .int 0)]) dX11_sheet_84 (by decide) rfl rfl ?_
                exact rs_sub [0, 1, 4] rfl V
              refine rj_if_ne (tgt := 81) dX11_sheet_74 (by decide) (fun hc => ?_) (fun hc => ?_)
              · refine rj_iload_n dX11_sheet_81 3 rfl rfl ?_
                exact rs_ite_f hc KD
              · refine rj_iconst (v := 0) dX11_sheet_77 (by decide) ?_
                refine rj_goto (tgt := 82) dX11_sheet_78 (by decide) ?_
                exact rs_ite_t hc KD
            · have V := V2 hc
              refine rj_aload_n dX11_sheet_54 0 rfl rfl ?_
              refine rj_ldc (v := (-1000001)) rfl kc_RX11_40 dX11_sheet_55 ?_
              refine rm_callVi [.int (-1000001)] (rest := []) ml_RX11_94 mvX11_finds rfl dX11_sheet_57 rfl rfl rfl rfl rfl (Nat.le_of_ble_eq_true rfl) (by decide) V (fun r1 M1 V => ?_)
              exact rm_iret dX11_sheet_60 rfl rfl V
          · have V := V2 hc
            refine rj_aload_n dX11_sheet_40 0 rfl rfl ?_
            refine rj_ldcw (v := (-1000007)) rfl kc_RX11_296 dX11_sheet_41 ?_
            refine rm_callVi [.int (-1000007)] (rest := []) ml_RX11_94 mvX11_finds rfl dX11_sheet_44 rfl rfl rfl rfl rfl (Nat.le_of_ble_eq_true rfl) (by decide) V (fun r1 M1 V => ?_)
            exact rm_iret dX11_sheet_47 rfl rfl V
        · have V := V2 hc
          refine rj_iload_n dX11_sheet_23 2 rfl rfl ?_
          refine rj_bipush (v := 32) dX11_sheet_24 (by decide) ?_
          obtain ⟨V1, V2⟩ := V
          refine rj_icmp_eq (tgt := 36) dX11_sheet_26 (by decide) (fun hc => ?_) (fun hc => ?_)
          · have V := V1 hc
            refine rj_iload_n dX11_sheet_36 3 rfl rfl ?_
            obtain ⟨V1, V2⟩ := V
            refine rj_if_ge (tgt := 48) dX11_sheet_37 (by decide) (fun hc => ?_) (fun hc => ?_)
            · have V := V1 hc
              refine rj_iload_n dX11_sheet_48 3 rfl rfl ?_
              refine rj_bipush (v := 40) dX11_sheet_49 (by decide) ?_
              obtain ⟨V1, V2⟩ := V
              refine rj_icmp_le (tgt := 61) dX11_sheet_51 (by decide) (fun hc => ?_) (fun hc => ?_)
              · have V := V1 hc
                refine rj_aload_n dX11_sheet_61 0 rfl rfl ?_
                refine rs_getR (t := 67) fl_RX11_31 rfl (by decide) (by decide) rfl dX11_sheet_62 rfl (by omega) ?_
                refine rj_iload_n dX11_sheet_65 1 rfl rfl ?_
                refine rj_iload_n dX11_sheet_66 2 rfl rfl ?_
                obtain ⟨hb, V⟩ := V
                refine rs_iast dX11_sheet_67 rfl hb (fun M1 eM1 => ?_)
                have V := V M1 eM1
                refine rj_aload_n dX11_sheet_68 0 rfl rfl ?_
                refine rs_getR (t := 68) fl_RX11_34 rfl (by decide) (by decide) rfl dX11_sheet_69 rfl (by omega) ?_
                refine rj_iload_n dX11_sheet_72 1 rfl rfl ?_
                refine rj_iload_n dX11_sheet_73 2 rfl rfl ?_
                have KD : RM w (h + 1) kX11_sheet 82 [(0, .ref 59), (1, .int a0), (2, .int a1), (3, .int a2)] [.int (if a1 = 0 then (0 : Int32) else a2), .int a0, .ref 68] M1 Q := by
                  obtain ⟨hb, V⟩ := V
                  refine rs_iast dX11_sheet_82 rfl hb (fun M2 eM2 => ?_)
                  have V := V M2 eM2
                  refine rj_iconst (v := 0) dX11_sheet_83 (by decide) ?_
                  refine rj_istore (lv' := [(0, .ref 59), (1, .int a0), (2, .int a1), (3, .int a2), (4, .int 0)]) dX11_sheet_84 (by decide) rfl rfl ?_
                  exact rs_sub [0, 1, 4] rfl V
                refine rj_if_ne (tgt := 81) dX11_sheet_74 (by decide) (fun hc => ?_) (fun hc => ?_)
                · refine rj_iload_n dX11_sheet_81 3 rfl rfl ?_
                  exact rs_ite_f hc KD
                · refine rj_iconst (v := 0) dX11_sheet_77 (by decide) ?_
                  refine rj_goto (tgt := 82) dX11_sheet_78 (by decide) ?_
                  exact rs_ite_t hc KD
              · have V := V2 hc
                refine rj_aload_n dX11_sheet_54 0 rfl rfl ?_
                refine rj_ldc (v := (-1000001)) rfl kc_RX11_40 dX11_sheet_55 ?_
                refine rm_callVi [.int (-1000001)] (rest := []) ml_RX11_94 mvX11_finds rfl dX11_sheet_57 rfl rfl rfl rfl rfl (Nat.le_of_ble_eq_true rfl) (by decide) V (fun r1 M1 V => ?_)
                exact rm_iret dX11_sheet_60 rfl rfl V
            · have V := V2 hc
              refine rj_aload_n dX11_sheet_40 0 rfl rfl ?_
              refine rj_ldcw (v := (-1000007)) rfl kc_RX11_296 dX11_sheet_41 ?_
              refine rm_callVi [.int (-1000007)] (rest := []) ml_RX11_94 mvX11_finds rfl dX11_sheet_44 rfl rfl rfl rfl rfl (Nat.le_of_ble_eq_true rfl) (by decide) V (fun r1 M1 V => ?_)
              exact rm_iret dX11_sheet_47 rfl rfl V
          · have V := V2 hc
            refine rj_aload_n dX11_sheet_29 0 rfl rfl ?_
            refine rj_ldc (v := (-1000001)) rfl kc_RX11_40 dX11_sheet_30 ?_
            refine rm_callVi [.int (-1000001)] (rest := []) ml_RX11_94 mvX11_finds rfl dX11_sheet_32 rfl rfl rfl rfl rfl (Nat.le_of_ble_eq_true rfl) (by decide) V (fun r1 M1 V => ?_)
            exact rm_iret dX11_sheet_35 rfl rfl V
set_option maxRecDepth 100000 in
set_option maxHeartbeats 4000000 in
theorem vX11_sheet_86 {w : Wd} {h : Nat} (hh : 1 ≤ h) (v1 : Int32) (v4 : Int32)  (M : Mem) (Q : Option Value → Mem → Prop) (V : ((40 ≤ v4 → (vp_in v1 4 ∧ (Q (some (.int (M 68 (Int32.toNatClampNeg v1)))) M))) ∧ (¬ (40 ≤ v4) → (vp_in ((40 * v1) + v4) 160 ∧ ∀ M1 : Mem, M1 = mset M 69 (Int32.toNatClampNeg ((40 * v1) + v4)) 0 → (∀ x1 : Int32, x1 = v4 + 1 → RM w (h + 1) kX11_sheet 86 [(0, .ref 59), (1, .int v1), (4, .int x1)] [] M1 Q))))) : RM w (h + 1) kX11_sheet 86 [(0, .ref 59), (1, .int v1), (4, .int v4)] [] M Q := by
  refine rj_iload dX11_sheet_86 2 rfl ?_
  refine rj_bipush (v := 40) dX11_sheet_88 (by decide) ?_
  obtain ⟨V1, V2⟩ := V
  refine rj_icmp_ge (tgt := 112) dX11_sheet_90 (by decide) (fun hc => ?_) (fun hc => ?_)
  · have V := V1 hc
    refine rj_aload_n dX11_sheet_112 0 rfl rfl ?_
    refine rs_getR (t := 68) fl_RX11_34 rfl (by decide) (by decide) rfl dX11_sheet_113 rfl (by omega) ?_
    refine rj_iload_n dX11_sheet_116 1 rfl rfl ?_
    obtain ⟨hb, V⟩ := V
    refine rs_iald dX11_sheet_117 rfl hb ?_
    exact rm_iret dX11_sheet_118 rfl rfl V
  · have V := V2 hc
    refine rj_aload_n dX11_sheet_93 0 rfl rfl ?_
    refine rs_getR (t := 69) fl_RX11_37 rfl (by decide) (by decide) rfl dX11_sheet_94 rfl (by omega) ?_
    refine rj_bipush (v := 40) dX11_sheet_97 (by decide) ?_
    refine rj_iload_n dX11_sheet_99 1 rfl rfl ?_
    refine rj_imul dX11_sheet_100 ?_
    refine rj_iload dX11_sheet_101 2 rfl ?_
    refine rj_iadd dX11_sheet_103 ?_
    refine rj_iconst (v := 0) dX11_sheet_104 (by decide) ?_
    obtain ⟨hb, V⟩ := V
    refine rs_iast dX11_sheet_105 rfl hb (fun M1 eM1 => ?_)
    have V := V M1 eM1
    refine rj_iincV (c := 1) (fun y => [(0, .ref 59), (1, .int v1), (4, .int y)]) dX11_sheet_106 2 rfl (by decide) (by decide) rfl (fun _ => rfl) (fun x1 ex1 => ?_)
    have V := V x1 ex1
    refine rj_goto (tgt := 86) dX11_sheet_109 (by decide) ?_
    exact rs_sub [0, 1, 2] rfl V
-- X11_write
set_option maxRecDepth 100000 in
set_option maxHeartbeats 4000000 in
theorem vX11_write_0 {w : Wd} {h : Nat} (hh : 1 ≤ h) (a0 : Int32) (a1 : Int32) (a2 : Int32)  (M : Mem) (Q : Option Value → Mem → Prop) (V : (((0 ≤ a0 ∧ a0 ≤ 3) → (vp_in a0 4 ∧ ((¬ ((M 67 (Int32.toNatClampNeg a0)) = 0) → (vp_in a0 4 ∧ ((((0 : Int32) ≤ a1 ∧ a1 ≤ ((M 68 (Int32.toNatClampNeg a0)) - 1)) → (vp_in a0 4 ∧ ((¬ ((M 67 (Int32.toNatClampNeg a0)) = 8) → (vp_in a0 4 ∧ (vp_in ((40 * a0) + a1) 160 ∧ ∀ M1 : Mem, M1 = mset M 69 (Int32.toNatClampNeg ((40 * a0) + a1)) (if (M 67 (Int32.toNatClampNeg a0)) = 16 then ((Int32.toInt16 a2).toInt32) else a2) → (Q (some (.int 1)) M1)))) ∧ ((M 67 (Int32.toNatClampNeg a0)) = 8 → (vp_in ((40 * a0) + a1) 160 ∧ ∀ M1 : Mem, M1 = mset M 69 (Int32.toNatClampNeg ((40 * a0) + a1)) ((Int32.toInt8 a2).toInt32) → (Q (some (.int 1)) M1)))))) ∧ (¬ (((0 : Int32) ≤ a1 ∧ a1 ≤ ((M 68 (Int32.toNatClampNeg a0)) - 1))) → (CSi w h kX11_finds [.ref 59, .int (-1000001)] M (fun r1 M1 => (Q (some (.int r1)) M1))))))) ∧ ((M 67 (Int32.toNatClampNeg a0)) = 0 → (CSi w h kX11_finds [.ref 59, .int (-1000006)] M (fun r1 M1 => (Q (some (.int r1)) M1))))))) ∧ (¬ ((0 ≤ a0 ∧ a0 ≤ 3)) → (CSi w h kX11_finds [.ref 59, .int (-1000001)] M (fun r1 M1 => (Q (some (.int r1)) M1)))))) : RM w (h + 1) kX11_write 0 [(0, .ref 59), (1, .int a0), (2, .int a1), (3, .int a2)] [] M Q := by
  refine rj_iload_n dX11_write_0 1 rfl rfl ?_
  refine rm_callSi [.int a0] (rest := []) (K := fun x M' => b2i (0 ≤ a0 ∧ a0 ≤ 3) = x ∧ M = M') ml_RX11_293 mtX11_isSheet rfl dX11_write_1 rfl rfl (Nat.le_of_ble_eq_true rfl) (by decide) (uX11_isSheet (by omega) ⟨rfl, rfl⟩) (fun x M' hx => ?_)
  obtain ⟨rfl, rfl⟩ := hx
  obtain ⟨V1, V2⟩ := V
  refine rs_if_neB (tgt := 14) dX11_write_4 (by decide) (fun hc => ?_) (fun hc => ?_)
  · have V := V1 hc
    refine rj_aload_n dX11_write_14 0 rfl rfl ?_
    refine rs_getR (t := 67) fl_RX11_31 rfl (by decide) (by decide) rfl dX11_write_15 rfl (by omega) ?_
    refine rj_iload_n dX11_write_18 1 rfl rfl ?_
    obtain ⟨hb, V⟩ := V
    refine rs_iald dX11_write_19 rfl hb ?_
    obtain ⟨V1, V2⟩ := V
    refine rj_if_ne (tgt := 31) dX11_write_20 (by decide) (fun hc => ?_) (fun hc => ?_)
    · have V := V1 hc
      refine rj_iload_n dX11_write_31 2 rfl rfl ?_
      refine rj_i2l dX11_write_32 ?_
      refine rj_lconst (v := 0) dX11_write_33 (by decide) ?_
      refine rj_aload_n dX11_write_34 0 rfl rfl ?_
      refine rs_getR (t := 68) fl_RX11_34 rfl (by decide) (by decide) rfl dX11_write_35 rfl (by omega) ?_
      refine rj_iload_n dX11_write_38 1 rfl rfl ?_
      obtain ⟨hb, V⟩ := V
      refine rs_iald dX11_write_39 rfl hb ?_
      refine rj_iconst (v := 1) dX11_write_40 (by decide) ?_
      refine rj_isub dX11_write_41 ?_
      refine rj_i2l dX11_write_42 ?_
      refine rm_callSi [.long (Int32.toInt64 a1), .long 0, .long (Int32.toInt64 ((M 68 (Int32.toNatClampNeg a0)) - 1))] (rest := []) (K := fun x M' => b2i ((0 : Int32) ≤ a1 ∧ a1 ≤ ((M 68 (Int32.toNatClampNeg a0)) - 1)) = x ∧ M = M') ml_RX11_43 mtX11_in rfl dX11_write_43 rfl rfl (Nat.le_of_ble_eq_true rfl) (by decide) (uX11_in (a1) (0) (((M 68 (Int32.toNatClampNeg a0)) - 1)) (by decide) rfl ⟨rfl, rfl⟩) (fun x M' hx => ?_)
      obtain ⟨rfl, rfl⟩ := hx
      obtain ⟨V1, V2⟩ := V
      refine rs_if_neB (tgt := 56) dX11_write_46 (by decide) (fun hc => ?_) (fun hc => ?_)
      · have V := V1 hc
        refine rj_aload_n dX11_write_56 0 rfl rfl ?_
        refine rs_getR (t := 69) fl_RX11_37 rfl (by decide) (by decide) rfl dX11_write_57 rfl (by omega) ?_
        refine rj_bipush (v := 40) dX11_write_60 (by decide) ?_
        refine rj_iload_n dX11_write_62 1 rfl rfl ?_
        refine rj_imul dX11_write_63 ?_
        refine rj_iload_n dX11_write_64 2 rfl rfl ?_
        refine rj_iadd dX11_write_65 ?_
        refine rj_aload_n dX11_write_66 0 rfl rfl ?_
        refine rs_getR (t := 67) fl_RX11_31 rfl (by decide) (by decide) rfl dX11_write_67 rfl (by omega) ?_
        refine rj_iload_n dX11_write_70 1 rfl rfl ?_
        obtain ⟨hb, V⟩ := V
        refine rs_iald dX11_write_71 rfl hb ?_
        refine rj_bipush (v := 8) dX11_write_72 (by decide) ?_
        obtain ⟨V1, V2⟩ := V
        refine rj_icmp_ne (tgt := 82) dX11_write_74 (by decide) (fun hc => ?_) (fun hc => ?_)
        · have V := V1 hc
          refine rj_aload_n dX11_write_82 0 rfl rfl ?_
          refine rs_getR (t := 67) fl_RX11_31 rfl (by decide) (by decide) rfl dX11_write_83 rfl (by omega) ?_
          refine rj_iload_n dX11_write_86 1 rfl rfl ?_
          obtain ⟨hb, V⟩ := V
          refine rs_iald dX11_write_87 rfl hb ?_
          refine rj_bipush (v := 16) dX11_write_88 (by decide) ?_
          have KD : RM w (h + 1) kX11_write 99 [(0, .ref 59), (1, .int a0), (2, .int a1), (3, .int a2)] [.int (if (M 67 (Int32.toNatClampNeg a0)) = 16 then ((Int32.toInt16 a2).toInt32) else a2), .int ((40 * a0) + a1), .ref 69] M Q := by
            obtain ⟨hb, V⟩ := V
            refine rs_iast dX11_write_99 rfl hb (fun M1 eM1 => ?_)
            have V := V M1 eM1
            refine rj_iconst (v := 1) dX11_write_100 (by decide) ?_
            exact rm_iret dX11_write_101 rfl rfl V
          refine rj_icmp_ne (tgt := 98) dX11_write_90 (by decide) (fun hc => ?_) (fun hc => ?_)
          · refine rj_iload_n dX11_write_98 3 rfl rfl ?_
            exact rs_ite_f hc KD
          · refine rj_iload_n dX11_write_93 3 rfl rfl ?_
            refine rj_i2s dX11_write_94 ?_
            refine rj_goto (tgt := 99) dX11_write_95 (by decide) ?_
            exact rs_ite_t hc KD
        · have V := V2 hc
          refine rj_iload_n dX11_write_77 3 rfl rfl ?_
          refine rj_i2b dX11_write_78 ?_
          refine rj_goto (tgt := 99) dX11_write_79 (by decide) ?_
          obtain ⟨hb, V⟩ := V
          refine rs_iast dX11_write_99 rfl hb (fun M1 eM1 => ?_)
          have V := V M1 eM1
          refine rj_iconst (v := 1) dX11_write_100 (by decide) ?_
          exact rm_iret dX11_write_101 rfl rfl V
      · have V := V2 hc
        refine rj_aload_n dX11_write_49 0 rfl rfl ?_
        refine rj_ldc (v := (-1000001)) rfl kc_RX11_40 dX11_write_50 ?_
        refine rm_callVi [.int (-1000001)] (rest := []) ml_RX11_94 mvX11_finds rfl dX11_write_52 rfl rfl rfl rfl rfl (Nat.le_of_ble_eq_true rfl) (by decide) V (fun r1 M1 V => ?_)
        exact rm_iret dX11_write_55 rfl rfl V
    · have V := V2 hc
      refine rj_aload_n dX11_write_23 0 rfl rfl ?_
      refine rj_ldcw (v := (-1000006)) rfl kc_RX11_288 dX11_write_24 ?_
      refine rm_callVi [.int (-1000006)] (rest := []) ml_RX11_94 mvX11_finds rfl dX11_write_27 rfl rfl rfl rfl rfl (Nat.le_of_ble_eq_true rfl) (by decide) V (fun r1 M1 V => ?_)
      exact rm_iret dX11_write_30 rfl rfl V
  · have V := V2 hc
    refine rj_aload_n dX11_write_7 0 rfl rfl ?_
    refine rj_ldc (v := (-1000001)) rfl kc_RX11_40 dX11_write_8 ?_
    refine rm_callVi [.int (-1000001)] (rest := []) ml_RX11_94 mvX11_finds rfl dX11_write_10 rfl rfl rfl rfl rfl (Nat.le_of_ble_eq_true rfl) (by decide) V (fun r1 M1 V => ?_)
    exact rm_iret dX11_write_13 rfl rfl V
-- X11_copy
set_option maxRecDepth 100000 in
set_option maxHeartbeats 4000000 in
theorem vX11_copy_0 {w : Wd} {h : Nat} (hh : 1 ≤ h) (a0 : Int32) (a1 : Int32) (a2 : Int32) (a3 : Int32) (a4 : Int32)  (M : Mem) (Q : Option Value → Mem → Prop) (V : ((¬ ((0 ≤ a0 ∧ a0 ≤ 3)) → (CSi w h kX11_finds [.ref 59, .int (-1000001)] M (fun r1 M1 => (Q (some (.int r1)) M1)))) ∧ ((0 ≤ a0 ∧ a0 ≤ 3) → (((0 ≤ a2 ∧ a2 ≤ 3) → (vp_in a0 4 ∧ (((M 67 (Int32.toNatClampNeg a0)) = 0 → (CSi w h kX11_finds [.ref 59, .int (-1000006)] M (fun r1 M1 => (Q (some (.int r1)) M1)))) ∧ (¬ ((M 67 (Int32.toNatClampNeg a0)) = 0) → (vp_in a2 4 ∧ ((¬ ((M 67 (Int32.toNatClampNeg a2)) = 0) → (vp_in a0 4 ∧ (vp_in a2 4 ∧ (((M 67 (Int32.toNatClampNeg a0)) = (M 67 (Int32.toNatClampNeg a2)) → ((a4 < 0 → (CSi w h kX11_finds [.ref 59, .int (-1000001)] M (fun r1 M1 => (Q (some (.int r1)) M1)))) ∧ (¬ (a4 < 0) → ((a1 < 0 → (CSi w h kX11_finds [.ref 59, .int (-1000001)] M (fun r1 M1 => (Q (some (.int r1)) M1)))) ∧ (¬ (a1 < 0) → ((a3 < 0 → (CSi w h kX11_finds [.ref 59, .int (-1000001)] M (fun r1 M1 => (Q (some (.int r1)) M1)))) ∧ (¬ (a3 < 0) → (vp_in a0 4 ∧ ((((M 68 (Int32.toNatClampNeg a0)) - a1) < a4 → (CSi w h kX11_finds [.ref 59, .int (-1000001)] M (fun r1 M1 => (Q (some (.int r1)) M1)))) ∧ (¬ (((M 68 (Int32.toNatClampNeg a0)) - a1) < a4) → (vp_in a2 4 ∧ ((a4 ≤ ((M 68 (Int32.toNatClampNeg a2)) - a3) → ((¬ (a0 = a2) → RM w (h + 1) kX11_copy 139 [(0, .ref 59), (1, .int a0), (2, .int a1), (3, .int a2), (4, .int a3), (5, .int a4), (6, .int 0), (7, .int 0)] [] M Q) ∧ (a0 = a2 → (∀ x1 : Int32, x1 = (b2i (¬ (a3 ≤ a1))) → RM w (h + 1) kX11_copy 139 [(0, .ref 59), (1, .int a0), (2, .int a1), (3, .int a2), (4, .int a3), (5, .int a4), (6, .int x1), (7, .int 0)] [] M Q)))) ∧ (¬ (a4 ≤ ((M 68 (Int32.toNatClampNeg a2)) - a3)) → (CSi w h kX11_finds [.ref 59, .int (-1000001)] M (fun r1 M1 => (Q (some (.int r1)) M1)))))))))))))))) ∧ (¬ ((M 67 (Int32.toNatClampNeg a0)) = (M 67 (Int32.toNatClampNeg a2))) → (CSi w h kX11_finds [.ref 59, .int (-1000003)] M (fun r1 M1 => (Q (some (.int r1)) M1)))))))) ∧ ((M 67 (Int32.toNatClampNeg a2)) = 0 → (CSi w h kX11_finds [.ref 59, .int (-1000006)] M (fun r1 M1 => (Q (some (.int r1)) M1)))))))))) ∧ (¬ ((0 ≤ a2 ∧ a2 ≤ 3)) → (CSi w h kX11_finds [.ref 59, .int (-1000001)] M (fun r1 M1 => (Q (some (.int r1)) M1)))))))) : RM w (h + 1) kX11_copy 0 [(0, .ref 59), (1, .int a0), (2, .int a1), (3, .int a2), (4, .int a3), (5, .int a4)] [] M Q := by
  refine rj_iload_n dX11_copy_0 1 rfl rfl ?_
  refine rm_callSi [.int a0] (rest := []) (K := fun x M' => b2i (0 ≤ a0 ∧ a0 ≤ 3) = x ∧ M = M') ml_RX11_293 mtX11_isSheet rfl dX11_copy_1 rfl rfl (Nat.le_of_ble_eq_true rfl) (by decide) (uX11_isSheet (by omega) ⟨rfl, rfl⟩) (fun x M' hx => ?_)
  obtain ⟨rfl, rfl⟩ := hx
  obtain ⟨V1, V2⟩ := V
  refine rs_if_eqB (tgt := 14) dX11_copy_4 (by decide) (fun hc => ?_) (fun hc => ?_)
  · have V := V1 hc
    refine rj_aload_n dX11_copy_14 0 rfl rfl ?_
    refine rj_ldc (v := (-1000001)) rfl kc_RX11_40 dX11_copy_15 ?_
    refine rm_callVi [.int (-1000001)] (rest := []) ml_RX11_94 mvX11_finds rfl dX11_copy_17 rfl rfl rfl rfl rfl (Nat.le_of_ble_eq_true rfl) (by decide) V (fun r1 M1 V => ?_)
    exact rm_iret dX11_copy_20 rfl rfl V
  · have V := V2 hc
    refine rj_iload_n dX11_copy_7 3 rfl rfl ?_
    refine rm_callSi [.int a2] (rest := []) (K := fun x M' => b2i (0 ≤ a2 ∧ a2 ≤ 3) = x ∧ M = M') ml_RX11_293 mtX11_isSheet rfl dX11_copy_8 rfl rfl (Nat.le_of_ble_eq_true rfl) (by decide) (uX11_isSheet (by omega) ⟨rfl, rfl⟩) (fun x M' hx => ?_)
    obtain ⟨rfl, rfl⟩ := hx
    obtain ⟨V1, V2⟩ := V
    refine rs_if_neB (tgt := 21) dX11_copy_11 (by decide) (fun hc => ?_) (fun hc => ?_)
    · have V := V1 hc
      refine rj_aload_n dX11_copy_21 0 rfl rfl ?_
      refine rs_getR (t := 67) fl_RX11_31 rfl (by decide) (by decide) rfl dX11_copy_22 rfl (by omega) ?_
      refine rj_iload_n dX11_copy_25 1 rfl rfl ?_
      obtain ⟨hb, V⟩ := V
      refine rs_iald dX11_copy_26 rfl hb ?_
      obtain ⟨V1, V2⟩ := V
      refine rj_if_eq (tgt := 39) dX11_copy_27 (by decide) (fun hc => ?_) (fun hc => ?_)
      · have V := V1 hc
        refine rj_aload_n dX11_copy_39 0 rfl rfl ?_
        refine rj_ldcw (v := (-1000006)) rfl kc_RX11_288 dX11_copy_40 ?_
        refine rm_callVi [.int (-1000006)] (rest := []) ml_RX11_94 mvX11_finds rfl dX11_copy_43 rfl rfl rfl rfl rfl (Nat.le_of_ble_eq_true rfl) (by decide) V (fun r1 M1 V => ?_)
        exact rm_iret dX11_copy_46 rfl rfl V
      · have V := V2 hc
        refine rj_aload_n dX11_copy_30 0 rfl rfl ?_
        refine rs_getR (t := 67) fl_RX11_31 rfl (by decide) (by decide) rfl dX11_copy_31 rfl (by omega) ?_
        refine rj_iload_n dX11_copy_34 3 rfl rfl ?_
        obtain ⟨hb, V⟩ := V
        refine rs_iald dX11_copy_35 rfl hb ?_
        obtain ⟨V1, V2⟩ := V
        refine rj_if_ne (tgt := 47) dX11_copy_36 (by decide) (fun hc => ?_) (fun hc => ?_)
        · have V := V1 hc
          refine rj_aload_n dX11_copy_47 0 rfl rfl ?_
          refine rs_getR (t := 67) fl_RX11_31 rfl (by decide) (by decide) rfl dX11_copy_48 rfl (by omega) ?_
          refine rj_iload_n dX11_copy_51 1 rfl rfl ?_
          obtain ⟨hb, V⟩ := V
          refine rs_iald dX11_copy_52 rfl hb ?_
          refine rj_aload_n dX11_copy_53 0 rfl rfl ?_
          refine rs_getR (t := 67) fl_RX11_31 rfl (by decide) (by decide) rfl dX11_copy_54 rfl (by omega) ?_
          refine rj_iload_n dX11_copy_57 3 rfl rfl ?_
          obtain ⟨hb, V⟩ := V
          refine rs_iald dX11_copy_58 rfl hb ?_
          obtain ⟨V1, V2⟩ := V
          refine rj_icmp_eq (tgt := 70) dX11_copy_59 (by decide) (fun hc => ?_) (fun hc => ?_)
          · have V := V1 hc
            refine rj_iload dX11_copy_70 5 rfl ?_
            obtain ⟨V1, V2⟩ := V
            refine rj_if_lt (tgt := 111) dX11_copy_72 (by decide) (fun hc => ?_) (fun hc => ?_)
            · have V := V1 hc
              refine rj_aload_n dX11_copy_111 0 rfl rfl ?_
              refine rj_ldc (v := (-1000001)) rfl kc_RX11_40 dX11_copy_112 ?_
              refine rm_callVi [.int (-1000001)] (rest := []) ml_RX11_94 mvX11_finds rfl dX11_copy_114 rfl rfl rfl rfl rfl (Nat.le_of_ble_eq_true rfl) (by decide) V (fun r1 M1 V => ?_)
              exact rm_iret dX11_copy_117 rfl rfl V
            · have V := V2 hc
              refine rj_iload_n dX11_copy_75 2 rfl rfl ?_
              obtain ⟨V1, V2⟩ := V
              refine rj_if_lt (tgt := 111) dX11_copy_76 (by decide) (fun hc => ?_) (fun hc => ?_)
              · have V := V1 hc
                refine rj_aload_n dX11_copy_111 0 rfl rfl ?_
                refine rj_ldc (v := (-1000001)) rfl kc_RX11_40 dX11_copy_112 ?_
                refine rm_callVi [.int (-1000001)] (rest := []) ml_RX11_94 mvX11_finds rfl dX11_copy_114 rfl rfl rfl rfl rfl (Nat.le_of_ble_eq_true rfl) (by decide) V (fun r1 M1 V => ?_)
                exact rm_iret dX11_copy_117 rfl rfl V
              · have V := V2 hc
                refine rj_iload dX11_copy_79 4 rfl ?_
                obtain ⟨V1, V2⟩ := V
                refine rj_if_lt (tgt := 111) dX11_copy_81 (by decide) (fun hc => ?_) (fun hc => ?_)
                · have V := V1 hc
                  refine rj_aload_n dX11_copy_111 0 rfl rfl ?_
                  refine rj_ldc (v := (-1000001)) rfl kc_RX11_40 dX11_copy_112 ?_
                  refine rm_callVi [.int (-1000001)] (rest := []) ml_RX11_94 mvX11_finds rfl dX11_copy_114 rfl rfl rfl rfl rfl (Nat.le_of_ble_eq_true rfl) (by decide) V (fun r1 M1 V => ?_)
                  exact rm_iret dX11_copy_117 rfl rfl V
                · have V := V2 hc
                  refine rj_iload dX11_copy_84 5 rfl ?_
                  refine rj_aload_n dX11_copy_86 0 rfl rfl ?_
                  refine rs_getR (t := 68) fl_RX11_34 rfl (by decide) (by decide) rfl dX11_copy_87 rfl (by omega) ?_
                  refine rj_iload_n dX11_copy_90 1 rfl rfl ?_
                  obtain ⟨hb, V⟩ := V
                  refine rs_iald dX11_copy_91 rfl hb ?_
                  refine rj_iload_n dX11_copy_92 2 rfl rfl ?_
                  refine rj_isub dX11_copy_93 ?_
                  obtain ⟨V1, V2⟩ := V
                  refine rj_icmp_gt (tgt := 111) dX11_copy_94 (by decide) (fun hc => ?_) (fun hc => ?_)
                  · have V := V1 hc
                    refine rj_aload_n dX11_copy_111 0 rfl rfl ?_
                    refine rj_ldc (v := (-1000001)) rfl kc_RX11_40 dX11_copy_112 ?_
                    refine rm_callVi [.int (-1000001)] (rest := []) ml_RX11_94 mvX11_finds rfl dX11_copy_114 rfl rfl rfl rfl rfl (Nat.le_of_ble_eq_true rfl) (by decide) V (fun r1 M1 V => ?_)
                    exact rm_iret dX11_copy_117 rfl rfl V
                  · have V := V2 hc
                    refine rj_iload dX11_copy_97 5 rfl ?_
                    refine rj_aload_n dX11_copy_99 0 rfl rfl ?_
                    refine rs_getR (t := 68) fl_RX11_34 rfl (by decide) (by decide) rfl dX11_copy_100 rfl (by omega) ?_
                    refine rj_iload_n dX11_copy_103 3 rfl rfl ?_
                    obtain ⟨hb, V⟩ := V
                    refine rs_iald dX11_copy_104 rfl hb ?_
                    refine rj_iload dX11_copy_105 4 rfl ?_
                    refine rj_isub dX11_copy_107 ?_
                    obtain ⟨V1, V2⟩ := V
                    refine rj_icmp_le (tgt := 118) dX11_copy_108 (by decide) (fun hc => ?_) (fun hc => ?_)
                    · have V := V1 hc
                      refine rj_iload_n dX11_copy_118 1 rfl rfl ?_
                      refine rj_iload_n dX11_copy_119 3 rfl rfl ?_
                      obtain ⟨V1, V2⟩ := V
                      refine rj_icmp_ne (tgt := 133) dX11_copy_120 (by decide) (fun hc => ?_) (fun hc => ?_)
                      · have V := V1 hc
                        refine rj_iconst (v := 0) dX11_copy_133 (by decide) ?_
                        refine rj_istore (lv' := [(0, .ref 59), (1, .int a0), (2, .int a1), (3, .int a2), (4, .int a3), (5, .int a4), (6, .int 0)]) dX11_copy_134 (by decide) rfl rfl ?_
                        refine rj_iconst (v := 0) dX11_copy_136 (by decide) ?_
                        refine rj_istore (lv' := [(0, .ref 59), (1, .int a0), (2, .int a1), (3, .int a2), (4, .int a3), (5, .int a4), (6, .int 0), (7, .int 0)]) dX11_copy_137 (by decide) rfl rfl ?_
                        exact rs_sub [0, 1, 2, 3, 4, 5, 6, 7] rfl V
                      · have V := V2 hc
                        refine rj_iload_n dX11_copy_123 2 rfl rfl ?_
                        refine rj_iload dX11_copy_124 4 rfl ?_
                        have KD : RM w (h + 1) kX11_copy 134 [(0, .ref 59), (1, .int a0), (2, .int a1), (3, .int a2), (4, .int a3), (5, .int a4)] [.int (b2i (¬ (a3 ≤ a1)))] M Q := by
                          refine rj_top (fun x1 ex1 => ?_)
                          have V := V x1 ex1
                          refine rj_istore (lv' := [(0, .ref 59), (1, .int a0), (2, .int a1), (3, .int a2), (4, .int a3), (5, .int a4), (6, .int x1)]) dX11_copy_134 (by decide) rfl rfl ?_
                          refine rj_iconst (v := 0) dX11_copy_136 (by decide) ?_
                          refine rj_istore (lv' := [(0, .ref 59), (1, .int a0), (2, .int a1), (3, .int a2), (4, .int a3), (5, .int a4), (6, .int x1), (7, .int 0)]) dX11_copy_137 (by decide) rfl rfl ?_
                          exact rs_sub [0, 1, 2, 3, 4, 5, 6, 7] rfl V
                        refine rj_icmp_ge (tgt := 133) dX11_copy_126 (by decide) (fun hc => ?_) (fun hc => ?_)
                        · refine rj_iconst (v := 0) dX11_copy_133 (by decide) ?_
                          exact rs_b0 (fun q => q hc) KD
                        · refine rj_iconst (v := 1) dX11_copy_129 (by decide) ?_
                          refine rj_goto (tgt := 134) dX11_copy_130 (by decide) ?_
                          exact rs_b1 hc KD
                    · have V := V2 hc
                      refine rj_aload_n dX11_copy_111 0 rfl rfl ?_
                      refine rj_ldc (v := (-1000001)) rfl kc_RX11_40 dX11_copy_112 ?_
                      refine rm_callVi [.int (-1000001)] (rest := []) ml_RX11_94 mvX11_finds rfl dX11_copy_114 rfl rfl rfl rfl rfl (Nat.le_of_ble_eq_true rfl) (by decide) V (fun r1 M1 V => ?_)
                      exact rm_iret dX11_copy_117 rfl rfl V
          · have V := V2 hc
            refine rj_aload_n dX11_copy_62 0 rfl rfl ?_
            refine rj_ldcw (v := (-1000003)) rfl kc_RX11_292 dX11_copy_63 ?_
            refine rm_callVi [.int (-1000003)] (rest := []) ml_RX11_94 mvX11_finds rfl dX11_copy_66 rfl rfl rfl rfl rfl (Nat.le_of_ble_eq_true rfl) (by decide) V (fun r1 M1 V => ?_)
            exact rm_iret dX11_copy_69 rfl rfl V
        · have V := V2 hc
          refine rj_aload_n dX11_copy_39 0 rfl rfl ?_
          refine rj_ldcw (v := (-1000006)) rfl kc_RX11_288 dX11_copy_40 ?_
          refine rm_callVi [.int (-1000006)] (rest := []) ml_RX11_94 mvX11_finds rfl dX11_copy_43 rfl rfl rfl rfl rfl (Nat.le_of_ble_eq_true rfl) (by decide) V (fun r1 M1 V => ?_)
          exact rm_iret dX11_copy_46 rfl rfl V
    · have V := V2 hc
      refine rj_aload_n dX11_copy_14 0 rfl rfl ?_
      refine rj_ldc (v := (-1000001)) rfl kc_RX11_40 dX11_copy_15 ?_
      refine rm_callVi [.int (-1000001)] (rest := []) ml_RX11_94 mvX11_finds rfl dX11_copy_17 rfl rfl rfl rfl rfl (Nat.le_of_ble_eq_true rfl) (by decide) V (fun r1 M1 V => ?_)
      exact rm_iret dX11_copy_20 rfl rfl V
set_option maxRecDepth 100000 in
set_option maxHeartbeats 4000000 in
theorem vX11_copy_139 {w : Wd} {h : Nat} (hh : 1 ≤ h) (v1 : Int32) (v2 : Int32) (v3 : Int32) (v4 : Int32) (v5 : Int32) (v6 : Int32) (v7 : Int32)  (M : Mem) (Q : Option Value → Mem → Prop) (V : ((v5 ≤ v7 → (Q (some (.int v5)) M)) ∧ (¬ (v5 ≤ v7) → (∀ x1 : Int32, x1 = (if v6 = 0 then v7 else ((v5 - 1) - v7)) → (vp_in (((40 * v1) + v2) + x1) 160 ∧ (vp_in (((40 * v3) + v4) + x1) 160 ∧ ∀ M1 : Mem, M1 = mset M 69 (Int32.toNatClampNeg (((40 * v3) + v4) + x1)) (M 69 (Int32.toNatClampNeg (((40 * v1) + v2) + x1))) → (∀ x2 : Int32, x2 = v7 + 1 → RM w (h + 1) kX11_copy 139 [(0, .ref 59), (1, .int v1), (2, .int v2), (3, .int v3), (4, .int v4), (5, .int v5), (6, .int v6), (7, .int x2)] [] M1 Q))))))) : RM w (h + 1) kX11_copy 139 [(0, .ref 59), (1, .int v1), (2, .int v2), (3, .int v3), (4, .int v4), (5, .int v5), (6, .int v6), (7, .int v7)] [] M Q := by
  refine rj_iload dX11_copy_139 7 rfl ?_
  refine rj_iload dX11_copy_141 5 rfl ?_
  obtain ⟨V1, V2⟩ := V
  refine rj_icmp_ge (tgt := 200) dX11_copy_143 (by decide) (fun hc => ?_) (fun hc => ?_)
  · have V := V1 hc
    refine rj_iload dX11_copy_200 5 rfl ?_
    exact rm_iret dX11_copy_202 rfl rfl V
  · have V := V2 hc
    refine rj_iload dX11_copy_146 6 rfl ?_
    have KD : RM w (h + 1) kX11_copy 163 [(0, .ref 59), (1, .int v1), (2, .int v2), (3, .int v3), (4, .int v4), (5, .int v5), (6, .int v6), (7, .int v7)] [.int (if v6 = 0 then v7 else ((v5 - 1) - v7))] M Q := by
      refine rj_top (fun x1 ex1 => ?_)
      have V := V x1 ex1
      refine rj_istore (lv' := [(0, .ref 59), (1, .int v1), (2, .int v2), (3, .int v3), (4, .int v4), (5, .int v5), (6, .int v6), (7, .int v7), (8, .int x1)]) dX11_copy_163 (by decide) rfl rfl ?_
      refine rj_aload_n dX11_copy_165 0 rfl rfl ?_
      refine rs_getR (t := 69) fl_RX11_37 rfl (by decide) (by decide) rfl dX11_copy_166 rfl (by omega) ?_
      refine rj_bipush (v := 40) dX11_copy_169 (by decide) ?_
      refine rj_iload_n dX11_copy_171 3 rfl rfl ?_
      refine rj_imul dX11_copy_172 ?_
      refine rj_iload dX11_copy_173 4 rfl ?_
      refine rj_iadd dX11_copy_175 ?_
      refine rj_iload dX11_copy_176 8 rfl ?_
      refine rj_iadd dX11_copy_178 ?_
      refine rj_aload_n dX11_copy_179 0 rfl rfl ?_
      refine rs_getR (t := 69) fl_RX11_37 rfl (by decide) (by decide) rfl dX11_copy_180 rfl (by omega) ?_
      refine rj_bipush (v := 40) dX11_copy_183 (by decide) ?_
      refine rj_iload_n dX11_copy_185 1 rfl rfl ?_
      refine rj_imul dX11_copy_186 ?_
      refine rj_iload_n dX11_copy_187 2 rfl rfl ?_
      refine rj_iadd dX11_copy_188 ?_
      refine rj_iload dX11_copy_189 8 rfl ?_
      refine rj_iadd dX11_copy_191 ?_
      obtain ⟨hb, V⟩ := V
      refine rs_iald dX11_copy_192 rfl hb ?_
      obtain ⟨hb, V⟩ := V
      refine rs_iast dX11_copy_193 rfl hb (fun M1 eM1 => ?_)
      have V := V M1 eM1
      refine rj_iincV (c := 1) (fun y => [(0, .ref 59), (1, .int v1), (2, .int v2), (3, .int v3), (4, .int v4), (5, .int v5), (6, .int v6), (7, .int y), (8, .int x1)]) dX11_copy_194 7 rfl (by decide) (by decide) rfl (fun _ => rfl) (fun x2 ex2 => ?_)
      have V := V x2 ex2
      refine rj_goto (tgt := 139) dX11_copy_197 (by decide) ?_
      exact rs_sub [0, 1, 2, 3, 4, 5, 6, 7] rfl V
    refine rj_if_eq (tgt := 161) dX11_copy_148 (by decide) (fun hc => ?_) (fun hc => ?_)
    · refine rj_iload dX11_copy_161 7 rfl ?_
      exact rs_ite_t hc KD
    · refine rj_iload dX11_copy_151 5 rfl ?_
      refine rj_iconst (v := 1) dX11_copy_153 (by decide) ?_
      refine rj_isub dX11_copy_154 ?_
      refine rj_iload dX11_copy_155 7 rfl ?_
      refine rj_isub dX11_copy_157 ?_
      refine rj_goto (tgt := 163) dX11_copy_158 (by decide) ?_
      exact rs_ite_f hc KD
-- X11_load
set_option maxRecDepth 100000 in
set_option maxHeartbeats 4000000 in
theorem vX11_load_0 {w : Wd} {h : Nat} (hh : 1 ≤ h) (a0 : Int32) (a1 : Int32)  (M : Mem) (Q : Option Value → Mem → Prop) (V : (((0 ≤ a0 ∧ a0 ≤ 3) → (vp_in a0 4 ∧ ((¬ ((M 67 (Int32.toNatClampNeg a0)) = 0) → (((0 ≤ a1 ∧ a1 ≤ 191) → RM w (h + 1) kX11_load 47 [(0, .ref 59), (1, .int a0), (2, .int a1), (3, .int 0)] [] M Q) ∧ (¬ ((0 ≤ a1 ∧ a1 ≤ 191)) → (CSi w h kX11_finds [.ref 59, .int (-1000001)] M (fun r1 M1 => (Q (some (.int r1)) M1)))))) ∧ ((M 67 (Int32.toNatClampNeg a0)) = 0 → (CSi w h kX11_finds [.ref 59, .int (-1000006)] M (fun r1 M1 => (Q (some (.int r1)) M1))))))) ∧ (¬ ((0 ≤ a0 ∧ a0 ≤ 3)) → (CSi w h kX11_finds [.ref 59, .int (-1000001)] M (fun r1 M1 => (Q (some (.int r1)) M1)))))) : RM w (h + 1) kX11_load 0 [(0, .ref 59), (1, .int a0), (2, .int a1)] [] M Q := by
  refine rj_iload_n dX11_load_0 1 rfl rfl ?_
  refine rm_callSi [.int a0] (rest := []) (K := fun x M' => b2i (0 ≤ a0 ∧ a0 ≤ 3) = x ∧ M = M') ml_RX11_293 mtX11_isSheet rfl dX11_load_1 rfl rfl (Nat.le_of_ble_eq_true rfl) (by decide) (uX11_isSheet (by omega) ⟨rfl, rfl⟩) (fun x M' hx => ?_)
  obtain ⟨rfl, rfl⟩ := hx
  obtain ⟨V1, V2⟩ := V
  refine rs_if_neB (tgt := 14) dX11_load_4 (by decide) (fun hc => ?_) (fun hc => ?_)
  · have V := V1 hc
    refine rj_aload_n dX11_load_14 0 rfl rfl ?_
    refine rs_getR (t := 67) fl_RX11_31 rfl (by decide) (by decide) rfl dX11_load_15 rfl (by omega) ?_
    refine rj_iload_n dX11_load_18 1 rfl rfl ?_
    obtain ⟨hb, V⟩ := V
    refine rs_iald dX11_load_19 rfl hb ?_
    obtain ⟨V1, V2⟩ := V
    refine rj_if_ne (tgt := 31) dX11_load_20 (by decide) (fun hc => ?_) (fun hc => ?_)
    · have V := V1 hc
      refine rj_iload_n dX11_load_31 2 rfl rfl ?_
      refine rm_callSi [.int a1] (rest := []) (K := fun x M' => b2i (0 ≤ a1 ∧ a1 ≤ 191) = x ∧ M = M') ml_RX11_88 mtX11_isCell rfl dX11_load_32 rfl rfl (Nat.le_of_ble_eq_true rfl) (by decide) (uX11_isCell (by omega) ⟨rfl, rfl⟩) (fun x M' hx => ?_)
      obtain ⟨rfl, rfl⟩ := hx
      obtain ⟨V1, V2⟩ := V
      refine rs_if_neB (tgt := 45) dX11_load_35 (by decide) (fun hc => ?_) (fun hc => ?_)
      · have V := V1 hc
        refine rj_iconst (v := 0) dX11_load_45 (by decide) ?_
        refine rj_istore_n (lv' := [(0, .ref 59), (1, .int a0), (2, .int a1), (3, .int 0)]) dX11_load_46 rfl (by decide) rfl rfl ?_
        exact rs_sub [0, 1, 2, 3] rfl V
      · have V := V2 hc
        refine rj_aload_n dX11_load_38 0 rfl rfl ?_
        refine rj_ldc (v := (-1000001)) rfl kc_RX11_40 dX11_load_39 ?_
        refine rm_callVi [.int (-1000001)] (rest := []) ml_RX11_94 mvX11_finds rfl dX11_load_41 rfl rfl rfl rfl rfl (Nat.le_of_ble_eq_true rfl) (by decide) V (fun r1 M1 V => ?_)
        exact rm_iret dX11_load_44 rfl rfl V
    · have V := V2 hc
      refine rj_aload_n dX11_load_23 0 rfl rfl ?_
      refine rj_ldcw (v := (-1000006)) rfl kc_RX11_288 dX11_load_24 ?_
      refine rm_callVi [.int (-1000006)] (rest := []) ml_RX11_94 mvX11_finds rfl dX11_load_27 rfl rfl rfl rfl rfl (Nat.le_of_ble_eq_true rfl) (by decide) V (fun r1 M1 V => ?_)
      exact rm_iret dX11_load_30 rfl rfl V
  · have V := V2 hc
    refine rj_aload_n dX11_load_7 0 rfl rfl ?_
    refine rj_ldc (v := (-1000001)) rfl kc_RX11_40 dX11_load_8 ?_
    refine rm_callVi [.int (-1000001)] (rest := []) ml_RX11_94 mvX11_finds rfl dX11_load_10 rfl rfl rfl rfl rfl (Nat.le_of_ble_eq_true rfl) (by decide) V (fun r1 M1 V => ?_)
    exact rm_iret dX11_load_13 rfl rfl V
set_option maxRecDepth 100000 in
set_option maxHeartbeats 4000000 in
theorem vX11_load_47 {w : Wd} {h : Nat} (hh : 1 ≤ h) (v1 : Int32) (v2 : Int32) (v3 : Int32)  (M : Mem) (Q : Option Value → Mem → Prop) (V : (vp_in v1 4 ∧ (((M 68 (Int32.toNatClampNeg v1)) ≤ v3 → (Q (some (.int v3)) M)) ∧ (¬ ((M 68 (Int32.toNatClampNeg v1)) ≤ v3) → ((¬ ((0 ≤ (v2 + v3) ∧ (v2 + v3) ≤ 191)) → (Q (some (.int v3)) M)) ∧ ((0 ≤ (v2 + v3) ∧ (v2 + v3) ≤ 191) → (vp_in ((40 * v1) + v3) 160 ∧ ((¬ (((0 : Int32) ≤ (M 69 (Int32.toNatClampNeg ((40 * v1) + v3))) ∧ (M 69 (Int32.toNatClampNeg ((40 * v1) + v3))) ≤ (9 : Int32))) → (Q (some (.int v3)) M)) ∧ (((0 : Int32) ≤ (M 69 (Int32.toNatClampNeg ((40 * v1) + v3))) ∧ (M 69 (Int32.toNatClampNeg ((40 * v1) + v3))) ≤ (9 : Int32)) → (vp_in ((40 * v1) + v3) 160 ∧ (vp_in ((18 + v2) + v3) 666 ∧ ∀ M1 : Mem, M1 = mset M 60 (Int32.toNatClampNeg ((18 + v2) + v3)) (M 69 (Int32.toNatClampNeg ((40 * v1) + v3))) → (∀ x1 : Int32, x1 = v3 + 1 → RM w (h + 1) kX11_load 47 [(0, .ref 59), (1, .int v1), (2, .int v2), (3, .int x1)] [] M1 Q)))))))))))) : RM w (h + 1) kX11_load 47 [(0, .ref 59), (1, .int v1), (2, .int v2), (3, .int v3)] [] M Q := by
  refine rj_iload_n dX11_load_47 3 rfl rfl ?_
  refine rj_aload_n dX11_load_48 0 rfl rfl ?_
  refine rs_getR (t := 68) fl_RX11_34 rfl (by decide) (by decide) rfl dX11_load_49 rfl (by omega) ?_
  refine rj_iload_n dX11_load_52 1 rfl rfl ?_
  obtain ⟨hb, V⟩ := V
  refine rs_iald dX11_load_53 rfl hb ?_
  obtain ⟨V1, V2⟩ := V
  refine rj_icmp_ge (tgt := 116) dX11_load_54 (by decide) (fun hc => ?_) (fun hc => ?_)
  · have V := V1 hc
    refine rj_iload_n dX11_load_116 3 rfl rfl ?_
    exact rm_iret dX11_load_117 rfl rfl V
  · have V := V2 hc
    refine rj_iload_n dX11_load_57 2 rfl rfl ?_
    refine rj_iload_n dX11_load_58 3 rfl rfl ?_
    refine rj_iadd dX11_load_59 ?_
    refine rm_callSi [.int (v2 + v3)] (rest := []) (K := fun x M' => b2i (0 ≤ (v2 + v3) ∧ (v2 + v3) ≤ 191) = x ∧ M = M') ml_RX11_88 mtX11_isCell rfl dX11_load_60 rfl rfl (Nat.le_of_ble_eq_true rfl) (by decide) (uX11_isCell (by omega) ⟨rfl, rfl⟩) (fun x M' hx => ?_)
    obtain ⟨rfl, rfl⟩ := hx
    obtain ⟨V1, V2⟩ := V
    refine rs_if_eqB (tgt := 116) dX11_load_63 (by decide) (fun hc => ?_) (fun hc => ?_)
    · have V := V1 hc
      refine rj_iload_n dX11_load_116 3 rfl rfl ?_
      exact rm_iret dX11_load_117 rfl rfl V
    · have V := V2 hc
      refine rj_aload_n dX11_load_66 0 rfl rfl ?_
      refine rs_getR (t := 69) fl_RX11_37 rfl (by decide) (by decide) rfl dX11_load_67 rfl (by omega) ?_
      refine rj_bipush (v := 40) dX11_load_70 (by decide) ?_
      refine rj_iload_n dX11_load_72 1 rfl rfl ?_
      refine rj_imul dX11_load_73 ?_
      refine rj_iload_n dX11_load_74 3 rfl rfl ?_
      refine rj_iadd dX11_load_75 ?_
      obtain ⟨hb, V⟩ := V
      refine rs_iald dX11_load_76 rfl hb ?_
      refine rj_i2l dX11_load_77 ?_
      refine rj_lconst (v := 0) dX11_load_78 (by decide) ?_
      refine rj_ldc2 (v := 9) rfl kl_RX11_97 dX11_load_79 ?_
      refine rm_callSi [.long (Int32.toInt64 (M 69 (Int32.toNatClampNeg ((40 * v1) + v3)))), .long 0, .long 9] (rest := []) (K := fun x M' => b2i ((0 : Int32) ≤ (M 69 (Int32.toNatClampNeg ((40 * v1) + v3))) ∧ (M 69 (Int32.toNatClampNeg ((40 * v1) + v3))) ≤ (9 : Int32)) = x ∧ M = M') ml_RX11_43 mtX11_in rfl dX11_load_82 rfl rfl (Nat.le_of_ble_eq_true rfl) (by decide) (uX11_in ((M 69 (Int32.toNatClampNeg ((40 * v1) + v3)))) (0) (9) (by decide) (by decide) ⟨rfl, rfl⟩) (fun x M' hx => ?_)
      obtain ⟨rfl, rfl⟩ := hx
      obtain ⟨V1, V2⟩ := V
      refine rs_if_eqB (tgt := 116) dX11_load_85 (by decide) (fun hc => ?_) (fun hc => ?_)
      · have V := V1 hc
        refine rj_iload_n dX11_load_116 3 rfl rfl ?_
        exact rm_iret dX11_load_117 rfl rfl V
      · have V := V2 hc
        refine rj_aload_n dX11_load_88 0 rfl rfl ?_
        refine rs_getR (t := 60) fl_RX11_9 rfl (by decide) (by decide) rfl dX11_load_89 rfl (by omega) ?_
        refine rj_bipush (v := 18) dX11_load_92 (by decide) ?_
        refine rj_iload_n dX11_load_94 2 rfl rfl ?_
        refine rj_iadd dX11_load_95 ?_
        refine rj_iload_n dX11_load_96 3 rfl rfl ?_
        refine rj_iadd dX11_load_97 ?_
        refine rj_aload_n dX11_load_98 0 rfl rfl ?_
        refine rs_getR (t := 69) fl_RX11_37 rfl (by decide) (by decide) rfl dX11_load_99 rfl (by omega) ?_
        refine rj_bipush (v := 40) dX11_load_102 (by decide) ?_
        refine rj_iload_n dX11_load_104 1 rfl rfl ?_
        refine rj_imul dX11_load_105 ?_
        refine rj_iload_n dX11_load_106 3 rfl rfl ?_
        refine rj_iadd dX11_load_107 ?_
        obtain ⟨hb, V⟩ := V
        refine rs_iald dX11_load_108 rfl hb ?_
        obtain ⟨hb, V⟩ := V
        refine rs_iast dX11_load_109 rfl hb (fun M1 eM1 => ?_)
        have V := V M1 eM1
        refine rj_iincV (c := 1) (fun y => [(0, .ref 59), (1, .int v1), (2, .int v2), (3, .int y)]) dX11_load_110 3 rfl (by decide) (by decide) rfl (fun _ => rfl) (fun x1 ex1 => ?_)
        have V := V x1 ex1
        refine rj_goto (tgt := 47) dX11_load_113 (by decide) ?_
        exact rs_sub [0, 1, 2, 3] rfl V
-- X11_judge
set_option maxRecDepth 100000 in
set_option maxHeartbeats 4000000 in
theorem vX11_judge_0 {w : Wd} {h : Nat} (hh : 1 ≤ h) (a0 : Int32) (a1 : Int32)  (M : Mem) (Q : Option Value → Mem → Prop) (V : (((0 ≤ a0 ∧ a0 ≤ 3) → (vp_in a0 4 ∧ ((¬ ((M 67 (Int32.toNatClampNeg a0)) = 0) → ((¬ ((0 ≤ a1 ∧ a1 ≤ 7)) → (CSi w h kX11_finds [.ref 59, .int (-1000001)] M (fun r1 M1 => (Q (some (.int r1)) M1)))) ∧ ((0 ≤ a1 ∧ a1 ≤ 7) → (vp_in a0 4 ∧ (((M 68 (Int32.toNatClampNeg a0)) = 0 → (CSi w h kX11_finds [.ref 59, .int (-1000001)] M (fun r1 M1 => (Q (some (.int r1)) M1)))) ∧ (¬ ((M 68 (Int32.toNatClampNeg a0)) = 0) → (vp_in (40 * a0) 160 ∧ (((0 ≤ (M 69 (Int32.toNatClampNeg (40 * a0))) ∧ (M 69 (Int32.toNatClampNeg (40 * a0))) ≤ 11) → (vp_in (40 * a0) 160 ∧ (CSv w h kX11_goesAll [.ref 59, .int a1, .int (M 69 (Int32.toNatClampNeg (40 * a0))), .int 20] M (fun M1 => RM w (h + 1) kX11_judge 87 [(0, .ref 59), (1, .int a0), (3, .int 0)] [] M1 Q)))) ∧ (¬ ((0 ≤ (M 69 (Int32.toNatClampNeg (40 * a0))) ∧ (M 69 (Int32.toNatClampNeg (40 * a0))) ≤ 11)) → (CSi w h kX11_finds [.ref 59, .int (-1000001)] M (fun r1 M1 => (Q (some (.int r1)) M1)))))))))))) ∧ ((M 67 (Int32.toNatClampNeg a0)) = 0 → (CSi w h kX11_finds [.ref 59, .int (-1000006)] M (fun r1 M1 => (Q (some (.int r1)) M1))))))) ∧ (¬ ((0 ≤ a0 ∧ a0 ≤ 3)) → (CSi w h kX11_finds [.ref 59, .int (-1000001)] M (fun r1 M1 => (Q (some (.int r1)) M1)))))) : RM w (h + 1) kX11_judge 0 [(0, .ref 59), (1, .int a0), (2, .int a1)] [] M Q := by
  refine rj_iload_n dX11_judge_0 1 rfl rfl ?_
  refine rm_callSi [.int a0] (rest := []) (K := fun x M' => b2i (0 ≤ a0 ∧ a0 ≤ 3) = x ∧ M = M') ml_RX11_293 mtX11_isSheet rfl dX11_judge_1 rfl rfl (Nat.le_of_ble_eq_true rfl) (by decide) (uX11_isSheet (by omega) ⟨rfl, rfl⟩) (fun x M' hx => ?_)
  obtain ⟨rfl, rfl⟩ := hx
  obtain ⟨V1, V2⟩ := V
  refine rs_if_neB (tgt := 14) dX11_judge_4 (by decide) (fun hc => ?_) (fun hc => ?_)
  · have V := V1 hc
    refine rj_aload_n dX11_judge_14 0 rfl rfl ?_
    refine rs_getR (t := 67) fl_RX11_31 rfl (by decide) (by decide) rfl dX11_judge_15 rfl (by omega) ?_
    refine rj_iload_n dX11_judge_18 1 rfl rfl ?_
    obtain ⟨hb, V⟩ := V
    refine rs_iald dX11_judge_19 rfl hb ?_
    obtain ⟨V1, V2⟩ := V
    refine rj_if_ne (tgt := 31) dX11_judge_20 (by decide) (fun hc => ?_) (fun hc => ?_)
    · have V := V1 hc
      refine rj_iload_n dX11_judge_31 2 rfl rfl ?_
      refine rm_callSi [.int a1] (rest := []) (K := fun x M' => b2i (0 ≤ a1 ∧ a1 ≤ 7) = x ∧ M = M') ml_RX11_127 mtX11_isKind rfl dX11_judge_32 rfl rfl (Nat.le_of_ble_eq_true rfl) (by decide) (uX11_isKind (by omega) ⟨rfl, rfl⟩) (fun x M' hx => ?_)
      obtain ⟨rfl, rfl⟩ := hx
      obtain ⟨V1, V2⟩ := V
      refine rs_if_eqB (tgt := 62) dX11_judge_35 (by decide) (fun hc => ?_) (fun hc => ?_)
      · have V := V1 hc
        refine rj_aload_n dX11_judge_62 0 rfl rfl ?_
        refine rj_ldc (v := (-1000001)) rfl kc_RX11_40 dX11_judge_63 ?_
        refine rm_callVi [.int (-1000001)] (rest := []) ml_RX11_94 mvX11_finds rfl dX11_judge_65 rfl rfl rfl rfl rfl (Nat.le_of_ble_eq_true rfl) (by decide) V (fun r1 M1 V => ?_)
        exact rm_iret dX11_judge_68 rfl rfl V
      · have V := V2 hc
        refine rj_aload_n dX11_judge_38 0 rfl rfl ?_
        refine rs_getR (t := 68) fl_RX11_34 rfl (by decide) (by decide) rfl dX11_judge_39 rfl (by omega) ?_
        refine rj_iload_n dX11_judge_42 1 rfl rfl ?_
        obtain ⟨hb, V⟩ := V
        refine rs_iald dX11_judge_43 rfl hb ?_
        obtain ⟨V1, V2⟩ := V
        refine rj_if_eq (tgt := 62) dX11_judge_44 (by decide) (fun hc => ?_) (fun hc => ?_)
        · have V := V1 hc
          refine rj_aload_n dX11_judge_62 0 rfl rfl ?_
          refine rj_ldc (v := (-1000001)) rfl kc_RX11_40 dX11_judge_63 ?_
          refine rm_callVi [.int (-1000001)] (rest := []) ml_RX11_94 mvX11_finds rfl dX11_judge_65 rfl rfl rfl rfl rfl (Nat.le_of_ble_eq_true rfl) (by decide) V (fun r1 M1 V => ?_)
          exact rm_iret dX11_judge_68 rfl rfl V
        · have V := V2 hc
          refine rj_aload_n dX11_judge_47 0 rfl rfl ?_
          refine rs_getR (t := 69) fl_RX11_37 rfl (by decide) (by decide) rfl dX11_judge_48 rfl (by omega) ?_
          refine rj_bipush (v := 40) dX11_judge_51 (by decide) ?_
          refine rj_iload_n dX11_judge_53 1 rfl rfl ?_
          refine rj_imul dX11_judge_54 ?_
          obtain ⟨hb, V⟩ := V
          refine rs_iald dX11_judge_55 rfl hb ?_
          refine rm_callSi [.int (M 69 (Int32.toNatClampNeg (40 * a0)))] (rest := []) (K := fun x M' => b2i (0 ≤ (M 69 (Int32.toNatClampNeg (40 * a0))) ∧ (M 69 (Int32.toNatClampNeg (40 * a0))) ≤ 11) = x ∧ M = M') ml_RX11_120 mtX11_isColumn rfl dX11_judge_56 rfl rfl (Nat.le_of_ble_eq_true rfl) (by decide) (uX11_isColumn (by omega) ⟨rfl, rfl⟩) (fun x M' hx => ?_)
          obtain ⟨rfl, rfl⟩ := hx
          obtain ⟨V1, V2⟩ := V
          refine rs_if_neB (tgt := 69) dX11_judge_59 (by decide) (fun hc => ?_) (fun hc => ?_)
          · have V := V1 hc
            refine rj_aload_n dX11_judge_69 0 rfl rfl ?_
            refine rj_iload_n dX11_judge_70 2 rfl rfl ?_
            refine rj_aload_n dX11_judge_71 0 rfl rfl ?_
            refine rs_getR (t := 69) fl_RX11_37 rfl (by decide) (by decide) rfl dX11_judge_72 rfl (by omega) ?_
            refine rj_bipush (v := 40) dX11_judge_75 (by decide) ?_
            refine rj_iload_n dX11_judge_77 1 rfl rfl ?_
            refine rj_imul dX11_judge_78 ?_
            obtain ⟨hb, V⟩ := V
            refine rs_iald dX11_judge_79 rfl hb ?_
            refine rj_bipush (v := 20) dX11_judge_80 (by decide) ?_
            refine rm_callVv [.int a1, .int (M 69 (Int32.toNatClampNeg (40 * a0))), .int 20] (rest := []) ml_RX11_271 mvX11_goesAll rfl dX11_judge_82 rfl rfl rfl rfl rfl (Nat.le_of_ble_eq_true rfl) (by decide) V (fun M1 V => ?_)
            refine rj_iconst (v := 0) dX11_judge_85 (by decide) ?_
            refine rj_istore_n (lv' := [(0, .ref 59), (1, .int a0), (2, .int a1), (3, .int 0)]) dX11_judge_86 rfl (by decide) rfl rfl ?_
            exact rs_sub [0, 1, 3] rfl V
          · have V := V2 hc
            refine rj_aload_n dX11_judge_62 0 rfl rfl ?_
            refine rj_ldc (v := (-1000001)) rfl kc_RX11_40 dX11_judge_63 ?_
            refine rm_callVi [.int (-1000001)] (rest := []) ml_RX11_94 mvX11_finds rfl dX11_judge_65 rfl rfl rfl rfl rfl (Nat.le_of_ble_eq_true rfl) (by decide) V (fun r1 M1 V => ?_)
            exact rm_iret dX11_judge_68 rfl rfl V
    · have V := V2 hc
      refine rj_aload_n dX11_judge_23 0 rfl rfl ?_
      refine rj_ldcw (v := (-1000006)) rfl kc_RX11_288 dX11_judge_24 ?_
      refine rm_callVi [.int (-1000006)] (rest := []) ml_RX11_94 mvX11_finds rfl dX11_judge_27 rfl rfl rfl rfl rfl (Nat.le_of_ble_eq_true rfl) (by decide) V (fun r1 M1 V => ?_)
      exact rm_iret dX11_judge_30 rfl rfl V
  · have V := V2 hc
    refine rj_aload_n dX11_judge_7 0 rfl rfl ?_
    refine rj_ldc (v := (-1000001)) rfl kc_RX11_40 dX11_judge_8 ?_
    refine rm_callVi [.int (-1000001)] (rest := []) ml_RX11_94 mvX11_finds rfl dX11_judge_10 rfl rfl rfl rfl rfl (Nat.le_of_ble_eq_true rfl) (by decide) V (fun r1 M1 V => ?_)
    exact rm_iret dX11_judge_13 rfl rfl V
set_option maxRecDepth 100000 in
set_option maxHeartbeats 4000000 in
theorem vX11_judge_87 {w : Wd} {h : Nat} (hh : 1 ≤ h) (v1 : Int32) (v3 : Int32)  (M : Mem) (Q : Option Value → Mem → Prop) (V : (vp_in v1 4 ∧ (((M 68 (Int32.toNatClampNeg v1)) ≤ v3 → (Q (some (.int 0)) M)) ∧ (¬ ((M 68 (Int32.toNatClampNeg v1)) ≤ v3) → (CSi w h kX11_onCells [.ref 59] M (fun r1 M1 => ((r1 < v3 → (Q (some (.int (1 + v3))) M1)) ∧ (¬ (r1 < v3) → (vp_in ((40 * v1) + v3) 160 ∧ (vp_in v3 65 ∧ (((M1 69 (Int32.toNatClampNeg ((40 * v1) + v3))) = ((M1 64 (Int32.toNatClampNeg v3)) - (M1 64 (Int32.toNatClampNeg v3)) / 12 * 12) → (∀ x1 : Int32, x1 = v3 + 1 → RM w (h + 1) kX11_judge 87 [(0, .ref 59), (1, .int v1), (3, .int x1)] [] M1 Q)) ∧ (¬ ((M1 69 (Int32.toNatClampNeg ((40 * v1) + v3))) = ((M1 64 (Int32.toNatClampNeg v3)) - (M1 64 (Int32.toNatClampNeg v3)) / 12 * 12)) → (Q (some (.int (1 + v3))) M1))))))))))))) : RM w (h + 1) kX11_judge 87 [(0, .ref 59), (1, .int v1), (3, .int v3)] [] M Q := by
  refine rj_iload_n dX11_judge_87 2 rfl rfl ?_
  refine rj_aload_n dX11_judge_88 0 rfl rfl ?_
  refine rs_getR (t := 68) fl_RX11_34 rfl (by decide) (by decide) rfl dX11_judge_89 rfl (by omega) ?_
  refine rj_iload_n dX11_judge_92 1 rfl rfl ?_
  obtain ⟨hb, V⟩ := V
  refine rs_iald dX11_judge_93 rfl hb ?_
  obtain ⟨V1, V2⟩ := V
  refine rj_icmp_ge (tgt := 138) dX11_judge_94 (by decide) (fun hc => ?_) (fun hc => ?_)
  · have V := V1 hc
    refine rj_iconst (v := 0) dX11_judge_138 (by decide) ?_
    exact rm_iret dX11_judge_139 rfl rfl V
  · have V := V2 hc
    refine rj_iload_n dX11_judge_97 2 rfl rfl ?_
    refine rj_aload_n dX11_judge_98 0 rfl rfl ?_
    refine rm_callVi [] (rest := [.int v3]) ml_RX11_274 mvX11_onCells rfl dX11_judge_99 rfl rfl rfl rfl rfl (Nat.le_of_ble_eq_true rfl) (by decide) V (fun r1 M1 V => ?_)
    obtain ⟨V1, V2⟩ := V
    refine rj_icmp_gt (tgt := 128) dX11_judge_102 (by decide) (fun hc => ?_) (fun hc => ?_)
    · have V := V1 hc
      refine rj_iconst (v := 1) dX11_judge_128 (by decide) ?_
      refine rj_iload_n dX11_judge_129 2 rfl rfl ?_
      refine rj_iadd dX11_judge_130 ?_
      exact rm_iret dX11_judge_131 rfl rfl V
    · have V := V2 hc
      refine rj_aload_n dX11_judge_105 0 rfl rfl ?_
      refine rs_getR (t := 69) fl_RX11_37 rfl (by decide) (by decide) rfl dX11_judge_106 rfl (by omega) ?_
      refine rj_bipush (v := 40) dX11_judge_109 (by decide) ?_
      refine rj_iload_n dX11_judge_111 1 rfl rfl ?_
      refine rj_imul dX11_judge_112 ?_
      refine rj_iload_n dX11_judge_113 2 rfl rfl ?_
      refine rj_iadd dX11_judge_114 ?_
      obtain ⟨hb, V⟩ := V
      refine rs_iald dX11_judge_115 rfl hb ?_
      refine rj_aload_n dX11_judge_116 0 rfl rfl ?_
      refine rs_getR (t := 64) fl_RX11_22 rfl (by decide) (by decide) rfl dX11_judge_117 rfl (by omega) ?_
      refine rj_iload_n dX11_judge_120 2 rfl rfl ?_
      obtain ⟨hb, V⟩ := V
      refine rs_iald dX11_judge_121 rfl hb ?_
      refine rj_bipush (v := 12) dX11_judge_122 (by decide) ?_
      refine rj_irem dX11_judge_124 (by decide) ?_
      obtain ⟨V1, V2⟩ := V
      refine rj_icmp_eq (tgt := 132) dX11_judge_125 (by decide) (fun hc => ?_) (fun hc => ?_)
      · have V := V1 hc
        refine rj_iincV (c := 1) (fun y => [(0, .ref 59), (1, .int v1), (3, .int y)]) dX11_judge_132 2 rfl (by decide) (by decide) rfl (fun _ => rfl) (fun x1 ex1 => ?_)
        have V := V x1 ex1
        refine rj_goto (tgt := 87) dX11_judge_135 (by decide) ?_
        exact rs_sub [0, 1, 2] rfl V
      · have V := V2 hc
        refine rj_iconst (v := 1) dX11_judge_128 (by decide) ?_
        refine rj_iload_n dX11_judge_129 2 rfl rfl ?_
        refine rj_iadd dX11_judge_130 ?_
        exact rm_iret dX11_judge_131 rfl rfl V
-- X11_image
set_option maxRecDepth 100000 in
set_option maxHeartbeats 4000000 in
theorem vX11_image_0 {w : Wd} {h : Nat}   (M : Mem) (Q : Option Value → Mem → Prop) (V : RM w h kX11_image 2 [(0, .ref 59), (1, .int 0)] [] M Q) : RM w h kX11_image 0 [(0, .ref 59)] [] M Q := by
  refine rj_iconst (v := 0) dX11_image_0 (by decide) ?_
  refine rj_istore_n (lv' := [(0, .ref 59), (1, .int 0)]) dX11_image_1 rfl (by decide) rfl rfl ?_
  exact rs_sub [0, 1] rfl V
set_option maxRecDepth 100000 in
set_option maxHeartbeats 4000000 in
theorem vX11_image_2 {w : Wd} {h : Nat} (v1 : Int32)  (M : Mem) (Q : Option Value → Mem → Prop) (V : ((666 ≤ v1 → (∀ M1 : Mem, M1 = mset M 59 2 1 → (Q (some (.int 1)) M1))) ∧ (¬ (666 ≤ v1) → (vp_in v1 666 ∧ (vp_in v1 666 ∧ ∀ M1 : Mem, M1 = mset M 61 (Int32.toNatClampNeg v1) (M 60 (Int32.toNatClampNeg v1)) → (∀ x1 : Int32, x1 = v1 + 1 → RM w h kX11_image 2 [(0, .ref 59), (1, .int x1)] [] M1 Q)))))) : RM w h kX11_image 2 [(0, .ref 59), (1, .int v1)] [] M Q := by
  refine rj_iload_n dX11_image_2 1 rfl rfl ?_
  refine rj_sipush (v := 666) dX11_image_3 (by decide) ?_
  obtain ⟨V1, V2⟩ := V
  refine rj_icmp_ge (tgt := 27) dX11_image_6 (by decide) (fun hc => ?_) (fun hc => ?_)
  · have V := V1 hc
    refine rj_aload_n dX11_image_27 0 rfl rfl ?_
    refine rj_iconst (v := 1) dX11_image_28 (by decide) ?_
    refine rs_putI fl_RX11_297 (ft11_2 _ nofun) rfl (by decide) (by decide) rfl dX11_image_29 rfl rfl rfl (fun M1 eM1 => ?_)
    have V := V M1 eM1
    refine rj_iconst (v := 1) dX11_image_32 (by decide) ?_
    exact rm_iret dX11_image_33 rfl rfl V
  · have V := V2 hc
    refine rj_aload_n dX11_image_9 0 rfl rfl ?_
    refine rs_getR (t := 61) fl_RX11_13 rfl (by decide) (by decide) rfl dX11_image_10 rfl (by omega) ?_
    refine rj_iload_n dX11_image_13 1 rfl rfl ?_
    refine rj_aload_n dX11_image_14 0 rfl rfl ?_
    refine rs_getR (t := 60) fl_RX11_9 rfl (by decide) (by decide) rfl dX11_image_15 rfl (by omega) ?_
    refine rj_iload_n dX11_image_18 1 rfl rfl ?_
    obtain ⟨hb, V⟩ := V
    refine rs_iald dX11_image_19 rfl hb ?_
    obtain ⟨hb, V⟩ := V
    refine rs_iast dX11_image_20 rfl hb (fun M1 eM1 => ?_)
    have V := V M1 eM1
    refine rj_iincV (c := 1) (fun y => [(0, .ref 59), (1, .int y)]) dX11_image_21 1 rfl (by decide) (by decide) rfl (fun _ => rfl) (fun x1 ex1 => ?_)
    have V := V x1 ex1
    refine rj_goto (tgt := 2) dX11_image_24 (by decide) ?_
    exact rs_sub [0, 1] rfl V
-- X11_undo
set_option maxRecDepth 100000 in
set_option maxHeartbeats 4000000 in
theorem vX11_undo_0 {w : Wd} {h : Nat}   (M : Mem) (Q : Option Value → Mem → Prop) (V : ((¬ ((M 59 2) = 0) → RM w (h + 1) kX11_undo 16 [(0, .ref 59), (1, .int 0)] [] M Q) ∧ ((M 59 2) = 0 → (CSi w h kX11_finds [.ref 59, .int (-1000004)] M (fun r1 M1 => (Q (some (.int r1)) M1)))))) : RM w (h + 1) kX11_undo 0 [(0, .ref 59)] [] M Q := by
  refine rj_aload_n dX11_undo_0 0 rfl rfl ?_
  refine rs_getI fl_RX11_297 rfl (by decide) (by decide) rfl dX11_undo_1 rfl ?_
  obtain ⟨V1, V2⟩ := V
  refine rj_if_ne (tgt := 14) dX11_undo_4 (by decide) (fun hc => ?_) (fun hc => ?_)
  · have V := V1 hc
    refine rj_iconst (v := 0) dX11_undo_14 (by decide) ?_
    refine rj_istore_n (lv' := [(0, .ref 59), (1, .int 0)]) dX11_undo_15 rfl (by decide) rfl rfl ?_
    exact rs_sub [0, 1] rfl V
  · have V := V2 hc
    refine rj_aload_n dX11_undo_7 0 rfl rfl ?_
    refine rj_ldc (v := (-1000004)) rfl kc_RX11_126 dX11_undo_8 ?_
    refine rm_callVi [.int (-1000004)] (rest := []) ml_RX11_94 mvX11_finds rfl dX11_undo_10 rfl rfl rfl rfl rfl (Nat.le_of_ble_eq_true rfl) (by decide) V (fun r1 M1 V => ?_)
    exact rm_iret dX11_undo_13 rfl rfl V
set_option maxRecDepth 100000 in
set_option maxHeartbeats 4000000 in
theorem vX11_undo_16 {w : Wd} {h : Nat} (v1 : Int32)  (M : Mem) (Q : Option Value → Mem → Prop) (V : ((666 ≤ v1 → (CSi w h kX11_drops [.ref 59] M (fun r1 M1 => (Q (some (.int r1)) M1)))) ∧ (¬ (666 ≤ v1) → (vp_in v1 666 ∧ (vp_in v1 666 ∧ ∀ M1 : Mem, M1 = mset M 60 (Int32.toNatClampNeg v1) (M 61 (Int32.toNatClampNeg v1)) → (∀ x1 : Int32, x1 = v1 + 1 → RM w (h + 1) kX11_undo 16 [(0, .ref 59), (1, .int x1)] [] M1 Q)))))) : RM w (h + 1) kX11_undo 16 [(0, .ref 59), (1, .int v1)] [] M Q := by
  refine rj_iload_n dX11_undo_16 1 rfl rfl ?_
  refine rj_sipush (v := 666) dX11_undo_17 (by decide) ?_
  obtain ⟨V1, V2⟩ := V
  refine rj_icmp_ge (tgt := 41) dX11_undo_20 (by decide) (fun hc => ?_) (fun hc => ?_)
  · have V := V1 hc
    refine rj_aload_n dX11_undo_41 0 rfl rfl ?_
    refine rm_callVi [] (rest := []) ml_RX11_165 mvX11_drops rfl dX11_undo_42 rfl rfl rfl rfl rfl (Nat.le_of_ble_eq_true rfl) (by decide) V (fun r1 M1 V => ?_)
    exact rm_iret dX11_undo_45 rfl rfl V
  · have V := V2 hc
    refine rj_aload_n dX11_undo_23 0 rfl rfl ?_
    refine rs_getR (t := 60) fl_RX11_9 rfl (by decide) (by decide) rfl dX11_undo_24 rfl (by omega) ?_
    refine rj_iload_n dX11_undo_27 1 rfl rfl ?_
    refine rj_aload_n dX11_undo_28 0 rfl rfl ?_
    refine rs_getR (t := 61) fl_RX11_13 rfl (by decide) (by decide) rfl dX11_undo_29 rfl (by omega) ?_
    refine rj_iload_n dX11_undo_32 1 rfl rfl ?_
    obtain ⟨hb, V⟩ := V
    refine rs_iald dX11_undo_33 rfl hb ?_
    obtain ⟨hb, V⟩ := V
    refine rs_iast dX11_undo_34 rfl hb (fun M1 eM1 => ?_)
    have V := V M1 eM1
    refine rj_iincV (c := 1) (fun y => [(0, .ref 59), (1, .int y)]) dX11_undo_35 1 rfl (by decide) (by decide) rfl (fun _ => rfl) (fun x1 ex1 => ?_)
    have V := V x1 ex1
    refine rj_goto (tgt := 16) dX11_undo_38 (by decide) ?_
    exact rs_sub [0, 1] rfl V
-- X11_tear
set_option maxRecDepth 100000 in
set_option maxHeartbeats 4000000 in
theorem vX11_tear_0 {w : Wd} {h : Nat}   (M : Mem) (Q : Option Value → Mem → Prop) (V : (∀ x1 : Int32, x1 = (b2i (¬ ((M 59 2) = 0))) → (∀ M1 : Mem, M1 = mset M 59 2 0 → (Q (some (.int x1)) M1)))) : RM w h kX11_tear 0 [(0, .ref 59)] [] M Q := by
  refine rj_aload_n dX11_tear_0 0 rfl rfl ?_
  refine rs_getI fl_RX11_297 rfl (by decide) (by decide) rfl dX11_tear_1 rfl ?_
  have KD : RM w h kX11_tear 12 [(0, .ref 59)] [.int (b2i (¬ ((M 59 2) = 0)))] M Q := by
    refine rj_top (fun x1 ex1 => ?_)
    have V := V x1 ex1
    refine rj_istore_n (lv' := [(0, .ref 59), (1, .int x1)]) dX11_tear_12 rfl (by decide) rfl rfl ?_
    refine rj_aload_n dX11_tear_13 0 rfl rfl ?_
    refine rj_iconst (v := 0) dX11_tear_14 (by decide) ?_
    refine rs_putI fl_RX11_297 (ft11_2 _ nofun) rfl (by decide) (by decide) rfl dX11_tear_15 rfl rfl rfl (fun M1 eM1 => ?_)
    have V := V M1 eM1
    refine rj_iload_n dX11_tear_18 1 rfl rfl ?_
    exact rm_iret dX11_tear_19 rfl rfl V
  refine rj_if_eq (tgt := 11) dX11_tear_4 (by decide) (fun hc => ?_) (fun hc => ?_)
  · refine rj_iconst (v := 0) dX11_tear_11 (by decide) ?_
    exact rs_b0 (fun q => q hc) KD
  · refine rj_iconst (v := 1) dX11_tear_7 (by decide) ?_
    refine rj_goto (tgt := 12) dX11_tear_8 (by decide) ?_
    exact rs_b1 hc KD
-- X11_count
set_option maxRecDepth 100000 in
set_option maxHeartbeats 4000000 in
theorem vX11_count_0 {w : Wd} {h : Nat} (a0 : Int32)  (M : Mem) (Q : Option Value → Mem → Prop) (V : ((a0 = 0 → (CSi w h kX11_drops [.ref 59] M (fun r1 M1 => (Q (some (.int r1)) M1)))) ∧ (¬ a0 = 0 → ((a0 = 1 → RM w (h + 1) kX11_count 55 [(0, .ref 59), (2, .int 0), (3, .int 0)] [] M Q) ∧ (¬ a0 = 1 → ((a0 = 2 → RM w (h + 1) kX11_count 92 [(0, .ref 59), (2, .int 0), (3, .int 0)] [] M Q) ∧ (¬ a0 = 2 → ((a0 = 3 → (CSi w h kX11_dirty [.ref 59] M (fun r1 M1 => (Q (some (.int r1)) M1)))) ∧ (¬ a0 = 3 → ((a0 = 4 → (vp_in 5 666 ∧ (Q (some (.int (M 60 (Int32.toNatClampNeg 5)))) M))) ∧ (¬ a0 = 4 → ((a0 = 5 → (Q (some (.int (M 59 6))) M)) ∧ (¬ a0 = 5 → ((a0 = 6 → (vp_in 3 666 ∧ (Q (some (.int (M 60 (Int32.toNatClampNeg 3)))) M))) ∧ (¬ a0 = 6 → ((a0 = 7 → (vp_in 4 666 ∧ (Q (some (.int (M 60 (Int32.toNatClampNeg 4)))) M))) ∧ (¬ a0 = 7 → (CSi w h kX11_finds [.ref 59, .int (-1000001)] M (fun r1 M1 => (Q (some (.int r1)) M1)))))))))))))))))))) : RM w (h + 1) kX11_count 0 [(0, .ref 59), (1, .int a0)] [] M Q := by
  refine rj_iconst (v := 0) dX11_count_0 (by decide) ?_
  refine rj_istore_n (lv' := [(0, .ref 59), (1, .int a0), (2, .int 0)]) dX11_count_1 rfl (by decide) rfl rfl ?_
  refine rj_iload_n dX11_count_2 1 rfl rfl ?_
  obtain ⟨V1, V2⟩ := V
  by_cases w0 : a0 = 0
  · have V := V1 w0
    refine rs_at w0 ?_
    refine rj_tableIn (off := 45) (tgt := 48) dX11_count_3 (by decide) (by decide) (by decide) (by decide) ?_
    refine rj_aload_n dX11_count_48 0 rfl rfl ?_
    refine rm_callVi [] (rest := []) ml_RX11_165 mvX11_drops rfl dX11_count_49 rfl rfl rfl rfl rfl (Nat.le_of_ble_eq_true rfl) (by decide) V (fun r1 M1 V => ?_)
    exact rm_iret dX11_count_52 rfl rfl V
  · have V := V2 w0
    obtain ⟨V1, V2⟩ := V
    by_cases w1 : a0 = 1
    · have V := V1 w1
      refine rs_at w1 ?_
      refine rj_tableIn (off := 50) (tgt := 53) dX11_count_3 (by decide) (by decide) (by decide) (by decide) ?_
      refine rj_iconst (v := 0) dX11_count_53 (by decide) ?_
      refine rj_istore_n (lv' := [(0, .ref 59), (1, .int a0), (2, .int 0), (3, .int 0)]) dX11_count_54 rfl (by decide) rfl rfl ?_
      exact rs_sub [0, 2, 3] rfl V
    · have V := V2 w1
      obtain ⟨V1, V2⟩ := V
      by_cases w2 : a0 = 2
      · have V := V1 w2
        refine rs_at w2 ?_
        refine rj_tableIn (off := 87) (tgt := 90) dX11_count_3 (by decide) (by decide) (by decide) (by decide) ?_
        refine rj_iconst (v := 0) dX11_count_90 (by decide) ?_
        refine rj_istore_n (lv' := [(0, .ref 59), (1, .int a0), (2, .int 0), (3, .int 0)]) dX11_count_91 rfl (by decide) rfl rfl ?_
        exact rs_sub [0, 2, 3] rfl V
      · have V := V2 w2
        obtain ⟨V1, V2⟩ := V
        by_cases w3 : a0 = 3
        · have V := V1 w3
          refine rs_at w3 ?_
          refine rj_tableIn (off := 125) (tgt := 128) dX11_count_3 (by decide) (by decide) (by decide) (by decide) ?_
          refine rj_aload_n dX11_count_128 0 rfl rfl ?_
          refine rm_callVi [] (rest := []) ml_RX11_115 mvX11_dirty rfl dX11_count_129 rfl rfl rfl rfl rfl (Nat.le_of_ble_eq_true rfl) (by decide) V (fun r1 M1 V => ?_)
          exact rm_iret dX11_count_132 rfl rfl V
        · have V := V2 w3
          obtain ⟨V1, V2⟩ := V
          by_cases w4 : a0 = 4
          · have V := V1 w4
            refine rs_at w4 ?_
            refine rj_tableIn (off := 130) (tgt := 133) dX11_count_3 (by decide) (by decide) (by decide) (by decide) ?_
            refine rj_aload_n dX11_count_133 0 rfl rfl ?_
            refine rs_getR (t := 60) fl_RX11_9 rfl (by decide) (by decide) rfl dX11_count_134 rfl (by omega) ?_
            refine rj_iconst (v := 5) dX11_count_137 (by decide) ?_
            obtain ⟨hb, V⟩ := V
            refine rs_iald dX11_count_138 rfl hb ?_
            exact rm_iret dX11_count_139 rfl rfl V
          · have V := V2 w4
            obtain ⟨V1, V2⟩ := V
            by_cases w5 : a0 = 5
            · have V := V1 w5
              refine rs_at w5 ?_
              refine rj_tableIn (off := 137) (tgt := 140) dX11_count_3 (by decide) (by decide) (by decide) (by decide) ?_
              refine rj_aload_n dX11_count_140 0 rfl rfl ?_
              refine rs_getI fl_RX11_172 rfl (by decide) (by decide) rfl dX11_count_141 rfl ?_
              exact rm_iret dX11_count_144 rfl rfl V
            · have V := V2 w5
              obtain ⟨V1, V2⟩ := V
              by_cases w6 : a0 = 6
              · have V := V1 w6
                refine rs_at w6 ?_
                refine rj_tableIn (off := 142) (tgt := 145) dX11_count_3 (by decide) (by decide) (by decide) (by decide) ?_
                refine rj_aload_n dX11_count_145 0 rfl rfl ?_
                refine rs_getR (t := 60) fl_RX11_9 rfl (by decide) (by decide) rfl dX11_count_146 rfl (by omega) ?_
                refine rj_iconst (v := 3) dX11_count_149 (by decide) ?_
                obtain ⟨hb, V⟩ := V
                refine rs_iald dX11_count_150 rfl hb ?_
                exact rm_iret dX11_count_151 rfl rfl V
              · have V := V2 w6
                obtain ⟨V1, V2⟩ := V
                by_cases w7 : a0 = 7
                · have V := V1 w7
                  refine rs_at w7 ?_
                  refine rj_tableIn (off := 149) (tgt := 152) dX11_count_3 (by decide) (by decide) (by decide) (by decide) ?_
                  refine rj_aload_n dX11_count_152 0 rfl rfl ?_
                  refine rs_getR (t := 60) fl_RX11_9 rfl (by decide) (by decide) rfl dX11_count_153 rfl (by omega) ?_
                  refine rj_iconst (v := 4) dX11_count_156 (by decide) ?_
                  obtain ⟨hb, V⟩ := V
                  refine rs_iald dX11_count_157 rfl hb ?_
                  exact rm_iret dX11_count_158 rfl rfl V
                · have V := V2 w7
                  refine rj_tableOut (tgt := 159) dX11_count_3 (by have n0 := lv_neT (a := 0) w0 (by decide); have n1 := lv_neT (a := 1) w1 (by decide); have n2 := lv_neT (a := 2) w2 (by decide); have n3 := lv_neT (a := 3) w3 (by decide); have n4 := lv_neT (a := 4) w4 (by decide); have n5 := lv_neT (a := 5) w5 (by decide); have n6 := lv_neT (a := 6) w6 (by decide); have n7 := lv_neT (a := 7) w7 (by decide); omega) (by decide) ?_
                  refine rj_aload_n dX11_count_159 0 rfl rfl ?_
                  refine rj_ldc (v := (-1000001)) rfl kc_RX11_40 dX11_count_160 ?_
                  refine rm_callVi [.int (-1000001)] (rest := []) ml_RX11_94 mvX11_finds rfl dX11_count_162 rfl rfl rfl rfl rfl (Nat.le_of_ble_eq_true rfl) (by decide) V (fun r1 M1 V => ?_)
                  exact rm_iret dX11_count_165 rfl rfl V
set_option maxRecDepth 100000 in
set_option maxHeartbeats 4000000 in
theorem vX11_count_55 {w : Wd} {h : Nat} (v2 : Int32) (v3 : Int32)  (M : Mem) (Q : Option Value → Mem → Prop) (V : ((8 ≤ v3 → (Q (some (.int v2)) M)) ∧ (¬ (8 ≤ v3) → (CSi w h kX11_isDrop [.ref 59, .int v3] M (fun r1 M1 => ((r1 = 0 → (∀ x1 : Int32, x1 = (v2 + 0) → (∀ x2 : Int32, x2 = v3 + 1 → RM w (h + 1) kX11_count 55 [(0, .ref 59), (2, .int x1), (3, .int x2)] [] M1 Q))) ∧ (¬ (r1 = 0) → (CSi w h kX11_of [.ref 59, .int v3, .int 2] M1 (fun r2 M2 => (∀ x1 : Int32, x1 = (v2 + r2) → (∀ x2 : Int32, x2 = v3 + 1 → RM w (h + 1) kX11_count 55 [(0, .ref 59), (2, .int x1), (3, .int x2)] [] M2 Q))))))))))) : RM w (h + 1) kX11_count 55 [(0, .ref 59), (2, .int v2), (3, .int v3)] [] M Q := by
  refine rj_iload_n dX11_count_55 2 rfl rfl ?_
  refine rj_bipush (v := 8) dX11_count_56 (by decide) ?_
  obtain ⟨V1, V2⟩ := V
  refine rj_icmp_ge (tgt := 88) dX11_count_58 (by decide) (fun hc => ?_) (fun hc => ?_)
  · have V := V1 hc
    refine rj_iload_n dX11_count_88 1 rfl rfl ?_
    exact rm_iret dX11_count_89 rfl rfl V
  · have V := V2 hc
    refine rj_iload_n dX11_count_61 1 rfl rfl ?_
    refine rj_aload_n dX11_count_62 0 rfl rfl ?_
    refine rj_iload_n dX11_count_63 2 rfl rfl ?_
    refine rm_callVi [.int v3] (rest := [.int v2]) ml_RX11_137 mvX11_isDrop rfl dX11_count_64 rfl rfl rfl rfl rfl (Nat.le_of_ble_eq_true rfl) (by decide) V (fun r1 M1 V => ?_)
    obtain ⟨V1, V2⟩ := V
    refine rj_if_eq (tgt := 79) dX11_count_67 (by decide) (fun hc => ?_) (fun hc => ?_)
    · have V := V1 hc
      refine rj_iconst (v := 0) dX11_count_79 (by decide) ?_
      refine rj_iadd dX11_count_80 ?_
      refine rj_top (fun x1 ex1 => ?_)
      have V := V x1 ex1
      refine rj_istore_n (lv' := [(0, .ref 59), (2, .int x1), (3, .int v3)]) dX11_count_81 rfl (by decide) rfl rfl ?_
      refine rj_iincV (c := 1) (fun y => [(0, .ref 59), (2, .int x1), (3, .int y)]) dX11_count_82 2 rfl (by decide) (by decide) rfl (fun _ => rfl) (fun x2 ex2 => ?_)
      have V := V x2 ex2
      refine rj_goto (tgt := 55) dX11_count_85 (by decide) ?_
      exact rs_sub [0, 1, 2] rfl V
    · have V := V2 hc
      refine rj_aload_n dX11_count_70 0 rfl rfl ?_
      refine rj_iload_n dX11_count_71 2 rfl rfl ?_
      refine rj_iconst (v := 2) dX11_count_72 (by decide) ?_
      refine rm_callVi [.int v3, .int 2] (rest := [.int v2]) ml_RX11_53 mvX11_of rfl dX11_count_73 rfl rfl rfl rfl rfl (Nat.le_of_ble_eq_true rfl) (by decide) V (fun r2 M2 V => ?_)
      refine rj_goto (tgt := 80) dX11_count_76 (by decide) ?_
      refine rj_iadd dX11_count_80 ?_
      refine rj_top (fun x1 ex1 => ?_)
      have V := V x1 ex1
      refine rj_istore_n (lv' := [(0, .ref 59), (2, .int x1), (3, .int v3)]) dX11_count_81 rfl (by decide) rfl rfl ?_
      refine rj_iincV (c := 1) (fun y => [(0, .ref 59), (2, .int x1), (3, .int y)]) dX11_count_82 2 rfl (by decide) (by decide) rfl (fun _ => rfl) (fun x2 ex2 => ?_)
      have V := V x2 ex2
      refine rj_goto (tgt := 55) dX11_count_85 (by decide) ?_
      exact rs_sub [0, 1, 2] rfl V
set_option maxRecDepth 100000 in
set_option maxHeartbeats 4000000 in
theorem vX11_count_92 {w : Wd} {h : Nat} (v2 : Int32) (v3 : Int32)  (M : Mem) (Q : Option Value → Mem → Prop) (V : ((192 ≤ v3 → (Q (some (.int v2)) M)) ∧ (¬ (192 ≤ v3) → (vp_in (210 + v3) 666 ∧ (∀ x1 : Int32, x1 = (v2 + (b2i (¬ ((M 60 (Int32.toNatClampNeg (210 + v3))) ≤ 0)))) → (∀ x2 : Int32, x2 = v3 + 1 → RM w (h + 1) kX11_count 92 [(0, .ref 59), (2, .int x1), (3, .int x2)] [] M Q)))))) : RM w (h + 1) kX11_count 92 [(0, .ref 59), (2, .int v2), (3, .int v3)] [] M Q := by
  refine rj_iload_n dX11_count_92 2 rfl rfl ?_
  refine rj_sipush (v := 192) dX11_count_93 (by decide) ?_
  obtain ⟨V1, V2⟩ := V
  refine rj_icmp_ge (tgt := 126) dX11_count_96 (by decide) (fun hc => ?_) (fun hc => ?_)
  · have V := V1 hc
    refine rj_iload_n dX11_count_126 1 rfl rfl ?_
    exact rm_iret dX11_count_127 rfl rfl V
  · have V := V2 hc
    refine rj_iload_n dX11_count_99 1 rfl rfl ?_
    refine rj_aload_n dX11_count_100 0 rfl rfl ?_
    refine rs_getR (t := 60) fl_RX11_9 rfl (by decide) (by decide) rfl dX11_count_101 rfl (by omega) ?_
    refine rj_sipush (v := 210) dX11_count_104 (by decide) ?_
    refine rj_iload_n dX11_count_107 2 rfl rfl ?_
    refine rj_iadd dX11_count_108 ?_
    obtain ⟨hb, V⟩ := V
    refine rs_iald dX11_count_109 rfl hb ?_
    have KD : RM w (h + 1) kX11_count 118 [(0, .ref 59), (2, .int v2), (3, .int v3)] [.int (b2i (¬ ((M 60 (Int32.toNatClampNeg (210 + v3))) ≤ 0))), .int v2] M Q := by
      refine rj_iadd dX11_count_118 ?_
      refine rj_top (fun x1 ex1 => ?_)
      have V := V x1 ex1
      refine rj_istore_n (lv' := [(0, .ref 59), (2, .int x1), (3, .int v3)]) dX11_count_119 rfl (by decide) rfl rfl ?_
      refine rj_iincV (c := 1) (fun y => [(0, .ref 59), (2, .int x1), (3, .int y)]) dX11_count_120 2 rfl (by decide) (by decide) rfl (fun _ => rfl) (fun x2 ex2 => ?_)
      have V := V x2 ex2
      refine rj_goto (tgt := 92) dX11_count_123 (by decide) ?_
      exact rs_sub [0, 1, 2] rfl V
    refine rj_if_le (tgt := 117) dX11_count_110 (by decide) (fun hc => ?_) (fun hc => ?_)
    · refine rj_iconst (v := 0) dX11_count_117 (by decide) ?_
      exact rs_b0 (fun q => q hc) KD
    · refine rj_iconst (v := 1) dX11_count_113 (by decide) ?_
      refine rj_goto (tgt := 118) dX11_count_114 (by decide) ?_
      exact rs_b1 hc KD
-- X11_status
set_option maxRecDepth 100000 in
set_option maxHeartbeats 4000000 in
theorem vX11_status_0 {w : Wd} {h : Nat} (a0 : Int32)  (M : Mem) (Q : Option Value → Mem → Prop) (V : (((((-1) : Int32) ≤ a0 ∧ a0 ≤ (6 : Int32)) → RM w (h + 1) kX11_status 25 [(0, .ref 59), (1, .int a0), (2, .int 0), (3, .int 0)] [] M Q) ∧ (¬ ((((-1) : Int32) ≤ a0 ∧ a0 ≤ (6 : Int32))) → (CSi w h kX11_finds [.ref 59, .int (-1000001)] M (fun r1 M1 => (Q (some (.int r1)) M1)))))) : RM w (h + 1) kX11_status 0 [(0, .ref 59), (1, .int a0)] [] M Q := by
  refine rj_iload_n dX11_status_0 1 rfl rfl ?_
  refine rj_i2l dX11_status_1 ?_
  refine rj_ldc2 (v := (-1)) rfl kl_RX11_168 dX11_status_2 ?_
  refine rj_ldc2 (v := 6) rfl kl_RX11_300 dX11_status_5 ?_
  refine rm_callSi [.long (Int32.toInt64 a0), .long (-1), .long 6] (rest := []) (K := fun x M' => b2i (((-1) : Int32) ≤ a0 ∧ a0 ≤ (6 : Int32)) = x ∧ M = M') ml_RX11_43 mtX11_in rfl dX11_status_8 rfl rfl (Nat.le_of_ble_eq_true rfl) (by decide) (uX11_in (a0) ((-1)) (6) (by decide) (by decide) ⟨rfl, rfl⟩) (fun x M' hx => ?_)
  obtain ⟨rfl, rfl⟩ := hx
  obtain ⟨V1, V2⟩ := V
  refine rs_if_neB (tgt := 21) dX11_status_11 (by decide) (fun hc => ?_) (fun hc => ?_)
  · have V := V1 hc
    refine rj_iconst (v := 0) dX11_status_21 (by decide) ?_
    refine rj_istore_n (lv' := [(0, .ref 59), (1, .int a0), (2, .int 0)]) dX11_status_22 rfl (by decide) rfl rfl ?_
    refine rj_iconst (v := 0) dX11_status_23 (by decide) ?_
    refine rj_istore_n (lv' := [(0, .ref 59), (1, .int a0), (2, .int 0), (3, .int 0)]) dX11_status_24 rfl (by decide) rfl rfl ?_
    exact rs_sub [0, 1, 2, 3] rfl V
  · have V := V2 hc
    refine rj_aload_n dX11_status_14 0 rfl rfl ?_
    refine rj_ldc (v := (-1000001)) rfl kc_RX11_40 dX11_status_15 ?_
    refine rm_callVi [.int (-1000001)] (rest := []) ml_RX11_94 mvX11_finds rfl dX11_status_17 rfl rfl rfl rfl rfl (Nat.le_of_ble_eq_true rfl) (by decide) V (fun r1 M1 V => ?_)
    exact rm_iret dX11_status_20 rfl rfl V
set_option maxRecDepth 100000 in
set_option maxHeartbeats 4000000 in
theorem vX11_status_25 {w : Wd} {h : Nat} (v1 : Int32) (v2 : Int32) (v3 : Int32)  (M : Mem) (Q : Option Value → Mem → Prop) (V : ((7 ≤ v3 → (Q (some (.int v2)) M)) ∧ (¬ (7 ≤ v3) → ((v1 < 0 → (vp_in v3 7 ∧ (∀ x1 : Int32, x1 = (v2 + (M 62 (Int32.toNatClampNeg v3))) → (∀ x2 : Int32, x2 = v3 + 1 → RM w (h + 1) kX11_status 25 [(0, .ref 59), (1, .int v1), (2, .int x1), (3, .int x2)] [] M Q)))) ∧ (¬ (v1 < 0) → ((¬ (v1 = v3) → (∀ x1 : Int32, x1 = (v2 + 0) → (∀ x2 : Int32, x2 = v3 + 1 → RM w (h + 1) kX11_status 25 [(0, .ref 59), (1, .int v1), (2, .int x1), (3, .int x2)] [] M Q))) ∧ (v1 = v3 → (vp_in v3 7 ∧ (∀ x1 : Int32, x1 = (v2 + (M 62 (Int32.toNatClampNeg v3))) → (∀ x2 : Int32, x2 = v3 + 1 → RM w (h + 1) kX11_status 25 [(0, .ref 59), (1, .int v1), (2, .int x1), (3, .int x2)] [] M Q)))))))))) : RM w (h + 1) kX11_status 25 [(0, .ref 59), (1, .int v1), (2, .int v2), (3, .int v3)] [] M Q := by
  refine rj_iload_n dX11_status_25 3 rfl rfl ?_
  refine rj_bipush (v := 7) dX11_status_26 (by decide) ?_
  obtain ⟨V1, V2⟩ := V
  refine rj_icmp_ge (tgt := 59) dX11_status_28 (by decide) (fun hc => ?_) (fun hc => ?_)
  · have V := V1 hc
    refine rj_iload_n dX11_status_59 2 rfl rfl ?_
    exact rm_iret dX11_status_60 rfl rfl V
  · have V := V2 hc
    refine rj_iload_n dX11_status_31 2 rfl rfl ?_
    refine rj_iload_n dX11_status_32 1 rfl rfl ?_
    obtain ⟨V1, V2⟩ := V
    refine rj_if_lt (tgt := 41) dX11_status_33 (by decide) (fun hc => ?_) (fun hc => ?_)
    · have V := V1 hc
      refine rj_aload_n dX11_status_41 0 rfl rfl ?_
      refine rs_getR (t := 62) fl_RX11_16 rfl (by decide) (by decide) rfl dX11_status_42 rfl (by omega) ?_
      refine rj_iload_n dX11_status_45 3 rfl rfl ?_
      obtain ⟨hb, V⟩ := V
      refine rs_iald dX11_status_46 rfl hb ?_
      refine rj_goto (tgt := 51) dX11_status_47 (by decide) ?_
      refine rj_iadd dX11_status_51 ?_
      refine rj_top (fun x1 ex1 => ?_)
      have V := V x1 ex1
      refine rj_istore_n (lv' := [(0, .ref 59), (1, .int v1), (2, .int x1), (3, .int v3)]) dX11_status_52 rfl (by decide) rfl rfl ?_
      refine rj_iincV (c := 1) (fun y => [(0, .ref 59), (1, .int v1), (2, .int x1), (3, .int y)]) dX11_status_53 3 rfl (by decide) (by decide) rfl (fun _ => rfl) (fun x2 ex2 => ?_)
      have V := V x2 ex2
      refine rj_goto (tgt := 25) dX11_status_56 (by decide) ?_
      exact rs_sub [0, 1, 2, 3] rfl V
    · have V := V2 hc
      refine rj_iload_n dX11_status_36 1 rfl rfl ?_
      refine rj_iload_n dX11_status_37 3 rfl rfl ?_
      obtain ⟨V1, V2⟩ := V
      refine rj_icmp_ne (tgt := 50) dX11_status_38 (by decide) (fun hc => ?_) (fun hc => ?_)
      · have V := V1 hc
        refine rj_iconst (v := 0) dX11_status_50 (by decide) ?_
        refine rj_iadd dX11_status_51 ?_
        refine rj_top (fun x1 ex1 => ?_)
        have V := V x1 ex1
        refine rj_istore_n (lv' := [(0, .ref 59), (1, .int v1), (2, .int x1), (3, .int v3)]) dX11_status_52 rfl (by decide) rfl rfl ?_
        refine rj_iincV (c := 1) (fun y => [(0, .ref 59), (1, .int v1), (2, .int x1), (3, .int y)]) dX11_status_53 3 rfl (by decide) (by decide) rfl (fun _ => rfl) (fun x2 ex2 => ?_)
        have V := V x2 ex2
        refine rj_goto (tgt := 25) dX11_status_56 (by decide) ?_
        exact rs_sub [0, 1, 2, 3] rfl V
      · have V := V2 hc
        refine rj_aload_n dX11_status_41 0 rfl rfl ?_
        refine rs_getR (t := 62) fl_RX11_16 rfl (by decide) (by decide) rfl dX11_status_42 rfl (by omega) ?_
        refine rj_iload_n dX11_status_45 3 rfl rfl ?_
        obtain ⟨hb, V⟩ := V
        refine rs_iald dX11_status_46 rfl hb ?_
        refine rj_goto (tgt := 51) dX11_status_47 (by decide) ?_
        refine rj_iadd dX11_status_51 ?_
        refine rj_top (fun x1 ex1 => ?_)
        have V := V x1 ex1
        refine rj_istore_n (lv' := [(0, .ref 59), (1, .int v1), (2, .int x1), (3, .int v3)]) dX11_status_52 rfl (by decide) rfl rfl ?_
        refine rj_iincV (c := 1) (fun y => [(0, .ref 59), (1, .int v1), (2, .int x1), (3, .int y)]) dX11_status_53 3 rfl (by decide) (by decide) rfl (fun _ => rfl) (fun x2 ex2 => ?_)
        have V := V x2 ex2
        refine rj_goto (tgt := 25) dX11_status_56 (by decide) ?_
        exact rs_sub [0, 1, 2, 3] rfl V

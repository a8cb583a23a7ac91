-- X10_cellOf
set_option maxRecDepth 100000 in
set_option maxHeartbeats 4000000 in
theorem vX10_cellOf_0 {w : Wd} {h : Nat} (hh : 1 ≤ h) (a0 : Int32) (a1 : Int32)  (M : Mem) (Q : Option Value → Mem → Prop) (V : ((¬ ((0 ≤ a0 ∧ a0 ≤ 191)) → (CSi w h kX1_tell [.ref 1, .int 0] M (fun r1 M1 => (Q (some (.int r1)) M1)))) ∧ ((0 ≤ a0 ∧ a0 ≤ 191) → ((((0 : Int32) ≤ a1 ∧ a1 ≤ (3 : Int32)) → ((a1 = 0 → (vp_in a0 192 ∧ (Q (some (.int (M 5 (Int32.toNatClampNeg a0)))) M))) ∧ (¬ a1 = 0 → ((a1 = 1 → (vp_in a0 192 ∧ (Q (some (.int (M 6 (Int32.toNatClampNeg a0)))) M))) ∧ (¬ a1 = 1 → ((a1 = 2 → (CSi w h kX2_holdOf [.ref 4, .int a0] M (fun r1 M1 => (Q (some (.int r1)) M1)))) ∧ (¬ a1 = 2 → (CSi w h kX0_leastOn [.ref 8, .int a0] M (fun r1 M1 => (Q (some (.int r1)) M1)))))))))) ∧ (¬ (((0 : Int32) ≤ a1 ∧ a1 ≤ (3 : Int32))) → (CSi w h kX1_tell [.ref 1, .int 0] M (fun r1 M1 => (Q (some (.int r1)) M1)))))))) : RM w (h + 1) kX10_cellOf 0 [(0, .ref 0), (1, .int a0), (2, .int a1)] [] M Q := by
  refine rj_iload_n dX10_cellOf_0 1 rfl rfl ?_
  refine rm_callSi [.int a0] (rest := []) (K := fun x M' => b2i (0 ≤ a0 ∧ a0 ≤ 191) = x ∧ M = M') ml_RX10_77 mtX10_isCell rfl dX10_cellOf_1 rfl rfl (Nat.le_of_ble_eq_true rfl) (by decide) (uX10_isCell (by omega) ⟨rfl, rfl⟩) (fun x M' hx => ?_)
  obtain ⟨rfl, rfl⟩ := hx
  obtain ⟨V1, V2⟩ := V
  refine rs_if_eqB (tgt := 16) dX10_cellOf_4 (by decide) (fun hc => ?_) (fun hc => ?_)
  · have V := V1 hc
    refine rj_aload_n dX10_cellOf_16 0 rfl rfl ?_
    refine rs_getR (t := 1) fl_RX10_12 rfl (by decide) (by decide) rfl dX10_cellOf_17 rfl (by omega) ?_
    refine rj_iconst (v := 0) dX10_cellOf_20 (by decide) ?_
    refine rm_callVi [.int 0] (rest := []) ml_RX10_85 mvX1_tell rfl dX10_cellOf_21 rfl rfl rfl rfl rfl (Nat.le_of_ble_eq_true rfl) (by decide) V (fun r1 M1 V => ?_)
    exact rm_iret dX10_cellOf_24 rfl rfl V
  · have V := V2 hc
    refine rj_iload_n dX10_cellOf_7 2 rfl rfl ?_
    refine rj_iconst (v := 0) dX10_cellOf_8 (by decide) ?_
    refine rj_iconst (v := 3) dX10_cellOf_9 (by decide) ?_
    refine rm_callSi [.int a1, .int 0, .int 3] (rest := []) (K := fun x M' => b2i ((0 : Int32) ≤ a1 ∧ a1 ≤ (3 : Int32)) = x ∧ M = M') ml_RX10_81 mtX10_isWithin rfl dX10_cellOf_10 rfl rfl (Nat.le_of_ble_eq_true rfl) (by decide) (uX10_isWithin ⟨rfl, rfl⟩) (fun x M' hx => ?_)
    obtain ⟨rfl, rfl⟩ := hx
    obtain ⟨V1, V2⟩ := V
    refine rs_if_neB (tgt := 25) dX10_cellOf_13 (by decide) (fun hc => ?_) (fun hc => ?_)
    · have V := V1 hc
      refine rj_iload_n dX10_cellOf_25 2 rfl rfl ?_
      obtain ⟨V1, V2⟩ := V
      by_cases w0 : a1 = 0
      · have V := V1 w0
        refine rs_at w0 ?_
        refine rj_tableIn (off := 26) (tgt := 52) dX10_cellOf_26 (by decide) (by decide) (by decide) (by decide) ?_
        refine rj_aload_n dX10_cellOf_52 0 rfl rfl ?_
        refine rs_getR (t := 3) fl_RX10_19 rfl (by decide) (by decide) rfl dX10_cellOf_53 rfl (by omega) ?_
        refine rs_getR (t := 4) fl_RX10_89 rfl (by decide) (by decide) rfl dX10_cellOf_56 rfl (by omega) ?_
        refine rs_getR (t := 5) fl_RX10_92 rfl (by decide) (by decide) rfl dX10_cellOf_59 rfl (by omega) ?_
        refine rj_iload_n dX10_cellOf_62 1 rfl rfl ?_
        obtain ⟨hb, V⟩ := V
        refine rs_iald dX10_cellOf_63 rfl hb ?_
        exact rm_iret dX10_cellOf_64 rfl rfl V
      · have V := V2 w0
        obtain ⟨V1, V2⟩ := V
        by_cases w1 : a1 = 1
        · have V := V1 w1
          refine rs_at w1 ?_
          refine rj_tableIn (off := 39) (tgt := 65) dX10_cellOf_26 (by decide) (by decide) (by decide) (by decide) ?_
          refine rj_aload_n dX10_cellOf_65 0 rfl rfl ?_
          refine rs_getR (t := 3) fl_RX10_19 rfl (by decide) (by decide) rfl dX10_cellOf_66 rfl (by omega) ?_
          refine rs_getR (t := 4) fl_RX10_89 rfl (by decide) (by decide) rfl dX10_cellOf_69 rfl (by omega) ?_
          refine rs_getR (t := 6) fl_RX10_96 rfl (by decide) (by decide) rfl dX10_cellOf_72 rfl (by omega) ?_
          refine rj_iload_n dX10_cellOf_75 1 rfl rfl ?_
          obtain ⟨hb, V⟩ := V
          refine rs_iald dX10_cellOf_76 rfl hb ?_
          exact rm_iret dX10_cellOf_77 rfl rfl V
        · have V := V2 w1
          obtain ⟨V1, V2⟩ := V
          by_cases w2 : a1 = 2
          · have V := V1 w2
            refine rs_at w2 ?_
            refine rj_tableIn (off := 52) (tgt := 78) dX10_cellOf_26 (by decide) (by decide) (by decide) (by decide) ?_
            refine rj_aload_n dX10_cellOf_78 0 rfl rfl ?_
            refine rs_getR (t := 3) fl_RX10_19 rfl (by decide) (by decide) rfl dX10_cellOf_79 rfl (by omega) ?_
            refine rs_getR (t := 4) fl_RX10_89 rfl (by decide) (by decide) rfl dX10_cellOf_82 rfl (by omega) ?_
            refine rj_iload_n dX10_cellOf_85 1 rfl rfl ?_
            refine rm_callVi [.int a0] (rest := []) ml_RX10_99 mvX2_holdOf rfl dX10_cellOf_86 rfl rfl rfl rfl rfl (Nat.le_of_ble_eq_true rfl) (by decide) V (fun r1 M1 V => ?_)
            exact rm_iret dX10_cellOf_89 rfl rfl V
          · have V := V2 w2
            refine rj_tableOut (tgt := 90) dX10_cellOf_26 (by have n0 := lv_neT (a := 0) w0 (by decide); have n1 := lv_neT (a := 1) w1 (by decide); have n2 := lv_neT (a := 2) w2 (by decide); omega) (by decide) ?_
            refine rj_aload_n dX10_cellOf_90 0 rfl rfl ?_
            refine rs_getR (t := 3) fl_RX10_19 rfl (by decide) (by decide) rfl dX10_cellOf_91 rfl (by omega) ?_
            refine rs_getR (t := 8) fl_RX10_102 rfl (by decide) (by decide) rfl dX10_cellOf_94 rfl (by omega) ?_
            refine rj_iload_n dX10_cellOf_97 1 rfl rfl ?_
            refine rm_callVi [.int a0] (rest := []) ml_RX10_106 mvX0_leastOn rfl dX10_cellOf_98 rfl rfl rfl rfl rfl (Nat.le_of_ble_eq_true rfl) (by decide) V (fun r1 M1 V => ?_)
            exact rm_iret dX10_cellOf_101 rfl rfl V
    · have V := V2 hc
      refine rj_aload_n dX10_cellOf_16 0 rfl rfl ?_
      refine rs_getR (t := 1) fl_RX10_12 rfl (by decide) (by decide) rfl dX10_cellOf_17 rfl (by omega) ?_
      refine rj_iconst (v := 0) dX10_cellOf_20 (by decide) ?_
      refine rm_callVi [.int 0] (rest := []) ml_RX10_85 mvX1_tell rfl dX10_cellOf_21 rfl rfl rfl rfl rfl (Nat.le_of_ble_eq_true rfl) (by decide) V (fun r1 M1 V => ?_)
      exact rm_iret dX10_cellOf_24 rfl rfl V
-- X10_dirt
set_option maxRecDepth 100000 in
set_option maxHeartbeats 4000000 in
theorem vX10_dirt_0 {w : Wd} {h : Nat} (hh : 1 ≤ h) (a0 : Int32) (a1 : Int32)  (M : Mem) (Q : Option Value → Mem → Prop) (V : ((¬ ((0 ≤ a0 ∧ a0 ≤ 191)) → (CSi w h kX1_tell [.ref 1, .int 0] M (fun r1 M1 => (Q (some (.int r1)) M1)))) ∧ ((0 ≤ a0 ∧ a0 ≤ 191) → ((((0 : Int32) ≤ a1 ∧ a1 ≤ (9 : Int32)) → (vp_in a0 192 ∧ (∀ x1 : Int32, x1 = (M 5 (Int32.toNatClampNeg a0)) → (vp_in a0 192 ∧ ∀ M1 : Mem, M1 = mset M 5 (Int32.toNatClampNeg a0) a1 → (Q (some (.int x1)) M1))))) ∧ (¬ (((0 : Int32) ≤ a1 ∧ a1 ≤ (9 : Int32))) → (CSi w h kX1_tell [.ref 1, .int 0] M (fun r1 M1 => (Q (some (.int r1)) M1)))))))) : RM w (h + 1) kX10_dirt 0 [(0, .ref 0), (1, .int a0), (2, .int a1)] [] M Q := by
  refine rj_iload_n dX10_dirt_0 1 rfl rfl ?_
  refine rm_callSi [.int a0] (rest := []) (K := fun x M' => b2i (0 ≤ a0 ∧ a0 ≤ 191) = x ∧ M = M') ml_RX10_77 mtX10_isCell rfl dX10_dirt_1 rfl rfl (Nat.le_of_ble_eq_true rfl) (by decide) (uX10_isCell (by omega) ⟨rfl, rfl⟩) (fun x M' hx => ?_)
  obtain ⟨rfl, rfl⟩ := hx
  obtain ⟨V1, V2⟩ := V
  refine rs_if_eqB (tgt := 17) dX10_dirt_4 (by decide) (fun hc => ?_) (fun hc => ?_)
  · have V := V1 hc
    refine rj_aload_n dX10_dirt_17 0 rfl rfl ?_
    refine rs_getR (t := 1) fl_RX10_12 rfl (by decide) (by decide) rfl dX10_dirt_18 rfl (by omega) ?_
    refine rj_iconst (v := 0) dX10_dirt_21 (by decide) ?_
    refine rm_callVi [.int 0] (rest := []) ml_RX10_85 mvX1_tell rfl dX10_dirt_22 rfl rfl rfl rfl rfl (Nat.le_of_ble_eq_true rfl) (by decide) V (fun r1 M1 V => ?_)
    exact rm_iret dX10_dirt_25 rfl rfl V
  · have V := V2 hc
    refine rj_iload_n dX10_dirt_7 2 rfl rfl ?_
    refine rj_iconst (v := 0) dX10_dirt_8 (by decide) ?_
    refine rj_bipush (v := 9) dX10_dirt_9 (by decide) ?_
    refine rm_callSi [.int a1, .int 0, .int 9] (rest := []) (K := fun x M' => b2i ((0 : Int32) ≤ a1 ∧ a1 ≤ (9 : Int32)) = x ∧ M = M') ml_RX10_81 mtX10_isWithin rfl dX10_dirt_11 rfl rfl (Nat.le_of_ble_eq_true rfl) (by decide) (uX10_isWithin ⟨rfl, rfl⟩) (fun x M' hx => ?_)
    obtain ⟨rfl, rfl⟩ := hx
    obtain ⟨V1, V2⟩ := V
    refine rs_if_neB (tgt := 26) dX10_dirt_14 (by decide) (fun hc => ?_) (fun hc => ?_)
    · have V := V1 hc
      refine rj_aload_n dX10_dirt_26 0 rfl rfl ?_
      refine rs_getR (t := 3) fl_RX10_19 rfl (by decide) (by decide) rfl dX10_dirt_27 rfl (by omega) ?_
      refine rs_getR (t := 4) fl_RX10_89 rfl (by decide) (by decide) rfl dX10_dirt_30 rfl (by omega) ?_
      refine rs_getR (t := 5) fl_RX10_92 rfl (by decide) (by decide) rfl dX10_dirt_33 rfl (by omega) ?_
      refine rj_iload_n dX10_dirt_36 1 rfl rfl ?_
      obtain ⟨hb, V⟩ := V
      refine rs_iald dX10_dirt_37 rfl hb ?_
      refine rj_top (fun x1 ex1 => ?_)
      have V := V x1 ex1
      refine rj_istore_n (lv' := [(0, .ref 0), (1, .int a0), (2, .int a1), (3, .int x1)]) dX10_dirt_38 rfl (by decide) rfl rfl ?_
      refine rj_aload_n dX10_dirt_39 0 rfl rfl ?_
      refine rs_getR (t := 3) fl_RX10_19 rfl (by decide) (by decide) rfl dX10_dirt_40 rfl (by omega) ?_
      refine rs_getR (t := 4) fl_RX10_89 rfl (by decide) (by decide) rfl dX10_dirt_43 rfl (by omega) ?_
      refine rs_getR (t := 5) fl_RX10_92 rfl (by decide) (by decide) rfl dX10_dirt_46 rfl (by omega) ?_
      refine rj_iload_n dX10_dirt_49 1 rfl rfl ?_
      refine rj_iload_n dX10_dirt_50 2 rfl rfl ?_
      obtain ⟨hb, V⟩ := V
      refine rs_iast dX10_dirt_51 rfl hb (fun M1 eM1 => ?_)
      have V := V M1 eM1
      refine rj_iload_n dX10_dirt_52 3 rfl rfl ?_
      exact rm_iret dX10_dirt_53 rfl rfl V
    · have V := V2 hc
      refine rj_aload_n dX10_dirt_17 0 rfl rfl ?_
      refine rs_getR (t := 1) fl_RX10_12 rfl (by decide) (by decide) rfl dX10_dirt_18 rfl (by omega) ?_
      refine rj_iconst (v := 0) dX10_dirt_21 (by decide) ?_
      refine rm_callVi [.int 0] (rest := []) ml_RX10_85 mvX1_tell rfl dX10_dirt_22 rfl rfl rfl rfl rfl (Nat.le_of_ble_eq_true rfl) (by decide) V (fun r1 M1 V => ?_)
      exact rm_iret dX10_dirt_25 rfl rfl V
-- X10_set
set_option maxRecDepth 100000 in
set_option maxHeartbeats 4000000 in
theorem vX10_set_0 {w : Wd} {h : Nat} (hh : 1 ≤ h) (a0 : Int32) (a1 : Int32)  (M : Mem) (Q : Option Value → Mem → Prop) (V : ((((a0 = 0 ∧ 0 ≤ a1 ∧ a1 ≤ 9) ∨ (a0 = 1 ∧ -20 ≤ a1 ∧ a1 ≤ 20) ∨ (a0 = 2 ∧ 0 ≤ a1 ∧ a1 ≤ 9)) → ((a0 = 0 → (∀ x1 : Int32, x1 = (M 4 2) → (∀ M1 : Mem, M1 = mset M 4 2 a1 → (Q (some (.int x1)) M1)))) ∧ (¬ a0 = 0 → ((a0 = 1 → (∀ x1 : Int32, x1 = (M 4 3) → (∀ M1 : Mem, M1 = mset M 4 3 a1 → (Q (some (.int x1)) M1)))) ∧ (¬ a0 = 1 → (∀ x1 : Int32, x1 = (M 4 4) → (∀ M1 : Mem, M1 = mset M 4 4 a1 → (Q (some (.int x1)) M1)))))))) ∧ (¬ (((a0 = 0 ∧ 0 ≤ a1 ∧ a1 ≤ 9) ∨ (a0 = 1 ∧ -20 ≤ a1 ∧ a1 ≤ 20) ∨ (a0 = 2 ∧ 0 ≤ a1 ∧ a1 ≤ 9))) → (CSi w h kX1_tell [.ref 1, .int 0] M (fun r1 M1 => (Q (some (.int r1)) M1)))))) : RM w (h + 1) kX10_set 0 [(0, .ref 0), (1, .int a0), (2, .int a1)] [] M Q := by
  refine rj_iload_n dX10_set_0 1 rfl rfl ?_
  refine rj_iload_n dX10_set_1 2 rfl rfl ?_
  refine rm_callSi [.int a0, .int a1] (rest := []) (K := fun x M' => b2i ((a0 = 0 ∧ 0 ≤ a1 ∧ a1 ≤ 9) ∨ (a0 = 1 ∧ -20 ≤ a1 ∧ a1 ≤ 20) ∨ (a0 = 2 ∧ 0 ≤ a1 ∧ a1 ≤ 9)) = x ∧ M = M') ml_RX10_111 mtX10_isSetting rfl dX10_set_2 rfl rfl (Nat.le_of_ble_eq_true rfl) (by decide) (uX10_isSetting (by omega) ⟨rfl, rfl⟩) (fun x M' hx => ?_)
  obtain ⟨rfl, rfl⟩ := hx
  obtain ⟨V1, V2⟩ := V
  refine rs_if_neB (tgt := 17) dX10_set_5 (by decide) (fun hc => ?_) (fun hc => ?_)
  · have V := V1 hc
    refine rj_aload_n dX10_set_17 0 rfl rfl ?_
    refine rs_getR (t := 3) fl_RX10_19 rfl (by decide) (by decide) rfl dX10_set_18 rfl (by omega) ?_
    refine rs_getR (t := 4) fl_RX10_89 rfl (by decide) (by decide) rfl dX10_set_21 rfl (by omega) ?_
    refine rj_astore_n (lv' := [(0, .ref 0), (1, .int a0), (2, .int a1), (3, .ref 4)]) dX10_set_24 rfl (by decide) rfl rfl ?_
    refine rj_iload_n dX10_set_25 1 rfl rfl ?_
    obtain ⟨V1, V2⟩ := V
    by_cases w0 : a0 = 0
    · have V := V1 w0
      refine rs_at w0 ?_
      refine rj_lookup (off := 26) (tgt := 52) dX10_set_26 (by decide) (by decide) (by decide) ?_
      refine rj_aload_n dX10_set_52 3 rfl rfl ?_
      refine rs_getI fl_RX10_115 rfl (by decide) (by decide) rfl dX10_set_53 rfl ?_
      refine rj_top (fun x1 ex1 => ?_)
      have V := V x1 ex1
      refine rj_istore (lv' := [(0, .ref 0), (1, .int a0), (2, .int a1), (3, .ref 4), (4, .int x1)]) dX10_set_56 (by decide) rfl rfl ?_
      refine rj_aload_n dX10_set_58 3 rfl rfl ?_
      refine rj_iload_n dX10_set_59 2 rfl rfl ?_
      refine rs_putI fl_RX10_115 (ft2_2 _ nofun) rfl (by decide) (by decide) rfl dX10_set_60 rfl rfl rfl (fun M1 eM1 => ?_)
      have V := V M1 eM1
      refine rj_iload dX10_set_63 4 rfl ?_
      exact rm_iret dX10_set_65 rfl rfl V
    · have V := V2 w0
      obtain ⟨V1, V2⟩ := V
      by_cases w1 : a0 = 1
      · have V := V1 w1
        refine rs_at w1 ?_
        refine rj_lookup (off := 40) (tgt := 66) dX10_set_26 (by decide) (by decide) (by decide) ?_
        refine rj_aload_n dX10_set_66 3 rfl rfl ?_
        refine rs_getI fl_RX10_119 rfl (by decide) (by decide) rfl dX10_set_67 rfl ?_
        refine rj_top (fun x1 ex1 => ?_)
        have V := V x1 ex1
        refine rj_istore (lv' := [(0, .ref 0), (1, .int a0), (2, .int a1), (3, .ref 4), (4, .int x1)]) dX10_set_70 (by decide) rfl rfl ?_
        refine rj_aload_n dX10_set_72 3 rfl rfl ?_
        refine rj_iload_n dX10_set_73 2 rfl rfl ?_
        refine rs_putI fl_RX10_119 (ft2_3 _ nofun) rfl (by decide) (by decide) rfl dX10_set_74 rfl rfl rfl (fun M1 eM1 => ?_)
        have V := V M1 eM1
        refine rj_iload dX10_set_77 4 rfl ?_
        exact rm_iret dX10_set_79 rfl rfl V
      · have V := V2 w1
        refine rj_lookup (off := 54) (tgt := 80) dX10_set_26 (by decide) ((lv_osw w0 (by decide)).trans ((lv_osw w1 (by decide)).trans rfl)) (by decide) ?_
        refine rj_aload_n dX10_set_80 3 rfl rfl ?_
        refine rs_getI fl_RX10_122 rfl (by decide) (by decide) rfl dX10_set_81 rfl ?_
        refine rj_top (fun x1 ex1 => ?_)
        have V := V x1 ex1
        refine rj_istore (lv' := [(0, .ref 0), (1, .int a0), (2, .int a1), (3, .ref 4), (4, .int x1)]) dX10_set_84 (by decide) rfl rfl ?_
        refine rj_aload_n dX10_set_86 3 rfl rfl ?_
        refine rj_iload_n dX10_set_87 2 rfl rfl ?_
        refine rs_putI fl_RX10_122 (ft2_4 _ nofun) rfl (by decide) (by decide) rfl dX10_set_88 rfl rfl rfl (fun M1 eM1 => ?_)
        have V := V M1 eM1
        refine rj_iload dX10_set_91 4 rfl ?_
        exact rm_iret dX10_set_93 rfl rfl V
  · have V := V2 hc
    refine rj_aload_n dX10_set_8 0 rfl rfl ?_
    refine rs_getR (t := 1) fl_RX10_12 rfl (by decide) (by decide) rfl dX10_set_9 rfl (by omega) ?_
    refine rj_iconst (v := 0) dX10_set_12 (by decide) ?_
    refine rm_callVi [.int 0] (rest := []) ml_RX10_85 mvX1_tell rfl dX10_set_13 rfl rfl rfl rfl rfl (Nat.le_of_ble_eq_true rfl) (by decide) V (fun r1 M1 V => ?_)
    exact rm_iret dX10_set_16 rfl rfl V
-- X10_scatter
set_option maxRecDepth 100000 in
set_option maxHeartbeats 4000000 in
theorem vX10_scatter_0 {w : Wd} {h : Nat} (a0 : Int32)  (M : Mem) (Q : Option Value → Mem → Prop) (V : ((((1 : Int32) ≤ a0 ∧ a0 ≤ (60 : Int32)) → RM w (h + 1) kX10_scatter 21 [(0, .ref 0), (1, .int a0), (2, .int 0)] [] M Q) ∧ (¬ (((1 : Int32) ≤ a0 ∧ a0 ≤ (60 : Int32))) → (CSi w h kX1_tell [.ref 1, .int 0] M (fun r1 M1 => (Q (some (.int r1)) M1)))))) : RM w (h + 1) kX10_scatter 0 [(0, .ref 0), (1, .int a0)] [] M Q := by
  refine rj_iload_n dX10_scatter_0 1 rfl rfl ?_
  refine rj_iconst (v := 1) dX10_scatter_1 (by decide) ?_
  refine rj_bipush (v := 60) dX10_scatter_2 (by decide) ?_
  refine rm_callSi [.int a0, .int 1, .int 60] (rest := []) (K := fun x M' => b2i ((1 : Int32) ≤ a0 ∧ a0 ≤ (60 : Int32)) = x ∧ M = M') ml_RX10_81 mtX10_isWithin rfl dX10_scatter_4 rfl rfl (Nat.le_of_ble_eq_true rfl) (by decide) (uX10_isWithin ⟨rfl, rfl⟩) (fun x M' hx => ?_)
  obtain ⟨rfl, rfl⟩ := hx
  obtain ⟨V1, V2⟩ := V
  refine rs_if_neB (tgt := 19) dX10_scatter_7 (by decide) (fun hc => ?_) (fun hc => ?_)
  · have V := V1 hc
    refine rj_iconst (v := 0) dX10_scatter_19 (by decide) ?_
    refine rj_istore_n (lv' := [(0, .ref 0), (1, .int a0), (2, .int 0)]) dX10_scatter_20 rfl (by decide) rfl rfl ?_
    exact rs_sub [0, 1, 2] rfl V
  · have V := V2 hc
    refine rj_aload_n dX10_scatter_10 0 rfl rfl ?_
    refine rs_getR (t := 1) fl_RX10_12 rfl (by decide) (by decide) rfl dX10_scatter_11 rfl (by omega) ?_
    refine rj_iconst (v := 0) dX10_scatter_14 (by decide) ?_
    refine rm_callVi [.int 0] (rest := []) ml_RX10_85 mvX1_tell rfl dX10_scatter_15 rfl rfl rfl rfl rfl (Nat.le_of_ble_eq_true rfl) (by decide) V (fun r1 M1 V => ?_)
    exact rm_iret dX10_scatter_18 rfl rfl V
set_option maxRecDepth 100000 in
set_option maxHeartbeats 4000000 in
theorem vX10_scatter_21 {w : Wd} {h : Nat} (v1 : Int32) (v2 : Int32)  (M : Mem) (Q : Option Value → Mem → Prop) (V : ((v1 ≤ v2 → (CSi w h kX10_countAbove0 [.ref 5] M (fun r1 M1 => (Q (some (.int r1)) M1)))) ∧ (¬ (v1 ≤ v2) → (CSi w h kX5_draw [.ref 3] M (fun r1 M1 => (∀ x1 : Int32, x1 = (r1 - r1 / 192 * 192) → (CSi w h kX5_draw [.ref 3] M1 (fun r2 M2 => (vp_in x1 192 ∧ ∀ M3 : Mem, M3 = mset M2 5 (Int32.toNatClampNeg x1) (r2 - r2 / 10 * 10) → (∀ x2 : Int32, x2 = v2 + 1 → RM w (h + 1) kX10_scatter 21 [(0, .ref 0), (1, .int v1), (2, .int x2)] [] M3 Q)))))))))) : RM w (h + 1) kX10_scatter 21 [(0, .ref 0), (1, .int v1), (2, .int v2)] [] M Q := by
  refine rj_iload_n dX10_scatter_21 2 rfl rfl ?_
  refine rj_iload_n dX10_scatter_22 1 rfl rfl ?_
  obtain ⟨V1, V2⟩ := V
  refine rj_icmp_ge (tgt := 66) dX10_scatter_23 (by decide) (fun hc => ?_) (fun hc => ?_)
  · have V := V1 hc
    refine rj_aload_n dX10_scatter_66 0 rfl rfl ?_
    refine rs_getR (t := 3) fl_RX10_19 rfl (by decide) (by decide) rfl dX10_scatter_67 rfl (by omega) ?_
    refine rs_getR (t := 4) fl_RX10_89 rfl (by decide) (by decide) rfl dX10_scatter_70 rfl (by omega) ?_
    refine rs_getR (t := 5) fl_RX10_92 rfl (by decide) (by decide) rfl dX10_scatter_73 rfl (by omega) ?_
    refine rm_callSi [.ref 5] (rest := []) ml_RX10_129 mtX10_countAbove0 rfl dX10_scatter_76 rfl rfl (Nat.le_of_ble_eq_true rfl) (by decide) V (fun r1 M1 V => ?_)
    exact rm_iret dX10_scatter_79 rfl rfl V
  · have V := V2 hc
    refine rj_aload_n dX10_scatter_26 0 rfl rfl ?_
    refine rs_getR (t := 3) fl_RX10_19 rfl (by decide) (by decide) rfl dX10_scatter_27 rfl (by omega) ?_
    refine rm_callVi [] (rest := []) ml_RX10_125 mvX5_draw rfl dX10_scatter_30 rfl rfl rfl rfl rfl (Nat.le_of_ble_eq_true rfl) (by decide) V (fun r1 M1 V => ?_)
    refine rj_sipush (v := 192) dX10_scatter_33 (by decide) ?_
    refine rj_irem dX10_scatter_36 (by decide) ?_
    refine rj_top (fun x1 ex1 => ?_)
    have V := V x1 ex1
    refine rj_istore_n (lv' := [(0, .ref 0), (1, .int v1), (2, .int v2), (3, .int x1)]) dX10_scatter_37 rfl (by decide) rfl rfl ?_
    refine rj_aload_n dX10_scatter_38 0 rfl rfl ?_
    refine rs_getR (t := 3) fl_RX10_19 rfl (by decide) (by decide) rfl dX10_scatter_39 rfl (by omega) ?_
    refine rs_getR (t := 4) fl_RX10_89 rfl (by decide) (by decide) rfl dX10_scatter_42 rfl (by omega) ?_
    refine rs_getR (t := 5) fl_RX10_92 rfl (by decide) (by decide) rfl dX10_scatter_45 rfl (by omega) ?_
    refine rj_iload_n dX10_scatter_48 3 rfl rfl ?_
    refine rj_aload_n dX10_scatter_49 0 rfl rfl ?_
    refine rs_getR (t := 3) fl_RX10_19 rfl (by decide) (by decide) rfl dX10_scatter_50 rfl (by omega) ?_
    refine rm_callVi [] (rest := [.int x1, .ref 5]) ml_RX10_125 mvX5_draw rfl dX10_scatter_53 rfl rfl rfl rfl rfl (Nat.le_of_ble_eq_true rfl) (by decide) V (fun r2 M2 V => ?_)
    refine rj_bipush (v := 10) dX10_scatter_56 (by decide) ?_
    refine rj_irem dX10_scatter_58 (by decide) ?_
    obtain ⟨hb, V⟩ := V
    refine rs_iast dX10_scatter_59 rfl hb (fun M3 eM3 => ?_)
    have V := V M3 eM3
    refine rj_iincV (c := 1) (fun y => [(0, .ref 0), (1, .int v1), (2, .int y), (3, .int x1)]) dX10_scatter_60 2 rfl (by decide) (by decide) rfl (fun _ => rfl) (fun x2 ex2 => ?_)
    have V := V x2 ex2
    refine rj_goto (tgt := 21) dX10_scatter_63 (by decide) ?_
    exact rs_sub [0, 1, 2] rfl V
-- X10_clean
set_option maxRecDepth 100000 in
set_option maxHeartbeats 4000000 in
theorem vX10_clean_0 {w : Wd} {h : Nat} (hh : 1 ≤ h) (a0 : Int32)  (M : Mem) (Q : Option Value → Mem → Prop) (V : (((0 ≤ a0 ∧ a0 ≤ 15) → (CSi w h kX2_cleanRow [.ref 4, .int a0] M (fun r1 M1 => (Q (some (.int r1)) M1)))) ∧ (¬ ((0 ≤ a0 ∧ a0 ≤ 15)) → (CSi w h kX1_tell [.ref 1, .int 0] M (fun r1 M1 => (Q (some (.int r1)) M1)))))) : RM w (h + 1) kX10_clean 0 [(0, .ref 0), (1, .int a0)] [] M Q := by
  refine rj_iload_n dX10_clean_0 1 rfl rfl ?_
  refine rm_callSi [.int a0] (rest := []) (K := fun x M' => b2i (0 ≤ a0 ∧ a0 ≤ 15) = x ∧ M = M') ml_RX10_133 mtX10_isRow rfl dX10_clean_1 rfl rfl (Nat.le_of_ble_eq_true rfl) (by decide) (uX10_isRow (by omega) ⟨rfl, rfl⟩) (fun x M' hx => ?_)
  obtain ⟨rfl, rfl⟩ := hx
  obtain ⟨V1, V2⟩ := V
  refine rs_if_neB (tgt := 16) dX10_clean_4 (by decide) (fun hc => ?_) (fun hc => ?_)
  · have V := V1 hc
    refine rj_aload_n dX10_clean_16 0 rfl rfl ?_
    refine rs_getR (t := 3) fl_RX10_19 rfl (by decide) (by decide) rfl dX10_clean_17 rfl (by omega) ?_
    refine rs_getR (t := 4) fl_RX10_89 rfl (by decide) (by decide) rfl dX10_clean_20 rfl (by omega) ?_
    refine rj_iload_n dX10_clean_23 1 rfl rfl ?_
    refine rm_callVi [.int a0] (rest := []) ml_RX10_136 mvX2_cleanRow rfl dX10_clean_24 rfl rfl rfl rfl rfl (Nat.le_of_ble_eq_true rfl) (by decide) V (fun r1 M1 V => ?_)
    exact rm_iret dX10_clean_27 rfl rfl V
  · have V := V2 hc
    refine rj_aload_n dX10_clean_7 0 rfl rfl ?_
    refine rs_getR (t := 1) fl_RX10_12 rfl (by decide) (by decide) rfl dX10_clean_8 rfl (by omega) ?_
    refine rj_iconst (v := 0) dX10_clean_11 (by decide) ?_
    refine rm_callVi [.int 0] (rest := []) ml_RX10_85 mvX1_tell rfl dX10_clean_12 rfl rfl rfl rfl rfl (Nat.le_of_ble_eq_true rfl) (by decide) V (fun r1 M1 V => ?_)
    exact rm_iret dX10_clean_15 rfl rfl V
-- X10_finger
set_option maxRecDepth 100000 in
set_option maxHeartbeats 4000000 in
theorem vX10_finger_0 {w : Wd} {h : Nat} (hh : 1 ≤ h) (a0 : Int32)  (M : Mem) (Q : Option Value → Mem → Prop) (V : (((0 ≤ a0 ∧ a0 ≤ 11) → (CSi w h kX2_wetColumn [.ref 4, .int a0] M (fun r1 M1 => (Q (some (.int r1)) M1)))) ∧ (¬ ((0 ≤ a0 ∧ a0 ≤ 11)) → (CSi w h kX1_tell [.ref 1, .int 0] M (fun r1 M1 => (Q (some (.int r1)) M1)))))) : RM w (h + 1) kX10_finger 0 [(0, .ref 0), (1, .int a0)] [] M Q := by
  refine rj_iload_n dX10_finger_0 1 rfl rfl ?_
  refine rm_callSi [.int a0] (rest := []) (K := fun x M' => b2i (0 ≤ a0 ∧ a0 ≤ 11) = x ∧ M = M') ml_RX10_139 mtX10_isColumn rfl dX10_finger_1 rfl rfl (Nat.le_of_ble_eq_true rfl) (by decide) (uX10_isColumn (by omega) ⟨rfl, rfl⟩) (fun x M' hx => ?_)
  obtain ⟨rfl, rfl⟩ := hx
  obtain ⟨V1, V2⟩ := V
  refine rs_if_neB (tgt := 16) dX10_finger_4 (by decide) (fun hc => ?_) (fun hc => ?_)
  · have V := V1 hc
    refine rj_aload_n dX10_finger_16 0 rfl rfl ?_
    refine rs_getR (t := 3) fl_RX10_19 rfl (by decide) (by decide) rfl dX10_finger_17 rfl (by omega) ?_
    refine rs_getR (t := 4) fl_RX10_89 rfl (by decide) (by decide) rfl dX10_finger_20 rfl (by omega) ?_
    refine rj_iload_n dX10_finger_23 1 rfl rfl ?_
    refine rm_callVi [.int a0] (rest := []) ml_RX10_142 mvX2_wetColumn rfl dX10_finger_24 rfl rfl rfl rfl rfl (Nat.le_of_ble_eq_true rfl) (by decide) V (fun r1 M1 V => ?_)
    exact rm_iret dX10_finger_27 rfl rfl V
  · have V := V2 hc
    refine rj_aload_n dX10_finger_7 0 rfl rfl ?_
    refine rs_getR (t := 1) fl_RX10_12 rfl (by decide) (by decide) rfl dX10_finger_8 rfl (by omega) ?_
    refine rj_iconst (v := 0) dX10_finger_11 (by decide) ?_
    refine rm_callVi [.int 0] (rest := []) ml_RX10_85 mvX1_tell rfl dX10_finger_12 rfl rfl rfl rfl rfl (Nat.le_of_ble_eq_true rfl) (by decide) V (fun r1 M1 V => ?_)
    exact rm_iret dX10_finger_15 rfl rfl V
-- X10_fades
set_option maxRecDepth 100000 in
set_option maxHeartbeats 4000000 in
theorem vX10_fades_0 {w : Wd} {h : Nat} (hh : 1 ≤ h) (a0 : Int32)  (M : Mem) (Q : Option Value → Mem → Prop) (V : (((0 ≤ a0 ∧ a0 ≤ 191) → (vp_in a0 192 ∧ (∀ x1 : Int32, x1 = (M 6 (Int32.toNatClampNeg a0)) → (∀ x2 : Int32, x2 = (M 4 4) → ((¬ (x1 = 0) → ((0 < x2 → (¬ x2 = 0 ∧ (Q (some (.int (((x1 + x2) - 1) / x2))) M))) ∧ (¬ (0 < x2) → (CSi w h kX1_tell [.ref 1, .int 3] M (fun r1 M1 => (Q (some (.int r1)) M1)))))) ∧ (x1 = 0 → (Q (some (.int 0)) M))))))) ∧ (¬ ((0 ≤ a0 ∧ a0 ≤ 191)) → (CSi w h kX1_tell [.ref 1, .int 0] M (fun r1 M1 => (Q (some (.int r1)) M1)))))) : RM w (h + 1) kX10_fades 0 [(0, .ref 0), (1, .int a0)] [] M Q := by
  refine rj_iload_n dX10_fades_0 1 rfl rfl ?_
  refine rm_callSi [.int a0] (rest := []) (K := fun x M' => b2i (0 ≤ a0 ∧ a0 ≤ 191) = x ∧ M = M') ml_RX10_77 mtX10_isCell rfl dX10_fades_1 rfl rfl (Nat.le_of_ble_eq_true rfl) (by decide) (uX10_isCell (by omega) ⟨rfl, rfl⟩) (fun x M' hx => ?_)
  obtain ⟨rfl, rfl⟩ := hx
  obtain ⟨V1, V2⟩ := V
  refine rs_if_neB (tgt := 16) dX10_fades_4 (by decide) (fun hc => ?_) (fun hc => ?_)
  · have V := V1 hc
    refine rj_aload_n dX10_fades_16 0 rfl rfl ?_
    refine rs_getR (t := 3) fl_RX10_19 rfl (by decide) (by decide) rfl dX10_fades_17 rfl (by omega) ?_
    refine rs_getR (t := 4) fl_RX10_89 rfl (by decide) (by decide) rfl dX10_fades_20 rfl (by omega) ?_
    refine rs_getR (t := 6) fl_RX10_96 rfl (by decide) (by decide) rfl dX10_fades_23 rfl (by omega) ?_
    refine rj_iload_n dX10_fades_26 1 rfl rfl ?_
    obtain ⟨hb, V⟩ := V
    refine rs_iald dX10_fades_27 rfl hb ?_
    refine rj_top (fun x1 ex1 => ?_)
    have V := V x1 ex1
    refine rj_istore_n (lv' := [(0, .ref 0), (1, .int a0), (2, .int x1)]) dX10_fades_28 rfl (by decide) rfl rfl ?_
    refine rj_aload_n dX10_fades_29 0 rfl rfl ?_
    refine rs_getR (t := 3) fl_RX10_19 rfl (by decide) (by decide) rfl dX10_fades_30 rfl (by omega) ?_
    refine rs_getR (t := 4) fl_RX10_89 rfl (by decide) (by decide) rfl dX10_fades_33 rfl (by omega) ?_
    refine rs_getI fl_RX10_122 rfl (by decide) (by decide) rfl dX10_fades_36 rfl ?_
    refine rj_top (fun x2 ex2 => ?_)
    have V := V x2 ex2
    refine rj_istore_n (lv' := [(0, .ref 0), (1, .int a0), (2, .int x1), (3, .int x2)]) dX10_fades_39 rfl (by decide) rfl rfl ?_
    refine rj_iload_n dX10_fades_40 2 rfl rfl ?_
    obtain ⟨V1, V2⟩ := V
    refine rj_if_ne (tgt := 46) dX10_fades_41 (by decide) (fun hc => ?_) (fun hc => ?_)
    · have V := V1 hc
      refine rj_iload_n dX10_fades_46 3 rfl rfl ?_
      obtain ⟨V1, V2⟩ := V
      refine rj_if_gt (tgt := 59) dX10_fades_47 (by decide) (fun hc => ?_) (fun hc => ?_)
      · have V := V1 hc
        refine rj_iload_n dX10_fades_59 2 rfl rfl ?_
        refine rj_iload_n dX10_fades_60 3 rfl rfl ?_
        refine rj_iadd dX10_fades_61 ?_
        refine rj_iconst (v := 1) dX10_fades_62 (by decide) ?_
        refine rj_isub dX10_fades_63 ?_
        refine rj_iload_n dX10_fades_64 3 rfl rfl ?_
        obtain ⟨hz, V⟩ := V
        refine rj_idiv dX10_fades_65 hz ?_
        exact rm_iret dX10_fades_66 rfl rfl V
      · have V := V2 hc
        refine rj_aload_n dX10_fades_50 0 rfl rfl ?_
        refine rs_getR (t := 1) fl_RX10_12 rfl (by decide) (by decide) rfl dX10_fades_51 rfl (by omega) ?_
        refine rj_iconst (v := 3) dX10_fades_54 (by decide) ?_
        refine rm_callVi [.int 3] (rest := []) ml_RX10_85 mvX1_tell rfl dX10_fades_55 rfl rfl rfl rfl rfl (Nat.le_of_ble_eq_true rfl) (by decide) V (fun r1 M1 V => ?_)
        exact rm_iret dX10_fades_58 rfl rfl V
    · have V := V2 hc
      refine rj_iconst (v := 0) dX10_fades_44 (by decide) ?_
      exact rm_iret dX10_fades_45 rfl rfl V
  · have V := V2 hc
    refine rj_aload_n dX10_fades_7 0 rfl rfl ?_
    refine rs_getR (t := 1) fl_RX10_12 rfl (by decide) (by decide) rfl dX10_fades_8 rfl (by omega) ?_
    refine rj_iconst (v := 0) dX10_fades_11 (by decide) ?_
    refine rm_callVi [.int 0] (rest := []) ml_RX10_85 mvX1_tell rfl dX10_fades_12 rfl rfl rfl rfl rfl (Nat.le_of_ble_eq_true rfl) (by decide) V (fun r1 M1 V => ?_)
    exact rm_iret dX10_fades_15 rfl rfl V
-- X10_drop
set_option maxRecDepth 100000 in
set_option maxHeartbeats 4000000 in
theorem vX10_drop_0 {w : Wd} {h : Nat} (hh : 2 ≤ h) (a0 : Int32) (a1 : Int32) (a2 : Int32)  (M : Mem) (Q : Option Value → Mem → Prop) (V : ((((0 ≤ a0 ∧ a0 ≤ 7) ∧ (0 ≤ a1 ∧ a1 ≤ 11) ∧ (1 ≤ a2 ∧ a2 ≤ 99)) → (CSi w h kX5_makeDrop [.ref 3, .int a0, .int a1, .int a2] M (fun r1 M1 => ((¬ (r1 = (-1)) → (Q (some (.int r1)) M1)) ∧ (r1 = (-1) → (CSi w h kX1_tell [.ref 1, .int 1] M1 (fun r2 M2 => (Q (some (.int r2)) M2)))))))) ∧ (¬ (((0 ≤ a0 ∧ a0 ≤ 7) ∧ (0 ≤ a1 ∧ a1 ≤ 11) ∧ (1 ≤ a2 ∧ a2 ≤ 99))) → (CSi w h kX1_tell [.ref 1, .int 0] M (fun r1 M1 => (Q (some (.int r1)) M1)))))) : RM w (h + 1) kX10_drop 0 [(0, .ref 0), (1, .int a0), (2, .int a1), (3, .int a2)] [] M Q := by
  refine rj_iload_n dX10_drop_0 1 rfl rfl ?_
  refine rj_iload_n dX10_drop_1 2 rfl rfl ?_
  refine rj_iload_n dX10_drop_2 3 rfl rfl ?_
  refine rm_callSi [.int a0, .int a1, .int a2] (rest := []) (K := fun x M' => b2i ((0 ≤ a0 ∧ a0 ≤ 7) ∧ (0 ≤ a1 ∧ a1 ≤ 11) ∧ (1 ≤ a2 ∧ a2 ≤ 99)) = x ∧ M = M') ml_RX10_145 mtX10_isStart rfl dX10_drop_3 rfl rfl (Nat.le_of_ble_eq_true rfl) (by decide) (uX10_isStart (by omega) ⟨rfl, rfl⟩) (fun x M' hx => ?_)
  obtain ⟨rfl, rfl⟩ := hx
  obtain ⟨V1, V2⟩ := V
  refine rs_if_neB (tgt := 18) dX10_drop_6 (by decide) (fun hc => ?_) (fun hc => ?_)
  · have V := V1 hc
    refine rj_aload_n dX10_drop_18 0 rfl rfl ?_
    refine rs_getR (t := 3) fl_RX10_19 rfl (by decide) (by decide) rfl dX10_drop_19 rfl (by omega) ?_
    refine rj_iload_n dX10_drop_22 1 rfl rfl ?_
    refine rj_iload_n dX10_drop_23 2 rfl rfl ?_
    refine rj_iload_n dX10_drop_24 3 rfl rfl ?_
    refine rm_callVi [.int a0, .int a1, .int a2] (rest := []) ml_RX10_148 mvX5_makeDrop rfl dX10_drop_25 rfl rfl rfl rfl rfl (Nat.le_of_ble_eq_true rfl) (by decide) V (fun r1 M1 V => ?_)
    refine rj_istore (lv' := [(0, .ref 0), (1, .int a0), (2, .int a1), (3, .int a2), (4, .int r1)]) dX10_drop_28 (by decide) rfl rfl ?_
    refine rj_iload dX10_drop_30 4 rfl ?_
    refine rj_iconst (v := (-1)) dX10_drop_32 (by decide) ?_
    obtain ⟨V1, V2⟩ := V
    refine rj_icmp_ne (tgt := 47) dX10_drop_33 (by decide) (fun hc => ?_) (fun hc => ?_)
    · have V := V1 hc
      refine rj_iload dX10_drop_47 4 rfl ?_
      exact rm_iret dX10_drop_49 rfl rfl V
    · have V := V2 hc
      refine rj_aload_n dX10_drop_36 0 rfl rfl ?_
      refine rs_getR (t := 1) fl_RX10_12 rfl (by decide) (by decide) rfl dX10_drop_37 rfl (by omega) ?_
      refine rj_iconst (v := 1) dX10_drop_40 (by decide) ?_
      refine rm_callVi [.int 1] (rest := []) ml_RX10_85 mvX1_tell rfl dX10_drop_41 rfl rfl rfl rfl rfl (Nat.le_of_ble_eq_true rfl) (by decide) V (fun r2 M2 V => ?_)
      refine rj_goto (tgt := 49) dX10_drop_44 (by decide) ?_
      exact rm_iret dX10_drop_49 rfl rfl V
  · have V := V2 hc
    refine rj_aload_n dX10_drop_9 0 rfl rfl ?_
    refine rs_getR (t := 1) fl_RX10_12 rfl (by decide) (by decide) rfl dX10_drop_10 rfl (by omega) ?_
    refine rj_iconst (v := 0) dX10_drop_13 (by decide) ?_
    refine rm_callVi [.int 0] (rest := []) ml_RX10_85 mvX1_tell rfl dX10_drop_14 rfl rfl rfl rfl rfl (Nat.le_of_ble_eq_true rfl) (by decide) V (fun r1 M1 V => ?_)
    exact rm_iret dX10_drop_17 rfl rfl V
-- X10_dropOf
set_option maxRecDepth 100000 in
set_option maxHeartbeats 4000000 in
theorem vX10_dropOf_0 {w : Wd} {h : Nat} (hh : 1 ≤ h) (a0 : Int32) (a1 : Int32)  (M : Mem) (Q : Option Value → Mem → Prop) (V : ((¬ ((0 ≤ a0 ∧ a0 ≤ 7)) → (CSi w h kX1_tell [.ref 1, .int 0] M (fun r1 M1 => (Q (some (.int r1)) M1)))) ∧ ((0 ≤ a0 ∧ a0 ≤ 7) → ((((0 : Int32) ≤ a1 ∧ a1 ≤ (3 : Int32)) → (CSi w h kX0_isThere [.ref 8, .int a0] M (fun r1 M1 => ((¬ (r1 = 0) → ((a1 = 0 → (vp_in a0 8 ∧ (Q (some (.int (M1 9 (Int32.toNatClampNeg a0)))) M1))) ∧ (¬ a1 = 0 → ((a1 = 1 → (vp_in a0 8 ∧ (Q (some (.int (M1 10 (Int32.toNatClampNeg a0)))) M1))) ∧ (¬ a1 = 1 → ((a1 = 2 → (vp_in a0 8 ∧ (Q (some (.int (M1 11 (Int32.toNatClampNeg a0)))) M1))) ∧ (¬ a1 = 2 → (vp_in a0 8 ∧ (Q (some (.int (M1 12 (Int32.toNatClampNeg a0)))) M1))))))))) ∧ (r1 = 0 → (CSi w h kX1_tell [.ref 1, .int 3] M1 (fun r2 M2 => (Q (some (.int r2)) M2)))))))) ∧ (¬ (((0 : Int32) ≤ a1 ∧ a1 ≤ (3 : Int32))) → (CSi w h kX1_tell [.ref 1, .int 0] M (fun r1 M1 => (Q (some (.int r1)) M1)))))))) : RM w (h + 1) kX10_dropOf 0 [(0, .ref 0), (1, .int a0), (2, .int a1)] [] M Q := by
  refine rj_iload_n dX10_dropOf_0 1 rfl rfl ?_
  refine rm_callSi [.int a0] (rest := []) (K := fun x M' => b2i (0 ≤ a0 ∧ a0 ≤ 7) = x ∧ M = M') ml_RX10_152 mtX10_isDropNumber rfl dX10_dropOf_1 rfl rfl (Nat.le_of_ble_eq_true rfl) (by decide) (uX10_isDropNumber (by omega) ⟨rfl, rfl⟩) (fun x M' hx => ?_)
  obtain ⟨rfl, rfl⟩ := hx
  obtain ⟨V1, V2⟩ := V
  refine rs_if_eqB (tgt := 16) dX10_dropOf_4 (by decide) (fun hc => ?_) (fun hc => ?_)
  · have V := V1 hc
    refine rj_aload_n dX10_dropOf_16 0 rfl rfl ?_
    refine rs_getR (t := 1) fl_RX10_12 rfl (by decide) (by decide) rfl dX10_dropOf_17 rfl (by omega) ?_
    refine rj_iconst (v := 0) dX10_dropOf_20 (by decide) ?_
    refine rm_callVi [.int 0] (rest := []) ml_RX10_85 mvX1_tell rfl dX10_dropOf_21 rfl rfl rfl rfl rfl (Nat.le_of_ble_eq_true rfl) (by decide) V (fun r1 M1 V => ?_)
    exact rm_iret dX10_dropOf_24 rfl rfl V
  · have V := V2 hc
    refine rj_iload_n dX10_dropOf_7 2 rfl rfl ?_
    refine rj_iconst (v := 0) dX10_dropOf_8 (by decide) ?_
    refine rj_iconst (v := 3) dX10_dropOf_9 (by decide) ?_
    refine rm_callSi [.int a1, .int 0, .int 3] (rest := []) (K := fun x M' => b2i ((0 : Int32) ≤ a1 ∧ a1 ≤ (3 : Int32)) = x ∧ M = M') ml_RX10_81 mtX10_isWithin rfl dX10_dropOf_10 rfl rfl (Nat.le_of_ble_eq_true rfl) (by decide) (uX10_isWithin ⟨rfl, rfl⟩) (fun x M' hx => ?_)
    obtain ⟨rfl, rfl⟩ := hx
    obtain ⟨V1, V2⟩ := V
    refine rs_if_neB (tgt := 25) dX10_dropOf_13 (by decide) (fun hc => ?_) (fun hc => ?_)
    · have V := V1 hc
      refine rj_aload_n dX10_dropOf_25 0 rfl rfl ?_
      refine rs_getR (t := 3) fl_RX10_19 rfl (by decide) (by decide) rfl dX10_dropOf_26 rfl (by omega) ?_
      refine rs_getR (t := 8) fl_RX10_102 rfl (by decide) (by decide) rfl dX10_dropOf_29 rfl (by omega) ?_
      refine rj_astore_n (lv' := [(0, .ref 0), (1, .int a0), (2, .int a1), (3, .ref 8)]) dX10_dropOf_32 rfl (by decide) rfl rfl ?_
      refine rj_aload_n dX10_dropOf_33 3 rfl rfl ?_
      refine rj_iload_n dX10_dropOf_34 1 rfl rfl ?_
      refine rm_callVi [.int a0] (rest := []) ml_RX10_155 mvX0_isThere rfl dX10_dropOf_35 rfl rfl rfl rfl rfl (Nat.le_of_ble_eq_true rfl) (by decide) V (fun r1 M1 V => ?_)
      obtain ⟨V1, V2⟩ := V
      refine rj_if_ne (tgt := 50) dX10_dropOf_38 (by decide) (fun hc => ?_) (fun hc => ?_)
      · have V := V1 hc
        refine rj_iload_n dX10_dropOf_50 2 rfl rfl ?_
        obtain ⟨V1, V2⟩ := V
        by_cases w0 : a1 = 0
        · have V := V1 w0
          refine rs_at w0 ?_
          refine rj_tableIn (off := 25) (tgt := 76) dX10_dropOf_51 (by decide) (by decide) (by decide) (by decide) ?_
          refine rj_aload_n dX10_dropOf_76 3 rfl rfl ?_
          refine rs_getR (t := 9) fl_RX10_158 rfl (by decide) (by decide) rfl dX10_dropOf_77 rfl (by omega) ?_
          refine rj_iload_n dX10_dropOf_80 1 rfl rfl ?_
          obtain ⟨hb, V⟩ := V
          refine rs_iald dX10_dropOf_81 rfl hb ?_
          exact rm_iret dX10_dropOf_82 rfl rfl V
        · have V := V2 w0
          obtain ⟨V1, V2⟩ := V
          by_cases w1 : a1 = 1
          · have V := V1 w1
            refine rs_at w1 ?_
            refine rj_tableIn (off := 32) (tgt := 83) dX10_dropOf_51 (by decide) (by decide) (by decide) (by decide) ?_
            refine rj_aload_n dX10_dropOf_83 3 rfl rfl ?_
            refine rs_getR (t := 10) fl_RX10_161 rfl (by decide) (by decide) rfl dX10_dropOf_84 rfl (by omega) ?_
            refine rj_iload_n dX10_dropOf_87 1 rfl rfl ?_
            obtain ⟨hb, V⟩ := V
            refine rs_iald dX10_dropOf_88 rfl hb ?_
            exact rm_iret dX10_dropOf_89 rfl rfl V
          · have V := V2 w1
            obtain ⟨V1, V2⟩ := V
            by_cases w2 : a1 = 2
            · have V := V1 w2
              refine rs_at w2 ?_
              refine rj_tableIn (off := 39) (tgt := 90) dX10_dropOf_51 (by decide) (by decide) (by decide) (by decide) ?_
              refine rj_aload_n dX10_dropOf_90 3 rfl rfl ?_
              refine rs_getR (t := 11) fl_RX10_164 rfl (by decide) (by decide) rfl dX10_dropOf_91 rfl (by omega) ?_
              refine rj_iload_n dX10_dropOf_94 1 rfl rfl ?_
              obtain ⟨hb, V⟩ := V
              refine rs_iald dX10_dropOf_95 rfl hb ?_
              exact rm_iret dX10_dropOf_96 rfl rfl V
            · have V := V2 w2
              refine rj_tableOut (tgt := 97) dX10_dropOf_51 (by have n0 := lv_neT (a := 0) w0 (by decide); have n1 := lv_neT (a := 1) w1 (by decide); have n2 := lv_neT (a := 2) w2 (by decide); omega) (by decide) ?_
              refine rj_aload_n dX10_dropOf_97 3 rfl rfl ?_
              refine rs_getR (t := 12) fl_RX10_167 rfl (by decide) (by decide) rfl dX10_dropOf_98 rfl (by omega) ?_
              refine rj_iload_n dX10_dropOf_101 1 rfl rfl ?_
              obtain ⟨hb, V⟩ := V
              refine rs_iald dX10_dropOf_102 rfl hb ?_
              exact rm_iret dX10_dropOf_103 rfl rfl V
      · have V := V2 hc
        refine rj_aload_n dX10_dropOf_41 0 rfl rfl ?_
        refine rs_getR (t := 1) fl_RX10_12 rfl (by decide) (by decide) rfl dX10_dropOf_42 rfl (by omega) ?_
        refine rj_iconst (v := 3) dX10_dropOf_45 (by decide) ?_
        refine rm_callVi [.int 3] (rest := []) ml_RX10_85 mvX1_tell rfl dX10_dropOf_46 rfl rfl rfl rfl rfl (Nat.le_of_ble_eq_true rfl) (by decide) V (fun r2 M2 V => ?_)
        exact rm_iret dX10_dropOf_49 rfl rfl V
    · have V := V2 hc
      refine rj_aload_n dX10_dropOf_16 0 rfl rfl ?_
      refine rs_getR (t := 1) fl_RX10_12 rfl (by decide) (by decide) rfl dX10_dropOf_17 rfl (by omega) ?_
      refine rj_iconst (v := 0) dX10_dropOf_20 (by decide) ?_
      refine rm_callVi [.int 0] (rest := []) ml_RX10_85 mvX1_tell rfl dX10_dropOf_21 rfl rfl rfl rfl rfl (Nat.le_of_ble_eq_true rfl) (by decide) V (fun r1 M1 V => ?_)
      exact rm_iret dX10_dropOf_24 rfl rfl V
-- X10_tick
set_option maxRecDepth 100000 in
set_option maxHeartbeats 4000000 in
theorem vX10_tick_0 {w : Wd} {h : Nat} (a0 : Int32)  (M : Mem) (Q : Option Value → Mem → Prop) (V : ((((1 : Int32) ≤ a0 ∧ a0 ≤ (50 : Int32)) → (CSv w h kX5_passTicks [.ref 3, .int a0] M (fun M1 => (CSi w h kX0_howMany [.ref 8] M1 (fun r1 M2 => (Q (some (.int r1)) M2)))))) ∧ (¬ (((1 : Int32) ≤ a0 ∧ a0 ≤ (50 : Int32))) → (CSi w h kX1_tell [.ref 1, .int 0] M (fun r1 M1 => (Q (some (.int r1)) M1)))))) : RM w (h + 1) kX10_tick 0 [(0, .ref 0), (1, .int a0)] [] M Q := by
  refine rj_iload_n dX10_tick_0 1 rfl rfl ?_
  refine rj_iconst (v := 1) dX10_tick_1 (by decide) ?_
  refine rj_bipush (v := 50) dX10_tick_2 (by decide) ?_
  refine rm_callSi [.int a0, .int 1, .int 50] (rest := []) (K := fun x M' => b2i ((1 : Int32) ≤ a0 ∧ a0 ≤ (50 : Int32)) = x ∧ M = M') ml_RX10_81 mtX10_isWithin rfl dX10_tick_4 rfl rfl (Nat.le_of_ble_eq_true rfl) (by decide) (uX10_isWithin ⟨rfl, rfl⟩) (fun x M' hx => ?_)
  obtain ⟨rfl, rfl⟩ := hx
  obtain ⟨V1, V2⟩ := V
  refine rs_if_neB (tgt := 19) dX10_tick_7 (by decide) (fun hc => ?_) (fun hc => ?_)
  · have V := V1 hc
    refine rj_aload_n dX10_tick_19 0 rfl rfl ?_
    refine rs_getR (t := 3) fl_RX10_19 rfl (by decide) (by decide) rfl dX10_tick_20 rfl (by omega) ?_
    refine rj_iload_n dX10_tick_23 1 rfl rfl ?_
    refine rm_callVv [.int a0] (rest := []) ml_RX10_170 mvX5_passTicks rfl dX10_tick_24 rfl rfl rfl rfl rfl (Nat.le_of_ble_eq_true rfl) (by decide) V (fun M1 V => ?_)
    refine rj_aload_n dX10_tick_27 0 rfl rfl ?_
    refine rs_getR (t := 3) fl_RX10_19 rfl (by decide) (by decide) rfl dX10_tick_28 rfl (by omega) ?_
    refine rs_getR (t := 8) fl_RX10_102 rfl (by decide) (by decide) rfl dX10_tick_31 rfl (by omega) ?_
    refine rm_callVi [] (rest := []) ml_RX10_174 mvX0_howMany rfl dX10_tick_34 rfl rfl rfl rfl rfl (Nat.le_of_ble_eq_true rfl) (by decide) V (fun r1 M2 V => ?_)
    exact rm_iret dX10_tick_37 rfl rfl V
  · have V := V2 hc
    refine rj_aload_n dX10_tick_10 0 rfl rfl ?_
    refine rs_getR (t := 1) fl_RX10_12 rfl (by decide) (by decide) rfl dX10_tick_11 rfl (by omega) ?_
    refine rj_iconst (v := 0) dX10_tick_14 (by decide) ?_
    refine rm_callVi [.int 0] (rest := []) ml_RX10_85 mvX1_tell rfl dX10_tick_15 rfl rfl rfl rfl rfl (Nat.le_of_ble_eq_true rfl) (by decide) V (fun r1 M1 V => ?_)
    exact rm_iret dX10_tick_18 rfl rfl V
-- X10_next
set_option maxRecDepth 100000 in
set_option maxHeartbeats 4000000 in
theorem vX10_next_0 {w : Wd} {h : Nat} (hh : 1 ≤ h) (a0 : Int32)  (M : Mem) (Q : Option Value → Mem → Prop) (V : (((0 ≤ a0 ∧ a0 ≤ 7) → (CSi w h kX0_isThere [.ref 8, .int a0] M (fun r1 M1 => ((¬ (r1 = 0) → (vp_in a0 8 ∧ (vp_in a0 8 ∧ (vp_in a0 8 ∧ (vp_in a0 8 ∧ (CSi w h kX2_goal [.ref 4, .int (M1 9 (Int32.toNatClampNeg a0)), .int (M1 10 (Int32.toNatClampNeg a0)), .int (M1 11 (Int32.toNatClampNeg a0)), .int (M1 12 (Int32.toNatClampNeg a0))] M1 (fun r2 M2 => (Q (some (.int r2)) M2)))))))) ∧ (r1 = 0 → (CSi w h kX1_tell [.ref 1, .int 3] M1 (fun r2 M2 => (Q (some (.int r2)) M2)))))))) ∧ (¬ ((0 ≤ a0 ∧ a0 ≤ 7)) → (CSi w h kX1_tell [.ref 1, .int 0] M (fun r1 M1 => (Q (some (.int r1)) M1)))))) : RM w (h + 1) kX10_next 0 [(0, .ref 0), (1, .int a0)] [] M Q := by
  refine rj_iload_n dX10_next_0 1 rfl rfl ?_
  refine rm_callSi [.int a0] (rest := []) (K := fun x M' => b2i (0 ≤ a0 ∧ a0 ≤ 7) = x ∧ M = M') ml_RX10_152 mtX10_isDropNumber rfl dX10_next_1 rfl rfl (Nat.le_of_ble_eq_true rfl) (by decide) (uX10_isDropNumber (by omega) ⟨rfl, rfl⟩) (fun x M' hx => ?_)
  obtain ⟨rfl, rfl⟩ := hx
  obtain ⟨V1, V2⟩ := V
  refine rs_if_neB (tgt := 16) dX10_next_4 (by decide) (fun hc => ?_) (fun hc => ?_)
  · have V := V1 hc
    refine rj_aload_n dX10_next_16 0 rfl rfl ?_
    refine rs_getR (t := 3) fl_RX10_19 rfl (by decide) (by decide) rfl dX10_next_17 rfl (by omega) ?_
    refine rs_getR (t := 8) fl_RX10_102 rfl (by decide) (by decide) rfl dX10_next_20 rfl (by omega) ?_
    refine rj_astore_n (lv' := [(0, .ref 0), (1, .int a0), (2, .ref 8)]) dX10_next_23 rfl (by decide) rfl rfl ?_
    refine rj_aload_n dX10_next_24 2 rfl rfl ?_
    refine rj_iload_n dX10_next_25 1 rfl rfl ?_
    refine rm_callVi [.int a0] (rest := []) ml_RX10_155 mvX0_isThere rfl dX10_next_26 rfl rfl rfl rfl rfl (Nat.le_of_ble_eq_true rfl) (by decide) V (fun r1 M1 V => ?_)
    obtain ⟨V1, V2⟩ := V
    refine rj_if_ne (tgt := 41) dX10_next_29 (by decide) (fun hc => ?_) (fun hc => ?_)
    · have V := V1 hc
      refine rj_aload_n dX10_next_41 0 rfl rfl ?_
      refine rs_getR (t := 3) fl_RX10_19 rfl (by decide) (by decide) rfl dX10_next_42 rfl (by omega) ?_
      refine rs_getR (t := 4) fl_RX10_89 rfl (by decide) (by decide) rfl dX10_next_45 rfl (by omega) ?_
      refine rj_aload_n dX10_next_48 2 rfl rfl ?_
      refine rs_getR (t := 9) fl_RX10_158 rfl (by decide) (by decide) rfl dX10_next_49 rfl (by omega) ?_
      refine rj_iload_n dX10_next_52 1 rfl rfl ?_
      obtain ⟨hb, V⟩ := V
      refine rs_iald dX10_next_53 rfl hb ?_
      refine rj_aload_n dX10_next_54 2 rfl rfl ?_
      refine rs_getR (t := 10) fl_RX10_161 rfl (by decide) (by decide) rfl dX10_next_55 rfl (by omega) ?_
      refine rj_iload_n dX10_next_58 1 rfl rfl ?_
      obtain ⟨hb, V⟩ := V
      refine rs_iald dX10_next_59 rfl hb ?_
      refine rj_aload_n dX10_next_60 2 rfl rfl ?_
      refine rs_getR (t := 11) fl_RX10_164 rfl (by decide) (by decide) rfl dX10_next_61 rfl (by omega) ?_
      refine rj_iload_n dX10_next_64 1 rfl rfl ?_
      obtain ⟨hb, V⟩ := V
      refine rs_iald dX10_next_65 rfl hb ?_
      refine rj_aload_n dX10_next_66 2 rfl rfl ?_
      refine rs_getR (t := 12) fl_RX10_167 rfl (by decide) (by decide) rfl dX10_next_67 rfl (by omega) ?_
      refine rj_iload_n dX10_next_70 1 rfl rfl ?_
      obtain ⟨hb, V⟩ := V
      refine rs_iald dX10_next_71 rfl hb ?_
      refine rm_callVi [.int (M1 9 (Int32.toNatClampNeg a0)), .int (M1 10 (Int32.toNatClampNeg a0)), .int (M1 11 (Int32.toNatClampNeg a0)), .int (M1 12 (Int32.toNatClampNeg a0))] (rest := []) ml_RX10_177 mvX2_goal rfl dX10_next_72 rfl rfl rfl rfl rfl (Nat.le_of_ble_eq_true rfl) (by decide) V (fun r2 M2 V => ?_)
      exact rm_iret dX10_next_75 rfl rfl V
    · have V := V2 hc
      refine rj_aload_n dX10_next_32 0 rfl rfl ?_
      refine rs_getR (t := 1) fl_RX10_12 rfl (by decide) (by decide) rfl dX10_next_33 rfl (by omega) ?_
      refine rj_iconst (v := 3) dX10_next_36 (by decide) ?_
      refine rm_callVi [.int 3] (rest := []) ml_RX10_85 mvX1_tell rfl dX10_next_37 rfl rfl rfl rfl rfl (Nat.le_of_ble_eq_true rfl) (by decide) V (fun r2 M2 V => ?_)
      exact rm_iret dX10_next_40 rfl rfl V
  · have V := V2 hc
    refine rj_aload_n dX10_next_7 0 rfl rfl ?_
    refine rs_getR (t := 1) fl_RX10_12 rfl (by decide) (by decide) rfl dX10_next_8 rfl (by omega) ?_
    refine rj_iconst (v := 0) dX10_next_11 (by decide) ?_
    refine rm_callVi [.int 0] (rest := []) ml_RX10_85 mvX1_tell rfl dX10_next_12 rfl rfl rfl rfl rfl (Nat.le_of_ble_eq_true rfl) (by decide) V (fun r1 M1 V => ?_)
    exact rm_iret dX10_next_15 rfl rfl V
-- X10_pour
set_option maxRecDepth 100000 in
set_option maxHeartbeats 4000000 in
theorem vX10_pour_0 {w : Wd} {h : Nat} (hh : 1 ≤ h) (a0 : Int32) (a1 : Int32)  (M : Mem) (Q : Option Value → Mem → Prop) (V : ((¬ ((0 ≤ a0 ∧ a0 ≤ 7)) → (CSi w h kX1_tell [.ref 1, .int 0] M (fun r1 M1 => (Q (some (.int r1)) M1)))) ∧ ((0 ≤ a0 ∧ a0 ≤ 7) → (((1 ≤ a1 ∧ a1 ≤ 99) → (CSi w h kX0_isThere [.ref 8, .int a0] M (fun r1 M1 => ((¬ (r1 = 0) → (CSv w h kX0_addWater [.ref 8, .int a0, .int a1] M1 (fun M2 => (vp_in a0 8 ∧ (Q (some (.int (M2 11 (Int32.toNatClampNeg a0)))) M2))))) ∧ (r1 = 0 → (CSi w h kX1_tell [.ref 1, .int 3] M1 (fun r2 M2 => (Q (some (.int r2)) M2)))))))) ∧ (¬ ((1 ≤ a1 ∧ a1 ≤ 99)) → (CSi w h kX1_tell [.ref 1, .int 0] M (fun r1 M1 => (Q (some (.int r1)) M1)))))))) : RM w (h + 1) kX10_pour 0 [(0, .ref 0), (1, .int a0), (2, .int a1)] [] M Q := by
  refine rj_iload_n dX10_pour_0 1 rfl rfl ?_
  refine rm_callSi [.int a0] (rest := []) (K := fun x M' => b2i (0 ≤ a0 ∧ a0 ≤ 7) = x ∧ M = M') ml_RX10_152 mtX10_isDropNumber rfl dX10_pour_1 rfl rfl (Nat.le_of_ble_eq_true rfl) (by decide) (uX10_isDropNumber (by omega) ⟨rfl, rfl⟩) (fun x M' hx => ?_)
  obtain ⟨rfl, rfl⟩ := hx
  obtain ⟨V1, V2⟩ := V
  refine rs_if_eqB (tgt := 14) dX10_pour_4 (by decide) (fun hc => ?_) (fun hc => ?_)
  · have V := V1 hc
    refine rj_aload_n dX10_pour_14 0 rfl rfl ?_
    refine rs_getR (t := 1) fl_RX10_12 rfl (by decide) (by decide) rfl dX10_pour_15 rfl (by omega) ?_
    refine rj_iconst (v := 0) dX10_pour_18 (by decide) ?_
    refine rm_callVi [.int 0] (rest := []) ml_RX10_85 mvX1_tell rfl dX10_pour_19 rfl rfl rfl rfl rfl (Nat.le_of_ble_eq_true rfl) (by decide) V (fun r1 M1 V => ?_)
    exact rm_iret dX10_pour_22 rfl rfl V
  · have V := V2 hc
    refine rj_iload_n dX10_pour_7 2 rfl rfl ?_
    refine rm_callSi [.int a1] (rest := []) (K := fun x M' => b2i (1 ≤ a1 ∧ a1 ≤ 99) = x ∧ M = M') ml_RX10_181 mtX10_isWater rfl dX10_pour_8 rfl rfl (Nat.le_of_ble_eq_true rfl) (by decide) (uX10_isWater (by omega) ⟨rfl, rfl⟩) (fun x M' hx => ?_)
    obtain ⟨rfl, rfl⟩ := hx
    obtain ⟨V1, V2⟩ := V
    refine rs_if_neB (tgt := 23) dX10_pour_11 (by decide) (fun hc => ?_) (fun hc => ?_)
    · have V := V1 hc
      refine rj_aload_n dX10_pour_23 0 rfl rfl ?_
      refine rs_getR (t := 3) fl_RX10_19 rfl (by decide) (by decide) rfl dX10_pour_24 rfl (by omega) ?_
      refine rs_getR (t := 8) fl_RX10_102 rfl (by decide) (by decide) rfl dX10_pour_27 rfl (by omega) ?_
      refine rj_iload_n dX10_pour_30 1 rfl rfl ?_
      refine rm_callVi [.int a0] (rest := []) ml_RX10_155 mvX0_isThere rfl dX10_pour_31 rfl rfl rfl rfl rfl (Nat.le_of_ble_eq_true rfl) (by decide) V (fun r1 M1 V => ?_)
      obtain ⟨V1, V2⟩ := V
      refine rj_if_ne (tgt := 46) dX10_pour_34 (by decide) (fun hc => ?_) (fun hc => ?_)
      · have V := V1 hc
        refine rj_aload_n dX10_pour_46 0 rfl rfl ?_
        refine rs_getR (t := 3) fl_RX10_19 rfl (by decide) (by decide) rfl dX10_pour_47 rfl (by omega) ?_
        refine rs_getR (t := 8) fl_RX10_102 rfl (by decide) (by decide) rfl dX10_pour_50 rfl (by omega) ?_
        refine rj_iload_n dX10_pour_53 1 rfl rfl ?_
        refine rj_iload_n dX10_pour_54 2 rfl rfl ?_
        refine rm_callVv [.int a0, .int a1] (rest := []) ml_RX10_184 mvX0_addWater rfl dX10_pour_55 rfl rfl rfl rfl rfl (Nat.le_of_ble_eq_true rfl) (by decide) V (fun M2 V => ?_)
        refine rj_aload_n dX10_pour_58 0 rfl rfl ?_
        refine rs_getR (t := 3) fl_RX10_19 rfl (by decide) (by decide) rfl dX10_pour_59 rfl (by omega) ?_
        refine rs_getR (t := 8) fl_RX10_102 rfl (by decide) (by decide) rfl dX10_pour_62 rfl (by omega) ?_
        refine rs_getR (t := 11) fl_RX10_164 rfl (by decide) (by decide) rfl dX10_pour_65 rfl (by omega) ?_
        refine rj_iload_n dX10_pour_68 1 rfl rfl ?_
        obtain ⟨hb, V⟩ := V
        refine rs_iald dX10_pour_69 rfl hb ?_
        exact rm_iret dX10_pour_70 rfl rfl V
      · have V := V2 hc
        refine rj_aload_n dX10_pour_37 0 rfl rfl ?_
        refine rs_getR (t := 1) fl_RX10_12 rfl (by decide) (by decide) rfl dX10_pour_38 rfl (by omega) ?_
        refine rj_iconst (v := 3) dX10_pour_41 (by decide) ?_
        refine rm_callVi [.int 3] (rest := []) ml_RX10_85 mvX1_tell rfl dX10_pour_42 rfl rfl rfl rfl rfl (Nat.le_of_ble_eq_true rfl) (by decide) V (fun r2 M2 V => ?_)
        exact rm_iret dX10_pour_45 rfl rfl V
    · have V := V2 hc
      refine rj_aload_n dX10_pour_14 0 rfl rfl ?_
      refine rs_getR (t := 1) fl_RX10_12 rfl (by decide) (by decide) rfl dX10_pour_15 rfl (by omega) ?_
      refine rj_iconst (v := 0) dX10_pour_18 (by decide) ?_
      refine rm_callVi [.int 0] (rest := []) ml_RX10_85 mvX1_tell rfl dX10_pour_19 rfl rfl rfl rfl rfl (Nat.le_of_ble_eq_true rfl) (by decide) V (fun r1 M1 V => ?_)
      exact rm_iret dX10_pour_22 rfl rfl V
-- X10_shed
set_option maxRecDepth 100000 in
set_option maxHeartbeats 4000000 in
theorem vX10_shed_0 {w : Wd} {h : Nat} (hh : 1 ≤ h) (a0 : Int32)  (M : Mem) (Q : Option Value → Mem → Prop) (V : ((¬ (a0 = (-1)) → (((0 ≤ a0 ∧ a0 ≤ 11) → (vp_in a0 12 ∧ (Q (some (.int (M 18 (Int32.toNatClampNeg a0)))) M))) ∧ (¬ ((0 ≤ a0 ∧ a0 ≤ 11)) → (CSi w h kX1_tell [.ref 1, .int 0] M (fun r1 M1 => (Q (some (.int r1)) M1)))))) ∧ (a0 = (-1) → (CSi w h kX10_sumOf [.ref 18] M (fun r1 M1 => (Q (some (.int r1)) M1)))))) : RM w (h + 1) kX10_shed 0 [(0, .ref 0), (1, .int a0)] [] M Q := by
  refine rj_iload_n dX10_shed_0 1 rfl rfl ?_
  refine rj_iconst (v := (-1)) dX10_shed_1 (by decide) ?_
  obtain ⟨V1, V2⟩ := V
  refine rj_icmp_ne (tgt := 16) dX10_shed_2 (by decide) (fun hc => ?_) (fun hc => ?_)
  · have V := V1 hc
    refine rj_iload_n dX10_shed_16 1 rfl rfl ?_
    refine rm_callSi [.int a0] (rest := []) (K := fun x M' => b2i (0 ≤ a0 ∧ a0 ≤ 11) = x ∧ M = M') ml_RX10_139 mtX10_isColumn rfl dX10_shed_17 rfl rfl (Nat.le_of_ble_eq_true rfl) (by decide) (uX10_isColumn (by omega) ⟨rfl, rfl⟩) (fun x M' hx => ?_)
    obtain ⟨rfl, rfl⟩ := hx
    obtain ⟨V1, V2⟩ := V
    refine rs_if_neB (tgt := 32) dX10_shed_20 (by decide) (fun hc => ?_) (fun hc => ?_)
    · have V := V1 hc
      refine rj_aload_n dX10_shed_32 0 rfl rfl ?_
      refine rs_getR (t := 3) fl_RX10_19 rfl (by decide) (by decide) rfl dX10_shed_33 rfl (by omega) ?_
      refine rs_getR (t := 18) fl_RX10_188 rfl (by decide) (by decide) rfl dX10_shed_36 rfl (by omega) ?_
      refine rj_iload_n dX10_shed_39 1 rfl rfl ?_
      obtain ⟨hb, V⟩ := V
      refine rs_iald dX10_shed_40 rfl hb ?_
      exact rm_iret dX10_shed_41 rfl rfl V
    · have V := V2 hc
      refine rj_aload_n dX10_shed_23 0 rfl rfl ?_
      refine rs_getR (t := 1) fl_RX10_12 rfl (by decide) (by decide) rfl dX10_shed_24 rfl (by omega) ?_
      refine rj_iconst (v := 0) dX10_shed_27 (by decide) ?_
      refine rm_callVi [.int 0] (rest := []) ml_RX10_85 mvX1_tell rfl dX10_shed_28 rfl rfl rfl rfl rfl (Nat.le_of_ble_eq_true rfl) (by decide) V (fun r1 M1 V => ?_)
      exact rm_iret dX10_shed_31 rfl rfl V
  · have V := V2 hc
    refine rj_aload_n dX10_shed_5 0 rfl rfl ?_
    refine rs_getR (t := 3) fl_RX10_19 rfl (by decide) (by decide) rfl dX10_shed_6 rfl (by omega) ?_
    refine rs_getR (t := 18) fl_RX10_188 rfl (by decide) (by decide) rfl dX10_shed_9 rfl (by omega) ?_
    refine rm_callSi [.ref 18] (rest := []) ml_RX10_191 mtX10_sumOf rfl dX10_shed_12 rfl rfl (Nat.le_of_ble_eq_true rfl) (by decide) V (fun r1 M1 V => ?_)
    exact rm_iret dX10_shed_15 rfl rfl V
-- X10_feed
set_option maxRecDepth 100000 in
set_option maxHeartbeats 4000000 in
theorem vX10_feed_0 {w : Wd} {h : Nat} (a0 : Int32) (a1 : Int32)  (M : Mem) (Q : Option Value → Mem → Prop) (V : ((((1 : Int32) ≤ a1 ∧ a1 ≤ (4 : Int32)) → ((((M 37 1) + a1) ≤ 100 → (CSv w h kX7_append [.ref 37, .int a0, .int a1] M (fun M1 => (Q (some (.int (M1 37 1))) M1)))) ∧ (¬ (((M 37 1) + a1) ≤ 100) → (CSi w h kX1_tell [.ref 1, .int 1] M (fun r1 M1 => (Q (some (.int r1)) M1)))))) ∧ (¬ (((1 : Int32) ≤ a1 ∧ a1 ≤ (4 : Int32))) → (CSi w h kX1_tell [.ref 1, .int 0] M (fun r1 M1 => (Q (some (.int r1)) M1)))))) : RM w (h + 1) kX10_feed 0 [(0, .ref 0), (1, .int a0), (2, .int a1)] [] M Q := by
  refine rj_iload_n dX10_feed_0 2 rfl rfl ?_
  refine rj_iconst (v := 1) dX10_feed_1 (by decide) ?_
  refine rj_iconst (v := 4) dX10_feed_2 (by decide) ?_
  refine rm_callSi [.int a1, .int 1, .int 4] (rest := []) (K := fun x M' => b2i ((1 : Int32) ≤ a1 ∧ a1 ≤ (4 : Int32)) = x ∧ M = M') ml_RX10_81 mtX10_isWithin rfl dX10_feed_3 rfl rfl (Nat.le_of_ble_eq_true rfl) (by decide) (uX10_isWithin ⟨rfl, rfl⟩) (fun x M' hx => ?_)
  obtain ⟨rfl, rfl⟩ := hx
  obtain ⟨V1, V2⟩ := V
  refine rs_if_neB (tgt := 18) dX10_feed_6 (by decide) (fun hc => ?_) (fun hc => ?_)
  · have V := V1 hc
    refine rj_aload_n dX10_feed_18 0 rfl rfl ?_
    refine rs_getR (t := 37) fl_RX10_33 rfl (by decide) (by decide) rfl dX10_feed_19 rfl (by omega) ?_
    refine rs_getI fl_RX10_194 rfl (by decide) (by decide) rfl dX10_feed_22 rfl ?_
    refine rj_iload_n dX10_feed_25 2 rfl rfl ?_
    refine rj_iadd dX10_feed_26 ?_
    refine rj_bipush (v := 100) dX10_feed_27 (by decide) ?_
    obtain ⟨V1, V2⟩ := V
    refine rj_icmp_le (tgt := 41) dX10_feed_29 (by decide) (fun hc => ?_) (fun hc => ?_)
    · have V := V1 hc
      refine rj_aload_n dX10_feed_41 0 rfl rfl ?_
      refine rs_getR (t := 37) fl_RX10_33 rfl (by decide) (by decide) rfl dX10_feed_42 rfl (by omega) ?_
      refine rj_iload_n dX10_feed_45 1 rfl rfl ?_
      refine rj_iload_n dX10_feed_46 2 rfl rfl ?_
      refine rm_callVv [.int a0, .int a1] (rest := []) ml_RX10_197 mvX7_append rfl dX10_feed_47 rfl rfl rfl rfl rfl (Nat.le_of_ble_eq_true rfl) (by decide) V (fun M1 V => ?_)
      refine rj_aload_n dX10_feed_50 0 rfl rfl ?_
      refine rs_getR (t := 37) fl_RX10_33 rfl (by decide) (by decide) rfl dX10_feed_51 rfl (by omega) ?_
      refine rs_getI fl_RX10_194 rfl (by decide) (by decide) rfl dX10_feed_54 rfl ?_
      exact rm_iret dX10_feed_57 rfl rfl V
    · have V := V2 hc
      refine rj_aload_n dX10_feed_32 0 rfl rfl ?_
      refine rs_getR (t := 1) fl_RX10_12 rfl (by decide) (by decide) rfl dX10_feed_33 rfl (by omega) ?_
      refine rj_iconst (v := 1) dX10_feed_36 (by decide) ?_
      refine rm_callVi [.int 1] (rest := []) ml_RX10_85 mvX1_tell rfl dX10_feed_37 rfl rfl rfl rfl rfl (Nat.le_of_ble_eq_true rfl) (by decide) V (fun r1 M1 V => ?_)
      exact rm_iret dX10_feed_40 rfl rfl V
  · have V := V2 hc
    refine rj_aload_n dX10_feed_9 0 rfl rfl ?_
    refine rs_getR (t := 1) fl_RX10_12 rfl (by decide) (by decide) rfl dX10_feed_10 rfl (by omega) ?_
    refine rj_iconst (v := 0) dX10_feed_13 (by decide) ?_
    refine rm_callVi [.int 0] (rest := []) ml_RX10_85 mvX1_tell rfl dX10_feed_14 rfl rfl rfl rfl rfl (Nat.le_of_ble_eq_true rfl) (by decide) V (fun r1 M1 V => ?_)
    exact rm_iret dX10_feed_17 rfl rfl V
-- X10_wipe
set_option maxRecDepth 100000 in
set_option maxHeartbeats 4000000 in
theorem vX10_wipe_0 {w : Wd} {h : Nat}   (M : Mem) (Q : Option Value → Mem → Prop) (V : (∀ x1 : Int32, x1 = (M 37 1) → (∀ M1 : Mem, M1 = mset M 37 1 0 → (Q (some (.int x1)) M1)))) : RM w h kX10_wipe 0 [(0, .ref 0)] [] M Q := by
  refine rj_aload_n dX10_wipe_0 0 rfl rfl ?_
  refine rs_getR (t := 37) fl_RX10_33 rfl (by decide) (by decide) rfl dX10_wipe_1 rfl (by omega) ?_
  refine rs_getI fl_RX10_194 rfl (by decide) (by decide) rfl dX10_wipe_4 rfl ?_
  refine rj_top (fun x1 ex1 => ?_)
  have V := V x1 ex1
  refine rj_istore_n (lv' := [(0, .ref 0), (1, .int x1)]) dX10_wipe_7 rfl (by decide) rfl rfl ?_
  refine rj_aload_n dX10_wipe_8 0 rfl rfl ?_
  refine rs_getR (t := 37) fl_RX10_33 rfl (by decide) (by decide) rfl dX10_wipe_9 rfl (by omega) ?_
  refine rj_iconst (v := 0) dX10_wipe_12 (by decide) ?_
  refine rs_putI fl_RX10_194 (ft7_1 _ nofun) rfl (by decide) (by decide) rfl dX10_wipe_13 rfl rfl rfl (fun M1 eM1 => ?_)
  have V := V M1 eM1
  refine rj_iload_n dX10_wipe_16 1 rfl rfl ?_
  exact rm_iret dX10_wipe_17 rfl rfl V
-- X10_program
set_option maxRecDepth 100000 in
set_option maxHeartbeats 4000000 in
theorem vX10_program_0 {w : Wd} {h : Nat}   (M : Mem) (Q : Option Value → Mem → Prop) (V : (((M 13 0) < 6 → (CSi w h kX4_readText [.ref 39, .ref 13] M (fun r1 M1 => (∀ M2 : Mem, M2 = mset M1 37 1 0 → (Q (some (.int (if r1 = (-1) then ((M2 13 0) - 1) else ((-1) - r1)))) M2))))) ∧ (¬ ((M 13 0) < 6) → (CSi w h kX1_tell [.ref 1, .int 1] M (fun r1 M1 => (Q (some (.int r1)) M1)))))) : RM w (h + 1) kX10_program 0 [(0, .ref 0)] [] M Q := by
  refine rj_aload_n dX10_program_0 0 rfl rfl ?_
  refine rs_getR (t := 3) fl_RX10_19 rfl (by decide) (by decide) rfl dX10_program_1 rfl (by omega) ?_
  refine rs_getR (t := 13) fl_RX10_200 rfl (by decide) (by decide) rfl dX10_program_4 rfl (by omega) ?_
  refine rj_astore_n (lv' := [(0, .ref 0), (1, .ref 13)]) dX10_program_7 rfl (by decide) rfl rfl ?_
  refine rj_aload_n dX10_program_8 1 rfl rfl ?_
  refine rs_getI fl_RX10_204 rfl (by decide) (by decide) rfl dX10_program_9 rfl ?_
  refine rj_bipush (v := 6) dX10_program_12 (by decide) ?_
  obtain ⟨V1, V2⟩ := V
  refine rj_icmp_lt (tgt := 26) dX10_program_14 (by decide) (fun hc => ?_) (fun hc => ?_)
  · have V := V1 hc
    refine rj_aload_n dX10_program_26 0 rfl rfl ?_
    refine rs_getR (t := 39) fl_RX10_42 rfl (by decide) (by decide) rfl dX10_program_27 rfl (by omega) ?_
    refine rj_aload_n dX10_program_30 1 rfl rfl ?_
    refine rm_callVi [.ref 13] (rest := []) ml_RX10_209 mvX4_readText rfl dX10_program_31 rfl rfl rfl rfl rfl (Nat.le_of_ble_eq_true rfl) (by decide) V (fun r1 M1 V => ?_)
    refine rj_istore_n (lv' := [(0, .ref 0), (1, .ref 13), (2, .int r1)]) dX10_program_34 rfl (by decide) rfl rfl ?_
    refine rj_aload_n dX10_program_35 0 rfl rfl ?_
    refine rs_getR (t := 37) fl_RX10_33 rfl (by decide) (by decide) rfl dX10_program_36 rfl (by omega) ?_
    refine rj_iconst (v := 0) dX10_program_39 (by decide) ?_
    refine rs_putI fl_RX10_194 (ft7_1 _ nofun) rfl (by decide) (by decide) rfl dX10_program_40 rfl rfl rfl (fun M2 eM2 => ?_)
    have V := V M2 eM2
    refine rj_iload_n dX10_program_43 2 rfl rfl ?_
    refine rj_iconst (v := (-1)) dX10_program_44 (by decide) ?_
    have KD : RM w (h + 1) kX10_program 60 [(0, .ref 0), (1, .ref 13), (2, .int r1)] [.int (if r1 = (-1) then ((M2 13 0) - 1) else ((-1) - r1))] M2 Q := by
      exact rm_iret dX10_program_60 rfl rfl V
    refine rj_icmp_ne (tgt := 57) dX10_program_45 (by decide) (fun hc => ?_) (fun hc => ?_)
    · refine rj_iconst (v := (-1)) dX10_program_57 (by decide) ?_
      refine rj_iload_n dX10_program_58 2 rfl rfl ?_
      refine rj_isub dX10_program_59 ?_
      exact rs_ite_f hc KD
    · refine rj_aload_n dX10_program_48 1 rfl rfl ?_
      refine rs_getI fl_RX10_204 rfl (by decide) (by decide) rfl dX10_program_49 rfl ?_
      refine rj_iconst (v := 1) dX10_program_52 (by decide) ?_
      refine rj_isub dX10_program_53 ?_
      refine rj_goto (tgt := 60) dX10_program_54 (by decide) ?_
      exact rs_ite_t hc KD
  · have V := V2 hc
    refine rj_aload_n dX10_program_17 0 rfl rfl ?_
    refine rs_getR (t := 1) fl_RX10_12 rfl (by decide) (by decide) rfl dX10_program_18 rfl (by omega) ?_
    refine rj_iconst (v := 1) dX10_program_21 (by decide) ?_
    refine rm_callVi [.int 1] (rest := []) ml_RX10_85 mvX1_tell rfl dX10_program_22 rfl rfl rfl rfl rfl (Nat.le_of_ble_eq_true rfl) (by decide) V (fun r1 M1 V => ?_)
    exact rm_iret dX10_program_25 rfl rfl V
-- X10_programOf
set_option maxRecDepth 100000 in
set_option maxHeartbeats 4000000 in
theorem vX10_programOf_0 {w : Wd} {h : Nat} (a0 : Int32) (a1 : Int32)  (M : Mem) (Q : Option Value → Mem → Prop) (V : (CSi w h kX10_isProgram [.ref 0, .int a0] M (fun r1 M1 => ((r1 = 0 → (CSi w h kX1_tell [.ref 1, .int 0] M1 (fun r2 M2 => (Q (some (.int r2)) M2)))) ∧ (¬ (r1 = 0) → ((((0 : Int32) ≤ a1 ∧ a1 ≤ (1 : Int32)) → ((¬ (a1 = 0) → (CSi w h kX3_ticksOf [.ref 13, .int a0] M1 (fun r2 M2 => (Q (some (.int r2)) M2)))) ∧ (a1 = 0 → (vp_in a0 6 ∧ (Q (some (.int (M1 14 (Int32.toNatClampNeg a0)))) M1))))) ∧ (¬ (((0 : Int32) ≤ a1 ∧ a1 ≤ (1 : Int32))) → (CSi w h kX1_tell [.ref 1, .int 0] M1 (fun r2 M2 => (Q (some (.int r2)) M2)))))))))) : RM w (h + 1) kX10_programOf 0 [(0, .ref 0), (1, .int a0), (2, .int a1)] [] M Q := by
  refine rj_aload_n dX10_programOf_0 0 rfl rfl ?_
  refine rj_iload_n dX10_programOf_1 1 rfl rfl ?_
  refine rm_callVi [.int a0] (rest := []) ml_RX10_213 mvX10_isProgram rfl dX10_programOf_2 rfl rfl rfl rfl rfl (Nat.le_of_ble_eq_true rfl) (by decide) V (fun r1 M1 V => ?_)
  obtain ⟨V1, V2⟩ := V
  refine rj_if_eq (tgt := 17) dX10_programOf_5 (by decide) (fun hc => ?_) (fun hc => ?_)
  · have V := V1 hc
    refine rj_aload_n dX10_programOf_17 0 rfl rfl ?_
    refine rs_getR (t := 1) fl_RX10_12 rfl (by decide) (by decide) rfl dX10_programOf_18 rfl (by omega) ?_
    refine rj_iconst (v := 0) dX10_programOf_21 (by decide) ?_
    refine rm_callVi [.int 0] (rest := []) ml_RX10_85 mvX1_tell rfl dX10_programOf_22 rfl rfl rfl rfl rfl (Nat.le_of_ble_eq_true rfl) (by decide) V (fun r2 M2 V => ?_)
    exact rm_iret dX10_programOf_25 rfl rfl V
  · have V := V2 hc
    refine rj_iload_n dX10_programOf_8 2 rfl rfl ?_
    refine rj_iconst (v := 0) dX10_programOf_9 (by decide) ?_
    refine rj_iconst (v := 1) dX10_programOf_10 (by decide) ?_
    refine rm_callSi [.int a1, .int 0, .int 1] (rest := []) (K := fun x M' => b2i ((0 : Int32) ≤ a1 ∧ a1 ≤ (1 : Int32)) = x ∧ M1 = M') ml_RX10_81 mtX10_isWithin rfl dX10_programOf_11 rfl rfl (Nat.le_of_ble_eq_true rfl) (by decide) (uX10_isWithin ⟨rfl, rfl⟩) (fun x M' hx => ?_)
    obtain ⟨rfl, rfl⟩ := hx
    obtain ⟨V1, V2⟩ := V
    refine rs_if_neB (tgt := 26) dX10_programOf_14 (by decide) (fun hc => ?_) (fun hc => ?_)
    · have V := V1 hc
      refine rj_iload_n dX10_programOf_26 2 rfl rfl ?_
      obtain ⟨V1, V2⟩ := V
      refine rj_if_ne (tgt := 45) dX10_programOf_27 (by decide) (fun hc => ?_) (fun hc => ?_)
      · have V := V1 hc
        refine rj_aload_n dX10_programOf_45 0 rfl rfl ?_
        refine rs_getR (t := 3) fl_RX10_19 rfl (by decide) (by decide) rfl dX10_programOf_46 rfl (by omega) ?_
        refine rs_getR (t := 13) fl_RX10_200 rfl (by decide) (by decide) rfl dX10_programOf_49 rfl (by omega) ?_
        refine rj_iload_n dX10_programOf_52 1 rfl rfl ?_
        refine rm_callVi [.int a0] (rest := []) ml_RX10_219 mvX3_ticksOf rfl dX10_programOf_53 rfl rfl rfl rfl rfl (Nat.le_of_ble_eq_true rfl) (by decide) V (fun r2 M2 V => ?_)
        exact rm_iret dX10_programOf_56 rfl rfl V
      · have V := V2 hc
        refine rj_aload_n dX10_programOf_30 0 rfl rfl ?_
        refine rs_getR (t := 3) fl_RX10_19 rfl (by decide) (by decide) rfl dX10_programOf_31 rfl (by omega) ?_
        refine rs_getR (t := 13) fl_RX10_200 rfl (by decide) (by decide) rfl dX10_programOf_34 rfl (by omega) ?_
        refine rs_getR (t := 14) fl_RX10_216 rfl (by decide) (by decide) rfl dX10_programOf_37 rfl (by omega) ?_
        refine rj_iload_n dX10_programOf_40 1 rfl rfl ?_
        obtain ⟨hb, V⟩ := V
        refine rs_iald dX10_programOf_41 rfl hb ?_
        refine rj_goto (tgt := 56) dX10_programOf_42 (by decide) ?_
        exact rm_iret dX10_programOf_56 rfl rfl V
    · have V := V2 hc
      refine rj_aload_n dX10_programOf_17 0 rfl rfl ?_
      refine rs_getR (t := 1) fl_RX10_12 rfl (by decide) (by decide) rfl dX10_programOf_18 rfl (by omega) ?_
      refine rj_iconst (v := 0) dX10_programOf_21 (by decide) ?_
      refine rm_callVi [.int 0] (rest := []) ml_RX10_85 mvX1_tell rfl dX10_programOf_22 rfl rfl rfl rfl rfl (Nat.le_of_ble_eq_true rfl) (by decide) V (fun r2 M2 V => ?_)
      exact rm_iret dX10_programOf_25 rfl rfl V
-- X10_play
set_option maxRecDepth 100000 in
set_option maxHeartbeats 4000000 in
theorem vX10_play_0 {w : Wd} {h : Nat} (a0 : Int32)  (M : Mem) (Q : Option Value → Mem → Prop) (V : (CSi w h kX10_isProgram [.ref 0, .int a0] M (fun r1 M1 => ((¬ (r1 = 0) → (vp_in a0 6 ∧ (∀ x1 : Int32, x1 = (M1 14 (Int32.toNatClampNeg a0)) → RM w (h + 1) kX10_play 32 [(0, .ref 0), (1, .int a0), (2, .int x1), (3, .int 0)] [] M1 Q))) ∧ (r1 = 0 → (CSi w h kX1_tell [.ref 1, .int 0] M1 (fun r2 M2 => (Q (some (.int r2)) M2)))))))) : RM w (h + 1) kX10_play 0 [(0, .ref 0), (1, .int a0)] [] M Q := by
  refine rj_aload_n dX10_play_0 0 rfl rfl ?_
  refine rj_iload_n dX10_play_1 1 rfl rfl ?_
  refine rm_callVi [.int a0] (rest := []) ml_RX10_213 mvX10_isProgram rfl dX10_play_2 rfl rfl rfl rfl rfl (Nat.le_of_ble_eq_true rfl) (by decide) V (fun r1 M1 V => ?_)
  obtain ⟨V1, V2⟩ := V
  refine rj_if_ne (tgt := 17) dX10_play_5 (by decide) (fun hc => ?_) (fun hc => ?_)
  · have V := V1 hc
    refine rj_aload_n dX10_play_17 0 rfl rfl ?_
    refine rs_getR (t := 3) fl_RX10_19 rfl (by decide) (by decide) rfl dX10_play_18 rfl (by omega) ?_
    refine rs_getR (t := 13) fl_RX10_200 rfl (by decide) (by decide) rfl dX10_play_21 rfl (by omega) ?_
    refine rs_getR (t := 14) fl_RX10_216 rfl (by decide) (by decide) rfl dX10_play_24 rfl (by omega) ?_
    refine rj_iload_n dX10_play_27 1 rfl rfl ?_
    obtain ⟨hb, V⟩ := V
    refine rs_iald dX10_play_28 rfl hb ?_
    refine rj_top (fun x1 ex1 => ?_)
    have V := V x1 ex1
    refine rj_istore_n (lv' := [(0, .ref 0), (1, .int a0), (2, .int x1)]) dX10_play_29 rfl (by decide) rfl rfl ?_
    refine rj_iconst (v := 0) dX10_play_30 (by decide) ?_
    refine rj_istore_n (lv' := [(0, .ref 0), (1, .int a0), (2, .int x1), (3, .int 0)]) dX10_play_31 rfl (by decide) rfl rfl ?_
    exact rs_sub [0, 1, 2, 3] rfl V
  · have V := V2 hc
    refine rj_aload_n dX10_play_8 0 rfl rfl ?_
    refine rs_getR (t := 1) fl_RX10_12 rfl (by decide) (by decide) rfl dX10_play_9 rfl (by omega) ?_
    refine rj_iconst (v := 0) dX10_play_12 (by decide) ?_
    refine rm_callVi [.int 0] (rest := []) ml_RX10_85 mvX1_tell rfl dX10_play_13 rfl rfl rfl rfl rfl (Nat.le_of_ble_eq_true rfl) (by decide) V (fun r2 M2 V => ?_)
    exact rm_iret dX10_play_16 rfl rfl V
set_option maxRecDepth 100000 in
set_option maxHeartbeats 4000000 in
theorem vX10_play_32 {w : Wd} {h : Nat} (v1 : Int32) (v2 : Int32) (v3 : Int32)  (M : Mem) (Q : Option Value → Mem → Prop) (V : ((v2 ≤ v3 → (CSi w h kX0_howMany [.ref 8] M (fun r1 M1 => (Q (some (.int r1)) M1)))) ∧ (¬ (v2 ≤ v3) → (CSv w h kX5_perform [.ref 3, .int ((v1 * 12) + v3)] M (fun M1 => (∀ x1 : Int32, x1 = v3 + 1 → RM w (h + 1) kX10_play 32 [(0, .ref 0), (1, .int v1), (2, .int v2), (3, .int x1)] [] M1 Q)))))) : RM w (h + 1) kX10_play 32 [(0, .ref 0), (1, .int v1), (2, .int v2), (3, .int v3)] [] M Q := by
  refine rj_iload_n dX10_play_32 3 rfl rfl ?_
  refine rj_iload_n dX10_play_33 2 rfl rfl ?_
  obtain ⟨V1, V2⟩ := V
  refine rj_icmp_ge (tgt := 56) dX10_play_34 (by decide) (fun hc => ?_) (fun hc => ?_)
  · have V := V1 hc
    refine rj_aload_n dX10_play_56 0 rfl rfl ?_
    refine rs_getR (t := 3) fl_RX10_19 rfl (by decide) (by decide) rfl dX10_play_57 rfl (by omega) ?_
    refine rs_getR (t := 8) fl_RX10_102 rfl (by decide) (by decide) rfl dX10_play_60 rfl (by omega) ?_
    refine rm_callVi [] (rest := []) ml_RX10_174 mvX0_howMany rfl dX10_play_63 rfl rfl rfl rfl rfl (Nat.le_of_ble_eq_true rfl) (by decide) V (fun r1 M1 V => ?_)
    exact rm_iret dX10_play_66 rfl rfl V
  · have V := V2 hc
    refine rj_aload_n dX10_play_37 0 rfl rfl ?_
    refine rs_getR (t := 3) fl_RX10_19 rfl (by decide) (by decide) rfl dX10_play_38 rfl (by omega) ?_
    refine rj_iload_n dX10_play_41 1 rfl rfl ?_
    refine rj_bipush (v := 12) dX10_play_42 (by decide) ?_
    refine rj_imul dX10_play_44 ?_
    refine rj_iload_n dX10_play_45 3 rfl rfl ?_
    refine rj_iadd dX10_play_46 ?_
    refine rm_callVv [.int ((v1 * 12) + v3)] (rest := []) ml_RX10_222 mvX5_perform rfl dX10_play_47 rfl rfl rfl rfl rfl (Nat.le_of_ble_eq_true rfl) (by decide) V (fun M1 V => ?_)
    refine rj_iincV (c := 1) (fun y => [(0, .ref 0), (1, .int v1), (2, .int v2), (3, .int y)]) dX10_play_50 3 rfl (by decide) (by decide) rfl (fun _ => rfl) (fun x1 ex1 => ?_)
    have V := V x1 ex1
    refine rj_goto (tgt := 32) dX10_play_53 (by decide) ?_
    exact rs_sub [0, 1, 2, 3] rfl V
-- X10_path
set_option maxRecDepth 100000 in
set_option maxHeartbeats 4000000 in
theorem vX10_path_0 {w : Wd} {h : Nat} (hh : 2 ≤ h) (a0 : Int32) (a1 : Int32) (a2 : Int32) (a3 : Int32)  (M : Mem) (Q : Option Value → Mem → Prop) (V : ((¬ (((0 ≤ a0 ∧ a0 ≤ 7) ∧ (0 ≤ a1 ∧ a1 ≤ 11) ∧ (1 ≤ a2 ∧ a2 ≤ 99))) → (CSi w h kX1_tell [.ref 1, .int 0] M (fun r1 M1 => (Q (some (.int r1)) M1)))) ∧ (((0 ≤ a0 ∧ a0 ≤ 7) ∧ (0 ≤ a1 ∧ a1 ≤ 11) ∧ (1 ≤ a2 ∧ a2 ≤ 99)) → ((((0 : Int32) ≤ a3 ∧ a3 ≤ (3 : Int32)) → (CSv w h kX8_follow [.ref 53, .ref 4, .int a0, .int a1, .int a2] M (fun M1 => ((a3 = 0 → (Q (some (.int (M1 53 3))) M1)) ∧ (¬ a3 = 0 → ((a3 = 1 → (Q (some (.int (M1 53 1))) M1)) ∧ (¬ a3 = 1 → ((a3 = 2 → (CSi w h kX8_lastCell [.ref 53] M1 (fun r1 M2 => (Q (some (.int r1)) M2)))) ∧ (¬ a3 = 2 → (Q (some (.int (M1 53 2))) M1)))))))))) ∧ (¬ (((0 : Int32) ≤ a3 ∧ a3 ≤ (3 : Int32))) → (CSi w h kX1_tell [.ref 1, .int 0] M (fun r1 M1 => (Q (some (.int r1)) M1)))))))) : RM w (h + 1) kX10_path 0 [(0, .ref 0), (1, .int a0), (2, .int a1), (3, .int a2), (4, .int a3)] [] M Q := by
  refine rj_iload_n dX10_path_0 1 rfl rfl ?_
  refine rj_iload_n dX10_path_1 2 rfl rfl ?_
  refine rj_iload_n dX10_path_2 3 rfl rfl ?_
  refine rm_callSi [.int a0, .int a1, .int a2] (rest := []) (K := fun x M' => b2i ((0 ≤ a0 ∧ a0 ≤ 7) ∧ (0 ≤ a1 ∧ a1 ≤ 11) ∧ (1 ≤ a2 ∧ a2 ≤ 99)) = x ∧ M = M') ml_RX10_145 mtX10_isStart rfl dX10_path_3 rfl rfl (Nat.le_of_ble_eq_true rfl) (by decide) (uX10_isStart (by omega) ⟨rfl, rfl⟩) (fun x M' hx => ?_)
  obtain ⟨rfl, rfl⟩ := hx
  obtain ⟨V1, V2⟩ := V
  refine rs_if_eqB (tgt := 19) dX10_path_6 (by decide) (fun hc => ?_) (fun hc => ?_)
  · have V := V1 hc
    refine rj_aload_n dX10_path_19 0 rfl rfl ?_
    refine rs_getR (t := 1) fl_RX10_12 rfl (by decide) (by decide) rfl dX10_path_20 rfl (by omega) ?_
    refine rj_iconst (v := 0) dX10_path_23 (by decide) ?_
    refine rm_callVi [.int 0] (rest := []) ml_RX10_85 mvX1_tell rfl dX10_path_24 rfl rfl rfl rfl rfl (Nat.le_of_ble_eq_true rfl) (by decide) V (fun r1 M1 V => ?_)
    exact rm_iret dX10_path_27 rfl rfl V
  · have V := V2 hc
    refine rj_iload dX10_path_9 4 rfl ?_
    refine rj_iconst (v := 0) dX10_path_11 (by decide) ?_
    refine rj_iconst (v := 3) dX10_path_12 (by decide) ?_
    refine rm_callSi [.int a3, .int 0, .int 3] (rest := []) (K := fun x M' => b2i ((0 : Int32) ≤ a3 ∧ a3 ≤ (3 : Int32)) = x ∧ M = M') ml_RX10_81 mtX10_isWithin rfl dX10_path_13 rfl rfl (Nat.le_of_ble_eq_true rfl) (by decide) (uX10_isWithin ⟨rfl, rfl⟩) (fun x M' hx => ?_)
    obtain ⟨rfl, rfl⟩ := hx
    obtain ⟨V1, V2⟩ := V
    refine rs_if_neB (tgt := 28) dX10_path_16 (by decide) (fun hc => ?_) (fun hc => ?_)
    · have V := V1 hc
      refine rj_aload_n dX10_path_28 0 rfl rfl ?_
      refine rs_getR (t := 53) fl_RX10_63 rfl (by decide) (by decide) rfl dX10_path_29 rfl (by omega) ?_
      refine rj_aload_n dX10_path_32 0 rfl rfl ?_
      refine rs_getR (t := 3) fl_RX10_19 rfl (by decide) (by decide) rfl dX10_path_33 rfl (by omega) ?_
      refine rs_getR (t := 4) fl_RX10_89 rfl (by decide) (by decide) rfl dX10_path_36 rfl (by omega) ?_
      refine rj_iload_n dX10_path_39 1 rfl rfl ?_
      refine rj_iload_n dX10_path_40 2 rfl rfl ?_
      refine rj_iload_n dX10_path_41 3 rfl rfl ?_
      refine rm_callVv [.ref 4, .int a0, .int a1, .int a2] (rest := []) ml_RX10_225 mvX8_follow rfl dX10_path_42 rfl rfl rfl rfl rfl (Nat.le_of_ble_eq_true rfl) (by decide) V (fun M1 V => ?_)
      refine rj_iload dX10_path_45 4 rfl ?_
      obtain ⟨V1, V2⟩ := V
      by_cases w0 : a3 = 0
      · have V := V1 w0
        refine rs_at w0 ?_
        refine rj_tableIn (off := 25) (tgt := 72) dX10_path_47 (by decide) (by decide) (by decide) (by decide) ?_
        refine rj_aload_n dX10_path_72 0 rfl rfl ?_
        refine rs_getR (t := 53) fl_RX10_63 rfl (by decide) (by decide) rfl dX10_path_73 rfl (by omega) ?_
        refine rs_getI fl_RX10_229 rfl (by decide) (by decide) rfl dX10_path_76 rfl ?_
        exact rm_iret dX10_path_79 rfl rfl V
      · have V := V2 w0
        obtain ⟨V1, V2⟩ := V
        by_cases w1 : a3 = 1
        · have V := V1 w1
          refine rs_at w1 ?_
          refine rj_tableIn (off := 33) (tgt := 80) dX10_path_47 (by decide) (by decide) (by decide) (by decide) ?_
          refine rj_aload_n dX10_path_80 0 rfl rfl ?_
          refine rs_getR (t := 53) fl_RX10_63 rfl (by decide) (by decide) rfl dX10_path_81 rfl (by omega) ?_
          refine rs_getI fl_RX10_232 rfl (by decide) (by decide) rfl dX10_path_84 rfl ?_
          exact rm_iret dX10_path_87 rfl rfl V
        · have V := V2 w1
          obtain ⟨V1, V2⟩ := V
          by_cases w2 : a3 = 2
          · have V := V1 w2
            refine rs_at w2 ?_
            refine rj_tableIn (off := 41) (tgt := 88) dX10_path_47 (by decide) (by decide) (by decide) (by decide) ?_
            refine rj_aload_n dX10_path_88 0 rfl rfl ?_
            refine rs_getR (t := 53) fl_RX10_63 rfl (by decide) (by decide) rfl dX10_path_89 rfl (by omega) ?_
            refine rm_callVi [] (rest := []) ml_RX10_234 mvX8_lastCell rfl dX10_path_92 rfl rfl rfl rfl rfl (Nat.le_of_ble_eq_true rfl) (by decide) V (fun r1 M2 V => ?_)
            exact rm_iret dX10_path_95 rfl rfl V
          · have V := V2 w2
            refine rj_tableOut (tgt := 96) dX10_path_47 (by have n0 := lv_neT (a := 0) w0 (by decide); have n1 := lv_neT (a := 1) w1 (by decide); have n2 := lv_neT (a := 2) w2 (by decide); omega) (by decide) ?_
            refine rj_aload_n dX10_path_96 0 rfl rfl ?_
            refine rs_getR (t := 53) fl_RX10_63 rfl (by decide) (by decide) rfl dX10_path_97 rfl (by omega) ?_
            refine rs_getI fl_RX10_237 rfl (by decide) (by decide) rfl dX10_path_100 rfl ?_
            exact rm_iret dX10_path_103 rfl rfl V
    · have V := V2 hc
      refine rj_aload_n dX10_path_19 0 rfl rfl ?_
      refine rs_getR (t := 1) fl_RX10_12 rfl (by decide) (by decide) rfl dX10_path_20 rfl (by omega) ?_
      refine rj_iconst (v := 0) dX10_path_23 (by decide) ?_
      refine rm_callVi [.int 0] (rest := []) ml_RX10_85 mvX1_tell rfl dX10_path_24 rfl rfl rfl rfl rfl (Nat.le_of_ble_eq_true rfl) (by decide) V (fun r1 M1 V => ?_)
      exact rm_iret dX10_path_27 rfl rfl V
-- X10_along
set_option maxRecDepth 100000 in
set_option maxHeartbeats 4000000 in
theorem vX10_along_0 {w : Wd} {h : Nat} (hh : 2 ≤ h) (a0 : Int32) (a1 : Int32) (a2 : Int32) (a3 : Int32)  (M : Mem) (Q : Option Value → Mem → Prop) (V : ((¬ (((0 ≤ a0 ∧ a0 ≤ 7) ∧ (0 ≤ a1 ∧ a1 ≤ 11) ∧ (1 ≤ a2 ∧ a2 ≤ 99))) → (CSi w h kX1_tell [.ref 1, .int 0] M (fun r1 M1 => (Q (some (.int r1)) M1)))) ∧ (((0 ≤ a0 ∧ a0 ≤ 7) ∧ (0 ≤ a1 ∧ a1 ≤ 11) ∧ (1 ≤ a2 ∧ a2 ≤ 99)) → ((((0 : Int32) ≤ a3 ∧ a3 ≤ (64 : Int32)) → (CSv w h kX8_follow [.ref 53, .ref 4, .int a0, .int a1, .int a2] M (fun M1 => (CSi w h kX8_cellBehind [.ref 53, .int a3] M1 (fun r1 M2 => ((¬ (r1 = (-2)) → (Q (some (.int r1)) M2)) ∧ (r1 = (-2) → (CSi w h kX1_tell [.ref 1, .int 3] M2 (fun r2 M3 => (Q (some (.int r2)) M3)))))))))) ∧ (¬ (((0 : Int32) ≤ a3 ∧ a3 ≤ (64 : Int32))) → (CSi w h kX1_tell [.ref 1, .int 0] M (fun r1 M1 => (Q (some (.int r1)) M1)))))))) : RM w (h + 1) kX10_along 0 [(0, .ref 0), (1, .int a0), (2, .int a1), (3, .int a2), (4, .int a3)] [] M Q := by
  refine rj_iload_n dX10_along_0 1 rfl rfl ?_
  refine rj_iload_n dX10_along_1 2 rfl rfl ?_
  refine rj_iload_n dX10_along_2 3 rfl rfl ?_
  refine rm_callSi [.int a0, .int a1, .int a2] (rest := []) (K := fun x M' => b2i ((0 ≤ a0 ∧ a0 ≤ 7) ∧ (0 ≤ a1 ∧ a1 ≤ 11) ∧ (1 ≤ a2 ∧ a2 ≤ 99)) = x ∧ M = M') ml_RX10_145 mtX10_isStart rfl dX10_along_3 rfl rfl (Nat.le_of_ble_eq_true rfl) (by decide) (uX10_isStart (by omega) ⟨rfl, rfl⟩) (fun x M' hx => ?_)
  obtain ⟨rfl, rfl⟩ := hx
  obtain ⟨V1, V2⟩ := V
  refine rs_if_eqB (tgt := 20) dX10_along_6 (by decide) (fun hc => ?_) (fun hc => ?_)
  · have V := V1 hc
    refine rj_aload_n dX10_along_20 0 rfl rfl ?_
    refine rs_getR (t := 1) fl_RX10_12 rfl (by decide) (by decide) rfl dX10_along_21 rfl (by omega) ?_
    refine rj_iconst (v := 0) dX10_along_24 (by decide) ?_
    refine rm_callVi [.int 0] (rest := []) ml_RX10_85 mvX1_tell rfl dX10_along_25 rfl rfl rfl rfl rfl (Nat.le_of_ble_eq_true rfl) (by decide) V (fun r1 M1 V => ?_)
    exact rm_iret dX10_along_28 rfl rfl V
  · have V := V2 hc
    refine rj_iload dX10_along_9 4 rfl ?_
    refine rj_iconst (v := 0) dX10_along_11 (by decide) ?_
    refine rj_bipush (v := 64) dX10_along_12 (by decide) ?_
    refine rm_callSi [.int a3, .int 0, .int 64] (rest := []) (K := fun x M' => b2i ((0 : Int32) ≤ a3 ∧ a3 ≤ (64 : Int32)) = x ∧ M = M') ml_RX10_81 mtX10_isWithin rfl dX10_along_14 rfl rfl (Nat.le_of_ble_eq_true rfl) (by decide) (uX10_isWithin ⟨rfl, rfl⟩) (fun x M' hx => ?_)
    obtain ⟨rfl, rfl⟩ := hx
    obtain ⟨V1, V2⟩ := V
    refine rs_if_neB (tgt := 29) dX10_along_17 (by decide) (fun hc => ?_) (fun hc => ?_)
    · have V := V1 hc
      refine rj_aload_n dX10_along_29 0 rfl rfl ?_
      refine rs_getR (t := 53) fl_RX10_63 rfl (by decide) (by decide) rfl dX10_along_30 rfl (by omega) ?_
      refine rj_aload_n dX10_along_33 0 rfl rfl ?_
      refine rs_getR (t := 3) fl_RX10_19 rfl (by decide) (by decide) rfl dX10_along_34 rfl (by omega) ?_
      refine rs_getR (t := 4) fl_RX10_89 rfl (by decide) (by decide) rfl dX10_along_37 rfl (by omega) ?_
      refine rj_iload_n dX10_along_40 1 rfl rfl ?_
      refine rj_iload_n dX10_along_41 2 rfl rfl ?_
      refine rj_iload_n dX10_along_42 3 rfl rfl ?_
      refine rm_callVv [.ref 4, .int a0, .int a1, .int a2] (rest := []) ml_RX10_225 mvX8_follow rfl dX10_along_43 rfl rfl rfl rfl rfl (Nat.le_of_ble_eq_true rfl) (by decide) V (fun M1 V => ?_)
      refine rj_aload_n dX10_along_46 0 rfl rfl ?_
      refine rs_getR (t := 53) fl_RX10_63 rfl (by decide) (by decide) rfl dX10_along_47 rfl (by omega) ?_
      refine rj_iload dX10_along_50 4 rfl ?_
      refine rm_callVi [.int a3] (rest := []) ml_RX10_239 mvX8_cellBehind rfl dX10_along_52 rfl rfl rfl rfl rfl (Nat.le_of_ble_eq_true rfl) (by decide) V (fun r1 M2 V => ?_)
      refine rj_istore (lv' := [(0, .ref 0), (1, .int a0), (2, .int a1), (3, .int a2), (4, .int a3), (5, .int r1)]) dX10_along_55 (by decide) rfl rfl ?_
      refine rj_iload dX10_along_57 5 rfl ?_
      refine rj_bipush (v := (-2)) dX10_along_59 (by decide) ?_
      obtain ⟨V1, V2⟩ := V
      refine rj_icmp_ne (tgt := 75) dX10_along_61 (by decide) (fun hc => ?_) (fun hc => ?_)
      · have V := V1 hc
        refine rj_iload dX10_along_75 5 rfl ?_
        exact rm_iret dX10_along_77 rfl rfl V
      · have V := V2 hc
        refine rj_aload_n dX10_along_64 0 rfl rfl ?_
        refine rs_getR (t := 1) fl_RX10_12 rfl (by decide) (by decide) rfl dX10_along_65 rfl (by omega) ?_
        refine rj_iconst (v := 3) dX10_along_68 (by decide) ?_
        refine rm_callVi [.int 3] (rest := []) ml_RX10_85 mvX1_tell rfl dX10_along_69 rfl rfl rfl rfl rfl (Nat.le_of_ble_eq_true rfl) (by decide) V (fun r2 M3 V => ?_)
        refine rj_goto (tgt := 77) dX10_along_72 (by decide) ?_
        exact rm_iret dX10_along_77 rfl rfl V
    · have V := V2 hc
      refine rj_aload_n dX10_along_20 0 rfl rfl ?_
      refine rs_getR (t := 1) fl_RX10_12 rfl (by decide) (by decide) rfl dX10_along_21 rfl (by omega) ?_
      refine rj_iconst (v := 0) dX10_along_24 (by decide) ?_
      refine rm_callVi [.int 0] (rest := []) ml_RX10_85 mvX1_tell rfl dX10_along_25 rfl rfl rfl rfl rfl (Nat.le_of_ble_eq_true rfl) (by decide) V (fun r1 M1 V => ?_)
      exact rm_iret dX10_along_28 rfl rfl V
-- X10_least
set_option maxRecDepth 100000 in
set_option maxHeartbeats 4000000 in
theorem vX10_least_0 {w : Wd} {h : Nat} (hh : 1 ≤ h) (a0 : Int32) (a1 : Int32) (a2 : Int32)  (M : Mem) (Q : Option Value → Mem → Prop) (V : ((¬ ((0 ≤ a0 ∧ a0 ≤ 7)) → (CSi w h kX1_tell [.ref 1, .int 0] M (fun r1 M1 => (Q (some (.int r1)) M1)))) ∧ ((0 ≤ a0 ∧ a0 ≤ 7) → (((0 ≤ a1 ∧ a1 ≤ 11) → (CSv w h kX2_become [.ref 49, .ref 4] M (fun M1 => ((a2 = 0 → RM w (h + 1) kX10_least 55 [(0, .ref 0), (1, .int a0), (2, .int a1), (4, .int 1)] [] M1 Q) ∧ (¬ (a2 = 0) → (CSv w h kJ7_fill_53178 [.ref 51, .int 0] M1 (fun M2 => RM w (h + 1) kX10_least 55 [(0, .ref 0), (1, .int a0), (2, .int a1), (4, .int 1)] [] M2 Q))))))) ∧ (¬ ((0 ≤ a1 ∧ a1 ≤ 11)) → (CSi w h kX1_tell [.ref 1, .int 0] M (fun r1 M1 => (Q (some (.int r1)) M1)))))))) : RM w (h + 1) kX10_least 0 [(0, .ref 0), (1, .int a0), (2, .int a1), (3, .int a2)] [] M Q := by
  refine rj_iload_n dX10_least_0 1 rfl rfl ?_
  refine rm_callSi [.int a0] (rest := []) (K := fun x M' => b2i (0 ≤ a0 ∧ a0 ≤ 7) = x ∧ M = M') ml_RX10_242 mtX10_isKind rfl dX10_least_1 rfl rfl (Nat.le_of_ble_eq_true rfl) (by decide) (uX10_isKind (by omega) ⟨rfl, rfl⟩) (fun x M' hx => ?_)
  obtain ⟨rfl, rfl⟩ := hx
  obtain ⟨V1, V2⟩ := V
  refine rs_if_eqB (tgt := 14) dX10_least_4 (by decide) (fun hc => ?_) (fun hc => ?_)
  · have V := V1 hc
    refine rj_aload_n dX10_least_14 0 rfl rfl ?_
    refine rs_getR (t := 1) fl_RX10_12 rfl (by decide) (by decide) rfl dX10_least_15 rfl (by omega) ?_
    refine rj_iconst (v := 0) dX10_least_18 (by decide) ?_
    refine rm_callVi [.int 0] (rest := []) ml_RX10_85 mvX1_tell rfl dX10_least_19 rfl rfl rfl rfl rfl (Nat.le_of_ble_eq_true rfl) (by decide) V (fun r1 M1 V => ?_)
    exact rm_iret dX10_least_22 rfl rfl V
  · have V := V2 hc
    refine rj_iload_n dX10_least_7 2 rfl rfl ?_
    refine rm_callSi [.int a1] (rest := []) (K := fun x M' => b2i (0 ≤ a1 ∧ a1 ≤ 11) = x ∧ M = M') ml_RX10_139 mtX10_isColumn rfl dX10_least_8 rfl rfl (Nat.le_of_ble_eq_true rfl) (by decide) (uX10_isColumn (by omega) ⟨rfl, rfl⟩) (fun x M' hx => ?_)
    obtain ⟨rfl, rfl⟩ := hx
    obtain ⟨V1, V2⟩ := V
    refine rs_if_neB (tgt := 23) dX10_least_11 (by decide) (fun hc => ?_) (fun hc => ?_)
    · have V := V1 hc
      refine rj_aload_n dX10_least_23 0 rfl rfl ?_
      refine rs_getR (t := 49) fl_RX10_56 rfl (by decide) (by decide) rfl dX10_least_24 rfl (by omega) ?_
      refine rj_aload_n dX10_least_27 0 rfl rfl ?_
      refine rs_getR (t := 3) fl_RX10_19 rfl (by decide) (by decide) rfl dX10_least_28 rfl (by omega) ?_
      refine rs_getR (t := 4) fl_RX10_89 rfl (by decide) (by decide) rfl dX10_least_31 rfl (by omega) ?_
      refine rm_callVv [.ref 4] (rest := []) ml_RX10_245 mvX2_become rfl dX10_least_34 rfl rfl rfl rfl rfl (Nat.le_of_ble_eq_true rfl) (by decide) V (fun M1 V => ?_)
      refine rj_iload_n dX10_least_37 3 rfl rfl ?_
      obtain ⟨V1, V2⟩ := V
      refine rj_if_eq (tgt := 52) dX10_least_38 (by decide) (fun hc => ?_) (fun hc => ?_)
      · have V := V1 hc
        refine rj_iconst (v := 1) dX10_least_52 (by decide) ?_
        refine rj_istore (lv' := [(0, .ref 0), (1, .int a0), (2, .int a1), (3, .int a2), (4, .int 1)]) dX10_least_53 (by decide) rfl rfl ?_
        exact rs_sub [0, 1, 2, 4] rfl V
      · have V := V2 hc
        refine rj_aload_n dX10_least_41 0 rfl rfl ?_
        refine rs_getR (t := 49) fl_RX10_56 rfl (by decide) (by decide) rfl dX10_least_42 rfl (by omega) ?_
        refine rs_getR (t := 51) fl_RX10_96 rfl (by decide) (by decide) rfl dX10_least_45 rfl (by omega) ?_
        refine rj_iconst (v := 0) dX10_least_48 (by decide) ?_
        refine rm_callSv [.ref 51, .int 0] (rest := []) ml_RX10_249 mtJ7_fill_53178 rfl dX10_least_49 rfl rfl (Nat.le_of_ble_eq_true rfl) (by decide) V (fun M2 V => ?_)
        refine rj_iconst (v := 1) dX10_least_52 (by decide) ?_
        refine rj_istore (lv' := [(0, .ref 0), (1, .int a0), (2, .int a1), (3, .int a2), (4, .int 1)]) dX10_least_53 (by decide) rfl rfl ?_
        exact rs_sub [0, 1, 2, 4] rfl V
    · have V := V2 hc
      refine rj_aload_n dX10_least_14 0 rfl rfl ?_
      refine rs_getR (t := 1) fl_RX10_12 rfl (by decide) (by decide) rfl dX10_least_15 rfl (by omega) ?_
      refine rj_iconst (v := 0) dX10_least_18 (by decide) ?_
      refine rm_callVi [.int 0] (rest := []) ml_RX10_85 mvX1_tell rfl dX10_least_19 rfl rfl rfl rfl rfl (Nat.le_of_ble_eq_true rfl) (by decide) V (fun r1 M1 V => ?_)
      exact rm_iret dX10_least_22 rfl rfl V
set_option maxRecDepth 100000 in
set_option maxHeartbeats 4000000 in
theorem vX10_least_55 {w : Wd} {h : Nat} (hh : 1 ≤ h) (v1 : Int32) (v2 : Int32) (v4 : Int32)  (M : Mem) (Q : Option Value → Mem → Prop) (V : ((99 < v4 → (CSi w h kX1_tell [.ref 1, .int 3] M (fun r1 M1 => (Q (some (.int r1)) M1)))) ∧ (¬ (99 < v4) → (CSv w h kX8_follow [.ref 53, .ref 49, .int v1, .int v2, .int v4] M (fun M1 => (CSi w h kX8_isOut [.ref 53] M1 (fun r1 M2 => ((r1 = 0 → (∀ x1 : Int32, x1 = v4 + 1 → RM w (h + 1) kX10_least 55 [(0, .ref 0), (1, .int v1), (2, .int v2), (4, .int x1)] [] M2 Q)) ∧ (¬ (r1 = 0) → (Q (some (.int v4)) M2)))))))))) : RM w (h + 1) kX10_least 55 [(0, .ref 0), (1, .int v1), (2, .int v2), (4, .int v4)] [] M Q := by
  refine rj_iload dX10_least_55 3 rfl ?_
  refine rj_bipush (v := 99) dX10_least_57 (by decide) ?_
  obtain ⟨V1, V2⟩ := V
  refine rj_icmp_gt (tgt := 96) dX10_least_59 (by decide) (fun hc => ?_) (fun hc => ?_)
  · have V := V1 hc
    refine rj_aload_n dX10_least_96 0 rfl rfl ?_
    refine rs_getR (t := 1) fl_RX10_12 rfl (by decide) (by decide) rfl dX10_least_97 rfl (by omega) ?_
    refine rj_iconst (v := 3) dX10_least_100 (by decide) ?_
    refine rm_callVi [.int 3] (rest := []) ml_RX10_85 mvX1_tell rfl dX10_least_101 rfl rfl rfl rfl rfl (Nat.le_of_ble_eq_true rfl) (by decide) V (fun r1 M1 V => ?_)
    exact rm_iret dX10_least_104 rfl rfl V
  · have V := V2 hc
    refine rj_aload_n dX10_least_62 0 rfl rfl ?_
    refine rs_getR (t := 53) fl_RX10_63 rfl (by decide) (by decide) rfl dX10_least_63 rfl (by omega) ?_
    refine rj_aload_n dX10_least_66 0 rfl rfl ?_
    refine rs_getR (t := 49) fl_RX10_56 rfl (by decide) (by decide) rfl dX10_least_67 rfl (by omega) ?_
    refine rj_iload_n dX10_least_70 1 rfl rfl ?_
    refine rj_iload_n dX10_least_71 2 rfl rfl ?_
    refine rj_iload dX10_least_72 3 rfl ?_
    refine rm_callVv [.ref 49, .int v1, .int v2, .int v4] (rest := []) ml_RX10_225 mvX8_follow rfl dX10_least_74 rfl rfl rfl rfl rfl (Nat.le_of_ble_eq_true rfl) (by decide) V (fun M1 V => ?_)
    refine rj_aload_n dX10_least_77 0 rfl rfl ?_
    refine rs_getR (t := 53) fl_RX10_63 rfl (by decide) (by decide) rfl dX10_least_78 rfl (by omega) ?_
    refine rm_callVi [] (rest := []) ml_RX10_255 mvX8_isOut rfl dX10_least_81 rfl rfl rfl rfl rfl (Nat.le_of_ble_eq_true rfl) (by decide) V (fun r1 M2 V => ?_)
    obtain ⟨V1, V2⟩ := V
    refine rj_if_eq (tgt := 90) dX10_least_84 (by decide) (fun hc => ?_) (fun hc => ?_)
    · have V := V1 hc
      refine rj_iincV (c := 1) (fun y => [(0, .ref 0), (1, .int v1), (2, .int v2), (4, .int y)]) dX10_least_90 3 rfl (by decide) (by decide) rfl (fun _ => rfl) (fun x1 ex1 => ?_)
      have V := V x1 ex1
      refine rj_goto (tgt := 55) dX10_least_93 (by decide) ?_
      exact rs_sub [0, 1, 2, 3] rfl V
    · have V := V2 hc
      refine rj_iload dX10_least_87 3 rfl ?_
      exact rm_iret dX10_least_89 rfl rfl V
-- X10_basin
set_option maxRecDepth 100000 in
set_option maxHeartbeats 4000000 in
theorem vX10_basin_0 {w : Wd} {h : Nat} (hh : 2 ≤ h) (a0 : Int32) (a1 : Int32) (a2 : Int32)  (M : Mem) (Q : Option Value → Mem → Prop) (V : ((((0 ≤ a0 ∧ a0 ≤ 7) ∧ (0 ≤ a2 ∧ a2 ≤ 11) ∧ (1 ≤ a1 ∧ a1 ≤ 99)) → RM w (h + 1) kX10_basin 24 [(0, .ref 0), (1, .int a0), (2, .int a1), (3, .int a2), (4, .int 0), (5, .int 0)] [] M Q) ∧ (¬ (((0 ≤ a0 ∧ a0 ≤ 7) ∧ (0 ≤ a2 ∧ a2 ≤ 11) ∧ (1 ≤ a1 ∧ a1 ≤ 99))) → (CSi w h kX1_tell [.ref 1, .int 0] M (fun r1 M1 => (Q (some (.int r1)) M1)))))) : RM w (h + 1) kX10_basin 0 [(0, .ref 0), (1, .int a0), (2, .int a1), (3, .int a2)] [] M Q := by
  refine rj_iload_n dX10_basin_0 1 rfl rfl ?_
  refine rj_iload_n dX10_basin_1 3 rfl rfl ?_
  refine rj_iload_n dX10_basin_2 2 rfl rfl ?_
  refine rm_callSi [.int a0, .int a2, .int a1] (rest := []) (K := fun x M' => b2i ((0 ≤ a0 ∧ a0 ≤ 7) ∧ (0 ≤ a2 ∧ a2 ≤ 11) ∧ (1 ≤ a1 ∧ a1 ≤ 99)) = x ∧ M = M') ml_RX10_145 mtX10_isStart rfl dX10_basin_3 rfl rfl (Nat.le_of_ble_eq_true rfl) (by decide) (uX10_isStart (by omega) ⟨rfl, rfl⟩) (fun x M' hx => ?_)
  obtain ⟨rfl, rfl⟩ := hx
  obtain ⟨V1, V2⟩ := V
  refine rs_if_neB (tgt := 18) dX10_basin_6 (by decide) (fun hc => ?_) (fun hc => ?_)
  · have V := V1 hc
    refine rj_iconst (v := 0) dX10_basin_18 (by decide) ?_
    refine rj_istore (lv' := [(0, .ref 0), (1, .int a0), (2, .int a1), (3, .int a2), (4, .int 0)]) dX10_basin_19 (by decide) rfl rfl ?_
    refine rj_iconst (v := 0) dX10_basin_21 (by decide) ?_
    refine rj_istore (lv' := [(0, .ref 0), (1, .int a0), (2, .int a1), (3, .int a2), (4, .int 0), (5, .int 0)]) dX10_basin_22 (by decide) rfl rfl ?_
    exact rs_sub [0, 1, 2, 3, 4, 5] rfl V
  · have V := V2 hc
    refine rj_aload_n dX10_basin_9 0 rfl rfl ?_
    refine rs_getR (t := 1) fl_RX10_12 rfl (by decide) (by decide) rfl dX10_basin_10 rfl (by omega) ?_
    refine rj_iconst (v := 0) dX10_basin_13 (by decide) ?_
    refine rm_callVi [.int 0] (rest := []) ml_RX10_85 mvX1_tell rfl dX10_basin_14 rfl rfl rfl rfl rfl (Nat.le_of_ble_eq_true rfl) (by decide) V (fun r1 M1 V => ?_)
    exact rm_iret dX10_basin_17 rfl rfl V
set_option maxRecDepth 100000 in
set_option maxHeartbeats 4000000 in
theorem vX10_basin_24 {w : Wd} {h : Nat} (hh : 2 ≤ h) (v1 : Int32) (v2 : Int32) (v3 : Int32) (v4 : Int32) (v5 : Int32)  (M : Mem) (Q : Option Value → Mem → Prop) (V : ((12 ≤ v5 → (Q (some (.int v4)) M)) ∧ (¬ (12 ≤ v5) → (CSv w h kX8_follow [.ref 53, .ref 4, .int v1, .int v5, .int v2] M (fun M1 => ((¬ ((M1 53 3) = v3) → (∀ x1 : Int32, x1 = v5 + 1 → RM w (h + 1) kX10_basin 24 [(0, .ref 0), (1, .int v1), (2, .int v2), (3, .int v3), (4, .int v4), (5, .int x1)] [] M1 Q)) ∧ ((M1 53 3) = v3 → (∀ x1 : Int32, x1 = (v4 ||| (1 <<< (v5 &&& 31))) → (∀ x2 : Int32, x2 = v5 + 1 → RM w (h + 1) kX10_basin 24 [(0, .ref 0), (1, .int v1), (2, .int v2), (3, .int v3), (4, .int x1), (5, .int x2)] [] M1 Q))))))))) : RM w (h + 1) kX10_basin 24 [(0, .ref 0), (1, .int v1), (2, .int v2), (3, .int v3), (4, .int v4), (5, .int v5)] [] M Q := by
  refine rj_iload dX10_basin_24 5 rfl ?_
  refine rj_bipush (v := 12) dX10_basin_26 (by decide) ?_
  obtain ⟨V1, V2⟩ := V
  refine rj_icmp_ge (tgt := 75) dX10_basin_28 (by decide) (fun hc => ?_) (fun hc => ?_)
  · have V := V1 hc
    refine rj_iload dX10_basin_75 4 rfl ?_
    exact rm_iret dX10_basin_77 rfl rfl V
  · have V := V2 hc
    refine rj_aload_n dX10_basin_31 0 rfl rfl ?_
    refine rs_getR (t := 53) fl_RX10_63 rfl (by decide) (by decide) rfl dX10_basin_32 rfl (by omega) ?_
    refine rj_aload_n dX10_basin_35 0 rfl rfl ?_
    refine rs_getR (t := 3) fl_RX10_19 rfl (by decide) (by decide) rfl dX10_basin_36 rfl (by omega) ?_
    refine rs_getR (t := 4) fl_RX10_89 rfl (by decide) (by decide) rfl dX10_basin_39 rfl (by omega) ?_
    refine rj_iload_n dX10_basin_42 1 rfl rfl ?_
    refine rj_iload dX10_basin_43 5 rfl ?_
    refine rj_iload_n dX10_basin_45 2 rfl rfl ?_
    refine rm_callVv [.ref 4, .int v1, .int v5, .int v2] (rest := []) ml_RX10_225 mvX8_follow rfl dX10_basin_46 rfl rfl rfl rfl rfl (Nat.le_of_ble_eq_true rfl) (by decide) V (fun M1 V => ?_)
    refine rj_aload_n dX10_basin_49 0 rfl rfl ?_
    refine rs_getR (t := 53) fl_RX10_63 rfl (by decide) (by decide) rfl dX10_basin_50 rfl (by omega) ?_
    refine rs_getI fl_RX10_229 rfl (by decide) (by decide) rfl dX10_basin_53 rfl ?_
    refine rj_iload_n dX10_basin_56 3 rfl rfl ?_
    obtain ⟨V1, V2⟩ := V
    refine rj_icmp_ne (tgt := 69) dX10_basin_57 (by decide) (fun hc => ?_) (fun hc => ?_)
    · have V := V1 hc
      refine rj_iincV (c := 1) (fun y => [(0, .ref 0), (1, .int v1), (2, .int v2), (3, .int v3), (4, .int v4), (5, .int y)]) dX10_basin_69 5 rfl (by decide) (by decide) rfl (fun _ => rfl) (fun x1 ex1 => ?_)
      have V := V x1 ex1
      refine rj_goto (tgt := 24) dX10_basin_72 (by decide) ?_
      exact rs_sub [0, 1, 2, 3, 4, 5] rfl V
    · have V := V2 hc
      refine rj_iload dX10_basin_60 4 rfl ?_
      refine rj_iconst (v := 1) dX10_basin_62 (by decide) ?_
      refine rj_iload dX10_basin_63 5 rfl ?_
      refine rj_ishl dX10_basin_65 ?_
      refine rj_ior dX10_basin_66 ?_
      refine rj_top (fun x1 ex1 => ?_)
      have V := V x1 ex1
      refine rj_istore (lv' := [(0, .ref 0), (1, .int v1), (2, .int v2), (3, .int v3), (4, .int x1), (5, .int v5)]) dX10_basin_67 (by decide) rfl rfl ?_
      refine rj_iincV (c := 1) (fun y => [(0, .ref 0), (1, .int v1), (2, .int v2), (3, .int v3), (4, .int x1), (5, .int y)]) dX10_basin_69 5 rfl (by decide) (by decide) rfl (fun _ => rfl) (fun x2 ex2 => ?_)
      have V := V x2 ex2
      refine rj_goto (tgt := 24) dX10_basin_72 (by decide) ?_
      exact rs_sub [0, 1, 2, 3, 4, 5] rfl V
-- X10_ways
set_option maxRecDepth 100000 in
set_option maxHeartbeats 4000000 in
theorem vX10_ways_0 {w : Wd} {h : Nat} (hh : 1 ≤ h) (a0 : Int32) (a1 : Int32)  (M : Mem) (Q : Option Value → Mem → Prop) (V : ((¬ ((0 ≤ a0 ∧ a0 ≤ 7)) → (CSi w h kX1_tell [.ref 1, .int 0] M (fun r1 M1 => (Q (some (.int r1)) M1)))) ∧ ((0 ≤ a0 ∧ a0 ≤ 7) → (((1 ≤ a1 ∧ a1 ≤ 99) → RM w (h + 1) kX10_ways 28 [(0, .ref 0), (1, .int a0), (2, .int a1), (3, .int 0), (4, .int 0)] [] M Q) ∧ (¬ ((1 ≤ a1 ∧ a1 ≤ 99)) → (CSi w h kX1_tell [.ref 1, .int 0] M (fun r1 M1 => (Q (some (.int r1)) M1)))))))) : RM w (h + 1) kX10_ways 0 [(0, .ref 0), (1, .int a0), (2, .int a1)] [] M Q := by
  refine rj_iload_n dX10_ways_0 1 rfl rfl ?_
  refine rm_callSi [.int a0] (rest := []) (K := fun x M' => b2i (0 ≤ a0 ∧ a0 ≤ 7) = x ∧ M = M') ml_RX10_242 mtX10_isKind rfl dX10_ways_1 rfl rfl (Nat.le_of_ble_eq_true rfl) (by decide) (uX10_isKind (by omega) ⟨rfl, rfl⟩) (fun x M' hx => ?_)
  obtain ⟨rfl, rfl⟩ := hx
  obtain ⟨V1, V2⟩ := V
  refine rs_if_eqB (tgt := 14) dX10_ways_4 (by decide) (fun hc => ?_) (fun hc => ?_)
  · have V := V1 hc
    refine rj_aload_n dX10_ways_14 0 rfl rfl ?_
    refine rs_getR (t := 1) fl_RX10_12 rfl (by decide) (by decide) rfl dX10_ways_15 rfl (by omega) ?_
    refine rj_iconst (v := 0) dX10_ways_18 (by decide) ?_
    refine rm_callVi [.int 0] (rest := []) ml_RX10_85 mvX1_tell rfl dX10_ways_19 rfl rfl rfl rfl rfl (Nat.le_of_ble_eq_true rfl) (by decide) V (fun r1 M1 V => ?_)
    exact rm_iret dX10_ways_22 rfl rfl V
  · have V := V2 hc
    refine rj_iload_n dX10_ways_7 2 rfl rfl ?_
    refine rm_callSi [.int a1] (rest := []) (K := fun x M' => b2i (1 ≤ a1 ∧ a1 ≤ 99) = x ∧ M = M') ml_RX10_181 mtX10_isWater rfl dX10_ways_8 rfl rfl (Nat.le_of_ble_eq_true rfl) (by decide) (uX10_isWater (by omega) ⟨rfl, rfl⟩) (fun x M' hx => ?_)
    obtain ⟨rfl, rfl⟩ := hx
    obtain ⟨V1, V2⟩ := V
    refine rs_if_neB (tgt := 23) dX10_ways_11 (by decide) (fun hc => ?_) (fun hc => ?_)
    · have V := V1 hc
      refine rj_iconst (v := 0) dX10_ways_23 (by decide) ?_
      refine rj_istore_n (lv' := [(0, .ref 0), (1, .int a0), (2, .int a1), (3, .int 0)]) dX10_ways_24 rfl (by decide) rfl rfl ?_
      refine rj_iconst (v := 0) dX10_ways_25 (by decide) ?_
      refine rj_istore (lv' := [(0, .ref 0), (1, .int a0), (2, .int a1), (3, .int 0), (4, .int 0)]) dX10_ways_26 (by decide) rfl rfl ?_
      exact rs_sub [0, 1, 2, 3, 4] rfl V
    · have V := V2 hc
      refine rj_aload_n dX10_ways_14 0 rfl rfl ?_
      refine rs_getR (t := 1) fl_RX10_12 rfl (by decide) (by decide) rfl dX10_ways_15 rfl (by omega) ?_
      refine rj_iconst (v := 0) dX10_ways_18 (by decide) ?_
      refine rm_callVi [.int 0] (rest := []) ml_RX10_85 mvX1_tell rfl dX10_ways_19 rfl rfl rfl rfl rfl (Nat.le_of_ble_eq_true rfl) (by decide) V (fun r1 M1 V => ?_)
      exact rm_iret dX10_ways_22 rfl rfl V
set_option maxRecDepth 100000 in
set_option maxHeartbeats 4000000 in
theorem vX10_ways_28 {w : Wd} {h : Nat} (hh : 1 ≤ h) (v1 : Int32) (v2 : Int32) (v3 : Int32) (v4 : Int32)  (M : Mem) (Q : Option Value → Mem → Prop) (V : ((12 ≤ v4 → (Q (some (.int v3)) M)) ∧ (¬ (12 ≤ v4) → (CSv w h kX8_follow [.ref 53, .ref 4, .int v1, .int v4, .int v2] M (fun M1 => (CSi w h kX8_isOut [.ref 53] M1 (fun r1 M2 => ((r1 = 0 → (∀ x1 : Int32, x1 = v4 + 1 → RM w (h + 1) kX10_ways 28 [(0, .ref 0), (1, .int v1), (2, .int v2), (3, .int v3), (4, .int x1)] [] M2 Q)) ∧ (¬ (r1 = 0) → (∀ x1 : Int32, x1 = (v3 ||| (1 <<< ((M2 53 3) &&& 31))) → (∀ x2 : Int32, x2 = v4 + 1 → RM w (h + 1) kX10_ways 28 [(0, .ref 0), (1, .int v1), (2, .int v2), (3, .int x1), (4, .int x2)] [] M2 Q))))))))))) : RM w (h + 1) kX10_ways 28 [(0, .ref 0), (1, .int v1), (2, .int v2), (3, .int v3), (4, .int v4)] [] M Q := by
  refine rj_iload dX10_ways_28 4 rfl ?_
  refine rj_bipush (v := 12) dX10_ways_30 (by decide) ?_
  obtain ⟨V1, V2⟩ := V
  refine rj_icmp_ge (tgt := 81) dX10_ways_32 (by decide) (fun hc => ?_) (fun hc => ?_)
  · have V := V1 hc
    refine rj_iload_n dX10_ways_81 3 rfl rfl ?_
    exact rm_iret dX10_ways_82 rfl rfl V
  · have V := V2 hc
    refine rj_aload_n dX10_ways_35 0 rfl rfl ?_
    refine rs_getR (t := 53) fl_RX10_63 rfl (by decide) (by decide) rfl dX10_ways_36 rfl (by omega) ?_
    refine rj_aload_n dX10_ways_39 0 rfl rfl ?_
    refine rs_getR (t := 3) fl_RX10_19 rfl (by decide) (by decide) rfl dX10_ways_40 rfl (by omega) ?_
    refine rs_getR (t := 4) fl_RX10_89 rfl (by decide) (by decide) rfl dX10_ways_43 rfl (by omega) ?_
    refine rj_iload_n dX10_ways_46 1 rfl rfl ?_
    refine rj_iload dX10_ways_47 4 rfl ?_
    refine rj_iload_n dX10_ways_49 2 rfl rfl ?_
    refine rm_callVv [.ref 4, .int v1, .int v4, .int v2] (rest := []) ml_RX10_225 mvX8_follow rfl dX10_ways_50 rfl rfl rfl rfl rfl (Nat.le_of_ble_eq_true rfl) (by decide) V (fun M1 V => ?_)
    refine rj_aload_n dX10_ways_53 0 rfl rfl ?_
    refine rs_getR (t := 53) fl_RX10_63 rfl (by decide) (by decide) rfl dX10_ways_54 rfl (by omega) ?_
    refine rm_callVi [] (rest := []) ml_RX10_255 mvX8_isOut rfl dX10_ways_57 rfl rfl rfl rfl rfl (Nat.le_of_ble_eq_true rfl) (by decide) V (fun r1 M2 V => ?_)
    obtain ⟨V1, V2⟩ := V
    refine rj_if_eq (tgt := 75) dX10_ways_60 (by decide) (fun hc => ?_) (fun hc => ?_)
    · have V := V1 hc
      refine rj_iincV (c := 1) (fun y => [(0, .ref 0), (1, .int v1), (2, .int v2), (3, .int v3), (4, .int y)]) dX10_ways_75 4 rfl (by decide) (by decide) rfl (fun _ => rfl) (fun x1 ex1 => ?_)
      have V := V x1 ex1
      refine rj_goto (tgt := 28) dX10_ways_78 (by decide) ?_
      exact rs_sub [0, 1, 2, 3, 4] rfl V
    · have V := V2 hc
      refine rj_iload_n dX10_ways_63 3 rfl rfl ?_
      refine rj_iconst (v := 1) dX10_ways_64 (by decide) ?_
      refine rj_aload_n dX10_ways_65 0 rfl rfl ?_
      refine rs_getR (t := 53) fl_RX10_63 rfl (by decide) (by decide) rfl dX10_ways_66 rfl (by omega) ?_
      refine rs_getI fl_RX10_229 rfl (by decide) (by decide) rfl dX10_ways_69 rfl ?_
      refine rj_ishl dX10_ways_72 ?_
      refine rj_ior dX10_ways_73 ?_
      refine rj_top (fun x1 ex1 => ?_)
      have V := V x1 ex1
      refine rj_istore_n (lv' := [(0, .ref 0), (1, .int v1), (2, .int v2), (3, .int x1), (4, .int v4)]) dX10_ways_74 rfl (by decide) rfl rfl ?_
      refine rj_iincV (c := 1) (fun y => [(0, .ref 0), (1, .int v1), (2, .int v2), (3, .int x1), (4, .int y)]) dX10_ways_75 4 rfl (by decide) (by decide) rfl (fun _ => rfl) (fun x2 ex2 => ?_)
      have V := V x2 ex2
      refine rj_goto (tgt := 28) dX10_ways_78 (by decide) ?_
      exact rs_sub [0, 1, 2, 3, 4] rfl V
-- X10_soonest
set_option maxRecDepth 100000 in
set_option maxHeartbeats 4000000 in
theorem vX10_soonest_0 {w : Wd} {h : Nat} (hh : 2 ≤ h) (a0 : Int32) (a1 : Int32) (a2 : Int32)  (M : Mem) (Q : Option Value → Mem → Prop) (V : ((((0 ≤ a0 ∧ a0 ≤ 7) ∧ (0 ≤ a1 ∧ a1 ≤ 11) ∧ (1 ≤ a2 ∧ a2 ≤ 99)) → (CSv w h kX2_become [.ref 49, .ref 4] M (fun M1 => RM w (h + 1) kX10_soonest 42 [(0, .ref 0), (1, .int a0), (2, .int a1), (3, .int a2), (4, .int (-1)), (5, .int 65), (6, .int 0)] [] M1 Q))) ∧ (¬ (((0 ≤ a0 ∧ a0 ≤ 7) ∧ (0 ≤ a1 ∧ a1 ≤ 11) ∧ (1 ≤ a2 ∧ a2 ≤ 99))) → (CSi w h kX1_tell [.ref 1, .int 0] M (fun r1 M1 => (Q (some (.int r1)) M1)))))) : RM w (h + 1) kX10_soonest 0 [(0, .ref 0), (1, .int a0), (2, .int a1), (3, .int a2)] [] M Q := by
  refine rj_iload_n dX10_soonest_0 1 rfl rfl ?_
  refine rj_iload_n dX10_soonest_1 2 rfl rfl ?_
  refine rj_iload_n dX10_soonest_2 3 rfl rfl ?_
  refine rm_callSi [.int a0, .int a1, .int a2] (rest := []) (K := fun x M' => b2i ((0 ≤ a0 ∧ a0 ≤ 7) ∧ (0 ≤ a1 ∧ a1 ≤ 11) ∧ (1 ≤ a2 ∧ a2 ≤ 99)) = x ∧ M = M') ml_RX10_145 mtX10_isStart rfl dX10_soonest_3 rfl rfl (Nat.le_of_ble_eq_true rfl) (by decide) (uX10_isStart (by omega) ⟨rfl, rfl⟩) (fun x M' hx => ?_)
  obtain ⟨rfl, rfl⟩ := hx
  obtain ⟨V1, V2⟩ := V
  refine rs_if_neB (tgt := 18) dX10_soonest_6 (by decide) (fun hc => ?_) (fun hc => ?_)
  · have V := V1 hc
    refine rj_aload_n dX10_soonest_18 0 rfl rfl ?_
    refine rs_getR (t := 49) fl_RX10_56 rfl (by decide) (by decide) rfl dX10_soonest_19 rfl (by omega) ?_
    refine rj_aload_n dX10_soonest_22 0 rfl rfl ?_
    refine rs_getR (t := 3) fl_RX10_19 rfl (by decide) (by decide) rfl dX10_soonest_23 rfl (by omega) ?_
    refine rs_getR (t := 4) fl_RX10_89 rfl (by decide) (by decide) rfl dX10_soonest_26 rfl (by omega) ?_
    refine rm_callVv [.ref 4] (rest := []) ml_RX10_245 mvX2_become rfl dX10_soonest_29 rfl rfl rfl rfl rfl (Nat.le_of_ble_eq_true rfl) (by decide) V (fun M1 V => ?_)
    refine rj_iconst (v := (-1)) dX10_soonest_32 (by decide) ?_
    refine rj_istore (lv' := [(0, .ref 0), (1, .int a0), (2, .int a1), (3, .int a2), (4, .int (-1))]) dX10_soonest_33 (by decide) rfl rfl ?_
    refine rj_bipush (v := 65) dX10_soonest_35 (by decide) ?_
    refine rj_istore (lv' := [(0, .ref 0), (1, .int a0), (2, .int a1), (3, .int a2), (4, .int (-1)), (5, .int 65)]) dX10_soonest_37 (by decide) rfl rfl ?_
    refine rj_iconst (v := 0) dX10_soonest_39 (by decide) ?_
    refine rj_istore (lv' := [(0, .ref 0), (1, .int a0), (2, .int a1), (3, .int a2), (4, .int (-1)), (5, .int 65), (6, .int 0)]) dX10_soonest_40 (by decide) rfl rfl ?_
    exact rs_sub [0, 1, 2, 3, 4, 5, 6] rfl V
  · have V := V2 hc
    refine rj_aload_n dX10_soonest_9 0 rfl rfl ?_
    refine rs_getR (t := 1) fl_RX10_12 rfl (by decide) (by decide) rfl dX10_soonest_10 rfl (by omega) ?_
    refine rj_iconst (v := 0) dX10_soonest_13 (by decide) ?_
    refine rm_callVi [.int 0] (rest := []) ml_RX10_85 mvX1_tell rfl dX10_soonest_14 rfl rfl rfl rfl rfl (Nat.le_of_ble_eq_true rfl) (by decide) V (fun r1 M1 V => ?_)
    exact rm_iret dX10_soonest_17 rfl rfl V
set_option maxRecDepth 100000 in
set_option maxHeartbeats 4000000 in
theorem vX10_soonest_42 {w : Wd} {h : Nat} (hh : 2 ≤ h) (v1 : Int32) (v2 : Int32) (v3 : Int32) (v4 : Int32) (v5 : Int32) (v6 : Int32)  (M : Mem) (Q : Option Value → Mem → Prop) (V : ((9 < v6 → ((¬ (v4 = (-1)) → (Q (some (.int v4)) M)) ∧ (v4 = (-1) → (CSi w h kX1_tell [.ref 1, .int 3] M (fun r1 M1 => (Q (some (.int r1)) M1)))))) ∧ (¬ (9 < v6) → (∀ M1 : Mem, M1 = mset M 49 2 v6 → (CSv w h kX8_follow [.ref 53, .ref 49, .int v1, .int v2, .int v3] M1 (fun M2 => (CSi w h kX8_isOut [.ref 53] M2 (fun r1 M3 => ((r1 = 0 → (∀ x1 : Int32, x1 = v6 + 1 → RM w (h + 1) kX10_soonest 42 [(0, .ref 0), (1, .int v1), (2, .int v2), (3, .int v3), (4, .int v4), (5, .int v5), (6, .int x1)] [] M3 Q)) ∧ (¬ (r1 = 0) → ((v5 ≤ (M3 53 1) → (∀ x1 : Int32, x1 = v6 + 1 → RM w (h + 1) kX10_soonest 42 [(0, .ref 0), (1, .int v1), (2, .int v2), (3, .int v3), (4, .int v4), (5, .int v5), (6, .int x1)] [] M3 Q)) ∧ (¬ (v5 ≤ (M3 53 1)) → (∀ x1 : Int32, x1 = (M3 53 1) → (∀ x2 : Int32, x2 = v6 + 1 → RM w (h + 1) kX10_soonest 42 [(0, .ref 0), (1, .int v1), (2, .int v2), (3, .int v3), (4, .int v6), (5, .int x1), (6, .int x2)] [] M3 Q)))))))))))))) : RM w (h + 1) kX10_soonest 42 [(0, .ref 0), (1, .int v1), (2, .int v2), (3, .int v3), (4, .int v4), (5, .int v5), (6, .int v6)] [] M Q := by
  refine rj_iload dX10_soonest_42 6 rfl ?_
  refine rj_bipush (v := 9) dX10_soonest_44 (by decide) ?_
  obtain ⟨V1, V2⟩ := V
  refine rj_icmp_gt (tgt := 113) dX10_soonest_46 (by decide) (fun hc => ?_) (fun hc => ?_)
  · have V := V1 hc
    refine rj_iload dX10_soonest_113 4 rfl ?_
    refine rj_iconst (v := (-1)) dX10_soonest_115 (by decide) ?_
    obtain ⟨V1, V2⟩ := V
    refine rj_icmp_ne (tgt := 130) dX10_soonest_116 (by decide) (fun hc => ?_) (fun hc => ?_)
    · have V := V1 hc
      refine rj_iload dX10_soonest_130 4 rfl ?_
      exact rm_iret dX10_soonest_132 rfl rfl V
    · have V := V2 hc
      refine rj_aload_n dX10_soonest_119 0 rfl rfl ?_
      refine rs_getR (t := 1) fl_RX10_12 rfl (by decide) (by decide) rfl dX10_soonest_120 rfl (by omega) ?_
      refine rj_iconst (v := 3) dX10_soonest_123 (by decide) ?_
      refine rm_callVi [.int 3] (rest := []) ml_RX10_85 mvX1_tell rfl dX10_soonest_124 rfl rfl rfl rfl rfl (Nat.le_of_ble_eq_true rfl) (by decide) V (fun r1 M1 V => ?_)
      refine rj_goto (tgt := 132) dX10_soonest_127 (by decide) ?_
      exact rm_iret dX10_soonest_132 rfl rfl V
  · have V := V2 hc
    refine rj_aload_n dX10_soonest_49 0 rfl rfl ?_
    refine rs_getR (t := 49) fl_RX10_56 rfl (by decide) (by decide) rfl dX10_soonest_50 rfl (by omega) ?_
    refine rj_iload dX10_soonest_53 6 rfl ?_
    refine rs_putI fl_RX10_115 (ft2_2 _ nofun) rfl (by decide) (by decide) rfl dX10_soonest_55 rfl rfl rfl (fun M1 eM1 => ?_)
    have V := V M1 eM1
    refine rj_aload_n dX10_soonest_58 0 rfl rfl ?_
    refine rs_getR (t := 53) fl_RX10_63 rfl (by decide) (by decide) rfl dX10_soonest_59 rfl (by omega) ?_
    refine rj_aload_n dX10_soonest_62 0 rfl rfl ?_
    refine rs_getR (t := 49) fl_RX10_56 rfl (by decide) (by decide) rfl dX10_soonest_63 rfl (by omega) ?_
    refine rj_iload_n dX10_soonest_66 1 rfl rfl ?_
    refine rj_iload_n dX10_soonest_67 2 rfl rfl ?_
    refine rj_iload_n dX10_soonest_68 3 rfl rfl ?_
    refine rm_callVv [.ref 49, .int v1, .int v2, .int v3] (rest := []) ml_RX10_225 mvX8_follow rfl dX10_soonest_69 rfl rfl rfl rfl rfl (Nat.le_of_ble_eq_true rfl) (by decide) V (fun M2 V => ?_)
    refine rj_aload_n dX10_soonest_72 0 rfl rfl ?_
    refine rs_getR (t := 53) fl_RX10_63 rfl (by decide) (by decide) rfl dX10_soonest_73 rfl (by omega) ?_
    refine rm_callVi [] (rest := []) ml_RX10_255 mvX8_isOut rfl dX10_soonest_76 rfl rfl rfl rfl rfl (Nat.le_of_ble_eq_true rfl) (by decide) V (fun r1 M3 V => ?_)
    obtain ⟨V1, V2⟩ := V
    refine rj_if_eq (tgt := 107) dX10_soonest_79 (by decide) (fun hc => ?_) (fun hc => ?_)
    · have V := V1 hc
      refine rj_iincV (c := 1) (fun y => [(0, .ref 0), (1, .int v1), (2, .int v2), (3, .int v3), (4, .int v4), (5, .int v5), (6, .int y)]) dX10_soonest_107 6 rfl (by decide) (by decide) rfl (fun _ => rfl) (fun x1 ex1 => ?_)
      have V := V x1 ex1
      refine rj_goto (tgt := 42) dX10_soonest_110 (by decide) ?_
      exact rs_sub [0, 1, 2, 3, 4, 5, 6] rfl V
    · have V := V2 hc
      refine rj_aload_n dX10_soonest_82 0 rfl rfl ?_
      refine rs_getR (t := 53) fl_RX10_63 rfl (by decide) (by decide) rfl dX10_soonest_83 rfl (by omega) ?_
      refine rs_getI fl_RX10_232 rfl (by decide) (by decide) rfl dX10_soonest_86 rfl ?_
      refine rj_iload dX10_soonest_89 5 rfl ?_
      obtain ⟨V1, V2⟩ := V
      refine rj_icmp_ge (tgt := 107) dX10_soonest_91 (by decide) (fun hc => ?_) (fun hc => ?_)
      · have V := V1 hc
        refine rj_iincV (c := 1) (fun y => [(0, .ref 0), (1, .int v1), (2, .int v2), (3, .int v3), (4, .int v4), (5, .int v5), (6, .int y)]) dX10_soonest_107 6 rfl (by decide) (by decide) rfl (fun _ => rfl) (fun x1 ex1 => ?_)
        have V := V x1 ex1
        refine rj_goto (tgt := 42) dX10_soonest_110 (by decide) ?_
        exact rs_sub [0, 1, 2, 3, 4, 5, 6] rfl V
      · have V := V2 hc
        refine rj_aload_n dX10_soonest_94 0 rfl rfl ?_
        refine rs_getR (t := 53) fl_RX10_63 rfl (by decide) (by decide) rfl dX10_soonest_95 rfl (by omega) ?_
        refine rs_getI fl_RX10_232 rfl (by decide) (by decide) rfl dX10_soonest_98 rfl ?_
        refine rj_top (fun x1 ex1 => ?_)
        have V := V x1 ex1
        refine rj_istore (lv' := [(0, .ref 0), (1, .int v1), (2, .int v2), (3, .int v3), (4, .int v4), (5, .int x1), (6, .int v6)]) dX10_soonest_101 (by decide) rfl rfl ?_
        refine rj_iload dX10_soonest_103 6 rfl ?_
        refine rj_istore (lv' := [(0, .ref 0), (1, .int v1), (2, .int v2), (3, .int v3), (4, .int v6), (5, .int x1), (6, .int v6)]) dX10_soonest_105 (by decide) rfl rfl ?_
        refine rj_iincV (c := 1) (fun y => [(0, .ref 0), (1, .int v1), (2, .int v2), (3, .int v3), (4, .int v6), (5, .int x1), (6, .int y)]) dX10_soonest_107 6 rfl (by decide) (by decide) rfl (fun _ => rfl) (fun x2 ex2 => ?_)
        have V := V x2 ex2
        refine rj_goto (tgt := 42) dX10_soonest_110 (by decide) ?_
        exact rs_sub [0, 1, 2, 3, 4, 5, 6] rfl V
-- X10_meet
set_option maxRecDepth 100000 in
set_option maxHeartbeats 4000000 in
theorem vX10_meet_0 {w : Wd} {h : Nat} (hh : 2 ≤ h) (a0 : Int32) (a1 : Int32) (a2 : Int32) (a3 : Int32)  (M : Mem) (Q : Option Value → Mem → Prop) (V : ((¬ (((0 ≤ a0 ∧ a0 ≤ 7) ∧ (0 ≤ a1 ∧ a1 ≤ 11) ∧ (1 ≤ a3 ∧ a3 ≤ 99))) → (CSi w h kX1_tell [.ref 1, .int 0] M (fun r1 M1 => (Q (some (.int r1)) M1)))) ∧ (((0 ≤ a0 ∧ a0 ≤ 7) ∧ (0 ≤ a1 ∧ a1 ≤ 11) ∧ (1 ≤ a3 ∧ a3 ≤ 99)) → ((¬ ((0 ≤ a2 ∧ a2 ≤ 11)) → (CSi w h kX1_tell [.ref 1, .int 0] M (fun r1 M1 => (Q (some (.int r1)) M1)))) ∧ ((0 ≤ a2 ∧ a2 ≤ 11) → ((¬ (a1 = a2) → (CSv w h kX8_follow [.ref 53, .ref 4, .int a0, .int a1, .int a3] M (fun M1 => (CSv w h kX8_follow [.ref 55, .ref 4, .int a0, .int a2, .int a3] M1 (fun M2 => RM w (h + 1) kX10_meet 70 [(0, .ref 0), (5, .int 0)] [] M2 Q))))) ∧ (a1 = a2 → (CSi w h kX1_tell [.ref 1, .int 0] M (fun r1 M1 => (Q (some (.int r1)) M1)))))))))) : RM w (h + 1) kX10_meet 0 [(0, .ref 0), (1, .int a0), (2, .int a1), (3, .int a2), (4, .int a3)] [] M Q := by
  refine rj_iload_n dX10_meet_0 1 rfl rfl ?_
  refine rj_iload_n dX10_meet_1 2 rfl rfl ?_
  refine rj_iload dX10_meet_2 4 rfl ?_
  refine rm_callSi [.int a0, .int a1, .int a3] (rest := []) (K := fun x M' => b2i ((0 ≤ a0 ∧ a0 ≤ 7) ∧ (0 ≤ a1 ∧ a1 ≤ 11) ∧ (1 ≤ a3 ∧ a3 ≤ 99)) = x ∧ M = M') ml_RX10_145 mtX10_isStart rfl dX10_meet_4 rfl rfl (Nat.le_of_ble_eq_true rfl) (by decide) (uX10_isStart (by omega) ⟨rfl, rfl⟩) (fun x M' hx => ?_)
  obtain ⟨rfl, rfl⟩ := hx
  obtain ⟨V1, V2⟩ := V
  refine rs_if_eqB (tgt := 22) dX10_meet_7 (by decide) (fun hc => ?_) (fun hc => ?_)
  · have V := V1 hc
    refine rj_aload_n dX10_meet_22 0 rfl rfl ?_
    refine rs_getR (t := 1) fl_RX10_12 rfl (by decide) (by decide) rfl dX10_meet_23 rfl (by omega) ?_
    refine rj_iconst (v := 0) dX10_meet_26 (by decide) ?_
    refine rm_callVi [.int 0] (rest := []) ml_RX10_85 mvX1_tell rfl dX10_meet_27 rfl rfl rfl rfl rfl (Nat.le_of_ble_eq_true rfl) (by decide) V (fun r1 M1 V => ?_)
    exact rm_iret dX10_meet_30 rfl rfl V
  · have V := V2 hc
    refine rj_iload_n dX10_meet_10 3 rfl rfl ?_
    refine rm_callSi [.int a2] (rest := []) (K := fun x M' => b2i (0 ≤ a2 ∧ a2 ≤ 11) = x ∧ M = M') ml_RX10_139 mtX10_isColumn rfl dX10_meet_11 rfl rfl (Nat.le_of_ble_eq_true rfl) (by decide) (uX10_isColumn (by omega) ⟨rfl, rfl⟩) (fun x M' hx => ?_)
    obtain ⟨rfl, rfl⟩ := hx
    obtain ⟨V1, V2⟩ := V
    refine rs_if_eqB (tgt := 22) dX10_meet_14 (by decide) (fun hc => ?_) (fun hc => ?_)
    · have V := V1 hc
      refine rj_aload_n dX10_meet_22 0 rfl rfl ?_
      refine rs_getR (t := 1) fl_RX10_12 rfl (by decide) (by decide) rfl dX10_meet_23 rfl (by omega) ?_
      refine rj_iconst (v := 0) dX10_meet_26 (by decide) ?_
      refine rm_callVi [.int 0] (rest := []) ml_RX10_85 mvX1_tell rfl dX10_meet_27 rfl rfl rfl rfl rfl (Nat.le_of_ble_eq_true rfl) (by decide) V (fun r1 M1 V => ?_)
      exact rm_iret dX10_meet_30 rfl rfl V
    · have V := V2 hc
      refine rj_iload_n dX10_meet_17 2 rfl rfl ?_
      refine rj_iload_n dX10_meet_18 3 rfl rfl ?_
      obtain ⟨V1, V2⟩ := V
      refine rj_icmp_ne (tgt := 31) dX10_meet_19 (by decide) (fun hc => ?_) (fun hc => ?_)
      · have V := V1 hc
        refine rj_aload_n dX10_meet_31 0 rfl rfl ?_
        refine rs_getR (t := 53) fl_RX10_63 rfl (by decide) (by decide) rfl dX10_meet_32 rfl (by omega) ?_
        refine rj_aload_n dX10_meet_35 0 rfl rfl ?_
        refine rs_getR (t := 3) fl_RX10_19 rfl (by decide) (by decide) rfl dX10_meet_36 rfl (by omega) ?_
        refine rs_getR (t := 4) fl_RX10_89 rfl (by decide) (by decide) rfl dX10_meet_39 rfl (by omega) ?_
        refine rj_iload_n dX10_meet_42 1 rfl rfl ?_
        refine rj_iload_n dX10_meet_43 2 rfl rfl ?_
        refine rj_iload dX10_meet_44 4 rfl ?_
        refine rm_callVv [.ref 4, .int a0, .int a1, .int a3] (rest := []) ml_RX10_225 mvX8_follow rfl dX10_meet_46 rfl rfl rfl rfl rfl (Nat.le_of_ble_eq_true rfl) (by decide) V (fun M1 V => ?_)
        refine rj_aload_n dX10_meet_49 0 rfl rfl ?_
        refine rs_getR (t := 55) fl_RX10_67 rfl (by decide) (by decide) rfl dX10_meet_50 rfl (by omega) ?_
        refine rj_aload_n dX10_meet_53 0 rfl rfl ?_
        refine rs_getR (t := 3) fl_RX10_19 rfl (by decide) (by decide) rfl dX10_meet_54 rfl (by omega) ?_
        refine rs_getR (t := 4) fl_RX10_89 rfl (by decide) (by decide) rfl dX10_meet_57 rfl (by omega) ?_
        refine rj_iload_n dX10_meet_60 1 rfl rfl ?_
        refine rj_iload_n dX10_meet_61 3 rfl rfl ?_
        refine rj_iload dX10_meet_62 4 rfl ?_
        refine rm_callVv [.ref 4, .int a0, .int a2, .int a3] (rest := []) ml_RX10_225 mvX8_follow rfl dX10_meet_64 rfl rfl rfl rfl rfl (Nat.le_of_ble_eq_true rfl) (by decide) V (fun M2 V => ?_)
        refine rj_iconst (v := 0) dX10_meet_67 (by decide) ?_
        refine rj_istore (lv' := [(0, .ref 0), (1, .int a0), (2, .int a1), (3, .int a2), (4, .int a3), (5, .int 0)]) dX10_meet_68 (by decide) rfl rfl ?_
        exact rs_sub [0, 5] rfl V
      · have V := V2 hc
        refine rj_aload_n dX10_meet_22 0 rfl rfl ?_
        refine rs_getR (t := 1) fl_RX10_12 rfl (by decide) (by decide) rfl dX10_meet_23 rfl (by omega) ?_
        refine rj_iconst (v := 0) dX10_meet_26 (by decide) ?_
        refine rm_callVi [.int 0] (rest := []) ml_RX10_85 mvX1_tell rfl dX10_meet_27 rfl rfl rfl rfl rfl (Nat.le_of_ble_eq_true rfl) (by decide) V (fun r1 M1 V => ?_)
        exact rm_iret dX10_meet_30 rfl rfl V
set_option maxRecDepth 100000 in
set_option maxHeartbeats 4000000 in
theorem vX10_meet_70 {w : Wd} {h : Nat} (hh : 2 ≤ h) (v5 : Int32)  (M : Mem) (Q : Option Value → Mem → Prop) (V : ((64 < v5 → (CSi w h kX1_tell [.ref 1, .int 3] M (fun r1 M1 => (Q (some (.int r1)) M1)))) ∧ (¬ (64 < v5) → (CSi w h kX8_cellBehind [.ref 53, .int v5] M (fun r1 M1 => ((r1 = (-2) → (∀ x1 : Int32, x1 = v5 + 1 → RM w (h + 1) kX10_meet 70 [(0, .ref 0), (5, .int x1)] [] M1 Q)) ∧ (¬ (r1 = (-2)) → (CSi w h kX8_cellBehind [.ref 55, .int v5] M1 (fun r2 M2 => ((¬ (r1 = r2) → (∀ x1 : Int32, x1 = v5 + 1 → RM w (h + 1) kX10_meet 70 [(0, .ref 0), (5, .int x1)] [] M2 Q)) ∧ (r1 = r2 → (Q (some (.int v5)) M2)))))))))))) : RM w (h + 1) kX10_meet 70 [(0, .ref 0), (5, .int v5)] [] M Q := by
  refine rj_iload dX10_meet_70 1 rfl ?_
  refine rj_bipush (v := 64) dX10_meet_72 (by decide) ?_
  obtain ⟨V1, V2⟩ := V
  refine rj_icmp_gt (tgt := 118) dX10_meet_74 (by decide) (fun hc => ?_) (fun hc => ?_)
  · have V := V1 hc
    refine rj_aload_n dX10_meet_118 0 rfl rfl ?_
    refine rs_getR (t := 1) fl_RX10_12 rfl (by decide) (by decide) rfl dX10_meet_119 rfl (by omega) ?_
    refine rj_iconst (v := 3) dX10_meet_122 (by decide) ?_
    refine rm_callVi [.int 3] (rest := []) ml_RX10_85 mvX1_tell rfl dX10_meet_123 rfl rfl rfl rfl rfl (Nat.le_of_ble_eq_true rfl) (by decide) V (fun r1 M1 V => ?_)
    exact rm_iret dX10_meet_126 rfl rfl V
  · have V := V2 hc
    refine rj_aload_n dX10_meet_77 0 rfl rfl ?_
    refine rs_getR (t := 53) fl_RX10_63 rfl (by decide) (by decide) rfl dX10_meet_78 rfl (by omega) ?_
    refine rj_iload dX10_meet_81 1 rfl ?_
    refine rm_callVi [.int v5] (rest := []) ml_RX10_239 mvX8_cellBehind rfl dX10_meet_83 rfl rfl rfl rfl rfl (Nat.le_of_ble_eq_true rfl) (by decide) V (fun r1 M1 V => ?_)
    refine rj_istore (lv' := [(0, .ref 0), (5, .int v5), (6, .int r1)]) dX10_meet_86 (by decide) rfl rfl ?_
    refine rj_iload dX10_meet_88 2 rfl ?_
    refine rj_bipush (v := (-2)) dX10_meet_90 (by decide) ?_
    obtain ⟨V1, V2⟩ := V
    refine rj_icmp_eq (tgt := 112) dX10_meet_92 (by decide) (fun hc => ?_) (fun hc => ?_)
    · have V := V1 hc
      refine rj_iincV (c := 1) (fun y => [(0, .ref 0), (5, .int y), (6, .int r1)]) dX10_meet_112 1 rfl (by decide) (by decide) rfl (fun _ => rfl) (fun x1 ex1 => ?_)
      have V := V x1 ex1
      refine rj_goto (tgt := 70) dX10_meet_115 (by decide) ?_
      exact rs_sub [0, 1] rfl V
    · have V := V2 hc
      refine rj_iload dX10_meet_95 2 rfl ?_
      refine rj_aload_n dX10_meet_97 0 rfl rfl ?_
      refine rs_getR (t := 55) fl_RX10_67 rfl (by decide) (by decide) rfl dX10_meet_98 rfl (by omega) ?_
      refine rj_iload dX10_meet_101 1 rfl ?_
      refine rm_callVi [.int v5] (rest := [.int r1]) ml_RX10_239 mvX8_cellBehind rfl dX10_meet_103 rfl rfl rfl rfl rfl (Nat.le_of_ble_eq_true rfl) (by decide) V (fun r2 M2 V => ?_)
      obtain ⟨V1, V2⟩ := V
      refine rj_icmp_ne (tgt := 112) dX10_meet_106 (by decide) (fun hc => ?_) (fun hc => ?_)
      · have V := V1 hc
        refine rj_iincV (c := 1) (fun y => [(0, .ref 0), (5, .int y), (6, .int r1)]) dX10_meet_112 1 rfl (by decide) (by decide) rfl (fun _ => rfl) (fun x1 ex1 => ?_)
        have V := V x1 ex1
        refine rj_goto (tgt := 70) dX10_meet_115 (by decide) ?_
        exact rs_sub [0, 1] rfl V
      · have V := V2 hc
        refine rj_iload dX10_meet_109 1 rfl ?_
        exact rm_iret dX10_meet_111 rfl rfl V
-- X10_edge
set_option maxRecDepth 100000 in
set_option maxHeartbeats 4000000 in
theorem vX10_edge_0 {w : Wd} {h : Nat} (hh : 1 ≤ h) (a0 : Int32) (a1 : Int32) (a2 : Int32)  (M : Mem) (Q : Option Value → Mem → Prop) (V : ((¬ ((0 ≤ a0 ∧ a0 ≤ 191)) → (CSi w h kX1_tell [.ref 1, .int 0] M (fun r1 M1 => (Q (some (.int r1)) M1)))) ∧ ((0 ≤ a0 ∧ a0 ≤ 191) → ((¬ ((0 ≤ a1 ∧ a1 ≤ 7)) → (CSi w h kX1_tell [.ref 1, .int 0] M (fun r1 M1 => (Q (some (.int r1)) M1)))) ∧ ((0 ≤ a1 ∧ a1 ≤ 7) → (((0 ≤ a2 ∧ a2 ≤ 11) → (CSv w h kX2_become [.ref 49, .ref 4] M (fun M1 => RM w (h + 1) kX10_edge 48 [(0, .ref 0), (1, .int a0), (2, .int a1), (3, .int a2), (4, .int 9)] [] M1 Q))) ∧ (¬ ((0 ≤ a2 ∧ a2 ≤ 11)) → (CSi w h kX1_tell [.ref 1, .int 0] M (fun r1 M1 => (Q (some (.int r1)) M1)))))))))) : RM w (h + 1) kX10_edge 0 [(0, .ref 0), (1, .int a0), (2, .int a1), (3, .int a2)] [] M Q := by
  refine rj_iload_n dX10_edge_0 1 rfl rfl ?_
  refine rm_callSi [.int a0] (rest := []) (K := fun x M' => b2i (0 ≤ a0 ∧ a0 ≤ 191) = x ∧ M = M') ml_RX10_77 mtX10_isCell rfl dX10_edge_1 rfl rfl (Nat.le_of_ble_eq_true rfl) (by decide) (uX10_isCell (by omega) ⟨rfl, rfl⟩) (fun x M' hx => ?_)
  obtain ⟨rfl, rfl⟩ := hx
  obtain ⟨V1, V2⟩ := V
  refine rs_if_eqB (tgt := 21) dX10_edge_4 (by decide) (fun hc => ?_) (fun hc => ?_)
  · have V := V1 hc
    refine rj_aload_n dX10_edge_21 0 rfl rfl ?_
    refine rs_getR (t := 1) fl_RX10_12 rfl (by decide) (by decide) rfl dX10_edge_22 rfl (by omega) ?_
    refine rj_iconst (v := 0) dX10_edge_25 (by decide) ?_
    refine rm_callVi [.int 0] (rest := []) ml_RX10_85 mvX1_tell rfl dX10_edge_26 rfl rfl rfl rfl rfl (Nat.le_of_ble_eq_true rfl) (by decide) V (fun r1 M1 V => ?_)
    exact rm_iret dX10_edge_29 rfl rfl V
  · have V := V2 hc
    refine rj_iload_n dX10_edge_7 2 rfl rfl ?_
    refine rm_callSi [.int a1] (rest := []) (K := fun x M' => b2i (0 ≤ a1 ∧ a1 ≤ 7) = x ∧ M = M') ml_RX10_242 mtX10_isKind rfl dX10_edge_8 rfl rfl (Nat.le_of_ble_eq_true rfl) (by decide) (uX10_isKind (by omega) ⟨rfl, rfl⟩) (fun x M' hx => ?_)
    obtain ⟨rfl, rfl⟩ := hx
    obtain ⟨V1, V2⟩ := V
    refine rs_if_eqB (tgt := 21) dX10_edge_11 (by decide) (fun hc => ?_) (fun hc => ?_)
    · have V := V1 hc
      refine rj_aload_n dX10_edge_21 0 rfl rfl ?_
      refine rs_getR (t := 1) fl_RX10_12 rfl (by decide) (by decide) rfl dX10_edge_22 rfl (by omega) ?_
      refine rj_iconst (v := 0) dX10_edge_25 (by decide) ?_
      refine rm_callVi [.int 0] (rest := []) ml_RX10_85 mvX1_tell rfl dX10_edge_26 rfl rfl rfl rfl rfl (Nat.le_of_ble_eq_true rfl) (by decide) V (fun r1 M1 V => ?_)
      exact rm_iret dX10_edge_29 rfl rfl V
    · have V := V2 hc
      refine rj_iload_n dX10_edge_14 3 rfl rfl ?_
      refine rm_callSi [.int a2] (rest := []) (K := fun x M' => b2i (0 ≤ a2 ∧ a2 ≤ 11) = x ∧ M = M') ml_RX10_139 mtX10_isColumn rfl dX10_edge_15 rfl rfl (Nat.le_of_ble_eq_true rfl) (by decide) (uX10_isColumn (by omega) ⟨rfl, rfl⟩) (fun x M' hx => ?_)
      obtain ⟨rfl, rfl⟩ := hx
      obtain ⟨V1, V2⟩ := V
      refine rs_if_neB (tgt := 30) dX10_edge_18 (by decide) (fun hc => ?_) (fun hc => ?_)
      · have V := V1 hc
        refine rj_aload_n dX10_edge_30 0 rfl rfl ?_
        refine rs_getR (t := 49) fl_RX10_56 rfl (by decide) (by decide) rfl dX10_edge_31 rfl (by omega) ?_
        refine rj_aload_n dX10_edge_34 0 rfl rfl ?_
        refine rs_getR (t := 3) fl_RX10_19 rfl (by decide) (by decide) rfl dX10_edge_35 rfl (by omega) ?_
        refine rs_getR (t := 4) fl_RX10_89 rfl (by decide) (by decide) rfl dX10_edge_38 rfl (by omega) ?_
        refine rm_callVv [.ref 4] (rest := []) ml_RX10_245 mvX2_become rfl dX10_edge_41 rfl rfl rfl rfl rfl (Nat.le_of_ble_eq_true rfl) (by decide) V (fun M1 V => ?_)
        refine rj_bipush (v := 9) dX10_edge_44 (by decide) ?_
        refine rj_istore (lv' := [(0, .ref 0), (1, .int a0), (2, .int a1), (3, .int a2), (4, .int 9)]) dX10_edge_46 (by decide) rfl rfl ?_
        exact rs_sub [0, 1, 2, 3, 4] rfl V
      · have V := V2 hc
        refine rj_aload_n dX10_edge_21 0 rfl rfl ?_
        refine rs_getR (t := 1) fl_RX10_12 rfl (by decide) (by decide) rfl dX10_edge_22 rfl (by omega) ?_
        refine rj_iconst (v := 0) dX10_edge_25 (by decide) ?_
        refine rm_callVi [.int 0] (rest := []) ml_RX10_85 mvX1_tell rfl dX10_edge_26 rfl rfl rfl rfl rfl (Nat.le_of_ble_eq_true rfl) (by decide) V (fun r1 M1 V => ?_)
        exact rm_iret dX10_edge_29 rfl rfl V
set_option maxRecDepth 100000 in
set_option maxHeartbeats 4000000 in
theorem vX10_edge_48 {w : Wd} {h : Nat} (hh : 1 ≤ h) (v1 : Int32) (v2 : Int32) (v3 : Int32) (v4 : Int32)  (M : Mem) (Q : Option Value → Mem → Prop) (V : ((v4 < 0 → (CSi w h kX1_tell [.ref 1, .int 3] M (fun r1 M1 => (Q (some (.int r1)) M1)))) ∧ (¬ (v4 < 0) → (vp_in v1 192 ∧ ∀ M1 : Mem, M1 = mset M 50 (Int32.toNatClampNeg v1) v4 → (CSv w h kX8_follow [.ref 53, .ref 49, .int v2, .int v3, .int 20] M1 (fun M2 => (CSi w h kX8_isOut [.ref 53] M2 (fun r1 M3 => ((r1 = 0 → (∀ x1 : Int32, x1 = v4 + (-1) → RM w (h + 1) kX10_edge 48 [(0, .ref 0), (1, .int v1), (2, .int v2), (3, .int v3), (4, .int x1)] [] M3 Q)) ∧ (¬ (r1 = 0) → (Q (some (.int v4)) M3))))))))))) : RM w (h + 1) kX10_edge 48 [(0, .ref 0), (1, .int v1), (2, .int v2), (3, .int v3), (4, .int v4)] [] M Q := by
  refine rj_iload dX10_edge_48 4 rfl ?_
  obtain ⟨V1, V2⟩ := V
  refine rj_if_lt (tgt := 98) dX10_edge_50 (by decide) (fun hc => ?_) (fun hc => ?_)
  · have V := V1 hc
    refine rj_aload_n dX10_edge_98 0 rfl rfl ?_
    refine rs_getR (t := 1) fl_RX10_12 rfl (by decide) (by decide) rfl dX10_edge_99 rfl (by omega) ?_
    refine rj_iconst (v := 3) dX10_edge_102 (by decide) ?_
    refine rm_callVi [.int 3] (rest := []) ml_RX10_85 mvX1_tell rfl dX10_edge_103 rfl rfl rfl rfl rfl (Nat.le_of_ble_eq_true rfl) (by decide) V (fun r1 M1 V => ?_)
    exact rm_iret dX10_edge_106 rfl rfl V
  · have V := V2 hc
    refine rj_aload_n dX10_edge_53 0 rfl rfl ?_
    refine rs_getR (t := 49) fl_RX10_56 rfl (by decide) (by decide) rfl dX10_edge_54 rfl (by omega) ?_
    refine rs_getR (t := 50) fl_RX10_92 rfl (by decide) (by decide) rfl dX10_edge_57 rfl (by omega) ?_
    refine rj_iload_n dX10_edge_60 1 rfl rfl ?_
    refine rj_iload dX10_edge_61 4 rfl ?_
    obtain ⟨hb, V⟩ := V
    refine rs_iast dX10_edge_63 rfl hb (fun M1 eM1 => ?_)
    have V := V M1 eM1
    refine rj_aload_n dX10_edge_64 0 rfl rfl ?_
    refine rs_getR (t := 53) fl_RX10_63 rfl (by decide) (by decide) rfl dX10_edge_65 rfl (by omega) ?_
    refine rj_aload_n dX10_edge_68 0 rfl rfl ?_
    refine rs_getR (t := 49) fl_RX10_56 rfl (by decide) (by decide) rfl dX10_edge_69 rfl (by omega) ?_
    refine rj_iload_n dX10_edge_72 2 rfl rfl ?_
    refine rj_iload_n dX10_edge_73 3 rfl rfl ?_
    refine rj_bipush (v := 20) dX10_edge_74 (by decide) ?_
    refine rm_callVv [.ref 49, .int v2, .int v3, .int 20] (rest := []) ml_RX10_225 mvX8_follow rfl dX10_edge_76 rfl rfl rfl rfl rfl (Nat.le_of_ble_eq_true rfl) (by decide) V (fun M2 V => ?_)
    refine rj_aload_n dX10_edge_79 0 rfl rfl ?_
    refine rs_getR (t := 53) fl_RX10_63 rfl (by decide) (by decide) rfl dX10_edge_80 rfl (by omega) ?_
    refine rm_callVi [] (rest := []) ml_RX10_255 mvX8_isOut rfl dX10_edge_83 rfl rfl rfl rfl rfl (Nat.le_of_ble_eq_true rfl) (by decide) V (fun r1 M3 V => ?_)
    obtain ⟨V1, V2⟩ := V
    refine rj_if_eq (tgt := 92) dX10_edge_86 (by decide) (fun hc => ?_) (fun hc => ?_)
    · have V := V1 hc
      refine rj_iincV (c := (-1)) (fun y => [(0, .ref 0), (1, .int v1), (2, .int v2), (3, .int v3), (4, .int y)]) dX10_edge_92 4 rfl (by decide) (by decide) rfl (fun _ => rfl) (fun x1 ex1 => ?_)
      have V := V x1 ex1
      refine rj_goto (tgt := 48) dX10_edge_95 (by decide) ?_
      exact rs_sub [0, 1, 2, 3, 4] rfl V
    · have V := V2 hc
      refine rj_iload dX10_edge_89 4 rfl ?_
      exact rm_iret dX10_edge_91 rfl rfl V
-- X10_soft
set_option maxRecDepth 100000 in
set_option maxHeartbeats 4000000 in
theorem vX10_soft_0 {w : Wd} {h : Nat} (a0 : Int32)  (M : Mem) (Q : Option Value → Mem → Prop) (V : ((((0 : Int32) ≤ a0 ∧ a0 ≤ (2 : Int32)) → (CSv w h kX9_reckon [.ref 57, .ref 4, .int 1] M (fun M1 => (CSi w h kX9_leastStart [.ref 57] M1 (fun r1 M2 => ((a0 = 0 → (vp_in r1 192 ∧ (Q (some (.int (M2 58 (Int32.toNatClampNeg r1)))) M2))) ∧ (¬ a0 = 0 → ((a0 = 1 → (Q (some (.int r1)) M2)) ∧ (¬ a0 = 1 → (CSi w h kX9_endFrom [.ref 57, .ref 4, .int r1] M2 (fun r2 M3 => (Q (some (.int r2)) M3)))))))))))) ∧ (¬ (((0 : Int32) ≤ a0 ∧ a0 ≤ (2 : Int32))) → (CSi w h kX1_tell [.ref 1, .int 0] M (fun r1 M1 => (Q (some (.int r1)) M1)))))) : RM w (h + 1) kX10_soft 0 [(0, .ref 0), (1, .int a0)] [] M Q := by
  refine rj_iload_n dX10_soft_0 1 rfl rfl ?_
  refine rj_iconst (v := 0) dX10_soft_1 (by decide) ?_
  refine rj_iconst (v := 2) dX10_soft_2 (by decide) ?_
  refine rm_callSi [.int a0, .int 0, .int 2] (rest := []) (K := fun x M' => b2i ((0 : Int32) ≤ a0 ∧ a0 ≤ (2 : Int32)) = x ∧ M = M') ml_RX10_81 mtX10_isWithin rfl dX10_soft_3 rfl rfl (Nat.le_of_ble_eq_true rfl) (by decide) (uX10_isWithin ⟨rfl, rfl⟩) (fun x M' hx => ?_)
  obtain ⟨rfl, rfl⟩ := hx
  obtain ⟨V1, V2⟩ := V
  refine rs_if_neB (tgt := 18) dX10_soft_6 (by decide) (fun hc => ?_) (fun hc => ?_)
  · have V := V1 hc
    refine rj_aload_n dX10_soft_18 0 rfl rfl ?_
    refine rs_getR (t := 57) fl_RX10_73 rfl (by decide) (by decide) rfl dX10_soft_19 rfl (by omega) ?_
    refine rj_aload_n dX10_soft_22 0 rfl rfl ?_
    refine rs_getR (t := 3) fl_RX10_19 rfl (by decide) (by decide) rfl dX10_soft_23 rfl (by omega) ?_
    refine rs_getR (t := 4) fl_RX10_89 rfl (by decide) (by decide) rfl dX10_soft_26 rfl (by omega) ?_
    refine rj_iconst (v := 1) dX10_soft_29 (by decide) ?_
    refine rm_callVv [.ref 4, .int 1] (rest := []) ml_RX10_259 mvX9_reckon rfl dX10_soft_30 rfl rfl rfl rfl rfl (Nat.le_of_ble_eq_true rfl) (by decide) V (fun M1 V => ?_)
    refine rj_aload_n dX10_soft_33 0 rfl rfl ?_
    refine rs_getR (t := 57) fl_RX10_73 rfl (by decide) (by decide) rfl dX10_soft_34 rfl (by omega) ?_
    refine rm_callVi [] (rest := []) ml_RX10_263 mvX9_leastStart rfl dX10_soft_37 rfl rfl rfl rfl rfl (Nat.le_of_ble_eq_true rfl) (by decide) V (fun r1 M2 V => ?_)
    refine rj_istore_n (lv' := [(0, .ref 0), (1, .int a0), (2, .int r1)]) dX10_soft_40 rfl (by decide) rfl rfl ?_
    refine rj_iload_n dX10_soft_41 1 rfl rfl ?_
    obtain ⟨V1, V2⟩ := V
    by_cases w0 : a0 = 0
    · have V := V1 w0
      refine rs_at w0 ?_
      refine rj_lookup (off := 26) (tgt := 68) dX10_soft_42 (by decide) (by decide) (by decide) ?_
      refine rj_aload_n dX10_soft_68 0 rfl rfl ?_
      refine rs_getR (t := 57) fl_RX10_73 rfl (by decide) (by decide) rfl dX10_soft_69 rfl (by omega) ?_
      refine rs_getR (t := 58) fl_RX10_266 rfl (by decide) (by decide) rfl dX10_soft_72 rfl (by omega) ?_
      refine rj_iload_n dX10_soft_75 2 rfl rfl ?_
      obtain ⟨hb, V⟩ := V
      refine rs_iald dX10_soft_76 rfl hb ?_
      exact rm_iret dX10_soft_77 rfl rfl V
    · have V := V2 w0
      obtain ⟨V1, V2⟩ := V
      by_cases w1 : a0 = 1
      · have V := V1 w1
        refine rs_at w1 ?_
        refine rj_lookup (off := 36) (tgt := 78) dX10_soft_42 (by decide) (by decide) (by decide) ?_
        refine rj_iload_n dX10_soft_78 2 rfl rfl ?_
        exact rm_iret dX10_soft_79 rfl rfl V
      · have V := V2 w1
        refine rj_lookup (off := 38) (tgt := 80) dX10_soft_42 (by decide) ((lv_osw w0 (by decide)).trans ((lv_osw w1 (by decide)).trans rfl)) (by decide) ?_
        refine rj_aload_n dX10_soft_80 0 rfl rfl ?_
        refine rs_getR (t := 57) fl_RX10_73 rfl (by decide) (by decide) rfl dX10_soft_81 rfl (by omega) ?_
        refine rj_aload_n dX10_soft_84 0 rfl rfl ?_
        refine rs_getR (t := 3) fl_RX10_19 rfl (by decide) (by decide) rfl dX10_soft_85 rfl (by omega) ?_
        refine rs_getR (t := 4) fl_RX10_89 rfl (by decide) (by decide) rfl dX10_soft_88 rfl (by omega) ?_
        refine rj_iload_n dX10_soft_91 2 rfl rfl ?_
        refine rm_callVi [.ref 4, .int r1] (rest := []) ml_RX10_269 mvX9_endFrom rfl dX10_soft_92 rfl rfl rfl rfl rfl (Nat.le_of_ble_eq_true rfl) (by decide) V (fun r2 M3 V => ?_)
        exact rm_iret dX10_soft_95 rfl rfl V
  · have V := V2 hc
    refine rj_aload_n dX10_soft_9 0 rfl rfl ?_
    refine rs_getR (t := 1) fl_RX10_12 rfl (by decide) (by decide) rfl dX10_soft_10 rfl (by omega) ?_
    refine rj_iconst (v := 0) dX10_soft_13 (by decide) ?_
    refine rm_callVi [.int 0] (rest := []) ml_RX10_85 mvX1_tell rfl dX10_soft_14 rfl rfl rfl rfl rfl (Nat.le_of_ble_eq_true rfl) (by decide) V (fun r1 M1 V => ?_)
    exact rm_iret dX10_soft_17 rfl rfl V
-- X10_need
set_option maxRecDepth 100000 in
set_option maxHeartbeats 4000000 in
theorem vX10_need_0 {w : Wd} {h : Nat}   (M : Mem) (Q : Option Value → Mem → Prop) (V : (CSv w h kX9_reckon [.ref 57, .ref 4, .int 0] M (fun M1 => (CSi w h kX9_leastStart [.ref 57] M1 (fun r1 M2 => (vp_in r1 192 ∧ (Q (some (.int (M2 58 (Int32.toNatClampNeg r1)))) M2))))))) : RM w (h + 1) kX10_need 0 [(0, .ref 0)] [] M Q := by
  refine rj_aload_n dX10_need_0 0 rfl rfl ?_
  refine rs_getR (t := 57) fl_RX10_73 rfl (by decide) (by decide) rfl dX10_need_1 rfl (by omega) ?_
  refine rj_aload_n dX10_need_4 0 rfl rfl ?_
  refine rs_getR (t := 3) fl_RX10_19 rfl (by decide) (by decide) rfl dX10_need_5 rfl (by omega) ?_
  refine rs_getR (t := 4) fl_RX10_89 rfl (by decide) (by decide) rfl dX10_need_8 rfl (by omega) ?_
  refine rj_iconst (v := 0) dX10_need_11 (by decide) ?_
  refine rm_callVv [.ref 4, .int 0] (rest := []) ml_RX10_259 mvX9_reckon rfl dX10_need_12 rfl rfl rfl rfl rfl (Nat.le_of_ble_eq_true rfl) (by decide) V (fun M1 V => ?_)
  refine rj_aload_n dX10_need_15 0 rfl rfl ?_
  refine rs_getR (t := 57) fl_RX10_73 rfl (by decide) (by decide) rfl dX10_need_16 rfl (by omega) ?_
  refine rs_getR (t := 58) fl_RX10_266 rfl (by decide) (by decide) rfl dX10_need_19 rfl (by omega) ?_
  refine rj_aload_n dX10_need_22 0 rfl rfl ?_
  refine rs_getR (t := 57) fl_RX10_73 rfl (by decide) (by decide) rfl dX10_need_23 rfl (by omega) ?_
  refine rm_callVi [] (rest := [.ref 58]) ml_RX10_263 mvX9_leastStart rfl dX10_need_26 rfl rfl rfl rfl rfl (Nat.le_of_ble_eq_true rfl) (by decide) V (fun r1 M2 V => ?_)
  obtain ⟨hb, V⟩ := V
  refine rs_iald dX10_need_29 rfl hb ?_
  exact rm_iret dX10_need_30 rfl rfl V
-- X10_open
set_option maxRecDepth 100000 in
set_option maxHeartbeats 4000000 in
theorem vX10_open_0 {w : Wd} {h : Nat} (hh : 1 ≤ h) (a0 : Int32) (a1 : Int32)  (M : Mem) (Q : Option Value → Mem → Prop) (V : ((¬ ((0 ≤ a0 ∧ a0 ≤ 15)) → (CSi w h kX1_tell [.ref 1, .int 0] M (fun r1 M1 => (Q (some (.int r1)) M1)))) ∧ ((0 ≤ a0 ∧ a0 ≤ 15) → (((1 ≤ a1 ∧ a1 ≤ 99) → (∀ x1 : Int32, x1 = (a1 + (M 4 2)) → RM w (h + 1) kX10_open 42 [(0, .ref 0), (1, .int a0), (3, .int x1), (4, .int 0), (5, .int 0)] [] M Q)) ∧ (¬ ((1 ≤ a1 ∧ a1 ≤ 99)) → (CSi w h kX1_tell [.ref 1, .int 0] M (fun r1 M1 => (Q (some (.int r1)) M1)))))))) : RM w (h + 1) kX10_open 0 [(0, .ref 0), (1, .int a0), (2, .int a1)] [] M Q := by
  refine rj_iload_n dX10_open_0 1 rfl rfl ?_
  refine rm_callSi [.int a0] (rest := []) (K := fun x M' => b2i (0 ≤ a0 ∧ a0 ≤ 15) = x ∧ M = M') ml_RX10_133 mtX10_isRow rfl dX10_open_1 rfl rfl (Nat.le_of_ble_eq_true rfl) (by decide) (uX10_isRow (by omega) ⟨rfl, rfl⟩) (fun x M' hx => ?_)
  obtain ⟨rfl, rfl⟩ := hx
  obtain ⟨V1, V2⟩ := V
  refine rs_if_eqB (tgt := 14) dX10_open_4 (by decide) (fun hc => ?_) (fun hc => ?_)
  · have V := V1 hc
    refine rj_aload_n dX10_open_14 0 rfl rfl ?_
    refine rs_getR (t := 1) fl_RX10_12 rfl (by decide) (by decide) rfl dX10_open_15 rfl (by omega) ?_
    refine rj_iconst (v := 0) dX10_open_18 (by decide) ?_
    refine rm_callVi [.int 0] (rest := []) ml_RX10_85 mvX1_tell rfl dX10_open_19 rfl rfl rfl rfl rfl (Nat.le_of_ble_eq_true rfl) (by decide) V (fun r1 M1 V => ?_)
    exact rm_iret dX10_open_22 rfl rfl V
  · have V := V2 hc
    refine rj_iload_n dX10_open_7 2 rfl rfl ?_
    refine rm_callSi [.int a1] (rest := []) (K := fun x M' => b2i (1 ≤ a1 ∧ a1 ≤ 99) = x ∧ M = M') ml_RX10_181 mtX10_isWater rfl dX10_open_8 rfl rfl (Nat.le_of_ble_eq_true rfl) (by decide) (uX10_isWater (by omega) ⟨rfl, rfl⟩) (fun x M' hx => ?_)
    obtain ⟨rfl, rfl⟩ := hx
    obtain ⟨V1, V2⟩ := V
    refine rs_if_neB (tgt := 23) dX10_open_11 (by decide) (fun hc => ?_) (fun hc => ?_)
    · have V := V1 hc
      refine rj_iload_n dX10_open_23 2 rfl rfl ?_
      refine rj_aload_n dX10_open_24 0 rfl rfl ?_
      refine rs_getR (t := 3) fl_RX10_19 rfl (by decide) (by decide) rfl dX10_open_25 rfl (by omega) ?_
      refine rs_getR (t := 4) fl_RX10_89 rfl (by decide) (by decide) rfl dX10_open_28 rfl (by omega) ?_
      refine rs_getI fl_RX10_115 rfl (by decide) (by decide) rfl dX10_open_31 rfl ?_
      refine rj_iadd dX10_open_34 ?_
      refine rj_top (fun x1 ex1 => ?_)
      have V := V x1 ex1
      refine rj_istore_n (lv' := [(0, .ref 0), (1, .int a0), (2, .int a1), (3, .int x1)]) dX10_open_35 rfl (by decide) rfl rfl ?_
      refine rj_iconst (v := 0) dX10_open_36 (by decide) ?_
      refine rj_istore (lv' := [(0, .ref 0), (1, .int a0), (2, .int a1), (3, .int x1), (4, .int 0)]) dX10_open_37 (by decide) rfl rfl ?_
      refine rj_iconst (v := 0) dX10_open_39 (by decide) ?_
      refine rj_istore (lv' := [(0, .ref 0), (1, .int a0), (2, .int a1), (3, .int x1), (4, .int 0), (5, .int 0)]) dX10_open_40 (by decide) rfl rfl ?_
      exact rs_sub [0, 1, 3, 4, 5] rfl V
    · have V := V2 hc
      refine rj_aload_n dX10_open_14 0 rfl rfl ?_
      refine rs_getR (t := 1) fl_RX10_12 rfl (by decide) (by decide) rfl dX10_open_15 rfl (by omega) ?_
      refine rj_iconst (v := 0) dX10_open_18 (by decide) ?_
      refine rm_callVi [.int 0] (rest := []) ml_RX10_85 mvX1_tell rfl dX10_open_19 rfl rfl rfl rfl rfl (Nat.le_of_ble_eq_true rfl) (by decide) V (fun r1 M1 V => ?_)
      exact rm_iret dX10_open_22 rfl rfl V
set_option maxRecDepth 100000 in
set_option maxHeartbeats 4000000 in
theorem vX10_open_42 {w : Wd} {h : Nat} (hh : 1 ≤ h) (v1 : Int32) (v3 : Int32) (v4 : Int32) (v5 : Int32)  (M : Mem) (Q : Option Value → Mem → Prop) (V : ((12 ≤ v5 → (Q (some (.int v4)) M)) ∧ (¬ (12 ≤ v5) → (CSi w h kX2_holdOf [.ref 4, .int ((v1 * 12) + v5)] M (fun r1 M1 => ((v3 < r1 → (∀ x1 : Int32, x1 = v5 + 1 → RM w (h + 1) kX10_open 42 [(0, .ref 0), (1, .int v1), (3, .int v3), (4, .int v4), (5, .int x1)] [] M1 Q)) ∧ (¬ (v3 < r1) → (∀ x1 : Int32, x1 = v4 + 1 → (∀ x2 : Int32, x2 = v5 + 1 → RM w (h + 1) kX10_open 42 [(0, .ref 0), (1, .int v1), (3, .int v3), (4, .int x1), (5, .int x2)] [] M1 Q))))))))) : RM w (h + 1) kX10_open 42 [(0, .ref 0), (1, .int v1), (3, .int v3), (4, .int v4), (5, .int v5)] [] M Q := by
  refine rj_iload dX10_open_42 4 rfl ?_
  refine rj_bipush (v := 12) dX10_open_44 (by decide) ?_
  obtain ⟨V1, V2⟩ := V
  refine rj_icmp_ge (tgt := 79) dX10_open_46 (by decide) (fun hc => ?_) (fun hc => ?_)
  · have V := V1 hc
    refine rj_iload dX10_open_79 3 rfl ?_
    exact rm_iret dX10_open_81 rfl rfl V
  · have V := V2 hc
    refine rj_aload_n dX10_open_49 0 rfl rfl ?_
    refine rs_getR (t := 3) fl_RX10_19 rfl (by decide) (by decide) rfl dX10_open_50 rfl (by omega) ?_
    refine rs_getR (t := 4) fl_RX10_89 rfl (by decide) (by decide) rfl dX10_open_53 rfl (by omega) ?_
    refine rj_iload_n dX10_open_56 1 rfl rfl ?_
    refine rj_bipush (v := 12) dX10_open_57 (by decide) ?_
    refine rj_imul dX10_open_59 ?_
    refine rj_iload dX10_open_60 4 rfl ?_
    refine rj_iadd dX10_open_62 ?_
    refine rm_callVi [.int ((v1 * 12) + v5)] (rest := []) ml_RX10_99 mvX2_holdOf rfl dX10_open_63 rfl rfl rfl rfl rfl (Nat.le_of_ble_eq_true rfl) (by decide) V (fun r1 M1 V => ?_)
    refine rj_iload_n dX10_open_66 2 rfl rfl ?_
    obtain ⟨V1, V2⟩ := V
    refine rj_icmp_gt (tgt := 73) dX10_open_67 (by decide) (fun hc => ?_) (fun hc => ?_)
    · have V := V1 hc
      refine rj_iincV (c := 1) (fun y => [(0, .ref 0), (1, .int v1), (3, .int v3), (4, .int v4), (5, .int y)]) dX10_open_73 4 rfl (by decide) (by decide) rfl (fun _ => rfl) (fun x1 ex1 => ?_)
      have V := V x1 ex1
      refine rj_goto (tgt := 42) dX10_open_76 (by decide) ?_
      exact rs_sub [0, 1, 2, 3, 4] rfl V
    · have V := V2 hc
      refine rj_iincV (c := 1) (fun y => [(0, .ref 0), (1, .int v1), (3, .int v3), (4, .int y), (5, .int v5)]) dX10_open_70 3 rfl (by decide) (by decide) rfl (fun _ => rfl) (fun x1 ex1 => ?_)
      have V := V x1 ex1
      refine rj_iincV (c := 1) (fun y => [(0, .ref 0), (1, .int v1), (3, .int v3), (4, .int x1), (5, .int y)]) dX10_open_73 4 rfl (by decide) (by decide) rfl (fun _ => rfl) (fun x2 ex2 => ?_)
      have V := V x2 ex2
      refine rj_goto (tgt := 42) dX10_open_76 (by decide) ?_
      exact rs_sub [0, 1, 2, 3, 4] rfl V
-- X10_seed
set_option maxRecDepth 100000 in
set_option maxHeartbeats 4000000 in
theorem vX10_seed_0 {w : Wd} {h : Nat} (a0 : Int32)  (M : Mem) (Q : Option Value → Mem → Prop) (V : (∀ x1 : Int32, x1 = (M 3 5) → (∀ M1 : Mem, M1 = mset M 3 5 a0 → (Q (some (.int x1)) M1)))) : RM w h kX10_seed 0 [(0, .ref 0), (1, .int a0)] [] M Q := by
  refine rj_aload_n dX10_seed_0 0 rfl rfl ?_
  refine rs_getR (t := 3) fl_RX10_19 rfl (by decide) (by decide) rfl dX10_seed_1 rfl (by omega) ?_
  refine rs_getI fl_RX10_273 rfl (by decide) (by decide) rfl dX10_seed_4 rfl ?_
  refine rj_top (fun x1 ex1 => ?_)
  have V := V x1 ex1
  refine rj_istore_n (lv' := [(0, .ref 0), (1, .int a0), (2, .int x1)]) dX10_seed_7 rfl (by decide) rfl rfl ?_
  refine rj_aload_n dX10_seed_8 0 rfl rfl ?_
  refine rs_getR (t := 3) fl_RX10_19 rfl (by decide) (by decide) rfl dX10_seed_9 rfl (by omega) ?_
  refine rj_iload_n dX10_seed_12 1 rfl rfl ?_
  refine rs_putI fl_RX10_273 (ft5_5 _ nofun) rfl (by decide) (by decide) rfl dX10_seed_13 rfl rfl rfl (fun M1 eM1 => ?_)
  have V := V M1 eM1
  refine rj_iload_n dX10_seed_16 2 rfl rfl ?_
  exact rm_iret dX10_seed_17 rfl rfl V
-- X10_hold
set_option maxRecDepth 100000 in
set_option maxHeartbeats 4000000 in
theorem vX10_hold_0 {w : Wd} {h : Nat} (hh : 1 ≤ h) (a0 : Int32) (a1 : Int32)  (M : Mem) (Q : Option Value → Mem → Prop) (V : ((¬ ((0 ≤ a0 ∧ a0 ≤ 9)) → (CSi w h kX1_tell [.ref 1, .int 0] M (fun r1 M1 => (Q (some (.int r1)) M1)))) ∧ ((0 ≤ a0 ∧ a0 ≤ 9) → (((((-1) : Int32) ≤ a1 ∧ a1 ≤ (7 : Int32)) → ((a1 = (-1) → (vp_in a0 10 ∧ ∀ M1 : Mem, M1 = mset M 19 (Int32.toNatClampNeg a0) a1 → (Q (some (.int 1)) M1))) ∧ (¬ (a1 = (-1)) → (CSi w h kX0_isThere [.ref 8, .int a1] M (fun r1 M1 => ((¬ (r1 = 0) → (vp_in a0 10 ∧ ∀ M2 : Mem, M2 = mset M1 19 (Int32.toNatClampNeg a0) a1 → (Q (some (.int 1)) M2))) ∧ (r1 = 0 → (CSi w h kX1_tell [.ref 1, .int 3] M1 (fun r2 M2 => (Q (some (.int r2)) M2)))))))))) ∧ (¬ ((((-1) : Int32) ≤ a1 ∧ a1 ≤ (7 : Int32))) → (CSi w h kX1_tell [.ref 1, .int 0] M (fun r1 M1 => (Q (some (.int r1)) M1)))))))) : RM w (h + 1) kX10_hold 0 [(0, .ref 0), (1, .int a0), (2, .int a1)] [] M Q := by
  refine rj_iload_n dX10_hold_0 1 rfl rfl ?_
  refine rm_callSi [.int a0] (rest := []) (K := fun x M' => b2i (0 ≤ a0 ∧ a0 ≤ 9) = x ∧ M = M') ml_RX10_276 mtX10_isSpot rfl dX10_hold_1 rfl rfl (Nat.le_of_ble_eq_true rfl) (by decide) (uX10_isSpot (by omega) ⟨rfl, rfl⟩) (fun x M' hx => ?_)
  obtain ⟨rfl, rfl⟩ := hx
  obtain ⟨V1, V2⟩ := V
  refine rs_if_eqB (tgt := 17) dX10_hold_4 (by decide) (fun hc => ?_) (fun hc => ?_)
  · have V := V1 hc
    refine rj_aload_n dX10_hold_17 0 rfl rfl ?_
    refine rs_getR (t := 1) fl_RX10_12 rfl (by decide) (by decide) rfl dX10_hold_18 rfl (by omega) ?_
    refine rj_iconst (v := 0) dX10_hold_21 (by decide) ?_
    refine rm_callVi [.int 0] (rest := []) ml_RX10_85 mvX1_tell rfl dX10_hold_22 rfl rfl rfl rfl rfl (Nat.le_of_ble_eq_true rfl) (by decide) V (fun r1 M1 V => ?_)
    exact rm_iret dX10_hold_25 rfl rfl V
  · have V := V2 hc
    refine rj_iload_n dX10_hold_7 2 rfl rfl ?_
    refine rj_iconst (v := (-1)) dX10_hold_8 (by decide) ?_
    refine rj_bipush (v := 7) dX10_hold_9 (by decide) ?_
    refine rm_callSi [.int a1, .int (-1), .int 7] (rest := []) (K := fun x M' => b2i (((-1) : Int32) ≤ a1 ∧ a1 ≤ (7 : Int32)) = x ∧ M = M') ml_RX10_81 mtX10_isWithin rfl dX10_hold_11 rfl rfl (Nat.le_of_ble_eq_true rfl) (by decide) (uX10_isWithin ⟨rfl, rfl⟩) (fun x M' hx => ?_)
    obtain ⟨rfl, rfl⟩ := hx
    obtain ⟨V1, V2⟩ := V
    refine rs_if_neB (tgt := 26) dX10_hold_14 (by decide) (fun hc => ?_) (fun hc => ?_)
    · have V := V1 hc
      refine rj_iload_n dX10_hold_26 2 rfl rfl ?_
      refine rj_iconst (v := (-1)) dX10_hold_27 (by decide) ?_
      obtain ⟨V1, V2⟩ := V
      refine rj_icmp_eq (tgt := 54) dX10_hold_28 (by decide) (fun hc => ?_) (fun hc => ?_)
      · have V := V1 hc
        refine rj_aload_n dX10_hold_54 0 rfl rfl ?_
        refine rs_getR (t := 3) fl_RX10_19 rfl (by decide) (by decide) rfl dX10_hold_55 rfl (by omega) ?_
        refine rs_getR (t := 19) fl_RX10_279 rfl (by decide) (by decide) rfl dX10_hold_58 rfl (by omega) ?_
        refine rj_iload_n dX10_hold_61 1 rfl rfl ?_
        refine rj_iload_n dX10_hold_62 2 rfl rfl ?_
        obtain ⟨hb, V⟩ := V
        refine rs_iast dX10_hold_63 rfl hb (fun M1 eM1 => ?_)
        have V := V M1 eM1
        refine rj_iconst (v := 1) dX10_hold_64 (by decide) ?_
        exact rm_iret dX10_hold_65 rfl rfl V
      · have V := V2 hc
        refine rj_aload_n dX10_hold_31 0 rfl rfl ?_
        refine rs_getR (t := 3) fl_RX10_19 rfl (by decide) (by decide) rfl dX10_hold_32 rfl (by omega) ?_
        refine rs_getR (t := 8) fl_RX10_102 rfl (by decide) (by decide) rfl dX10_hold_35 rfl (by omega) ?_
        refine rj_iload_n dX10_hold_38 2 rfl rfl ?_
        refine rm_callVi [.int a1] (rest := []) ml_RX10_155 mvX0_isThere rfl dX10_hold_39 rfl rfl rfl rfl rfl (Nat.le_of_ble_eq_true rfl) (by decide) V (fun r1 M1 V => ?_)
        obtain ⟨V1, V2⟩ := V
        refine rj_if_ne (tgt := 54) dX10_hold_42 (by decide) (fun hc => ?_) (fun hc => ?_)
        · have V := V1 hc
          refine rj_aload_n dX10_hold_54 0 rfl rfl ?_
          refine rs_getR (t := 3) fl_RX10_19 rfl (by decide) (by decide) rfl dX10_hold_55 rfl (by omega) ?_
          refine rs_getR (t := 19) fl_RX10_279 rfl (by decide) (by decide) rfl dX10_hold_58 rfl (by omega) ?_
          refine rj_iload_n dX10_hold_61 1 rfl rfl ?_
          refine rj_iload_n dX10_hold_62 2 rfl rfl ?_
          obtain ⟨hb, V⟩ := V
          refine rs_iast dX10_hold_63 rfl hb (fun M2 eM2 => ?_)
          have V := V M2 eM2
          refine rj_iconst (v := 1) dX10_hold_64 (by decide) ?_
          exact rm_iret dX10_hold_65 rfl rfl V
        · have V := V2 hc
          refine rj_aload_n dX10_hold_45 0 rfl rfl ?_
          refine rs_getR (t := 1) fl_RX10_12 rfl (by decide) (by decide) rfl dX10_hold_46 rfl (by omega) ?_
          refine rj_iconst (v := 3) dX10_hold_49 (by decide) ?_
          refine rm_callVi [.int 3] (rest := []) ml_RX10_85 mvX1_tell rfl dX10_hold_50 rfl rfl rfl rfl rfl (Nat.le_of_ble_eq_true rfl) (by decide) V (fun r2 M2 V => ?_)
          exact rm_iret dX10_hold_53 rfl rfl V
    · have V := V2 hc
      refine rj_aload_n dX10_hold_17 0 rfl rfl ?_
      refine rs_getR (t := 1) fl_RX10_12 rfl (by decide) (by decide) rfl dX10_hold_18 rfl (by omega) ?_
      refine rj_iconst (v := 0) dX10_hold_21 (by decide) ?_
      refine rm_callVi [.int 0] (rest := []) ml_RX10_85 mvX1_tell rfl dX10_hold_22 rfl rfl rfl rfl rfl (Nat.le_of_ble_eq_true rfl) (by decide) V (fun r1 M1 V => ?_)
      exact rm_iret dX10_hold_25 rfl rfl V
-- X10_as
set_option maxRecDepth 100000 in
set_option maxHeartbeats 4000000 in
theorem vX10_as_0 {w : Wd} {h : Nat} (hh : 1 ≤ h) (a0 : Int32) (a1 : Int32)  (M : Mem) (Q : Option Value → Mem → Prop) (V : ((¬ ((0 ≤ a0 ∧ a0 ≤ 9)) → (CSi w h kX1_tell [.ref 1, .int 0] M (fun r1 M1 => (Q (some (.int r1)) M1)))) ∧ ((0 ≤ a0 ∧ a0 ≤ 9) → (((0 ≤ a1 ∧ a1 ≤ 7) → (vp_in a0 10 ∧ (∀ x1 : Int32, x1 = (M 19 (Int32.toNatClampNeg a0)) → ((¬ ((0 ≤ x1 ∧ x1 ≤ 7)) → (CSi w h kX1_tell [.ref 1, .int 5] M (fun r1 M1 => (Q (some (.int r1)) M1)))) ∧ ((0 ≤ x1 ∧ x1 ≤ 7) → (CSi w h kX0_isThere [.ref 8, .int x1] M (fun r1 M1 => ((¬ (r1 = 0) → (vp_in x1 8 ∧ (CSi w h kX10_isUnder [.int (M1 9 (Int32.toNatClampNeg x1)), .int a1] M1 (fun r2 M2 => ((r2 = 0 → (CSi w h kX1_tell [.ref 1, .int 2] M2 (fun r3 M3 => (Q (some (.int r3)) M3)))) ∧ (¬ (r2 = 0) → (Q (some (.int x1)) M2))))))) ∧ (r1 = 0 → (CSi w h kX1_tell [.ref 1, .int 5] M1 (fun r2 M2 => (Q (some (.int r2)) M2)))))))))))) ∧ (¬ ((0 ≤ a1 ∧ a1 ≤ 7)) → (CSi w h kX1_tell [.ref 1, .int 0] M (fun r1 M1 => (Q (some (.int r1)) M1)))))))) : RM w (h + 1) kX10_as 0 [(0, .ref 0), (1, .int a0), (2, .int a1)] [] M Q := by
  refine rj_iload_n dX10_as_0 1 rfl rfl ?_
  refine rm_callSi [.int a0] (rest := []) (K := fun x M' => b2i (0 ≤ a0 ∧ a0 ≤ 9) = x ∧ M = M') ml_RX10_276 mtX10_isSpot rfl dX10_as_1 rfl rfl (Nat.le_of_ble_eq_true rfl) (by decide) (uX10_isSpot (by omega) ⟨rfl, rfl⟩) (fun x M' hx => ?_)
  obtain ⟨rfl, rfl⟩ := hx
  obtain ⟨V1, V2⟩ := V
  refine rs_if_eqB (tgt := 14) dX10_as_4 (by decide) (fun hc => ?_) (fun hc => ?_)
  · have V := V1 hc
    refine rj_aload_n dX10_as_14 0 rfl rfl ?_
    refine rs_getR (t := 1) fl_RX10_12 rfl (by decide) (by decide) rfl dX10_as_15 rfl (by omega) ?_
    refine rj_iconst (v := 0) dX10_as_18 (by decide) ?_
    refine rm_callVi [.int 0] (rest := []) ml_RX10_85 mvX1_tell rfl dX10_as_19 rfl rfl rfl rfl rfl (Nat.le_of_ble_eq_true rfl) (by decide) V (fun r1 M1 V => ?_)
    exact rm_iret dX10_as_22 rfl rfl V
  · have V := V2 hc
    refine rj_iload_n dX10_as_7 2 rfl rfl ?_
    refine rm_callSi [.int a1] (rest := []) (K := fun x M' => b2i (0 ≤ a1 ∧ a1 ≤ 7) = x ∧ M = M') ml_RX10_242 mtX10_isKind rfl dX10_as_8 rfl rfl (Nat.le_of_ble_eq_true rfl) (by decide) (uX10_isKind (by omega) ⟨rfl, rfl⟩) (fun x M' hx => ?_)
    obtain ⟨rfl, rfl⟩ := hx
    obtain ⟨V1, V2⟩ := V
    refine rs_if_neB (tgt := 23) dX10_as_11 (by decide) (fun hc => ?_) (fun hc => ?_)
    · have V := V1 hc
      refine rj_aload_n dX10_as_23 0 rfl rfl ?_
      refine rs_getR (t := 3) fl_RX10_19 rfl (by decide) (by decide) rfl dX10_as_24 rfl (by omega) ?_
      refine rs_getR (t := 19) fl_RX10_279 rfl (by decide) (by decide) rfl dX10_as_27 rfl (by omega) ?_
      refine rj_iload_n dX10_as_30 1 rfl rfl ?_
      obtain ⟨hb, V⟩ := V
      refine rs_iald dX10_as_31 rfl hb ?_
      refine rj_top (fun x1 ex1 => ?_)
      have V := V x1 ex1
      refine rj_istore_n (lv' := [(0, .ref 0), (1, .int a0), (2, .int a1), (3, .int x1)]) dX10_as_32 rfl (by decide) rfl rfl ?_
      refine rj_iload_n dX10_as_33 3 rfl rfl ?_
      refine rm_callSi [.int x1] (rest := []) (K := fun x M' => b2i (0 ≤ x1 ∧ x1 ≤ 7) = x ∧ M = M') ml_RX10_152 mtX10_isDropNumber rfl dX10_as_34 rfl rfl (Nat.le_of_ble_eq_true rfl) (by decide) (uX10_isDropNumber (by omega) ⟨rfl, rfl⟩) (fun x M' hx => ?_)
      obtain ⟨rfl, rfl⟩ := hx
      obtain ⟨V1, V2⟩ := V
      refine rs_if_eqB (tgt := 54) dX10_as_37 (by decide) (fun hc => ?_) (fun hc => ?_)
      · have V := V1 hc
        refine rj_aload_n dX10_as_54 0 rfl rfl ?_
        refine rs_getR (t := 1) fl_RX10_12 rfl (by decide) (by decide) rfl dX10_as_55 rfl (by omega) ?_
        refine rj_iconst (v := 5) dX10_as_58 (by decide) ?_
        refine rm_callVi [.int 5] (rest := []) ml_RX10_85 mvX1_tell rfl dX10_as_59 rfl rfl rfl rfl rfl (Nat.le_of_ble_eq_true rfl) (by decide) V (fun r1 M1 V => ?_)
        exact rm_iret dX10_as_62 rfl rfl V
      · have V := V2 hc
        refine rj_aload_n dX10_as_40 0 rfl rfl ?_
        refine rs_getR (t := 3) fl_RX10_19 rfl (by decide) (by decide) rfl dX10_as_41 rfl (by omega) ?_
        refine rs_getR (t := 8) fl_RX10_102 rfl (by decide) (by decide) rfl dX10_as_44 rfl (by omega) ?_
        refine rj_iload_n dX10_as_47 3 rfl rfl ?_
        refine rm_callVi [.int x1] (rest := []) ml_RX10_155 mvX0_isThere rfl dX10_as_48 rfl rfl rfl rfl rfl (Nat.le_of_ble_eq_true rfl) (by decide) V (fun r1 M1 V => ?_)
        obtain ⟨V1, V2⟩ := V
        refine rj_if_ne (tgt := 63) dX10_as_51 (by decide) (fun hc => ?_) (fun hc => ?_)
        · have V := V1 hc
          refine rj_aload_n dX10_as_63 0 rfl rfl ?_
          refine rs_getR (t := 3) fl_RX10_19 rfl (by decide) (by decide) rfl dX10_as_64 rfl (by omega) ?_
          refine rs_getR (t := 8) fl_RX10_102 rfl (by decide) (by decide) rfl dX10_as_67 rfl (by omega) ?_
          refine rs_getR (t := 9) fl_RX10_158 rfl (by decide) (by decide) rfl dX10_as_70 rfl (by omega) ?_
          refine rj_iload_n dX10_as_73 3 rfl rfl ?_
          obtain ⟨hb, V⟩ := V
          refine rs_iald dX10_as_74 rfl hb ?_
          refine rj_iload_n dX10_as_75 2 rfl rfl ?_
          refine rm_callSi [.int (M1 9 (Int32.toNatClampNeg x1)), .int a1] (rest := []) ml_RX10_282 mtX10_isUnder rfl dX10_as_76 rfl rfl (Nat.le_of_ble_eq_true rfl) (by decide) V (fun r2 M2 V => ?_)
          obtain ⟨V1, V2⟩ := V
          refine rj_if_eq (tgt := 86) dX10_as_79 (by decide) (fun hc => ?_) (fun hc => ?_)
          · have V := V1 hc
            refine rj_aload_n dX10_as_86 0 rfl rfl ?_
            refine rs_getR (t := 1) fl_RX10_12 rfl (by decide) (by decide) rfl dX10_as_87 rfl (by omega) ?_
            refine rj_iconst (v := 2) dX10_as_90 (by decide) ?_
            refine rm_callVi [.int 2] (rest := []) ml_RX10_85 mvX1_tell rfl dX10_as_91 rfl rfl rfl rfl rfl (Nat.le_of_ble_eq_true rfl) (by decide) V (fun r3 M3 V => ?_)
            exact rm_iret dX10_as_94 rfl rfl V
          · have V := V2 hc
            refine rj_iload_n dX10_as_82 3 rfl rfl ?_
            refine rj_goto (tgt := 94) dX10_as_83 (by decide) ?_
            exact rm_iret dX10_as_94 rfl rfl V
        · have V := V2 hc
          refine rj_aload_n dX10_as_54 0 rfl rfl ?_
          refine rs_getR (t := 1) fl_RX10_12 rfl (by decide) (by decide) rfl dX10_as_55 rfl (by omega) ?_
          refine rj_iconst (v := 5) dX10_as_58 (by decide) ?_
          refine rm_callVi [.int 5] (rest := []) ml_RX10_85 mvX1_tell rfl dX10_as_59 rfl rfl rfl rfl rfl (Nat.le_of_ble_eq_true rfl) (by decide) V (fun r2 M2 V => ?_)
          exact rm_iret dX10_as_62 rfl rfl V
    · have V := V2 hc
      refine rj_aload_n dX10_as_14 0 rfl rfl ?_
      refine rs_getR (t := 1) fl_RX10_12 rfl (by decide) (by decide) rfl dX10_as_15 rfl (by omega) ?_
      refine rj_iconst (v := 0) dX10_as_18 (by decide) ?_
      refine rm_callVi [.int 0] (rest := []) ml_RX10_85 mvX1_tell rfl dX10_as_19 rfl rfl rfl rfl rfl (Nat.le_of_ble_eq_true rfl) (by decide) V (fun r1 M1 V => ?_)
      exact rm_iret dX10_as_22 rfl rfl V
-- X10_sheet
set_option maxRecDepth 100000 in
set_option maxHeartbeats 4000000 in
theorem vX10_sheet_0 {w : Wd} {h : Nat} (hh : 1 ≤ h) (a0 : Int32) (a1 : Int32) (a2 : Int32)  (M : Mem) (Q : Option Value → Mem → Prop) (V : ((¬ ((0 ≤ a0 ∧ a0 ≤ 3)) → (CSi w h kX1_tell [.ref 1, .int 0] M (fun r1 M1 => (Q (some (.int r1)) M1)))) ∧ ((0 ≤ a0 ∧ a0 ≤ 3) → (((a1 = 0 ∨ a1 = 8 ∨ a1 = 16 ∨ a1 = 32) → ((0 ≤ a2 → ((a2 ≤ 40 → (∀ x1 : Int32, x1 = (if a1 = 0 then (0 : Int32) else a2) → (vp_in a0 4 ∧ ∀ K1 : Nat, K1 = 41 + 2 * (Int32.toNatClampNeg a0) → isSheetC K1 → (CSv w h kX6_begin [.ref K1, .int a1, .int x1] M (fun M1 => (Q (some (.int x1)) M1)))))) ∧ (¬ (a2 ≤ 40) → (CSi w h kX1_tell [.ref 1, .int 0] M (fun r1 M1 => (Q (some (.int r1)) M1)))))) ∧ (¬ (0 ≤ a2) → (CSi w h kX1_tell [.ref 1, .int 6] M (fun r1 M1 => (Q (some (.int r1)) M1)))))) ∧ (¬ ((a1 = 0 ∨ a1 = 8 ∨ a1 = 16 ∨ a1 = 32)) → (CSi w h kX1_tell [.ref 1, .int 0] M (fun r1 M1 => (Q (some (.int r1)) M1)))))))) : RM w (h + 1) kX10_sheet 0 [(0, .ref 0), (1, .int a0), (2, .int a1), (3, .int a2)] [] M Q := by
  refine rj_iload_n dX10_sheet_0 1 rfl rfl ?_
  refine rm_callSi [.int a0] (rest := []) (K := fun x M' => b2i (0 ≤ a0 ∧ a0 ≤ 3) = x ∧ M = M') ml_RX10_285 mtX10_isSheet rfl dX10_sheet_1 rfl rfl (Nat.le_of_ble_eq_true rfl) (by decide) (uX10_isSheet (by omega) ⟨rfl, rfl⟩) (fun x M' hx => ?_)
  obtain ⟨rfl, rfl⟩ := hx
  obtain ⟨V1, V2⟩ := V
  refine rs_if_eqB (tgt := 14) dX10_sheet_4 (by decide) (fun hc => ?_) (fun hc => ?_)
  · have V := V1 hc
    refine rj_aload_n dX10_sheet_14 0 rfl rfl ?_
    refine rs_getR (t := 1) fl_RX10_12 rfl (by decide) (by decide) rfl dX10_sheet_15 rfl (by omega) ?_
    refine rj_iconst (v := 0) dX10_sheet_18 (by decide) ?_
    refine rm_callVi [.int 0] (rest := []) ml_RX10_85 mvX1_tell rfl dX10_sheet_19 rfl rfl rfl rfl rfl (Nat.le_of_ble_eq_true rfl) (by decide) V (fun r1 M1 V => ?_)
    exact rm_iret dX10_sheet_22 rfl rfl V
  · have V := V2 hc
    refine rj_iload_n dX10_sheet_7 2 rfl rfl ?_
    refine rm_callSi [.int a1] (rest := []) (K := fun x M' => b2i (a1 = 0 ∨ a1 = 8 ∨ a1 = 16 ∨ a1 = 32) = x ∧ M = M') ml_RX10_288 mtX10_isWidth rfl dX10_sheet_8 rfl rfl (Nat.le_of_ble_eq_true rfl) (by decide) (uX10_isWidth ⟨rfl, rfl⟩) (fun x M' hx => ?_)
    obtain ⟨rfl, rfl⟩ := hx
    obtain ⟨V1, V2⟩ := V
    refine rs_if_neB (tgt := 23) dX10_sheet_11 (by decide) (fun hc => ?_) (fun hc => ?_)
    · have V := V1 hc
      refine rj_iload_n dX10_sheet_23 3 rfl rfl ?_
      obtain ⟨V1, V2⟩ := V
      refine rj_if_ge (tgt := 37) dX10_sheet_24 (by decide) (fun hc => ?_) (fun hc => ?_)
      · have V := V1 hc
        refine rj_iload_n dX10_sheet_37 3 rfl rfl ?_
        refine rj_bipush (v := 40) dX10_sheet_38 (by decide) ?_
        obtain ⟨V1, V2⟩ := V
        refine rj_icmp_le (tgt := 52) dX10_sheet_40 (by decide) (fun hc => ?_) (fun hc => ?_)
        · have V := V1 hc
          refine rj_iload_n dX10_sheet_52 2 rfl rfl ?_
          have KD : RM w (h + 1) kX10_sheet 61 [(0, .ref 0), (1, .int a0), (2, .int a1), (3, .int a2)] [.int (if a1 = 0 then (0 : Int32) else a2)] M Q := by
            refine rj_top (fun x1 ex1 => ?_)
            have V := V x1 ex1
            refine rj_istore (lv' := [(0, .ref 0), (1, .int a0), (2, .int a1), (3, .int a2), (4, .int x1)]) dX10_sheet_61 (by decide) rfl rfl ?_
            refine rj_aload_n dX10_sheet_63 0 rfl rfl ?_
            refine rs_getR (t := 40) fl_RX10_48 rfl (by decide) (by decide) rfl dX10_sheet_64 rfl (by omega) ?_
            refine rj_iload_n dX10_sheet_67 1 rfl rfl ?_
            obtain ⟨hb, V⟩ := V
            refine rs_aald dX10_sheet_68 hb ?_
            obtain ⟨K1, eK1, hK1⟩ : ∃ K, K = 41 + 2 * (Int32.toNatClampNeg a0) ∧ isSheetC K := ⟨_, rfl, sheet_ok hb⟩
            rw [← eK1]
            have V := V K1 eK1 hK1
            refine rj_iload_n dX10_sheet_69 2 rfl rfl ?_
            refine rj_iload dX10_sheet_70 4 rfl ?_
            refine rm_callVv [.int a1, .int x1] (rest := []) ml_RX10_291 mvX6_begin rfl dX10_sheet_72 hK1.1 rfl rfl rfl rfl (Nat.le_of_ble_eq_true rfl) (by decide) V (fun M1 V => ?_)
            refine rj_iload dX10_sheet_75 4 rfl ?_
            exact rm_iret dX10_sheet_77 rfl rfl V
          refine rj_if_ne (tgt := 60) dX10_sheet_53 (by decide) (fun hc => ?_) (fun hc => ?_)
          · refine rj_iload_n dX10_sheet_60 3 rfl rfl ?_
            exact rs_ite_f hc KD
          · refine rj_iconst (v := 0) dX10_sheet_56 (by decide) ?_
            refine rj_goto (tgt := 61) dX10_sheet_57 (by decide) ?_
            exact rs_ite_t hc KD
        · have V := V2 hc
          refine rj_aload_n dX10_sheet_43 0 rfl rfl ?_
          refine rs_getR (t := 1) fl_RX10_12 rfl (by decide) (by decide) rfl dX10_sheet_44 rfl (by omega) ?_
          refine rj_iconst (v := 0) dX10_sheet_47 (by decide) ?_
          refine rm_callVi [.int 0] (rest := []) ml_RX10_85 mvX1_tell rfl dX10_sheet_48 rfl rfl rfl rfl rfl (Nat.le_of_ble_eq_true rfl) (by decide) V (fun r1 M1 V => ?_)
          exact rm_iret dX10_sheet_51 rfl rfl V
      · have V := V2 hc
        refine rj_aload_n dX10_sheet_27 0 rfl rfl ?_
        refine rs_getR (t := 1) fl_RX10_12 rfl (by decide) (by decide) rfl dX10_sheet_28 rfl (by omega) ?_
        refine rj_bipush (v := 6) dX10_sheet_31 (by decide) ?_
        refine rm_callVi [.int 6] (rest := []) ml_RX10_85 mvX1_tell rfl dX10_sheet_33 rfl rfl rfl rfl rfl (Nat.le_of_ble_eq_true rfl) (by decide) V (fun r1 M1 V => ?_)
        exact rm_iret dX10_sheet_36 rfl rfl V
    · have V := V2 hc
      refine rj_aload_n dX10_sheet_14 0 rfl rfl ?_
      refine rs_getR (t := 1) fl_RX10_12 rfl (by decide) (by decide) rfl dX10_sheet_15 rfl (by omega) ?_
      refine rj_iconst (v := 0) dX10_sheet_18 (by decide) ?_
      refine rm_callVi [.int 0] (rest := []) ml_RX10_85 mvX1_tell rfl dX10_sheet_19 rfl rfl rfl rfl rfl (Nat.le_of_ble_eq_true rfl) (by decide) V (fun r1 M1 V => ?_)
      exact rm_iret dX10_sheet_22 rfl rfl V
-- X10_write
set_option maxRecDepth 100000 in
set_option maxHeartbeats 4000000 in
theorem vX10_write_0 {w : Wd} {h : Nat} (hh : 1 ≤ h) (a0 : Int32) (a1 : Int32) (a2 : Int32)  (M : Mem) (Q : Option Value → Mem → Prop) (V : (((0 ≤ a0 ∧ a0 ≤ 3) → (vp_in a0 4 ∧ ∀ K1 : Nat, K1 = 41 + 2 * (Int32.toNatClampNeg a0) → isSheetC K1 → (CSi w h kX6_isMissing [.ref K1] M (fun r1 M1 => ((r1 = 0 → ((((0 : Int32) ≤ a1 ∧ a1 ≤ ((M1 K1 1) - 1)) → (CSv w h kX6_put [.ref K1, .int a1, .int a2] M1 (fun M2 => (Q (some (.int 1)) M2)))) ∧ (¬ (((0 : Int32) ≤ a1 ∧ a1 ≤ ((M1 K1 1) - 1))) → (CSi w h kX1_tell [.ref 1, .int 0] M1 (fun r2 M2 => (Q (some (.int r2)) M2)))))) ∧ (¬ (r1 = 0) → (CSi w h kX1_tell [.ref 1, .int 5] M1 (fun r2 M2 => (Q (some (.int r2)) M2))))))))) ∧ (¬ ((0 ≤ a0 ∧ a0 ≤ 3)) → (CSi w h kX1_tell [.ref 1, .int 0] M (fun r1 M1 => (Q (some (.int r1)) M1)))))) : RM w (h + 1) kX10_write 0 [(0, .ref 0), (1, .int a0), (2, .int a1), (3, .int a2)] [] M Q := by
  refine rj_iload_n dX10_write_0 1 rfl rfl ?_
  refine rm_callSi [.int a0] (rest := []) (K := fun x M' => b2i (0 ≤ a0 ∧ a0 ≤ 3) = x ∧ M = M') ml_RX10_285 mtX10_isSheet rfl dX10_write_1 rfl rfl (Nat.le_of_ble_eq_true rfl) (by decide) (uX10_isSheet (by omega) ⟨rfl, rfl⟩) (fun x M' hx => ?_)
  obtain ⟨rfl, rfl⟩ := hx
  obtain ⟨V1, V2⟩ := V
  refine rs_if_neB (tgt := 16) dX10_write_4 (by decide) (fun hc => ?_) (fun hc => ?_)
  · have V := V1 hc
    refine rj_aload_n dX10_write_16 0 rfl rfl ?_
    refine rs_getR (t := 40) fl_RX10_48 rfl (by decide) (by decide) rfl dX10_write_17 rfl (by omega) ?_
    refine rj_iload_n dX10_write_20 1 rfl rfl ?_
    obtain ⟨hb, V⟩ := V
    refine rs_aald dX10_write_21 hb ?_
    obtain ⟨K1, eK1, hK1⟩ : ∃ K, K = 41 + 2 * (Int32.toNatClampNeg a0) ∧ isSheetC K := ⟨_, rfl, sheet_ok hb⟩
    rw [← eK1]
    have V := V K1 eK1 hK1
    refine rj_astore (lv' := [(0, .ref 0), (1, .int a0), (2, .int a1), (3, .int a2), (4, .ref K1)]) dX10_write_22 (by decide) rfl rfl ?_
    refine rj_aload dX10_write_24 4 rfl ?_
    refine rm_callVi [] (rest := []) ml_RX10_294 mvX6_isMissing rfl dX10_write_26 hK1.1 rfl rfl rfl rfl (Nat.le_of_ble_eq_true rfl) (by decide) V (fun r1 M1 V => ?_)
    obtain ⟨V1, V2⟩ := V
    refine rj_if_eq (tgt := 41) dX10_write_29 (by decide) (fun hc => ?_) (fun hc => ?_)
    · have V := V1 hc
      refine rj_iload_n dX10_write_41 2 rfl rfl ?_
      refine rj_iconst (v := 0) dX10_write_42 (by decide) ?_
      refine rj_aload dX10_write_43 4 rfl ?_
      refine rs_getI fl_RX10_297 rfl (by decide) (by decide) rfl dX10_write_45 hK1.1 ?_
      refine rj_iconst (v := 1) dX10_write_48 (by decide) ?_
      refine rj_isub dX10_write_49 ?_
      refine rm_callSi [.int a1, .int 0, .int ((M1 K1 1) - 1)] (rest := []) (K := fun x M' => b2i ((0 : Int32) ≤ a1 ∧ a1 ≤ ((M1 K1 1) - 1)) = x ∧ M1 = M') ml_RX10_81 mtX10_isWithin rfl dX10_write_50 rfl rfl (Nat.le_of_ble_eq_true rfl) (by decide) (uX10_isWithin ⟨rfl, rfl⟩) (fun x M' hx => ?_)
      obtain ⟨rfl, rfl⟩ := hx
      obtain ⟨V1, V2⟩ := V
      refine rs_if_neB (tgt := 65) dX10_write_53 (by decide) (fun hc => ?_) (fun hc => ?_)
      · have V := V1 hc
        refine rj_aload dX10_write_65 4 rfl ?_
        refine rj_iload_n dX10_write_67 2 rfl rfl ?_
        refine rj_iload_n dX10_write_68 3 rfl rfl ?_
        refine rm_callVv [.int a1, .int a2] (rest := []) ml_RX10_300 mvX6_put rfl dX10_write_69 hK1.1 rfl rfl rfl rfl (Nat.le_of_ble_eq_true rfl) (by decide) V (fun M2 V => ?_)
        refine rj_iconst (v := 1) dX10_write_72 (by decide) ?_
        exact rm_iret dX10_write_73 rfl rfl V
      · have V := V2 hc
        refine rj_aload_n dX10_write_56 0 rfl rfl ?_
        refine rs_getR (t := 1) fl_RX10_12 rfl (by decide) (by decide) rfl dX10_write_57 rfl (by omega) ?_
        refine rj_iconst (v := 0) dX10_write_60 (by decide) ?_
        refine rm_callVi [.int 0] (rest := []) ml_RX10_85 mvX1_tell rfl dX10_write_61 rfl rfl rfl rfl rfl (Nat.le_of_ble_eq_true rfl) (by decide) V (fun r2 M2 V => ?_)
        exact rm_iret dX10_write_64 rfl rfl V
    · have V := V2 hc
      refine rj_aload_n dX10_write_32 0 rfl rfl ?_
      refine rs_getR (t := 1) fl_RX10_12 rfl (by decide) (by decide) rfl dX10_write_33 rfl (by omega) ?_
      refine rj_iconst (v := 5) dX10_write_36 (by decide) ?_
      refine rm_callVi [.int 5] (rest := []) ml_RX10_85 mvX1_tell rfl dX10_write_37 rfl rfl rfl rfl rfl (Nat.le_of_ble_eq_true rfl) (by decide) V (fun r2 M2 V => ?_)
      exact rm_iret dX10_write_40 rfl rfl V
  · have V := V2 hc
    refine rj_aload_n dX10_write_7 0 rfl rfl ?_
    refine rs_getR (t := 1) fl_RX10_12 rfl (by decide) (by decide) rfl dX10_write_8 rfl (by omega) ?_
    refine rj_iconst (v := 0) dX10_write_11 (by decide) ?_
    refine rm_callVi [.int 0] (rest := []) ml_RX10_85 mvX1_tell rfl dX10_write_12 rfl rfl rfl rfl rfl (Nat.le_of_ble_eq_true rfl) (by decide) V (fun r1 M1 V => ?_)
    exact rm_iret dX10_write_15 rfl rfl V
-- X10_copy
set_option maxRecDepth 100000 in
set_option maxHeartbeats 4000000 in
theorem vX10_copy_0 {w : Wd} {h : Nat} (hh : 1 ≤ h) (a0 : Int32) (a1 : Int32) (a2 : Int32) (a3 : Int32) (a4 : Int32)  (M : Mem) (Q : Option Value → Mem → Prop) (V : ((¬ ((0 ≤ a0 ∧ a0 ≤ 3)) → (CSi w h kX1_tell [.ref 1, .int 0] M (fun r1 M1 => (Q (some (.int r1)) M1)))) ∧ ((0 ≤ a0 ∧ a0 ≤ 3) → (((0 ≤ a2 ∧ a2 ≤ 3) → (vp_in a0 4 ∧ ∀ K1 : Nat, K1 = 41 + 2 * (Int32.toNatClampNeg a0) → isSheetC K1 → (vp_in a2 4 ∧ ∀ K2 : Nat, K2 = 41 + 2 * (Int32.toNatClampNeg a2) → isSheetC K2 → (CSi w h kX6_isMissing [.ref K1] M (fun r1 M1 => ((¬ (r1 = 0) → (CSi w h kX1_tell [.ref 1, .int 5] M1 (fun r2 M2 => (Q (some (.int r2)) M2)))) ∧ (r1 = 0 → (CSi w h kX6_isMissing [.ref K2] M1 (fun r2 M2 => ((r2 = 0 → (((M2 K1 0) = (M2 K2 0) → (CSi w h kX6_hasStretch [.ref K1, .int a1, .int a4] M2 (fun r3 M3 => ((r3 = 0 → (CSi w h kX1_tell [.ref 1, .int 0] M3 (fun r4 M4 => (Q (some (.int r4)) M4)))) ∧ (¬ (r3 = 0) → (CSi w h kX6_hasStretch [.ref K2, .int a3, .int a4] M3 (fun r4 M4 => ((¬ (r4 = 0) → (¬ (a1 : Int32) < 0 ∧ ¬ (a3 : Int32) < 0 ∧ ¬ (a4 : Int32) < 0 ∧ (Int32.toNatClampNeg a1) + (Int32.toNatClampNeg a4) ≤ 40 ∧ (Int32.toNatClampNeg a3) + (Int32.toNatClampNeg a4) ≤ 40 ∧ ∀ M5 : Mem, M5 = mput M4 (K2 + 1) (va_cpy (M4 (K1 + 1)) (M4 (K2 + 1)) (Int32.toNatClampNeg a1) (Int32.toNatClampNeg a3) (Int32.toNatClampNeg a4)) → (Q (some (.int a4)) M5))) ∧ (r4 = 0 → (CSi w h kX1_tell [.ref 1, .int 0] M4 (fun r5 M5 => (Q (some (.int r5)) M5)))))))))))) ∧ (¬ ((M2 K1 0) = (M2 K2 0)) → (CSi w h kX1_tell [.ref 1, .int 2] M2 (fun r3 M3 => (Q (some (.int r3)) M3)))))) ∧ (¬ (r2 = 0) → (CSi w h kX1_tell [.ref 1, .int 5] M2 (fun r3 M3 => (Q (some (.int r3)) M3)))))))))))))) ∧ (¬ ((0 ≤ a2 ∧ a2 ≤ 3)) → (CSi w h kX1_tell [.ref 1, .int 0] M (fun r1 M1 => (Q (some (.int r1)) M1)))))))) : RM w (h + 1) kX10_copy 0 [(0, .ref 0), (1, .int a0), (2, .int a1), (3, .int a2), (4, .int a3), (5, .int a4)] [] M Q := by
  refine rj_iload_n dX10_copy_0 1 rfl rfl ?_
  refine rm_callSi [.int a0] (rest := []) (K := fun x M' => b2i (0 ≤ a0 ∧ a0 ≤ 3) = x ∧ M = M') ml_RX10_285 mtX10_isSheet rfl dX10_copy_1 rfl rfl (Nat.le_of_ble_eq_true rfl) (by decide) (uX10_isSheet (by omega) ⟨rfl, rfl⟩) (fun x M' hx => ?_)
  obtain ⟨rfl, rfl⟩ := hx
  obtain ⟨V1, V2⟩ := V
  refine rs_if_eqB (tgt := 14) dX10_copy_4 (by decide) (fun hc => ?_) (fun hc => ?_)
  · have V := V1 hc
    refine rj_aload_n dX10_copy_14 0 rfl rfl ?_
    refine rs_getR (t := 1) fl_RX10_12 rfl (by decide) (by decide) rfl dX10_copy_15 rfl (by omega) ?_
    refine rj_iconst (v := 0) dX10_copy_18 (by decide) ?_
    refine rm_callVi [.int 0] (rest := []) ml_RX10_85 mvX1_tell rfl dX10_copy_19 rfl rfl rfl rfl rfl (Nat.le_of_ble_eq_true rfl) (by decide) V (fun r1 M1 V => ?_)
    exact rm_iret dX10_copy_22 rfl rfl V
  · have V := V2 hc
    refine rj_iload_n dX10_copy_7 3 rfl rfl ?_
    refine rm_callSi [.int a2] (rest := []) (K := fun x M' => b2i (0 ≤ a2 ∧ a2 ≤ 3) = x ∧ M = M') ml_RX10_285 mtX10_isSheet rfl dX10_copy_8 rfl rfl (Nat.le_of_ble_eq_true rfl) (by decide) (uX10_isSheet (by omega) ⟨rfl, rfl⟩) (fun x M' hx => ?_)
    obtain ⟨rfl, rfl⟩ := hx
    obtain ⟨V1, V2⟩ := V
    refine rs_if_neB (tgt := 23) dX10_copy_11 (by decide) (fun hc => ?_) (fun hc => ?_)
    · have V := V1 hc
      refine rj_aload_n dX10_copy_23 0 rfl rfl ?_
      refine rs_getR (t := 40) fl_RX10_48 rfl (by decide) (by decide) rfl dX10_copy_24 rfl (by omega) ?_
      refine rj_iload_n dX10_copy_27 1 rfl rfl ?_
      obtain ⟨hb, V⟩ := V
      refine rs_aald dX10_copy_28 hb ?_
      obtain ⟨K1, eK1, hK1⟩ : ∃ K, K = 41 + 2 * (Int32.toNatClampNeg a0) ∧ isSheetC K := ⟨_, rfl, sheet_ok hb⟩
      rw [← eK1]
      have V := V K1 eK1 hK1
      refine rj_astore (lv' := [(0, .ref 0), (1, .int a0), (2, .int a1), (3, .int a2), (4, .int a3), (5, .int a4), (6, .ref K1)]) dX10_copy_29 (by decide) rfl rfl ?_
      refine rj_aload_n dX10_copy_31 0 rfl rfl ?_
      refine rs_getR (t := 40) fl_RX10_48 rfl (by decide) (by decide) rfl dX10_copy_32 rfl (by omega) ?_
      refine rj_iload_n dX10_copy_35 3 rfl rfl ?_
      obtain ⟨hb, V⟩ := V
      refine rs_aald dX10_copy_36 hb ?_
      obtain ⟨K2, eK2, hK2⟩ : ∃ K, K = 41 + 2 * (Int32.toNatClampNeg a2) ∧ isSheetC K := ⟨_, rfl, sheet_ok hb⟩
      rw [← eK2]
      have V := V K2 eK2 hK2
      refine rj_astore (lv' := [(0, .ref 0), (1, .int a0), (2, .int a1), (3, .int a2), (4, .int a3), (5, .int a4), (6, .ref K1), (7, .ref K2)]) dX10_copy_37 (by decide) rfl rfl ?_
      refine rj_aload dX10_copy_39 6 rfl ?_
      refine rm_callVi [] (rest := []) ml_RX10_294 mvX6_isMissing rfl dX10_copy_41 hK1.1 rfl rfl rfl rfl (Nat.le_of_ble_eq_true rfl) (by decide) V (fun r1 M1 V => ?_)
      obtain ⟨V1, V2⟩ := V
      refine rj_if_ne (tgt := 55) dX10_copy_44 (by decide) (fun hc => ?_) (fun hc => ?_)
      · have V := V1 hc
        refine rj_aload_n dX10_copy_55 0 rfl rfl ?_
        refine rs_getR (t := 1) fl_RX10_12 rfl (by decide) (by decide) rfl dX10_copy_56 rfl (by omega) ?_
        refine rj_iconst (v := 5) dX10_copy_59 (by decide) ?_
        refine rm_callVi [.int 5] (rest := []) ml_RX10_85 mvX1_tell rfl dX10_copy_60 rfl rfl rfl rfl rfl (Nat.le_of_ble_eq_true rfl) (by decide) V (fun r2 M2 V => ?_)
        exact rm_iret dX10_copy_63 rfl rfl V
      · have V := V2 hc
        refine rj_aload dX10_copy_47 7 rfl ?_
        refine rm_callVi [] (rest := []) ml_RX10_294 mvX6_isMissing rfl dX10_copy_49 hK2.1 rfl rfl rfl rfl (Nat.le_of_ble_eq_true rfl) (by decide) V (fun r2 M2 V => ?_)
        obtain ⟨V1, V2⟩ := V
        refine rj_if_eq (tgt := 64) dX10_copy_52 (by decide) (fun hc => ?_) (fun hc => ?_)
        · have V := V1 hc
          refine rj_aload dX10_copy_64 6 rfl ?_
          refine rs_getI fl_RX10_303 rfl (by decide) (by decide) rfl dX10_copy_66 hK1.1 ?_
          refine rj_aload dX10_copy_69 7 rfl ?_
          refine rs_getI fl_RX10_303 rfl (by decide) (by decide) rfl dX10_copy_71 hK2.1 ?_
          obtain ⟨V1, V2⟩ := V
          refine rj_icmp_eq (tgt := 86) dX10_copy_74 (by decide) (fun hc => ?_) (fun hc => ?_)
          · have V := V1 hc
            refine rj_aload dX10_copy_86 6 rfl ?_
            refine rj_iload_n dX10_copy_88 2 rfl rfl ?_
            refine rj_iload dX10_copy_89 5 rfl ?_
            refine rm_callVi [.int a1, .int a4] (rest := []) ml_RX10_306 mvX6_hasStretch rfl dX10_copy_91 hK1.1 rfl rfl rfl rfl (Nat.le_of_ble_eq_true rfl) (by decide) V (fun r3 M3 V => ?_)
            obtain ⟨V1, V2⟩ := V
            refine rj_if_eq (tgt := 109) dX10_copy_94 (by decide) (fun hc => ?_) (fun hc => ?_)
            · have V := V1 hc
              refine rj_aload_n dX10_copy_109 0 rfl rfl ?_
              refine rs_getR (t := 1) fl_RX10_12 rfl (by decide) (by decide) rfl dX10_copy_110 rfl (by omega) ?_
              refine rj_iconst (v := 0) dX10_copy_113 (by decide) ?_
              refine rm_callVi [.int 0] (rest := []) ml_RX10_85 mvX1_tell rfl dX10_copy_114 rfl rfl rfl rfl rfl (Nat.le_of_ble_eq_true rfl) (by decide) V (fun r4 M4 V => ?_)
              exact rm_iret dX10_copy_117 rfl rfl V
            · have V := V2 hc
              refine rj_aload dX10_copy_97 7 rfl ?_
              refine rj_iload dX10_copy_99 4 rfl ?_
              refine rj_iload dX10_copy_101 5 rfl ?_
              refine rm_callVi [.int a3, .int a4] (rest := []) ml_RX10_306 mvX6_hasStretch rfl dX10_copy_103 hK2.1 rfl rfl rfl rfl (Nat.le_of_ble_eq_true rfl) (by decide) V (fun r4 M4 V => ?_)
              obtain ⟨V1, V2⟩ := V
              refine rj_if_ne (tgt := 118) dX10_copy_106 (by decide) (fun hc => ?_) (fun hc => ?_)
              · have V := V1 hc
                refine rj_aload dX10_copy_118 6 rfl ?_
                refine rs_getR (t := K1 + 1) fl_RX10_309 rfl (by decide) (by decide) rfl dX10_copy_120 hK1.1 (by omega) ?_
                refine rj_iload_n dX10_copy_123 2 rfl rfl ?_
                refine rj_aload dX10_copy_124 7 rfl ?_
                refine rs_getR (t := K2 + 1) fl_RX10_309 rfl (by decide) (by decide) rfl dX10_copy_126 hK2.1 (by omega) ?_
                refine rj_iload dX10_copy_129 4 rfl ?_
                refine rj_iload dX10_copy_131 5 rfl ?_
                obtain ⟨g1, g2, g3, g4, g5, V⟩ := V
                refine rs_copy (rest := []) rfl ml_RX10_312 cp_n cp_s cp_i dX10_copy_133 hK1.2 hK2.2 (by decide) (by decide) g1 g2 g3 g4 g5 (Nat.le_add_left _ _) (by show _ ≤ 39 * (h + 1); have : ([].map fun (v : Value) => v.category).sum + (nativeFrameWords "java/lang/System" "arraycopy" 5 + 11) ≤ 39 := (Nat.le_of_ble_eq_true rfl); omega) (fun M5 eM5 => ?_)
                have V := V M5 eM5
                refine rj_iload dX10_copy_136 5 rfl ?_
                exact rm_iret dX10_copy_138 rfl rfl V
              · have V := V2 hc
                refine rj_aload_n dX10_copy_109 0 rfl rfl ?_
                refine rs_getR (t := 1) fl_RX10_12 rfl (by decide) (by decide) rfl dX10_copy_110 rfl (by omega) ?_
                refine rj_iconst (v := 0) dX10_copy_113 (by decide) ?_
                refine rm_callVi [.int 0] (rest := []) ml_RX10_85 mvX1_tell rfl dX10_copy_114 rfl rfl rfl rfl rfl (Nat.le_of_ble_eq_true rfl) (by decide) V (fun r5 M5 V => ?_)
                exact rm_iret dX10_copy_117 rfl rfl V
          · have V := V2 hc
            refine rj_aload_n dX10_copy_77 0 rfl rfl ?_
            refine rs_getR (t := 1) fl_RX10_12 rfl (by decide) (by decide) rfl dX10_copy_78 rfl (by omega) ?_
            refine rj_iconst (v := 2) dX10_copy_81 (by decide) ?_
            refine rm_callVi [.int 2] (rest := []) ml_RX10_85 mvX1_tell rfl dX10_copy_82 rfl rfl rfl rfl rfl (Nat.le_of_ble_eq_true rfl) (by decide) V (fun r3 M3 V => ?_)
            exact rm_iret dX10_copy_85 rfl rfl V
        · have V := V2 hc
          refine rj_aload_n dX10_copy_55 0 rfl rfl ?_
          refine rs_getR (t := 1) fl_RX10_12 rfl (by decide) (by decide) rfl dX10_copy_56 rfl (by omega) ?_
          refine rj_iconst (v := 5) dX10_copy_59 (by decide) ?_
          refine rm_callVi [.int 5] (rest := []) ml_RX10_85 mvX1_tell rfl dX10_copy_60 rfl rfl rfl rfl rfl (Nat.le_of_ble_eq_true rfl) (by decide) V (fun r3 M3 V => ?_)
          exact rm_iret dX10_copy_63 rfl rfl V
    · have V := V2 hc
      refine rj_aload_n dX10_copy_14 0 rfl rfl ?_
      refine rs_getR (t := 1) fl_RX10_12 rfl (by decide) (by decide) rfl dX10_copy_15 rfl (by omega) ?_
      refine rj_iconst (v := 0) dX10_copy_18 (by decide) ?_
      refine rm_callVi [.int 0] (rest := []) ml_RX10_85 mvX1_tell rfl dX10_copy_19 rfl rfl rfl rfl rfl (Nat.le_of_ble_eq_true rfl) (by decide) V (fun r1 M1 V => ?_)
      exact rm_iret dX10_copy_22 rfl rfl V
-- X10_load
set_option maxRecDepth 100000 in
set_option maxHeartbeats 4000000 in
theorem vX10_load_0 {w : Wd} {h : Nat} (hh : 1 ≤ h) (a0 : Int32) (a1 : Int32)  (M : Mem) (Q : Option Value → Mem → Prop) (V : (((0 ≤ a0 ∧ a0 ≤ 3) → (vp_in a0 4 ∧ ∀ K1 : Nat, K1 = 41 + 2 * (Int32.toNatClampNeg a0) → isSheetC K1 → (CSi w h kX6_isMissing [.ref K1] M (fun r1 M1 => ((r1 = 0 → (((0 ≤ a1 ∧ a1 ≤ 191) → RM w (h + 1) kX10_load 58 [(0, .ref 0), (2, .int a1), (3, .ref K1), (4, .int 0)] [] M1 Q) ∧ (¬ ((0 ≤ a1 ∧ a1 ≤ 191)) → (CSi w h kX1_tell [.ref 1, .int 0] M1 (fun r2 M2 => (Q (some (.int r2)) M2)))))) ∧ (¬ (r1 = 0) → (CSi w h kX1_tell [.ref 1, .int 5] M1 (fun r2 M2 => (Q (some (.int r2)) M2))))))))) ∧ (¬ ((0 ≤ a0 ∧ a0 ≤ 3)) → (CSi w h kX1_tell [.ref 1, .int 0] M (fun r1 M1 => (Q (some (.int r1)) M1)))))) : RM w (h + 1) kX10_load 0 [(0, .ref 0), (1, .int a0), (2, .int a1)] [] M Q := by
  refine rj_iload_n dX10_load_0 1 rfl rfl ?_
  refine rm_callSi [.int a0] (rest := []) (K := fun x M' => b2i (0 ≤ a0 ∧ a0 ≤ 3) = x ∧ M = M') ml_RX10_285 mtX10_isSheet rfl dX10_load_1 rfl rfl (Nat.le_of_ble_eq_true rfl) (by decide) (uX10_isSheet (by omega) ⟨rfl, rfl⟩) (fun x M' hx => ?_)
  obtain ⟨rfl, rfl⟩ := hx
  obtain ⟨V1, V2⟩ := V
  refine rs_if_neB (tgt := 16) dX10_load_4 (by decide) (fun hc => ?_) (fun hc => ?_)
  · have V := V1 hc
    refine rj_aload_n dX10_load_16 0 rfl rfl ?_
    refine rs_getR (t := 40) fl_RX10_48 rfl (by decide) (by decide) rfl dX10_load_17 rfl (by omega) ?_
    refine rj_iload_n dX10_load_20 1 rfl rfl ?_
    obtain ⟨hb, V⟩ := V
    refine rs_aald dX10_load_21 hb ?_
    obtain ⟨K1, eK1, hK1⟩ : ∃ K, K = 41 + 2 * (Int32.toNatClampNeg a0) ∧ isSheetC K := ⟨_, rfl, sheet_ok hb⟩
    rw [← eK1]
    have V := V K1 eK1 hK1
    refine rj_astore_n (lv' := [(0, .ref 0), (1, .int a0), (2, .int a1), (3, .ref K1)]) dX10_load_22 rfl (by decide) rfl rfl ?_
    refine rj_aload_n dX10_load_23 3 rfl rfl ?_
    refine rm_callVi [] (rest := []) ml_RX10_294 mvX6_isMissing rfl dX10_load_24 hK1.1 rfl rfl rfl rfl (Nat.le_of_ble_eq_true rfl) (by decide) V (fun r1 M1 V => ?_)
    obtain ⟨V1, V2⟩ := V
    refine rj_if_eq (tgt := 39) dX10_load_27 (by decide) (fun hc => ?_) (fun hc => ?_)
    · have V := V1 hc
      refine rj_iload_n dX10_load_39 2 rfl rfl ?_
      refine rm_callSi [.int a1] (rest := []) (K := fun x M' => b2i (0 ≤ a1 ∧ a1 ≤ 191) = x ∧ M1 = M') ml_RX10_77 mtX10_isCell rfl dX10_load_40 rfl rfl (Nat.le_of_ble_eq_true rfl) (by decide) (uX10_isCell (by omega) ⟨rfl, rfl⟩) (fun x M' hx => ?_)
      obtain ⟨rfl, rfl⟩ := hx
      obtain ⟨V1, V2⟩ := V
      refine rs_if_neB (tgt := 55) dX10_load_43 (by decide) (fun hc => ?_) (fun hc => ?_)
      · have V := V1 hc
        refine rj_iconst (v := 0) dX10_load_55 (by decide) ?_
        refine rj_istore (lv' := [(0, .ref 0), (1, .int a0), (2, .int a1), (3, .ref K1), (4, .int 0)]) dX10_load_56 (by decide) rfl rfl ?_
        exact rs_sub [0, 2, 3, 4] rfl V
      · have V := V2 hc
        refine rj_aload_n dX10_load_46 0 rfl rfl ?_
        refine rs_getR (t := 1) fl_RX10_12 rfl (by decide) (by decide) rfl dX10_load_47 rfl (by omega) ?_
        refine rj_iconst (v := 0) dX10_load_50 (by decide) ?_
        refine rm_callVi [.int 0] (rest := []) ml_RX10_85 mvX1_tell rfl dX10_load_51 rfl rfl rfl rfl rfl (Nat.le_of_ble_eq_true rfl) (by decide) V (fun r2 M2 V => ?_)
        exact rm_iret dX10_load_54 rfl rfl V
    · have V := V2 hc
      refine rj_aload_n dX10_load_30 0 rfl rfl ?_
      refine rs_getR (t := 1) fl_RX10_12 rfl (by decide) (by decide) rfl dX10_load_31 rfl (by omega) ?_
      refine rj_iconst (v := 5) dX10_load_34 (by decide) ?_
      refine rm_callVi [.int 5] (rest := []) ml_RX10_85 mvX1_tell rfl dX10_load_35 rfl rfl rfl rfl rfl (Nat.le_of_ble_eq_true rfl) (by decide) V (fun r2 M2 V => ?_)
      exact rm_iret dX10_load_38 rfl rfl V
  · have V := V2 hc
    refine rj_aload_n dX10_load_7 0 rfl rfl ?_
    refine rs_getR (t := 1) fl_RX10_12 rfl (by decide) (by decide) rfl dX10_load_8 rfl (by omega) ?_
    refine rj_iconst (v := 0) dX10_load_11 (by decide) ?_
    refine rm_callVi [.int 0] (rest := []) ml_RX10_85 mvX1_tell rfl dX10_load_12 rfl rfl rfl rfl rfl (Nat.le_of_ble_eq_true rfl) (by decide) V (fun r1 M1 V => ?_)
    exact rm_iret dX10_load_15 rfl rfl V
set_option maxRecDepth 100000 in
set_option maxHeartbeats 4000000 in
theorem vX10_load_58 {w : Wd} {h : Nat} (hh : 1 ≤ h) (K1 : Nat) (v2 : Int32) (v4 : Int32) (hK1 : isSheetC K1) (M : Mem) (Q : Option Value → Mem → Prop) (V : (((M K1 1) ≤ v4 → (Q (some (.int v4)) M)) ∧ (¬ ((M K1 1) ≤ v4) → ((192 ≤ (v2 + v4) → (Q (some (.int v4)) M)) ∧ (¬ (192 ≤ (v2 + v4)) → (vp_in v4 40 ∧ ((¬ (((0 : Int32) ≤ (M (K1 + 1) (Int32.toNatClampNeg v4)) ∧ (M (K1 + 1) (Int32.toNatClampNeg v4)) ≤ (9 : Int32))) → (Q (some (.int v4)) M)) ∧ (((0 : Int32) ≤ (M (K1 + 1) (Int32.toNatClampNeg v4)) ∧ (M (K1 + 1) (Int32.toNatClampNeg v4)) ≤ (9 : Int32)) → (vp_in v4 40 ∧ (vp_in (v2 + v4) 192 ∧ ∀ M1 : Mem, M1 = mset M 5 (Int32.toNatClampNeg (v2 + v4)) (M (K1 + 1) (Int32.toNatClampNeg v4)) → (∀ x1 : Int32, x1 = v4 + 1 → RM w (h + 1) kX10_load 58 [(0, .ref 0), (2, .int v2), (3, .ref K1), (4, .int x1)] [] M1 Q))))))))))) : RM w (h + 1) kX10_load 58 [(0, .ref 0), (2, .int v2), (3, .ref K1), (4, .int v4)] [] M Q := by
  refine rj_iload dX10_load_58 3 rfl ?_
  refine rj_aload_n dX10_load_60 2 rfl rfl ?_
  refine rs_getI fl_RX10_297 rfl (by decide) (by decide) rfl dX10_load_61 hK1.1 ?_
  obtain ⟨V1, V2⟩ := V
  refine rj_icmp_ge (tgt := 121) dX10_load_64 (by decide) (fun hc => ?_) (fun hc => ?_)
  · have V := V1 hc
    refine rj_iload dX10_load_121 3 rfl ?_
    exact rm_iret dX10_load_123 rfl rfl V
  · have V := V2 hc
    refine rj_iload_n dX10_load_67 1 rfl rfl ?_
    refine rj_iload dX10_load_68 3 rfl ?_
    refine rj_iadd dX10_load_70 ?_
    refine rj_sipush (v := 192) dX10_load_71 (by decide) ?_
    obtain ⟨V1, V2⟩ := V
    refine rj_icmp_ge (tgt := 121) dX10_load_74 (by decide) (fun hc => ?_) (fun hc => ?_)
    · have V := V1 hc
      refine rj_iload dX10_load_121 3 rfl ?_
      exact rm_iret dX10_load_123 rfl rfl V
    · have V := V2 hc
      refine rj_aload_n dX10_load_77 2 rfl rfl ?_
      refine rs_getR (t := K1 + 1) fl_RX10_309 rfl (by decide) (by decide) rfl dX10_load_78 hK1.1 (by omega) ?_
      refine rj_iload dX10_load_81 3 rfl ?_
      obtain ⟨hb, V⟩ := V
      refine rs_iald dX10_load_83 hK1.2 hb ?_
      refine rj_iconst (v := 0) dX10_load_84 (by decide) ?_
      refine rj_bipush (v := 9) dX10_load_85 (by decide) ?_
      refine rm_callSi [.int (M (K1 + 1) (Int32.toNatClampNeg v4)), .int 0, .int 9] (rest := []) (K := fun x M' => b2i ((0 : Int32) ≤ (M (K1 + 1) (Int32.toNatClampNeg v4)) ∧ (M (K1 + 1) (Int32.toNatClampNeg v4)) ≤ (9 : Int32)) = x ∧ M = M') ml_RX10_81 mtX10_isWithin rfl dX10_load_87 rfl rfl (Nat.le_of_ble_eq_true rfl) (by decide) (uX10_isWithin ⟨rfl, rfl⟩) (fun x M' hx => ?_)
      obtain ⟨rfl, rfl⟩ := hx
      obtain ⟨V1, V2⟩ := V
      refine rs_if_eqB (tgt := 121) dX10_load_90 (by decide) (fun hc => ?_) (fun hc => ?_)
      · have V := V1 hc
        refine rj_iload dX10_load_121 3 rfl ?_
        exact rm_iret dX10_load_123 rfl rfl V
      · have V := V2 hc
        refine rj_aload_n dX10_load_93 0 rfl rfl ?_
        refine rs_getR (t := 3) fl_RX10_19 rfl (by decide) (by decide) rfl dX10_load_94 rfl (by omega) ?_
        refine rs_getR (t := 4) fl_RX10_89 rfl (by decide) (by decide) rfl dX10_load_97 rfl (by omega) ?_
        refine rs_getR (t := 5) fl_RX10_92 rfl (by decide) (by decide) rfl dX10_load_100 rfl (by omega) ?_
        refine rj_iload_n dX10_load_103 1 rfl rfl ?_
        refine rj_iload dX10_load_104 3 rfl ?_
        refine rj_iadd dX10_load_106 ?_
        refine rj_aload_n dX10_load_107 2 rfl rfl ?_
        refine rs_getR (t := K1 + 1) fl_RX10_309 rfl (by decide) (by decide) rfl dX10_load_108 hK1.1 (by omega) ?_
        refine rj_iload dX10_load_111 3 rfl ?_
        obtain ⟨hb, V⟩ := V
        refine rs_iald dX10_load_113 hK1.2 hb ?_
        obtain ⟨hb, V⟩ := V
        refine rs_iast dX10_load_114 rfl hb (fun M1 eM1 => ?_)
        have V := V M1 eM1
        refine rj_iincV (c := 1) (fun y => [(0, .ref 0), (2, .int v2), (3, .ref K1), (4, .int y)]) dX10_load_115 3 rfl (by decide) (by decide) rfl (fun _ => rfl) (fun x1 ex1 => ?_)
        have V := V x1 ex1
        refine rj_goto (tgt := 58) dX10_load_118 (by decide) ?_
        exact rs_sub [0, 1, 2, 3] rfl V
-- X10_judge
set_option maxRecDepth 100000 in
set_option maxHeartbeats 4000000 in
theorem vX10_judge_0 {w : Wd} {h : Nat} (hh : 1 ≤ h) (a0 : Int32) (a1 : Int32)  (M : Mem) (Q : Option Value → Mem → Prop) (V : (((0 ≤ a0 ∧ a0 ≤ 3) → (vp_in a0 4 ∧ ∀ K1 : Nat, K1 = 41 + 2 * (Int32.toNatClampNeg a0) → isSheetC K1 → (CSi w h kX6_isMissing [.ref K1] M (fun r1 M1 => ((r1 = 0 → ((¬ ((0 ≤ a1 ∧ a1 ≤ 7)) → (CSi w h kX1_tell [.ref 1, .int 0] M1 (fun r2 M2 => (Q (some (.int r2)) M2)))) ∧ ((0 ≤ a1 ∧ a1 ≤ 7) → (((M1 K1 1) = 0 → (CSi w h kX1_tell [.ref 1, .int 0] M1 (fun r2 M2 => (Q (some (.int r2)) M2)))) ∧ (¬ ((M1 K1 1) = 0) → (vp_in 0 40 ∧ (((0 ≤ (M1 (K1 + 1) (Int32.toNatClampNeg 0)) ∧ (M1 (K1 + 1) (Int32.toNatClampNeg 0)) ≤ 11) → (vp_in 0 40 ∧ (CSv w h kX8_follow [.ref 53, .ref 4, .int a1, .int (M1 (K1 + 1) (Int32.toNatClampNeg 0)), .int 20] M1 (fun M2 => RM w (h + 1) kX10_judge 100 [(0, .ref 0), (3, .ref K1), (4, .int 0)] [] M2 Q)))) ∧ (¬ ((0 ≤ (M1 (K1 + 1) (Int32.toNatClampNeg 0)) ∧ (M1 (K1 + 1) (Int32.toNatClampNeg 0)) ≤ 11)) → (CSi w h kX1_tell [.ref 1, .int 0] M1 (fun r2 M2 => (Q (some (.int r2)) M2))))))))))) ∧ (¬ (r1 = 0) → (CSi w h kX1_tell [.ref 1, .int 5] M1 (fun r2 M2 => (Q (some (.int r2)) M2))))))))) ∧ (¬ ((0 ≤ a0 ∧ a0 ≤ 3)) → (CSi w h kX1_tell [.ref 1, .int 0] M (fun r1 M1 => (Q (some (.int r1)) M1)))))) : RM w (h + 1) kX10_judge 0 [(0, .ref 0), (1, .int a0), (2, .int a1)] [] M Q := by
  refine rj_iload_n dX10_judge_0 1 rfl rfl ?_
  refine rm_callSi [.int a0] (rest := []) (K := fun x M' => b2i (0 ≤ a0 ∧ a0 ≤ 3) = x ∧ M = M') ml_RX10_285 mtX10_isSheet rfl dX10_judge_1 rfl rfl (Nat.le_of_ble_eq_true rfl) (by decide) (uX10_isSheet (by omega) ⟨rfl, rfl⟩) (fun x M' hx => ?_)
  obtain ⟨rfl, rfl⟩ := hx
  obtain ⟨V1, V2⟩ := V
  refine rs_if_neB (tgt := 16) dX10_judge_4 (by decide) (fun hc => ?_) (fun hc => ?_)
  · have V := V1 hc
    refine rj_aload_n dX10_judge_16 0 rfl rfl ?_
    refine rs_getR (t := 40) fl_RX10_48 rfl (by decide) (by decide) rfl dX10_judge_17 rfl (by omega) ?_
    refine rj_iload_n dX10_judge_20 1 rfl rfl ?_
    obtain ⟨hb, V⟩ := V
    refine rs_aald dX10_judge_21 hb ?_
    obtain ⟨K1, eK1, hK1⟩ : ∃ K, K = 41 + 2 * (Int32.toNatClampNeg a0) ∧ isSheetC K := ⟨_, rfl, sheet_ok hb⟩
    rw [← eK1]
    have V := V K1 eK1 hK1
    refine rj_astore_n (lv' := [(0, .ref 0), (1, .int a0), (2, .int a1), (3, .ref K1)]) dX10_judge_22 rfl (by decide) rfl rfl ?_
    refine rj_aload_n dX10_judge_23 3 rfl rfl ?_
    refine rm_callVi [] (rest := []) ml_RX10_294 mvX6_isMissing rfl dX10_judge_24 hK1.1 rfl rfl rfl rfl (Nat.le_of_ble_eq_true rfl) (by decide) V (fun r1 M1 V => ?_)
    obtain ⟨V1, V2⟩ := V
    refine rj_if_eq (tgt := 39) dX10_judge_27 (by decide) (fun hc => ?_) (fun hc => ?_)
    · have V := V1 hc
      refine rj_iload_n dX10_judge_39 2 rfl rfl ?_
      refine rm_callSi [.int a1] (rest := []) (K := fun x M' => b2i (0 ≤ a1 ∧ a1 ≤ 7) = x ∧ M1 = M') ml_RX10_242 mtX10_isKind rfl dX10_judge_40 rfl rfl (Nat.le_of_ble_eq_true rfl) (by decide) (uX10_isKind (by omega) ⟨rfl, rfl⟩) (fun x M' hx => ?_)
      obtain ⟨rfl, rfl⟩ := hx
      obtain ⟨V1, V2⟩ := V
      refine rs_if_eqB (tgt := 65) dX10_judge_43 (by decide) (fun hc => ?_) (fun hc => ?_)
      · have V := V1 hc
        refine rj_aload_n dX10_judge_65 0 rfl rfl ?_
        refine rs_getR (t := 1) fl_RX10_12 rfl (by decide) (by decide) rfl dX10_judge_66 rfl (by omega) ?_
        refine rj_iconst (v := 0) dX10_judge_69 (by decide) ?_
        refine rm_callVi [.int 0] (rest := []) ml_RX10_85 mvX1_tell rfl dX10_judge_70 rfl rfl rfl rfl rfl (Nat.le_of_ble_eq_true rfl) (by decide) V (fun r2 M2 V => ?_)
        exact rm_iret dX10_judge_73 rfl rfl V
      · have V := V2 hc
        refine rj_aload_n dX10_judge_46 3 rfl rfl ?_
        refine rs_getI fl_RX10_297 rfl (by decide) (by decide) rfl dX10_judge_47 hK1.1 ?_
        obtain ⟨V1, V2⟩ := V
        refine rj_if_eq (tgt := 65) dX10_judge_50 (by decide) (fun hc => ?_) (fun hc => ?_)
        · have V := V1 hc
          refine rj_aload_n dX10_judge_65 0 rfl rfl ?_
          refine rs_getR (t := 1) fl_RX10_12 rfl (by decide) (by decide) rfl dX10_judge_66 rfl (by omega) ?_
          refine rj_iconst (v := 0) dX10_judge_69 (by decide) ?_
          refine rm_callVi [.int 0] (rest := []) ml_RX10_85 mvX1_tell rfl dX10_judge_70 rfl rfl rfl rfl rfl (Nat.le_of_ble_eq_true rfl) (by decide) V (fun r2 M2 V => ?_)
          exact rm_iret dX10_judge_73 rfl rfl V
        · have V := V2 hc
          refine rj_aload_n dX10_judge_53 3 rfl rfl ?_
          refine rs_getR (t := K1 + 1) fl_RX10_309 rfl (by decide) (by decide) rfl dX10_judge_54 hK1.1 (by omega) ?_
          refine rj_iconst (v := 0) dX10_judge_57 (by decide) ?_
          obtain ⟨hb, V⟩ := V
          refine rs_iald dX10_judge_58 hK1.2 hb ?_
          refine rm_callSi [.int (M1 (K1 + 1) (Int32.toNatClampNeg 0))] (rest := []) (K := fun x M' => b2i (0 ≤ (M1 (K1 + 1) (Int32.toNatClampNeg 0)) ∧ (M1 (K1 + 1) (Int32.toNatClampNeg 0)) ≤ 11) = x ∧ M1 = M') ml_RX10_139 mtX10_isColumn rfl dX10_judge_59 rfl rfl (Nat.le_of_ble_eq_true rfl) (by decide) (uX10_isColumn (by omega) ⟨rfl, rfl⟩) (fun x M' hx => ?_)
          obtain ⟨rfl, rfl⟩ := hx
          obtain ⟨V1, V2⟩ := V
          refine rs_if_neB (tgt := 74) dX10_judge_62 (by decide) (fun hc => ?_) (fun hc => ?_)
          · have V := V1 hc
            refine rj_aload_n dX10_judge_74 0 rfl rfl ?_
            refine rs_getR (t := 53) fl_RX10_63 rfl (by decide) (by decide) rfl dX10_judge_75 rfl (by omega) ?_
            refine rj_aload_n dX10_judge_78 0 rfl rfl ?_
            refine rs_getR (t := 3) fl_RX10_19 rfl (by decide) (by decide) rfl dX10_judge_79 rfl (by omega) ?_
            refine rs_getR (t := 4) fl_RX10_89 rfl (by decide) (by decide) rfl dX10_judge_82 rfl (by omega) ?_
            refine rj_iload_n dX10_judge_85 2 rfl rfl ?_
            refine rj_aload_n dX10_judge_86 3 rfl rfl ?_
            refine rs_getR (t := K1 + 1) fl_RX10_309 rfl (by decide) (by decide) rfl dX10_judge_87 hK1.1 (by omega) ?_
            refine rj_iconst (v := 0) dX10_judge_90 (by decide) ?_
            obtain ⟨hb, V⟩ := V
            refine rs_iald dX10_judge_91 hK1.2 hb ?_
            refine rj_bipush (v := 20) dX10_judge_92 (by decide) ?_
            refine rm_callVv [.ref 4, .int a1, .int (M1 (K1 + 1) (Int32.toNatClampNeg 0)), .int 20] (rest := []) ml_RX10_225 mvX8_follow rfl dX10_judge_94 rfl rfl rfl rfl rfl (Nat.le_of_ble_eq_true rfl) (by decide) V (fun M2 V => ?_)
            refine rj_iconst (v := 0) dX10_judge_97 (by decide) ?_
            refine rj_istore (lv' := [(0, .ref 0), (1, .int a0), (2, .int a1), (3, .ref K1), (4, .int 0)]) dX10_judge_98 (by decide) rfl rfl ?_
            exact rs_sub [0, 3, 4] rfl V
          · have V := V2 hc
            refine rj_aload_n dX10_judge_65 0 rfl rfl ?_
            refine rs_getR (t := 1) fl_RX10_12 rfl (by decide) (by decide) rfl dX10_judge_66 rfl (by omega) ?_
            refine rj_iconst (v := 0) dX10_judge_69 (by decide) ?_
            refine rm_callVi [.int 0] (rest := []) ml_RX10_85 mvX1_tell rfl dX10_judge_70 rfl rfl rfl rfl rfl (Nat.le_of_ble_eq_true rfl) (by decide) V (fun r2 M2 V => ?_)
            exact rm_iret dX10_judge_73 rfl rfl V
    · have V := V2 hc
      refine rj_aload_n dX10_judge_30 0 rfl rfl ?_
      refine rs_getR (t := 1) fl_RX10_12 rfl (by decide) (by decide) rfl dX10_judge_31 rfl (by omega) ?_
      refine rj_iconst (v := 5) dX10_judge_34 (by decide) ?_
      refine rm_callVi [.int 5] (rest := []) ml_RX10_85 mvX1_tell rfl dX10_judge_35 rfl rfl rfl rfl rfl (Nat.le_of_ble_eq_true rfl) (by decide) V (fun r2 M2 V => ?_)
      exact rm_iret dX10_judge_38 rfl rfl V
  · have V := V2 hc
    refine rj_aload_n dX10_judge_7 0 rfl rfl ?_
    refine rs_getR (t := 1) fl_RX10_12 rfl (by decide) (by decide) rfl dX10_judge_8 rfl (by omega) ?_
    refine rj_iconst (v := 0) dX10_judge_11 (by decide) ?_
    refine rm_callVi [.int 0] (rest := []) ml_RX10_85 mvX1_tell rfl dX10_judge_12 rfl rfl rfl rfl rfl (Nat.le_of_ble_eq_true rfl) (by decide) V (fun r1 M1 V => ?_)
    exact rm_iret dX10_judge_15 rfl rfl V
set_option maxRecDepth 100000 in
set_option maxHeartbeats 4000000 in
theorem vX10_judge_100 {w : Wd} {h : Nat} (hh : 1 ≤ h) (K1 : Nat) (v4 : Int32) (hK1 : isSheetC K1) (M : Mem) (Q : Option Value → Mem → Prop) (V : (((M K1 1) ≤ v4 → (Q (some (.int 0)) M)) ∧ (¬ ((M K1 1) ≤ v4) → (CSi w h kX8_cellBehind [.ref 53, .int v4] M (fun r1 M1 => ((r1 = (-2) → (Q (some (.int (1 + v4))) M1)) ∧ (¬ (r1 = (-2)) → (vp_in v4 40 ∧ (((r1 - r1 / 12 * 12) = (M1 (K1 + 1) (Int32.toNatClampNeg v4)) → (∀ x1 : Int32, x1 = v4 + 1 → RM w (h + 1) kX10_judge 100 [(0, .ref 0), (3, .ref K1), (4, .int x1)] [] M1 Q)) ∧ (¬ ((r1 - r1 / 12 * 12) = (M1 (K1 + 1) (Int32.toNatClampNeg v4))) → (Q (some (.int (1 + v4))) M1))))))))))) : RM w (h + 1) kX10_judge 100 [(0, .ref 0), (3, .ref K1), (4, .int v4)] [] M Q := by
  refine rj_iload dX10_judge_100 2 rfl ?_
  refine rj_aload_n dX10_judge_102 1 rfl rfl ?_
  refine rs_getI fl_RX10_297 rfl (by decide) (by decide) rfl dX10_judge_103 hK1.1 ?_
  obtain ⟨V1, V2⟩ := V
  refine rj_icmp_ge (tgt := 153) dX10_judge_106 (by decide) (fun hc => ?_) (fun hc => ?_)
  · have V := V1 hc
    refine rj_iconst (v := 0) dX10_judge_153 (by decide) ?_
    exact rm_iret dX10_judge_154 rfl rfl V
  · have V := V2 hc
    refine rj_aload_n dX10_judge_109 0 rfl rfl ?_
    refine rs_getR (t := 53) fl_RX10_63 rfl (by decide) (by decide) rfl dX10_judge_110 rfl (by omega) ?_
    refine rj_iload dX10_judge_113 2 rfl ?_
    refine rm_callVi [.int v4] (rest := []) ml_RX10_239 mvX8_cellBehind rfl dX10_judge_115 rfl rfl rfl rfl rfl (Nat.le_of_ble_eq_true rfl) (by decide) V (fun r1 M1 V => ?_)
    refine rj_istore (lv' := [(0, .ref 0), (3, .ref K1), (4, .int v4), (5, .int r1)]) dX10_judge_118 (by decide) rfl rfl ?_
    refine rj_iload dX10_judge_120 3 rfl ?_
    refine rj_bipush (v := (-2)) dX10_judge_122 (by decide) ?_
    obtain ⟨V1, V2⟩ := V
    refine rj_icmp_eq (tgt := 142) dX10_judge_124 (by decide) (fun hc => ?_) (fun hc => ?_)
    · have V := V1 hc
      refine rj_iconst (v := 1) dX10_judge_142 (by decide) ?_
      refine rj_iload dX10_judge_143 2 rfl ?_
      refine rj_iadd dX10_judge_145 ?_
      exact rm_iret dX10_judge_146 rfl rfl V
    · have V := V2 hc
      refine rj_iload dX10_judge_127 3 rfl ?_
      refine rm_callSi [.int r1] (rest := []) (K := fun x M' => (r1 - r1 / 12 * 12) = x ∧ M1 = M') ml_RX10_318 mtX10_columnOf rfl dX10_judge_129 rfl rfl (Nat.le_of_ble_eq_true rfl) (by decide) (uX10_columnOf ⟨rfl, rfl⟩) (fun x M' hx => ?_)
      obtain ⟨rfl, rfl⟩ := hx
      refine rj_aload_n dX10_judge_132 1 rfl rfl ?_
      refine rs_getR (t := K1 + 1) fl_RX10_309 rfl (by decide) (by decide) rfl dX10_judge_133 hK1.1 (by omega) ?_
      refine rj_iload dX10_judge_136 2 rfl ?_
      obtain ⟨hb, V⟩ := V
      refine rs_iald dX10_judge_138 hK1.2 hb ?_
      obtain ⟨V1, V2⟩ := V
      refine rj_icmp_eq (tgt := 147) dX10_judge_139 (by decide) (fun hc => ?_) (fun hc => ?_)
      · have V := V1 hc
        refine rj_iincV (c := 1) (fun y => [(0, .ref 0), (3, .ref K1), (4, .int y), (5, .int r1)]) dX10_judge_147 2 rfl (by decide) (by decide) rfl (fun _ => rfl) (fun x1 ex1 => ?_)
        have V := V x1 ex1
        refine rj_goto (tgt := 100) dX10_judge_150 (by decide) ?_
        exact rs_sub [0, 1, 2] rfl V
      · have V := V2 hc
        refine rj_iconst (v := 1) dX10_judge_142 (by decide) ?_
        refine rj_iload dX10_judge_143 2 rfl ?_
        refine rj_iadd dX10_judge_145 ?_
        exact rm_iret dX10_judge_146 rfl rfl V
-- X10_image
set_option maxRecDepth 100000 in
set_option maxHeartbeats 4000000 in
theorem vX10_image_0 {w : Wd} {h : Nat}   (M : Mem) (Q : Option Value → Mem → Prop) (V : (CSv w h kX5_become [.ref 20, .ref 3] M (fun M1 => (∀ M2 : Mem, M2 = mset M1 0 3 1 → (Q (some (.int 1)) M2))))) : RM w (h + 1) kX10_image 0 [(0, .ref 0)] [] M Q := by
  refine rj_aload_n dX10_image_0 0 rfl rfl ?_
  refine rs_getR (t := 20) fl_RX10_23 rfl (by decide) (by decide) rfl dX10_image_1 rfl (by omega) ?_
  refine rj_aload_n dX10_image_4 0 rfl rfl ?_
  refine rs_getR (t := 3) fl_RX10_19 rfl (by decide) (by decide) rfl dX10_image_5 rfl (by omega) ?_
  refine rm_callVv [.ref 3] (rest := []) ml_RX10_321 mvX5_become rfl dX10_image_8 rfl rfl rfl rfl rfl (Nat.le_of_ble_eq_true rfl) (by decide) V (fun M1 V => ?_)
  refine rj_aload_n dX10_image_11 0 rfl rfl ?_
  refine rj_iconst (v := 1) dX10_image_12 (by decide) ?_
  refine rs_putI fl_RX10_26 (ft10_3 _ nofun) rfl (by decide) (by decide) rfl dX10_image_13 rfl rfl rfl (fun M2 eM2 => ?_)
  have V := V M2 eM2
  refine rj_iconst (v := 1) dX10_image_16 (by decide) ?_
  exact rm_iret dX10_image_17 rfl rfl V
-- X10_undo
set_option maxRecDepth 100000 in
set_option maxHeartbeats 4000000 in
theorem vX10_undo_0 {w : Wd} {h : Nat}   (M : Mem) (Q : Option Value → Mem → Prop) (V : ((¬ ((M 0 3) = 0) → (CSv w h kX5_become [.ref 3, .ref 20] M (fun M1 => (CSi w h kX0_howMany [.ref 8] M1 (fun r1 M2 => (Q (some (.int r1)) M2)))))) ∧ ((M 0 3) = 0 → (CSi w h kX1_tell [.ref 1, .int 3] M (fun r1 M1 => (Q (some (.int r1)) M1)))))) : RM w (h + 1) kX10_undo 0 [(0, .ref 0)] [] M Q := by
  refine rj_aload_n dX10_undo_0 0 rfl rfl ?_
  refine rs_getI fl_RX10_26 rfl (by decide) (by decide) rfl dX10_undo_1 rfl ?_
  obtain ⟨V1, V2⟩ := V
  refine rj_if_ne (tgt := 16) dX10_undo_4 (by decide) (fun hc => ?_) (fun hc => ?_)
  · have V := V1 hc
    refine rj_aload_n dX10_undo_16 0 rfl rfl ?_
    refine rs_getR (t := 3) fl_RX10_19 rfl (by decide) (by decide) rfl dX10_undo_17 rfl (by omega) ?_
    refine rj_aload_n dX10_undo_20 0 rfl rfl ?_
    refine rs_getR (t := 20) fl_RX10_23 rfl (by decide) (by decide) rfl dX10_undo_21 rfl (by omega) ?_
    refine rm_callVv [.ref 20] (rest := []) ml_RX10_321 mvX5_become rfl dX10_undo_24 rfl rfl rfl rfl rfl (Nat.le_of_ble_eq_true rfl) (by decide) V (fun M1 V => ?_)
    refine rj_aload_n dX10_undo_27 0 rfl rfl ?_
    refine rs_getR (t := 3) fl_RX10_19 rfl (by decide) (by decide) rfl dX10_undo_28 rfl (by omega) ?_
    refine rs_getR (t := 8) fl_RX10_102 rfl (by decide) (by decide) rfl dX10_undo_31 rfl (by omega) ?_
    refine rm_callVi [] (rest := []) ml_RX10_174 mvX0_howMany rfl dX10_undo_34 rfl rfl rfl rfl rfl (Nat.le_of_ble_eq_true rfl) (by decide) V (fun r1 M2 V => ?_)
    exact rm_iret dX10_undo_37 rfl rfl V
  · have V := V2 hc
    refine rj_aload_n dX10_undo_7 0 rfl rfl ?_
    refine rs_getR (t := 1) fl_RX10_12 rfl (by decide) (by decide) rfl dX10_undo_8 rfl (by omega) ?_
    refine rj_iconst (v := 3) dX10_undo_11 (by decide) ?_
    refine rm_callVi [.int 3] (rest := []) ml_RX10_85 mvX1_tell rfl dX10_undo_12 rfl rfl rfl rfl rfl (Nat.le_of_ble_eq_true rfl) (by decide) V (fun r1 M1 V => ?_)
    exact rm_iret dX10_undo_15 rfl rfl V
-- X10_tear
set_option maxRecDepth 100000 in
set_option maxHeartbeats 4000000 in
theorem vX10_tear_0 {w : Wd} {h : Nat}   (M : Mem) (Q : Option Value → Mem → Prop) (V : (∀ x1 : Int32, x1 = (b2i (¬ ((M 0 3) = 0))) → (∀ M1 : Mem, M1 = mset M 0 3 0 → (Q (some (.int x1)) M1)))) : RM w h kX10_tear 0 [(0, .ref 0)] [] M Q := by
  refine rj_aload_n dX10_tear_0 0 rfl rfl ?_
  refine rs_getI fl_RX10_26 rfl (by decide) (by decide) rfl dX10_tear_1 rfl ?_
  have KD : RM w h kX10_tear 12 [(0, .ref 0)] [.int (b2i (¬ ((M 0 3) = 0)))] M Q := by
    refine rj_top (fun x1 ex1 => ?_)
    have V := V x1 ex1
    refine rj_istore_n (lv' := [(0, .ref 0), (1, .int x1)]) dX10_tear_12 rfl (by decide) rfl rfl ?_
    refine rj_aload_n dX10_tear_13 0 rfl rfl ?_
    refine rj_iconst (v := 0) dX10_tear_14 (by decide) ?_
    refine rs_putI fl_RX10_26 (ft10_3 _ nofun) rfl (by decide) (by decide) rfl dX10_tear_15 rfl rfl rfl (fun M1 eM1 => ?_)
    have V := V M1 eM1
    refine rj_iload_n dX10_tear_18 1 rfl rfl ?_
    exact rm_iret dX10_tear_19 rfl rfl V
  refine rj_if_eq (tgt := 11) dX10_tear_4 (by decide) (fun hc => ?_) (fun hc => ?_)
  · refine rj_iconst (v := 0) dX10_tear_11 (by decide) ?_
    exact rs_b0 (fun q => q hc) KD
  · refine rj_iconst (v := 1) dX10_tear_7 (by decide) ?_
    refine rj_goto (tgt := 12) dX10_tear_8 (by decide) ?_
    exact rs_b1 hc KD
-- X10_count
set_option maxRecDepth 100000 in
set_option maxHeartbeats 4000000 in
theorem vX10_count_0 {w : Wd} {h : Nat} (a0 : Int32)  (M : Mem) (Q : Option Value → Mem → Prop) (V : ((a0 = 0 → (CSi w h kX0_howMany [.ref 8] M (fun r1 M1 => (Q (some (.int r1)) M1)))) ∧ (¬ a0 = 0 → ((a0 = 1 → (CSi w h kX10_sumOf [.ref 11] M (fun r1 M1 => (Q (some (.int r1)) M1)))) ∧ (¬ a0 = 1 → ((a0 = 2 → (CSi w h kX10_countAbove0 [.ref 6] M (fun r1 M1 => (Q (some (.int r1)) M1)))) ∧ (¬ a0 = 2 → ((a0 = 3 → (CSi w h kX10_countAbove0 [.ref 5] M (fun r1 M1 => (Q (some (.int r1)) M1)))) ∧ (¬ a0 = 3 → ((a0 = 4 → (Q (some (.int (M 13 0))) M)) ∧ (¬ a0 = 4 → ((a0 = 5 → (Q (some (.int (M 37 1))) M)) ∧ (¬ a0 = 5 → ((a0 = 6 → (Q (some (.int (M 3 5))) M)) ∧ (¬ a0 = 6 → ((a0 = 7 → (Q (some (.int (M 3 6))) M)) ∧ (¬ a0 = 7 → (CSi w h kX1_tell [.ref 1, .int 0] M (fun r1 M1 => (Q (some (.int r1)) M1)))))))))))))))))))) : RM w (h + 1) kX10_count 0 [(0, .ref 0), (1, .int a0)] [] M Q := by
  refine rj_iload_n dX10_count_0 1 rfl rfl ?_
  obtain ⟨V1, V2⟩ := V
  by_cases w0 : a0 = 0
  · have V := V1 w0
    refine rs_at w0 ?_
    refine rj_tableIn (off := 47) (tgt := 48) dX10_count_1 (by decide) (by decide) (by decide) (by decide) ?_
    refine rj_aload_n dX10_count_48 0 rfl rfl ?_
    refine rs_getR (t := 3) fl_RX10_19 rfl (by decide) (by decide) rfl dX10_count_49 rfl (by omega) ?_
    refine rs_getR (t := 8) fl_RX10_102 rfl (by decide) (by decide) rfl dX10_count_52 rfl (by omega) ?_
    refine rm_callVi [] (rest := []) ml_RX10_174 mvX0_howMany rfl dX10_count_55 rfl rfl rfl rfl rfl (Nat.le_of_ble_eq_true rfl) (by decide) V (fun r1 M1 V => ?_)
    exact rm_iret dX10_count_58 rfl rfl V
  · have V := V2 w0
    obtain ⟨V1, V2⟩ := V
    by_cases w1 : a0 = 1
    · have V := V1 w1
      refine rs_at w1 ?_
      refine rj_tableIn (off := 58) (tgt := 59) dX10_count_1 (by decide) (by decide) (by decide) (by decide) ?_
      refine rj_aload_n dX10_count_59 0 rfl rfl ?_
      refine rs_getR (t := 3) fl_RX10_19 rfl (by decide) (by decide) rfl dX10_count_60 rfl (by omega) ?_
      refine rs_getR (t := 8) fl_RX10_102 rfl (by decide) (by decide) rfl dX10_count_63 rfl (by omega) ?_
      refine rs_getR (t := 11) fl_RX10_164 rfl (by decide) (by decide) rfl dX10_count_66 rfl (by omega) ?_
      refine rm_callSi [.ref 11] (rest := []) ml_RX10_191 mtX10_sumOf rfl dX10_count_69 rfl rfl (Nat.le_of_ble_eq_true rfl) (by decide) V (fun r1 M1 V => ?_)
      exact rm_iret dX10_count_72 rfl rfl V
    · have V := V2 w1
      obtain ⟨V1, V2⟩ := V
      by_cases w2 : a0 = 2
      · have V := V1 w2
        refine rs_at w2 ?_
        refine rj_tableIn (off := 72) (tgt := 73) dX10_count_1 (by decide) (by decide) (by decide) (by decide) ?_
        refine rj_aload_n dX10_count_73 0 rfl rfl ?_
        refine rs_getR (t := 3) fl_RX10_19 rfl (by decide) (by decide) rfl dX10_count_74 rfl (by omega) ?_
        refine rs_getR (t := 4) fl_RX10_89 rfl (by decide) (by decide) rfl dX10_count_77 rfl (by omega) ?_
        refine rs_getR (t := 6) fl_RX10_96 rfl (by decide) (by decide) rfl dX10_count_80 rfl (by omega) ?_
        refine rm_callSi [.ref 6] (rest := []) ml_RX10_129 mtX10_countAbove0 rfl dX10_count_83 rfl rfl (Nat.le_of_ble_eq_true rfl) (by decide) V (fun r1 M1 V => ?_)
        exact rm_iret dX10_count_86 rfl rfl V
      · have V := V2 w2
        obtain ⟨V1, V2⟩ := V
        by_cases w3 : a0 = 3
        · have V := V1 w3
          refine rs_at w3 ?_
          refine rj_tableIn (off := 86) (tgt := 87) dX10_count_1 (by decide) (by decide) (by decide) (by decide) ?_
          refine rj_aload_n dX10_count_87 0 rfl rfl ?_
          refine rs_getR (t := 3) fl_RX10_19 rfl (by decide) (by decide) rfl dX10_count_88 rfl (by omega) ?_
          refine rs_getR (t := 4) fl_RX10_89 rfl (by decide) (by decide) rfl dX10_count_91 rfl (by omega) ?_
          refine rs_getR (t := 5) fl_RX10_92 rfl (by decide) (by decide) rfl dX10_count_94 rfl (by omega) ?_
          refine rm_callSi [.ref 5] (rest := []) ml_RX10_129 mtX10_countAbove0 rfl dX10_count_97 rfl rfl (Nat.le_of_ble_eq_true rfl) (by decide) V (fun r1 M1 V => ?_)
          exact rm_iret dX10_count_100 rfl rfl V
        · have V := V2 w3
          obtain ⟨V1, V2⟩ := V
          by_cases w4 : a0 = 4
          · have V := V1 w4
            refine rs_at w4 ?_
            refine rj_tableIn (off := 100) (tgt := 101) dX10_count_1 (by decide) (by decide) (by decide) (by decide) ?_
            refine rj_aload_n dX10_count_101 0 rfl rfl ?_
            refine rs_getR (t := 3) fl_RX10_19 rfl (by decide) (by decide) rfl dX10_count_102 rfl (by omega) ?_
            refine rs_getR (t := 13) fl_RX10_200 rfl (by decide) (by decide) rfl dX10_count_105 rfl (by omega) ?_
            refine rs_getI fl_RX10_204 rfl (by decide) (by decide) rfl dX10_count_108 rfl ?_
            exact rm_iret dX10_count_111 rfl rfl V
          · have V := V2 w4
            obtain ⟨V1, V2⟩ := V
            by_cases w5 : a0 = 5
            · have V := V1 w5
              refine rs_at w5 ?_
              refine rj_tableIn (off := 111) (tgt := 112) dX10_count_1 (by decide) (by decide) (by decide) (by decide) ?_
              refine rj_aload_n dX10_count_112 0 rfl rfl ?_
              refine rs_getR (t := 37) fl_RX10_33 rfl (by decide) (by decide) rfl dX10_count_113 rfl (by omega) ?_
              refine rs_getI fl_RX10_194 rfl (by decide) (by decide) rfl dX10_count_116 rfl ?_
              exact rm_iret dX10_count_119 rfl rfl V
            · have V := V2 w5
              obtain ⟨V1, V2⟩ := V
              by_cases w6 : a0 = 6
              · have V := V1 w6
                refine rs_at w6 ?_
                refine rj_tableIn (off := 119) (tgt := 120) dX10_count_1 (by decide) (by decide) (by decide) (by decide) ?_
                refine rj_aload_n dX10_count_120 0 rfl rfl ?_
                refine rs_getR (t := 3) fl_RX10_19 rfl (by decide) (by decide) rfl dX10_count_121 rfl (by omega) ?_
                refine rs_getI fl_RX10_273 rfl (by decide) (by decide) rfl dX10_count_124 rfl ?_
                exact rm_iret dX10_count_127 rfl rfl V
              · have V := V2 w6
                obtain ⟨V1, V2⟩ := V
                by_cases w7 : a0 = 7
                · have V := V1 w7
                  refine rs_at w7 ?_
                  refine rj_tableIn (off := 127) (tgt := 128) dX10_count_1 (by decide) (by decide) (by decide) (by decide) ?_
                  refine rj_aload_n dX10_count_128 0 rfl rfl ?_
                  refine rs_getR (t := 3) fl_RX10_19 rfl (by decide) (by decide) rfl dX10_count_129 rfl (by omega) ?_
                  refine rs_getI fl_RX10_324 rfl (by decide) (by decide) rfl dX10_count_132 rfl ?_
                  exact rm_iret dX10_count_135 rfl rfl V
                · have V := V2 w7
                  refine rj_tableOut (tgt := 136) dX10_count_1 (by have n0 := lv_neT (a := 0) w0 (by decide); have n1 := lv_neT (a := 1) w1 (by decide); have n2 := lv_neT (a := 2) w2 (by decide); have n3 := lv_neT (a := 3) w3 (by decide); have n4 := lv_neT (a := 4) w4 (by decide); have n5 := lv_neT (a := 5) w5 (by decide); have n6 := lv_neT (a := 6) w6 (by decide); have n7 := lv_neT (a := 7) w7 (by decide); omega) (by decide) ?_
                  refine rj_aload_n dX10_count_136 0 rfl rfl ?_
                  refine rs_getR (t := 1) fl_RX10_12 rfl (by decide) (by decide) rfl dX10_count_137 rfl (by omega) ?_
                  refine rj_iconst (v := 0) dX10_count_140 (by decide) ?_
                  refine rm_callVi [.int 0] (rest := []) ml_RX10_85 mvX1_tell rfl dX10_count_141 rfl rfl rfl rfl rfl (Nat.le_of_ble_eq_true rfl) (by decide) V (fun r1 M1 V => ?_)
                  exact rm_iret dX10_count_144 rfl rfl V
-- X10_status
set_option maxRecDepth 100000 in
set_option maxHeartbeats 4000000 in
theorem vX10_status_0 {w : Wd} {h : Nat} (a0 : Int32)  (M : Mem) (Q : Option Value → Mem → Prop) (V : ((¬ (a0 = (-1)) → ((((0 : Int32) ≤ a0 ∧ a0 ≤ (6 : Int32)) → (vp_in a0 7 ∧ (Q (some (.int (M 2 (Int32.toNatClampNeg a0)))) M))) ∧ (¬ (((0 : Int32) ≤ a0 ∧ a0 ≤ (6 : Int32))) → (CSi w h kX1_tell [.ref 1, .int 0] M (fun r1 M1 => (Q (some (.int r1)) M1)))))) ∧ (a0 = (-1) → (CSi w h kX10_sumOf [.ref 2] M (fun r1 M1 => (Q (some (.int r1)) M1)))))) : RM w (h + 1) kX10_status 0 [(0, .ref 0), (1, .int a0)] [] M Q := by
  refine rj_iload_n dX10_status_0 1 rfl rfl ?_
  refine rj_iconst (v := (-1)) dX10_status_1 (by decide) ?_
  obtain ⟨V1, V2⟩ := V
  refine rj_icmp_ne (tgt := 16) dX10_status_2 (by decide) (fun hc => ?_) (fun hc => ?_)
  · have V := V1 hc
    refine rj_iload_n dX10_status_16 1 rfl rfl ?_
    refine rj_iconst (v := 0) dX10_status_17 (by decide) ?_
    refine rj_bipush (v := 6) dX10_status_18 (by decide) ?_
    refine rm_callSi [.int a0, .int 0, .int 6] (rest := []) (K := fun x M' => b2i ((0 : Int32) ≤ a0 ∧ a0 ≤ (6 : Int32)) = x ∧ M = M') ml_RX10_81 mtX10_isWithin rfl dX10_status_20 rfl rfl (Nat.le_of_ble_eq_true rfl) (by decide) (uX10_isWithin ⟨rfl, rfl⟩) (fun x M' hx => ?_)
    obtain ⟨rfl, rfl⟩ := hx
    obtain ⟨V1, V2⟩ := V
    refine rs_if_neB (tgt := 35) dX10_status_23 (by decide) (fun hc => ?_) (fun hc => ?_)
    · have V := V1 hc
      refine rj_aload_n dX10_status_35 0 rfl rfl ?_
      refine rs_getR (t := 1) fl_RX10_12 rfl (by decide) (by decide) rfl dX10_status_36 rfl (by omega) ?_
      refine rs_getR (t := 2) fl_RX10_327 rfl (by decide) (by decide) rfl dX10_status_39 rfl (by omega) ?_
      refine rj_iload_n dX10_status_42 1 rfl rfl ?_
      obtain ⟨hb, V⟩ := V
      refine rs_iald dX10_status_43 rfl hb ?_
      exact rm_iret dX10_status_44 rfl rfl V
    · have V := V2 hc
      refine rj_aload_n dX10_status_26 0 rfl rfl ?_
      refine rs_getR (t := 1) fl_RX10_12 rfl (by decide) (by decide) rfl dX10_status_27 rfl (by omega) ?_
      refine rj_iconst (v := 0) dX10_status_30 (by decide) ?_
      refine rm_callVi [.int 0] (rest := []) ml_RX10_85 mvX1_tell rfl dX10_status_31 rfl rfl rfl rfl rfl (Nat.le_of_ble_eq_true rfl) (by decide) V (fun r1 M1 V => ?_)
      exact rm_iret dX10_status_34 rfl rfl V
  · have V := V2 hc
    refine rj_aload_n dX10_status_5 0 rfl rfl ?_
    refine rs_getR (t := 1) fl_RX10_12 rfl (by decide) (by decide) rfl dX10_status_6 rfl (by omega) ?_
    refine rs_getR (t := 2) fl_RX10_327 rfl (by decide) (by decide) rfl dX10_status_9 rfl (by omega) ?_
    refine rm_callSi [.ref 2] (rest := []) ml_RX10_191 mtX10_sumOf rfl dX10_status_12 rfl rfl (Nat.le_of_ble_eq_true rfl) (by decide) V (fun r1 M1 V => ?_)
    exact rm_iret dX10_status_15 rfl rfl V
-- X10_isProgram
set_option maxRecDepth 100000 in
set_option maxHeartbeats 4000000 in
theorem vX10_isProgram_0 {w : Wd} {h : Nat} (a0 : Int32)  (M : Mem) (Q : Option Value → Mem → Prop) (V : (Q (some (.int (b2i ((0 : Int32) ≤ a0 ∧ a0 ≤ ((M 13 0) - 1))))) M)) : RM w (h + 1) kX10_isProgram 0 [(0, .ref 0), (1, .int a0)] [] M Q := by
  refine rj_iload_n dX10_isProgram_0 1 rfl rfl ?_
  refine rj_iconst (v := 0) dX10_isProgram_1 (by decide) ?_
  refine rj_aload_n dX10_isProgram_2 0 rfl rfl ?_
  refine rs_getR (t := 3) fl_RX10_19 rfl (by decide) (by decide) rfl dX10_isProgram_3 rfl (by omega) ?_
  refine rs_getR (t := 13) fl_RX10_200 rfl (by decide) (by decide) rfl dX10_isProgram_6 rfl (by omega) ?_
  refine rs_getI fl_RX10_204 rfl (by decide) (by decide) rfl dX10_isProgram_9 rfl ?_
  refine rj_iconst (v := 1) dX10_isProgram_12 (by decide) ?_
  refine rj_isub dX10_isProgram_13 ?_
  refine rm_callSi [.int a0, .int 0, .int ((M 13 0) - 1)] (rest := []) (K := fun x M' => b2i ((0 : Int32) ≤ a0 ∧ a0 ≤ ((M 13 0) - 1)) = x ∧ M = M') ml_RX10_81 mtX10_isWithin rfl dX10_isProgram_14 rfl rfl (Nat.le_of_ble_eq_true rfl) (by decide) (uX10_isWithin ⟨rfl, rfl⟩) (fun x M' hx => ?_)
  obtain ⟨rfl, rfl⟩ := hx
  exact rm_iret dX10_isProgram_17 rfl (isB_n isB_b2i) V
-- X10_besideOf
set_option maxRecDepth 100000 in
set_option maxHeartbeats 4000000 in
theorem vX10_besideOf_0 {w : Wd} {h : Nat} (a0 : Int32) (a1 : Int32)  (M : Mem) (Q : Option Value → Mem → Prop) (V : (∀ x1 : Int32, x1 = ((a0 - a0 / 12 * 12) + a1) → ((x1 < 0 → (Q (some (.int (-2))) M)) ∧ (¬ (x1 < 0) → (Q (some (.int (if 12 ≤ x1 then ((-2) : Int32) else (a0 + a1)))) M))))) : RM w h kX10_besideOf 0 [(0, .int a0), (1, .int a1)] [] M Q := by
  refine rj_iload_n dX10_besideOf_0 0 rfl rfl ?_
  refine rj_bipush (v := 12) dX10_besideOf_1 (by decide) ?_
  refine rj_irem dX10_besideOf_3 (by decide) ?_
  refine rj_iload_n dX10_besideOf_4 1 rfl rfl ?_
  refine rj_iadd dX10_besideOf_5 ?_
  refine rj_top (fun x1 ex1 => ?_)
  have V := V x1 ex1
  refine rj_istore_n (lv' := [(0, .int a0), (1, .int a1), (2, .int x1)]) dX10_besideOf_6 rfl (by decide) rfl rfl ?_
  refine rj_iload_n dX10_besideOf_7 2 rfl rfl ?_
  obtain ⟨V1, V2⟩ := V
  refine rj_if_lt (tgt := 23) dX10_besideOf_8 (by decide) (fun hc => ?_) (fun hc => ?_)
  · have V := V1 hc
    refine rj_bipush (v := (-2)) dX10_besideOf_23 (by decide) ?_
    exact rm_iret dX10_besideOf_25 rfl rfl V
  · have V := V2 hc
    refine rj_iload_n dX10_besideOf_11 2 rfl rfl ?_
    refine rj_bipush (v := 12) dX10_besideOf_12 (by decide) ?_
    have KD : RM w h kX10_besideOf 25 [(0, .int a0), (1, .int a1), (2, .int x1)] [.int (if 12 ≤ x1 then ((-2) : Int32) else (a0 + a1))] M Q := by
      exact rm_iret dX10_besideOf_25 rfl rfl V
    refine rj_icmp_ge (tgt := 23) dX10_besideOf_14 (by decide) (fun hc => ?_) (fun hc => ?_)
    · refine rj_bipush (v := (-2)) dX10_besideOf_23 (by decide) ?_
      exact rs_ite_t hc KD
    · refine rj_iload_n dX10_besideOf_17 0 rfl rfl ?_
      refine rj_iload_n dX10_besideOf_18 1 rfl rfl ?_
      refine rj_iadd dX10_besideOf_19 ?_
      refine rj_goto (tgt := 25) dX10_besideOf_20 (by decide) ?_
      exact rs_ite_f hc KD
-- X10_belowOf
set_option maxRecDepth 100000 in
set_option maxHeartbeats 4000000 in
theorem vX10_belowOf_0 {w : Wd} {h : Nat} (a0 : Int32) (a1 : Int32)  (M : Mem) (Q : Option Value → Mem → Prop) (V : (∀ x1 : Int32, x1 = (a0 + 12) → ((a1 = 0 → (Q (some (.int x1)) M)) ∧ (¬ a1 = 0 → ((a1 = 1 → (CSi w h kX10_besideOf [.int x1, .int (-1)] M (fun r1 M1 => (Q (some (.int r1)) M1)))) ∧ (¬ a1 = 1 → (CSi w h kX10_besideOf [.int x1, .int 1] M (fun r1 M1 => (Q (some (.int r1)) M1))))))))) : RM w (h + 1) kX10_belowOf 0 [(0, .int a0), (1, .int a1)] [] M Q := by
  refine rj_iload_n dX10_belowOf_0 0 rfl rfl ?_
  refine rj_bipush (v := 12) dX10_belowOf_1 (by decide) ?_
  refine rj_iadd dX10_belowOf_3 ?_
  refine rj_top (fun x1 ex1 => ?_)
  have V := V x1 ex1
  refine rj_istore_n (lv' := [(0, .int a0), (1, .int a1), (2, .int x1)]) dX10_belowOf_4 rfl (by decide) rfl rfl ?_
  refine rj_iload_n dX10_belowOf_5 1 rfl rfl ?_
  obtain ⟨V1, V2⟩ := V
  by_cases w0 : a1 = 0
  · have V := V1 w0
    refine rs_at w0 ?_
    refine rj_lookup (off := 26) (tgt := 32) dX10_belowOf_6 (by decide) (by decide) (by decide) ?_
    refine rj_iload_n dX10_belowOf_32 2 rfl rfl ?_
    exact rm_iret dX10_belowOf_33 rfl rfl V
  · have V := V2 w0
    obtain ⟨V1, V2⟩ := V
    by_cases w1 : a1 = 1
    · have V := V1 w1
      refine rs_at w1 ?_
      refine rj_lookup (off := 28) (tgt := 34) dX10_belowOf_6 (by decide) (by decide) (by decide) ?_
      refine rj_iload_n dX10_belowOf_34 2 rfl rfl ?_
      refine rj_iconst (v := (-1)) dX10_belowOf_35 (by decide) ?_
      refine rm_callSi [.int x1, .int (-1)] (rest := []) ml_RX10_330 mtX10_besideOf rfl dX10_belowOf_36 rfl rfl (Nat.le_of_ble_eq_true rfl) (by decide) V (fun r1 M1 V => ?_)
      exact rm_iret dX10_belowOf_39 rfl rfl V
    · have V := V2 w1
      refine rj_lookup (off := 34) (tgt := 40) dX10_belowOf_6 (by decide) ((lv_osw w0 (by decide)).trans ((lv_osw w1 (by decide)).trans rfl)) (by decide) ?_
      refine rj_iload_n dX10_belowOf_40 2 rfl rfl ?_
      refine rj_iconst (v := 1) dX10_belowOf_41 (by decide) ?_
      refine rm_callSi [.int x1, .int 1] (rest := []) ml_RX10_330 mtX10_besideOf rfl dX10_belowOf_42 rfl rfl (Nat.le_of_ble_eq_true rfl) (by decide) V (fun r1 M1 V => ?_)
      exact rm_iret dX10_belowOf_45 rfl rfl V
-- X10_isUnder
set_option maxRecDepth 100000 in
set_option maxHeartbeats 4000000 in
theorem vX10_isUnder_0 {w : Wd} {h : Nat} (a0 : Int32) (a1 : Int32)  (M : Mem) (Q : Option Value → Mem → Prop) (V : RM w (h + 1) kX10_isUnder 4 [(1, .int a1), (2, .int a0), (3, .int 0)] [] M Q) : RM w (h + 1) kX10_isUnder 0 [(0, .int a0), (1, .int a1)] [] M Q := by
  refine rj_iload_n dX10_isUnder_0 0 rfl rfl ?_
  refine rj_istore_n (lv' := [(0, .int a0), (1, .int a1), (2, .int a0)]) dX10_isUnder_1 rfl (by decide) rfl rfl ?_
  refine rj_iconst (v := 0) dX10_isUnder_2 (by decide) ?_
  refine rj_istore_n (lv' := [(0, .int a0), (1, .int a1), (2, .int a0), (3, .int 0)]) dX10_isUnder_3 rfl (by decide) rfl rfl ?_
  exact rs_sub [1, 2, 3] rfl V
set_option maxRecDepth 100000 in
set_option maxHeartbeats 4000000 in
theorem vX10_isUnder_4 {w : Wd} {h : Nat} (hh : 1 ≤ h) (v1 : Int32) (v2 : Int32) (v3 : Int32)  (M : Mem) (Q : Option Value → Mem → Prop) (V : ((8 ≤ v3 → (Q (some (.int 0)) M)) ∧ (¬ (8 ≤ v3) → ((¬ ((0 ≤ v2 ∧ v2 ≤ 7)) → (Q (some (.int 0)) M)) ∧ ((0 ≤ v2 ∧ v2 ≤ 7) → ((¬ (v2 = v1) → (vp_in v2 8 ∧ (∀ x1 : Int32, x1 = (tabA (Int32.toNatClampNeg v2)) → (∀ x2 : Int32, x2 = v3 + 1 → RM w (h + 1) kX10_isUnder 4 [(1, .int v1), (2, .int x1), (3, .int x2)] [] M Q)))) ∧ (v2 = v1 → (Q (some (.int 1)) M)))))))) : RM w (h + 1) kX10_isUnder 4 [(1, .int v1), (2, .int v2), (3, .int v3)] [] M Q := by
  refine rj_iload_n dX10_isUnder_4 2 rfl rfl ?_
  refine rj_bipush (v := 8) dX10_isUnder_5 (by decide) ?_
  obtain ⟨V1, V2⟩ := V
  refine rj_icmp_ge (tgt := 36) dX10_isUnder_7 (by decide) (fun hc => ?_) (fun hc => ?_)
  · have V := V1 hc
    refine rj_iconst (v := 0) dX10_isUnder_36 (by decide) ?_
    exact rm_iret dX10_isUnder_37 rfl rfl V
  · have V := V2 hc
    refine rj_iload_n dX10_isUnder_10 1 rfl rfl ?_
    refine rm_callSi [.int v2] (rest := []) (K := fun x M' => b2i (0 ≤ v2 ∧ v2 ≤ 7) = x ∧ M = M') ml_RX10_242 mtX10_isKind rfl dX10_isUnder_11 rfl rfl (Nat.le_of_ble_eq_true rfl) (by decide) (uX10_isKind (by omega) ⟨rfl, rfl⟩) (fun x M' hx => ?_)
    obtain ⟨rfl, rfl⟩ := hx
    obtain ⟨V1, V2⟩ := V
    refine rs_if_eqB (tgt := 36) dX10_isUnder_14 (by decide) (fun hc => ?_) (fun hc => ?_)
    · have V := V1 hc
      refine rj_iconst (v := 0) dX10_isUnder_36 (by decide) ?_
      exact rm_iret dX10_isUnder_37 rfl rfl V
    · have V := V2 hc
      refine rj_iload_n dX10_isUnder_17 1 rfl rfl ?_
      refine rj_iload_n dX10_isUnder_18 0 rfl rfl ?_
      obtain ⟨V1, V2⟩ := V
      refine rj_icmp_ne (tgt := 24) dX10_isUnder_19 (by decide) (fun hc => ?_) (fun hc => ?_)
      · have V := V1 hc
        refine rj_getsA rfl fs_RX10_334 dX10_isUnder_24 ?_
        refine rj_iload_n dX10_isUnder_27 1 rfl rfl ?_
        obtain ⟨hb, V⟩ := V
        refine rj_taldA dX10_isUnder_28 hb ?_
        refine rj_top (fun x1 ex1 => ?_)
        have V := V x1 ex1
        refine rj_istore_n (lv' := [(1, .int v1), (2, .int x1), (3, .int v3)]) dX10_isUnder_29 rfl (by decide) rfl rfl ?_
        refine rj_iincV (c := 1) (fun y => [(1, .int v1), (2, .int x1), (3, .int y)]) dX10_isUnder_30 2 rfl (by decide) (by decide) rfl (fun _ => rfl) (fun x2 ex2 => ?_)
        have V := V x2 ex2
        refine rj_goto (tgt := 4) dX10_isUnder_33 (by decide) ?_
        exact rs_sub [0, 1, 2] rfl V
      · have V := V2 hc
        refine rj_iconst (v := 1) dX10_isUnder_22 (by decide) ?_
        exact rm_iret dX10_isUnder_23 rfl rfl V
-- X10_countAbove0
set_option maxRecDepth 100000 in
set_option maxHeartbeats 4000000 in
theorem vX10_countAbove0_0 {w : Wd} {h : Nat} (a : Nat) (la : Nat) (ha : lay a = (12, la)) (pa : 0 < la) (qa : la < 2147483648)  (M : Mem) (Q : Option Value → Mem → Prop) (V : (∀ x1 : Int32, x1 = (Int32.ofNat la) → RM w h kX10_countAbove0 10 [(1, .int 0), (2, .ref a), (3, .int x1), (4, .int 0)] [] M Q)) : RM w h kX10_countAbove0 0 [(0, .ref a)] [] M Q := by
  refine rj_iconst (v := 0) dX10_countAbove0_0 (by decide) ?_
  refine rj_istore_n (lv' := [(0, .ref a), (1, .int 0)]) dX10_countAbove0_1 rfl (by decide) rfl rfl ?_
  refine rj_aload_n dX10_countAbove0_2 0 rfl rfl ?_
  refine rj_astore_n (lv' := [(0, .ref a), (1, .int 0), (2, .ref a)]) dX10_countAbove0_3 rfl (by decide) rfl rfl ?_
  refine rj_aload_n dX10_countAbove0_4 2 rfl rfl ?_
  refine rs_alen (v := (Int32.ofNat la)) dX10_countAbove0_5 ha pa rfl ?_
  refine rj_top (fun x1 ex1 => ?_)
  have V := V x1 ex1
  refine rj_istore_n (lv' := [(0, .ref a), (1, .int 0), (2, .ref a), (3, .int x1)]) dX10_countAbove0_6 rfl (by decide) rfl rfl ?_
  refine rj_iconst (v := 0) dX10_countAbove0_7 (by decide) ?_
  refine rj_istore (lv' := [(0, .ref a), (1, .int 0), (2, .ref a), (3, .int x1), (4, .int 0)]) dX10_countAbove0_8 (by decide) rfl rfl ?_
  exact rs_sub [1, 2, 3, 4] rfl V
set_option maxRecDepth 100000 in
set_option maxHeartbeats 4000000 in
theorem vX10_countAbove0_10 {w : Wd} {h : Nat} (a : Nat) (la : Nat) (v1 : Int32) (v3 : Int32) (v4 : Int32) (ha : lay a = (12, la)) (pa : 0 < la) (qa : la < 2147483648)  (M : Mem) (Q : Option Value → Mem → Prop) (V : ((v3 ≤ v4 → (Q (some (.int v1)) M)) ∧ (¬ (v3 ≤ v4) → (vp_in v4 la ∧ (∀ x1 : Int32, x1 = (M a (Int32.toNatClampNeg v4)) → ((x1 ≤ 0 → (∀ x2 : Int32, x2 = v4 + 1 → RM w h kX10_countAbove0 10 [(1, .int v1), (2, .ref a), (3, .int v3), (4, .int x2)] [] M Q)) ∧ (¬ (x1 ≤ 0) → (∀ x2 : Int32, x2 = v1 + 1 → (∀ x3 : Int32, x3 = v4 + 1 → RM w h kX10_countAbove0 10 [(1, .int x2), (2, .ref a), (3, .int v3), (4, .int x3)] [] M Q))))))))) : RM w h kX10_countAbove0 10 [(1, .int v1), (2, .ref a), (3, .int v3), (4, .int v4)] [] M Q := by
  refine rj_iload dX10_countAbove0_10 3 rfl ?_
  refine rj_iload_n dX10_countAbove0_12 2 rfl rfl ?_
  obtain ⟨V1, V2⟩ := V
  refine rj_icmp_ge (tgt := 36) dX10_countAbove0_13 (by decide) (fun hc => ?_) (fun hc => ?_)
  · have V := V1 hc
    refine rj_iload_n dX10_countAbove0_36 0 rfl rfl ?_
    exact rm_iret dX10_countAbove0_37 rfl rfl V
  · have V := V2 hc
    refine rj_aload_n dX10_countAbove0_16 1 rfl rfl ?_
    refine rj_iload dX10_countAbove0_17 3 rfl ?_
    obtain ⟨hb, V⟩ := V
    refine rs_iald dX10_countAbove0_19 ha hb ?_
    refine rj_top (fun x1 ex1 => ?_)
    have V := V x1 ex1
    refine rj_istore (lv' := [(1, .int v1), (2, .ref a), (3, .int v3), (4, .int v4), (5, .int x1)]) dX10_countAbove0_20 (by decide) rfl rfl ?_
    refine rj_iload dX10_countAbove0_22 4 rfl ?_
    obtain ⟨V1, V2⟩ := V
    refine rj_if_le (tgt := 30) dX10_countAbove0_24 (by decide) (fun hc => ?_) (fun hc => ?_)
    · have V := V1 hc
      refine rj_iincV (c := 1) (fun y => [(1, .int v1), (2, .ref a), (3, .int v3), (4, .int y), (5, .int x1)]) dX10_countAbove0_30 3 rfl (by decide) (by decide) rfl (fun _ => rfl) (fun x2 ex2 => ?_)
      have V := V x2 ex2
      refine rj_goto (tgt := 10) dX10_countAbove0_33 (by decide) ?_
      exact rs_sub [0, 1, 2, 3] rfl V
    · have V := V2 hc
      refine rj_iincV (c := 1) (fun y => [(1, .int y), (2, .ref a), (3, .int v3), (4, .int v4), (5, .int x1)]) dX10_countAbove0_27 0 rfl (by decide) (by decide) rfl (fun _ => rfl) (fun x2 ex2 => ?_)
      have V := V x2 ex2
      refine rj_iincV (c := 1) (fun y => [(1, .int x2), (2, .ref a), (3, .int v3), (4, .int y), (5, .int x1)]) dX10_countAbove0_30 3 rfl (by decide) (by decide) rfl (fun _ => rfl) (fun x3 ex3 => ?_)
      have V := V x3 ex3
      refine rj_goto (tgt := 10) dX10_countAbove0_33 (by decide) ?_
      exact rs_sub [0, 1, 2, 3] rfl V
-- X10_sumOf
set_option maxRecDepth 100000 in
set_option maxHeartbeats 4000000 in
theorem vX10_sumOf_0 {w : Wd} {h : Nat} (a : Nat) (la : Nat) (ha : lay a = (12, la)) (pa : 0 < la) (qa : la < 2147483648)  (M : Mem) (Q : Option Value → Mem → Prop) (V : (∀ x1 : Int32, x1 = (Int32.ofNat la) → RM w h kX10_sumOf 10 [(1, .int 0), (2, .ref a), (3, .int x1), (4, .int 0)] [] M Q)) : RM w h kX10_sumOf 0 [(0, .ref a)] [] M Q := by
  refine rj_iconst (v := 0) dX10_sumOf_0 (by decide) ?_
  refine rj_istore_n (lv' := [(0, .ref a), (1, .int 0)]) dX10_sumOf_1 rfl (by decide) rfl rfl ?_
  refine rj_aload_n dX10_sumOf_2 0 rfl rfl ?_
  refine rj_astore_n (lv' := [(0, .ref a), (1, .int 0), (2, .ref a)]) dX10_sumOf_3 rfl (by decide) rfl rfl ?_
  refine rj_aload_n dX10_sumOf_4 2 rfl rfl ?_
  refine rs_alen (v := (Int32.ofNat la)) dX10_sumOf_5 ha pa rfl ?_
  refine rj_top (fun x1 ex1 => ?_)
  have V := V x1 ex1
  refine rj_istore_n (lv' := [(0, .ref a), (1, .int 0), (2, .ref a), (3, .int x1)]) dX10_sumOf_6 rfl (by decide) rfl rfl ?_
  refine rj_iconst (v := 0) dX10_sumOf_7 (by decide) ?_
  refine rj_istore (lv' := [(0, .ref a), (1, .int 0), (2, .ref a), (3, .int x1), (4, .int 0)]) dX10_sumOf_8 (by decide) rfl rfl ?_
  exact rs_sub [1, 2, 3, 4] rfl V
set_option maxRecDepth 100000 in
set_option maxHeartbeats 4000000 in
theorem vX10_sumOf_10 {w : Wd} {h : Nat} (a : Nat) (la : Nat) (v1 : Int32) (v3 : Int32) (v4 : Int32) (ha : lay a = (12, la)) (pa : 0 < la) (qa : la < 2147483648)  (M : Mem) (Q : Option Value → Mem → Prop) (V : ((v3 ≤ v4 → (Q (some (.int v1)) M)) ∧ (¬ (v3 ≤ v4) → (vp_in v4 la ∧ (∀ x1 : Int32, x1 = (M a (Int32.toNatClampNeg v4)) → (∀ x2 : Int32, x2 = (v1 + x1) → (∀ x3 : Int32, x3 = v4 + 1 → RM w h kX10_sumOf 10 [(1, .int x2), (2, .ref a), (3, .int v3), (4, .int x3)] [] M Q))))))) : RM w h kX10_sumOf 10 [(1, .int v1), (2, .ref a), (3, .int v3), (4, .int v4)] [] M Q := by
  refine rj_iload dX10_sumOf_10 3 rfl ?_
  refine rj_iload_n dX10_sumOf_12 2 rfl rfl ?_
  obtain ⟨V1, V2⟩ := V
  refine rj_icmp_ge (tgt := 33) dX10_sumOf_13 (by decide) (fun hc => ?_) (fun hc => ?_)
  · have V := V1 hc
    refine rj_iload_n dX10_sumOf_33 0 rfl rfl ?_
    exact rm_iret dX10_sumOf_34 rfl rfl V
  · have V := V2 hc
    refine rj_aload_n dX10_sumOf_16 1 rfl rfl ?_
    refine rj_iload dX10_sumOf_17 3 rfl ?_
    obtain ⟨hb, V⟩ := V
    refine rs_iald dX10_sumOf_19 ha hb ?_
    refine rj_top (fun x1 ex1 => ?_)
    have V := V x1 ex1
    refine rj_istore (lv' := [(1, .int v1), (2, .ref a), (3, .int v3), (4, .int v4), (5, .int x1)]) dX10_sumOf_20 (by decide) rfl rfl ?_
    refine rj_iload_n dX10_sumOf_22 0 rfl rfl ?_
    refine rj_iload dX10_sumOf_23 4 rfl ?_
    refine rj_iadd dX10_sumOf_25 ?_
    refine rj_top (fun x2 ex2 => ?_)
    have V := V x2 ex2
    refine rj_istore_n (lv' := [(1, .int x2), (2, .ref a), (3, .int v3), (4, .int v4), (5, .int x1)]) dX10_sumOf_26 rfl (by decide) rfl rfl ?_
    refine rj_iincV (c := 1) (fun y => [(1, .int x2), (2, .ref a), (3, .int v3), (4, .int y), (5, .int x1)]) dX10_sumOf_27 3 rfl (by decide) (by decide) rfl (fun _ => rfl) (fun x3 ex3 => ?_)
    have V := V x3 ex3
    refine rj_goto (tgt := 10) dX10_sumOf_30 (by decide) ?_
    exact rs_sub [0, 1, 2, 3] rfl V
-- X10_copyAll
set_option maxRecDepth 100000 in
set_option maxHeartbeats 4000000 in
theorem vX10_copyAll_0 {w : Wd} {h : Nat} (a : Nat) (la : Nat) (b : Nat) (lb : Nat) (ha : lay a = (12, la)) (pa : 0 < la) (qa : la < 2147483648) (hb : lay b = (12, lb)) (pb : 0 < lb) (qb : lb < 2147483648)  (M : Mem) (Q : Option Value → Mem → Prop) (V : (¬ (0 : Int32) < 0 ∧ ¬ (0 : Int32) < 0 ∧ ¬ ((if (Int32.ofNat lb) < (Int32.ofNat la) then (Int32.ofNat lb) else (Int32.ofNat la)) : Int32) < 0 ∧ (Int32.toNatClampNeg 0) + (Int32.toNatClampNeg (if (Int32.ofNat lb) < (Int32.ofNat la) then (Int32.ofNat lb) else (Int32.ofNat la))) ≤ la ∧ (Int32.toNatClampNeg 0) + (Int32.toNatClampNeg (if (Int32.ofNat lb) < (Int32.ofNat la) then (Int32.ofNat lb) else (Int32.ofNat la))) ≤ lb ∧ ∀ M1 : Mem, M1 = mput M b (va_cpy (M a) (M b) (Int32.toNatClampNeg 0) (Int32.toNatClampNeg 0) (Int32.toNatClampNeg (if (Int32.ofNat lb) < (Int32.ofNat la) then (Int32.ofNat lb) else (Int32.ofNat la)))) → (Q none M1))) : RM w (h + 1) kX10_copyAll 0 [(0, .ref a), (1, .ref b)] [] M Q := by
  refine rj_aload_n dX10_copyAll_0 0 rfl rfl ?_
  refine rj_iconst (v := 0) dX10_copyAll_1 (by decide) ?_
  refine rj_aload_n dX10_copyAll_2 1 rfl rfl ?_
  refine rj_iconst (v := 0) dX10_copyAll_3 (by decide) ?_
  refine rj_aload_n dX10_copyAll_4 0 rfl rfl ?_
  refine rs_alen (v := (Int32.ofNat la)) dX10_copyAll_5 ha pa rfl ?_
  refine rj_aload_n dX10_copyAll_6 1 rfl rfl ?_
  refine rs_alen (v := (Int32.ofNat lb)) dX10_copyAll_7 hb pb rfl ?_
  refine rm_mmin (rest := [.int 0, .ref b, .int 0, .ref a]) ml_RX10_337 rfl dX10_copyAll_8 (Nat.le_of_ble_eq_true rfl) ?_
  obtain ⟨g1, g2, g3, g4, g5, V⟩ := V
  refine rs_copy (rest := []) rfl ml_RX10_312 cp_n cp_s cp_i dX10_copyAll_11 ha hb pa pb g1 g2 g3 g4 g5 (Nat.le_add_left _ _) (by show _ ≤ 39 * (h + 1); have : ([].map fun (v : Value) => v.category).sum + (nativeFrameWords "java/lang/System" "arraycopy" 5 + 11) ≤ 39 := (Nat.le_of_ble_eq_true rfl); omega) (fun M1 eM1 => ?_)
  have V := V M1 eM1
  exact rm_vret dX10_copyAll_14 rfl V

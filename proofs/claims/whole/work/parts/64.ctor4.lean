/-! ===== the reference's constructor; the cells once both objects are made ===== -/
def mi1 (i j : Nat) : Int32 := if j = 0 then 3 else if j = 2 ∨ j = 3 then 1 else if 402 ≤ j ∧ j < 402 + 4 * i ∧ j % 4 = 2 then -1 else 0
def mi2q (i j : Nat) : Int32 := if 656 ≤ j ∧ j < 656 + i then -1 else mi1 8 j
theorem mi1_0 : upd (upd (upd (fun _ => 0) 0 3) 2 1) 3 1 = mi1 0 := by
  funext j
  unfold mi1 upd
  by_cases h3 : j = 3
  · subst h3; rfl
  · rw [if_neg h3]
    by_cases h2 : j = 2
    · subst h2; rfl
    · rw [if_neg h2]
      by_cases h0 : j = 0
      · subst h0; rfl
      · rw [if_neg h0, if_neg h0, if_neg (by omega), if_neg (by omega)]
theorem mi1_s (i : Nat) : upd (mi1 i) (402 + 4 * i) (-1) = mi1 (i + 1) := by
  funext j
  unfold upd
  by_cases h : j = 402 + 4 * i
  · rw [if_pos h]; unfold mi1; rw [if_neg (by omega), if_neg (by omega), if_pos (by omega)]
  · rw [if_neg h]; unfold mi1
    by_cases h0 : j = 0
    · rw [if_pos h0, if_pos h0]
    · rw [if_neg h0, if_neg h0]
      by_cases h2 : j = 2 ∨ j = 3
      · rw [if_pos h2, if_pos h2]
      · rw [if_neg h2, if_neg h2]
        by_cases h4 : 402 ≤ j ∧ j < 402 + 4 * i ∧ j % 4 = 2
        · rw [if_pos h4, if_pos (by omega)]
        · rw [if_neg h4, if_neg (by omega)]
theorem mi2_0 : mi1 8 = mi2q 0 := by
  funext j
  unfold mi2q
  rw [if_neg (by omega)]
theorem mi2_s (i : Nat) : upd (mi2q i) (656 + i) (-1) = mi2q (i + 1) := by
  funext j
  unfold upd
  by_cases h : j = 656 + i
  · rw [if_pos h]; unfold mi2q; rw [if_pos (by omega)]
  · rw [if_neg h]; unfold mi2q
    by_cases h4 : 656 ≤ j ∧ j < 656 + i
    · rw [if_pos h4, if_pos (by omega)]
    · rw [if_neg h4, if_neg (by omega)]
abbrev rX11 (k : Nat) (g : Nat → Int32) : List va_E := [oE 11 [.ref (k + 1), .ref (k + 2), .int 0, .ref (k + 3), .int 0, .ref (k + 4), .int 0, .int 0, .int 0, .int 0, .int 0, .int 0, .ref (k + 5), .int 0, .int 0, .int 0, .ref (k + 6), .ref (k + 7), .ref (k + 8), .ref (k + 9), .ref (k + 10)], iA 666 g, zA 666, zA 7, zA 100, zA 65, zA 65, zA 192, zA 4, zA 4, zA 160]
section CTZ
variable {w : Wd} {h k : Nat}
set_option maxRecDepth 100000 in
set_option maxHeartbeats 4000000 in
theorem ctX11 (hk9 : k < 900) : CT w (h + 1) kX11_init 10 1929 k [] (oE 11 dfX11) (rX11 k (mi2q 10)) := by
  refine ct_of (by decide) (Nat.le_of_ble_eq_true rfl) (fun pre hk => ?_)
  have L2 : ∀ i, i ≤ 10 → RT w (rmk (h + 1) 10 1929) kX11_init 10 1929 136 [(0, .ref k), (1, .int (nI i))] [] k pre (rX11 k (mi2q i)) (FM w 10 1929 (ctQ k pre (rX11 k (mi2q 10)))) := by
    refine up_ind ?_ (fun i hi ih => ?_)
    · refine rj_iload_n dX11_init_136 1 rfl rfl ?_
      refine rj_bipush (v := 10) dX11_init_137 (by decide) ?_
      refine rj_icmp_ge (tgt := 159) dX11_init_139 (by decide) (fun _ => ?_) (fun hc => absurd (by decide) hc)
      exact rj_vret dX11_init_159 rfl (Nat.le_of_ble_eq_true rfl) (Nat.le_of_ble_eq_true rfl) ⟨rfl, rfl, rfl⟩
    · refine rj_iload_n dX11_init_136 1 rfl rfl ?_
      refine rj_bipush (v := 10) dX11_init_137 (by decide) ?_
      refine rj_icmp_ge (tgt := 159) dX11_init_139 (by decide) (fun hc => absurd hc (nI_ge (b := 10) hi (by decide))) (fun _ => ?_)
      refine rj_aload_n dX11_init_142 0 rfl rfl ?_
      refine rt_get (c := 0) hk fl_RX11_9 rfl dX11_init_143 rfl rfl rfl ?_
      refine rj_sipush (v := 656) dX11_init_146 (by decide) ?_
      refine rj_iload_n dX11_init_149 1 rfl rfl ?_
      refine rj_iadd dX11_init_150 ?_
      refine rj_iconst (v := (-1)) dX11_init_151 (by decide) ?_
      rw [show (656 : Int32) + nI i = nI (656 + i) from nI_add 656 i]
      refine rt_iast (c := 1) (rX11 k (mi2q (i + 1))) hk dX11_init_152 rfl rfl (vp_in_nI (by omega) (by decide)) (congrArg (rX11 k) (by rw [nI_clamp (by omega)]; exact mi2_s i)) ?_
      refine rj_iinc (v := nI (i + 1)) (lv' := [(0, .ref k), (1, .int (nI (i + 1)))]) dX11_init_153 1 rfl (nI_1 i) (by decide) rfl rfl ?_
      refine rj_goto (tgt := 136) dX11_init_156 (by decide) ?_
      exact ih
  have L1 : ∀ i, i ≤ 8 → RT w (rmk (h + 1) 10 1929) kX11_init 10 1929 109 [(0, .ref k), (1, .int (nI i))] [] k pre (rX11 k (mi1 i)) (FM w 10 1929 (ctQ k pre (rX11 k (mi2q 10)))) := by
    refine up_ind ?_ (fun i hi ih => ?_)
    · refine rj_iload_n dX11_init_109 1 rfl rfl ?_
      refine rj_bipush (v := 8) dX11_init_110 (by decide) ?_
      refine rj_icmp_ge (tgt := 134) dX11_init_112 (by decide) (fun _ => ?_) (fun hc => absurd (by decide) hc)
      refine rj_iconst (v := 0) dX11_init_134 (by decide) ?_
      refine rj_istore_n (lv' := [(0, .ref k), (1, .int 0)]) dX11_init_135 rfl (by decide) rfl rfl ?_
      rw [mi2_0]
      exact L2 0 (by omega)
    · refine rj_iload_n dX11_init_109 1 rfl rfl ?_
      refine rj_bipush (v := 8) dX11_init_110 (by decide) ?_
      refine rj_icmp_ge (tgt := 134) dX11_init_112 (by decide) (fun hc => absurd hc (nI_ge (b := 8) hi (by decide))) (fun _ => ?_)
      refine rj_aload_n dX11_init_115 0 rfl rfl ?_
      refine rt_get (c := 0) hk fl_RX11_9 rfl dX11_init_116 rfl rfl rfl ?_
      refine rj_sipush (v := 402) dX11_init_119 (by decide) ?_
      refine rj_iconst (v := 4) dX11_init_122 (by decide) ?_
      refine rj_iload_n dX11_init_123 1 rfl rfl ?_
      refine rj_imul dX11_init_124 ?_
      refine rj_iadd dX11_init_125 ?_
      refine rj_iconst (v := (-1)) dX11_init_126 (by decide) ?_
      rw [show (4 : Int32) * nI i = nI (4 * i) from pk_mul 4 i, show (402 : Int32) + nI (4 * i) = nI (402 + 4 * i) from nI_add 402 (4 * i)]
      refine rt_iast (c := 1) (rX11 k (mi1 (i + 1))) hk dX11_init_127 rfl rfl (vp_in_nI (by omega) (by decide)) (congrArg (rX11 k) (by rw [nI_clamp (by omega)]; exact mi1_s i)) ?_
      refine rj_iinc (v := nI (i + 1)) (lv' := [(0, .ref k), (1, .int (nI (i + 1)))]) dX11_init_128 1 rfl (nI_1 i) (by decide) rfl rfl ?_
      refine rj_goto (tgt := 109) dX11_init_131 (by decide) ?_
      exact ih
  refine rj_aload_n dX11_init_0 0 rfl rfl ?_
  refine rj_objInit rfl ml_RX11_3 oi_i oi_c dX11_init_1 (Nat.lt_trans hk9 (by decide)) (Nat.succ_le_succ (Nat.zero_le _)) rmO ?_
  refine rj_aload_n dX11_init_4 0 rfl rfl ?_
  refine rj_sipush (v := 666) dX11_init_5 (by decide) ?_
  refine rt_newa (r := k + 1) [oE 11 [.null, .null, .int 0, .null, .int 0, .null, .int 0, .int 0, .int 0, .int 0, .int 0, .int 0, .null, .int 0, .int 0, .int 0, .null, .null, .null, .null, .null], zA 666] hk hk9 rfl dX11_init_8 (by decide) rfl rfl rfl rfl rfl rfl ?_
  refine rt_putF (c := 0) [oE 11 [.ref (k + 1), .null, .int 0, .null, .int 0, .null, .int 0, .int 0, .int 0, .int 0, .int 0, .int 0, .null, .int 0, .int 0, .int 0, .null, .null, .null, .null, .null], zA 666] hk fl_RX11_9 (ft11_0 _ (fun _ => rfl)) rfl rfl dX11_init_10 rfl rfl rfl rfl (Nat.le_of_ble_eq_true rfl) rfl ?_
  refine rj_aload_n dX11_init_13 0 rfl rfl ?_
  refine rj_sipush (v := 666) dX11_init_14 (by decide) ?_
  refine rt_newa (r := k + 2) [oE 11 [.ref (k + 1), .null, .int 0, .null, .int 0, .null, .int 0, .int 0, .int 0, .int 0, .int 0, .int 0, .null, .int 0, .int 0, .int 0, .null, .null, .null, .null, .null], zA 666, zA 666] hk hk9 rfl dX11_init_17 (by decide) rfl rfl rfl rfl rfl rfl ?_
  refine rt_putF (c := 0) [oE 11 [.ref (k + 1), .ref (k + 2), .int 0, .null, .int 0, .null, .int 0, .int 0, .int 0, .int 0, .int 0, .int 0, .null, .int 0, .int 0, .int 0, .null, .null, .null, .null, .null], zA 666, zA 666] hk fl_RX11_13 (ft11_1 _ (fun _ => rfl)) rfl rfl dX11_init_19 rfl rfl rfl rfl (Nat.le_of_ble_eq_true rfl) rfl ?_
  refine rj_aload_n dX11_init_22 0 rfl rfl ?_
  refine rj_bipush (v := 7) dX11_init_23 (by decide) ?_
  refine rt_newa (r := k + 3) [oE 11 [.ref (k + 1), .ref (k + 2), .int 0, .null, .int 0, .null, .int 0, .int 0, .int 0, .int 0, .int 0, .int 0, .null, .int 0, .int 0, .int 0, .null, .null, .null, .null, .null], zA 666, zA 666, zA 7] hk hk9 rfl dX11_init_25 (by decide) rfl rfl rfl rfl rfl rfl ?_
  refine rt_putF (c := 0) [oE 11 [.ref (k + 1), .ref (k + 2), .int 0, .ref (k + 3), .int 0, .null, .int 0, .int 0, .int 0, .int 0, .int 0, .int 0, .null, .int 0, .int 0, .int 0, .null, .null, .null, .null, .null], zA 666, zA 666, zA 7] hk fl_RX11_16 (ft11_3 _ (fun _ => rfl)) rfl rfl dX11_init_27 rfl rfl rfl rfl (Nat.le_of_ble_eq_true rfl) rfl ?_
  refine rj_aload_n dX11_init_30 0 rfl rfl ?_
  refine rj_bipush (v := 100) dX11_init_31 (by decide) ?_
  refine rt_newa (r := k + 4) [oE 11 [.ref (k + 1), .ref (k + 2), .int 0, .ref (k + 3), .int 0, .null, .int 0, .int 0, .int 0, .int 0, .int 0, .int 0, .null, .int 0, .int 0, .int 0, .null, .null, .null, .null, .null], zA 666, zA 666, zA 7, zA 100] hk hk9 rfl dX11_init_33 (by decide) rfl rfl rfl rfl rfl rfl ?_
  refine rt_putF (c := 0) [oE 11 [.ref (k + 1), .ref (k + 2), .int 0, .ref (k + 3), .int 0, .ref (k + 4), .int 0, .int 0, .int 0, .int 0, .int 0, .int 0, .null, .int 0, .int 0, .int 0, .null, .null, .null, .null, .null], zA 666, zA 666, zA 7, zA 100] hk fl_RX11_19 (ft11_5 _ (fun _ => rfl)) rfl rfl dX11_init_35 rfl rfl rfl rfl (Nat.le_of_ble_eq_true rfl) rfl ?_
  refine rj_aload_n dX11_init_38 0 rfl rfl ?_
  refine rj_bipush (v := 65) dX11_init_39 (by decide) ?_
  refine rt_newa (r := k + 5) [oE 11 [.ref (k + 1), .ref (k + 2), .int 0, .ref (k + 3), .int 0, .ref (k + 4), .int 0, .int 0, .int 0, .int 0, .int 0, .int 0, .null, .int 0, .int 0, .int 0, .null, .null, .null, .null, .null], zA 666, zA 666, zA 7, zA 100, zA 65] hk hk9 rfl dX11_init_41 (by decide) rfl rfl rfl rfl rfl rfl ?_
  refine rt_putF (c := 0) [oE 11 [.ref (k + 1), .ref (k + 2), .int 0, .ref (k + 3), .int 0, .ref (k + 4), .int 0, .int 0, .int 0, .int 0, .int 0, .int 0, .ref (k + 5), .int 0, .int 0, .int 0, .null, .null, .null, .null, .null], zA 666, zA 666, zA 7, zA 100, zA 65] hk fl_RX11_22 (ft11_12 _ (fun _ => rfl)) rfl rfl dX11_init_43 rfl rfl rfl rfl (Nat.le_of_ble_eq_true rfl) rfl ?_
  refine rj_aload_n dX11_init_46 0 rfl rfl ?_
  refine rj_bipush (v := 65) dX11_init_47 (by decide) ?_
  refine rt_newa (r := k + 6) [oE 11 [.ref (k + 1), .ref (k + 2), .int 0, .ref (k + 3), .int 0, .ref (k + 4), .int 0, .int 0, .int 0, .int 0, .int 0, .int 0, .ref (k + 5), .int 0, .int 0, .int 0, .null, .null, .null, .null, .null], zA 666, zA 666, zA 7, zA 100, zA 65, zA 65] hk hk9 rfl dX11_init_49 (by decide) rfl rfl rfl rfl rfl rfl ?_
  refine rt_putF (c := 0) [oE 11 [.ref (k + 1), .ref (k + 2), .int 0, .ref (k + 3), .int 0, .ref (k + 4), .int 0, .int 0, .int 0, .int 0, .int 0, .int 0, .ref (k + 5), .int 0, .int 0, .int 0, .ref (k + 6), .null, .null, .null, .null], zA 666, zA 666, zA 7, zA 100, zA 65, zA 65] hk fl_RX11_25 (ft11_16 _ (fun _ => rfl)) rfl rfl dX11_init_51 rfl rfl rfl rfl (Nat.le_of_ble_eq_true rfl) rfl ?_
  refine rj_aload_n dX11_init_54 0 rfl rfl ?_
  refine rj_sipush (v := 192) dX11_init_55 (by decide) ?_
  refine rt_newa (r := k + 7) [oE 11 [.ref (k + 1), .ref (k + 2), .int 0, .ref (k + 3), .int 0, .ref (k + 4), .int 0, .int 0, .int 0, .int 0, .int 0, .int 0, .ref (k + 5), .int 0, .int 0, .int 0, .ref (k + 6), .null, .null, .null, .null], zA 666, zA 666, zA 7, zA 100, zA 65, zA 65, zA 192] hk hk9 rfl dX11_init_58 (by decide) rfl rfl rfl rfl rfl rfl ?_
  refine rt_putF (c := 0) [oE 11 [.ref (k + 1), .ref (k + 2), .int 0, .ref (k + 3), .int 0, .ref (k + 4), .int 0, .int 0, .int 0, .int 0, .int 0, .int 0, .ref (k + 5), .int 0, .int 0, .int 0, .ref (k + 6), .ref (k + 7), .null, .null, .null], zA 666, zA 666, zA 7, zA 100, zA 65, zA 65, zA 192] hk fl_RX11_28 (ft11_17 _ (fun _ => rfl)) rfl rfl dX11_init_60 rfl rfl rfl rfl (Nat.le_of_ble_eq_true rfl) rfl ?_
  refine rj_aload_n dX11_init_63 0 rfl rfl ?_
  refine rj_iconst (v := 4) dX11_init_64 (by decide) ?_
  refine rt_newa (r := k + 8) [oE 11 [.ref (k + 1), .ref (k + 2), .int 0, .ref (k + 3), .int 0, .ref (k + 4), .int 0, .int 0, .int 0, .int 0, .int 0, .int 0, .ref (k + 5), .int 0, .int 0, .int 0, .ref (k + 6), .ref (k + 7), .null, .null, .null], zA 666, zA 666, zA 7, zA 100, zA 65, zA 65, zA 192, zA 4] hk hk9 rfl dX11_init_65 (by decide) rfl rfl rfl rfl rfl rfl ?_
  refine rt_putF (c := 0) [oE 11 [.ref (k + 1), .ref (k + 2), .int 0, .ref (k + 3), .int 0, .ref (k + 4), .int 0, .int 0, .int 0, .int 0, .int 0, .int 0, .ref (k + 5), .int 0, .int 0, .int 0, .ref (k + 6), .ref (k + 7), .ref (k + 8), .null, .null], zA 666, zA 666, zA 7, zA 100, zA 65, zA 65, zA 192, zA 4] hk fl_RX11_31 (ft11_18 _ (fun _ => rfl)) rfl rfl dX11_init_67 rfl rfl rfl rfl (Nat.le_of_ble_eq_true rfl) rfl ?_
  refine rj_aload_n dX11_init_70 0 rfl rfl ?_
  refine rj_iconst (v := 4) dX11_init_71 (by decide) ?_
  refine rt_newa (r := k + 9) [oE 11 [.ref (k + 1), .ref (k + 2), .int 0, .ref (k + 3), .int 0, .ref (k + 4), .int 0, .int 0, .int 0, .int 0, .int 0, .int 0, .ref (k + 5), .int 0, .int 0, .int 0, .ref (k + 6), .ref (k + 7), .ref (k + 8), .null, .null], zA 666, zA 666, zA 7, zA 100, zA 65, zA 65, zA 192, zA 4, zA 4] hk hk9 rfl dX11_init_72 (by decide) rfl rfl rfl rfl rfl rfl ?_
  refine rt_putF (c := 0) [oE 11 [.ref (k + 1), .ref (k + 2), .int 0, .ref (k + 3), .int 0, .ref (k + 4), .int 0, .int 0, .int 0, .int 0, .int 0, .int 0, .ref (k + 5), .int 0, .int 0, .int 0, .ref (k + 6), .ref (k + 7), .ref (k + 8), .ref (k + 9), .null], zA 666, zA 666, zA 7, zA 100, zA 65, zA 65, zA 192, zA 4, zA 4] hk fl_RX11_34 (ft11_19 _ (fun _ => rfl)) rfl rfl dX11_init_74 rfl rfl rfl rfl (Nat.le_of_ble_eq_true rfl) rfl ?_
  refine rj_aload_n dX11_init_77 0 rfl rfl ?_
  refine rj_sipush (v := 160) dX11_init_78 (by decide) ?_
  refine rt_newa (r := k + 10) [oE 11 [.ref (k + 1), .ref (k + 2), .int 0, .ref (k + 3), .int 0, .ref (k + 4), .int 0, .int 0, .int 0, .int 0, .int 0, .int 0, .ref (k + 5), .int 0, .int 0, .int 0, .ref (k + 6), .ref (k + 7), .ref (k + 8), .ref (k + 9), .null], zA 666, zA 666, zA 7, zA 100, zA 65, zA 65, zA 192, zA 4, zA 4, zA 160] hk hk9 rfl dX11_init_81 (by decide) rfl rfl rfl rfl rfl rfl ?_
  refine rt_putF (c := 0) [oE 11 [.ref (k + 1), .ref (k + 2), .int 0, .ref (k + 3), .int 0, .ref (k + 4), .int 0, .int 0, .int 0, .int 0, .int 0, .int 0, .ref (k + 5), .int 0, .int 0, .int 0, .ref (k + 6), .ref (k + 7), .ref (k + 8), .ref (k + 9), .ref (k + 10)], zA 666, zA 666, zA 7, zA 100, zA 65, zA 65, zA 192, zA 4, zA 4, zA 160] hk fl_RX11_37 (ft11_20 _ (fun _ => rfl)) rfl rfl dX11_init_83 rfl rfl rfl rfl (Nat.le_of_ble_eq_true rfl) rfl ?_
  refine rj_aload_n dX11_init_86 0 rfl rfl ?_
  refine rt_get (c := 0) hk fl_RX11_9 rfl dX11_init_87 rfl rfl rfl ?_
  refine rj_iconst (v := 0) dX11_init_90 (by decide) ?_
  refine rj_iconst (v := 3) dX11_init_91 (by decide) ?_
  refine rt_iast (c := 1) [oE 11 [.ref (k + 1), .ref (k + 2), .int 0, .ref (k + 3), .int 0, .ref (k + 4), .int 0, .int 0, .int 0, .int 0, .int 0, .int 0, .ref (k + 5), .int 0, .int 0, .int 0, .ref (k + 6), .ref (k + 7), .ref (k + 8), .ref (k + 9), .ref (k + 10)], iA 666 (upd (fun _ => 0) 0 3), zA 666, zA 7, zA 100, zA 65, zA 65, zA 192, zA 4, zA 4, zA 160] hk dX11_init_92 rfl rfl (show vp_in (nI 0) 666 from vp_in_nI (by decide) (by decide)) rfl ?_
  refine rj_aload_n dX11_init_93 0 rfl rfl ?_
  refine rt_get (c := 0) hk fl_RX11_9 rfl dX11_init_94 rfl rfl rfl ?_
  refine rj_iconst (v := 2) dX11_init_97 (by decide) ?_
  refine rj_iconst (v := 1) dX11_init_98 (by decide) ?_
  refine rt_iast (c := 1) [oE 11 [.ref (k + 1), .ref (k + 2), .int 0, .ref (k + 3), .int 0, .ref (k + 4), .int 0, .int 0, .int 0, .int 0, .int 0, .int 0, .ref (k + 5), .int 0, .int 0, .int 0, .ref (k + 6), .ref (k + 7), .ref (k + 8), .ref (k + 9), .ref (k + 10)], iA 666 (upd (upd (fun _ => 0) 0 3) 2 1), zA 666, zA 7, zA 100, zA 65, zA 65, zA 192, zA 4, zA 4, zA 160] hk dX11_init_99 rfl rfl (show vp_in (nI 2) 666 from vp_in_nI (by decide) (by decide)) rfl ?_
  refine rj_aload_n dX11_init_100 0 rfl rfl ?_
  refine rt_get (c := 0) hk fl_RX11_9 rfl dX11_init_101 rfl rfl rfl ?_
  refine rj_iconst (v := 3) dX11_init_104 (by decide) ?_
  refine rj_iconst (v := 1) dX11_init_105 (by decide) ?_
  refine rt_iast (c := 1) [oE 11 [.ref (k + 1), .ref (k + 2), .int 0, .ref (k + 3), .int 0, .ref (k + 4), .int 0, .int 0, .int 0, .int 0, .int 0, .int 0, .ref (k + 5), .int 0, .int 0, .int 0, .ref (k + 6), .ref (k + 7), .ref (k + 8), .ref (k + 9), .ref (k + 10)], iA 666 (upd (upd (upd (fun _ => 0) 0 3) 2 1) 3 1), zA 666, zA 7, zA 100, zA 65, zA 65, zA 192, zA 4, zA 4, zA 160] hk dX11_init_106 rfl rfl (show vp_in (nI 3) 666 from vp_in_nI (by decide) (by decide)) rfl ?_
  refine rj_iconst (v := 0) dX11_init_107 (by decide) ?_
  refine rj_istore_n (lv' := [(0, .ref k), (1, .int 0)]) dX11_init_108 rfl (by decide) rfl rfl ?_
  rw [mi1_0]
  exact L1 0 (by omega)
end CTZ
/-- the numbers of the start -/
def M0 : Mem := fun c j => if c = 60 then mi2q 10 j else if c = 19 ∨ c = 36 then -1 else if c = 3 ∨ c = 20 then (if j = 5 then 1 else 0) else if c = 4 ∨ c = 21 ∨ c = 49 then (if j = 2 then 3 else if j = 4 then 1 else 0) else 0
/-- both rows are the start -/
def Lall : List va_E := bX10 0 ++ rX11 59 (mi2q 10)
theorem Lall_len : Lall.length = 70 := rfl
set_option maxRecDepth 100000 in
theorem Lall_sE : ∀ q, q < 70 → sE M0 q = eL Lall q ∨ (∃ l f g, eL Lall q = iA l f ∧ sE M0 q = iA l g ∧ ∀ j, j < l → f j = g j) ∨ (∃ l f g, eL Lall q = .inl (1, l, .inr (.inr (.inr (.inr f)))) ∧ sE M0 q = .inl (1, l, .inr (.inr (.inr (.inr g)))) ∧ ∀ j, j < l → f j = g j) := by
  intro q hq
  match q, hq with
  | 0, _ => exact Or.inl rfl
  | 1, _ => exact Or.inl rfl
  | 2, _ => exact Or.inl rfl
  | 3, _ => exact Or.inl rfl
  | 4, _ => exact Or.inl rfl
  | 5, _ => exact Or.inl rfl
  | 6, _ => exact Or.inl rfl
  | 7, _ => exact Or.inl rfl
  | 8, _ => exact Or.inl rfl
  | 9, _ => exact Or.inl rfl
  | 10, _ => exact Or.inl rfl
  | 11, _ => exact Or.inl rfl
  | 12, _ => exact Or.inl rfl
  | 13, _ => exact Or.inl rfl
  | 14, _ => exact Or.inl rfl
  | 15, _ => exact Or.inl rfl
  | 16, _ => exact Or.inl rfl
  | 17, _ => exact Or.inl rfl
  | 18, _ => exact Or.inl rfl
  | 19, _ => exact Or.inl rfl
  | 20, _ => exact Or.inl rfl
  | 21, _ => exact Or.inl rfl
  | 22, _ => exact Or.inl rfl
  | 23, _ => exact Or.inl rfl
  | 24, _ => exact Or.inl rfl
  | 25, _ => exact Or.inl rfl
  | 26, _ => exact Or.inl rfl
  | 27, _ => exact Or.inl rfl
  | 28, _ => exact Or.inl rfl
  | 29, _ => exact Or.inl rfl
  | 30, _ => exact Or.inl rfl
  | 31, _ => exact Or.inl rfl
  | 32, _ => exact Or.inl rfl
  | 33, _ => exact Or.inl rfl
  | 34, _ => exact Or.inl rfl
  | 35, _ => exact Or.inl rfl
  | 36, _ => exact Or.inl rfl
  | 37, _ => exact Or.inl rfl
  | 38, _ => exact Or.inl rfl
  | 39, _ => exact Or.inl rfl
  | 40, _ => exact Or.inr (Or.inr ⟨4, _, _, rfl, rfl, fun j hj => by
      match j, hj with
      | 0, _ => rfl
      | 1, _ => rfl
      | 2, _ => rfl
      | 3, _ => rfl
      | j + 4, h => exact absurd h (by omega)⟩)
  | 41, _ => exact Or.inl rfl
  | 42, _ => exact Or.inl rfl
  | 43, _ => exact Or.inl rfl
  | 44, _ => exact Or.inl rfl
  | 45, _ => exact Or.inl rfl
  | 46, _ => exact Or.inl rfl
  | 47, _ => exact Or.inl rfl
  | 48, _ => exact Or.inl rfl
  | 49, _ => exact Or.inl rfl
  | 50, _ => exact Or.inl rfl
  | 51, _ => exact Or.inl rfl
  | 52, _ => exact Or.inl rfl
  | 53, _ => exact Or.inl rfl
  | 54, _ => exact Or.inl rfl
  | 55, _ => exact Or.inl rfl
  | 56, _ => exact Or.inl rfl
  | 57, _ => exact Or.inl rfl
  | 58, _ => exact Or.inl rfl
  | 59, _ => exact Or.inl rfl
  | 60, _ => exact Or.inl rfl
  | 61, _ => exact Or.inl rfl
  | 62, _ => exact Or.inl rfl
  | 63, _ => exact Or.inl rfl
  | 64, _ => exact Or.inl rfl
  | 65, _ => exact Or.inl rfl
  | 66, _ => exact Or.inl rfl
  | 67, _ => exact Or.inl rfl
  | 68, _ => exact Or.inl rfl
  | 69, _ => exact Or.inl rfl
  | q + 70, h => exact absurd h (by omega)
theorem mi2q_d {k : Nat} (h : k < 192) : mi2q 10 (18 + k) = 0 := by unfold mi2q mi1; rw [if_neg (by omega), if_neg (by omega), if_neg (by omega), if_neg (by omega)]
theorem mi2q_w {k : Nat} (h : k < 192) : mi2q 10 (210 + k) = 0 := by unfold mi2q mi1; rw [if_neg (by omega), if_neg (by omega), if_neg (by omega), if_neg (by omega)]
theorem mi2q_h {k : Nat} (h : k < 12) : mi2q 10 (6 + k) = 0 := by unfold mi2q mi1; rw [if_neg (by omega), if_neg (by omega), if_neg (by omega), if_neg (by omega)]
theorem mi2q_r {d : Nat} (h : d < 8) : mi2q 10 (402 + 4 * d) = -1 := by unfold mi2q mi1; rw [if_neg (by omega), if_neg (by omega), if_neg (by omega), if_pos (by omega)]
theorem mi2q_s {k : Nat} (h : k < 10) : mi2q 10 (656 + k) = -1 := by unfold mi2q; rw [if_pos (by omega)]
theorem INV_M0 : INV M0 := by
  refine ⟨SR_cR.mpr ?_, ⟨rfl, Or.inl rfl, fun h => absurd rfl h⟩, fun k _ => rfl, ⟨0, by omega, rfl, rfl, fun j hj => absurd hj (by omega)⟩, ?_, rfl⟩
  · refine ⟨fun k hk => ?_, fun k hk => ?_, ⟨⟨rfl, by decide, by decide⟩, ⟨rfl, by decide, by decide⟩, ⟨rfl, by decide, by decide⟩⟩, ⟨rfl, rfl⟩, fun k hk => ?_, fun d hd => ?_, ?_, fun k hk => ?_⟩
    · show (0 : Int32) = mi2q 10 (18 + k) ∧ 0 ≤ mi2q 10 (18 + k) ∧ mi2q 10 (18 + k) ≤ 9
      rw [mi2q_d hk]; decide
    · show (0 : Int32) = mi2q 10 (210 + k) ∧ 0 ≤ mi2q 10 (210 + k) ∧ mi2q 10 (210 + k) ≤ 99
      rw [mi2q_w hk]; decide
    · show (0 : Int32) = mi2q 10 (6 + k)
      rw [mi2q_h hk]
    · exact Or.inl ⟨rfl, mi2q_r hd⟩
    · exact ⟨0, by omega, rfl, rfl, fun p hp => absurd hp (by omega)⟩
    · show (-1 : Int32) = mi2q 10 (656 + k) ∧ (-1 : Int32) ≤ -1 ∧ (-1 : Int32) ≤ 7
      rw [mi2q_s hk]; decide
  · intro s hs
    have : s = 0 ∨ s = 1 ∨ s = 2 ∨ s = 3 := by omega
    rcases this with rfl | rfl | rfl | rfl <;> exact ⟨rfl, Or.inl rfl, rfl, ⟨0, by omega, rfl⟩, fun i _ => rfl⟩

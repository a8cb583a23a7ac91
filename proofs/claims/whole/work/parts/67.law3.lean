section LAWL
variable {w : Wd} {nm : String} {ce sl : Nat}
theorem law_sw (hL : wL w ≤ 3072) (hf : ce ≤ 600000 ∧ sl ≤ 7302250) {i : Nat} {M : Mem} (hi : i + 6 ≤ wL w) (hI : INV M) (kk : ∀ M', INV M' → RS w room_1 (kL nm) ce sl 1538 [(0, .ref 1000), (1, .ref 0), (2, .ref 59), (3, .int (nI i))] [] M' (LF w)) {j : Nat} (hj : j < 64) : RS w room_1 (kL nm) ce sl 33 [(0, .ref 1000), (1, .ref 0), (2, .ref 59), (3, .int (nI i))] [.int (nI j)] M (LF w) := by
  match j, hj with
  | 0, _ => exact rj_tableIn (off := 183) (tgt := 216) dL_law_33 (by decide) (by decide) rfl (by decide) (lc_0 hL hi hf hI kk)
  | 1, _ => exact rj_tableIn (off := 216) (tgt := 249) dL_law_33 (by decide) (by decide) rfl (by decide) (lc_1 hL hi hf hI kk)
  | 2, _ => exact rj_tableIn (off := 249) (tgt := 282) dL_law_33 (by decide) (by decide) rfl (by decide) (lc_2 hL hi hf hI kk)
  | 3, _ => exact rj_tableIn (off := 282) (tgt := 315) dL_law_33 (by decide) (by decide) rfl (by decide) (lc_3 hL hi hf hI kk)
  | 4, _ => exact rj_tableIn (off := 305) (tgt := 338) dL_law_33 (by decide) (by decide) rfl (by decide) (lc_4 hL hi hf hI kk)
  | 5, _ => exact rj_tableIn (off := 328) (tgt := 361) dL_law_33 (by decide) (by decide) rfl (by decide) (lc_5 hL hi hf hI kk)
  | 6, _ => exact rj_tableIn (off := 351) (tgt := 384) dL_law_33 (by decide) (by decide) rfl (by decide) (lc_6 hL hi hf hI kk)
  | 7, _ => exact rj_tableIn (off := 374) (tgt := 407) dL_law_33 (by decide) (by decide) rfl (by decide) (lc_7 hL hi hf hI kk)
  | 8, _ => exact rj_tableIn (off := 417) (tgt := 450) dL_law_33 (by decide) (by decide) rfl (by decide) (lc_8 hL hi hf hI kk)
  | 9, _ => exact rj_tableIn (off := 450) (tgt := 483) dL_law_33 (by decide) (by decide) rfl (by decide) (lc_9 hL hi hf hI kk)
  | 10, _ => exact rj_tableIn (off := 473) (tgt := 506) dL_law_33 (by decide) (by decide) rfl (by decide) (lc_10 hL hi hf hI kk)
  | 11, _ => exact rj_tableIn (off := 496) (tgt := 529) dL_law_33 (by decide) (by decide) rfl (by decide) (lc_11 hL hi hf hI kk)
  | 12, _ => exact rj_tableIn (off := 529) (tgt := 562) dL_law_33 (by decide) (by decide) rfl (by decide) (lc_12 hL hi hf hI kk)
  | 13, _ => exact rj_tableIn (off := 552) (tgt := 585) dL_law_33 (by decide) (by decide) rfl (by decide) (lc_13 hL hi hf hI kk)
  | 14, _ => exact rj_tableIn (off := 585) (tgt := 618) dL_law_33 (by decide) (by decide) rfl (by decide) (lc_14 hL hi hf hI kk)
  | 15, _ => exact rj_tableIn (off := 598) (tgt := 631) dL_law_33 (by decide) (by decide) rfl (by decide) (lc_15 hL hi hf hI kk)
  | 16, _ => exact rj_tableIn (off := 611) (tgt := 644) dL_law_33 (by decide) (by decide) rfl (by decide) (lc_16 hL hi hf hI kk)
  | 17, _ => exact rj_tableIn (off := 644) (tgt := 677) dL_law_33 (by decide) (by decide) rfl (by decide) (lc_17 hL hi hf hI kk)
  | 18, _ => exact rj_tableIn (off := 667) (tgt := 700) dL_law_33 (by decide) (by decide) rfl (by decide) (lc_18 hL hi hf hI kk)
  | 19, _ => exact rj_tableIn (off := 720) (tgt := 753) dL_law_33 (by decide) (by decide) rfl (by decide) (lc_19 hL hi hf hI kk)
  | 20, _ => exact rj_tableIn (off := 773) (tgt := 806) dL_law_33 (by decide) (by decide) rfl (by decide) (lc_20 hL hi hf hI kk)
  | 21, _ => exact rj_tableIn (off := 832) (tgt := 865) dL_law_33 (by decide) (by decide) rfl (by decide) (lc_21 hL hi hf hI kk)
  | 22, _ => exact rj_tableIn (off := 875) (tgt := 908) dL_law_33 (by decide) (by decide) rfl (by decide) (lc_22 hL hi hf hI kk)
  | 23, _ => exact rj_tableIn (off := 908) (tgt := 941) dL_law_33 (by decide) (by decide) rfl (by decide) (lc_23 hL hi hf hI kk)
  | 24, _ => exact rj_tableIn (off := 951) (tgt := 984) dL_law_33 (by decide) (by decide) rfl (by decide) (lc_24 hL hi hf hI kk)
  | 25, _ => exact rj_tableIn (off := 1004) (tgt := 1037) dL_law_33 (by decide) (by decide) rfl (by decide) (lc_25 hL hi hf hI kk)
  | 26, _ => exact rj_tableIn (off := 1047) (tgt := 1080) dL_law_33 (by decide) (by decide) rfl (by decide) (lc_26 hL hi hf hI kk)
  | 27, _ => exact rj_tableIn (off := 1070) (tgt := 1103) dL_law_33 (by decide) (by decide) rfl (by decide) (lc_27 hL hi hf hI kk)
  | 28, _ => exact rj_tableIn (off := 1083) (tgt := 1116) dL_law_33 (by decide) (by decide) rfl (by decide) (lc_28 hL hi hf hI kk)
  | 29, _ => exact rj_tableIn (off := 1116) (tgt := 1149) dL_law_33 (by decide) (by decide) rfl (by decide) (lc_29 hL hi hf hI kk)
  | 30, _ => exact rj_tableIn (off := 1139) (tgt := 1172) dL_law_33 (by decide) (by decide) rfl (by decide) (lc_30 hL hi hf hI kk)
  | 31, _ => exact rj_tableIn (off := 1172) (tgt := 1205) dL_law_33 (by decide) (by decide) rfl (by decide) (lc_31 hL hi hf hI kk)
  | 32, _ => exact rj_tableIn (off := 1205) (tgt := 1238) dL_law_33 (by decide) (by decide) rfl (by decide) (lc_32 hL hi hf hI kk)
  | 33, _ => exact rj_tableIn (off := 1248) (tgt := 1281) dL_law_33 (by decide) (by decide) rfl (by decide) (lc_33 hL hi hf hI kk)
  | 34, _ => exact rj_tableIn (off := 1291) (tgt := 1324) dL_law_33 (by decide) (by decide) rfl (by decide) (lc_34 hL hi hf hI kk)
  | 35, _ => exact rj_tableIn (off := 1354) (tgt := 1387) dL_law_33 (by decide) (by decide) rfl (by decide) (lc_35 hL hi hf hI kk)
  | 36, _ => exact rj_tableIn (off := 1387) (tgt := 1420) dL_law_33 (by decide) (by decide) rfl (by decide) (lc_36 hL hi hf hI kk)
  | 37, _ => exact rj_tableIn (off := 1420) (tgt := 1453) dL_law_33 (by decide) (by decide) rfl (by decide) (lc_37 hL hi hf hI kk)
  | 38, _ => exact rj_tableIn (off := 1433) (tgt := 1466) dL_law_33 (by decide) (by decide) rfl (by decide) (lc_38 hL hi hf hI kk)
  | 39, _ => exact rj_tableIn (off := 1446) (tgt := 1479) dL_law_33 (by decide) (by decide) rfl (by decide) (lc_39 hL hi hf hI kk)
  | 40, _ => exact rj_tableIn (off := 1459) (tgt := 1492) dL_law_33 (by decide) (by decide) rfl (by decide) (lc_40 hL hi hf hI kk)
  | 41, _ => exact rj_tableIn (off := 1482) (tgt := 1515) dL_law_33 (by decide) (by decide) rfl (by decide) (lc_41 hL hi hf hI kk)
  | j + 42, h =>
    exact rj_tableOut (tgt := 1538) dL_law_33 (Or.inr (by rw [nI_toInt (by omega)]; omega)) (by decide) (kk M hI)
theorem law_loop (hL : wL w ≤ 3072) (hf : ce ≤ 600000 ∧ sl ≤ 7302250) : ∀ d i, wL w ≤ i + d → i ≤ 3100 → ∀ M, INV M → RS w room_1 (kL nm) ce sl 18 [(0, .ref 1000), (1, .ref 0), (2, .ref 59), (3, .int (nI i))] [] M (LF w) := by
  have fin : ∀ i, i ≤ 3100 → wL w < i + 6 → ∀ M, RS w room_1 (kL nm) ce sl 18 [(0, .ref 1000), (1, .ref 0), (2, .ref 59), (3, .int (nI i))] [] M (LF w) := by
    intro i hi hc M
    refine rj_iload_n dL_law_18 3 rfl rfl ?_
    refine rj_aload_n dL_law_19 0 rfl rfl ?_
    refine rj_slen dL_law_20 ?_
    refine rj_bipush (v := 6) dL_law_21 (by decide) ?_
    refine rj_isub dL_law_23 ?_
    refine rj_icmp_gt (tgt := 1544) dL_law_24 (by decide) (fun _ => ?_) (fun q => absurd ?_ q)
    · refine rj_iconst (v := 1) dL_law_1544 (by decide) ?_
      exact rj_lret hf.1 hf.2
    · rw [Int32.lt_iff_toInt_lt]
      have e : (nI (wL w) - nI 6).toInt = ((wL w : Nat) : Int) - 6 := pk_sub_toInt (by omega) (by decide)
      show (nI (wL w) - nI 6).toInt < (nI i).toInt
      rw [e, nI_toInt (by omega)]; omega
  intro d
  induction d with
  | zero =>
    intro i hi h31 M hI
    exact fin i h31 (by omega) M
  | succ d ih =>
    intro i hi h31 M hI
    rcases Nat.lt_or_ge (wL w) (i + 6) with hc | hc
    · exact fin i h31 hc M
    · refine rj_iload_n dL_law_18 3 rfl rfl ?_
      refine rj_aload_n dL_law_19 0 rfl rfl ?_
      refine rj_slen dL_law_20 ?_
      refine rj_bipush (v := 6) dL_law_21 (by decide) ?_
      refine rj_isub dL_law_23 ?_
      refine rj_icmp_gt (tgt := 1544) dL_law_24 (by decide) (fun q => absurd q ?_) (fun _ => ?_)
      · rw [Int32.lt_iff_toInt_lt]
        have e : (nI (wL w) - nI 6).toInt = ((wL w : Nat) : Int) - 6 := pk_sub_toInt (by omega) (by decide)
        show ¬ (nI (wL w) - nI 6).toInt < (nI i).toInt
        rw [e, nI_toInt (by omega)]; omega
      · refine rj_aload_n dL_law_27 0 rfl rfl ?_
        refine rj_iload_n dL_law_28 3 rfl rfl ?_
        refine rj_sld dL_law_29 (vp_in_nI (by omega) (by omega)) ?_
        refine rj_bipush (v := 63) dL_law_30 (by decide) ?_
        refine rj_iand dL_law_32 ?_
        obtain ⟨j, hj, ej⟩ := pk_andE (wS w (nI i).toNatClampNeg) (m := 63) 6 (by decide)
        rw [ej]
        refine law_sw hL hf hc hI (fun M' hI' => ?_) hj
        refine rj_iinc (v := nI (i + 6)) (lv' := [(0, .ref 1000), (1, .ref 0), (2, .ref 59), (3, .int (nI (i + 6)))]) dL_law_1538 3 rfl (nI_add i 6) (Nat.le_of_ble_eq_true rfl) rfl rfl ?_
        refine rj_goto (tgt := 18) dL_law_1541 (by decide) ?_
        exact ih (i + 6) (by omega) (by omega) M' hI'
set_option maxRecDepth 100000 in
set_option maxHeartbeats 4000000 in
theorem law_walk (hL : wL w ≤ 3072) : RJ w room_1 (kL nm) 0 0 0 [(0, .ref 1000)] [] 0 (eL ([] ++ [])) (LF w) := by
  have hk : ([] : List va_E).length = 0 := rfl
  have h9 : (0 : Nat) < 900 := by decide
  refine rt_new (k := 0) (pre := []) (T := []) (r := 0) dfX10 [oE 10 dfX10] hk h9 rfl rfl clX10 dfX10_ok rfl kk_RL_7 in_X10 iz_X10 dL_law_0 rfl rfl rfl rfl ?_
  refine rj_dup dL_law_3 rfl ?_
  refine rt_callI (mi2 := kX10_init) (r := 0) (As := []) (rest := [.ref 0]) [] (bX10 0) hk h9 rfl rfl ml_RL_9 mcX10_init dL_law_4 rfl rfl rfl (Nat.le_of_ble_eq_true rfl) ⟨Nat.le_of_ble_eq_true rfl, Nat.le_of_ble_eq_true rfl⟩ rfl rfl (ctX10 (h := 0) (k := 0) (by decide)) rfl rfl ?_
  refine rj_astore_n (lv' := [(0, .ref 1000), (1, .ref 0)]) dL_law_7 rfl (Nat.le_of_ble_eq_true rfl) rfl rfl ?_
  refine rt_new (k := 0) (pre := []) (T := bX10 0) (r := 59) dfX11 (bX10 0 ++ [oE 11 dfX11]) hk h9 rfl rfl clX11 dfX11_ok rfl kk_RL_10 in_X11 iz_X11 dL_law_8 rfl rfl rfl rfl ?_
  refine rj_dup dL_law_11 rfl ?_
  refine rt_callI (mi2 := kX11_init) (r := 59) (As := []) (rest := [.ref 59]) (bX10 0) Lall hk h9 rfl rfl ml_RL_12 mcX11_init dL_law_12 rfl rfl rfl (Nat.le_of_ble_eq_true rfl) ⟨Nat.le_of_ble_eq_true rfl, Nat.le_of_ble_eq_true rfl⟩ rfl rfl (ctX11 (h := 2) (k := 59) (by decide)) rfl rfl ?_
  refine rj_astore_n (lv' := [(0, .ref 1000), (1, .ref 0), (2, .ref 59)]) dL_law_15 rfl (Nat.le_of_ble_eq_true rfl) rfl rfl ?_
  refine rj_iconst (v := 0) dL_law_16 (by decide) ?_
  refine rj_istore_n (lv' := [(0, .ref 1000), (1, .ref 0), (2, .ref 59), (3, .int 0)]) dL_law_17 rfl (Nat.le_of_ble_eq_true rfl) rfl rfl ?_
  refine rj_co (es' := sE M0) Lall_sE ?_
  exact law_loop hL ⟨Nat.le_of_ble_eq_true rfl, Nat.le_of_ble_eq_true rfl⟩ (wL w) 0 (by omega) (by omega) M0 INV_M0
end LAWL

/-! ===== the constructors ===== -/
abbrev dfX0 : List Value := [.null, .null, .null, .null]
theorem dfX0_ok : ∀ j, j < 4 → ∀ ty, parseFieldDescriptor (TX0 j).2.2.1 = some ty → dfX0[j]? = some (defaultValue ty) := by
  intro j hj ty h
  have h2 := tyX0_ok j hj
  have e : ty = tyX0 j := Option.some.inj (h.symm.trans h2)
  subst e
  match j, hj with
  | 0, _ => rfl
  | 1, _ => rfl
  | 2, _ => rfl
  | 3, _ => rfl
  | q + 4, hq => exact absurd hq (by omega)
abbrev dfX1 : List Value := [.null]
theorem dfX1_ok : ∀ j, j < 1 → ∀ ty, parseFieldDescriptor (TX1 j).2.2.1 = some ty → dfX1[j]? = some (defaultValue ty) := by
  intro j hj ty h
  have h2 := tyX1_ok j hj
  have e : ty = tyX1 j := Option.some.inj (h.symm.trans h2)
  subst e
  match j, hj with
  | 0, _ => rfl
  | q + 1, hq => exact absurd hq (by omega)
abbrev dfX2 : List Value := [.null, .null, .int 0, .int 0, .int 0, .null]
theorem dfX2_ok : ∀ j, j < 6 → ∀ ty, parseFieldDescriptor (TX2 j).2.2.1 = some ty → dfX2[j]? = some (defaultValue ty) := by
  intro j hj ty h
  have h2 := tyX2_ok j hj
  have e : ty = tyX2 j := Option.some.inj (h.symm.trans h2)
  subst e
  match j, hj with
  | 0, _ => rfl
  | 1, _ => rfl
  | 2, _ => rfl
  | 3, _ => rfl
  | 4, _ => rfl
  | 5, _ => rfl
  | q + 6, hq => exact absurd hq (by omega)
abbrev dfX3 : List Value := [.int 0, .null, .null, .null, .null]
theorem dfX3_ok : ∀ j, j < 5 → ∀ ty, parseFieldDescriptor (TX3 j).2.2.1 = some ty → dfX3[j]? = some (defaultValue ty) := by
  intro j hj ty h
  have h2 := tyX3_ok j hj
  have e : ty = tyX3 j := Option.some.inj (h.symm.trans h2)
  subst e
  match j, hj with
  | 0, _ => rfl
  | 1, _ => rfl
  | 2, _ => rfl
  | 3, _ => rfl
  | 4, _ => rfl
  | q + 5, hq => exact absurd hq (by omega)
abbrev dfX4 : List Value := [.null, .int 0, .int 0, .int 0, .int 0]
theorem dfX4_ok : ∀ j, j < 5 → ∀ ty, parseFieldDescriptor (TX4 j).2.2.1 = some ty → dfX4[j]? = some (defaultValue ty) := by
  intro j hj ty h
  have h2 := tyX4_ok j hj
  have e : ty = tyX4 j := Option.some.inj (h.symm.trans h2)
  subst e
  match j, hj with
  | 0, _ => rfl
  | 1, _ => rfl
  | 2, _ => rfl
  | 3, _ => rfl
  | 4, _ => rfl
  | q + 5, hq => exact absurd hq (by omega)
abbrev dfX5 : List Value := [.null, .null, .null, .null, .null, .int 0, .int 0]
theorem dfX5_ok : ∀ j, j < 7 → ∀ ty, parseFieldDescriptor (TX5 j).2.2.1 = some ty → dfX5[j]? = some (defaultValue ty) := by
  intro j hj ty h
  have h2 := tyX5_ok j hj
  have e : ty = tyX5 j := Option.some.inj (h.symm.trans h2)
  subst e
  match j, hj with
  | 0, _ => rfl
  | 1, _ => rfl
  | 2, _ => rfl
  | 3, _ => rfl
  | 4, _ => rfl
  | 5, _ => rfl
  | 6, _ => rfl
  | q + 7, hq => exact absurd hq (by omega)
abbrev dfX6 : List Value := [.int 0, .int 0, .null]
theorem dfX6_ok : ∀ j, j < 3 → ∀ ty, parseFieldDescriptor (TX6 j).2.2.1 = some ty → dfX6[j]? = some (defaultValue ty) := by
  intro j hj ty h
  have h2 := tyX6_ok j hj
  have e : ty = tyX6 j := Option.some.inj (h.symm.trans h2)
  subst e
  match j, hj with
  | 0, _ => rfl
  | 1, _ => rfl
  | 2, _ => rfl
  | q + 3, hq => exact absurd hq (by omega)
abbrev dfX7 : List Value := [.null, .int 0]
theorem dfX7_ok : ∀ j, j < 2 → ∀ ty, parseFieldDescriptor (TX7 j).2.2.1 = some ty → dfX7[j]? = some (defaultValue ty) := by
  intro j hj ty h
  have h2 := tyX7_ok j hj
  have e : ty = tyX7 j := Option.some.inj (h.symm.trans h2)
  subst e
  match j, hj with
  | 0, _ => rfl
  | 1, _ => rfl
  | q + 2, hq => exact absurd hq (by omega)
abbrev dfX8 : List Value := [.null, .int 0, .int 0, .int 0]
theorem dfX8_ok : ∀ j, j < 4 → ∀ ty, parseFieldDescriptor (TX8 j).2.2.1 = some ty → dfX8[j]? = some (defaultValue ty) := by
  intro j hj ty h
  have h2 := tyX8_ok j hj
  have e : ty = tyX8 j := Option.some.inj (h.symm.trans h2)
  subst e
  match j, hj with
  | 0, _ => rfl
  | 1, _ => rfl
  | 2, _ => rfl
  | 3, _ => rfl
  | q + 4, hq => exact absurd hq (by omega)
abbrev dfX9 : List Value := [.null]
theorem dfX9_ok : ∀ j, j < 1 → ∀ ty, parseFieldDescriptor (TX9 j).2.2.1 = some ty → dfX9[j]? = some (defaultValue ty) := by
  intro j hj ty h
  have h2 := tyX9_ok j hj
  have e : ty = tyX9 j := Option.some.inj (h.symm.trans h2)
  subst e
  match j, hj with
  | 0, _ => rfl
  | q + 1, hq => exact absurd hq (by omega)
abbrev dfX10 : List Value := [.null, .null, .null, .int 0, .null, .null, .null, .null, .null, .null, .null]
theorem dfX10_ok : ∀ j, j < 11 → ∀ ty, parseFieldDescriptor (TX10 j).2.2.1 = some ty → dfX10[j]? = some (defaultValue ty) := by
  intro j hj ty h
  have h2 := tyX10_ok j hj
  have e : ty = tyX10 j := Option.some.inj (h.symm.trans h2)
  subst e
  match j, hj with
  | 0, _ => rfl
  | 1, _ => rfl
  | 2, _ => rfl
  | 3, _ => rfl
  | 4, _ => rfl
  | 5, _ => rfl
  | 6, _ => rfl
  | 7, _ => rfl
  | 8, _ => rfl
  | 9, _ => rfl
  | 10, _ => rfl
  | q + 11, hq => exact absurd hq (by omega)
abbrev dfX11 : List Value := [.null, .null, .int 0, .null, .int 0, .null, .int 0, .int 0, .int 0, .int 0, .int 0, .int 0, .null, .int 0, .int 0, .int 0, .null, .null, .null, .null, .null]
theorem dfX11_ok : ∀ j, j < 21 → ∀ ty, parseFieldDescriptor (TX11 j).2.2.1 = some ty → dfX11[j]? = some (defaultValue ty) := by
  intro j hj ty h
  have h2 := tyX11_ok j hj
  have e : ty = tyX11 j := Option.some.inj (h.symm.trans h2)
  subst e
  match j, hj with
  | 0, _ => rfl
  | 1, _ => rfl
  | 2, _ => rfl
  | 3, _ => rfl
  | 4, _ => rfl
  | 5, _ => rfl
  | 6, _ => rfl
  | 7, _ => rfl
  | 8, _ => rfl
  | 9, _ => rfl
  | 10, _ => rfl
  | 11, _ => rfl
  | 12, _ => rfl
  | 13, _ => rfl
  | 14, _ => rfl
  | 15, _ => rfl
  | 16, _ => rfl
  | 17, _ => rfl
  | 18, _ => rfl
  | 19, _ => rfl
  | 20, _ => rfl
  | q + 21, hq => exact absurd hq (by omega)
section CTX
variable {w : Wd} {h k : Nat}
abbrev bX0 (k : Nat) : List va_E := [oE 0 [.ref (k + 1), .ref (k + 2), .ref (k + 3), .ref (k + 4)], zA 8, zA 8, zA 8, zA 8]
set_option maxRecDepth 100000 in
set_option maxHeartbeats 4000000 in
theorem ctX0 (hk9 : k < 900) : CT w (h + 1) kX0_init 4 32 k [] (oE 0 dfX0) (bX0 k) := by
  refine ct_of (by decide) (Nat.le_of_ble_eq_true rfl) (fun pre hk => ?_)
  refine rj_aload_n dX0_init_0 0 rfl rfl ?_
  refine rj_objInit rfl ml_RX0_3 oi_i oi_c dX0_init_1 (Nat.lt_trans hk9 (by decide)) (Nat.succ_le_succ (Nat.zero_le _)) rmO ?_
  refine rj_aload_n dX0_init_4 0 rfl rfl ?_
  refine rj_bipush (v := 8) dX0_init_5 (by decide) ?_
  refine rt_newa (r := k + 1) [oE 0 [.null, .null, .null, .null], zA 8] hk hk9 rfl dX0_init_7 (by decide) rfl rfl rfl rfl rfl rfl ?_
  refine rt_putF (c := 0) [oE 0 [.ref (k + 1), .null, .null, .null], zA 8] hk fl_RX0_9 (ft0_0 _ (fun _ => rfl)) rfl rfl dX0_init_9 rfl rfl rfl rfl (Nat.le_of_ble_eq_true rfl) rfl ?_
  refine rj_aload_n dX0_init_12 0 rfl rfl ?_
  refine rj_bipush (v := 8) dX0_init_13 (by decide) ?_
  refine rt_newa (r := k + 2) [oE 0 [.ref (k + 1), .null, .null, .null], zA 8, zA 8] hk hk9 rfl dX0_init_15 (by decide) rfl rfl rfl rfl rfl rfl ?_
  refine rt_putF (c := 0) [oE 0 [.ref (k + 1), .ref (k + 2), .null, .null], zA 8, zA 8] hk fl_RX0_15 (ft0_1 _ (fun _ => rfl)) rfl rfl dX0_init_17 rfl rfl rfl rfl (Nat.le_of_ble_eq_true rfl) rfl ?_
  refine rj_aload_n dX0_init_20 0 rfl rfl ?_
  refine rj_bipush (v := 8) dX0_init_21 (by decide) ?_
  refine rt_newa (r := k + 3) [oE 0 [.ref (k + 1), .ref (k + 2), .null, .null], zA 8, zA 8, zA 8] hk hk9 rfl dX0_init_23 (by decide) rfl rfl rfl rfl rfl rfl ?_
  refine rt_putF (c := 0) [oE 0 [.ref (k + 1), .ref (k + 2), .ref (k + 3), .null], zA 8, zA 8, zA 8] hk fl_RX0_18 (ft0_2 _ (fun _ => rfl)) rfl rfl dX0_init_25 rfl rfl rfl rfl (Nat.le_of_ble_eq_true rfl) rfl ?_
  refine rj_aload_n dX0_init_28 0 rfl rfl ?_
  refine rj_bipush (v := 8) dX0_init_29 (by decide) ?_
  refine rt_newa (r := k + 4) [oE 0 [.ref (k + 1), .ref (k + 2), .ref (k + 3), .null], zA 8, zA 8, zA 8, zA 8] hk hk9 rfl dX0_init_31 (by decide) rfl rfl rfl rfl rfl rfl ?_
  refine rt_putF (c := 0) [oE 0 [.ref (k + 1), .ref (k + 2), .ref (k + 3), .ref (k + 4)], zA 8, zA 8, zA 8, zA 8] hk fl_RX0_21 (ft0_3 _ (fun _ => rfl)) rfl rfl dX0_init_33 rfl rfl rfl rfl (Nat.le_of_ble_eq_true rfl) rfl ?_
  exact rj_vret dX0_init_36 rfl (Nat.le_of_ble_eq_true rfl) (Nat.le_of_ble_eq_true rfl) ⟨rfl, rfl, rfl⟩
abbrev bX1 (k : Nat) : List va_E := [oE 1 [.ref (k + 1)], zA 7]
set_option maxRecDepth 100000 in
set_option maxHeartbeats 4000000 in
theorem ctX1 (hk9 : k < 900) : CT w (h + 1) kX1_init 1 7 k [] (oE 1 dfX1) (bX1 k) := by
  refine ct_of (by decide) (Nat.le_of_ble_eq_true rfl) (fun pre hk => ?_)
  refine rj_aload_n dX1_init_0 0 rfl rfl ?_
  refine rj_objInit rfl ml_RX1_3 oi_i oi_c dX1_init_1 (Nat.lt_trans hk9 (by decide)) (Nat.succ_le_succ (Nat.zero_le _)) rmO ?_
  refine rj_aload_n dX1_init_4 0 rfl rfl ?_
  refine rj_bipush (v := 7) dX1_init_5 (by decide) ?_
  refine rt_newa (r := k + 1) [oE 1 [.null], zA 7] hk hk9 rfl dX1_init_7 (by decide) rfl rfl rfl rfl rfl rfl ?_
  refine rt_putF (c := 0) [oE 1 [.ref (k + 1)], zA 7] hk fl_RX1_9 (ft1_0 _ (fun _ => rfl)) rfl rfl dX1_init_9 rfl rfl rfl rfl (Nat.le_of_ble_eq_true rfl) rfl ?_
  exact rj_vret dX1_init_12 rfl (Nat.le_of_ble_eq_true rfl) (Nat.le_of_ble_eq_true rfl) ⟨rfl, rfl, rfl⟩
abbrev bX2 (k : Nat) : List va_E := [oE 2 [.ref (k + 1), .ref (k + 2), .int 3, .int 0, .int 1, .ref (k + 3)], zA 192, zA 192, zA 3]
set_option maxRecDepth 100000 in
set_option maxHeartbeats 4000000 in
theorem ctX2 (hk9 : k < 900) : CT w (h + 1) kX2_init 3 387 k [] (oE 2 dfX2) (bX2 k) := by
  refine ct_of (by decide) (Nat.le_of_ble_eq_true rfl) (fun pre hk => ?_)
  refine rj_aload_n dX2_init_0 0 rfl rfl ?_
  refine rj_objInit rfl ml_RX2_3 oi_i oi_c dX2_init_1 (Nat.lt_trans hk9 (by decide)) (Nat.succ_le_succ (Nat.zero_le _)) rmO ?_
  refine rj_aload_n dX2_init_4 0 rfl rfl ?_
  refine rj_sipush (v := 192) dX2_init_5 (by decide) ?_
  refine rt_newa (r := k + 1) [oE 2 [.null, .null, .int 0, .int 0, .int 0, .null], zA 192] hk hk9 rfl dX2_init_8 (by decide) rfl rfl rfl rfl rfl rfl ?_
  refine rt_putF (c := 0) [oE 2 [.ref (k + 1), .null, .int 0, .int 0, .int 0, .null], zA 192] hk fl_RX2_9 (ft2_0 _ (fun _ => rfl)) rfl rfl dX2_init_10 rfl rfl rfl rfl (Nat.le_of_ble_eq_true rfl) rfl ?_
  refine rj_aload_n dX2_init_13 0 rfl rfl ?_
  refine rj_sipush (v := 192) dX2_init_14 (by decide) ?_
  refine rt_newa (r := k + 2) [oE 2 [.ref (k + 1), .null, .int 0, .int 0, .int 0, .null], zA 192, zA 192] hk hk9 rfl dX2_init_17 (by decide) rfl rfl rfl rfl rfl rfl ?_
  refine rt_putF (c := 0) [oE 2 [.ref (k + 1), .ref (k + 2), .int 0, .int 0, .int 0, .null], zA 192, zA 192] hk fl_RX2_15 (ft2_1 _ (fun _ => rfl)) rfl rfl dX2_init_19 rfl rfl rfl rfl (Nat.le_of_ble_eq_true rfl) rfl ?_
  refine rj_aload_n dX2_init_22 0 rfl rfl ?_
  refine rj_iconst (v := 3) dX2_init_23 (by decide) ?_
  refine rt_put (c := 0) [oE 2 [.ref (k + 1), .ref (k + 2), .int 3, .int 0, .int 0, .null], zA 192, zA 192] hk fl_RX2_18 (ft2_2 _ nofun) rfl dX2_init_24 rfl rfl rfl rfl (Nat.le_of_ble_eq_true rfl) rfl ?_
  refine rj_aload_n dX2_init_27 0 rfl rfl ?_
  refine rj_iconst (v := 0) dX2_init_28 (by decide) ?_
  refine rt_put (c := 0) [oE 2 [.ref (k + 1), .ref (k + 2), .int 3, .int 0, .int 0, .null], zA 192, zA 192] hk fl_RX2_22 (ft2_3 _ nofun) rfl dX2_init_29 rfl rfl rfl rfl (Nat.le_of_ble_eq_true rfl) rfl ?_
  refine rj_aload_n dX2_init_32 0 rfl rfl ?_
  refine rj_iconst (v := 1) dX2_init_33 (by decide) ?_
  refine rt_put (c := 0) [oE 2 [.ref (k + 1), .ref (k + 2), .int 3, .int 0, .int 1, .null], zA 192, zA 192] hk fl_RX2_25 (ft2_4 _ nofun) rfl dX2_init_34 rfl rfl rfl rfl (Nat.le_of_ble_eq_true rfl) rfl ?_
  refine rj_aload_n dX2_init_37 0 rfl rfl ?_
  refine rj_iconst (v := 3) dX2_init_38 (by decide) ?_
  refine rt_newa (r := k + 3) [oE 2 [.ref (k + 1), .ref (k + 2), .int 3, .int 0, .int 1, .null], zA 192, zA 192, zA 3] hk hk9 rfl dX2_init_39 (by decide) rfl rfl rfl rfl rfl rfl ?_
  refine rt_putF (c := 0) [oE 2 [.ref (k + 1), .ref (k + 2), .int 3, .int 0, .int 1, .ref (k + 3)], zA 192, zA 192, zA 3] hk fl_RX2_28 (ft2_5 _ (fun _ => rfl)) rfl rfl dX2_init_41 rfl rfl rfl rfl (Nat.le_of_ble_eq_true rfl) rfl ?_
  exact rj_vret dX2_init_44 rfl (Nat.le_of_ble_eq_true rfl) (Nat.le_of_ble_eq_true rfl) ⟨rfl, rfl, rfl⟩
abbrev bX3 (k : Nat) : List va_E := [oE 3 [.int 0, .ref (k + 1), .ref (k + 2), .ref (k + 3), .ref (k + 4)], zA 6, zA 72, zA 72, zA 72]
set_option maxRecDepth 100000 in
set_option maxHeartbeats 4000000 in
theorem ctX3 (hk9 : k < 900) : CT w (h + 1) kX3_init 4 222 k [] (oE 3 dfX3) (bX3 k) := by
  refine ct_of (by decide) (Nat.le_of_ble_eq_true rfl) (fun pre hk => ?_)
  refine rj_aload_n dX3_init_0 0 rfl rfl ?_
  refine rj_objInit rfl ml_RX3_3 oi_i oi_c dX3_init_1 (Nat.lt_trans hk9 (by decide)) (Nat.succ_le_succ (Nat.zero_le _)) rmO ?_
  refine rj_aload_n dX3_init_4 0 rfl rfl ?_
  refine rj_iconst (v := 0) dX3_init_5 (by decide) ?_
  refine rt_put (c := 0) [oE 3 [.int 0, .null, .null, .null, .null]] hk fl_RX3_9 (ft3_0 _ nofun) rfl dX3_init_6 rfl rfl rfl rfl (Nat.le_of_ble_eq_true rfl) rfl ?_
  refine rj_aload_n dX3_init_9 0 rfl rfl ?_
  refine rj_bipush (v := 6) dX3_init_10 (by decide) ?_
  refine rt_newa (r := k + 1) [oE 3 [.int 0, .null, .null, .null, .null], zA 6] hk hk9 rfl dX3_init_12 (by decide) rfl rfl rfl rfl rfl rfl ?_
  refine rt_putF (c := 0) [oE 3 [.int 0, .ref (k + 1), .null, .null, .null], zA 6] hk fl_RX3_15 (ft3_1 _ (fun _ => rfl)) rfl rfl dX3_init_14 rfl rfl rfl rfl (Nat.le_of_ble_eq_true rfl) rfl ?_
  refine rj_aload_n dX3_init_17 0 rfl rfl ?_
  refine rj_bipush (v := 72) dX3_init_18 (by decide) ?_
  refine rt_newa (r := k + 2) [oE 3 [.int 0, .ref (k + 1), .null, .null, .null], zA 6, zA 72] hk hk9 rfl dX3_init_20 (by decide) rfl rfl rfl rfl rfl rfl ?_
  refine rt_putF (c := 0) [oE 3 [.int 0, .ref (k + 1), .ref (k + 2), .null, .null], zA 6, zA 72] hk fl_RX3_19 (ft3_2 _ (fun _ => rfl)) rfl rfl dX3_init_22 rfl rfl rfl rfl (Nat.le_of_ble_eq_true rfl) rfl ?_
  refine rj_aload_n dX3_init_25 0 rfl rfl ?_
  refine rj_bipush (v := 72) dX3_init_26 (by decide) ?_
  refine rt_newa (r := k + 3) [oE 3 [.int 0, .ref (k + 1), .ref (k + 2), .null, .null], zA 6, zA 72, zA 72] hk hk9 rfl dX3_init_28 (by decide) rfl rfl rfl rfl rfl rfl ?_
  refine rt_putF (c := 0) [oE 3 [.int 0, .ref (k + 1), .ref (k + 2), .ref (k + 3), .null], zA 6, zA 72, zA 72] hk fl_RX3_22 (ft3_3 _ (fun _ => rfl)) rfl rfl dX3_init_30 rfl rfl rfl rfl (Nat.le_of_ble_eq_true rfl) rfl ?_
  refine rj_aload_n dX3_init_33 0 rfl rfl ?_
  refine rj_bipush (v := 72) dX3_init_34 (by decide) ?_
  refine rt_newa (r := k + 4) [oE 3 [.int 0, .ref (k + 1), .ref (k + 2), .ref (k + 3), .null], zA 6, zA 72, zA 72, zA 72] hk hk9 rfl dX3_init_36 (by decide) rfl rfl rfl rfl rfl rfl ?_
  refine rt_putF (c := 0) [oE 3 [.int 0, .ref (k + 1), .ref (k + 2), .ref (k + 3), .ref (k + 4)], zA 6, zA 72, zA 72, zA 72] hk fl_RX3_25 (ft3_4 _ (fun _ => rfl)) rfl rfl dX3_init_38 rfl rfl rfl rfl (Nat.le_of_ble_eq_true rfl) rfl ?_
  exact rj_vret dX3_init_41 rfl (Nat.le_of_ble_eq_true rfl) (Nat.le_of_ble_eq_true rfl) ⟨rfl, rfl, rfl⟩
abbrev bX4 (a k : Nat) : List va_E := [oE 4 [.ref a, .int 0, .int 0, .int 0, .int 0]]
theorem ctX4 {a : Nat} (hk9 : k < 900) : CT w (h + 1) kX4_init 0 0 k [.ref a] (oE 4 dfX4) (bX4 a k) := by
  refine ct_of (by decide) (Nat.le_of_ble_eq_true rfl) (fun pre hk => ?_)
  refine rj_aload_n dX4_init_0 0 rfl rfl ?_
  refine rj_objInit rfl ml_RX4_3 oi_i oi_c dX4_init_1 (Nat.lt_trans hk9 (by decide)) (Nat.succ_le_succ (Nat.zero_le _)) rmO ?_
  refine rj_aload_n dX4_init_4 0 rfl rfl ?_
  refine rj_aload_n dX4_init_5 1 rfl rfl ?_
  refine rt_putF (c := 0) [oE 4 [.ref a, .int 0, .int 0, .int 0, .int 0]] hk fl_RX4_9 (ft4_0 _ (fun _ => rfl)) rfl rfl dX4_init_6 rfl rfl rfl rfl (Nat.le_of_ble_eq_true rfl) rfl ?_
  exact rj_vret dX4_init_9 rfl (Nat.le_of_ble_eq_true rfl) (Nat.le_of_ble_eq_true rfl) ⟨rfl, rfl, rfl⟩
abbrev bX6 (k : Nat) : List va_E := [oE 6 [.int 0, .int 0, .ref (k + 1)], zA 40]
set_option maxRecDepth 100000 in
set_option maxHeartbeats 4000000 in
theorem ctX6 (hk9 : k < 900) : CT w (h + 1) kX6_init 1 40 k [] (oE 6 dfX6) (bX6 k) := by
  refine ct_of (by decide) (Nat.le_of_ble_eq_true rfl) (fun pre hk => ?_)
  refine rj_aload_n dX6_init_0 0 rfl rfl ?_
  refine rj_objInit rfl ml_RX6_3 oi_i oi_c dX6_init_1 (Nat.lt_trans hk9 (by decide)) (Nat.succ_le_succ (Nat.zero_le _)) rmO ?_
  refine rj_aload_n dX6_init_4 0 rfl rfl ?_
  refine rj_iconst (v := 0) dX6_init_5 (by decide) ?_
  refine rt_put (c := 0) [oE 6 [.int 0, .int 0, .null]] hk fl_RX6_9 (ft6_0 _ nofun) rfl dX6_init_6 rfl rfl rfl rfl (Nat.le_of_ble_eq_true rfl) rfl ?_
  refine rj_aload_n dX6_init_9 0 rfl rfl ?_
  refine rj_iconst (v := 0) dX6_init_10 (by decide) ?_
  refine rt_put (c := 0) [oE 6 [.int 0, .int 0, .null]] hk fl_RX6_15 (ft6_1 _ nofun) rfl dX6_init_11 rfl rfl rfl rfl (Nat.le_of_ble_eq_true rfl) rfl ?_
  refine rj_aload_n dX6_init_14 0 rfl rfl ?_
  refine rj_bipush (v := 40) dX6_init_15 (by decide) ?_
  refine rt_newa (r := k + 1) [oE 6 [.int 0, .int 0, .null], zA 40] hk hk9 rfl dX6_init_17 (by decide) rfl rfl rfl rfl rfl rfl ?_
  refine rt_putF (c := 0) [oE 6 [.int 0, .int 0, .ref (k + 1)], zA 40] hk fl_RX6_18 (ft6_2 _ (fun _ => rfl)) rfl rfl dX6_init_19 rfl rfl rfl rfl (Nat.le_of_ble_eq_true rfl) rfl ?_
  exact rj_vret dX6_init_22 rfl (Nat.le_of_ble_eq_true rfl) (Nat.le_of_ble_eq_true rfl) ⟨rfl, rfl, rfl⟩
abbrev bX7 (k : Nat) : List va_E := [oE 7 [.ref (k + 1), .int 0], zA 100]
set_option maxRecDepth 100000 in
set_option maxHeartbeats 4000000 in
theorem ctX7 (hk9 : k < 900) : CT w (h + 1) kX7_init 1 100 k [] (oE 7 dfX7) (bX7 k) := by
  refine ct_of (by decide) (Nat.le_of_ble_eq_true rfl) (fun pre hk => ?_)
  refine rj_aload_n dX7_init_0 0 rfl rfl ?_
  refine rj_objInit rfl ml_RX7_3 oi_i oi_c dX7_init_1 (Nat.lt_trans hk9 (by decide)) (Nat.succ_le_succ (Nat.zero_le _)) rmO ?_
  refine rj_aload_n dX7_init_4 0 rfl rfl ?_
  refine rj_bipush (v := 100) dX7_init_5 (by decide) ?_
  refine rt_newa (r := k + 1) [oE 7 [.null, .int 0], zA 100] hk hk9 rfl dX7_init_7 (by decide) rfl rfl rfl rfl rfl rfl ?_
  refine rt_putF (c := 0) [oE 7 [.ref (k + 1), .int 0], zA 100] hk fl_RX7_9 (ft7_0 _ (fun _ => rfl)) rfl rfl dX7_init_9 rfl rfl rfl rfl (Nat.le_of_ble_eq_true rfl) rfl ?_
  refine rj_aload_n dX7_init_12 0 rfl rfl ?_
  refine rj_iconst (v := 0) dX7_init_13 (by decide) ?_
  refine rt_put (c := 0) [oE 7 [.ref (k + 1), .int 0], zA 100] hk fl_RX7_15 (ft7_1 _ nofun) rfl dX7_init_14 rfl rfl rfl rfl (Nat.le_of_ble_eq_true rfl) rfl ?_
  exact rj_vret dX7_init_17 rfl (Nat.le_of_ble_eq_true rfl) (Nat.le_of_ble_eq_true rfl) ⟨rfl, rfl, rfl⟩
abbrev bX8 (k : Nat) : List va_E := [oE 8 [.ref (k + 1), .int 0, .int 0, .int 0], zA 65]
set_option maxRecDepth 100000 in
set_option maxHeartbeats 4000000 in
theorem ctX8 (hk9 : k < 900) : CT w (h + 1) kX8_init 1 65 k [] (oE 8 dfX8) (bX8 k) := by
  refine ct_of (by decide) (Nat.le_of_ble_eq_true rfl) (fun pre hk => ?_)
  refine rj_aload_n dX8_init_0 0 rfl rfl ?_
  refine rj_objInit rfl ml_RX8_3 oi_i oi_c dX8_init_1 (Nat.lt_trans hk9 (by decide)) (Nat.succ_le_succ (Nat.zero_le _)) rmO ?_
  refine rj_aload_n dX8_init_4 0 rfl rfl ?_
  refine rj_bipush (v := 65) dX8_init_5 (by decide) ?_
  refine rt_newa (r := k + 1) [oE 8 [.null, .int 0, .int 0, .int 0], zA 65] hk hk9 rfl dX8_init_7 (by decide) rfl rfl rfl rfl rfl rfl ?_
  refine rt_putF (c := 0) [oE 8 [.ref (k + 1), .int 0, .int 0, .int 0], zA 65] hk fl_RX8_9 (ft8_0 _ (fun _ => rfl)) rfl rfl dX8_init_9 rfl rfl rfl rfl (Nat.le_of_ble_eq_true rfl) rfl ?_
  exact rj_vret dX8_init_12 rfl (Nat.le_of_ble_eq_true rfl) (Nat.le_of_ble_eq_true rfl) ⟨rfl, rfl, rfl⟩
abbrev bX9 (k : Nat) : List va_E := [oE 9 [.ref (k + 1)], zA 192]
set_option maxRecDepth 100000 in
set_option maxHeartbeats 4000000 in
theorem ctX9 (hk9 : k < 900) : CT w (h + 1) kX9_init 1 192 k [] (oE 9 dfX9) (bX9 k) := by
  refine ct_of (by decide) (Nat.le_of_ble_eq_true rfl) (fun pre hk => ?_)
  refine rj_aload_n dX9_init_0 0 rfl rfl ?_
  refine rj_objInit rfl ml_RX9_3 oi_i oi_c dX9_init_1 (Nat.lt_trans hk9 (by decide)) (Nat.succ_le_succ (Nat.zero_le _)) rmO ?_
  refine rj_aload_n dX9_init_4 0 rfl rfl ?_
  refine rj_sipush (v := 192) dX9_init_5 (by decide) ?_
  refine rt_newa (r := k + 1) [oE 9 [.null], zA 192] hk hk9 rfl dX9_init_8 (by decide) rfl rfl rfl rfl rfl rfl ?_
  refine rt_putF (c := 0) [oE 9 [.ref (k + 1)], zA 192] hk fl_RX9_9 (ft9_0 _ (fun _ => rfl)) rfl rfl dX9_init_10 rfl rfl rfl rfl (Nat.le_of_ble_eq_true rfl) rfl ?_
  exact rj_vret dX9_init_13 rfl (Nat.le_of_ble_eq_true rfl) (Nat.le_of_ble_eq_true rfl) ⟨rfl, rfl, rfl⟩
end CTX

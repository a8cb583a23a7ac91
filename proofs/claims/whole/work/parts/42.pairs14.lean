/-! ===== the tape: feed, wipe ===== -/
theorem byt0 (x y z : Int32) (k : Nat) (hk : k = 0 ∨ k = 8 ∨ k = 16 ∨ k = 24) (hy : y.toBitVec.toNat = x.toBitVec.toNat / 2 ^ k) (hz : z.toInt = x.toInt >>> k) : y &&& 255 = z &&& 255 := by
  rw [pk_and y 8 (m := 255) (by decide), pk_and z 8 (m := 255) (by decide), hy]
  congr 1
  rw [Int.shiftRight_eq_div_pow] at hz
  have a1 : x.toInt = x.toBitVec.toInt := rfl
  have a2 : z.toInt = z.toBitVec.toInt := rfl
  rw [a1, a2, BitVec.toInt_eq_toNat_cond, BitVec.toInt_eq_toNat_cond] at hz
  have b1 : x.toBitVec.toNat < 2 ^ 32 := x.toBitVec.isLt
  have b2 : z.toBitVec.toNat < 2 ^ 32 := z.toBitVec.isLt
  generalize x.toBitVec.toNat = X at *
  generalize z.toBitVec.toNat = Z at *
  rcases hk with rfl | rfl | rfl | rfl
  · split at hz <;> split at hz <;> simp at hz <;> omega
  · split at hz <;> split at hz <;> simp at hz <;> omega
  · split at hz <;> split at hz <;> simp at hz <;> omega
  · split at hz <;> split at hz <;> simp at hz <;> omega
def byC (x : Int32) (j : Nat) : Int32 := (Int32.toUInt32 x >>> (Int32.toUInt32 (8 * nI j) &&& Int32.toUInt32 31)).toInt32 &&& 255
theorem byt (x : Int32) {j : Nat} (hj : j < 4) : (x >>> ((8 * nI j) &&& 31)) &&& 255 = byC x j := by
  have : j = 0 ∨ j = 1 ∨ j = 2 ∨ j = 3 := by omega
  unfold byC
  rcases this with rfl | rfl | rfl | rfl
  · exact (byt0 x _ _ 0 (by omega) (pk_ushr x _ 0 (by decide)) (pk_shr x _ 0 (by decide))).symm
  · exact (byt0 x _ _ 8 (by omega) (pk_ushr x _ 8 (by decide)) (pk_shr x _ 8 (by decide))).symm
  · exact (byt0 x _ _ 16 (by omega) (pk_ushr x _ 16 (by decide)) (pk_shr x _ 16 (by decide))).symm
  · exact (byt0 x _ _ 24 (by omega) (pk_ushr x _ 24 (by decide)) (pk_shr x _ 24 (by decide))).symm
theorem byC_bd {x : Int32} {j : Nat} : 0 ≤ byC x j ∧ byC x j ≤ 255 := by
  obtain ⟨k, hk, e⟩ := pk_andE (Int32.toUInt32 x >>> (Int32.toUInt32 (8 * nI j) &&& Int32.toUInt32 31)).toInt32 (m := 255) 8 (by decide)
  unfold byC
  rw [e]
  exact ⟨nI_pos' (by omega), nI_le (b := 255) (by omega) (by decide)⟩
/-- n bytes put behind the l-th -/
def apT (x : Int32) : Nat → Nat → (Nat → Int32) → (Nat → Int32)
  | 0, _, f => f
  | k + 1, l, f => apT x k (l + 1) (upd f l (byC x k))
theorem apT_ok {x : Int32} : ∀ k l f g, (∀ j, j < l → f j = g j ∧ 0 ≤ f j ∧ f j ≤ 255) → ∀ j, j < l + k → apT x k l f j = apT x k l g j ∧ 0 ≤ apT x k l f j ∧ apT x k l f j ≤ 255 := by
  intro k
  induction k with
  | zero => intro l f g h j hj; exact h j (by omega)
  | succ k ih =>
    intro l f g h j hj
    refine ih (l + 1) _ _ (fun j hj => ?_) j (by omega)
    by_cases hjl : j = l
    · subst hjl; rw [pk_us, pk_us]; exact ⟨rfl, byC_bd⟩
    · rw [pk_un hjl, pk_un hjl]; exact h j (by omega)
section H0
variable {w : Wd} {h : Nat} {M : Mem} {K : Int32 → Mem → Prop} {Kv : Mem → Prop}
theorem p_wipe (hI : INV M) : PAIR w kX10_wipe kX11_wipe [] M := by
  obtain ⟨n, hn, t1, t2, -⟩ := hI.2.2.2.1
  refine csi_of (by decide) (Nat.le_of_ble_eq_true rfl) (vX10_wipe_0 M _ (fun x1 e1 M1 e2 => ⟨_, rfl, ?_⟩))
  refine csi_of (by decide) (Nat.le_of_ble_eq_true rfl) (vX11_wipe_0 M1 _ (fun y1 f1 M2 f2 => ⟨_, rfl, ?_, ?_⟩))
  · rw [e1, f1, t1, e2, mset_ne (by decide), t2]
  · refine hI.tapes ⟨0, by omega, ?_, ?_, fun j hj => absurd hj (by omega)⟩ (fun q a b c d => by rw [f2, mset_ne d, e2, mset_ne a]) (fun j hj => by rw [f2, mset_eq, pk_un hj, e2, mset_ne (by decide)])
    · rw [f2, mset_ne (by decide), e2, mset_eq, pk_us]; rfl
    · rw [f2, mset_eq, pk_us]; rfl
theorem p_feed (hI : INV M) {a0 a1 : Int32} : PAIR w kX10_feed kX11_feed [.int a0, .int a1] M := by
  obtain ⟨l, hl, t1, t2, t3⟩ := hI.2.2.2.1
  by_cases hs : (1 : Int32) ≤ a1 ∧ a1 ≤ (4 : Int32)
  · obtain ⟨n, hn, rfl⟩ := nI_of2 (n := 4) rfl (Int32.not_lt.mpr (Int32.le_trans (by decide) hs.1)) hs.2
    have hn1 : 1 ≤ n := (nI_leI (a := 1) (by decide) (by omega)).mp hs.1
    by_cases hr : nI l + nI n ≤ 100
    · have hr' := hr
      rw [nI_add] at hr'
      have hln : l + n ≤ 100 := (nI_leI (b := 100) (by omega) (by decide)).mp hr'
      refine csi_of (by decide) (Nat.le_of_ble_eq_true rfl) (vX10_feed_0 _ _ M _ ⟨fun _ => ?_, fun q => absurd hs q⟩)
      rw [t1]
      refine ⟨fun _ => ?_, fun q => absurd hr q⟩
      refine csv_of (by decide) (Nat.le_of_ble_eq_true rfl) (vX7_append_0 a0 _ M _ (fun x1 e1 => ?_))
      have RR : ∀ Mc : Mem, Mc 37 1 = nI (l + n) → Mc 38 = apT a0 n l (M 38) → (∀ q, q ≠ 37 → q ≠ 38 → Mc q = M q) → CSi w 12 kX11_feed [.ref 59, .int a0, .int (nI n)] Mc (fun r2 M2 => nI (l + n) = r2 ∧ INV M2) := by
        intro Mc c1 c2 c3
        refine csi_of (by decide) (Nat.le_of_ble_eq_true rfl) (vX11_feed_0 _ _ Mc _ ⟨fun _ => ?_, fun q => absurd hs q⟩)
        rw [c3 59 (by decide) (by decide), t2]
        refine ⟨fun _ y1 f1 => ?_, fun q => absurd hr q⟩
        have L : ∀ k l', k + l' = l + n → k ≤ 4 → ∀ Mx : Mem, Mx 59 6 = nI l' → (∀ j, j ≠ 6 → Mx 59 j = M 59 j) → (∀ q, q ≠ 59 → q ≠ 63 → Mx q = Mc q) → apT a0 k l' (Mx 63) = apT a0 n l (M 63) → RM w 12 kX11_feed 41 [(0, .ref 59), (1, .int a0), (3, .int (nI k - 1))] [] Mx (fun r M' => ∃ x, r = some (.int x) ∧ nI (l + n) = x ∧ INV M') := by
          intro k
          induction k with
          | zero =>
            intro l' hl' _ Mx x1 x2 x3 x4
            refine vX11_feed_41 _ _ Mx _ ⟨fun _ => ⟨_, rfl, ?_, ?_⟩, fun q => absurd (by decide) q⟩
            · rw [x1]; congr 1; omega
            · refine hI.tapes ⟨l + n, hln, ?_, ?_, ?_⟩ (fun q a b c d => by rw [x3 q d c]; exact c3 q a b) x2
              · rw [x3 37 (by decide) (by decide)]; exact c1
              · rw [x1]; congr 1; omega
              · rw [x3 38 (by decide) (by decide), c2, show Mx 63 = apT a0 n l (M 63) from x4]
                exact apT_ok n l (M 38) (M 63) t3
          | succ k ih =>
            intro l' hl' hk Mx x1 x2 x3 x4
            rw [nI_pred]
            refine vX11_feed_41 _ _ Mx _ ⟨fun q => absurd q (nI_pos (by omega)), fun _ => ?_⟩
            rw [x1, nI_clamp (by omega), byt a0 (by omega)]
            refine ⟨vp_in_nI (by omega) (by decide), fun Ma ea Mb eb v ev => ?_⟩
            rw [ev, g_pm1]
            have ea59 : Ma 59 = Mx 59 := by rw [ea, mset_ne (by decide)]
            refine ih (l' + 1) (by omega) (by omega) Mb ?_ (fun j hj => ?_) (fun q a b => ?_) ?_
            · rw [eb, mset_eq, pk_us, ea59, x1, nI_1]
            · rw [eb, mset_eq, pk_un hj, ea59]; exact x2 j hj
            · rw [eb, mset_ne a, ea, mset_ne b]; exact x3 q a b
            · rw [eb, mset_ne (by decide), ea, mset_eq]; exact x4
        rw [f1]
        exact L n l (by omega) (by omega) Mc (by rw [c3 59 (by decide) (by decide)]; exact t2) (fun j _ => by rw [c3 59 (by decide) (by decide)]) (fun _ _ _ => rfl) (by rw [c3 63 (by decide) (by decide)])
      have L : ∀ k l', k + l' = l + n → k ≤ 4 → ∀ Mx : Mem, Mx 37 1 = nI l' → (∀ q, q ≠ 37 → q ≠ 38 → Mx q = M q) → apT a0 k l' (Mx 38) = apT a0 n l (M 38) → RM w 11 kX7_append 4 [(0, .ref 37), (1, .int a0), (3, .int (nI k - 1))] [] Mx (fun r M' => r = none ∧ ∃ x, some (Value.int (M' 37 1)) = some (.int x) ∧ CSi w 12 kX11_feed [.ref 59, .int a0, .int (nI n)] M' (fun r2 M2 => x = r2 ∧ INV M2)) := by
        intro k
        induction k with
        | zero =>
          intro l' hl' _ Mx x1 x2 x3
          have e : Mx 37 1 = nI (l + n) := by rw [x1]; congr 1; omega
          refine vX7_append_4 _ _ Mx _ ⟨fun _ => ⟨rfl, _, rfl, ?_⟩, fun q => absurd (by decide) q⟩
          rw [e]
          exact RR Mx e x3 x2
        | succ k ih =>
          intro l' hl' hk Mx x1 x2 x3
          rw [nI_pred]
          refine vX7_append_4 _ _ Mx _ ⟨fun q => absurd q (nI_pos (by omega)), fun _ => ?_⟩
          rw [x1, nI_clamp (by omega)]
          refine ⟨vp_in_nI (by omega) (by decide), fun Ma ea Mb eb v ev => ?_⟩
          rw [ev, g_pm1]
          refine ih (l' + 1) (by omega) (by omega) Mb ?_ (fun q a b => ?_) ?_
          · rw [eb, mset_eq, pk_us, ea, mset_ne (by decide), x1, nI_1]
          · rw [eb, mset_ne a, ea, mset_ne b]; exact x2 q a b
          · rw [eb, mset_ne (by decide), ea, mset_eq]; exact x3
      rw [e1]
      exact L n l (by omega) (by omega) M t1 (fun _ _ _ => rfl) rfl
    · refine pairQ hI (.inr 1) in1 (fun K hK => ?_) (fun M1 r K hK => ?_)
      · refine csi_of (by decide) (Nat.le_of_ble_eq_true rfl) (vX10_feed_0 _ _ M _ ⟨fun _ => ?_, fun q => absurd hs q⟩)
        rw [t1]
        exact ⟨fun q => absurd q hr, fun _ => tell1 (hK _ FR.refl)⟩
      · refine csi_of (by decide) (Nat.le_of_ble_eq_true rfl) (vX11_feed_0 _ _ M1 _ ⟨fun _ => ?_, fun q => absurd hs q⟩)
        rw [r.2.2.2, t2]
        exact ⟨fun q => absurd q hr, fun _ => find1 (hK _ FR.refl)⟩
  · refine pairQ hI (.inr 0) in0 (fun K hK => ?_) (fun M1 r K hK => ?_)
    · exact csi_of (by decide) (Nat.le_of_ble_eq_true rfl) (vX10_feed_0 _ _ M _ ⟨fun q => absurd q hs, fun _ => tell0 (hK _ FR.refl)⟩)
    · exact csi_of (by decide) (Nat.le_of_ble_eq_true rfl) (vX11_feed_0 _ _ M1 _ ⟨fun q => absurd q hs, fun _ => find0 (hK _ FR.refl)⟩)
end H0

/-! ===== small rows: numbers, loops, cells ===== -/
theorem up_ind {N : Nat} {P : Nat → Prop} (hN : P N) (hs : ∀ k, k < N → P (k + 1) → P k) : ∀ k, k ≤ N → P k := by
  have h : ∀ m k, k + m = N → P k := by
    intro m
    induction m with
    | zero => intro k h; rw [show k = N by omega]; exact hN
    | succ m ih => intro k h; exact hs k (by omega) (ih (k + 1) (by omega))
  intro k hk
  exact h (N - k) k (by omega)
def sumN (g : Nat → Int32) : Nat → Int32
  | 0 => 0
  | k + 1 => sumN g k + g k
theorem sumN_c {g g' : Nat → Int32} {n : Nat} (h : ∀ k, k < n → g k = g' k) : sumN g n = sumN g' n := by
  induction n with
  | zero => rfl
  | succ n ih => rw [sumN, sumN, ih (fun k hk => h k (by omega)), h n (by omega)]
/-- an array read at an int -/
def rd (f : Nat → Int32) (x : Int32) : Int32 := f x.toNatClampNeg
theorem rd_nI {f : Nat → Int32} {k : Nat} (h : k < 2147483648) : rd f (nI k) = f k := by rw [rd, nI_clamp h]
theorem clamp_toInt {x : Int32} (h : 0 ≤ x) : (x.toNatClampNeg : Int) = x.toInt := by
  have h0 : (0 : Int) ≤ x.toInt := by simpa using Int32.le_iff_toInt_le.mp h
  show ((x.toInt.toNat : Nat) : Int) = x.toInt
  omega
theorem clamp_inj {x y : Int32} (hx : 0 ≤ x) (hy : 0 ≤ y) : x.toNatClampNeg = y.toNatClampNeg ↔ x = y := by
  constructor
  · intro h
    apply Int32.toInt_inj.mp
    rw [← clamp_toInt hx, ← clamp_toInt hy, h]
  · intro h; rw [h]
theorem rd_upd {f : Nat → Int32} {x y v : Int32} (hx : 0 ≤ x) (hy : 0 ≤ y) : rd (upd f x.toNatClampNeg v) y = if y = x then v else rd f y := by
  unfold rd upd
  by_cases h : y = x
  · simp [h]
  · rw [if_neg (fun q => h ((clamp_inj hy hx).mp q)), if_neg h]
theorem inL {x : Int32} {N : Nat} (m : Int32) (hm : m.toInt = N) (h0 : 0 ≤ x) (h1 : x < m) : vp_in x N := by
  rw [vp_in_iff]
  have a : (0 : Int) ≤ x.toInt := by simpa using Int32.le_iff_toInt_le.mp h0
  have b := Int32.lt_iff_toInt_lt.mp h1
  rw [hm] at b
  exact ⟨a, b⟩
theorem ofInL {x : Int32} {N : Nat} (m : Int32) (hm : m.toInt = N) (h : vp_in x N) : 0 ≤ x ∧ x < m := by
  rw [vp_in_iff] at h
  refine ⟨Int32.le_iff_toInt_le.mpr (by simpa using h.1), Int32.lt_iff_toInt_lt.mpr (by rw [hm]; exact h.2)⟩
theorem nI_of3 {x : Int32} {m : Int32} {N : Nat} (hm : m.toInt = N) (h0 : 0 ≤ x) (h1 : x < m) : ∃ k : Nat, k < N ∧ x = nI k := by
  have h2 : ¬ x < 0 := Int32.not_lt.mpr h0
  obtain ⟨j, hj, rfl⟩ := nI_of h2
  refine ⟨j, ?_, rfl⟩
  have b := Int32.lt_iff_toInt_lt.mp h1
  rw [hm, nI_toInt hj] at b
  omega
theorem mput_eq {M : Mem} {k : Nat} {f : Nat → Int32} : mput M k f k = f := by simp [mput]
theorem mput_ne {M : Mem} {k k' : Nat} {f : Nat → Int32} (h : k' ≠ k) : mput M k f k' = M k' := by simp [mput, h]
theorem mset_eq {M : Mem} {k j : Nat} {x : Int32} : mset M k j x k = upd (M k) j x := by simp [mset, mput]
theorem mset_ne {M : Mem} {k k' j : Nat} {x : Int32} (h : k' ≠ k) : mset M k j x k' = M k' := by simp [mset, mput, h]
theorem pane4 : isPane 4 := ⟨rfl, rfl, rfl, rfl⟩
theorem pane21 : isPane 21 := ⟨rfl, rfl, rfl, rfl⟩
theorem pane49 : isPane 49 := ⟨rfl, rfl, rfl, rfl⟩
theorem walk53 : isWalk 53 := ⟨rfl, rfl⟩
theorem walk55 : isWalk 55 := ⟨rfl, rfl⟩
theorem scene3 : isScene 3 := ⟨rfl, pane4, ⟨rfl, rfl, rfl, rfl, rfl⟩, ⟨rfl, rfl, rfl, rfl, rfl⟩, rfl, rfl⟩
theorem scene20 : isScene 20 := ⟨rfl, pane21, ⟨rfl, rfl, rfl, rfl, rfl⟩, ⟨rfl, rfl, rfl, rfl, rfl⟩, rfl, rfl⟩
/-! ===== first contracts ===== -/
section C1
variable {w : Wd} {h : Nat} {M : Mem} {K : Int32 → Mem → Prop} {Kv : Mem → Prop}
theorem uX10_countAbove0 {a la : Nat} (ha : lay a = (12, la)) (pa : 0 < la) (qa : la < 2147483648) (hK : K (sumN (fun k => b2i (0 < M a k)) la) M) : CSi w h kX10_countAbove0 [.ref a] M K := by
  refine csi_of (by decide) (Nat.le_of_ble_eq_true rfl) (vX10_countAbove0_0 a la ha pa qa M _ ?_)
  intro x1 e1
  subst e1
  have L : ∀ k, k ≤ la → RM w h kX10_countAbove0 10 [(1, .int (sumN (fun k => b2i (0 < M a k)) k)), (2, .ref a), (3, .int (Int32.ofNat la)), (4, .int (nI k))] [] M (fun r M' => ∃ x, r = some (.int x) ∧ K x M') := by
    refine up_ind ?_ ?_
    · exact vX10_countAbove0_10 a la _ _ _ ha pa qa M _ ⟨fun _ => ⟨_, rfl, hK⟩, fun hc => absurd (nI_le (Nat.le_refl la) qa) hc⟩
    · intro k hk ih
      refine vX10_countAbove0_10 a la _ _ _ ha pa qa M _ ⟨fun hc => absurd hc (nI_ge hk qa), fun _ => ⟨vp_in_nI hk qa, fun x1 e1 => ⟨fun hc x2 e2 => ?_, fun hc x2 e2 x3 e3 => ?_⟩⟩⟩
      · rw [e1, nI_clamp (by omega)] at hc
        have e : sumN (fun k => b2i (0 < M a k)) (k + 1) = sumN (fun k => b2i (0 < M a k)) k := by rw [sumN, b2i_f (Int32.not_lt.mpr hc)]; grind
        rw [e] at ih
        rw [e2, nI_1]
        exact ih
      · rw [e1, nI_clamp (by omega)] at hc
        have e : sumN (fun k => b2i (0 < M a k)) (k + 1) = sumN (fun k => b2i (0 < M a k)) k + 1 := by rw [sumN, b2i_t (Int32.not_le.mp hc)]
        rw [e] at ih
        rw [e2, e3, nI_1]
        exact ih
  exact L 0 (Nat.zero_le _)
theorem uX10_sumOf {a la : Nat} (ha : lay a = (12, la)) (pa : 0 < la) (qa : la < 2147483648) (hK : K (sumN (M a) la) M) : CSi w h kX10_sumOf [.ref a] M K := by
  refine csi_of (by decide) (Nat.le_of_ble_eq_true rfl) (vX10_sumOf_0 a la ha pa qa M _ ?_)
  intro x1 e1
  subst e1
  have L : ∀ k, k ≤ la → RM w h kX10_sumOf 10 [(1, .int (sumN (M a) k)), (2, .ref a), (3, .int (Int32.ofNat la)), (4, .int (nI k))] [] M (fun r M' => ∃ x, r = some (.int x) ∧ K x M') := by
    refine up_ind ?_ ?_
    · exact vX10_sumOf_10 a la _ _ _ ha pa qa M _ ⟨fun _ => ⟨_, rfl, hK⟩, fun hc => absurd (nI_le (Nat.le_refl la) qa) hc⟩
    · intro k hk ih
      refine vX10_sumOf_10 a la _ _ _ ha pa qa M _ ⟨fun hc => absurd hc (nI_ge hk qa), fun _ => ⟨vp_in_nI hk qa, fun x1 e1 x2 e2 x3 e3 => ?_⟩⟩
      rw [e1, nI_clamp (by omega)] at e2
      rw [e2, e3, nI_1]
      exact ih
  exact L 0 (Nat.zero_le _)
theorem uJ7_fill {a la : Nat} {v : Int32} (ha : lay a = (12, la)) (pa : 0 < la) (qa : la < 2147483648) (hK : ∀ f : Nat → Int32, (∀ k, k < la → f k = v) → Kv (mput M a f)) : CSv w h kJ7_fill_53178 [.ref a, .int v] M Kv := by
  refine csv_of (by decide) (Nat.le_of_ble_eq_true rfl) (vJ7_fill_53178_0 a la v ha pa qa M _ ?_)
  intro x1 e1
  subst e1
  have L : ∀ k, k ≤ la → ∀ f : Nat → Int32, (∀ j, j < k → f j = v) → RM w h kJ7_fill_53178 5 [(0, .ref a), (1, .int v), (2, .int (nI k)), (3, .int (Int32.ofNat la))] [] (mput M a f) (fun r M' => r = none ∧ Kv M') := by
    refine up_ind ?_ ?_
    · intro f hf
      exact vJ7_fill_53178_5 a la _ _ _ ha pa qa _ _ ⟨fun _ => ⟨rfl, hK f hf⟩, fun hc => absurd (nI_le (Nat.le_refl la) qa) hc⟩
    · intro k hk ih f hf
      refine vJ7_fill_53178_5 a la _ _ _ ha pa qa _ _ ⟨fun hc => absurd hc (nI_ge hk qa), fun _ => ⟨vp_in_nI hk qa, fun M1 e1 x1 e2 => ?_⟩⟩
      rw [nI_clamp (by omega)] at e1
      have e : M1 = mput M a (upd f k v) := by
        rw [e1]
        funext q
        by_cases hq : q = a <;> simp [mset, mput, hq]
      rw [e, e2, nI_1]
      refine ih _ (fun j hj => ?_)
      by_cases hjk : j = k
      · simp [upd, hjk]
      · simp [upd, hjk]
        exact hf j (by omega)
  have := L 0 (Nat.zero_le _) (M a) (fun j hj => absurd hj (by omega))
  have e : mput M a (M a) = M := by funext q; by_cases hq : q = a <;> simp [mput, hq]
  rw [e] at this
  exact this
theorem uX10_copyAll (hh : 1 ≤ h) {a b la : Nat} (ha : lay a = (12, la)) (hb : lay b = (12, la)) (pa : 0 < la) (qa : la < 2147483648) (hK : Kv (mput M b (fun k => if k < la then M a k else M b k))) : CSv w h kX10_copyAll [.ref a, .ref b] M Kv := by
  obtain ⟨h, rfl⟩ : ∃ k, h = k + 1 := ⟨h - 1, by omega⟩
  refine csv_of (by decide) (Nat.le_of_ble_eq_true rfl) (vX10_copyAll_0 a la b la ha pa qa hb pa qa M _ ?_)
  have e0 : (if (Int32.ofNat la) < (Int32.ofNat la) then (Int32.ofNat la) else (Int32.ofNat la)) = nI la := by by_cases q : (Int32.ofNat la) < (Int32.ofNat la) <;> simp [q] <;> rfl
  rw [e0]
  have e1 : (nI la).toNatClampNeg = la := nI_clamp (by omega)
  have e2 : (0 : Int32).toNatClampNeg = 0 := rfl
  rw [e1, e2]
  refine ⟨by decide, by decide, nI_pos (by omega), by omega, by omega, fun M2 e3 => ⟨rfl, ?_⟩⟩
  have e4 : (va_cpy (M a) (M b) 0 0 la) = (fun k => if k < la then M a k else M b k) := by
    funext k
    simp [va_cpy]
  rw [e3, e4]
  exact hK
end C1

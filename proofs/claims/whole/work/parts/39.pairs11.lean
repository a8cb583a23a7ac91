/-! ===== image, undo, tear ===== -/
theorem cR.cong {a : Nat} {M : Mem} {f f' : Nat → Int32} (c : cR a M f) (e : ∀ j, j < 666 → f' j = f j) : cR a M f' := by
  obtain ⟨h1, h2, h3, h4, h5, h6, h7, h8⟩ := c
  refine ⟨h1.f (fun j a b => e j (by omega)), h2.f (fun j a b => e j (by omega)), h3.f (fun j a => e j (by omega)), h4.f (fun j a b => e j (by omega)), h5.f (fun j a b => e j (by omega)), h6.f (fun j a b => e j (by omega)), h7.f (e 5 (by omega)) (fun j a b => e j (by omega)), fun k hk => ?_⟩
  rw [e (656 + k) (by omega)]; exact h8 k hk
section F0
variable {w : Wd} {h : Nat} {M : Mem} {K : Int32 → Mem → Prop} {Kv : Mem → Prop} {f : Nat → Int32}
theorem uX0_become (hh : 2 ≤ h) {A B : Nat} (hA : isDropsC A) (hB : isDropsC B) (hd : B + 4 < A ∨ A + 4 < B)
    (hK : ∀ M' : Mem, (∀ i, 1 ≤ i → i ≤ 4 → ∀ k, k < 8 → M' (A + i) k = M (B + i) k) → (∀ q, (q ≤ A ∨ A + 4 < q) → M' q = M q) → Kv M') : CSv w h kX0_become [.ref A, .ref B] M Kv := by
  obtain ⟨h, rfl⟩ : ∃ k, h = k + 1 := ⟨h - 1, by omega⟩
  obtain ⟨-, a1, a2, a3, a4⟩ := id hA
  obtain ⟨-, b1, b2, b3, b4⟩ := id hB
  refine csv_of (by decide) (Nat.le_of_ble_eq_true rfl) (vX0_become_0 A B hA hB M _ ?_)
  refine uX10_copyAll (by omega) b1 a1 (by decide) (by decide) (uX10_copyAll (by omega) b2 a2 (by decide) (by decide) (uX10_copyAll (by omega) b3 a3 (by decide) (by decide) (uX10_copyAll (by omega) b4 a4 (by decide) (by decide) ⟨rfl, hK _ (fun i i1 i4 k hk => ?_) (fun q hq => ?_)⟩)))
  · have : i = 1 ∨ i = 2 ∨ i = 3 ∨ i = 4 := by omega
    rcases this with rfl | rfl | rfl | rfl
    · rw [mput_ne (by omega), mput_ne (by omega), mput_ne (by omega), mput_eq, if_pos hk]
    · rw [mput_ne (by omega), mput_ne (by omega), mput_eq, if_pos hk, mput_ne (by omega)]
    · rw [mput_ne (by omega), mput_eq, if_pos hk, mput_ne (by omega), mput_ne (by omega)]
    · rw [mput_eq, if_pos hk, mput_ne (by omega), mput_ne (by omega), mput_ne (by omega)]
  · rw [mput_ne (by omega), mput_ne (by omega), mput_ne (by omega), mput_ne (by omega)]
theorem uX3_become (hh : 2 ≤ h) {A B : Nat} (hA : isProgs A) (hB : isProgs B) (hd : B + 4 < A ∨ A + 4 < B)
    (hK : ∀ M' : Mem, M' A 0 = M B 0 → (∀ k, k < 6 → M' (A + 1) k = M (B + 1) k) → (∀ i, 2 ≤ i → i ≤ 4 → ∀ k, k < 72 → M' (A + i) k = M (B + i) k) → (∀ q, (q < A ∨ A + 4 < q) → M' q = M q) → Kv M') : CSv w h kX3_become [.ref A, .ref B] M Kv := by
  obtain ⟨h, rfl⟩ : ∃ k, h = k + 1 := ⟨h - 1, by omega⟩
  obtain ⟨-, a1, a2, a3, a4⟩ := id hA
  obtain ⟨-, b1, b2, b3, b4⟩ := id hB
  refine csv_of (by decide) (Nat.le_of_ble_eq_true rfl) (vX3_become_0 A B hA hB M _ (fun M1 e1 => ?_))
  refine uX10_copyAll (by omega) b1 a1 (by decide) (by decide) (uX10_copyAll (by omega) b2 a2 (by decide) (by decide) (uX10_copyAll (by omega) b3 a3 (by decide) (by decide) (uX10_copyAll (by omega) b4 a4 (by decide) (by decide) ⟨rfl, hK _ ?_ (fun k hk => ?_) (fun i i1 i4 k hk => ?_) (fun q hq => ?_)⟩)))
  · rw [mput_ne (by omega), mput_ne (by omega), mput_ne (by omega), mput_ne (by omega), e1, mset_eq, pk_us]
  · rw [mput_ne (by omega), mput_ne (by omega), mput_ne (by omega), mput_eq, if_pos hk, e1, mset_ne (by omega)]
  · have : i = 2 ∨ i = 3 ∨ i = 4 := by omega
    rcases this with rfl | rfl | rfl
    · rw [mput_ne (by omega), mput_ne (by omega), mput_eq, if_pos hk, mput_ne (by omega), e1, mset_ne (by omega)]
    · rw [mput_ne (by omega), mput_eq, if_pos hk, mput_ne (by omega), mput_ne (by omega), e1, mset_ne (by omega)]
    · rw [mput_eq, if_pos hk, mput_ne (by omega), mput_ne (by omega), mput_ne (by omega), e1, mset_ne (by omega)]
  · rw [mput_ne (by omega), mput_ne (by omega), mput_ne (by omega), mput_ne (by omega), e1, mset_ne (by omega)]
theorem uX5_become (hh : 3 ≤ h) {A B : Nat} (hA : isScene A) (hB : isScene B) (hd : B + 16 < A ∨ A + 16 < B) (hc : cR B M f)
    (hK : ∀ M' : Mem, cR A M' f → (∀ q, (q < A ∨ A + 16 < q) → M' q = M q) → Kv M') : CSv w h kX5_become [.ref A, .ref B] M Kv := by
  obtain ⟨h, rfl⟩ : ∃ k, h = k + 1 := ⟨h - 1, by omega⟩
  obtain ⟨-, ap, ad, ag, a15, a16⟩ := id hA
  obtain ⟨-, bp, bd, bg, b15, b16⟩ := id hB
  refine csv_of (by decide) (Nat.le_of_ble_eq_true rfl) (vX5_become_0 A B hA hB M _ ?_)
  refine uX2_become (by omega) ap bp (by omega) (fun M1 p1 p2 p3 p4 p5 pf => ?_)
  refine uX0_become (by omega) ad bd (by omega) (fun M2 d1 df => ?_)
  refine uX3_become (by omega) ag bg (by omega) (fun M3 g0 g1 g2 gf => ?_)
  refine uX10_copyAll (by omega) b15 a15 (by decide) (by decide) (uX10_copyAll (by omega) b16 a16 (by decide) (by decide) (fun M6 e6 M7 e7 => ⟨rfl, ?_⟩))
  have k1 : ∀ q, (q < A + 1 ∨ A + 3 < q) → M1 q = M q := fun q hq => pf q (by omega) (by omega) (by omega)
  have k2 : ∀ q, (q < A + 1 ∨ A + 3 < q) → (q ≤ A + 5 ∨ A + 9 < q) → M2 q = M q := fun q a b => (df q (by omega)).trans (k1 q a)
  have k3 : ∀ q, (q < A + 1 ∨ A + 3 < q) → (q ≤ A + 5 ∨ A + 9 < q) → (q < A + 10 ∨ A + 14 < q) → M3 q = M q := fun q a b c => (gf q (by omega)).trans (k2 q a b)
  have k7 : ∀ q, q ≠ A → q ≠ A + 15 → q ≠ A + 16 → M7 q = M3 q := fun q a b c => by rw [e7, mset_ne a, e6, mset_ne a, mput_ne c, mput_ne b]
  have kB : ∀ q, B ≤ q → q ≤ B + 16 → M3 q = M q := fun q a b => k3 q (by omega) (by omega) (by omega)
  obtain ⟨h1, h2, h3, h4, h5, h6, h7, h8⟩ := hc
  refine hK M7 ⟨?_, ?_, ?_, ?_, ?_, ?_, ?_, ?_⟩ (fun q hq => by rw [k7 q (by omega) (by omega) (by omega)]; exact k3 q (by omega) (by omega) (by omega))
  · intro k hk
    rw [k7 _ (by omega) (by omega) (by omega), gf _ (by omega), df _ (by omega), show A + 2 = A + 1 + 1 by omega, p1 k hk]
    exact h1 k hk
  · intro k hk
    rw [k7 _ (by omega) (by omega) (by omega), gf _ (by omega), df _ (by omega), show A + 3 = A + 1 + 2 by omega, p2 k hk]
    exact h2 k hk
  · have e : M7 (A + 1) = M1 (A + 1) := by rw [k7 _ (by omega) (by omega) (by omega), gf _ (by omega), df _ (by omega)]
    unfold gSet
    rw [e, p3, p4, p5]
    exact h3
  · have eB5 : M3 B 5 = f 3 := by rw [kB B (by omega) (by omega)]; exact h4.1
    have eB6 : M3 B 6 = f 4 := by rw [kB B (by omega) (by omega)]; exact h4.2
    have e : M7 A = upd (upd (M3 A) 5 (f 3)) 6 (f 4) := by
      have e6A : M6 A = upd (M3 A) 5 (f 3) := by rw [e6, mset_eq, mput_ne (show B ≠ A + 16 by omega), mput_ne (show B ≠ A + 15 by omega), mput_ne (show A ≠ A + 16 by omega), mput_ne (show A ≠ A + 15 by omega), eB5]
      have e6B : M6 B 6 = f 4 := by rw [e6, mset_ne (show B ≠ A by omega), mput_ne (show B ≠ A + 16 by omega), mput_ne (show B ≠ A + 15 by omega), eB6]
      rw [e7, mset_eq, e6B, e6A]
    rw [e]
    exact ⟨by rw [pk_un (by decide), pk_us], by rw [pk_us]⟩
  · intro k hk
    rw [e7, mset_ne (by omega), e6, mset_ne (by omega), mput_ne (by omega), mput_eq, if_pos hk, kB _ (by omega) (by omega)]
    exact h5 k hk
  · intro d hd
    unfold gDrop1
    rw [k7 (A + 6) (by omega) (by omega) (by omega), k7 (A + 7) (by omega) (by omega) (by omega), k7 (A + 8) (by omega) (by omega) (by omega), k7 (A + 9) (by omega) (by omega) (by omega), gf (A + 6) (by omega), gf (A + 7) (by omega), gf (A + 8) (by omega), gf (A + 9) (by omega)]
    have x1 := d1 1 (by decide) (by decide) d hd
    have x2 := d1 2 (by decide) (by decide) d hd
    have x3 := d1 3 (by decide) (by decide) d hd
    have x4 := d1 4 (by decide) (by decide) d hd
    rw [show A + 5 + 1 = A + 6 by omega, show B + 5 + 1 = B + 6 by omega, k1 _ (by omega)] at x1
    rw [show A + 5 + 2 = A + 7 by omega, show B + 5 + 2 = B + 7 by omega, k1 _ (by omega)] at x2
    rw [show A + 5 + 3 = A + 8 by omega, show B + 5 + 3 = B + 8 by omega, k1 _ (by omega)] at x3
    rw [show A + 5 + 4 = A + 9 by omega, show B + 5 + 4 = B + 9 by omega, k1 _ (by omega)] at x4
    rw [x1, x2, x3, x4]
    exact h6 d hd
  · obtain ⟨np, o1, o2, o3, o4⟩ := h7
    refine ⟨np, o1, ?_, o3, fun p hp => ?_⟩
    · rw [k7 (A + 10) (by omega) (by omega) (by omega), g0, k2 _ (by omega) (by omega)]; exact o2
    · obtain ⟨s, s1, s2, s3, s4, s5⟩ := o4 p hp
      refine ⟨s, s1, s2, ?_, s4, fun i hi => ?_⟩
      · rw [k7 (A + 11) (by omega) (by omega) (by omega), show A + 11 = A + 10 + 1 by omega, g1 p (by omega), k2 _ (by omega) (by omega)]; exact s3
      · have x2 := g2 2 (by decide) (by decide) (12 * p + i) (by omega)
        have x3 := g2 3 (by decide) (by decide) (12 * p + i) (by omega)
        have x4 := g2 4 (by decide) (by decide) (12 * p + i) (by omega)
        rw [show A + 10 + 2 = A + 12 by omega, show B + 10 + 2 = B + 12 by omega, k2 _ (by omega) (by omega)] at x2
        rw [show A + 10 + 3 = A + 13 by omega, show B + 10 + 3 = B + 13 by omega, k2 _ (by omega) (by omega)] at x3
        rw [show A + 10 + 4 = A + 14 by omega, show B + 10 + 4 = B + 14 by omega, k2 _ (by omega) (by omega)] at x4
        rw [k7 (A + 12) (by omega) (by omega) (by omega), k7 (A + 13) (by omega) (by omega) (by omega), k7 (A + 14) (by omega) (by omega) (by omega), x2, x3, x4]
        exact s5 i hi
  · intro k hk
    rw [e7, mset_ne (by omega), e6, mset_ne (by omega), mput_eq, if_pos hk, mput_ne (by omega), kB _ (by omega) (by omega)]
    exact h8 k hk
theorem p_tear (hI : INV M) : PAIR w kX10_tear kX11_tear [] M := by
  obtain ⟨h1, ⟨k1, k2, k3⟩, h3, h4, h5, h6⟩ := hI
  refine csi_of (by decide) (Nat.le_of_ble_eq_true rfl) (vX10_tear_0 M _ (fun x1 e1 M1 e2 => ⟨_, rfl, ?_⟩))
  refine csi_of (by decide) (Nat.le_of_ble_eq_true rfl) (vX11_tear_0 M1 _ (fun y1 f1 M2 f2 => ⟨_, rfl, ?_, ?_⟩))
  · rw [e1, f1, e2, mset_ne (by decide)]
    exact b2i_iff (by rw [k1])
  · have fo : ∀ q, q ≠ 0 → q ≠ 59 → M2 q = M q := fun q a b => by rw [f2, mset_ne b, e2, mset_ne a]
    have f59 : ∀ j, j ≠ 2 → M2 59 j = M 59 j := fun j hj => by rw [f2, mset_eq, pk_un hj, e2, mset_ne (by decide)]
    have f592 : M2 59 2 = 0 := by rw [f2, mset_eq, pk_us]
    refine ⟨h1.same (fo 60 (by decide) (by decide)) (fun q a b c => fo q (by omega) (by omega)), ⟨?_, Or.inl f592, fun z => absurd f592 z⟩, ?_, ?_, ?_, ?_⟩
    · rw [f592, f2, mset_ne (by decide), e2, mset_eq, pk_us]
    · unfold iFound; rw [fo 2 (by decide) (by decide), fo 62 (by decide) (by decide)]; exact h3
    · unfold iTape; rw [fo 37 (by decide) (by decide), fo 38 (by decide) (by decide), fo 63 (by decide) (by decide), f59 6 (by decide)]; exact h4
    · exact h5.same (fun q a b => fo q (by omega) (by omega)) (fo 67 (by decide) (by decide)) (fo 68 (by decide) (by decide)) (fo 69 (by decide) (by decide))
    · rw [f59 4 (by decide)]; exact h6
theorem p_image (hI : INV M) : PAIR w kX10_image kX11_image [] M := by
  have hcr := hI.cr
  obtain ⟨h1, ⟨k1, k2, k3⟩, h3, h4, h5, h6⟩ := hI
  refine csi_of (by decide) (Nat.le_of_ble_eq_true rfl) (vX10_image_0 M _ (uX5_become (by decide) scene20 scene3 (by omega) hcr (fun M1 c1 f1 M2 e2 => ⟨_, rfl, ?_⟩)))
  refine csi_of (by decide) (Nat.le_of_ble_eq_true rfl) (vX11_image_0 M2 _ ?_)
  have FIN : ∀ M3 : Mem, (∀ q, q ≠ 61 → M3 q = M2 q) → (∀ j, j < 666 → M3 61 j = M2 60 j) → ∀ M4, M4 = mset M3 59 2 1 → INV M4 := by
    intro M3 a b M4 e4
    have fo : ∀ q, q ≠ 0 → q ≠ 59 → q ≠ 61 → (q < 20 ∨ 36 < q) → M4 q = M q := fun q x y z u => by rw [e4, mset_ne y, a q z, e2, mset_ne x]; exact f1 q (by omega)
    have f59 : ∀ j, j ≠ 2 → M4 59 j = M 59 j := fun j hj => by rw [e4, mset_eq, pk_un hj, a 59 (by decide), e2, mset_ne (by decide), f1 59 (by omega)]
    have f592 : M4 59 2 = 1 := by rw [e4, mset_eq, pk_us]
    refine ⟨h1.same (fo 60 (by decide) (by decide) (by decide) (by omega)) (fun q x y z => fo q (by omega) (by omega) (by omega) (by omega)), ⟨?_, Or.inr f592, fun _ => ?_⟩, ?_, ?_, ?_, ?_⟩
    · rw [f592, e4, mset_ne (by decide), a 0 (by decide), e2, mset_eq, pk_us]
    · refine SR_cR.mpr ((c1.same (fun q x y z => by rw [e4, mset_ne (by omega), a q (by omega), e2, mset_ne (by omega)])).cong (fun j hj => ?_))
      rw [e4, mset_ne (by decide), b j hj, e2, mset_ne (by decide), f1 60 (by omega)]
    · unfold iFound; rw [fo 2 (by decide) (by decide) (by decide) (by omega), fo 62 (by decide) (by decide) (by decide) (by omega)]; exact h3
    · unfold iTape; rw [fo 37 (by decide) (by decide) (by decide) (by omega), fo 38 (by decide) (by decide) (by decide) (by omega), fo 63 (by decide) (by decide) (by decide) (by omega), f59 6 (by decide)]; exact h4
    · exact h5.same (fun q x y => fo q (by omega) (by omega) (by omega) (by omega)) (fo 67 (by decide) (by decide) (by decide) (by omega)) (fo 68 (by decide) (by decide) (by decide) (by omega)) (fo 69 (by decide) (by decide) (by decide) (by omega))
    · rw [f59 4 (by decide)]; exact h6
  have L : ∀ n i, n + i = 666 → ∀ M3 : Mem, (∀ q, q ≠ 61 → M3 q = M2 q) → (∀ j, j < i → M3 61 j = M2 60 j) → RM w 12 kX11_image 2 [(0, .ref 59), (1, .int (nI i))] [] M3 (fun r M' => ∃ x, r = some (.int x) ∧ (1 : Int32) = x ∧ INV M') := by
    intro n
    induction n with
    | zero =>
      intro i hi M3 a b
      have : i = 666 := by omega
      subst this
      exact vX11_image_2 _ M3 _ ⟨fun _ M4 e4 => ⟨_, rfl, rfl, FIN M3 a b M4 e4⟩, fun q => absurd (by decide) q⟩
    | succ n ih =>
      intro i hi M3 a b
      have hin : vp_in (nI i) 666 := vp_in_nI (by omega) (by decide)
      refine vX11_image_2 _ M3 _ ⟨fun q => absurd q (nI_ge (b := 666) (by omega) (by decide)), fun _ => ⟨hin, hin, fun M4 e4 x1 ex => ?_⟩⟩
      rw [nI_clamp (by omega)] at e4
      rw [ex, nI_1]
      refine ih (i + 1) (by omega) M4 (fun q hq => by rw [e4, mset_ne hq]; exact a q hq) (fun j hj => ?_)
      rw [e4, mset_eq]
      by_cases hji : j = i
      · subst hji; rw [pk_us, a 60 (by decide)]
      · rw [pk_un hji]; exact b j (by omega)
  exact L 666 0 rfl M2 (fun _ _ => rfl) (fun j hj => absurd hj (by omega))
theorem p_undo (hI : INV M) : PAIR w kX10_undo kX11_undo [] M := by
  obtain ⟨k1, k2, k3⟩ := hI.2.1
  by_cases hk : M 59 2 = 0
  · refine pairQ hI (.inr 3) in3 (fun K hK => ?_) (fun M1 r K hK => ?_)
    · exact csi_of (by decide) (Nat.le_of_ble_eq_true rfl) (vX10_undo_0 M _ ⟨fun q => absurd (k1.trans hk) q, fun _ => tell3 (hK _ FR.refl)⟩)
    · exact csi_of (by decide) (Nat.le_of_ble_eq_true rfl) (vX11_undo_0 M1 _ ⟨fun q => absurd (r.2.1.trans hk) q, fun _ => find3 (hK _ FR.refl)⟩)
  · have c20 := SR_cR.mp (k3 hk)
    have hk0 : ¬ M 0 3 = 0 := by rw [k1]; exact hk
    refine csi_of (by decide) (Nat.le_of_ble_eq_true rfl) (vX10_undo_0 M _ ⟨fun _ => uX5_become (by decide) scene3 scene20 (by omega) c20 (fun M1 c1 f1 => uX0_howMany (by decide) c1.r ⟨_, rfl, ?_⟩), fun q => absurd q hk0⟩)
    have h592 : M1 59 = M 59 := f1 59 (by omega)
    refine csi_of (by decide) (Nat.le_of_ble_eq_true rfl) (vX11_undo_0 M1 _ ⟨fun _ => ?_, fun q => absurd q (by rw [h592]; exact hk)⟩)
    have L : ∀ n i, n + i = 666 → ∀ M3 : Mem, (∀ q, q ≠ 60 → M3 q = M1 q) → (∀ j, j < i → M3 60 j = M1 61 j) → RM w 12 kX11_undo 16 [(0, .ref 59), (1, .int (nI i))] [] M3 (fun r M' => ∃ x, r = some (.int x) ∧ nDrops (M 61) = x ∧ INV M') := by
      intro n
      induction n with
      | zero =>
        intro i hi M3 a b
        have : i = 666 := by omega
        subst this
        have ef : ∀ j, j < 666 → M3 60 j = M 61 j := fun j hj => by rw [b j hj, f1 61 (by omega)]
        refine vX11_undo_16 _ M3 _ ⟨fun _ => uX11_drops (by decide) ⟨_, rfl, ?_, ?_⟩, fun q => absurd (by decide) q⟩
        · exact sumN_c (fun k hk => by rw [ef _ (by omega)])
        · refine hI.scene ((c1.same (fun q x y z => a q (by omega))).cong ef) (fun q x y z => by rw [a q y]; exact f1 q (by omega)) ?_ ?_ ?_
          · rw [a 59 (by decide), h592]
          · rw [a 59 (by decide), h592]
          · rw [a 59 (by decide), h592]
      | succ n ih =>
        intro i hi M3 a b
        have hin : vp_in (nI i) 666 := vp_in_nI (by omega) (by decide)
        refine vX11_undo_16 _ M3 _ ⟨fun q => absurd q (nI_ge (b := 666) (by omega) (by decide)), fun _ => ⟨hin, hin, fun M4 e4 x1 ex => ?_⟩⟩
        rw [nI_clamp (by omega)] at e4
        rw [ex, nI_1]
        refine ih (i + 1) (by omega) M4 (fun q hq => by rw [e4, mset_ne hq]; exact a q hq) (fun j hj => ?_)
        rw [e4, mset_eq]
        by_cases hji : j = i
        · subst hji; rw [pk_us, a 61 (by decide)]
        · rw [pk_un hji]; exact b j (by omega)
    exact L 666 0 rfl M1 (fun _ _ => rfl) (fun j hj => absurd hj (by omega))
end F0

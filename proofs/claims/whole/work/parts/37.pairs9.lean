/-! ===== dropOf, next, pour, shed, hold, as ===== -/
theorem n6 (k : Nat) : 6 + nI k = nI (6 + k) := nI_add 6 k
theorem n656 (k : Nat) : 656 + nI k = nI (656 + k) := nI_add 656 k
theorem g_min {x : Int32} : (if x < 99 then x else (99 : Int32)) = if x ≤ 99 then x else 99 := by
  by_cases h : x = 99
  · subst h; decide
  · by_cases h2 : x < 99
    · rw [if_pos h2, if_pos (Int32.le_of_lt h2)]
    · rw [if_neg h2, if_neg (fun z => h2 (by grind))]
theorem g_min2 {x y : Int32} (h1 : 1 ≤ x) (h2 : x ≤ 99) (h3 : 1 ≤ y) (h4 : y ≤ 99) : 1 ≤ (if x + y ≤ 99 then x + y else (99 : Int32)) ∧ (if x + y ≤ 99 then x + y else (99 : Int32)) ≤ 99 := by
  split
  · rename_i q; exact ⟨by grind, q⟩
  · decide
theorem gDrop.wat {k c wa st f f' : Nat → Int32} {d : Nat} {v : Int32} (g : gDrop k c wa st f) (hd : d < 8) (hp : ¬ f (402 + 4 * d) < 0) (w0 : 1 ≤ v ∧ v ≤ 99) (e3 : f' (404 + 4 * d) = v) (eo : ∀ j, 402 ≤ j → j < 434 → j ≠ 404 + 4 * d → f' j = f j) : gDrop k c (upd wa d v) st f' := by
  intro d' hd'
  by_cases hdd : d' = d
  · subst hdd
    obtain ⟨-, b, c1, c2, c3, -, c5⟩ := (g d' hd').got hp
    unfold gDrop1
    rw [e3, pk_us, eo (402 + 4 * d') (by omega) (by omega) (by omega), eo (403 + 4 * d') (by omega) (by omega) (by omega), eo (405 + 4 * d') (by omega) (by omega) (by omega)]
    exact Or.inr ⟨w0, b, c1, c2, c3, rfl, c5⟩
  · unfold gDrop1
    rw [pk_un hdd, eo _ (by omega) (by omega) (by omega), eo _ (by omega) (by omega) (by omega), eo _ (by omega) (by omega) (by omega), eo _ (by omega) (by omega) (by omega)]
    exact g d' hd'
def nxK (k : Nat) : Nat := ([8, 0, 0, 2, 0, 4, 2, 1] : List Nat).getD k 8
def rkK (k : Nat) : Nat := ([1, 2, 2, 3, 2, 3, 3, 3] : List Nat).getD k 0
theorem nxT : ∀ k, k < 8 → (tabA k = -1 ∨ (tabA k = nI (nxK k) ∧ nxK k < 8 ∧ rkK (nxK k) < rkK k)) := by decide
theorem unT : ∀ k, k < 8 → ∀ a, a < 8 → (¬ nI k = nI a → und 8 (nI k) (nI a) = und 8 (tabA k) (nI a)) := by decide
theorem unT2 : ∀ k, k < 8 → (und 8 (nI k) (nI k) = true) := by decide
section D3
variable {w : Wd} {h : Nat} {M : Mem} {K : Int32 → Mem → Prop} {Kv : Mem → Prop} {f : Nat → Int32}
theorem uX11_isDrop (hh : 1 ≤ h) {d : Nat} (hd : d < 8) (hK : K (b2i (¬ M 60 (402 + 4 * d) < 0)) M) : CSi w h kX11_isDrop [.ref 59, .int (nI d)] M K := by
  obtain ⟨h, rfl⟩ : ∃ k, h = k + 1 := ⟨h - 1, by omega⟩
  exact csi_of (by decide) (Nat.le_of_ble_eq_true rfl) (vX11_isDrop_0 _ M _ ⟨fun q => absurd ⟨nI_pos' (by omega), nI_le (b := 7) (by omega) (by decide)⟩ q, fun _ => uX11_of hd 0 (by decide) rfl ⟨_, rfl, hK⟩⟩)
theorem p_dropOf (hI : INV M) {a0 a1 : Int32} : PAIR w kX10_dropOf kX11_dropOf [.int a0, .int a1] M := by
  by_cases hs : (0 ≤ a0 ∧ a0 ≤ 7) ∧ ((0 : Int32) ≤ a1 ∧ a1 ≤ (3 : Int32))
  · obtain ⟨hd, hv⟩ := id hs
    obtain ⟨d, hd8, rfl⟩ := nI_of2 (n := 7) rfl (Int32.not_lt.mpr hd.1) hd.2
    obtain ⟨j, hj, rfl⟩ := nI_of2 (n := 3) rfl (Int32.not_lt.mpr hv.1) hv.2
    have hcl : (nI d).toNatClampNeg = d := nI_clamp (by omega)
    have hin : vp_in (nI d) 8 := vp_in_nI (by omega) (by decide)
    by_cases hp : M 60 (402 + 4 * d) < 0
    · refine pairQ hI (.inr 3) in3 (fun K hK => ?_) (fun M1 r K hK => ?_)
      · exact csi_of (by decide) (Nat.le_of_ble_eq_true rfl) (vX10_dropOf_0 (by decide) _ _ M _ ⟨fun q => absurd hd q, fun _ => ⟨fun _ => thereA (by omega) hI.cr.r ⟨fun q => absurd (b2i_f (fun z => z hp)) q, fun _ => tell3 (hK _ FR.refl)⟩, fun q => absurd hv q⟩⟩)
      · refine csi_of (by decide) (Nat.le_of_ble_eq_true rfl) (vX11_dropOf_0 _ _ M1 _ ⟨fun q => absurd hd q, fun _ => ⟨fun _ => uX11_isDrop (by decide) (by omega) ?_, fun q => absurd hv q⟩⟩)
        rw [r.m60]
        exact ⟨fun _ => find3 (hK _ FR.refl), fun q => absurd (b2i_f (fun z => z hp)) q⟩
    · obtain ⟨-, -, g1, g2, -, g3, g4⟩ := (hI.cr.r d (by omega)).got hp
      refine pairQ hI (.inl (M 60 (402 + 4 * d + j))) inL' (fun K hK => ?_) (fun M1 r K hK => ?_)
      · have g := hK M FR.refl
        have e : j = 0 ∨ j = 1 ∨ j = 2 ∨ j = 3 := by omega
        refine csi_of (by decide) (Nat.le_of_ble_eq_true rfl) (vX10_dropOf_0 (by decide) _ _ M _ ⟨fun q => absurd hd q, fun _ => ⟨fun _ => thereA (by omega) hI.cr.r ⟨fun _ => ?_, fun q => absurd hp (b2i_0.mp q)⟩, fun q => absurd hv q⟩⟩)
        rw [hcl]
        rcases e with rfl | rfl | rfl | rfl
        · refine ⟨fun _ => ⟨hin, _, rfl, ?_⟩, fun q => absurd rfl q⟩
          show K (M (3 + 6) d) M
          rw [g1]; exact g
        · refine ⟨fun q => absurd q (by decide), fun _ => ⟨fun _ => ⟨hin, _, rfl, ?_⟩, fun q => absurd rfl q⟩⟩
          show K (M (3 + 7) d) M
          rw [g2, show 403 + 4 * d = 402 + 4 * d + 1 by omega]; exact g
        · refine ⟨fun q => absurd q (by decide), fun _ => ⟨fun q => absurd q (by decide), fun _ => ⟨fun _ => ⟨hin, _, rfl, ?_⟩, fun q => absurd rfl q⟩⟩⟩
          show K (M (3 + 8) d) M
          rw [g3, show 404 + 4 * d = 402 + 4 * d + 2 by omega]; exact g
        · refine ⟨fun q => absurd q (by decide), fun _ => ⟨fun q => absurd q (by decide), fun _ => ⟨fun q => absurd q (by decide), fun _ => ⟨hin, _, rfl, ?_⟩⟩⟩⟩
          show K (M (3 + 9) d) M
          rw [g4, show 405 + 4 * d = 402 + 4 * d + 3 by omega]; exact g
      · refine csi_of (by decide) (Nat.le_of_ble_eq_true rfl) (vX11_dropOf_0 _ _ M1 _ ⟨fun q => absurd hd q, fun _ => ⟨fun _ => uX11_isDrop (by decide) (by omega) ?_, fun q => absurd hv q⟩⟩)
        rw [r.m60]
        refine ⟨fun q => absurd hp (b2i_0.mp q), fun _ => uX11_of (by omega) j (by omega) rfl ⟨_, rfl, ?_⟩⟩
        rw [r.m60]; exact hK M1 FR.refl
  · refine pairQ hI (.inr 0) in0 (fun K hK => ?_) (fun M1 r K hK => ?_)
    · exact csi_of (by decide) (Nat.le_of_ble_eq_true rfl) (vX10_dropOf_0 (by decide) a0 a1 M _ ⟨fun _ => tell0 (hK _ FR.refl), fun q => ⟨fun q2 => absurd ⟨q, q2⟩ hs, fun _ => tell0 (hK _ FR.refl)⟩⟩)
    · exact csi_of (by decide) (Nat.le_of_ble_eq_true rfl) (vX11_dropOf_0 a0 a1 M1 _ ⟨fun _ => find0 (hK _ FR.refl), fun q => ⟨fun q2 => absurd ⟨q, q2⟩ hs, fun _ => find0 (hK _ FR.refl)⟩⟩)
theorem uX11_nextOf (hh : 6 ≤ h) {d : Nat} (hd : d < 8) (c0 : 0 ≤ M 60 (403 + 4 * d)) (c1 : M 60 (403 + 4 * d) ≤ 191) (hK : K (gt (dtR M) (wtR M) (M 60 0) (M 60 (402 + 4 * d)) (M 60 (403 + 4 * d)) (M 60 (404 + 4 * d)) (M 60 (405 + 4 * d))) M) : CSi w h kX11_nextOf [.ref 59, .int (nI d)] M K := by
  obtain ⟨h, rfl⟩ : ∃ k, h = k + 1 := ⟨h - 1, by omega⟩
  refine csi_of (by decide) (Nat.le_of_ble_eq_true rfl) (vX11_nextOf_0 _ M _ (uX11_of hd 0 (by decide) rfl (uX11_of hd 1 (by decide) rfl (uX11_of hd 2 (by decide) rfl (uX11_of hd 3 (by decide) rfl ?_)))))
  rw [show 402 + 4 * d + 0 = 402 + 4 * d by omega, show 402 + 4 * d + 1 = 403 + 4 * d by omega, show 402 + 4 * d + 2 = 404 + 4 * d by omega, show 402 + 4 * d + 3 = 405 + 4 * d by omega]
  exact uX11_goesTo (by omega) c0 c1 ⟨_, rfl, hK⟩
theorem p_next (hI : INV M) {a0 : Int32} : PAIR w kX10_next kX11_next [.int a0] M := by
  by_cases hd : 0 ≤ a0 ∧ a0 ≤ 7
  · obtain ⟨d, hd8, rfl⟩ := nI_of2 (n := 7) rfl (Int32.not_lt.mpr hd.1) hd.2
    have hcl : (nI d).toNatClampNeg = d := nI_clamp (by omega)
    have hin : vp_in (nI d) 8 := vp_in_nI (by omega) (by decide)
    by_cases hp : M 60 (402 + 4 * d) < 0
    · refine pairQ hI (.inr 3) in3 (fun K hK => ?_) (fun M1 r K hK => ?_)
      · exact csi_of (by decide) (Nat.le_of_ble_eq_true rfl) (vX10_next_0 (by decide) _ M _ ⟨fun _ => thereA (by omega) hI.cr.r ⟨fun q => absurd (b2i_f (fun z => z hp)) q, fun _ => tell3 (hK _ FR.refl)⟩, fun q => absurd hd q⟩)
      · refine csi_of (by decide) (Nat.le_of_ble_eq_true rfl) (vX11_next_0 _ M1 _ ⟨fun _ => uX11_isDrop (by decide) (by omega) ?_, fun q => absurd hd q⟩)
        rw [r.m60]
        exact ⟨fun _ => find3 (hK _ FR.refl), fun q => absurd (b2i_f (fun z => z hp)) q⟩
    · obtain ⟨-, g0, g1, g2, g5, g3, g4⟩ := (hI.cr.r d (by omega)).got hp
      rw [g2] at g5
      refine pairQ hI (.inl (gt (dtR M) (wtR M) (M 60 0) (M 60 (402 + 4 * d)) (M 60 (403 + 4 * d)) (M 60 (404 + 4 * d)) (M 60 (405 + 4 * d)))) inL' (fun K hK => ?_) (fun M1 r K hK => ?_)
      · refine csi_of (by decide) (Nat.le_of_ble_eq_true rfl) (vX10_next_0 (by decide) _ M _ ⟨fun _ => thereA (by omega) hI.cr.r ⟨fun _ => ⟨hin, hin, hin, hin, ?_⟩, fun q => absurd hp (b2i_0.mp q)⟩, fun q => absurd hd q⟩)
        rw [hcl, show M 9 d = _ from g1, show M 10 d = _ from g2, show M 11 d = _ from g3, show M 12 d = _ from g4]
        exact uX2_goal (by decide) pane4 hI.pane g5.1 g5.2 (fun fl => ⟨_, rfl, hK _ (FR.c (fun q hq => mput_ne (by omega)))⟩)
      · refine csi_of (by decide) (Nat.le_of_ble_eq_true rfl) (vX11_next_0 _ M1 _ ⟨fun _ => uX11_isDrop (by decide) (by omega) ?_, fun q => absurd hd q⟩)
        rw [r.m60]
        refine ⟨fun q => absurd hp (b2i_0.mp q), fun _ => uX11_nextOf (by decide) (by omega) (by rw [r.m60]; exact g5.1) (by rw [r.m60]; exact g5.2) ⟨_, rfl, ?_⟩⟩
        rw [dtR_rf r, wtR_rf r, r.m60]; exact hK M1 FR.refl
  · refine pairQ hI (.inr 0) in0 (fun K hK => ?_) (fun M1 r K hK => ?_)
    · exact csi_of (by decide) (Nat.le_of_ble_eq_true rfl) (vX10_next_0 (by decide) a0 M _ ⟨fun q => absurd q hd, fun _ => tell0 (hK _ FR.refl)⟩)
    · exact csi_of (by decide) (Nat.le_of_ble_eq_true rfl) (vX11_next_0 a0 M1 _ ⟨fun q => absurd q hd, fun _ => find0 (hK _ FR.refl)⟩)
theorem uX0_addWater (hh : 1 ≤ h) {d : Nat} (hd : d < 8) {a1 : Int32} (hK : Kv (mset M 11 d (if M 11 d + a1 ≤ 99 then M 11 d + a1 else 99))) : CSv w h kX0_addWater [.ref 8, .int (nI d), .int a1] M Kv := by
  obtain ⟨h, rfl⟩ : ∃ k, h = k + 1 := ⟨h - 1, by omega⟩
  have hin : vp_in (nI d) 8 := vp_in_nI (by omega) (by decide)
  refine csv_of (by decide) (Nat.le_of_ble_eq_true rfl) (vX0_addWater_0 _ a1 M _ ⟨hin, hin, fun M1 e1 => ⟨rfl, ?_⟩⟩)
  rw [nI_clamp (by omega), g_min] at e1
  rw [e1]; exact hK
theorem p_pour (hI : INV M) {a0 a1 : Int32} : PAIR w kX10_pour kX11_pour [.int a0, .int a1] M := by
  by_cases hs : (0 ≤ a0 ∧ a0 ≤ 7) ∧ (1 ≤ a1 ∧ a1 ≤ 99)
  · obtain ⟨hd, hv⟩ := id hs
    obtain ⟨d, hd8, rfl⟩ := nI_of2 (n := 7) rfl (Int32.not_lt.mpr hd.1) hd.2
    have hcl : (nI d).toNatClampNeg = d := nI_clamp (by omega)
    have hin : vp_in (nI d) 8 := vp_in_nI (by omega) (by decide)
    by_cases hp : M 60 (402 + 4 * d) < 0
    · refine pairQ hI (.inr 3) in3 (fun K hK => ?_) (fun M1 r K hK => ?_)
      · exact csi_of (by decide) (Nat.le_of_ble_eq_true rfl) (vX10_pour_0 (by decide) _ _ M _ ⟨fun q => absurd hd q, fun _ => ⟨fun _ => thereA (by omega) hI.cr.r ⟨fun q => absurd (b2i_f (fun z => z hp)) q, fun _ => tell3 (hK _ FR.refl)⟩, fun q => absurd hv q⟩⟩)
      · refine csi_of (by decide) (Nat.le_of_ble_eq_true rfl) (vX11_pour_0 (by decide) _ _ M1 _ ⟨fun q => absurd hd q, fun _ => ⟨fun _ => uX11_isDrop (by decide) (by omega) ?_, fun q => absurd hv q⟩⟩)
        rw [r.m60]
        exact ⟨fun q => absurd (b2i_f (fun z => z hp)) q, fun _ => find3 (hK _ FR.refl)⟩
    · obtain ⟨g9, g0, g1, g2, g5, g3, g4⟩ := (hI.cr.r d (by omega)).got hp
      have g3' : M 11 d = M 60 (404 + 4 * d) := g3
      have b := g_min2 g9.1 g9.2 hv.1 hv.2
      rw [g3] at b
      refine pairS hI (if M 60 (404 + 4 * d) + a1 ≤ 99 then M 60 (404 + 4 * d) + a1 else 99) (upd (M 60) (404 + 4 * d) (if M 60 (404 + 4 * d) + a1 ≤ 99 then M 60 (404 + 4 * d) + a1 else 99)) (fun K hK => ?_) (fun M1 e60 e4 K hK => ?_)
      · refine csi_of (by decide) (Nat.le_of_ble_eq_true rfl) (vX10_pour_0 (by decide) _ _ M _ ⟨fun q => absurd hd q, fun _ => ⟨fun _ => thereA (by omega) hI.cr.r ⟨fun _ => uX0_addWater (by decide) (by omega) ⟨hin, _, rfl, ?_⟩, fun q => absurd hp (b2i_0.mp q)⟩, fun q => absurd hv q⟩⟩)
        rw [hcl, mset_eq, pk_us, g3']
        refine hK _ (hI.cr.uDrop (fun q hq => mset_ne (by omega)) (fun j hj => pk_un (by omega)) ?_) (FS.of (fun q hq => mset_ne (by omega)))
        rw [mset_ne (by decide), mset_ne (by decide), mset_ne (k' := 3 + 9) (by decide), show mset M 11 d _ (3 + 8) = upd (M 11) d _ from mset_eq]
        exact hI.cr.r.wat (by omega) hp b pk_us (fun j _ _ hj => pk_un hj)
      · refine csi_of (by decide) (Nat.le_of_ble_eq_true rfl) (vX11_pour_0 (by decide) _ _ M1 _ ⟨fun q => absurd hd q, fun _ => ⟨fun _ => uX11_isDrop (by decide) (by omega) ?_, fun q => absurd hv q⟩⟩)
        rw [e60]
        have t2 : nI (402 + 4 * d) + 2 = nI (404 + 4 * d) := (nI_add _ 2).trans (by congr 1; omega)
        refine ⟨fun _ => uX11_of (by omega) 2 (by decide) rfl (fun x1 e1 => ?_), fun q => absurd hp (b2i_0.mp q)⟩
        rw [show 402 + 4 * d + 2 = 404 + 4 * d by omega, e60] at e1
        rw [n402 (by omega), t2, nI_clamp (by omega), e1]
        refine ⟨vp_in_nI (by omega) (by decide), fun M3 e3 => uX11_of (by omega) 2 (by decide) rfl ⟨_, rfl, ?_⟩⟩
        rw [show 402 + 4 * d + 2 = 404 + 4 * d by omega, e3, mset_eq, pk_us]
        exact hK _ (by rw [mset_eq, e60]) (FX60.of (fun q hq => mset_ne hq))
  · refine pairQ hI (.inr 0) in0 (fun K hK => ?_) (fun M1 r K hK => ?_)
    · exact csi_of (by decide) (Nat.le_of_ble_eq_true rfl) (vX10_pour_0 (by decide) a0 a1 M _ ⟨fun _ => tell0 (hK _ FR.refl), fun q => ⟨fun q2 => absurd ⟨q, q2⟩ hs, fun _ => tell0 (hK _ FR.refl)⟩⟩)
    · exact csi_of (by decide) (Nat.le_of_ble_eq_true rfl) (vX11_pour_0 (by decide) a0 a1 M1 _ ⟨fun _ => find0 (hK _ FR.refl), fun q => ⟨fun q2 => absurd ⟨q, q2⟩ hs, fun _ => find0 (hK _ FR.refl)⟩⟩)
theorem p_shed (hI : INV M) {a0 : Int32} : PAIR w kX10_shed kX11_shed [.int a0] M := by
  by_cases hm : a0 = -1
  · subst hm
    refine pairQ hI (.inl (sumN (fun k => M 60 (6 + k)) 12)) inL' (fun K hK => ?_) (fun M1 r K hK => ?_)
    · refine csi_of (by decide) (Nat.le_of_ble_eq_true rfl) (vX10_shed_0 (by decide) _ M _ ⟨fun q => absurd rfl q, fun _ => uX10_sumOf (la := 12) rfl (by decide) (by decide) ⟨_, rfl, ?_⟩⟩)
      rw [sumN_c (fun k hk => (hI.cr.h k hk : M 18 k = _))]
      exact hK M FR.refl
    · refine csi_of (by decide) (Nat.le_of_ble_eq_true rfl) (vX11_shed_0 _ M1 _ ⟨fun _ => ?_, fun q => absurd (by decide) q⟩)
      have L : ∀ k, k ≤ 12 → RM w 12 kX11_shed 25 [(0, .ref 59), (1, .int (-1)), (2, .int (sumN (fun k => M 60 (6 + k)) k)), (3, .int (nI k))] [] M1 (fun r M' => ∃ x, r = some (.int x) ∧ K x M') := by
        refine up_ind ?_ (fun k hk ih => ?_)
        · exact vX11_shed_25 _ _ _ M1 _ ⟨fun _ => ⟨_, rfl, hK M1 FR.refl⟩, fun q => absurd (by decide) q⟩
        · refine vX11_shed_25 _ _ _ M1 _ ⟨fun q => absurd q (nI_ge (b := 12) hk (by decide)), fun _ => ⟨fun _ => ⟨by rw [n6]; exact vp_in_nI (by omega) (by decide), fun x1 e1 x2 e2 => ?_⟩, fun q => absurd (by decide) q⟩⟩
          rw [n6, nI_clamp (by omega), r.m60] at e1
          rw [e2, nI_1, e1]; exact ih
      exact L 0 (by decide)
  · by_cases hs : 0 ≤ a0 ∧ a0 ≤ 11
    · obtain ⟨c, hc, rfl⟩ := nI_of2 (n := 11) rfl (Int32.not_lt.mpr hs.1) hs.2
      refine pairQ hI (.inl (M 60 (6 + c))) inL' (fun K hK => ?_) (fun M1 r K hK => ?_)
      · refine csi_of (by decide) (Nat.le_of_ble_eq_true rfl) (vX10_shed_0 (by decide) _ M _ ⟨fun _ => ⟨fun _ => ⟨vp_in_nI (by omega) (by decide), _, rfl, ?_⟩, fun q => absurd hs q⟩, fun q => absurd q hm⟩)
        rw [nI_clamp (by omega), show M 18 c = _ from hI.cr.h c (by omega)]
        exact hK M FR.refl
      · refine csi_of (by decide) (Nat.le_of_ble_eq_true rfl) (vX11_shed_0 _ M1 _ ⟨fun _ => ?_, fun q => absurd ⟨Int32.le_trans (by decide) hs.1, hs.2⟩ q⟩)
        have L : ∀ k, k ≤ 12 → RM w 12 kX11_shed 25 [(0, .ref 59), (1, .int (nI c)), (2, .int (if k ≤ c then 0 else M 60 (6 + c))), (3, .int (nI k))] [] M1 (fun r M' => ∃ x, r = some (.int x) ∧ K x M') := by
          refine up_ind ?_ (fun k hk ih => ?_)
          · rw [if_neg (by omega)]
            exact vX11_shed_25 _ _ _ M1 _ ⟨fun _ => ⟨_, rfl, hK M1 FR.refl⟩, fun q => absurd (by decide) q⟩
          · refine vX11_shed_25 _ _ _ M1 _ ⟨fun q => absurd q (nI_ge (b := 12) hk (by decide)), fun _ => ⟨fun q => absurd q (nI_pos (by omega)), fun _ => ⟨fun q x1 e1 x2 e2 => ?_, fun q => ⟨by rw [n6]; exact vp_in_nI (by omega) (by decide), fun x1 e1 x2 e2 => ?_⟩⟩⟩⟩
            · have hne : k ≠ c := fun z => q (by rw [z])
              rw [e2, nI_1, e1, g_a0]
              by_cases hkc : k ≤ c
              · rw [if_pos hkc]; rw [if_pos (by omega)] at ih; exact ih
              · rw [if_neg hkc]; rw [if_neg (by omega)] at ih; exact ih
            · have heq : k = c := (nI_eq (by omega) (by omega)).mp q
              subst heq
              rw [n6, nI_clamp (by omega), r.m60, if_pos (Nat.le_refl _)] at e1
              rw [if_neg (by omega)] at ih
              rw [e2, nI_1, e1, show (0 : Int32) + M 60 (6 + k) = M 60 (6 + k) by simp]; exact ih
        have := L 0 (by decide)
        rw [if_pos (by omega)] at this
        exact this
    · refine pairQ hI (.inr 0) in0 (fun K hK => ?_) (fun M1 r K hK => ?_)
      · exact csi_of (by decide) (Nat.le_of_ble_eq_true rfl) (vX10_shed_0 (by decide) a0 M _ ⟨fun _ => ⟨fun q => absurd q hs, fun _ => tell0 (hK _ FR.refl)⟩, fun q => absurd q hm⟩)
      · refine csi_of (by decide) (Nat.le_of_ble_eq_true rfl) (vX11_shed_0 a0 M1 _ ⟨fun q => absurd q (fun z => hs ⟨?_, z.2⟩), fun _ => find0 (hK _ FR.refl)⟩)
        have z1 := z.1
        clear z q hs hK hI
        grind
theorem p_hold (hI : INV M) {a0 a1 : Int32} : PAIR w kX10_hold kX11_hold [.int a0, .int a1] M := by
  by_cases hs : (0 ≤ a0 ∧ a0 ≤ 9) ∧ (((-1) : Int32) ≤ a1 ∧ a1 ≤ (7 : Int32))
  · obtain ⟨hd, hv⟩ := id hs
    obtain ⟨s, hs9, rfl⟩ := nI_of2 (n := 9) rfl (Int32.not_lt.mpr hd.1) hd.2
    have hcl : (nI s).toNatClampNeg = s := nI_clamp (by omega)
    have hin : vp_in (nI s) 10 := vp_in_nI (by omega) (by decide)
    have hin6 : vp_in (656 + nI s) 666 := by rw [n656]; exact vp_in_nI (by omega) (by decide)
    have hc6 : (656 + nI s).toNatClampNeg = 656 + s := by rw [n656, nI_clamp (by omega)]
    have UP : ∀ M', M' = mset M 19 s a1 → cR 3 M' (upd (M 60) (656 + s) a1) ∧ FS M M' := by
      intro M' e
      refine ⟨hI.cr.uSpot (fun q hq => by rw [e]; exact mset_ne hq) (fun j hj => pk_un (by omega)) (fun k hk => ?_), FS.of (fun q hq => by rw [e]; exact mset_ne (by omega))⟩
      have e5 : M' (3 + 16) = upd (M 19) s a1 := by rw [e]; exact mset_eq
      rw [e5]
      by_cases hks : k = s
      · subst hks; rw [pk_us, pk_us]; exact ⟨rfl, hv⟩
      · rw [pk_un hks, pk_un (by omega)]; exact hI.cr.t k hk
    by_cases hm : a1 = -1
    · refine pairS hI 1 (upd (M 60) (656 + s) a1) (fun K hK => ?_) (fun M1 e60 e4 K hK => ?_)
      · refine csi_of (by decide) (Nat.le_of_ble_eq_true rfl) (vX10_hold_0 (by decide) _ _ M _ ⟨fun q => absurd hd q, fun _ => ⟨fun _ => ⟨fun _ => ⟨hin, fun M1 e1 => ⟨_, rfl, ?_⟩⟩, fun q => absurd hm q⟩, fun q => absurd hv q⟩⟩)
        rw [hcl] at e1
        exact hK M1 (UP M1 e1).1 (UP M1 e1).2
      · refine csi_of (by decide) (Nat.le_of_ble_eq_true rfl) (vX11_hold_0 _ _ M1 _ ⟨fun q => absurd hd q, fun _ => ⟨fun _ => ⟨fun _ => ⟨hin6, fun M2 e2 => ⟨_, rfl, ?_⟩⟩, fun q => absurd (by rw [hm]; decide) q⟩, fun q => absurd hv q⟩⟩)
        rw [hc6] at e2
        exact hK M2 (by rw [e2, mset_eq, e60]) (FX60.of (fun q hq => by rw [e2]; exact mset_ne hq))
    · have h0 : 0 ≤ a1 := by
        have z1 := hv.1
        clear hv UP hs hI
        grind
      obtain ⟨d, hd8, rfl⟩ := nI_of2 (n := 7) rfl (Int32.not_lt.mpr h0) hv.2
      by_cases hp : M 60 (402 + 4 * d) < 0
      · refine pairQ hI (.inr 3) in3 (fun K hK => ?_) (fun M1 r K hK => ?_)
        · exact csi_of (by decide) (Nat.le_of_ble_eq_true rfl) (vX10_hold_0 (by decide) _ _ M _ ⟨fun q => absurd hd q, fun _ => ⟨fun _ => ⟨fun q => absurd q hm, fun _ => thereA (by omega) hI.cr.r ⟨fun q => absurd (b2i_f (fun z => z hp)) q, fun _ => tell3 (hK _ FR.refl)⟩⟩, fun q => absurd hv q⟩⟩)
        · refine csi_of (by decide) (Nat.le_of_ble_eq_true rfl) (vX11_hold_0 _ _ M1 _ ⟨fun q => absurd hd q, fun _ => ⟨fun _ => ⟨fun q => absurd q (nI_pos (by omega)), fun _ => uX11_isDrop (by decide) (by omega) ?_⟩, fun q => absurd hv q⟩⟩)
          rw [r.m60]
          exact ⟨fun q => absurd (b2i_f (fun z => z hp)) q, fun _ => find3 (hK _ FR.refl)⟩
      · refine pairS hI 1 (upd (M 60) (656 + s) (nI d)) (fun K hK => ?_) (fun M1 e60 e4 K hK => ?_)
        · refine csi_of (by decide) (Nat.le_of_ble_eq_true rfl) (vX10_hold_0 (by decide) _ _ M _ ⟨fun q => absurd hd q, fun _ => ⟨fun _ => ⟨fun q => absurd q hm, fun _ => thereA (by omega) hI.cr.r ⟨fun _ => ⟨hin, fun M1 e1 => ⟨_, rfl, ?_⟩⟩, fun q => absurd hp (b2i_0.mp q)⟩⟩, fun q => absurd hv q⟩⟩)
          rw [hcl] at e1
          exact hK M1 (UP M1 e1).1 (UP M1 e1).2
        · refine csi_of (by decide) (Nat.le_of_ble_eq_true rfl) (vX11_hold_0 _ _ M1 _ ⟨fun q => absurd hd q, fun _ => ⟨fun _ => ⟨fun q => absurd q (nI_pos (by omega)), fun _ => uX11_isDrop (by decide) (by omega) ?_⟩, fun q => absurd hv q⟩⟩)
          rw [e60]
          refine ⟨fun _ => ⟨hin6, fun M2 e2 => ⟨_, rfl, ?_⟩⟩, fun q => absurd hp (b2i_0.mp q)⟩
          rw [hc6] at e2
          exact hK M2 (by rw [e2, mset_eq, e60]) (FX60.of (fun q hq => by rw [e2]; exact mset_ne hq))
  · refine pairQ hI (.inr 0) in0 (fun K hK => ?_) (fun M1 r K hK => ?_)
    · exact csi_of (by decide) (Nat.le_of_ble_eq_true rfl) (vX10_hold_0 (by decide) a0 a1 M _ ⟨fun _ => tell0 (hK _ FR.refl), fun q => ⟨fun q2 => absurd ⟨q, q2⟩ hs, fun _ => tell0 (hK _ FR.refl)⟩⟩)
    · exact csi_of (by decide) (Nat.le_of_ble_eq_true rfl) (vX11_hold_0 a0 a1 M1 _ ⟨fun _ => find0 (hK _ FR.refl), fun q => ⟨fun q2 => absurd ⟨q, q2⟩ hs, fun _ => find0 (hK _ FR.refl)⟩⟩)
theorem uX11_above {k : Nat} (hk : k < 8) (hK : K (tabA k) M) : CSi w h kX11_above [.int (nI k)] M K := by
  refine csi_of (by decide) (Nat.le_of_ble_eq_true rfl) (vX11_above_0 _ M _ ?_)
  have : k = 0 ∨ k = 1 ∨ k = 2 ∨ k = 3 ∨ k = 4 ∨ k = 5 ∨ k = 6 ∨ k = 7 := by omega
  refine ⟨fun q => ⟨_, rfl, ?_⟩, fun q0 => ⟨fun q => ⟨_, rfl, ?_⟩, fun q1 => ⟨fun q => ⟨_, rfl, ?_⟩, fun q2 => ⟨fun q => ⟨_, rfl, ?_⟩, fun q3 => ⟨fun q => ⟨_, rfl, ?_⟩, fun q4 => ⟨fun q => ⟨_, rfl, ?_⟩, fun q5 => ⟨fun q => ⟨_, rfl, ?_⟩, fun q6 => ⟨fun q => ⟨_, rfl, ?_⟩, fun q7 => ?_⟩⟩⟩⟩⟩⟩⟩⟩
  · have : k = 0 := (nI_eq (b := 0) (by omega) (by decide)).mp q
    subst this; exact hK
  · have : k = 1 := (nI_eq (b := 1) (by omega) (by decide)).mp q
    subst this; exact hK
  · have : k = 2 := (nI_eq (b := 2) (by omega) (by decide)).mp q
    subst this; exact hK
  · have : k = 3 := (nI_eq (b := 3) (by omega) (by decide)).mp q
    subst this; exact hK
  · have : k = 4 := (nI_eq (b := 4) (by omega) (by decide)).mp q
    subst this; exact hK
  · have : k = 5 := (nI_eq (b := 5) (by omega) (by decide)).mp q
    subst this; exact hK
  · have : k = 6 := (nI_eq (b := 6) (by omega) (by decide)).mp q
    subst this; exact hK
  · have : k = 7 := (nI_eq (b := 7) (by omega) (by decide)).mp q
    subst this; exact hK
  · rcases this with rfl | rfl | rfl | rfl | rfl | rfl | rfl | rfl
    · exact absurd rfl q0
    · exact absurd rfl q1
    · exact absurd rfl q2
    · exact absurd rfl q3
    · exact absurd rfl q4
    · exact absurd rfl q5
    · exact absurd rfl q6
    · exact absurd rfl q7
theorem p_as (hI : INV M) {a0 a1 : Int32} : PAIR w kX10_as kX11_as [.int a0, .int a1] M := by
  by_cases hs : (0 ≤ a0 ∧ a0 ≤ 9) ∧ (0 ≤ a1 ∧ a1 ≤ 7)
  · obtain ⟨hd, hv⟩ := id hs
    obtain ⟨s, hs9, rfl⟩ := nI_of2 (n := 9) rfl (Int32.not_lt.mpr hd.1) hd.2
    obtain ⟨a, ha7, rfl⟩ := nI_of2 (n := 7) rfl (Int32.not_lt.mpr hv.1) hv.2
    have hcl : (nI s).toNatClampNeg = s := nI_clamp (by omega)
    have hin : vp_in (nI s) 10 := vp_in_nI (by omega) (by decide)
    have hin6 : vp_in (656 + nI s) 666 := by rw [n656]; exact vp_in_nI (by omega) (by decide)
    have hc6 : (656 + nI s).toNatClampNeg = 656 + s := by rw [n656, nI_clamp (by omega)]
    obtain ⟨t1, t2, t3⟩ := hI.cr.t s (by omega)
    have t1' : M 19 s = M 60 (656 + s) := t1
    rw [t1] at t2 t3
    by_cases h0 : 0 ≤ M 60 (656 + s)
    · obtain ⟨d, hd8, ed⟩ := nI_of2 (n := 7) rfl (Int32.not_lt.mpr h0) t3
      by_cases hp : M 60 (402 + 4 * d) < 0
      · refine pairQ hI (.inr 5) in5 (fun K hK => ?_) (fun M1 r K hK => ?_)
        · refine csi_of (by decide) (Nat.le_of_ble_eq_true rfl) (vX10_as_0 (by decide) _ _ M _ ⟨fun q => absurd hd q, fun _ => ⟨fun _ => ⟨hin, fun x1 e1 => ?_⟩, fun q => absurd hv q⟩⟩)
          rw [hcl, t1', ed] at e1
          rw [e1]
          exact ⟨fun _ => tell5 (hK _ FR.refl), fun _ => thereA (by omega) hI.cr.r ⟨fun q => absurd (b2i_f (fun z => z hp)) q, fun _ => tell5 (hK _ FR.refl)⟩⟩
        · refine csi_of (by decide) (Nat.le_of_ble_eq_true rfl) (vX11_as_0 (by decide) _ _ M1 _ ⟨fun q => absurd hd q, fun _ => ⟨fun _ => ⟨hin6, fun x1 e1 => ?_⟩, fun q => absurd hv q⟩⟩)
          rw [hc6, r.m60, ed] at e1
          rw [e1]
          refine uX11_isDrop (by decide) (by omega) ?_
          rw [r.m60]
          exact ⟨fun q => absurd (b2i_f (fun z => z hp)) q, fun _ => find5 (hK _ FR.refl)⟩
      · obtain ⟨-, g0, g1, -⟩ := (hI.cr.r d (by omega)).got hp
        obtain ⟨k, hk7, ek⟩ := nI_of2 (n := 7) rfl (Int32.not_lt.mpr g0.1) g0.2
        have g1' : M 9 d = nI k := by rw [← ek]; exact g1
        refine pairQ hI (if und 8 (nI k) (nI a) = true then .inl (nI d) else .inr 2) (fun j e => ?_) (fun K hK => ?_) (fun M1 r K hK => ?_)
        · split at e <;> cases e; decide
        · have g := hK M FR.refl
          refine csi_of (by decide) (Nat.le_of_ble_eq_true rfl) (vX10_as_0 (by decide) _ _ M _ ⟨fun q => absurd hd q, fun _ => ⟨fun _ => ⟨hin, fun x1 e1 => ?_⟩, fun q => absurd hv q⟩⟩)
          rw [hcl, t1', ed] at e1
          rw [e1]
          refine ⟨fun q => absurd ⟨nI_pos' (by omega), nI_le (b := 7) (by omega) (by decide)⟩ q, fun _ => thereA (by omega) hI.cr.r ⟨fun _ => ⟨vp_in_nI (by omega) (by decide), ?_⟩, fun q => absurd hp (b2i_0.mp q)⟩⟩
          rw [nI_clamp (by omega), g1']
          refine uX10_isUnder (by decide) ⟨fun q => tell2 ?_, fun q => ⟨_, rfl, ?_⟩⟩
          · rw [b2i_0] at q; rw [if_neg q] at g; exact g
          · rw [b2n] at q; rw [if_pos q] at g; exact g
        · have g := hK M1 FR.refl
          refine csi_of (by decide) (Nat.le_of_ble_eq_true rfl) (vX11_as_0 (by decide) _ _ M1 _ ⟨fun q => absurd hd q, fun _ => ⟨fun _ => ⟨hin6, fun x1 e1 => ?_⟩, fun q => absurd hv q⟩⟩)
          rw [hc6, r.m60, ed] at e1
          rw [e1]
          refine uX11_isDrop (by decide) (by omega) ?_
          rw [r.m60]
          refine ⟨fun _ => uX11_of (by omega) 0 (by decide) rfl ?_, fun q => absurd hp (b2i_0.mp q)⟩
          rw [show 402 + 4 * d + 0 = 402 + 4 * d by omega, r.m60, ek]
          have L : ∀ n k, k < 8 → rkK k < n → finR (if und 8 (nI k) (nI a) = true then .inl (nI d) else .inr 2) M1 K → RM w 12 kX11_as 61 [(0, .ref 59), (2, .int (nI a)), (3, .int (nI d)), (4, .int (nI k))] [] M1 (fun r M' => ∃ x, r = some (.int x) ∧ K x M') := by
            intro n
            induction n with
            | zero => intro k _ hn; exact absurd hn (by omega)
            | succ n ih =>
              intro k hk hn g
              refine vX11_as_61 (by decide) _ _ _ M1 _ ⟨fun q => absurd q (nI_pos (by omega)), fun _ => ⟨fun q => uX11_above hk ?_, fun q => ⟨_, rfl, ?_⟩⟩⟩
              · rw [unT k hk a (by omega) q] at g
                rcases nxT k hk with z | ⟨z, z2, z3⟩
                · rw [z] at g ⊢
                  refine vX11_as_61 (by decide) _ _ _ M1 _ ⟨fun _ => find2 ?_, fun q => absurd (by decide) q⟩
                  rw [if_neg (by rw [show und 8 (-1) (nI a) = false from rfl]; decide)] at g
                  exact g
                · rw [z] at g ⊢
                  exact ih (nxK k) z2 (by omega) g
              · rw [q, if_pos (unT2 a (by omega))] at g; exact g
          exact L 9 k (by omega) (by have T : ∀ k, k < 8 → rkK k < 9 := by decide
                                     exact T k (by omega)) g
    · refine pairQ hI (.inr 5) in5 (fun K hK => ?_) (fun M1 r K hK => ?_)
      · refine csi_of (by decide) (Nat.le_of_ble_eq_true rfl) (vX10_as_0 (by decide) _ _ M _ ⟨fun q => absurd hd q, fun _ => ⟨fun _ => ⟨hin, fun x1 e1 => ?_⟩, fun q => absurd hv q⟩⟩)
        rw [hcl, t1'] at e1
        rw [e1]
        exact ⟨fun _ => tell5 (hK _ FR.refl), fun q => absurd q.1 h0⟩
      · refine csi_of (by decide) (Nat.le_of_ble_eq_true rfl) (vX11_as_0 (by decide) _ _ M1 _ ⟨fun q => absurd hd q, fun _ => ⟨fun _ => ⟨hin6, fun x1 e1 => ?_⟩, fun q => absurd hv q⟩⟩)
        rw [hc6, r.m60] at e1
        refine csi_of (by decide) (Nat.le_of_ble_eq_true rfl) (vX11_isDrop_0 _ M1 _ ⟨fun _ => ⟨_, rfl, ?_⟩, fun q => absurd q.1 (by rw [e1]; exact h0)⟩)
        exact ⟨fun q => absurd rfl q, fun _ => find5 (hK _ FR.refl)⟩
  · refine pairQ hI (.inr 0) in0 (fun K hK => ?_) (fun M1 r K hK => ?_)
    · exact csi_of (by decide) (Nat.le_of_ble_eq_true rfl) (vX10_as_0 (by decide) a0 a1 M _ ⟨fun _ => tell0 (hK _ FR.refl), fun q => ⟨fun q2 => absurd ⟨q, q2⟩ hs, fun _ => tell0 (hK _ FR.refl)⟩⟩)
    · exact csi_of (by decide) (Nat.le_of_ble_eq_true rfl) (vX11_as_0 (by decide) a0 a1 M1 _ ⟨fun _ => find0 (hK _ FR.refl), fun q => ⟨fun q2 => absurd ⟨q, q2⟩ hs, fun _ => find0 (hK _ FR.refl)⟩⟩)
end D3

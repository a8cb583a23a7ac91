/-! ===== dirt, set, seed, cellOf, fades ===== -/
theorem n402 {d : Nat} (h : d < 8) : 402 + 4 * nI d = nI (402 + 4 * d) := by
  have T : ∀ d, d < 8 → 402 + 4 * nI d = nI (402 + 4 * d) := by decide
  exact T d h
theorem gDrop1.there {k c wa st f : Nat → Int32} {d : Nat} (h : gDrop1 k c wa st f d) : wa d ≤ 0 ↔ f (402 + 4 * d) < 0 := by
  rcases h with ⟨a, b⟩ | ⟨⟨a, -⟩, ⟨b, -⟩, -⟩
  · rw [a, b]; decide
  · exact ⟨fun z => absurd z (g_pos a), fun z => absurd b (Int32.not_le.mpr z)⟩
theorem gDrop1.got {k c wa st f : Nat → Int32} {d : Nat} (h : gDrop1 k c wa st f d) (hf : ¬ f (402 + 4 * d) < 0) : (1 ≤ wa d ∧ wa d ≤ 99) ∧ (0 ≤ f (402 + 4 * d) ∧ f (402 + 4 * d) ≤ 7) ∧ k d = f (402 + 4 * d) ∧ c d = f (403 + 4 * d) ∧ (0 ≤ c d ∧ c d ≤ 191) ∧ wa d = f (404 + 4 * d) ∧ st d = f (405 + 4 * d) := by
  rcases h with ⟨a, b⟩ | h
  · rw [b] at hf; exact absurd (by decide) hf
  · exact h
def lsOn (f : Nat → Int32) (pl : Int32) : Nat → Nat → Int32
  | 0, _ => -1
  | n + 1, i => if ¬ f (402 + 4 * i) < 0 ∧ f (403 + 4 * i) = pl then nI i else lsOn f pl n (i + 1)
section D0
variable {w : Wd} {h : Nat} {M : Mem} {K : Int32 → Mem → Prop} {f : Nat → Int32}
theorem uX11_of {d : Nat} (hd : d < 8) (j : Nat) (hj : j < 4) {a1 : Int32} (ha : a1 = nI j) (hK : K (M 60 (402 + 4 * d + j)) M) : CSi w h kX11_of [.ref 59, .int (nI d), .int a1] M K := by
  refine csi_of (by decide) (Nat.le_of_ble_eq_true rfl) (vX11_of_0 _ a1 M _ ?_)
  rw [ha, n402 hd, nI_add, nI_clamp (by omega)]
  exact ⟨vp_in_nI (by omega) (by decide), _, rfl, hK⟩
theorem uX0_isThere {d : Nat} (hd : d < 8) (hK : K (b2i (¬ M 11 d ≤ 0)) M) : CSi w h kX0_isThere [.ref 8, .int (nI d)] M K := by
  refine csi_of (by decide) (Nat.le_of_ble_eq_true rfl) (vX0_isThere_0 _ M _ ⟨vp_in_nI hd (by decide), _, rfl, ?_⟩)
  rw [nI_clamp (by omega)]; exact hK
theorem thereA {d : Nat} (hd : d < 8) (g : gDrop (M 9) (M 10) (M 11) (M 12) f) (hK : K (b2i (¬ f (402 + 4 * d) < 0)) M) : CSi w h kX0_isThere [.ref 8, .int (nI d)] M K := by
  refine uX0_isThere hd ?_
  rw [b2i_iff (not_congr (g d hd).there)]; exact hK
theorem uX0_leastOn (hh : 1 ≤ h) {pl : Int32} (g : gDrop (M 9) (M 10) (M 11) (M 12) f) (hK : K (lsOn f pl 8 0) M) : CSi w h kX0_leastOn [.ref 8, .int pl] M K := by
  obtain ⟨h, rfl⟩ : ∃ k, h = k + 1 := ⟨h - 1, by omega⟩
  refine csi_of (by decide) (Nat.le_of_ble_eq_true rfl) (vX0_leastOn_0 pl M _ ?_)
  have L : ∀ n i, n + i = 8 → K (lsOn f pl n i) M → RM w (h + 1) kX0_leastOn 2 [(0, .ref 8), (1, .int pl), (2, .int (nI i))] [] M (fun r M' => ∃ x, r = some (.int x) ∧ K x M') := by
    intro n
    induction n with
    | zero =>
      intro i hi g
      have : i = 8 := by omega
      subst this
      exact vX0_leastOn_2 _ _ M _ ⟨fun _ => ⟨_, rfl, g⟩, fun c => absurd (by decide) c⟩
    | succ n ih =>
      intro i hi gk
      rw [lsOn] at gk
      refine vX0_leastOn_2 _ _ M _ ⟨fun c => absurd c (nI_ge (b := 8) (by omega) (by decide)), fun _ => thereA (by omega) g ⟨fun c x1 e1 => ?_, fun c => ⟨vp_in_nI (by omega) (by decide), ?_⟩⟩⟩
      · rw [b2i_0] at c
        rw [if_neg (fun z => c z.1)] at gk
        rw [e1, nI_1]; exact ih (i + 1) (by omega) gk
      · rw [b2n] at c
        rw [nI_clamp (by omega), ((g i (by omega)).got c).2.2.2.1]
        refine ⟨fun q x1 e1 => ?_, fun q => ⟨_, rfl, ?_⟩⟩
        · rw [if_neg (fun z => q z.2)] at gk
          rw [e1, nI_1]; exact ih (i + 1) (by omega) gk
        · rw [if_pos ⟨c, q⟩] at gk; exact gk
  exact L 8 0 rfl hK
theorem g_01 {x : Int32} (h : 0 ≤ x) : 0 < x ↔ ¬ x = 0 := by grind
theorem p_dirt (hI : INV M) {a0 a1 : Int32} : PAIR w kX10_dirt kX11_dirt [.int a0, .int a1] M := by
  by_cases hs : (0 ≤ a0 ∧ a0 ≤ 191) ∧ ((0 : Int32) ≤ a1 ∧ a1 ≤ (9 : Int32))
  · obtain ⟨⟨s0, s1⟩, hv⟩ := hs
    obtain ⟨c, hc, rfl⟩ := nI_of2 (n := 191) rfl (Int32.not_lt.mpr s0) s1
    have hin : vp_in (nI c) 192 := vp_in_nI (by omega) (by decide)
    refine pairS hI (M 60 (18 + c)) (upd (M 60) (18 + c) a1) (fun K hK => ?_) (fun M1 e60 e4 K hK => ?_)
    · refine csi_of (by decide) (Nat.le_of_ble_eq_true rfl) (vX10_dirt_0 (by decide) _ a1 M _ ⟨fun q => absurd ⟨s0, s1⟩ q, fun _ => ⟨fun _ => ⟨hin, fun x1 e1 => ⟨hin, fun M1 e2 => ⟨_, rfl, ?_⟩⟩⟩, fun q => absurd hv q⟩⟩)
      rw [nI_clamp (by omega)] at e1 e2
      have hd := hI.cr.d
      rw [e1, (hd c (by omega)).1]
      refine hK M1 (hI.cr.uDirt (fun q hq => by rw [e2]; exact mset_ne hq) (fun j hj => pk_un (by omega)) (fun k hk => ?_)) (FS.of (fun q hq => by rw [e2]; exact mset_ne (by omega)))
      have e5 : M1 (3 + 2) = upd (M 5) c a1 := by rw [e2]; exact mset_eq
      rw [e5]
      by_cases hkc : k = c
      · subst hkc; rw [pk_us, pk_us]; exact ⟨rfl, hv⟩
      · rw [pk_un hkc, pk_un (by omega)]; exact hd k hk
    · refine csi_of (by decide) (Nat.le_of_ble_eq_true rfl) (vX11_dirt_0 (by decide) _ a1 M1 _ ⟨fun q => absurd ⟨s0, s1⟩ q, fun _ => ⟨fun q => absurd hv q, fun _ => ?_⟩⟩)
      rw [n18]
      refine uX11_becomes (by omega) ⟨_, rfl, ?_⟩
      rw [e60]
      exact hK _ (by rw [mset_eq, e60]) (FX60.of (fun q hq => mset_ne hq))
  · refine pairQ hI (.inr 0) in0 (fun K hK => ?_) (fun M1 r K hK => ?_)
    · exact csi_of (by decide) (Nat.le_of_ble_eq_true rfl) (vX10_dirt_0 (by decide) a0 a1 M _ ⟨fun _ => tell0 (hK _ FR.refl), fun q => ⟨fun q2 => absurd ⟨q, q2⟩ hs, fun _ => tell0 (hK _ FR.refl)⟩⟩)
    · exact csi_of (by decide) (Nat.le_of_ble_eq_true rfl) (vX11_dirt_0 (by decide) a0 a1 M1 _ ⟨fun _ => find0 (hK _ FR.refl), fun q => ⟨fun _ => find0 (hK _ FR.refl), fun q2 => absurd ⟨q, q2⟩ hs⟩⟩)
theorem p_seed (hI : INV M) {a0 : Int32} : PAIR w kX10_seed kX11_seed [.int a0] M := by
  refine pairS hI (M 60 3) (upd (M 60) 3 a0) (fun K hK => ?_) (fun M1 e60 e4 K hK => ?_)
  · refine csi_of (by decide) (Nat.le_of_ble_eq_true rfl) (vX10_seed_0 a0 M _ (fun x1 e1 M1 e2 => ⟨_, rfl, ?_⟩))
    have hz := hI.cr.z
    rw [e1, hz.1]
    refine hK M1 (hI.cr.uZ (fun q hq => by rw [e2]; exact mset_ne hq) (fun j hj _ => pk_un hj) ?_) (FS.of (fun q hq => by rw [e2]; exact mset_ne (by omega)))
    rw [e2, mset_eq]
    exact ⟨by rw [pk_us, pk_us], by rw [pk_un (by decide), pk_un (by decide)]; exact hz.2⟩
  · refine csi_of (by decide) (Nat.le_of_ble_eq_true rfl) (vX11_seed_0 a0 M1 _ (uX11_becomes (j := 3) (by decide) ⟨_, rfl, ?_⟩))
    rw [e60]
    exact hK _ (by rw [mset_eq, e60]) (FX60.of (fun q hq => mset_ne hq))
theorem p_set (hI : INV M) {a0 a1 : Int32} : PAIR w kX10_set kX11_set [.int a0, .int a1] M := by
  have hS := hI.cr.s
  obtain ⟨⟨s1, s2⟩, ⟨s3, s4⟩, ⟨s5, s6⟩⟩ := hS
  by_cases h0 : a0 = 0 ∧ 0 ≤ a1 ∧ a1 ≤ 9
  · obtain ⟨rfl, hv⟩ := h0
    refine pairS hI (M 60 0) (upd (M 60) 0 a1) (fun K hK => ?_) (fun M1 e60 e4 K hK => ?_)
    · refine csi_of (by decide) (Nat.le_of_ble_eq_true rfl) (vX10_set_0 (by decide) 0 a1 M _ ⟨fun _ => ⟨fun _ x1 e1 M1 e2 => ⟨_, rfl, ?_⟩, fun q => absurd rfl q⟩, fun q => absurd (Or.inl ⟨rfl, hv⟩) q⟩)
      rw [e1, s1]
      refine hK M1 (hI.cr.uSet (fun q hq => by rw [e2]; exact mset_ne hq) (fun j hj => pk_un (by omega)) ?_) (FS.of (fun q hq => by rw [e2]; exact mset_ne (by omega)))
      rw [e2]
      show gSet (mset M 4 2 a1 4) _
      rw [mset_eq]
      exact ⟨⟨by rw [pk_us, pk_us], by rw [pk_us]; exact hv⟩, ⟨by rw [pk_un (by decide), pk_un (by decide)]; exact s3, by rw [pk_un (by decide)]; exact s4⟩, ⟨by rw [pk_un (by decide), pk_un (by decide)]; exact s5, by rw [pk_un (by decide)]; exact s6⟩⟩
    · refine csi_of (by decide) (Nat.le_of_ble_eq_true rfl) (vX11_set_0 0 a1 M1 _ ⟨fun q => absurd (by decide) q, fun _ => ⟨fun _ => ⟨fun _ => ⟨fun _ => ?_, fun q => absurd hv q⟩, fun q => absurd q (by decide)⟩, fun q => absurd q (by decide)⟩⟩)
      refine uX11_becomes (j := 0) (by decide) ⟨_, rfl, ?_⟩
      rw [e60]
      exact hK _ (by rw [mset_eq, e60]) (FX60.of (fun q hq => mset_ne hq))
  · by_cases h1 : a0 = 1 ∧ -20 ≤ a1 ∧ a1 ≤ 20
    · obtain ⟨rfl, hv⟩ := h1
      refine pairS hI (M 60 1) (upd (M 60) 1 a1) (fun K hK => ?_) (fun M1 e60 e4 K hK => ?_)
      · refine csi_of (by decide) (Nat.le_of_ble_eq_true rfl) (vX10_set_0 (by decide) 1 a1 M _ ⟨fun _ => ⟨fun q => absurd q (by decide), fun _ => ⟨fun _ x1 e1 M1 e2 => ⟨_, rfl, ?_⟩, fun q => absurd rfl q⟩⟩, fun q => absurd (Or.inr (Or.inl ⟨rfl, hv⟩)) q⟩)
        rw [e1, s3]
        refine hK M1 (hI.cr.uSet (fun q hq => by rw [e2]; exact mset_ne hq) (fun j hj => pk_un (by omega)) ?_) (FS.of (fun q hq => by rw [e2]; exact mset_ne (by omega)))
        rw [e2]
        show gSet (mset M 4 3 a1 4) _
        rw [mset_eq]
        exact ⟨⟨by rw [pk_un (by decide), pk_un (by decide)]; exact s1, by rw [pk_un (by decide)]; exact s2⟩, ⟨by rw [pk_us, pk_us], by rw [pk_us]; exact hv⟩, ⟨by rw [pk_un (by decide), pk_un (by decide)]; exact s5, by rw [pk_un (by decide)]; exact s6⟩⟩
      · refine csi_of (by decide) (Nat.le_of_ble_eq_true rfl) (vX11_set_0 1 a1 M1 _ ⟨fun q => absurd (by decide) q, fun _ => ⟨fun q => absurd rfl q, fun _ => ⟨fun q => absurd rfl q, fun _ => ⟨fun _ => ?_, fun q => absurd hv q⟩⟩⟩⟩)
        refine uX11_becomes (j := 1) (by decide) ⟨_, rfl, ?_⟩
        rw [e60]
        exact hK _ (by rw [mset_eq, e60]) (FX60.of (fun q hq => mset_ne hq))
    · by_cases h2 : a0 = 2 ∧ 0 ≤ a1 ∧ a1 ≤ 9
      · obtain ⟨rfl, hv⟩ := h2
        refine pairS hI (M 60 2) (upd (M 60) 2 a1) (fun K hK => ?_) (fun M1 e60 e4 K hK => ?_)
        · refine csi_of (by decide) (Nat.le_of_ble_eq_true rfl) (vX10_set_0 (by decide) 2 a1 M _ ⟨fun _ => ⟨fun q => absurd q (by decide), fun _ => ⟨fun q => absurd q (by decide), fun _ x1 e1 M1 e2 => ⟨_, rfl, ?_⟩⟩⟩, fun q => absurd (Or.inr (Or.inr ⟨rfl, hv⟩)) q⟩)
          rw [e1, s5]
          refine hK M1 (hI.cr.uSet (fun q hq => by rw [e2]; exact mset_ne hq) (fun j hj => pk_un (by omega)) ?_) (FS.of (fun q hq => by rw [e2]; exact mset_ne (by omega)))
          rw [e2]
          show gSet (mset M 4 4 a1 4) _
          rw [mset_eq]
          exact ⟨⟨by rw [pk_un (by decide), pk_un (by decide)]; exact s1, by rw [pk_un (by decide)]; exact s2⟩, ⟨by rw [pk_un (by decide), pk_un (by decide)]; exact s3, by rw [pk_un (by decide)]; exact s4⟩, ⟨by rw [pk_us, pk_us], by rw [pk_us]; exact hv⟩⟩
        · refine csi_of (by decide) (Nat.le_of_ble_eq_true rfl) (vX11_set_0 2 a1 M1 _ ⟨fun q => absurd (by decide) q, fun _ => ⟨fun _ => ⟨fun _ => ⟨fun _ => ?_, fun q => absurd hv q⟩, fun q => absurd q (by decide)⟩, fun q => absurd q (by decide)⟩⟩)
          refine uX11_becomes (j := 2) (by decide) ⟨_, rfl, ?_⟩
          rw [e60]
          exact hK _ (by rw [mset_eq, e60]) (FX60.of (fun q hq => mset_ne hq))
      · refine pairQ hI (.inr 0) in0 (fun K hK => ?_) (fun M1 r K hK => ?_)
        · exact csi_of (by decide) (Nat.le_of_ble_eq_true rfl) (vX10_set_0 (by decide) a0 a1 M _ ⟨fun q => by rcases q with q | q | q; exact absurd q h0; exact absurd q h1; exact absurd q h2, fun _ => tell0 (hK _ FR.refl)⟩)
        · have T : (0 : Int32) ≤ a0 ∧ a0 ≤ (2 : Int32) → ¬ a0 = 1 → (0 : Int32) ≤ a1 ∧ a1 ≤ (9 : Int32) → False := by
            intro q1 q2 q3
            obtain ⟨k, hk, rfl⟩ := nI_of2 (n := 2) rfl (Int32.not_lt.mpr q1.1) q1.2
            have : k = 0 ∨ k = 1 ∨ k = 2 := by omega
            rcases this with rfl | rfl | rfl
            · exact h0 ⟨rfl, q3⟩
            · exact q2 rfl
            · exact h2 ⟨rfl, q3⟩
          exact csi_of (by decide) (Nat.le_of_ble_eq_true rfl) (vX11_set_0 a0 a1 M1 _ ⟨fun _ => find0 (hK _ FR.refl), fun q1 => ⟨fun q2 => ⟨fun _ => ⟨fun q3 => (T q1 q2 q3).elim, fun _ => find0 (hK _ FR.refl)⟩, fun q3 => absurd q3 q2⟩, fun q2 => ⟨fun q3 => absurd q2 q3, fun _ => ⟨fun q4 => absurd ⟨q2, q4⟩ h1, fun _ => find0 (hK _ FR.refl)⟩⟩⟩⟩)
theorem p_cellOf (hI : INV M) {a0 a1 : Int32} : PAIR w kX10_cellOf kX11_cellOf [.int a0, .int a1] M := by
  by_cases hs : (0 ≤ a0 ∧ a0 ≤ 191) ∧ ((0 : Int32) ≤ a1 ∧ a1 ≤ (3 : Int32))
  · obtain ⟨⟨s0, s1⟩, hv⟩ := hs
    obtain ⟨c, hc, rfl⟩ := nI_of2 (n := 191) rfl (Int32.not_lt.mpr s0) s1
    have hin : vp_in (nI c) 192 := vp_in_nI (by omega) (by decide)
    have hcl : (nI c).toNatClampNeg = c := nI_clamp (by omega)
    have hc18 : (18 + nI c).toNatClampNeg = 18 + c := by rw [n18, nI_clamp (by omega)]
    have hc210 : (210 + nI c).toNatClampNeg = 210 + c := by rw [n210, nI_clamp (by omega)]
    refine pairQ hI (.inl (if a1 = 0 then M 60 (18 + c) else if a1 = 1 then M 60 (210 + c) else if a1 = 2 then hold (dtR M) (wtR M) (nI c) else lsOn (M 60) (nI c) 8 0)) inL' (fun K hK => ?_) (fun M1 r K hK => ?_)
    · have g := hK M FR.refl
      refine csi_of (by decide) (Nat.le_of_ble_eq_true rfl) (vX10_cellOf_0 (by decide) _ a1 M _ ⟨fun q => absurd ⟨s0, s1⟩ q, fun _ => ⟨fun _ => ⟨fun q0 => ⟨hin, _, rfl, ?_⟩, fun q0 => ⟨fun q1 => ⟨hin, _, rfl, ?_⟩, fun q1 => ⟨fun q2 => uX2_holdOf pane4 hI.pane s0 s1 ⟨_, rfl, ?_⟩, fun q2 => uX0_leastOn (by decide) hI.cr.r ⟨_, rfl, ?_⟩⟩⟩⟩, fun q => absurd hv q⟩⟩)
      · rw [if_pos q0] at g
        have e := (hI.cr.d c (by omega)).1
        rw [hcl]; show K (M (3 + 2) c) M
        rw [e]; exact g
      · rw [if_neg q0, if_pos q1] at g
        have e := (hI.cr.w c (by omega)).1
        rw [hcl]; show K (M (3 + 3) c) M
        rw [e]; exact g
      · rw [if_neg q0, if_neg q1, if_pos q2] at g; exact g
      · rw [if_neg q0, if_neg q1, if_neg q2] at g; exact g
    · have g := hK M1 FR.refl
      have L : ∀ n i, n + i = 8 → K (lsOn (M 60) (nI c) n i) M1 → RM w 12 kX11_cellOf 73 [(0, .ref 59), (1, .int (nI c)), (3, .int (nI i))] [] M1 (fun r M' => ∃ x, r = some (.int x) ∧ K x M') := by
        intro n
        induction n with
        | zero =>
          intro i hi g
          have : i = 8 := by omega
          subst this
          exact vX11_cellOf_73 (by decide) _ _ M1 _ ⟨fun _ => ⟨_, rfl, g⟩, fun c => absurd (by decide) c⟩
        | succ n ih =>
          intro i hi gk
          rw [lsOn] at gk
          refine vX11_cellOf_73 (by decide) _ _ M1 _ ⟨fun c => absurd c (nI_ge (b := 8) (by omega) (by decide)), fun _ => uX11_of (by omega) 0 (by decide) rfl ?_⟩
          rw [r.m60]
          refine ⟨fun c x1 e1 => ?_, fun c => uX11_of (by omega) 1 (by decide) rfl ?_⟩
          · rw [if_neg (fun z => z.1 c)] at gk
            rw [e1, nI_1]; exact ih (i + 1) (by omega) gk
          · have e3 : M1 60 (402 + 4 * i + 1) = M 60 (403 + 4 * i) := by rw [r.m60]; congr 1; omega
            rw [e3]
            refine ⟨fun q x1 e1 => ?_, fun q => ⟨_, rfl, ?_⟩⟩
            · rw [if_neg (fun z => q z.2)] at gk
              rw [e1, nI_1]; exact ih (i + 1) (by omega) gk
            · rw [if_pos ⟨c, q⟩] at gk; exact gk
      refine csi_of (by decide) (Nat.le_of_ble_eq_true rfl) (vX11_cellOf_0 (by decide) _ a1 M1 _ ⟨fun q => absurd ⟨s0, s1⟩ q, fun _ => ⟨fun _ => ⟨fun q3 => L 8 0 rfl ?_, fun q3 => ⟨fun q0 => ⟨fun q1 => uX11_holdOf (by decide) s0 s1 ⟨_, rfl, ?_⟩, fun q1 => ⟨by rw [n210]; exact vp_in_nI (by omega) (by decide), _, rfl, ?_⟩⟩, fun q0 => ⟨by rw [n18]; exact vp_in_nI (by omega) (by decide), _, rfl, ?_⟩⟩⟩, fun q => absurd hv q⟩⟩)
      · rw [if_neg (fun z => by rw [z] at q3; exact absurd q3 (by decide)), if_neg (fun z => by rw [z] at q3; exact absurd q3 (by decide)), if_neg (fun z => by rw [z] at q3; exact absurd q3 (by decide))] at g
        exact g
      · have q2 : a1 = 2 := by
          obtain ⟨k, hk, rfl⟩ := nI_of2 (n := 3) rfl (Int32.not_lt.mpr hv.1) hv.2
          have : k = 0 ∨ k = 1 ∨ k = 2 ∨ k = 3 := by omega
          rcases this with rfl | rfl | rfl | rfl
          · exact absurd rfl q0
          · exact absurd rfl q1
          · rfl
          · exact absurd (by decide) q3
        rw [if_neg q0, if_neg q1, if_pos q2] at g
        rw [dtR_rf r, wtR_rf r]; exact g
      · rw [if_neg q0, if_pos q1] at g
        rw [hc210, r.m60]; exact g
      · rw [if_pos q0] at g
        rw [hc18, r.m60]; exact g
  · refine pairQ hI (.inr 0) in0 (fun K hK => ?_) (fun M1 r K hK => ?_)
    · exact csi_of (by decide) (Nat.le_of_ble_eq_true rfl) (vX10_cellOf_0 (by decide) a0 a1 M _ ⟨fun _ => tell0 (hK _ FR.refl), fun q => ⟨fun q2 => absurd ⟨q, q2⟩ hs, fun _ => tell0 (hK _ FR.refl)⟩⟩)
    · exact csi_of (by decide) (Nat.le_of_ble_eq_true rfl) (vX11_cellOf_0 (by decide) a0 a1 M1 _ ⟨fun _ => find0 (hK _ FR.refl), fun q => ⟨fun q2 => absurd ⟨q, q2⟩ hs, fun _ => find0 (hK _ FR.refl)⟩⟩)
theorem p_fades (hI : INV M) {a0 : Int32} : PAIR w kX10_fades kX11_fades [.int a0] M := by
  by_cases hs : 0 ≤ a0 ∧ a0 ≤ 191
  · obtain ⟨s0, s1⟩ := id hs
    obtain ⟨c, hc, rfl⟩ := nI_of2 (n := 191) rfl (Int32.not_lt.mpr s0) s1
    have hin : vp_in (nI c) 192 := vp_in_nI (by omega) (by decide)
    have hin2 : vp_in (210 + nI c) 666 := by rw [n210]; exact vp_in_nI (by omega) (by decide)
    have hi2 : vp_in 2 666 := inL 666 rfl (by decide) (by decide)
    have hcl : (nI c).toNatClampNeg = c := nI_clamp (by omega)
    have hc210 : (210 + nI c).toNatClampNeg = 210 + c := by rw [n210, nI_clamp (by omega)]
    have z2 : Int32.toNatClampNeg 2 = 2 := rfl
    have ew := (hI.cr.w c (by omega)).1
    have ef := hI.cr.s.2.2
    refine pairQ hI (if M 60 (210 + c) = 0 then .inl 0 else if M 60 2 = 0 then .inr 3 else .inl (((M 60 (210 + c) + M 60 2) - 1) / M 60 2)) (fun j e => ?_) (fun K hK => ?_) (fun M1 r K hK => ?_)
    · split at e
      · cases e
      · split at e <;> cases e; decide
    · have g := hK M FR.refl
      refine csi_of (by decide) (Nat.le_of_ble_eq_true rfl) (vX10_fades_0 (by decide) _ M _ ⟨fun _ => ⟨hin, fun x1 e1 x2 e2 => ?_⟩, fun q => absurd hs q⟩)
      have e1' : x1 = M 60 (210 + c) := by rw [e1, hcl]; exact ew
      have e2' : x2 = M 60 2 := by rw [e2]; exact ef.1
      rw [e1', e2', g_01 ef.2.1]
      refine ⟨fun q0 => ⟨fun q1 => ⟨q1, _, rfl, ?_⟩, fun q1 => tell3 ?_⟩, fun q0 => ⟨_, rfl, ?_⟩⟩
      · rw [if_neg q0, if_neg q1] at g; exact g
      · rw [if_neg q0, if_pos (Classical.not_not.mp q1)] at g; exact g
      · rw [if_pos q0] at g; exact g
    · have g := hK M1 FR.refl
      refine csi_of (by decide) (Nat.le_of_ble_eq_true rfl) (vX11_fades_0 (by decide) _ M1 _ ⟨fun _ => ⟨hin2, fun x1 e1 => ?_⟩, fun q => absurd hs q⟩)
      have e1' : x1 = M 60 (210 + c) := by rw [e1, hc210, r.m60]
      rw [e1', z2, r.m60]
      refine ⟨fun q0 => ⟨hi2, fun q1 => ⟨hi2, hi2, q1, _, rfl, ?_⟩, fun q1 => find3 ?_⟩, fun q0 => ⟨_, rfl, ?_⟩⟩
      · rw [if_neg q0, if_neg q1] at g; exact g
      · rw [if_neg q0, if_pos q1] at g; exact g
      · rw [if_pos q0] at g; exact g
  · refine pairQ hI (.inr 0) in0 (fun K hK => ?_) (fun M1 r K hK => ?_)
    · exact csi_of (by decide) (Nat.le_of_ble_eq_true rfl) (vX10_fades_0 (by decide) a0 M _ ⟨fun q => absurd q hs, fun _ => tell0 (hK _ FR.refl)⟩)
    · exact csi_of (by decide) (Nat.le_of_ble_eq_true rfl) (vX11_fades_0 (by decide) a0 M1 _ ⟨fun q => absurd q hs, fun _ => find0 (hK _ FR.refl)⟩)
end D0

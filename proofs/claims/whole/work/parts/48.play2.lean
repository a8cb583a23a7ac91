/-! ===== play, programOf: the pairs ===== -/
theorem p37 {p : Nat} (h : p < 6) : 434 + 37 * nI p = nI (434 + 37 * p) ∧ nI p * 12 = nI (12 * p) := by
  have T : ∀ p, p < 6 → (434 + 37 * nI p = nI (434 + 37 * p) ∧ nI p * 12 = nI (12 * p)) := by decide
  exact T p h
theorem i3 {i : Nat} (h : i < 12) : 3 * nI i = nI (3 * i) := by
  have T : ∀ i, i < 12 → 3 * nI i = nI (3 * i) := by decide
  exact T i h
theorem ix1 {p i : Nat} (hi : i < 12) : (nI (434 + 37 * p) + 1) + (3 * nI i) = nI (435 + 37 * p + 3 * i) := by
  rw [i3 hi, nI_1, nI_add]; congr 1; omega
theorem ix2 {p i : Nat} (hi : i < 12) : (nI (434 + 37 * p) + 2) + (3 * nI i) = nI (436 + 37 * p + 3 * i) := by
  rw [i3 hi, show nI (434 + 37 * p) + 2 = nI (434 + 37 * p + 2) from nI_add _ 2, nI_add]; congr 1; omega
theorem ix3 {p i : Nat} (hi : i < 12) : (nI (434 + 37 * p) + 3) + (3 * nI i) = nI (437 + 37 * p + 3 * i) := by
  rw [i3 hi, show nI (434 + 37 * p) + 3 = nI (434 + 37 * p + 3) from nI_add _ 3, nI_add]; congr 1; omega
theorem g_pr {x : Int32} {np : Nat} (hn : np ≤ 6) (h : (0 : Int32) ≤ x ∧ x ≤ nI np - 1) : ∃ p : Nat, p < np ∧ x = nI p := by
  by_cases h0 : np = 0
  · subst h0
    have h1 := h.1
    have h2 : x ≤ -1 := h.2
    exact absurd (Int32.le_trans h1 h2) (by decide)
  · obtain ⟨m, rfl⟩ : ∃ m, np = m + 1 := ⟨np - 1, by omega⟩
    rw [nI_pred] at h
    obtain ⟨p, hp, rfl⟩ := nI_of2 (M := nI m) (n := m) (nI_toInt (by omega)) (Int32.not_lt.mpr h.1) h.2
    exact ⟨p, by omega, rfl⟩
/-- deeds i, i + 1, .. of program p, n of them -/
def plT (p : Nat) : Nat → Nat → (Nat → Int32) → (Nat → Int32)
  | 0, _, f => f
  | n + 1, i, f => plT p n (i + 1) (doF f (f (435 + 37 * p + 3 * i)) (f (436 + 37 * p + 3 * i)) (f (437 + 37 * p + 3 * i)))
section PP2
variable {w : Wd} {h : Nat} {M M' : Mem} {K : Int32 → Mem → Prop} {Kv : Mem → Prop} {f : Nat → Int32}
theorem uX10_isProgram (hh : 1 ≤ h) {a0 : Int32} (hK : K (b2i ((0 : Int32) ≤ a0 ∧ a0 ≤ (M 13 0 - 1))) M) : CSi w h kX10_isProgram [.ref 0, .int a0] M K := by
  obtain ⟨h, rfl⟩ : ∃ k, h = k + 1 := ⟨h - 1, by omega⟩
  exact csi_of (by decide) (Nat.le_of_ble_eq_true rfl) (vX10_isProgram_0 a0 M _ ⟨_, rfl, hK⟩)
theorem uX11_isProgram (hh : 1 ≤ h) {a0 : Int32} (hK : K (b2i ((0 : Int32) ≤ a0 ∧ a0 ≤ (M 60 5 - 1))) M) : CSi w h kX11_isProgram [.ref 59, .int a0] M K := by
  obtain ⟨h, rfl⟩ : ∃ k, h = k + 1 := ⟨h - 1, by omega⟩
  exact csi_of (by decide) (Nat.le_of_ble_eq_true rfl) (vX11_isProgram_0 a0 M _ ⟨inL 666 rfl (by decide) (by decide), _, rfl, hK⟩)
theorem p_play (hI : INV M) {a0 : Int32} : PAIR w kX10_play kX11_play [.int a0] M := by
  obtain ⟨np, o1, o2, o3, o4⟩ := hI.cr.p
  have o2' : M 13 0 = nI np := o2
  by_cases hs : (0 : Int32) ≤ a0 ∧ a0 ≤ (nI np - 1)
  · obtain ⟨p, hp, rfl⟩ := g_pr o1 hs
    have hp6 : p < 6 := by omega
    obtain ⟨s, s1, s2, s3, s4, s5⟩ := o4 p hp
    refine pairS hI (nDrops (plT p s 0 (M 60))) (plT p s 0 (M 60)) (fun K hK => ?_) (fun M1 e60 e4 K hK => ?_)
    · refine csi_of (by decide) (Nat.le_of_ble_eq_true rfl) (vX10_play_0 _ M _ (uX10_isProgram (by decide) ?_))
      rw [o2']
      refine ⟨fun _ => ⟨vp_in_nI hp6 (by decide), fun x1 e1 => ?_⟩, fun q => absurd hs (b2i_0.mp q)⟩
      rw [nI_clamp (by omega), show M 14 p = nI s from s3] at e1
      rw [e1]
      have L : ∀ n i, n + i = s → ∀ f Mx, prq (M 60) f → cR 3 Mx f → FS M Mx → (∀ M', cR 3 M' (plT p n i f) → FS M M' → K (nDrops (plT p n i f)) M') → RM w 12 kX10_play 32 [(0, .ref 0), (1, .int (nI p)), (2, .int (nI s)), (3, .int (nI i))] [] Mx (fun r M' => ∃ x, r = some (.int x) ∧ K x M') := by
        intro n
        induction n with
        | zero =>
          intro i hi f Mx pf cx fx g
          exact vX10_play_32 _ _ _ Mx _ ⟨fun _ => uX0_howMany (by decide) cx.r ⟨_, rfl, g Mx cx fx⟩, fun q => absurd (nI_le (by omega) (by omega)) q⟩
        | succ n ih =>
          intro i hi f Mx pf cx fx g
          rw [plT] at g
          obtain ⟨np', u1, u2, u3, u4⟩ := cx.p
          have en : np' = np := (nI_eq (by omega) (by omega)).mp (by rw [← u3, pf.1, o3])
          obtain ⟨s', v1, v2, v3, v4, v5⟩ := u4 p (by omega)
          have es : s' = s := (nI_eq (by omega) (by omega)).mp (by rw [← v4, pf.2 _ (by omega), s4])
          have dd := v5 i (by omega)
          refine vX10_play_32 _ _ _ Mx _ ⟨fun q => absurd q (nI_ge (by omega) (by omega)), fun _ => ?_⟩
          rw [(p37 hp6).2, nI_add]
          refine uX5_perform (by decide) cx (by omega) dd (fun M1 c1 f1 x1 e1 => ?_)
          rw [e1, nI_1]
          exact ih (i + 1) (by omega) _ M1 (pf.trans (pr_do ⟨Mx, cx⟩ dd)) c1 (fx.trans f1) g
      exact L s 0 rfl (M 60) M prq.refl hI.cr FS.refl hK
    · refine csi_of (by decide) (Nat.le_of_ble_eq_true rfl) (vX11_play_0 _ M1 _ (uX11_isProgram (by decide) ?_))
      rw [e60, o3]
      refine ⟨fun _ x1 e1 => ?_, fun q => absurd hs (b2i_0.mp q)⟩
      rw [(p37 hp6).1] at e1
      rw [e1]
      have L : ∀ n i, n + i = s → ∀ Mx : Mem, ∀ Mc : Mem, prq (M 60) (Mx 60) → cR 3 Mc (Mx 60) → FX60 M1 Mx → (∀ M' : Mem, M' 60 = plT p n i (Mx 60) → FX60 M1 M' → K (nDrops (plT p n i (Mx 60))) M') → RM w 12 kX11_play 26 [(0, .ref 59), (2, .int (nI (434 + 37 * p))), (3, .int (nI i))] [] Mx (fun r M' => ∃ x, r = some (.int x) ∧ K x M') := by
        intro n
        induction n with
        | zero =>
          intro i hi Mx Mc pf cx fx g
          refine vX11_play_26 _ _ Mx _ ⟨vp_in_nI (by omega) (by decide), fun _ => uX11_drops (by decide) ⟨_, rfl, g Mx rfl fx⟩, fun q => absurd ?_ q⟩
          rw [nI_clamp (by omega), pf.2 _ (by omega), s4]; exact nI_le (by omega) (by omega)
        | succ n ih =>
          intro i hi Mx Mc pf cx fx g
          rw [show plT p (n + 1) i (Mx 60) = plT p n (i + 1) (doF (Mx 60) (Mx 60 (435 + 37 * p + 3 * i)) (Mx 60 (436 + 37 * p + 3 * i)) (Mx 60 (437 + 37 * p + 3 * i))) from rfl] at g
          obtain ⟨np', u1, u2, u3, u4⟩ := cx.p
          have en : np' = np := (nI_eq (by omega) (by omega)).mp (by rw [← u3, pf.1, o3])
          obtain ⟨s', v1, v2, v3, v4, v5⟩ := u4 p (by omega)
          have es : s' = s := (nI_eq (by omega) (by omega)).mp (by rw [← v4, pf.2 _ (by omega), s4])
          have dd := v5 i (by omega)
          refine vX11_play_26 _ _ Mx _ ⟨vp_in_nI (by omega) (by decide), fun q => ?_, fun _ => ?_⟩
          · rw [nI_clamp (by omega), pf.2 _ (by omega), s4] at q
            exact absurd q (nI_ge (by omega) (by omega))
          · rw [ix1 (by omega), ix2 (by omega), ix3 (by omega), nI_clamp (show 435 + 37 * p + 3 * i < 2 ^ 31 by omega), nI_clamp (show 436 + 37 * p + 3 * i < 2 ^ 31 by omega), nI_clamp (show 437 + 37 * p + 3 * i < 2 ^ 31 by omega)]
            refine ⟨vp_in_nI (by omega) (by decide), vp_in_nI (by omega) (by decide), vp_in_nI (by omega) (by decide), uX11_does (by decide) ⟨Mc, cx⟩ (by rw [fx.2.2.1]; exact e4) dd (fun M2 e2 f2 x1 e1 => ?_)⟩
            rw [e1, nI_1]
            have okn : okF (M2 60) := by
              rw [e2]
              exact do_ok ⟨Mc, cx⟩ dd
            obtain ⟨Md, cd⟩ := okn
            refine ih (i + 1) (by omega) M2 Md ?_ cd (fx.trans f2) ?_
            · rw [e2]; exact pf.trans (pr_do ⟨Mc, cx⟩ dd)
            · rw [e2]; exact g
      refine L s 0 rfl M1 M (by rw [e60]; exact prq.refl) (by rw [e60]; exact hI.cr) FX60.refl ?_
      rw [e60]; exact hK
  · refine pairQ hI (.inr 0) in0 (fun K hK => ?_) (fun M1 r K hK => ?_)
    · refine csi_of (by decide) (Nat.le_of_ble_eq_true rfl) (vX10_play_0 _ M _ (uX10_isProgram (by decide) ?_))
      rw [o2']
      exact ⟨fun q => absurd (b2n.mp q) hs, fun _ => tell0 (hK _ FR.refl)⟩
    · refine csi_of (by decide) (Nat.le_of_ble_eq_true rfl) (vX11_play_0 _ M1 _ (uX11_isProgram (by decide) ?_))
      rw [r.m60, o3]
      exact ⟨fun q => absurd (b2n.mp q) hs, fun _ => find0 (hK _ FR.refl)⟩
def tiV (f : Nat → Int32) (p : Nat) : Nat → Int32 := sumN (fun i => if f (435 + 37 * p + 3 * i) = 8 then f (436 + 37 * p + 3 * i) else 0)
theorem p_programOf (hI : INV M) {a0 a1 : Int32} : PAIR w kX10_programOf kX11_programOf [.int a0, .int a1] M := by
  obtain ⟨np, o1, o2, o3, o4⟩ := hI.cr.p
  have o2' : M 13 0 = nI np := o2
  by_cases hs : ((0 : Int32) ≤ a0 ∧ a0 ≤ (nI np - 1)) ∧ ((0 : Int32) ≤ a1 ∧ a1 ≤ (1 : Int32))
  · obtain ⟨hp0, hv⟩ := id hs
    obtain ⟨p, hp, rfl⟩ := g_pr o1 hp0
    have hp6 : p < 6 := by omega
    obtain ⟨s, s1, s2, s3, s4, s5⟩ := o4 p hp
    refine pairQ hI (.inl (if a1 = 0 then nI s else tiV (M 60) p s)) inL' (fun K hK => ?_) (fun M1 r K hK => ?_)
    · have g := hK M FR.refl
      refine csi_of (by decide) (Nat.le_of_ble_eq_true rfl) (vX10_programOf_0 _ _ M _ (uX10_isProgram (by decide) ?_))
      rw [o2']
      refine ⟨fun q => absurd hp0 (b2i_0.mp q), fun _ => ⟨fun _ => ⟨fun q => ?_, fun q => ⟨vp_in_nI hp6 (by decide), _, rfl, ?_⟩⟩, fun q => absurd hv q⟩⟩
      · rw [if_neg q] at g
        refine csi_of (by decide) (Nat.le_of_ble_eq_true rfl) (vX3_ticksOf_0 _ M _ ?_)
        have L : ∀ k, k ≤ s → RM w 11 kX3_ticksOf 4 [(0, .ref 13), (1, .int (nI p)), (2, .int (tiV (M 60) p k)), (3, .int (nI k))] [] M (fun r M' => ∃ x, r = some (.int x) ∧ ∃ y, some (Value.int x) = some (.int y) ∧ K y M') := by
          refine up_ind ?_ (fun k hk ih => ?_)
          · refine vX3_ticksOf_4 _ _ _ M _ ⟨vp_in_nI hp6 (by decide), fun _ => ⟨_, rfl, _, rfl, g⟩, fun q => absurd ?_ q⟩
            rw [nI_clamp (by omega), show M 14 p = nI s from s3]; exact Int32.le_refl _
          · refine vX3_ticksOf_4 _ _ _ M _ ⟨vp_in_nI hp6 (by decide), fun q => ?_, fun _ x1 e1 => ?_⟩
            · rw [nI_clamp (by omega), show M 14 p = nI s from s3] at q
              exact absurd q (nI_ge (by omega) (by omega))
            · rw [(p37 hp6).2, nI_add] at e1
              have hin : vp_in x1 72 := by rw [e1]; exact vp_in_nI (by omega) (by decide)
              have cx : x1.toNatClampNeg = 12 * p + k := by rw [e1]; exact nI_clamp (by omega)
              rw [cx]
              obtain ⟨en, hcs⟩ := id (s5 k hk)
              have e8 : M 15 (12 * p + k) = 8 ↔ M 60 (435 + 37 * p + 3 * k) = 8 := by
                have := s5 k hk
                have w1 : (3 + 12 : Nat) = 15 := rfl
                rcases hcs with ⟨h1, h2, -⟩ | ⟨h1, h2, -⟩ | ⟨h1, h2, -⟩ | ⟨h1, h2, -⟩ | ⟨h1, h2, -⟩ | ⟨h1, h2, -⟩
                · rw [h2]
                · exact ⟨fun _ => h2, fun _ => h1⟩
                · rw [show M 15 (12 * p + k) = 9 from h1, h2]
                · rw [show M 15 (12 * p + k) = 10 from h1, h2]; decide
                · rw [show M 15 (12 * p + k) = 11 from h1, h2]; decide
                · rw [show M 15 (12 * p + k) = 12 from h1, h2]
              have ih' : RM w 11 kX3_ticksOf 4 [(0, .ref 13), (1, .int (nI p)), (2, .int (tiV (M 60) p k + (if M 60 (435 + 37 * p + 3 * k) = 8 then M 60 (436 + 37 * p + 3 * k) else 0))), (3, .int (nI (k + 1)))] [] M (fun r M' => ∃ x, r = some (.int x) ∧ ∃ y, some (Value.int x) = some (.int y) ∧ K y M') := ih
              refine ⟨hin, fun q x2 e2 => ?_, fun q => ⟨hin, fun x2 e2 x3 e3 => ?_⟩⟩
              · rw [if_neg (fun z => q (e8.mpr z)), g_a0] at ih'
                rw [e2, nI_1]; exact ih'
              · rw [if_pos (e8.mp q)] at ih'
                rw [e3, nI_1, e2, show M 16 (12 * p + k) = _ from en]; exact ih'
        exact L 0 (by omega)
      · rw [if_pos q] at g
        rw [nI_clamp (by omega), show M 14 p = nI s from s3]; exact g
    · have g := hK M1 FR.refl
      refine csi_of (by decide) (Nat.le_of_ble_eq_true rfl) (vX11_programOf_0 _ _ M1 _ (uX11_isProgram (by decide) ?_))
      rw [r.m60, o3]
      refine ⟨fun q => absurd hp0 (b2i_0.mp q), fun _ => ⟨fun _ x1 e1 => ?_, fun q => absurd hv q⟩⟩
      rw [(p37 hp6).1] at e1
      rw [e1]
      have hin : vp_in (nI (434 + 37 * p)) 666 := vp_in_nI (by omega) (by decide)
      have ccl : (nI (434 + 37 * p)).toNatClampNeg = 434 + 37 * p := nI_clamp (by omega)
      have L : ∀ k, k ≤ s → RM w 12 kX11_programOf 40 [(0, .ref 59), (2, .int a1), (3, .int (nI (434 + 37 * p))), (4, .int (tiV (M 60) p k)), (5, .int (nI k))] [] M1 (fun r M' => ∃ x, r = some (.int x) ∧ K x M') := by
        refine up_ind ?_ (fun k hk ih => ?_)
        · refine vX11_programOf_40 _ _ _ _ M1 _ ⟨hin, fun _ => ⟨fun q => ⟨_, rfl, ?_⟩, fun q => ⟨hin, _, rfl, ?_⟩⟩, fun q => absurd ?_ q⟩
          · rw [if_neg q] at g; exact g
          · rw [if_pos q] at g; rw [ccl, r.m60, s4]; exact g
          · rw [ccl, r.m60, s4]; exact Int32.le_refl _
        · refine vX11_programOf_40 _ _ _ _ M1 _ ⟨hin, fun q => ?_, fun _ => ?_⟩
          · rw [ccl, r.m60, s4] at q
            exact absurd q (nI_ge (by omega) (by omega))
          · rw [ix1 (by omega), ix2 (by omega), nI_clamp (show 435 + 37 * p + 3 * k < 2 ^ 31 by omega), nI_clamp (show 436 + 37 * p + 3 * k < 2 ^ 31 by omega), r.m60]
            have ih' : RM w 12 kX11_programOf 40 [(0, .ref 59), (2, .int a1), (3, .int (nI (434 + 37 * p))), (4, .int (tiV (M 60) p k + (if M 60 (435 + 37 * p + 3 * k) = 8 then M 60 (436 + 37 * p + 3 * k) else 0))), (5, .int (nI (k + 1)))] [] M1 (fun r M' => ∃ x, r = some (.int x) ∧ K x M') := ih
            refine ⟨vp_in_nI (by omega) (by decide), fun q x2 e2 x3 e3 => ?_, fun q => ⟨vp_in_nI (by omega) (by decide), fun x2 e2 x3 e3 => ?_⟩⟩
            · rw [if_neg q] at ih'
              rw [e3, nI_1, e2]; exact ih'
            · rw [if_pos q] at ih'
              rw [e3, nI_1, e2]; exact ih'
      exact L 0 (by omega)
  · refine pairQ hI (.inr 0) in0 (fun K hK => ?_) (fun M1 r K hK => ?_)
    · refine csi_of (by decide) (Nat.le_of_ble_eq_true rfl) (vX10_programOf_0 _ _ M _ (uX10_isProgram (by decide) ?_))
      rw [o2']
      exact ⟨fun _ => tell0 (hK _ FR.refl), fun q => ⟨fun q2 => absurd ⟨b2n.mp q, q2⟩ hs, fun _ => tell0 (hK _ FR.refl)⟩⟩
    · refine csi_of (by decide) (Nat.le_of_ble_eq_true rfl) (vX11_programOf_0 _ _ M1 _ (uX11_isProgram (by decide) ?_))
      rw [r.m60, o3]
      exact ⟨fun _ => find0 (hK _ FR.refl), fun q => ⟨fun q2 => absurd ⟨b2n.mp q, q2⟩ hs, fun _ => find0 (hK _ FR.refl)⟩⟩
end PP2

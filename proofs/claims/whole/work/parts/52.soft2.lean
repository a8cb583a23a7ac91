/-! ===== soft: the pair ===== -/
section SF2
variable {w : Wd} {h : Nat} {M : Mem}
theorem p_soft (hI : INV M) {a0 : Int32} : PAIR w kX10_soft kX11_soft [.int a0] M := by
  have ok : okF (M 60) := ⟨M, hI.cr⟩
  by_cases hs : (0 : Int32) ≤ a0 ∧ a0 ≤ (2 : Int32)
  · have hbg : beg (M 60) true < 12 := beg_lt
    refine pairQ hI (.inl (if a0 = 0 then nI (RV (M 60) true (beg (M 60) true)) else if a0 = 1 then nI (beg (M 60) true) else md12 (nI (enF (M 60) 15 (beg (M 60) true))))) inL' (fun K hK => ?_) (fun M1 r K hK => ?_)
    · refine csi_of (by decide) (Nat.le_of_ble_eq_true rfl) (vX10_soft_0 _ M _ ⟨fun _ => ?_, fun q => absurd hs q⟩)
      refine uX9_reckon (s := true) (by decide) hI.cr (fun Ma ea fa => uX9_leastStart (s := true) ok ea ?_)
      have g := hK Ma (FR.c (fun q hq => fa q (by omega)))
      have ca : cR 3 Ma (M 60) := hI.cr.same (fun q x y z => fa q (by omega))
      refine ⟨fun q => ⟨vp_in_nI (by omega) (by decide), _, rfl, ?_⟩, fun q => ⟨fun q1 => ⟨_, rfl, ?_⟩, fun q1 => uX9_endFrom (by decide) ca hbg ea ⟨_, rfl, ?_⟩⟩⟩
      · rw [if_pos q] at g; rw [nI_clamp (by omega), ea _ (by omega)]; exact g
      · rw [if_neg q, if_pos q1] at g; exact g
      · rw [if_neg q, if_neg q1] at g; exact g
    · have ok1 : okF (M1 60) := by rw [r.m60]; exact ok
      have h4 : M1 59 4 = 0 := r.2.2.1.trans hI.2.2.2.2.2
      refine csi_of (by decide) (Nat.le_of_ble_eq_true rfl) (vX11_soft_0 _ M1 _ ⟨fun _ => ?_, fun q => absurd hs q⟩)
      refine uX11_findSums (by decide) ok1 h4 (fun Ma ea fa => ?_)
      rw [r.m60] at ea
      have fr : FR M1 Ma := ⟨fun q hq => fa q (fun z => hq (by subst z; unfold jc; omega)), by rw [fa 59 (by decide)], by rw [fa 59 (by decide)], by rw [fa 59 (by decide)]⟩
      have g := hK Ma fr
      have h60 : Ma 60 = M 60 := by rw [fa 60 (by decide), r.m60]
      have h594 : Ma 59 4 = 0 := by rw [fa 59 (by decide)]; exact h4
      -- the way down
      have E : a0 = 2 → ∀ n i c, n + i = 15 → c < 192 → c / 12 = i → K (md12 (nI (enF (M 60) n c))) Ma → RM w 12 kX11_soft 82 [(0, .ref 59), (3, .int (nI c))] [] Ma (fun r M' => ∃ x, r = some (.int x) ∧ K x M') := by
        intro _ n
        induction n with
        | zero =>
          intro i c hi hc1 hc2 g
          exact vX11_soft_82 _ Ma _ ⟨fun _ => ⟨_, rfl, g⟩, fun q => absurd (nI_le (a := 180) (by omega) (by omega)) q⟩
        | succ n ih =>
          intro i c hi hc1 hc2 g
          rw [enF] at g
          have hc8 : c < 180 := by omega
          have hd := dnF_ok (f := M 60) (c := c) hc8
          refine vX11_soft_82 _ Ma _ ⟨fun q => absurd q (nI_ge (b := 180) (by omega) (by decide)), fun _ => ?_⟩
          have D : ∀ m k, m + k = 3 → dnK (M 60) c 3 0 = dnK (M 60) c m k → (∃ j, k ≤ j ∧ j < 3 ∧ nbl c j ≠ 0 ∧ RC (M 60) true c j = RV (M 60) true c) → RM w 12 kX11_soft 92 [(0, .ref 59), (3, .int (nI c)), (4, .int (nI k))] [] Ma (fun r M' => ∃ x, r = some (.int x) ∧ K x M') := by
            intro m
            induction m with
            | zero => intro k hk _ ⟨j, a, b, _⟩; omega
            | succ m ihm =>
              intro k hk e ⟨j, a, b, d, ej⟩
              rw [show dnK (M 60) c (m + 1) k = if nbl c k ≠ 0 ∧ RC (M 60) true c k = RV (M 60) true c then k else dnK (M 60) c m (k + 1) from rfl] at e
              refine vX11_soft_92 _ _ Ma _ (uX11_below ?_)
              have eb := bel_nI (c := c) (k := k) hc8 (by omega)
              rw [eb]
              by_cases hn : nbl c k = 0
              · rw [if_pos hn]
                rw [if_neg (fun z => z.1 hn)] at e
                refine ⟨fun _ x1 e1 => ?_, fun q => absurd (by decide) q⟩
                have : j ≠ k := fun z => by subst z; exact d hn
                rw [e1, nI_1]; exact ihm (k + 1) (by omega) e ⟨j, by omega, b, d, ej⟩
              · rw [if_neg hn]
                have hb := nbl_bd hc8 hn
                have hh := hN_ok ok hb.1
                have r1 : RC (M 60) true c k ≤ 432 := RC_432 ok hc8 hn
                have r2 := RV_405 (s := true) ok (c := c) (by omega)
                have eh : hold (dtR Ma) (wtR Ma) (nI (nbl c k)) = nI (hN (M 60) (nbl c k)) := by rw [wtR_F h594, dtR_F, h60]; exact hh.2
                refine ⟨fun q => absurd q (nI_pos (by omega)), fun _ => uX11_below ?_⟩
                rw [eb, if_neg hn]
                refine uX11_holdOf (by decide) (nI_pos' (by omega)) (nI_le (b := 191) (by omega) (by decide)) (uX11_below ?_)
                rw [eb, if_neg hn, eh, nI_clamp (by omega), nI_clamp (by omega), ea _ hb.1, ea _ (by omega), nI_add, show hN (M 60) (nbl c k) + RV (M 60) true (nbl c k) = RC (M 60) true c k from rfl, nI_eq (by omega) (by omega)]
                refine ⟨vp_in_nI hb.1 (by decide), vp_in_nI (by omega) (by decide), fun q => uX11_below ?_, fun q x1 e1 => ?_⟩
                · rw [eb, if_neg hn]
                  rw [if_pos ⟨hn, q⟩] at e
                  have ed : dnF (M 60) c = nbl c k := by unfold dnF; rw [e]
                  rw [ed] at g hd
                  exact ih (i + 1) _ (by omega) hd.1 (by omega) g
                · rw [if_neg (fun z => q z.2)] at e
                  have : j ≠ k := fun z => by subst z; exact q ej
                  rw [e1, nI_1]; exact ihm (k + 1) (by omega) e ⟨j, by omega, b, d, ej⟩
          exact D 3 0 rfl rfl (dn_ex hc8)
      have L : ∀ n i b, n + i = 12 → b < 12 → lsA (RV (M 60) true) n i b = beg (M 60) true → RM w 12 kX11_soft 27 [(0, .ref 59), (1, .int a0), (2, .int (nI b)), (3, .int (nI i))] [] Ma (fun r M' => ∃ x, r = some (.int x) ∧ K x M') := by
        intro n
        induction n with
        | zero =>
          intro i b hi hb e
          have : i = 12 := by omega
          subst this
          rw [lsA] at e
          rw [← e] at g
          refine vX11_soft_27 _ _ _ Ma _ ⟨fun _ => ⟨fun q => ?_, fun q => ⟨fun q1 => ⟨_, rfl, ?_⟩, fun q1 => ⟨vp_in_nI (by omega) (by decide), _, rfl, ?_⟩⟩⟩, fun q => absurd (by decide) q⟩
          · have h2 : a0 = 2 := Int32.le_antisymm hs.2 q
            rw [if_neg (by rw [h2]; decide), if_neg (by rw [h2]; decide)] at g
            exact E h2 15 0 b rfl (by omega) (by omega) g
          · have h1 : a0 = 1 := by
              obtain ⟨k, hk, rfl⟩ := nI_of2 (n := 2) rfl (Int32.not_lt.mpr hs.1) hs.2
              have : k = 0 ∨ k = 1 ∨ k = 2 := by omega
              rcases this with rfl | rfl | rfl
              · exact absurd rfl q1
              · rfl
              · exact absurd (by decide) q
            rw [if_neg q1, if_pos h1] at g; exact g
          · rw [if_pos q1] at g
            rw [nI_clamp (by omega), ea _ (by omega)]; exact g
        | succ n ih =>
          intro i b hi hb e
          rw [lsA] at e
          have l1 := RV_405 (s := true) ok (c := i) (by omega)
          have l2 := RV_405 (s := true) ok (c := b) (by omega)
          refine vX11_soft_27 _ _ _ Ma _ ⟨fun q => absurd q (nI_ge (b := 12) (by omega) (by decide)), fun _ => ⟨vp_in_nI (by omega) (by decide), vp_in_nI (by omega) (by decide), fun x1 e1 x2 e2 => ?_⟩⟩
          rw [nI_clamp (by omega), nI_clamp (by omega), ea b (by omega), ea i (by omega)] at e1
          rw [e2, nI_1, e1]
          by_cases q : RV (M 60) true b ≤ RV (M 60) true i
          · rw [if_pos (nI_le q (by omega))]
            rw [if_pos q] at e
            exact ih (i + 1) b (by omega) hb e
          · rw [if_neg (nI_ge (by omega) (by omega))]
            rw [if_neg q] at e
            exact ih (i + 1) i (by omega) (by omega) e
      exact L 11 1 0 rfl (by decide) rfl
  · refine pairQ hI (.inr 0) in0 (fun K hK => ?_) (fun M1 r K hK => ?_)
    · exact csi_of (by decide) (Nat.le_of_ble_eq_true rfl) (vX10_soft_0 a0 M _ ⟨fun q => absurd q hs, fun _ => tell0 (hK _ FR.refl)⟩)
    · exact csi_of (by decide) (Nat.le_of_ble_eq_true rfl) (vX11_soft_0 a0 M1 _ ⟨fun q => absurd q hs, fun _ => find0 (hK _ FR.refl)⟩)
end SF2

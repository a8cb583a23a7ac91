/-! ===== judge, least, soonest, edge ===== -/
theorem sheetC {s : Nat} (h : s < 4) : isSheetC (41 + 2 * s) := by
  have T : ∀ s, s < 4 → (lay (41 + 2 * s)).1 = 6 ∧ lay (41 + 2 * s + 1) = (12, 40) := by decide
  exact T s h
theorem s40 {s : Nat} (h : s < 4) : 40 * nI s = nI (40 * s) := by
  have T : ∀ s, s < 4 → 40 * nI s = nI (40 * s) := by decide
  exact T s h
section MS
variable {w : Wd} {h : Nat} {M : Mem} {K : Int32 → Mem → Prop} {Kv : Mem → Prop}
theorem uX6_isMissing {Kc : Nat} (hk : isSheetC Kc) (hK : K (b2i (M Kc 0 = 0)) M) : CSi w h kX6_isMissing [.ref Kc] M K :=
  csi_of (by decide) (Nat.le_of_ble_eq_true rfl) (vX6_isMissing_0 Kc hk M _ ⟨_, rfl, hK⟩)
end MS
section P3
variable {w : Wd} {M : Mem}
def judV (o : Nat) (c : Nat → Int32) (t : Nat → Int32) : Nat → Nat → Int32
  | 0, _ => 0
  | n + 1, i => if i ≤ o ∧ md12 (c i) = t i then judV o c t n (i + 1) else 1 + nI i
theorem p_judge (hI : INV M) {a0 a1 : Int32} : PAIR w kX10_judge kX11_judge [.int a0, .int a1] M := by
  by_cases hs : 0 ≤ a0 ∧ a0 ≤ 3
  · obtain ⟨s, hs4, rfl⟩ := nI_of2 (n := 3) rfl (Int32.not_lt.mpr hs.1) hs.2
    have hs5 : s < 4 := by omega
    have hcl : (nI s).toNatClampNeg = s := nI_clamp (by omega)
    have hin : vp_in (nI s) 4 := vp_in_nI hs5 (by decide)
    have hin40 : vp_in (40 * nI s) 160 := by rw [s40 hs5]; exact vp_in_nI (by omega) (by decide)
    obtain ⟨b1, -, b3, ⟨n, hn, b4⟩, b5⟩ := hI.2.2.2.2.1 s hs5
    have b50 := b5 0 (by decide)
    have z0 : Int32.toNatClampNeg 0 = 0 := rfl
    have c40 : (40 * nI s).toNatClampNeg = 40 * s := by rw [s40 hs5, nI_clamp (by omega)]
    by_cases hm : M 67 s = 0
    · refine pairQ hI (.inr 5) in5 (fun K hK => ?_) (fun M1 r K hK => ?_)
      · refine csi_of (by decide) (Nat.le_of_ble_eq_true rfl) (vX10_judge_0 (by decide) _ a1 M _ ⟨fun _ => ⟨hin, fun K1 e1 k1 => uX6_isMissing k1 ?_⟩, fun q => absurd hs q⟩)
        rw [hcl] at e1
        rw [e1, b1]
        exact ⟨fun q => absurd hm (b2i_0.mp q), fun _ => tell5 (hK _ FR.refl)⟩
      · refine csi_of (by decide) (Nat.le_of_ble_eq_true rfl) (vX11_judge_0 (by decide) _ a1 M1 _ ⟨fun _ => ⟨hin, ?_⟩, fun q => absurd hs q⟩)
        rw [hcl, r.1 67 (by decide) (by decide) (by decide) (by decide)]
        exact ⟨fun q => absurd hm q, fun _ => find5 (hK _ FR.refl)⟩
    · by_cases hg : (0 ≤ a1 ∧ a1 ≤ 7) ∧ ¬ M 68 s = 0 ∧ (0 ≤ M 69 (40 * s) ∧ M 69 (40 * s) ≤ 11)
      · obtain ⟨g1, g2, g3⟩ := hg
        have ho := pe_ok (M := M) (kd := a1) (wa := 20) g3.1 g3.2
        have hle := ho.le
        refine pairQ hI (.inl (judV (onE (pe M a1 (M 69 (40 * s)) 20)) (ps M a1 (M 69 (40 * s)) 20) (fun i => M 69 (40 * s + i)) n 0)) inL' (fun K hK => ?_) (fun M1 r K hK => ?_)
        · refine csi_of (by decide) (Nat.le_of_ble_eq_true rfl) (vX10_judge_0 (by decide) _ a1 M _ ⟨fun _ => ⟨hin, fun K1 e1 k1 => uX6_isMissing k1 ?_⟩, fun q => absurd hs q⟩)
          rw [hcl] at e1
          subst e1
          have e2 : M (41 + 2 * s + 1) 0 = M 69 (40 * s) := by have := b5 0 (by decide); rw [Nat.add_zero] at this; rw [← this]; congr 1; omega
          rw [b1, b3, z0, e2]
          refine ⟨fun _ => ⟨fun q => absurd g1 q, fun _ => ⟨fun q => absurd q g2, fun _ => ⟨inL 40 rfl (by decide) (by decide), fun _ => ⟨inL 40 rfl (by decide) (by decide), ?_⟩, fun q => absurd g3 q⟩⟩⟩, fun q => absurd (b2i_f hm) q⟩
          refine folA (by decide) hI FR.refl (Or.inl rfl) g1.1 g1.2 g3.1 g3.2 (by decide) (fun Mb eb fb _ => ?_)
          have d1 : Mb (41 + 2 * s) 1 = nI n := by rw [fb.at (41 + 2 * s) (by omega), b3, b4]
          have d2 : ∀ i, i < 40 → Mb (41 + 2 * s + 1) i = M 69 (40 * s + i) := fun i hi => by
            rw [fb.at (41 + 2 * s + 1) (by omega), ← b5 i hi]
            congr 1; omega
          have L : ∀ k i, k + i = n → K (judV (onE (pe M a1 (M 69 (40 * s)) 20)) (ps M a1 (M 69 (40 * s)) 20) (fun i => M 69 (40 * s + i)) k i) Mb → RM w 12 kX10_judge 100 [(0, .ref 0), (3, .ref (41 + 2 * s)), (4, .int (nI i))] [] Mb (fun r M' => ∃ x, r = some (.int x) ∧ K x M') := by
            intro k
            induction k with
            | zero =>
              intro i hi g
              refine vX10_judge_100 (by decide) _ _ (sheetC hs5) Mb _ ⟨fun _ => ⟨_, rfl, g⟩, fun c => absurd ?_ c⟩
              rw [d1]; exact nI_le (by omega) (by omega)
            | succ k ih =>
              intro i hi g
              refine vX10_judge_100 (by decide) _ _ (sheetC hs5) Mb _ ⟨fun c => ?_, fun _ => behA walk53 eb ho (by omega) ?_⟩
              · rw [d1] at c; exact absurd c (nI_ge (by omega) (by omega))
              · rw [nI_clamp (by omega), d2 i (by omega)]
                rw [judV] at g
                by_cases h1 : i ≤ onE (pe M a1 (M 69 (40 * s)) 20)
                · rw [if_pos h1]
                  have hb := (ho.bd h1).1
                  refine ⟨fun c => ?_, fun _ => ⟨vp_in_nI (by omega) (by decide), fun c x1 e1 => ?_, fun c => ⟨_, rfl, ?_⟩⟩⟩
                  · rw [c] at hb; exact absurd hb (by decide)
                  · rw [if_pos ⟨h1, c⟩] at g
                    rw [e1, nI_1]; exact ih (i + 1) (by omega) g
                  · rw [if_neg (fun z => c z.2)] at g; exact g
                · rw [if_neg h1]
                  rw [if_neg (fun z => h1 z.1)] at g
                  exact ⟨fun _ => ⟨_, rfl, g⟩, fun c => absurd rfl c⟩
          exact L n 0 rfl (hK Mb fb)
        · refine csi_of (by decide) (Nat.le_of_ble_eq_true rfl) (vX11_judge_0 (by decide) _ a1 M1 _ ⟨fun _ => ⟨hin, ?_⟩, fun q => absurd hs q⟩)
          rw [hcl, c40, r.1 67 (by decide) (by decide) (by decide) (by decide), r.1 68 (by decide) (by decide) (by decide) (by decide), r.1 69 (by decide) (by decide) (by decide) (by decide)]
          refine ⟨fun _ => ⟨fun q => absurd g1 q, fun _ => ⟨hin, fun q => absurd q g2, fun _ => ⟨hin40, fun _ => ⟨hin40, ?_⟩, fun q => absurd g3 q⟩⟩⟩, fun q => absurd q hm⟩
          refine goA (by decide) r g3.1 g3.2 (fun Mb eb fb _ => ?_)
          have r' := r.fr fb
          have L : ∀ k i, k + i = n → K (judV (onE (pe M a1 (M 69 (40 * s)) 20)) (ps M a1 (M 69 (40 * s)) 20) (fun i => M 69 (40 * s + i)) k i) Mb → RM w 12 kX11_judge 87 [(0, .ref 59), (1, .int (nI s)), (3, .int (nI i))] [] Mb (fun r M' => ∃ x, r = some (.int x) ∧ K x M') := by
            intro k
            induction k with
            | zero =>
              intro i hi g
              refine vX11_judge_87 (by decide) _ _ Mb _ ⟨hin, fun _ => ⟨_, rfl, g⟩, fun c => absurd ?_ c⟩
              rw [hcl, r'.1 68 (by decide) (by decide) (by decide) (by decide), b4]; exact nI_le (by omega) (by omega)
            | succ k ih =>
              intro i hi g
              refine vX11_judge_87 (by decide) _ _ Mb _ ⟨hin, fun c => ?_, fun _ => onA eb ho ?_⟩
              · rw [hcl, r'.1 68 (by decide) (by decide) (by decide) (by decide), b4] at c; exact absurd c (nI_ge (by omega) (by omega))
              · rw [judV] at g
                rw [s40 hs5, nI_add, nI_clamp (show 40 * s + i < 2 ^ 31 by omega), nI_clamp (show i < 2 ^ 31 by omega), r'.1 69 (by decide) (by decide) (by decide) (by decide)]
                refine ⟨fun c => ⟨_, rfl, ?_⟩, fun c => ⟨vp_in_nI (by omega) (by decide), vp_in_nI (by omega) (by decide), ?_⟩⟩
                · have h1 := (nI_ltI (by omega) (by omega)).mp c
                  rw [if_neg (fun z => by omega)] at g; exact g
                · have h1 : i ≤ onE (pe M a1 (M 69 (40 * s)) 20) := by
                    rcases Nat.lt_or_ge (onE (pe M a1 (M 69 (40 * s)) 20)) i with z | z
                    · exact absurd (nI_lt z (by omega)) c
                    · exact z
                  rw [eb.2.2.2 i (ho.jn h1)]
                  refine ⟨fun q x1 e1 => ?_, fun q => ⟨_, rfl, ?_⟩⟩
                  · rw [if_pos ⟨h1, q.symm⟩] at g
                    rw [e1, nI_1]; exact ih (i + 1) (by omega) g
                  · rw [if_neg (fun z => q z.2.symm)] at g; exact g
          exact L n 0 rfl (hK Mb fb)
      · refine pairQ hI (.inr 0) in0 (fun K hK => ?_) (fun M1 r K hK => ?_)
        · refine csi_of (by decide) (Nat.le_of_ble_eq_true rfl) (vX10_judge_0 (by decide) _ a1 M _ ⟨fun _ => ⟨hin, fun K1 e1 k1 => uX6_isMissing k1 ?_⟩, fun q => absurd hs q⟩)
          rw [hcl] at e1
          subst e1
          have e2 : M (41 + 2 * s + 1) 0 = M 69 (40 * s) := by have := b5 0 (by decide); rw [Nat.add_zero] at this; rw [← this]; congr 1; omega
          rw [b1, b3, z0, e2]
          exact ⟨fun _ => ⟨fun _ => tell0 (hK _ FR.refl), fun g1 => ⟨fun _ => tell0 (hK _ FR.refl), fun g2 => ⟨inL 40 rfl (by decide) (by decide), fun g3 => absurd ⟨g1, g2, g3⟩ hg, fun _ => tell0 (hK _ FR.refl)⟩⟩⟩, fun q => absurd (b2i_f hm) q⟩
        · refine csi_of (by decide) (Nat.le_of_ble_eq_true rfl) (vX11_judge_0 (by decide) _ a1 M1 _ ⟨fun _ => ⟨hin, ?_⟩, fun q => absurd hs q⟩)
          rw [hcl, c40, r.1 67 (by decide) (by decide) (by decide) (by decide), r.1 68 (by decide) (by decide) (by decide) (by decide), r.1 69 (by decide) (by decide) (by decide) (by decide)]
          exact ⟨fun _ => ⟨fun _ => find0 (hK _ FR.refl), fun g1 => ⟨hin, fun _ => find0 (hK _ FR.refl), fun g2 => ⟨hin40, fun g3 => absurd ⟨g1, g2, g3⟩ hg, fun _ => find0 (hK _ FR.refl)⟩⟩⟩, fun q => absurd q hm⟩
  · refine pairQ hI (.inr 0) in0 (fun K hK => ?_) (fun M1 r K hK => ?_)
    · exact csi_of (by decide) (Nat.le_of_ble_eq_true rfl) (vX10_judge_0 (by decide) _ a1 M _ ⟨fun q => absurd q hs, fun _ => tell0 (hK _ FR.refl)⟩)
    · exact csi_of (by decide) (Nat.le_of_ble_eq_true rfl) (vX11_judge_0 (by decide) _ a1 M1 _ ⟨fun q => absurd q hs, fun _ => find0 (hK _ FR.refl)⟩)
end P3

/-! ===== copy, load ===== -/
def cpA (g : Nat → Int32) (A B n : Nat) : Nat → Int32 := fun j => if B ≤ j ∧ j < B + n then g (A + (j - B)) else g j
section G1
variable {w : Wd} {h : Nat} {M : Mem} {K : Int32 → Mem → Prop} {Kv : Mem → Prop}
theorem uX6_hasStretch {Kc : Nat} {a0 a1 : Int32} (hk : isSheetC Kc) (hK : K (b2i (¬ a0 < 0 ∧ ¬ a1 < 0 ∧ ¬ (M Kc 1 - a1 < a0))) M) : CSi w h kX6_hasStretch [.ref Kc, .int a0, .int a1] M K := by
  refine csi_of (by decide) (Nat.le_of_ble_eq_true rfl) (vX6_hasStretch_0 Kc a0 a1 hk M _ ⟨fun q => ⟨_, rfl, ?_⟩, fun q => ⟨fun q2 => ⟨_, rfl, ?_⟩, fun q2 => ⟨_, rfl, ?_⟩⟩⟩)
  · rw [b2i_f (fun z => z.1 q)] at hK; exact hK
  · rw [b2i_f (fun z => z.2.1 q2)] at hK; exact hK
  · rw [b2i_iff (Q := ¬ (M Kc 1 - a1 < a0)) ⟨fun z => z.2.2, fun z => ⟨q, q2, z⟩⟩] at hK; exact hK
theorem cp_fin (hI : INV M) {s t fr to n : Nat} (hs : s < 4) (ht : t < 4) (h1 : fr + n ≤ 40) (h2 : to + n ≤ 40) {Mc M' : Mem} (ec : Mc = mput M (41 + 2 * t + 1) (va_cpy (M (41 + 2 * s + 1)) (M (41 + 2 * t + 1)) fr to n)) (e9 : M' 69 = cpA (M 69) (40 * s + fr) (40 * t + to) n) (eo : ∀ q, q ≠ 69 → M' q = Mc q) : INV M' := by
  have co : ∀ q, q ≠ 42 + 2 * t → Mc q = M q := fun q a => by rw [ec, mput_ne (by omega)]
  have c1 : Mc (42 + 2 * t) = va_cpy (M (42 + 2 * s)) (M (42 + 2 * t)) fr to n := by rw [ec, show 41 + 2 * t + 1 = 42 + 2 * t by omega, show 41 + 2 * s + 1 = 42 + 2 * s by omega, mput_eq]
  refine hI.sheets (fun s' hs' => ?_) (fun q a b => by rw [eo q (by omega), co q (by omega)])
  obtain ⟨d1, d2, d3, d4, d5⟩ := hI.2.2.2.2.1 s' hs'
  have d5s := (hI.2.2.2.2.1 s hs).2.2.2.2
  rw [e9, eo (41 + 2 * s') (by omega), eo 67 (by omega), eo 68 (by omega), eo (42 + 2 * s') (by omega), co (41 + 2 * s') (by omega), co 67 (by omega), co 68 (by omega)]
  refine ⟨d1, d2, d3, d4, fun k hk => ?_⟩
  by_cases hst : s' = t
  · subst hst
    rw [c1]
    unfold va_cpy cpA
    by_cases hq : to ≤ k ∧ k < to + n
    · rw [if_pos hq, if_pos ⟨by omega, by omega⟩, d5s _ (by omega)]
      congr 1; omega
    · rw [if_neg hq, if_neg (by omega)]; exact d5 k hk
  · rw [co _ (by omega)]
    unfold cpA
    rw [if_neg (by omega)]; exact d5 k hk
theorem p_copy (hI : INV M) {a0 a1 a2 a3 a4 : Int32} : PAIR w kX10_copy kX11_copy [.int a0, .int a1, .int a2, .int a3, .int a4] M := by
  by_cases hs : 0 ≤ a0 ∧ a0 ≤ 3
  · by_cases ht : 0 ≤ a2 ∧ a2 ≤ 3
    · obtain ⟨s, hs3, rfl⟩ := nI_of2 (n := 3) rfl (Int32.not_lt.mpr hs.1) hs.2
      obtain ⟨t, ht3, rfl⟩ := nI_of2 (n := 3) rfl (Int32.not_lt.mpr ht.1) ht.2
      have hs4 : s < 4 := by omega
      have ht4 : t < 4 := by omega
      have hcl : (nI s).toNatClampNeg = s := nI_clamp (by omega)
      have hct : (nI t).toNatClampNeg = t := nI_clamp (by omega)
      have hin : vp_in (nI s) 4 := vp_in_nI hs4 (by decide)
      have hit : vp_in (nI t) 4 := vp_in_nI ht4 (by decide)
      obtain ⟨b1, b2, b3, ⟨n, hn, b4⟩, b5⟩ := hI.2.2.2.2.1 s hs4
      obtain ⟨d1, d2, d3, ⟨m, hm, d4⟩, d5⟩ := hI.2.2.2.2.1 t ht4
      have n0 : 0 ≤ nI n := nI_pos' (by omega)
      have n1 : nI n ≤ 40 := nI_le (b := 40) hn (by decide)
      have m0 : 0 ≤ nI m := nI_pos' (by omega)
      have m1 : nI m ≤ 40 := nI_le (b := 40) hm (by decide)
      by_cases hms : M 67 s = 0 ∨ M 67 t = 0
      · refine pairQ hI (.inr 5) in5 (fun K hK => ?_) (fun M1 r K hK => ?_)
        · refine csi_of (by decide) (Nat.le_of_ble_eq_true rfl) (vX10_copy_0 (by decide) _ a1 _ a3 a4 M _ ⟨fun q => absurd hs q, fun _ => ⟨fun _ => ⟨hin, fun K1 e1 k1 => ⟨hit, fun K2 e2 k2 => uX6_isMissing k1 ?_⟩⟩, fun q => absurd ht q⟩⟩)
          rw [hcl] at e1
          rw [hct] at e2
          subst e1 e2
          rw [b1]
          refine ⟨fun _ => tell5 (hK _ FR.refl), fun q => uX6_isMissing k2 ?_⟩
          rw [d1]
          exact ⟨fun q2 => absurd hms (fun z => by rcases z with z | z; exact b2i_0.mp q z; exact b2i_0.mp q2 z), fun _ => tell5 (hK _ FR.refl)⟩
        · refine csi_of (by decide) (Nat.le_of_ble_eq_true rfl) (vX11_copy_0 (by decide) _ a1 _ a3 a4 M1 _ ⟨fun q => absurd hs q, fun _ => ⟨fun _ => ⟨hin, ?_⟩, fun q => absurd ht q⟩⟩)
          rw [hcl, hct, r.1 67 (by decide) (by decide) (by decide) (by decide)]
          exact ⟨fun _ => find5 (hK _ FR.refl), fun q => ⟨hit, fun q2 => absurd hms (fun z => by rcases z with z | z; exact q z; exact q2 z), fun _ => find5 (hK _ FR.refl)⟩⟩
      · have ms : ¬ M 67 s = 0 := fun z => hms (Or.inl z)
        have mt : ¬ M 67 t = 0 := fun z => hms (Or.inr z)
        by_cases hbb : M 67 s = M 67 t
        · by_cases hok : (¬ a1 < 0 ∧ ¬ a4 < 0 ∧ ¬ (nI n - a4 < a1)) ∧ (¬ a3 < 0 ∧ ¬ a4 < 0 ∧ ¬ (nI m - a4 < a3))
          · obtain ⟨⟨p1, p2, p3⟩, ⟨p4, -, p5⟩⟩ := id hok
            obtain ⟨g1, g2, g3⟩ := g_str2 n0 n1 p2 p1 p3
            obtain ⟨-, g4, g5⟩ := g_str2 m0 m1 p2 p4 p5
            have p3' : ¬ (nI n - a1 < a4) := fun z => p3 ((g_str n0 n1 p2 p1).mpr z)
            have p5' : a4 ≤ nI m - a3 := Int32.not_lt.mp (fun z => p5 ((g_str m0 m1 p2 p4).mpr z))
            obtain ⟨fr, hfr, rfl⟩ := nI_of2 (n := 40) rfl p1 g2
            obtain ⟨to, hto, rfl⟩ := nI_of2 (n := 40) rfl p4 g4
            obtain ⟨k, hk, rfl⟩ := nI_of2 (n := 40) rfl p2 g1
            rw [nI_add, nI_leI (by omega) (by omega)] at g3 g5
            have cfr : (nI fr).toNatClampNeg = fr := nI_clamp (by omega)
            have cto : (nI to).toNatClampNeg = to := nI_clamp (by omega)
            have ck : (nI k).toNatClampNeg = k := nI_clamp (by omega)
            refine csi_of (by decide) (Nat.le_of_ble_eq_true rfl) (vX10_copy_0 (by decide) _ _ _ _ _ M _ ⟨fun q => absurd hs q, fun _ => ⟨fun _ => ⟨hin, fun K1 e1 k1 => ⟨hit, fun K2 e2 k2 => uX6_isMissing k1 ?_⟩⟩, fun q => absurd ht q⟩⟩)
            rw [hcl] at e1
            rw [hct] at e2
            subst e1 e2
            rw [b1]
            refine ⟨fun q => absurd (b2i_f ms) q, fun q => uX6_isMissing k2 ?_⟩
            rw [d1, b1]
            refine ⟨fun q2 => ⟨fun _ => uX6_hasStretch k1 ?_, fun q => absurd hbb q⟩, fun q => absurd (b2i_f mt) q⟩
            rw [b3, b4]
            refine ⟨fun q => absurd hok.1 (b2i_0.mp q), fun _ => uX6_hasStretch k2 ?_⟩
            rw [d3, d4]
            refine ⟨fun _ => ⟨p1, p4, p2, ?_, ?_, fun Mc ec => ⟨_, rfl, ?_⟩⟩, fun q => absurd hok.2 (b2i_0.mp q)⟩
            · rw [cfr, ck]; omega
            · rw [cto, ck]; omega
            · rw [cfr, cto, ck] at ec
              have co : ∀ q, q ≠ 42 + 2 * t → Mc q = M q := fun q a => by rw [ec, mput_ne (by omega)]
              have IX : ∀ (s' f' i : Nat), s' < 4 → 40 * nI s' + nI f' + nI i = nI (40 * s' + f' + i) := fun s' f' i h => by rw [s40 h, nI_add, nI_add]
              have L : (¬ s = t ∨ to ≤ fr) → ∀ j i, j + i = k → ∀ Mx : Mem, (∀ q, q ≠ 69 → Mx q = Mc q) → Mx 69 = cpA (M 69) (40 * s + fr) (40 * t + to) i → RM w 12 kX11_copy 139 [(0, .ref 59), (1, .int (nI s)), (2, .int (nI fr)), (3, .int (nI t)), (4, .int (nI to)), (5, .int (nI k)), (6, .int 0), (7, .int (nI i))] [] Mx (fun r M' => ∃ x, r = some (.int x) ∧ nI k = x ∧ INV M') := by
                intro hdir j
                induction j with
                | zero =>
                  intro i hi Mx a b
                  have : i = k := by omega
                  subst this
                  exact vX11_copy_139 (by decide) _ _ _ _ _ _ _ Mx _ ⟨fun _ => ⟨_, rfl, rfl, cp_fin hI hs4 ht4 (by omega) (by omega) ec b a⟩, fun q => absurd (nI_le (by omega) (by omega)) q⟩
                | succ j ih =>
                  intro i hi Mx a b
                  refine vX11_copy_139 (by decide) _ _ _ _ _ _ _ Mx _ ⟨fun q => absurd q (nI_ge (by omega) (by omega)), fun _ x1 e1 => ?_⟩
                  rw [if_pos rfl] at e1
                  rw [e1, IX s fr i hs4, IX t to i ht4, nI_clamp (by omega), nI_clamp (by omega)]
                  refine ⟨vp_in_nI (by omega) (by decide), vp_in_nI (by omega) (by decide), fun My ey v e2 => ?_⟩
                  rw [e2, nI_1]
                  refine ih (i + 1) (by omega) My (fun q hq => by rw [ey, mset_ne hq]; exact a q hq) ?_
                  rw [ey, mset_eq, b]
                  funext q
                  have hrd : cpA (M 69) (40 * s + fr) (40 * t + to) i (40 * s + fr + i) = M 69 (40 * s + fr + i) := by
                    unfold cpA; rw [if_neg (by rcases hdir with z | z <;> omega)]
                  rw [hrd]
                  by_cases hq : q = 40 * t + to + i
                  · subst hq
                    rw [pk_us]
                    unfold cpA
                    rw [if_pos ⟨by omega, by omega⟩]
                    congr 1; omega
                  · rw [pk_un hq]
                    unfold cpA
                    by_cases h2 : 40 * t + to ≤ q ∧ q < 40 * t + to + i
                    · rw [if_pos h2, if_pos ⟨by omega, by omega⟩]
                    · rw [if_neg h2, if_neg (by omega)]
              have LB : s = t → fr < to → ∀ j i, j + i = k → ∀ Mx : Mem, (∀ q, q ≠ 69 → Mx q = Mc q) → (∀ q, Mx 69 q = if 40 * t + to + (k - i) ≤ q ∧ q < 40 * t + to + k then M 69 (40 * s + fr + (q - (40 * t + to))) else M 69 q) → RM w 12 kX11_copy 139 [(0, .ref 59), (1, .int (nI s)), (2, .int (nI fr)), (3, .int (nI t)), (4, .int (nI to)), (5, .int (nI k)), (6, .int 1), (7, .int (nI i))] [] Mx (fun r M' => ∃ x, r = some (.int x) ∧ nI k = x ∧ INV M') := by
                intro hst hdir j
                induction j with
                | zero =>
                  intro i hi Mx a b
                  have : i = k := by omega
                  subst this
                  refine vX11_copy_139 (by decide) _ _ _ _ _ _ _ Mx _ ⟨fun _ => ⟨_, rfl, rfl, cp_fin hI hs4 ht4 (by omega) (by omega) ec ?_ a⟩, fun q => absurd (nI_le (by omega) (by omega)) q⟩
                  funext q
                  rw [b q]
                  unfold cpA
                  by_cases h2 : 40 * t + to ≤ q ∧ q < 40 * t + to + i
                  · rw [if_pos h2, if_pos ⟨by omega, h2.2⟩]
                  · rw [if_neg h2, if_neg (by omega)]
                | succ j ih =>
                  intro i hi Mx a b
                  refine vX11_copy_139 (by decide) _ _ _ _ _ _ _ Mx _ ⟨fun q => absurd q (nI_ge (by omega) (by omega)), fun _ x1 e1 => ?_⟩
                  rw [if_neg (by decide)] at e1
                  have ex : x1 = nI j := by
                    rw [e1, show k = j + i + 1 by omega, nI_pred]
                    have := nI_add j i
                    rw [← this]
                    generalize nI j = x
                    generalize nI i = y
                    grind
                  rw [ex, IX s fr j hs4, IX t to j ht4, nI_clamp (by omega), nI_clamp (by omega)]
                  refine ⟨vp_in_nI (by omega) (by decide), vp_in_nI (by omega) (by decide), fun My ey v e2 => ?_⟩
                  rw [e2, nI_1]
                  refine ih (i + 1) (by omega) My (fun q hq => by rw [ey, mset_ne hq]; exact a q hq) (fun q => ?_)
                  rw [ey, mset_eq, b (40 * s + fr + j), if_neg (by omega)]
                  by_cases hq : q = 40 * t + to + j
                  · subst hq
                    rw [pk_us, if_pos ⟨by omega, by omega⟩]
                    congr 1; omega
                  · rw [pk_un hq, b q]
                    by_cases h2 : 40 * t + to + (k - i) ≤ q ∧ q < 40 * t + to + k
                    · rw [if_pos h2, if_pos ⟨by omega, by omega⟩]
                    · rw [if_neg h2, if_neg (by omega)]
              refine csi_of (by decide) (Nat.le_of_ble_eq_true rfl) (vX11_copy_0 (by decide) _ _ _ _ _ Mc _ ⟨fun q => absurd hs q, fun _ => ⟨fun _ => ⟨hin, ?_⟩, fun q => absurd ht q⟩⟩)
              rw [hcl, hct, co 67 (by omega), co 68 (by omega), b4, d4]
              refine ⟨fun q => absurd q ms, fun _ => ⟨hit, fun _ => ⟨hin, hit, fun _ => ⟨fun q => absurd q p2, fun _ => ⟨fun q => absurd q p1, fun _ => ⟨fun q => absurd q p4, fun _ => ⟨hin, fun q => absurd q p3', fun _ => ⟨hit, fun _ => ⟨fun q => ?_, fun q x1 e1 => ?_⟩, fun q => absurd p5' q⟩⟩⟩⟩⟩, fun q => absurd hbb q⟩, fun q => absurd q mt⟩⟩
              · refine L (Or.inl (fun z => q (by rw [z]))) k 0 rfl Mc (fun _ _ => rfl) ?_
                rw [co 69 (by omega)]
                funext j; unfold cpA; rw [if_neg (by omega)]
              · have hst : s = t := (nI_eq (by omega) (by omega)).mp q
                by_cases hle : nI to ≤ nI fr
                · rw [b2i_f (fun z => z hle)] at e1
                  rw [e1]
                  refine L (Or.inr ((nI_leI (by omega) (by omega)).mp hle)) k 0 rfl Mc (fun _ _ => rfl) ?_
                  rw [co 69 (by omega)]
                  funext j; unfold cpA; rw [if_neg (by omega)]
                · rw [b2i_t hle] at e1
                  rw [e1]
                  have hlt : fr < to := by
                    rcases Nat.lt_or_ge fr to with z | z
                    · exact z
                    · exact absurd (nI_le z (by omega)) hle
                  refine LB hst hlt k 0 rfl Mc (fun _ _ => rfl) (fun j => ?_)
                  rw [co 69 (by omega), if_neg (by omega)]
          · refine pairQ hI (.inr 0) in0 (fun K hK => ?_) (fun M1 r K hK => ?_)
            · refine csi_of (by decide) (Nat.le_of_ble_eq_true rfl) (vX10_copy_0 (by decide) _ a1 _ a3 a4 M _ ⟨fun q => absurd hs q, fun _ => ⟨fun _ => ⟨hin, fun K1 e1 k1 => ⟨hit, fun K2 e2 k2 => uX6_isMissing k1 ?_⟩⟩, fun q => absurd ht q⟩⟩)
              rw [hcl] at e1
              rw [hct] at e2
              subst e1 e2
              rw [b1]
              refine ⟨fun q => absurd (b2i_f ms) q, fun q => uX6_isMissing k2 ?_⟩
              rw [d1, b1]
              refine ⟨fun q2 => ⟨fun _ => uX6_hasStretch k1 ?_, fun q => absurd hbb q⟩, fun q => absurd (b2i_f mt) q⟩
              rw [b3, b4]
              refine ⟨fun _ => tell0 (hK _ FR.refl), fun q1 => uX6_hasStretch k2 ?_⟩
              rw [d3, d4]
              exact ⟨fun q2 => absurd ⟨b2n.mp q1, b2n.mp q2⟩ hok, fun _ => tell0 (hK _ FR.refl)⟩
            · refine csi_of (by decide) (Nat.le_of_ble_eq_true rfl) (vX11_copy_0 (by decide) _ a1 _ a3 a4 M1 _ ⟨fun q => absurd hs q, fun _ => ⟨fun _ => ⟨hin, ?_⟩, fun q => absurd ht q⟩⟩)
              rw [hcl, hct, r.1 67 (by decide) (by decide) (by decide) (by decide), r.1 68 (by decide) (by decide) (by decide) (by decide), b4, d4]
              have g : CSi w 11 kX11_finds [.ref 59, .int (-1000001)] M1 (fun r1 M1 => ∃ x, some (Value.int r1) = some (.int x) ∧ K x M1) := find0 (hK _ FR.refl)
              refine ⟨fun q => absurd q ms, fun _ => ⟨hit, fun _ => ⟨hin, hit, fun _ => ⟨fun _ => g, fun p2 => ⟨fun _ => g, fun p1 => ⟨fun _ => g, fun p4 => ⟨hin, fun _ => g, fun p3 => ⟨hit, fun p5 => absurd ⟨⟨p1, p2, fun z => p3 ((g_str n0 n1 p2 p1).mp z)⟩, ⟨p4, p2, fun z => absurd p5 (Int32.not_le.mpr ((g_str m0 m1 p2 p4).mp z))⟩⟩ hok, fun _ => g⟩⟩⟩⟩⟩, fun q => absurd hbb q⟩, fun q => absurd q mt⟩⟩
        · refine pairQ hI (.inr 2) in2 (fun K hK => ?_) (fun M1 r K hK => ?_)
          · refine csi_of (by decide) (Nat.le_of_ble_eq_true rfl) (vX10_copy_0 (by decide) _ a1 _ a3 a4 M _ ⟨fun q => absurd hs q, fun _ => ⟨fun _ => ⟨hin, fun K1 e1 k1 => ⟨hit, fun K2 e2 k2 => uX6_isMissing k1 ?_⟩⟩, fun q => absurd ht q⟩⟩)
            rw [hcl] at e1
            rw [hct] at e2
            subst e1 e2
            rw [b1]
            refine ⟨fun q => absurd (b2i_f ms) q, fun q => uX6_isMissing k2 ?_⟩
            rw [d1, b1]
            exact ⟨fun q2 => ⟨fun q => absurd q hbb, fun _ => tell2 (hK _ FR.refl)⟩, fun q => absurd (b2i_f mt) q⟩
          · refine csi_of (by decide) (Nat.le_of_ble_eq_true rfl) (vX11_copy_0 (by decide) _ a1 _ a3 a4 M1 _ ⟨fun q => absurd hs q, fun _ => ⟨fun _ => ⟨hin, ?_⟩, fun q => absurd ht q⟩⟩)
            rw [hcl, hct, r.1 67 (by decide) (by decide) (by decide) (by decide)]
            exact ⟨fun q => absurd q ms, fun _ => ⟨hit, fun _ => ⟨hin, hit, fun q => absurd q hbb, fun _ => find2 (hK _ FR.refl)⟩, fun q => absurd q mt⟩⟩
    · refine pairQ hI (.inr 0) in0 (fun K hK => ?_) (fun M1 r K hK => ?_)
      · exact csi_of (by decide) (Nat.le_of_ble_eq_true rfl) (vX10_copy_0 (by decide) _ _ _ _ _ M _ ⟨fun q => absurd hs q, fun _ => ⟨fun q => absurd q ht, fun _ => tell0 (hK _ FR.refl)⟩⟩)
      · exact csi_of (by decide) (Nat.le_of_ble_eq_true rfl) (vX11_copy_0 (by decide) _ _ _ _ _ M1 _ ⟨fun q => absurd hs q, fun _ => ⟨fun q => absurd q ht, fun _ => find0 (hK _ FR.refl)⟩⟩)
  · refine pairQ hI (.inr 0) in0 (fun K hK => ?_) (fun M1 r K hK => ?_)
    · exact csi_of (by decide) (Nat.le_of_ble_eq_true rfl) (vX10_copy_0 (by decide) _ _ _ _ _ M _ ⟨fun _ => tell0 (hK _ FR.refl), fun q => absurd q hs⟩)
    · exact csi_of (by decide) (Nat.le_of_ble_eq_true rfl) (vX11_copy_0 (by decide) _ _ _ _ _ M1 _ ⟨fun _ => find0 (hK _ FR.refl), fun q => absurd q hs⟩)
def lodT (nu : Nat → Int32) (c : Nat) : Nat → Nat → (Nat → Int32) → Int32 × (Nat → Int32)
  | 0, i, f => (nI i, f)
  | n + 1, i, f => if c + i < 192 ∧ (0 ≤ nu i ∧ nu i ≤ 9) then lodT nu c n (i + 1) (upd f (18 + (c + i)) (nu i)) else (nI i, f)
theorem p_load (hI : INV M) {a0 a1 : Int32} : PAIR w kX10_load kX11_load [.int a0, .int a1] M := by
  by_cases hs : 0 ≤ a0 ∧ a0 ≤ 3
  · obtain ⟨s, hs3, rfl⟩ := nI_of2 (n := 3) rfl (Int32.not_lt.mpr hs.1) hs.2
    have hs4 : s < 4 := by omega
    have hcl : (nI s).toNatClampNeg = s := nI_clamp (by omega)
    have hin : vp_in (nI s) 4 := vp_in_nI hs4 (by decide)
    obtain ⟨b1, b2, b3, ⟨n, hn, b4⟩, b5⟩ := hI.2.2.2.2.1 s hs4
    by_cases hm : M 67 s = 0
    · refine pairQ hI (.inr 5) in5 (fun K hK => ?_) (fun M1 r K hK => ?_)
      · refine csi_of (by decide) (Nat.le_of_ble_eq_true rfl) (vX10_load_0 (by decide) _ a1 M _ ⟨fun _ => ⟨hin, fun K1 e1 k1 => uX6_isMissing k1 ?_⟩, fun q => absurd hs q⟩)
        rw [hcl] at e1
        rw [e1, b1]
        exact ⟨fun q => absurd hm (b2i_0.mp q), fun _ => tell5 (hK _ FR.refl)⟩
      · refine csi_of (by decide) (Nat.le_of_ble_eq_true rfl) (vX11_load_0 (by decide) _ a1 M1 _ ⟨fun _ => ⟨hin, ?_⟩, fun q => absurd hs q⟩)
        rw [hcl, r.1 67 (by decide) (by decide) (by decide) (by decide)]
        exact ⟨fun q => absurd hm q, fun _ => find5 (hK _ FR.refl)⟩
    · by_cases hc : 0 ≤ a1 ∧ a1 ≤ 191
      · obtain ⟨c, hc1, rfl⟩ := nI_of2 (n := 191) rfl (Int32.not_lt.mpr hc.1) hc.2
        -- the row of numbers, and what comes of it
        refine csi_of (by decide) (Nat.le_of_ble_eq_true rfl) (vX10_load_0 (by decide) _ _ M _ ⟨fun _ => ⟨hin, fun K1 e1 k1 => uX6_isMissing k1 ?_⟩, fun q => absurd hs q⟩)
        rw [hcl] at e1
        subst e1
        rw [b1]
        refine ⟨fun _ => ⟨fun _ => ?_, fun q => absurd hc q⟩, fun q => absurd (b2i_f hm) q⟩
        have RR : ∀ Mc, cR 3 Mc (lodT (fun i => M 69 (40 * s + i)) c n 0 (M 60)).2 → FS M Mc → CSi w 12 kX11_load [.ref 59, .int (nI s), .int (nI c)] Mc (fun r2 M2 => (lodT (fun i => M 69 (40 * s + i)) c n 0 (M 60)).1 = r2 ∧ INV M2) := by
          intro Mc cc fc
          have x67 : Mc 67 = M 67 := fc.1 67 (by omega) (by unfold jc; omega)
          have x68 : Mc 68 = M 68 := fc.1 68 (by omega) (by unfold jc; omega)
          have x69 : Mc 69 = M 69 := fc.1 69 (by omega) (by unfold jc; omega)
          have x60 : Mc 60 = M 60 := fc.1 60 (by omega) (by unfold jc; omega)
          refine csi_of (by decide) (Nat.le_of_ble_eq_true rfl) (vX11_load_0 (by decide) _ _ Mc _ ⟨fun _ => ⟨hin, ?_⟩, fun q => absurd hs q⟩)
          rw [hcl, x67]
          refine ⟨fun _ => ⟨fun _ => ?_, fun q => absurd hc q⟩, fun q => absurd q hm⟩
          have L : ∀ k i, k + i = n → ∀ Mx : Mem, (∀ q, q ≠ 60 → Mx q = Mc q) → (lodT (fun i => M 69 (40 * s + i)) c n 0 (M 60)) = lodT (fun i => M 69 (40 * s + i)) c k i (Mx 60) → RM w 12 kX11_load 47 [(0, .ref 59), (1, .int (nI s)), (2, .int (nI c)), (3, .int (nI i))] [] Mx (fun r M' => ∃ x, r = some (.int x) ∧ (lodT (fun i => M 69 (40 * s + i)) c n 0 (M 60)).1 = x ∧ INV M') := by
            intro k
            induction k with
            | zero =>
              intro i hi Mx a b
              have b' : lodT (fun i => M 69 (40 * s + i)) c n 0 (M 60) = (nI i, Mx 60) := b
              refine vX11_load_47 (by decide) _ _ _ Mx _ ⟨hin, fun _ => ⟨_, rfl, by rw [b'], ?_⟩, fun q => absurd ?_ q⟩
              · rw [b'] at cc
                refine hI.scene (cc.same (fun q x y z => a q (by omega))) (fun q x y z => by rw [a q y]; exact fc.1 q x z) ?_ ?_ ?_
                · rw [a 59 (by decide), fc.2]
                · rw [a 59 (by decide), fc.2]
                · rw [a 59 (by decide), fc.2]
              · rw [hcl, a 68 (by decide), x68, b4]; exact nI_le (by omega) (by omega)
            | succ k ih =>
              intro i hi Mx a b
              have DONE : lodT (fun i => M 69 (40 * s + i)) c n 0 (M 60) = (nI i, Mx 60) → ∃ x, some (Value.int (nI i)) = some (.int x) ∧ (lodT (fun i => M 69 (40 * s + i)) c n 0 (M 60)).1 = x ∧ INV Mx := by
                intro b'
                refine ⟨_, rfl, by rw [b'], ?_⟩
                rw [b'] at cc
                refine hI.scene (cc.same (fun q x y z => a q (by omega))) (fun q x y z => by rw [a q y]; exact fc.1 q x z) ?_ ?_ ?_
                · rw [a 59 (by decide), fc.2]
                · rw [a 59 (by decide), fc.2]
                · rw [a 59 (by decide), fc.2]
              rw [show lodT (fun i => M 69 (40 * s + i)) c (k + 1) i (Mx 60) = if c + i < 192 ∧ (0 ≤ M 69 (40 * s + i) ∧ M 69 (40 * s + i) ≤ 9) then lodT (fun i => M 69 (40 * s + i)) c k (i + 1) (upd (Mx 60) (18 + (c + i)) (M 69 (40 * s + i))) else (nI i, Mx 60) from rfl] at b
              refine vX11_load_47 (by decide) _ _ _ Mx _ ⟨hin, fun q => ?_, fun _ => ?_⟩
              · rw [hcl, a 68 (by decide), x68, b4] at q
                exact absurd q (nI_ge (by omega) (by omega))
              · rw [nI_add, s40 hs4, nI_add, n18, nI_add, nI_clamp (show 40 * s + i < 2 ^ 31 by omega), nI_clamp (show 18 + c + i < 2 ^ 31 by omega), a 69 (by decide), x69]
                have hin2 : vp_in (nI (40 * s + i)) 160 := vp_in_nI (by omega) (by decide)
                refine ⟨fun q => DONE ?_, fun q => ⟨hin2, fun q2 => DONE ?_, fun q2 => ⟨hin2, ?_, fun My ey v e2 => ?_⟩⟩⟩
                · rw [if_neg (fun z => q ⟨nI_pos' (by omega), nI_le (b := 191) (by omega) (by decide)⟩)] at b; exact b
                · rw [if_neg (fun z => q2 z.2)] at b; exact b
                · have hci : c + i < 192 := by
                    have := (nI_leI (b := 191) (by omega) (by decide)).mp q.2
                    omega
                  exact vp_in_nI (by omega) (by decide)
                · have hci : c + i < 192 := by
                    have := (nI_leI (b := 191) (by omega) (by decide)).mp q.2
                    omega
                  rw [if_pos ⟨hci, q2⟩] at b
                  rw [e2, nI_1]
                  refine ih (i + 1) (by omega) My (fun q hq => by rw [ey, mset_ne hq]; exact a q hq) ?_
                  rw [ey, mset_eq, show 18 + c + i = 18 + (c + i) by omega]; exact b
          exact L n 0 rfl Mc (fun _ _ => rfl) (by rw [x60])
        have L : ∀ k i, k + i = n → ∀ f Mx, cR 3 Mx f → FS M Mx → (lodT (fun i => M 69 (40 * s + i)) c n 0 (M 60)) = lodT (fun i => M 69 (40 * s + i)) c k i f → RM w 12 kX10_load 58 [(0, .ref 0), (2, .int (nI c)), (3, .ref (41 + 2 * s)), (4, .int (nI i))] [] Mx (fun r M' => ∃ x, r = some (.int x) ∧ CSi w 12 kX11_load [.ref 59, .int (nI s), .int (nI c)] M' (fun r2 M2 => x = r2 ∧ INV M2)) := by
          intro k
          induction k with
          | zero =>
            intro i hi f Mx cx fx b
            have b' : lodT (fun i => M 69 (40 * s + i)) c n 0 (M 60) = (nI i, f) := b
            have := RR Mx (by rw [b']; exact cx) fx
            rw [b'] at this
            refine vX10_load_58 (by decide) _ _ _ k1 Mx _ ⟨fun _ => ⟨_, rfl, this⟩, fun q => absurd ?_ q⟩
            rw [fx.1 _ (by omega) (by unfold jc; omega), b3, b4]; exact nI_le (by omega) (by omega)
          | succ k ih =>
            intro i hi f Mx cx fx b
            have DONE : lodT (fun i => M 69 (40 * s + i)) c n 0 (M 60) = (nI i, f) → ∃ x, some (Value.int (nI i)) = some (.int x) ∧ CSi w 12 kX11_load [.ref 59, .int (nI s), .int (nI c)] Mx (fun r2 M2 => x = r2 ∧ INV M2) := by
              intro b'
              have := RR Mx (by rw [b']; exact cx) fx
              rw [b'] at this
              exact ⟨_, rfl, this⟩
            rw [show lodT (fun i => M 69 (40 * s + i)) c (k + 1) i f = if c + i < 192 ∧ (0 ≤ M 69 (40 * s + i) ∧ M 69 (40 * s + i) ≤ 9) then lodT (fun i => M 69 (40 * s + i)) c k (i + 1) (upd f (18 + (c + i)) (M 69 (40 * s + i))) else (nI i, f) from rfl] at b
            have e9 : Mx (41 + 2 * s + 1) i = M 69 (40 * s + i) := by
              rw [fx.1 _ (by omega) (by unfold jc; omega), ← b5 i (by omega)]
              congr 1; omega
            refine vX10_load_58 (by decide) _ _ _ k1 Mx _ ⟨fun q => ?_, fun _ => ?_⟩
            · rw [fx.1 _ (by omega) (by unfold jc; omega), b3, b4] at q
              exact absurd q (nI_ge (by omega) (by omega))
            · rw [nI_add, nI_clamp (show i < 2 ^ 31 by omega), nI_clamp (show c + i < 2 ^ 31 by omega), e9]
              have hin3 : vp_in (nI i) 40 := vp_in_nI (by omega) (by decide)
              refine ⟨fun q => DONE ?_, fun q => ⟨hin3, fun q2 => DONE ?_, fun q2 => ⟨hin3, ?_, fun My ey v e2 => ?_⟩⟩⟩
              · have := (nI_leI (a := 192) (by decide) (by omega)).mp q
                rw [if_neg (fun z => by omega)] at b; exact b
              · rw [if_neg (fun z => q2 z.2)] at b; exact b
              · have hci : c + i < 192 := by
                  rcases Nat.lt_or_ge (c + i) 192 with z | z
                  · exact z
                  · exact absurd (nI_le z (by omega)) q
                exact vp_in_nI hci (by decide)
              · have hci : c + i < 192 := by
                  rcases Nat.lt_or_ge (c + i) 192 with z | z
                  · exact z
                  · exact absurd (nI_le z (by omega)) q
                rw [if_pos ⟨hci, q2⟩] at b
                rw [e2, nI_1]
                exact ih (i + 1) (by omega) _ My (cx.dirt1 hci q2 ey) (fx.trans (FS.of (fun q hq => by rw [ey]; exact mset_ne (by omega)))) b
        exact L n 0 rfl (M 60) M hI.cr FS.refl rfl
      · refine pairQ hI (.inr 0) in0 (fun K hK => ?_) (fun M1 r K hK => ?_)
        · refine csi_of (by decide) (Nat.le_of_ble_eq_true rfl) (vX10_load_0 (by decide) _ a1 M _ ⟨fun _ => ⟨hin, fun K1 e1 k1 => uX6_isMissing k1 ?_⟩, fun q => absurd hs q⟩)
          rw [hcl] at e1
          rw [e1, b1]
          exact ⟨fun _ => ⟨fun q => absurd q hc, fun _ => tell0 (hK _ FR.refl)⟩, fun q => absurd (b2i_f hm) q⟩
        · refine csi_of (by decide) (Nat.le_of_ble_eq_true rfl) (vX11_load_0 (by decide) _ a1 M1 _ ⟨fun _ => ⟨hin, ?_⟩, fun q => absurd hs q⟩)
          rw [hcl, r.1 67 (by decide) (by decide) (by decide) (by decide)]
          exact ⟨fun _ => ⟨fun q => absurd q hc, fun _ => find0 (hK _ FR.refl)⟩, fun q => absurd q hm⟩
  · refine pairQ hI (.inr 0) in0 (fun K hK => ?_) (fun M1 r K hK => ?_)
    · exact csi_of (by decide) (Nat.le_of_ble_eq_true rfl) (vX10_load_0 (by decide) _ a1 M _ ⟨fun q => absurd q hs, fun _ => tell0 (hK _ FR.refl)⟩)
    · exact csi_of (by decide) (Nat.le_of_ble_eq_true rfl) (vX11_load_0 (by decide) _ a1 M1 _ ⟨fun q => absurd q hs, fun _ => find0 (hK _ FR.refl)⟩)
end G1

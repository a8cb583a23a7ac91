/-! ===== sheets, tape ===== -/
theorem g_str {s n a : Int32} (h0 : 0 ≤ s) (h1 : s ≤ 40) (hn : ¬ n < 0) (ha : ¬ a < 0) : s - n < a ↔ s - a < n := by grind
theorem g_str2 {s n a : Int32} (h0 : 0 ≤ s) (h1 : s ≤ 40) (hn : ¬ n < 0) (ha : ¬ a < 0) (h : ¬ s - n < a) : n ≤ 40 ∧ a ≤ 40 ∧ n + a ≤ s := by grind
theorem INV.sheets {M M' : Mem} (hI : INV M) (h : iSheet M') (f : ∀ q, ¬ (41 ≤ q ∧ q ≤ 48) → ¬ (67 ≤ q ∧ q ≤ 69) → M' q = M q) : INV M' := by
  obtain ⟨h1, ⟨k1, k2, k3⟩, h3, h4, h5, h6⟩ := hI
  refine ⟨h1.same (f 60 (by omega) (by omega)) (fun q a b c => f q (by omega) (by omega)), ⟨?_, ?_, fun hz => ?_⟩, ?_, ?_, h, ?_⟩
  · rw [f 0 (by omega) (by omega), f 59 (by omega) (by omega)]; exact k1
  · rw [f 59 (by omega) (by omega)]; exact k2
  · rw [f 59 (by omega) (by omega)] at hz
    exact (k3 hz).same (f 61 (by omega) (by omega)) (fun q a b c => f q (by omega) (by omega))
  · unfold iFound; rw [f 2 (by omega) (by omega), f 62 (by omega) (by omega)]; exact h3
  · unfold iTape; rw [f 37 (by omega) (by omega), f 38 (by omega) (by omega), f 63 (by omega) (by omega), f 59 (by omega) (by omega)]; exact h4
  · rw [f 59 (by omega) (by omega)]; exact h6
theorem INV.tapes {M M' : Mem} (hI : INV M) (h : iTape M') (f : ∀ q, q ≠ 37 → q ≠ 38 → q ≠ 63 → q ≠ 59 → M' q = M q) (f9 : ∀ j, j ≠ 6 → M' 59 j = M 59 j) : INV M' := by
  obtain ⟨h1, ⟨k1, k2, k3⟩, h3, h4, h5, h6⟩ := hI
  refine ⟨h1.same (f 60 (by omega) (by omega) (by omega) (by omega)) (fun q a b c => f q (by omega) (by omega) (by omega) (by omega)), ⟨?_, ?_, fun hz => ?_⟩, ?_, h, ?_, ?_⟩
  · rw [f 0 (by omega) (by omega) (by omega) (by omega), f9 2 (by decide)]; exact k1
  · rw [f9 2 (by decide)]; exact k2
  · rw [f9 2 (by decide)] at hz
    exact (k3 hz).same (f 61 (by omega) (by omega) (by omega) (by omega)) (fun q a b c => f q (by omega) (by omega) (by omega) (by omega))
  · unfold iFound; rw [f 2 (by omega) (by omega) (by omega) (by omega), f 62 (by omega) (by omega) (by omega) (by omega)]; exact h3
  · exact h5.same (fun q a b => f q (by omega) (by omega) (by omega) (by omega)) (f 67 (by omega) (by omega) (by omega) (by omega)) (f 68 (by omega) (by omega) (by omega) (by omega)) (f 69 (by omega) (by omega) (by omega) (by omega))
  · rw [f9 4 (by decide)]; exact h6
section G0
variable {w : Wd} {h : Nat} {M : Mem} {K : Int32 → Mem → Prop} {Kv : Mem → Prop}
theorem p_sheet (hI : INV M) {a0 a1 a2 : Int32} : PAIR w kX10_sheet kX11_sheet [.int a0, .int a1, .int a2] M := by
  by_cases hs : 0 ≤ a0 ∧ a0 ≤ 3
  · by_cases hb : a1 = 0 ∨ a1 = 8 ∨ a1 = 16 ∨ a1 = 32
    · by_cases h0 : 0 ≤ a2
      · by_cases h4 : a2 ≤ 40
        · obtain ⟨s, hs3, rfl⟩ := nI_of2 (n := 3) rfl (Int32.not_lt.mpr hs.1) hs.2
          have hs4 : s < 4 := by omega
          have hcl : (nI s).toNatClampNeg = s := nI_clamp (by omega)
          have hin : vp_in (nI s) 4 := vp_in_nI hs4 (by decide)
          refine csi_of (by decide) (Nat.le_of_ble_eq_true rfl) (vX10_sheet_0 (by decide) _ a1 a2 M _ ⟨fun q => absurd hs q, fun _ => ⟨fun _ => ⟨fun _ => ⟨fun _ x1 e1 => ⟨hin, fun K1 ek k1 => ?_⟩, fun q => absurd h4 q⟩, fun q => absurd h0 q⟩, fun q => absurd hb q⟩⟩)
          rw [hcl] at ek
          subst ek
          refine csv_of (by decide) (Nat.le_of_ble_eq_true rfl) (vX6_begin_0 _ a1 x1 k1 M _ (fun M1 e2 M2 e3 => uJ7_fill k1.2 (by decide) (by decide) (fun fl hfl => ⟨rfl, _, rfl, ?_⟩)))
          have c0 : mput M2 (41 + 2 * s + 1) fl (41 + 2 * s) = upd (upd (M (41 + 2 * s)) 0 a1) 1 x1 := by rw [mput_ne (by omega), e3, mset_eq, e2, mset_eq]
          have c1 : mput M2 (41 + 2 * s + 1) fl (42 + 2 * s) = fl := by rw [show 41 + 2 * s + 1 = 42 + 2 * s by omega]; exact mput_eq
          have co : ∀ q, q ≠ 41 + 2 * s → q ≠ 42 + 2 * s → mput M2 (41 + 2 * s + 1) fl q = M q := fun q a b => by rw [mput_ne (by omega), e3, mset_ne a, e2, mset_ne a]
          generalize mput M2 (41 + 2 * s + 1) fl = Mc at c0 c1 co
          have FIN : ∀ M3 : Mem, (∀ q, q ≠ 67 → q ≠ 68 → q ≠ 69 → M3 q = Mc q) → M3 67 = upd (M 67) s a1 → M3 68 = upd (M 68) s x1 → (∀ j, M3 69 j = if 40 * s ≤ j ∧ j < 40 * s + 40 then 0 else M 69 j) → INV M3 := by
            intro M3 fo m7 m8 m9
            refine hI.sheets (fun s' hs' => ?_) (fun q a b => by rw [fo q (by omega) (by omega) (by omega)]; exact co q (by omega) (by omega))
            rw [m7, m8, fo (41 + 2 * s') (by omega) (by omega) (by omega), fo (42 + 2 * s') (by omega) (by omega) (by omega)]
            by_cases hss : s' = s
            · subst hss
              rw [c0, c1, pk_us, pk_us, pk_un (by decide), pk_us, pk_us]
              refine ⟨rfl, hb, rfl, ?_, fun i hi => ?_⟩
              · rw [e1]
                obtain ⟨n, hn, rfl⟩ := nI_of2 (n := 40) rfl (Int32.not_lt.mpr h0) h4
                split
                · exact ⟨0, by omega, rfl⟩
                · exact ⟨n, hn, rfl⟩
              · rw [hfl i hi, m9, if_pos ⟨by omega, by omega⟩]
            · obtain ⟨b1, b2, b3, b4, b5⟩ := hI.2.2.2.2.1 s' hs'
              rw [pk_un hss, pk_un hss, co _ (by omega) (by omega), co _ (by omega) (by omega)]
              refine ⟨b1, b2, b3, b4, fun i hi => ?_⟩
              rw [m9, if_neg (by omega)]; exact b5 i hi
          have BODY : ∀ Ma, Ma = mset Mc 67 (nI s).toNatClampNeg a1 → ∀ Mb, Mb = mset Ma 68 (nI s).toNatClampNeg (if a1 = 0 then (0 : Int32) else a2) → RM w 12 kX11_sheet 86 [(0, .ref 59), (1, .int (nI s)), (4, .int 0)] [] Mb (fun r M' => ∃ x, r = some (.int x) ∧ x1 = x ∧ INV M') := by
            intro Ma ea Mb eb
            rw [hcl] at ea eb
            rw [← e1] at eb
            have m7 : Mb 67 = upd (M 67) s a1 := by rw [eb, mset_ne (by decide), ea, mset_eq, co 67 (by omega) (by omega)]
            have m8 : Mb 68 = upd (M 68) s x1 := by rw [eb, mset_eq, ea, mset_ne (by decide), co 68 (by omega) (by omega)]
            have m9 : Mb 69 = M 69 := by rw [eb, mset_ne (by decide), ea, mset_ne (by decide), co 69 (by omega) (by omega)]
            have mo : ∀ q, q ≠ 67 → q ≠ 68 → q ≠ 69 → Mb q = Mc q := fun q a b c => by rw [eb, mset_ne b, ea, mset_ne a]
            have L : ∀ n i, n + i = 40 → ∀ M3 : Mem, (∀ q, q ≠ 69 → M3 q = Mb q) → (∀ j, M3 69 j = if 40 * s ≤ j ∧ j < 40 * s + i then 0 else M 69 j) → RM w 12 kX11_sheet 86 [(0, .ref 59), (1, .int (nI s)), (4, .int (nI i))] [] M3 (fun r M' => ∃ x, r = some (.int x) ∧ x1 = x ∧ INV M') := by
              intro n
              induction n with
              | zero =>
                intro i hi M3 a b
                have : i = 40 := by omega
                subst this
                refine vX11_sheet_86 (by decide) _ _ M3 _ ⟨fun _ => ⟨hin, _, rfl, ?_, FIN M3 (fun q x y z => by rw [a q z]; exact mo q x y z) (by rw [a 67 (by decide)]; exact m7) (by rw [a 68 (by decide)]; exact m8) b⟩, fun q => absurd (by decide) q⟩
                rw [hcl, a 68 (by decide), m8, pk_us]
              | succ n ih =>
                intro i hi M3 a b
                refine vX11_sheet_86 (by decide) _ _ M3 _ ⟨fun q => absurd q (nI_ge (b := 40) (by omega) (by decide)), fun _ => ?_⟩
                rw [s40 hs4, nI_add, nI_clamp (by omega)]
                refine ⟨vp_in_nI (by omega) (by decide), fun M4 e4 v e5 => ?_⟩
                rw [e5, nI_1]
                refine ih (i + 1) (by omega) M4 (fun q hq => by rw [e4, mset_ne hq]; exact a q hq) (fun j => ?_)
                rw [e4, mset_eq]
                by_cases hj : j = 40 * s + i
                · subst hj; rw [pk_us, if_pos ⟨by omega, by omega⟩]
                · rw [pk_un hj, b j]
                  by_cases hj2 : 40 * s ≤ j ∧ j < 40 * s + i
                  · rw [if_pos hj2, if_pos ⟨by omega, by omega⟩]
                  · rw [if_neg hj2, if_neg (by omega)]
            refine L 40 0 rfl Mb (fun _ _ => rfl) (fun j => ?_)
            rw [if_neg (by omega), m9]
          refine csi_of (by decide) (Nat.le_of_ble_eq_true rfl) (vX11_sheet_0 (by decide) _ a1 a2 Mc _ ⟨fun q => absurd hs q, fun _ => ⟨fun _ => ⟨fun _ => ⟨fun _ => ⟨hin, fun Ma ea => ⟨hin, fun Mb eb => BODY Ma ea Mb eb⟩⟩, fun q => absurd h4 q⟩, fun q => absurd h0 q⟩, fun n0 => ⟨fun _ => ⟨fun _ => ⟨fun _ => ⟨hin, fun Ma ea => ⟨hin, fun Mb eb => BODY Ma ea Mb eb⟩⟩, fun q => absurd h4 q⟩, fun q => absurd h0 q⟩, fun n8 => ⟨fun _ => ⟨fun _ => ⟨fun _ => ⟨hin, fun Ma ea => ⟨hin, fun Mb eb => BODY Ma ea Mb eb⟩⟩, fun q => absurd h4 q⟩, fun q => absurd h0 q⟩, fun n16 => ⟨fun _ => ⟨fun _ => ⟨fun _ => ⟨hin, fun Ma ea => ⟨hin, fun Mb eb => BODY Ma ea Mb eb⟩⟩, fun q => absurd h4 q⟩, fun q => absurd h0 q⟩, fun n32 => ?_⟩⟩⟩⟩⟩)
          rcases hb with z | z | z | z
          · exact absurd z n0
          · exact absurd z n8
          · exact absurd z n16
          · exact absurd z n32
        · refine pairQ hI (.inr 0) in0 (fun K hK => ?_) (fun M1 r K hK => ?_)
          · exact csi_of (by decide) (Nat.le_of_ble_eq_true rfl) (vX10_sheet_0 (by decide) _ a1 a2 M _ ⟨fun q => absurd hs q, fun _ => ⟨fun _ => ⟨fun _ => ⟨fun q => absurd q h4, fun _ => tell0 (hK _ FR.refl)⟩, fun q => absurd h0 q⟩, fun q => absurd hb q⟩⟩)
          · have g : CSi w 11 kX11_finds [.ref 59, .int (-1000001)] M1 (fun r1 M1 => ∃ x, some (Value.int r1) = some (.int x) ∧ K x M1) := find0 (hK _ FR.refl)
            exact csi_of (by decide) (Nat.le_of_ble_eq_true rfl) (vX11_sheet_0 (by decide) _ a1 a2 M1 _ ⟨fun _ => g, fun _ => ⟨fun _ => ⟨fun _ => ⟨fun q => absurd q h4, fun _ => g⟩, fun q => absurd h0 q⟩, fun _ => ⟨fun _ => ⟨fun _ => ⟨fun q => absurd q h4, fun _ => g⟩, fun q => absurd h0 q⟩, fun _ => ⟨fun _ => ⟨fun _ => ⟨fun q => absurd q h4, fun _ => g⟩, fun q => absurd h0 q⟩, fun _ => ⟨fun _ => ⟨fun _ => ⟨fun q => absurd q h4, fun _ => g⟩, fun q => absurd h0 q⟩, fun _ => g⟩⟩⟩⟩⟩)
      · refine pairQ hI (.inr 6) in6 (fun K hK => ?_) (fun M1 r K hK => ?_)
        · exact csi_of (by decide) (Nat.le_of_ble_eq_true rfl) (vX10_sheet_0 (by decide) _ a1 a2 M _ ⟨fun q => absurd hs q, fun _ => ⟨fun _ => ⟨fun q => absurd q h0, fun _ => tell6 (hK _ FR.refl)⟩, fun q => absurd hb q⟩⟩)
        · have g : CSi w 11 kX11_finds [.ref 59, .int (-1000007)] M1 (fun r1 M1 => ∃ x, some (Value.int r1) = some (.int x) ∧ K x M1) := find6 (hK _ FR.refl)
          refine csi_of (by decide) (Nat.le_of_ble_eq_true rfl) (vX11_sheet_0 (by decide) _ a1 a2 M1 _ ⟨fun q => absurd hs q, fun _ => ⟨fun _ => ⟨fun q => absurd q h0, fun _ => g⟩, fun n0 => ⟨fun _ => ⟨fun q => absurd q h0, fun _ => g⟩, fun n8 => ⟨fun _ => ⟨fun q => absurd q h0, fun _ => g⟩, fun n16 => ⟨fun _ => ⟨fun q => absurd q h0, fun _ => g⟩, fun n32 => ?_⟩⟩⟩⟩⟩)
          rcases hb with z | z | z | z
          · exact absurd z n0
          · exact absurd z n8
          · exact absurd z n16
          · exact absurd z n32
    · refine pairQ hI (.inr 0) in0 (fun K hK => ?_) (fun M1 r K hK => ?_)
      · exact csi_of (by decide) (Nat.le_of_ble_eq_true rfl) (vX10_sheet_0 (by decide) _ a1 a2 M _ ⟨fun q => absurd hs q, fun _ => ⟨fun q => absurd q hb, fun _ => tell0 (hK _ FR.refl)⟩⟩)
      · exact csi_of (by decide) (Nat.le_of_ble_eq_true rfl) (vX11_sheet_0 (by decide) _ a1 a2 M1 _ ⟨fun q => absurd hs q, fun _ => ⟨fun q => absurd (Or.inl q) hb, fun _ => ⟨fun q => absurd (Or.inr (Or.inl q)) hb, fun _ => ⟨fun q => absurd (Or.inr (Or.inr (Or.inl q))) hb, fun _ => ⟨fun q => absurd (Or.inr (Or.inr (Or.inr q))) hb, fun _ => find0 (hK _ FR.refl)⟩⟩⟩⟩⟩)
  · refine pairQ hI (.inr 0) in0 (fun K hK => ?_) (fun M1 r K hK => ?_)
    · exact csi_of (by decide) (Nat.le_of_ble_eq_true rfl) (vX10_sheet_0 (by decide) _ a1 a2 M _ ⟨fun _ => tell0 (hK _ FR.refl), fun q => absurd q hs⟩)
    · exact csi_of (by decide) (Nat.le_of_ble_eq_true rfl) (vX11_sheet_0 (by decide) _ a1 a2 M1 _ ⟨fun _ => find0 (hK _ FR.refl), fun q => absurd q hs⟩)
def wrV (b v : Int32) : Int32 := if b = 8 then v.toInt8.toInt32 else if b = 16 then v.toInt16.toInt32 else v
theorem p_write (hI : INV M) {a0 a1 a2 : Int32} : PAIR w kX10_write kX11_write [.int a0, .int a1, .int a2] M := by
  by_cases hs : 0 ≤ a0 ∧ a0 ≤ 3
  · obtain ⟨s, hs3, rfl⟩ := nI_of2 (n := 3) rfl (Int32.not_lt.mpr hs.1) hs.2
    have hs4 : s < 4 := by omega
    have hcl : (nI s).toNatClampNeg = s := nI_clamp (by omega)
    have hin : vp_in (nI s) 4 := vp_in_nI hs4 (by decide)
    obtain ⟨b1, b2, b3, ⟨n, hn, b4⟩, b5⟩ := hI.2.2.2.2.1 s hs4
    by_cases hm : M 67 s = 0
    · refine pairQ hI (.inr 5) in5 (fun K hK => ?_) (fun M1 r K hK => ?_)
      · refine csi_of (by decide) (Nat.le_of_ble_eq_true rfl) (vX10_write_0 (by decide) _ a1 a2 M _ ⟨fun _ => ⟨hin, fun K1 e1 k1 => uX6_isMissing k1 ?_⟩, fun q => absurd hs q⟩)
        rw [hcl] at e1
        rw [e1, b1]
        exact ⟨fun q => absurd hm (b2i_0.mp q), fun _ => tell5 (hK _ FR.refl)⟩
      · refine csi_of (by decide) (Nat.le_of_ble_eq_true rfl) (vX11_write_0 (by decide) _ a1 a2 M1 _ ⟨fun _ => ⟨hin, ?_⟩, fun q => absurd hs q⟩)
        rw [hcl, r.1 67 (by decide) (by decide) (by decide) (by decide)]
        exact ⟨fun q => absurd hm q, fun _ => find5 (hK _ FR.refl)⟩
    · by_cases hr : (0 : Int32) ≤ a1 ∧ a1 ≤ (M 68 s - 1)
      · have hi40 : ∃ i : Nat, i < 40 ∧ a1 = nI i := by
          have h1 := hr.1
          have h2 := hr.2
          have h3 : nI n ≤ 40 := nI_le (b := 40) hn (by decide)
          have h4 : 0 ≤ nI n := nI_pos' (by omega)
          rw [b4] at h2
          refine nI_of3 (m := 40) rfl h1 ?_
          clear hI b1 b2 b3 b4 b5 hm hr hs hin hcl
          generalize nI n = x at h2 h3 h4
          grind
        obtain ⟨i, hi, rfl⟩ := hi40
        refine csi_of (by decide) (Nat.le_of_ble_eq_true rfl) (vX10_write_0 (by decide) _ _ a2 M _ ⟨fun _ => ⟨hin, fun K1 e1 k1 => uX6_isMissing k1 ?_⟩, fun q => absurd hs q⟩)
        rw [hcl] at e1
        subst e1
        rw [b1, b3]
        refine ⟨fun _ => ⟨fun _ => ?_, fun q => absurd hr q⟩, fun q => absurd (b2i_f hm) q⟩
        have FIN : ∀ Mc, Mc = mset M (41 + 2 * s + 1) i (wrV (M 67 s) a2) → CSi w 12 kX11_write [.ref 59, .int (nI s), .int (nI i), .int a2] Mc (fun r2 M2 => 1 = r2 ∧ INV M2) := by
          intro Mc ec
          have co : ∀ q, q ≠ 42 + 2 * s → Mc q = M q := fun q a => by rw [ec, mset_ne (by omega)]
          have c1 : Mc (42 + 2 * s) = upd (M (42 + 2 * s)) i (wrV (M 67 s) a2) := by rw [ec, show 41 + 2 * s + 1 = 42 + 2 * s by omega, mset_eq]
          have FIN2 : ∀ M3, M3 = mset Mc 69 (40 * s + i) (wrV (M 67 s) a2) → INV M3 := by
            intro M3 e3
            refine hI.sheets (fun s' hs' => ?_) (fun q a b => by rw [e3, mset_ne (by omega), co q (by omega)])
            have e9 : M3 69 = upd (M 69) (40 * s + i) (wrV (M 67 s) a2) := by rw [e3, mset_eq, co 69 (by omega)]
            rw [e9, e3, mset_ne (show 41 + 2 * s' ≠ 69 by omega), mset_ne (show 67 ≠ 69 by decide), mset_ne (show 68 ≠ 69 by decide), mset_ne (show 42 + 2 * s' ≠ 69 by omega), co 67 (by omega), co 68 (by omega), co (41 + 2 * s') (by omega)]
            obtain ⟨d1, d2, d3, d4, d5⟩ := hI.2.2.2.2.1 s' hs'
            refine ⟨d1, d2, d3, d4, fun k hk => ?_⟩
            by_cases hss : s' = s
            · subst hss
              rw [c1]
              by_cases hki : k = i
              · subst hki; rw [pk_us, pk_us]
              · rw [pk_un hki, pk_un (by omega)]; exact d5 k hk
            · rw [co (42 + 2 * s') (by omega), pk_un (by omega)]; exact d5 k hk
          have hin2 : vp_in (nI (40 * s + i)) 160 := vp_in_nI (by omega) (by decide)
          refine csi_of (by decide) (Nat.le_of_ble_eq_true rfl) (vX11_write_0 (by decide) _ _ a2 Mc _ ⟨fun _ => ⟨hin, ?_⟩, fun q => absurd hs q⟩)
          rw [hcl, co 67 (by omega), co 68 (by omega), s40 hs4, nI_add, nI_clamp (by omega)]
          refine ⟨fun _ => ⟨hin, fun _ => ⟨hin, fun q => ⟨hin, hin2, fun M3 e3 => ⟨_, rfl, rfl, FIN2 M3 ?_⟩⟩, fun q => ⟨hin2, fun M3 e3 => ⟨_, rfl, rfl, FIN2 M3 ?_⟩⟩⟩, fun q => absurd hr q⟩, fun q => absurd q hm⟩
          · rw [e3]; unfold wrV; rw [if_neg q]
          · rw [e3]; unfold wrV; rw [if_pos q]
        refine csv_of (by decide) (Nat.le_of_ble_eq_true rfl) (vX6_put_0 _ _ a2 k1 M _ ?_)
        have hin3 : vp_in (nI i) 40 := vp_in_nI hi (by decide)
        rw [b1, nI_clamp (by omega)]
        refine ⟨fun q => ⟨hin3, fun M3 e3 => ⟨rfl, _, rfl, FIN M3 ?_⟩⟩, fun q => ⟨fun q2 => ⟨hin3, fun M3 e3 => ⟨rfl, _, rfl, FIN M3 ?_⟩⟩, fun q2 => ⟨hin3, fun M3 e3 => ⟨rfl, _, rfl, FIN M3 ?_⟩⟩⟩⟩
        · rw [e3]; unfold wrV; rw [if_pos q]
        · rw [e3]; unfold wrV; rw [if_neg q, if_pos q2]
        · rw [e3]; unfold wrV; rw [if_neg q, if_neg q2]
      · refine pairQ hI (.inr 0) in0 (fun K hK => ?_) (fun M1 r K hK => ?_)
        · refine csi_of (by decide) (Nat.le_of_ble_eq_true rfl) (vX10_write_0 (by decide) _ a1 a2 M _ ⟨fun _ => ⟨hin, fun K1 e1 k1 => uX6_isMissing k1 ?_⟩, fun q => absurd hs q⟩)
          rw [hcl] at e1
          rw [e1, b1, b3]
          exact ⟨fun _ => ⟨fun q => absurd q hr, fun _ => tell0 (hK _ FR.refl)⟩, fun q => absurd (b2i_f hm) q⟩
        · refine csi_of (by decide) (Nat.le_of_ble_eq_true rfl) (vX11_write_0 (by decide) _ a1 a2 M1 _ ⟨fun _ => ⟨hin, ?_⟩, fun q => absurd hs q⟩)
          rw [hcl, r.1 67 (by decide) (by decide) (by decide) (by decide), r.1 68 (by decide) (by decide) (by decide) (by decide)]
          exact ⟨fun _ => ⟨hin, fun q => absurd q hr, fun _ => find0 (hK _ FR.refl)⟩, fun q => absurd q hm⟩
  · refine pairQ hI (.inr 0) in0 (fun K hK => ?_) (fun M1 r K hK => ?_)
    · exact csi_of (by decide) (Nat.le_of_ble_eq_true rfl) (vX10_write_0 (by decide) _ a1 a2 M _ ⟨fun q => absurd q hs, fun _ => tell0 (hK _ FR.refl)⟩)
    · exact csi_of (by decide) (Nat.le_of_ble_eq_true rfl) (vX11_write_0 (by decide) _ a1 a2 M1 _ ⟨fun q => absurd q hs, fun _ => find0 (hK _ FR.refl)⟩)
end G0

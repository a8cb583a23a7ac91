/-! ===== basin, ways, meet, judge ===== -/
theorem or_z {x : Int32} : x ||| 0 = x := by simp
section P2
variable {w : Wd} {M : Mem}
def basV (M : Mem) (kd wa v : Int32) : Nat → Nat → Int32 → Int32
  | 0, _, acc => acc
  | n + 1, i, acc => basV M kd wa v n (i + 1) (if (pe M kd (nI i) wa).2.1 = v then acc ||| (1 <<< (nI i &&& 31)) else acc)
theorem p_basin (hI : INV M) {a0 a1 a2 : Int32} : PAIR w kX10_basin kX11_basin [.int a0, .int a1, .int a2] M := by
  by_cases hs : (0 ≤ a0 ∧ a0 ≤ 7) ∧ (0 ≤ a2 ∧ a2 ≤ 11) ∧ (1 ≤ a1 ∧ a1 ≤ 99)
  · refine pairQ hI (.inl (basV M a0 a1 a2 12 0 0)) inL' (fun K hK => ?_) (fun M1 r K hK => ?_)
    · refine csi_of (by decide) (Nat.le_of_ble_eq_true rfl) (vX10_basin_0 (by decide) a0 a1 a2 M _ ⟨fun _ => ?_, fun q => absurd hs q⟩)
      have L : ∀ n i, n + i = 12 → ∀ acc Mx, FR M Mx → (∀ M', FR M M' → K (basV M a0 a1 a2 n i acc) M') → RM w 12 kX10_basin 24 [(0, .ref 0), (1, .int a0), (2, .int a1), (3, .int a2), (4, .int acc), (5, .int (nI i))] [] Mx (fun r M' => ∃ x, r = some (.int x) ∧ K x M') := by
        intro n
        induction n with
        | zero =>
          intro i hi acc Mx f g
          have : i = 12 := by omega
          subst this
          exact vX10_basin_24 (by decide) _ _ _ _ _ Mx _ ⟨fun _ => ⟨_, rfl, g Mx f⟩, fun c => absurd (by decide) c⟩
        | succ n ih =>
          intro i hi acc Mx f g
          refine vX10_basin_24 (by decide) _ _ _ _ _ Mx _ ⟨fun c => absurd c (nI_ge (b := 12) (by omega) (by decide)), fun _ => folA (by decide) hI f (Or.inl rfl) hs.1.1 hs.1.2 (nI_pos' (by omega)) (nI_le (b := 11) (by omega) (by decide)) hs.2.2.1 (fun M' he f' _ => ?_)⟩
          rw [he.2.2.1]
          refine ⟨fun c x1 e1 => ?_, fun c x1 e1 x2 e2 => ?_⟩
          · rw [e1, nI_1]; exact ih (i + 1) (by omega) _ M' f' (fun M2 f2 => by have := g M2 f2; rw [basV, if_neg c] at this; exact this)
          · rw [e2, nI_1, e1]; exact ih (i + 1) (by omega) _ M' f' (fun M2 f2 => by have := g M2 f2; rw [basV, if_pos c] at this; exact this)
      exact L 12 0 rfl 0 M FR.refl hK
    · refine csi_of (by decide) (Nat.le_of_ble_eq_true rfl) (vX11_basin_0 (by decide) a0 a1 a2 M1 _ ⟨fun _ => ?_, fun q => absurd hs q⟩)
      have L : ∀ n i, n + i = 12 → ∀ acc Mx, FR M1 Mx → (∀ M', FR M1 M' → K (basV M a0 a1 a2 n i acc) M') → RM w 12 kX11_basin 22 [(0, .ref 59), (1, .int a0), (2, .int a1), (3, .int a2), (4, .int acc), (5, .int (nI i))] [] Mx (fun r M' => ∃ x, r = some (.int x) ∧ K x M') := by
        intro n
        induction n with
        | zero =>
          intro i hi acc Mx f g
          have : i = 12 := by omega
          subst this
          exact vX11_basin_22 (by decide) _ _ _ _ _ Mx _ ⟨fun _ => ⟨_, rfl, g Mx f⟩, fun c => absurd (by decide) c⟩
        | succ n ih =>
          intro i hi acc Mx f g
          refine vX11_basin_22 (by decide) _ _ _ _ _ Mx _ ⟨fun c => absurd c (nI_ge (b := 12) (by omega) (by decide)), fun _ => goA (by decide) (r.fr f) (nI_pos' (by omega)) (nI_le (b := 11) (by omega) (by decide)) (fun M' he f' _ x1 e1 x2 e2 => ?_)⟩
          rw [e2, nI_1, e1, he.2.1]
          refine ih (i + 1) (by omega) _ M' (f.trans f') (fun M2 f2 => ?_)
          have := g M2 f2
          rw [basV] at this
          by_cases c : (pe M a0 (nI i) a1).2.1 = a2
          · rw [if_pos c] at this ⊢; exact this
          · rw [if_neg c] at this ⊢; rw [or_z]; exact this
      exact L 12 0 rfl 0 M1 FR.refl hK
  · refine pairQ hI (.inr 0) in0 (fun K hK => ?_) (fun M1 r K hK => ?_)
    · exact csi_of (by decide) (Nat.le_of_ble_eq_true rfl) (vX10_basin_0 (by decide) a0 a1 a2 M _ ⟨fun q => absurd q hs, fun _ => tell0 (hK _ FR.refl)⟩)
    · exact csi_of (by decide) (Nat.le_of_ble_eq_true rfl) (vX11_basin_0 (by decide) a0 a1 a2 M1 _ ⟨fun q => absurd q hs, fun _ => find0 (hK _ FR.refl)⟩)
def wayV (M : Mem) (kd wa : Int32) : Nat → Nat → Int32 → Int32
  | 0, _, acc => acc
  | n + 1, i, acc => wayV M kd wa n (i + 1) (if 0 ≤ (pe M kd (nI i) wa).2.1 then acc ||| (1 <<< ((pe M kd (nI i) wa).2.1 &&& 31)) else acc)
theorem p_ways (hI : INV M) {a0 a1 : Int32} : PAIR w kX10_ways kX11_ways [.int a0, .int a1] M := by
  by_cases hs : (0 ≤ a0 ∧ a0 ≤ 7) ∧ (1 ≤ a1 ∧ a1 ≤ 99)
  · refine pairQ hI (.inl (wayV M a0 a1 12 0 0)) inL' (fun K hK => ?_) (fun M1 r K hK => ?_)
    · refine csi_of (by decide) (Nat.le_of_ble_eq_true rfl) (vX10_ways_0 (by decide) a0 a1 M _ ⟨fun q => absurd hs.1 q, fun _ => ⟨fun _ => ?_, fun q => absurd hs.2 q⟩⟩)
      have L : ∀ n i, n + i = 12 → ∀ acc Mx, FR M Mx → (∀ M', FR M M' → K (wayV M a0 a1 n i acc) M') → RM w 12 kX10_ways 28 [(0, .ref 0), (1, .int a0), (2, .int a1), (3, .int acc), (4, .int (nI i))] [] Mx (fun r M' => ∃ x, r = some (.int x) ∧ K x M') := by
        intro n
        induction n with
        | zero =>
          intro i hi acc Mx f g
          have : i = 12 := by omega
          subst this
          exact vX10_ways_28 (by decide) _ _ _ _ Mx _ ⟨fun _ => ⟨_, rfl, g Mx f⟩, fun c => absurd (by decide) c⟩
        | succ n ih =>
          intro i hi acc Mx f g
          have i0 : 0 ≤ nI i := nI_pos' (by omega)
          have i1 : nI i ≤ 11 := nI_le (b := 11) (by omega) (by decide)
          have ho := pe_ok (M := M) (kd := a0) (wa := a1) i0 i1
          refine vX10_ways_28 (by decide) _ _ _ _ Mx _ ⟨fun c => absurd c (nI_ge (b := 12) (by omega) (by decide)), fun _ => folA (by decide) hI f (Or.inl rfl) hs.1.1 hs.1.2 i0 i1 hs.2.1 (fun M' he f' _ => uX8_isOut walk53 ?_)⟩
          rw [he.2.2.1]
          refine ⟨fun c x1 e1 => ?_, fun c x1 e1 x2 e2 => ?_⟩
          · rw [b2i_0, ← ho.out] at c
            rw [e1, nI_1]; exact ih (i + 1) (by omega) _ M' f' (fun M2 f2 => by have := g M2 f2; rw [wayV, if_neg c] at this; exact this)
          · rw [b2n, ← ho.out] at c
            rw [e2, nI_1, e1]; exact ih (i + 1) (by omega) _ M' f' (fun M2 f2 => by have := g M2 f2; rw [wayV, if_pos c] at this; exact this)
      exact L 12 0 rfl 0 M FR.refl hK
    · refine csi_of (by decide) (Nat.le_of_ble_eq_true rfl) (vX11_ways_0 (by decide) a0 a1 M1 _ ⟨fun _ => ?_, fun q => absurd ⟨hs.1, by decide, hs.2⟩ q⟩)
      have L : ∀ n i, n + i = 12 → ∀ acc Mx, FR M1 Mx → (∀ M', FR M1 M' → K (wayV M a0 a1 n i acc) M') → RM w 12 kX11_ways 21 [(0, .ref 59), (1, .int a0), (2, .int a1), (3, .int acc), (4, .int (nI i))] [] Mx (fun r M' => ∃ x, r = some (.int x) ∧ K x M') := by
        intro n
        induction n with
        | zero =>
          intro i hi acc Mx f g
          have : i = 12 := by omega
          subst this
          exact vX11_ways_21 (by decide) _ _ _ _ Mx _ ⟨fun _ => ⟨_, rfl, g Mx f⟩, fun c => absurd (by decide) c⟩
        | succ n ih =>
          intro i hi acc Mx f g
          refine vX11_ways_21 (by decide) _ _ _ _ Mx _ ⟨fun c => absurd c (nI_ge (b := 12) (by omega) (by decide)), fun _ => goA (by decide) (r.fr f) (nI_pos' (by omega)) (nI_le (b := 11) (by omega) (by decide)) (fun M' he f' _ x1 e1 x2 e2 => ?_)⟩
          rw [e2, nI_1, e1, he.2.1]
          refine ih (i + 1) (by omega) _ M' (f.trans f') (fun M2 f2 => ?_)
          have := g M2 f2
          rw [wayV] at this
          by_cases c : 0 ≤ (pe M a0 (nI i) a1).2.1
          · rw [if_pos c] at this ⊢; exact this
          · rw [if_neg c] at this ⊢; rw [or_z]; exact this
      exact L 12 0 rfl 0 M1 FR.refl hK
  · refine pairQ hI (.inr 0) in0 (fun K hK => ?_) (fun M1 r K hK => ?_)
    · exact csi_of (by decide) (Nat.le_of_ble_eq_true rfl) (vX10_ways_0 (by decide) a0 a1 M _ ⟨fun _ => tell0 (hK _ FR.refl), fun q1 => ⟨fun q2 => absurd ⟨q1, q2⟩ hs, fun _ => tell0 (hK _ FR.refl)⟩⟩)
    · exact csi_of (by decide) (Nat.le_of_ble_eq_true rfl) (vX11_ways_0 (by decide) a0 a1 M1 _ ⟨fun q => absurd ⟨q.1, q.2.2⟩ hs, fun _ => find0 (hK _ FR.refl)⟩)
/-- the first i, from i on, at which both paths are on the same cell -/
def metV (o1 o2 : Nat) (c1 c2 : Nat → Int32) : Nat → Nat → Int32 ⊕ Nat
  | 0, _ => .inr 3
  | n + 1, i => if i ≤ o1 ∧ i ≤ o2 ∧ c1 i = c2 i then .inl (nI i) else metV o1 o2 c1 c2 n (i + 1)
theorem metV_in {o1 o2 : Nat} {c1 c2 : Nat → Int32} : ∀ n i j, metV o1 o2 c1 c2 n i = .inr j → j < 7 := by
  intro n
  induction n with
  | zero => intro i j e; cases e; decide
  | succ n ih =>
    intro i j e
    rw [metV] at e
    split at e
    · cases e
    · exact ih _ _ e
theorem metV_end {o1 o2 : Nat} {c1 c2 : Nat → Int32} : ∀ n i, (o1 < i ∨ o2 < i) → metV o1 o2 c1 c2 n i = .inr 3 := by
  intro n
  induction n with
  | zero => intro i _; rfl
  | succ n ih =>
    intro i h
    rw [metV, if_neg (by omega)]
    exact ih (i + 1) (by omega)
theorem p_meet (hI : INV M) {a0 a1 a2 a3 : Int32} : PAIR w kX10_meet kX11_meet [.int a0, .int a1, .int a2, .int a3] M := by
  by_cases hs : (0 ≤ a0 ∧ a0 ≤ 7) ∧ (0 ≤ a1 ∧ a1 ≤ 11) ∧ (1 ≤ a3 ∧ a3 ≤ 99)
  · by_cases hc : 0 ≤ a2 ∧ a2 ≤ 11
    · by_cases hd : a1 = a2
      · refine pairQ hI (.inr 0) in0 (fun K hK => ?_) (fun M1 r K hK => ?_)
        · exact csi_of (by decide) (Nat.le_of_ble_eq_true rfl) (vX10_meet_0 (by decide) a0 a1 a2 a3 M _ ⟨fun q => absurd hs q, fun _ => ⟨fun q => absurd hc q, fun _ => ⟨fun q => absurd hd q, fun _ => tell0 (hK _ FR.refl)⟩⟩⟩)
        · exact csi_of (by decide) (Nat.le_of_ble_eq_true rfl) (vX11_meet_0 (by decide) a0 a1 a2 a3 M1 _ ⟨fun q => absurd hs q, fun _ => ⟨fun q => absurd hc q, fun _ => ⟨fun q => absurd hd q, fun _ => find0 (hK _ FR.refl)⟩⟩⟩)
      · have o1 := pe_ok (M := M) (kd := a0) (wa := a3) hs.2.1.1 hs.2.1.2
        have o2 := pe_ok (M := M) (kd := a0) (wa := a3) hc.1 hc.2
        have le1 := o1.le
        have le2 := o2.le
        refine pairQ hI (metV (onE (pe M a0 a1 a3)) (onE (pe M a0 a2 a3)) (ps M a0 a1 a3) (ps M a0 a2 a3) 65 0) (metV_in 65 0) (fun K hK => ?_) (fun M1 r K hK => ?_)
        · refine csi_of (by decide) (Nat.le_of_ble_eq_true rfl) (vX10_meet_0 (by decide) a0 a1 a2 a3 M _ ⟨fun q => absurd hs q, fun _ => ⟨fun q => absurd hc q, fun _ => ⟨fun _ => ?_, fun q => absurd q hd⟩⟩⟩)
          refine folA (by decide) hI FR.refl (Or.inl rfl) hs.1.1 hs.1.2 hs.2.1.1 hs.2.1.2 hs.2.2.1 (fun Ma ea fa _ => ?_)
          refine folA (by decide) hI fa (Or.inr rfl) hs.1.1 hs.1.2 hc.1 hc.2 hs.2.2.1 (fun Mb eb fb gb => ?_)
          have ea' : wkE Mb 53 (pe M a0 a1 a3) (ps M a0 a1 a3) := by
            unfold wkE
            rw [gb 53 (by decide) (by decide) (by decide), gb (53 + 1) (by decide) (by decide) (by decide)]
            exact ea
          have L : ∀ n i, n + i = 65 → finC (metV (onE (pe M a0 a1 a3)) (onE (pe M a0 a2 a3)) (ps M a0 a1 a3) (ps M a0 a2 a3) n i) Mb K → RM w 12 kX10_meet 70 [(0, .ref 0), (5, .int (nI i))] [] Mb (fun r M' => ∃ x, r = some (.int x) ∧ K x M') := by
            intro n
            induction n with
            | zero =>
              intro i hi g
              have : i = 65 := by omega
              subst this
              exact vX10_meet_70 (by decide) _ Mb _ ⟨fun _ => tell3 g, fun c => absurd (by decide) c⟩
            | succ n ih =>
              intro i hi g
              refine vX10_meet_70 (by decide) _ Mb _ ⟨fun c => absurd c (nI_nlt (a := 64) (b := i) (by omega) (by omega)), fun _ => behA walk53 ea' o1 (by omega) ?_⟩
              rw [metV] at g
              by_cases h1 : i ≤ onE (pe M a0 a1 a3)
              · rw [if_pos h1]
                have hb := (o1.bd h1).1
                refine ⟨fun c => ?_, fun _ => behA walk55 eb o2 (by omega) ?_⟩
                · rw [c] at hb; exact absurd hb (by decide)
                · by_cases h2 : i ≤ onE (pe M a0 a2 a3)
                  · rw [if_pos h2]
                    refine ⟨fun c x1 e1 => ?_, fun c => ⟨_, rfl, ?_⟩⟩
                    · rw [if_neg (fun z => c z.2.2)] at g
                      rw [e1, nI_1]; exact ih (i + 1) (by omega) g
                    · rw [if_pos ⟨h1, h2, c⟩] at g; exact g
                  · rw [if_neg h2]
                    rw [if_neg (fun z => h2 z.2.1)] at g
                    refine ⟨fun c x1 e1 => ?_, fun c => ?_⟩
                    · rw [e1, nI_1]; exact ih (i + 1) (by omega) g
                    · rw [c] at hb; exact absurd hb (by decide)
              · rw [if_neg h1]
                rw [if_neg (fun z => h1 z.1)] at g
                refine ⟨fun c x1 e1 => ?_, fun c => absurd rfl c⟩
                rw [e1, nI_1]; exact ih (i + 1) (by omega) g
          exact L 65 0 rfl (hK Mb fb)
        · refine csi_of (by decide) (Nat.le_of_ble_eq_true rfl) (vX11_meet_0 (by decide) a0 a1 a2 a3 M1 _ ⟨fun q => absurd hs q, fun _ => ⟨fun q => absurd hc q, fun _ => ⟨fun _ => ?_, fun q => absurd q hd⟩⟩⟩)
          refine goA (by decide) r hs.2.1.1 hs.2.1.2 (fun Ma ea fa _ => onA ea o1 ?_)
          have E : ∀ Mb, FR M1 Mb → rkE Mb (pe M a0 a2 a3) (ps M a0 a2 a3) → (∀ j, j ≤ onE (pe M a0 a1 a3) → Mb 65 j = ps M a0 a1 a3 j) → ∀ n i, n + i = 65 → finR (metV (onE (pe M a0 a1 a3)) (onE (pe M a0 a2 a3)) (ps M a0 a1 a3) (ps M a0 a2 a3) n i) Mb K → RM w 12 kX11_meet 84 [(0, .ref 59), (5, .int (nI (onE (pe M a0 a1 a3)))), (6, .int (nI i))] [] Mb (fun r M' => ∃ x, r = some (.int x) ∧ K x M') := by
            intro Mb fb eb hb n
            induction n with
            | zero =>
              intro i hi g
              have : i = 65 := by omega
              subst this
              exact vX11_meet_84 (by decide) _ _ Mb _ ⟨fun _ => find3 g, fun c => absurd (nI_lt (by omega) (by decide)) c⟩
            | succ n ih =>
              intro i hi g
              refine vX11_meet_84 (by decide) _ _ Mb _ ⟨fun c => find3 ?_, fun c => onA eb o2 ⟨fun d => find3 ?_, fun d => ?_⟩⟩
              · have h1 := (nI_ltI (by omega) (by omega)).mp c
                rw [metV_end _ _ (Or.inl h1)] at g; exact g
              · have h1 := (nI_ltI (by omega) (by omega)).mp d
                rw [metV_end _ _ (Or.inr h1)] at g; exact g
              · have h1 : i ≤ onE (pe M a0 a1 a3) := by
                  rcases Nat.lt_or_ge (onE (pe M a0 a1 a3)) i with z | z
                  · exact absurd (nI_lt z (by omega)) c
                  · exact z
                have h2 : i ≤ onE (pe M a0 a2 a3) := by
                  rcases Nat.lt_or_ge (onE (pe M a0 a2 a3)) i with z | z
                  · exact absurd (nI_lt z (by omega)) d
                  · exact z
                rw [nI_clamp (by omega), hb i h1, eb.2.2.2 i (o2.jn h2)]
                have hin : vp_in (nI i) 65 := vp_in_nI (by omega) (by decide)
                rw [metV] at g
                refine ⟨hin, hin, fun q x1 e1 => ?_, fun q => ⟨_, rfl, ?_⟩⟩
                · rw [if_neg (fun z => q z.2.2)] at g
                  rw [e1, nI_1]; exact ih (i + 1) (by omega) g
                · rw [if_pos ⟨h1, h2, q⟩] at g; exact g
          have C : ∀ n i, n + i = onE (pe M a0 a1 a3) + 1 → ∀ Mb, FR M1 Mb → (∀ j, j ≤ onE (pe M a0 a1 a3) → Mb 64 j = ps M a0 a1 a3 j) → (∀ j, j < i → Mb 65 j = ps M a0 a1 a3 j) → RM w 12 kX11_meet 46 [(0, .ref 59), (1, .int a0), (3, .int a2), (4, .int a3), (5, .int (nI (onE (pe M a0 a1 a3)))), (6, .int (nI i))] [] Mb (fun r M' => ∃ x, r = some (.int x) ∧ K x M') := by
            intro n
            induction n with
            | zero =>
              intro i hi Mb fb h64 h65
              refine vX11_meet_46 (by decide) _ _ _ _ _ Mb _ ⟨fun _ => goA (by decide) (r.fr fb) hc.1 hc.2 (fun Mc ec fc gc => ?_), fun c => absurd (nI_lt (by omega) (by omega)) c⟩
              exact E Mc (fb.trans fc) ec (fun j hj => by rw [gc 65 (by decide) (by decide)]; exact h65 j (by omega)) 65 0 rfl (hK Mc (fb.trans fc))
            | succ n ih =>
              intro i hi Mb fb h64 h65
              have hin : vp_in (nI i) 65 := vp_in_nI (by omega) (by decide)
              refine vX11_meet_46 (by decide) _ _ _ _ _ Mb _ ⟨fun c => absurd c (nI_nlt (by omega) (by omega)), fun _ => ⟨hin, hin, fun Mc ec x1 e1 => ?_⟩⟩
              rw [nI_clamp (by omega)] at ec
              rw [e1, nI_1]
              refine ih (i + 1) (by omega) Mc (fb.trans ⟨fun q hq => ?_, ?_, ?_, ?_⟩) ?_ ?_
              · rw [ec, mset_ne (fun z => hq (by subst z; unfold jc; omega))]
              · rw [ec, mset_ne (by decide)]
              · rw [ec, mset_ne (by decide)]
              · rw [ec, mset_ne (by decide)]
              · intro j hj; rw [ec, mset_ne (by decide)]; exact h64 j hj
              · intro j hj
                rw [ec, mset_eq]
                by_cases hji : j = i
                · subst hji; rw [pk_us]; exact h64 j (by omega)
                · rw [pk_un hji]; exact h65 j (by omega)
          exact C (onE (pe M a0 a1 a3) + 1) 0 rfl Ma fa (fun j hj => ea.2.2.2 j (o1.jn hj)) (fun j hj => absurd hj (by omega))
    · refine pairQ hI (.inr 0) in0 (fun K hK => ?_) (fun M1 r K hK => ?_)
      · exact csi_of (by decide) (Nat.le_of_ble_eq_true rfl) (vX10_meet_0 (by decide) a0 a1 a2 a3 M _ ⟨fun q => absurd hs q, fun _ => ⟨fun _ => tell0 (hK _ FR.refl), fun q => absurd q hc⟩⟩)
      · exact csi_of (by decide) (Nat.le_of_ble_eq_true rfl) (vX11_meet_0 (by decide) a0 a1 a2 a3 M1 _ ⟨fun q => absurd hs q, fun _ => ⟨fun _ => find0 (hK _ FR.refl), fun q => absurd q hc⟩⟩)
  · refine pairQ hI (.inr 0) in0 (fun K hK => ?_) (fun M1 r K hK => ?_)
    · exact csi_of (by decide) (Nat.le_of_ble_eq_true rfl) (vX10_meet_0 (by decide) a0 a1 a2 a3 M _ ⟨fun _ => tell0 (hK _ FR.refl), fun q => absurd q hs⟩)
    · exact csi_of (by decide) (Nat.le_of_ble_eq_true rfl) (vX11_meet_0 (by decide) a0 a1 a2 a3 M1 _ ⟨fun _ => find0 (hK _ FR.refl), fun q => absurd q hs⟩)
end P2

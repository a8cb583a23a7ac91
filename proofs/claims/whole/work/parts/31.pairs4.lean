/-! ===== least, soonest, edge: on a guessed pane ===== -/
section BC
variable {w : Wd} {h : Nat} {M M1 G : Mem} {K : Int32 → Mem → Prop} {Kv : Mem → Prop}
theorem uX2_become (hh : 2 ≤ h) {P O : Nat} (hP : isPane P) (hO : isPane O) (hd : O + 2 < P ∨ P + 2 < O)
    (hK : ∀ M' : Mem, (∀ k, k < 192 → M' (P + 1) k = M (O + 1) k) → (∀ k, k < 192 → M' (P + 2) k = M (O + 2) k) → M' P 2 = M O 2 → M' P 3 = M O 3 → M' P 4 = M O 4 → (∀ q, q ≠ P → q ≠ P + 1 → q ≠ P + 2 → M' q = M q) → Kv M') : CSv w h kX2_become [.ref P, .ref O] M Kv := by
  obtain ⟨h, rfl⟩ : ∃ k, h = k + 1 := ⟨h - 1, by omega⟩
  refine csv_of (by decide) (Nat.le_of_ble_eq_true rfl) (vX2_become_0 P O hP hO M _ ?_)
  refine uX10_copyAll (by omega) hO.2.1 hP.2.1 (by decide) (by decide) (uX10_copyAll (by omega) hO.2.2.1 hP.2.2.1 (by decide) (by decide) (fun M3 e3 M4 e4 M5 e5 => ⟨rfl, ?_⟩))
  have eo : ∀ q, q ≠ P → q ≠ P + 1 → q ≠ P + 2 → M5 q = M q := fun q a b c => by rw [e5, mset_ne a, e4, mset_ne a, e3, mset_ne a, mput_ne c, mput_ne b]
  have eP : M5 P = upd (upd (upd (M P) 2 (M O 2)) 3 (M O 3)) 4 (M O 4) := by
    rw [e5, mset_eq, e4, mset_eq, mset_ne (show O ≠ P by omega), e3, mset_eq, mset_ne (show O ≠ P by omega), mput_ne (show O ≠ P + 2 by omega), mput_ne (show O ≠ P + 1 by omega), mput_ne (show P ≠ P + 2 by omega), mput_ne (show P ≠ P + 1 by omega)]
  refine hK M5 ?_ ?_ ?_ ?_ ?_ eo
  · intro k hk
    rw [e5, mset_ne (by omega), e4, mset_ne (by omega), e3, mset_ne (by omega), mput_ne (by omega), mput_eq, if_pos hk]
  · intro k hk
    rw [e5, mset_ne (by omega), e4, mset_ne (by omega), e3, mset_ne (by omega), mput_eq, if_pos hk, mput_ne (by omega)]
  · rw [eP, pk_un (by decide), pk_un (by decide), pk_us]
  · rw [eP, pk_un (by decide), pk_us]
  · rw [eP, pk_us]
theorem folG (hh : 4 ≤ h) (hp : pnI M1 49 (dtR G) (wtR G) (G 60 0)) {kd col wa : Int32} (k0 : 0 ≤ kd) (k1 : kd ≤ 7) (h0 : 0 ≤ col) (h1 : col ≤ 11) (hw0 : 1 ≤ wa)
    (hK : ∀ M', wkE M' 53 (pe G kd col wa) (ps G kd col wa) → (∀ q, q ≠ 53 → q ≠ 54 → q ≠ 52 → M' q = M1 q) → Kv M') : CSv w h kX8_follow [.ref 53, .ref 49, .int kd, .int col, .int wa] M1 Kv :=
  uX8_follow hh walk53 pane49 (by omega) hp k0 k1 h0 h1 (g_pos hw0) (fun M' e fr => hK M' e fr)
theorem goG (hh : 6 ≤ h) (hd : dtR M1 = dtR G) (hw : wtR M1 = wtR G) (hl : M1 60 0 = G 60 0) {kd col wa : Int32} (h0 : 0 ≤ col) (h1 : col ≤ 11)
    (hK : ∀ M', rkE M' (pe G kd col wa) (ps G kd col wa) → (∀ q, q ≠ 59 → q ≠ 64 → M' q = M1 q) → (∀ j, j ≠ 13 → j ≠ 14 → j ≠ 15 → M' 59 j = M1 59 j) → Kv M') : CSv w h kX11_goesAll [.ref 59, .int kd, .int col, .int wa] M1 Kv := by
  refine uX11_goesAll hh h0 h1 ?_
  rw [hd, hw, hl]
  intro M' a1 a2 a3 a4 a5 a6
  exact hK M' ⟨a1, a2, a3, a4⟩ a5 a6
/-- the guessed pane is the true one -/
theorem bcA (hh : 2 ≤ h) (hI : INV M) (hK : ∀ M' : Mem, FR M M' → (∀ c : Int32, 0 ≤ c → c ≤ 191 → M' 50 c.toNatClampNeg = M 60 (18 + c).toNatClampNeg) → (∀ c : Int32, 0 ≤ c → c ≤ 191 → M' 51 c.toNatClampNeg = M 60 (210 + c).toNatClampNeg ∧ 0 ≤ M 60 (210 + c).toNatClampNeg) → M' 49 2 = M 60 0 → Kv M') : CSv w h kX2_become [.ref 49, .ref 4] M Kv := by
  refine uX2_become hh pane49 pane4 (by omega) (fun M' a b c _ _ f => ?_)
  obtain ⟨⟨h1, h2, h3, -⟩, -⟩ := hI
  refine hK M' (FR.c (fun q hq => f q (by omega) (by omega) (by omega))) (fun c c0 c1 => ?_) (fun c c0 c1 => ?_) ?_
  · rw [← (h1 c c0 c1).1]
    obtain ⟨k, hk, rfl⟩ := nI_of2 (n := 191) rfl (Int32.not_lt.mpr c0) c1
    rw [nI_clamp (by omega)]; exact a k (by omega)
  · have hb := h2 c c0 c1
    rw [← hb.1]
    refine ⟨?_, hb.2.1⟩
    obtain ⟨k, hk, rfl⟩ := nI_of2 (n := 191) rfl (Int32.not_lt.mpr c0) c1
    rw [nI_clamp (by omega)]; exact b k (by omega)
  · rw [c]; exact h3.1.1
end BC
def firstV (p : Int32 → Bool) : Nat → Nat → Int32 ⊕ Nat
  | 0, _ => .inr 3
  | n + 1, i => if p (nI i) = true then .inl (nI i) else firstV p n (i + 1)
theorem firstV_in {p : Int32 → Bool} : ∀ n i j, firstV p n i = .inr j → j < 7 := by
  intro n
  induction n with
  | zero => intro i j e; cases e; decide
  | succ n ih =>
    intro i j e
    rw [firstV] at e
    split at e
    · cases e
    · exact ih _ _ e
theorem upd_self {f : Nat → Int32} {k : Nat} {x y : Int32} (h : y = f k) : upd (upd f k x) k y = f := by
  funext j
  by_cases hj : j = k
  · subst hj; rw [pk_us, h]
  · rw [pk_un hj, pk_un hj]
section P4
variable {w : Wd} {M : Mem}
def leaP (M : Mem) (a0 a1 a2 : Int32) (v : Int32) : Bool := decide (0 ≤ (pe (mset M 59 4 a2) a0 a1 v).2.1)
theorem p_least (hI : INV M) {a0 a1 a2 : Int32} (hb2 : isB a2) : PAIR w kX10_least kX11_least [.int a0, .int a1, .int a2] M := by
  by_cases hs : (0 ≤ a0 ∧ a0 ≤ 7) ∧ (0 ≤ a1 ∧ a1 ≤ 11)
  · have dG : dtR (mset M 59 4 a2) = dtR M := by funext c; unfold dtR; rw [mset_ne (by decide)]
    have lG : mset M 59 4 a2 60 0 = M 60 0 := by rw [mset_ne (by decide)]
    have wG : ∀ c, wtR (mset M 59 4 a2) c = if a2 = 0 then M 60 (210 + c).toNatClampNeg else 0 := by
      intro c; unfold wtR; rw [mset_eq, pk_us, mset_ne (by decide)]
    refine pairQ hI (firstV (leaP M a0 a1 a2) 99 1) (firstV_in 99 1) (fun K hK => ?_) (fun M1 r K hK => ?_)
    · refine csi_of (by decide) (Nat.le_of_ble_eq_true rfl) (vX10_least_0 (by decide) a0 a1 a2 M _ ⟨fun q => absurd hs.1 q, fun _ => ⟨fun _ => ?_, fun q => absurd hs.2 q⟩⟩)
      have L : ∀ n i, n + i = 100 → 1 ≤ i → ∀ Mx, FR M Mx → pnI Mx 49 (dtR (mset M 59 4 a2)) (wtR (mset M 59 4 a2)) (mset M 59 4 a2 60 0) → (∀ M', FR M M' → finC (firstV (leaP M a0 a1 a2) n i) M' K) → RM w 12 kX10_least 55 [(0, .ref 0), (1, .int a0), (2, .int a1), (4, .int (nI i))] [] Mx (fun r M' => ∃ x, r = some (.int x) ∧ K x M') := by
        intro n
        induction n with
        | zero =>
          intro i hi h1 Mx f hp g
          have : i = 100 := by omega
          subst this
          exact vX10_least_55 (by decide) _ _ _ Mx _ ⟨fun _ => tell3 (g Mx f), fun c => absurd (by decide) c⟩
        | succ n ih =>
          intro i hi h1 Mx f hp g
          have ho := pe_ok (M := mset M 59 4 a2) (kd := a0) (wa := nI i) hs.2.1 hs.2.2
          refine vX10_least_55 (by decide) _ _ _ Mx _ ⟨fun c => absurd c (nI_nlt (a := 99) (by omega) (by decide)), fun _ => folG (by decide) hp hs.1.1 hs.1.2 hs.2.1 hs.2.2 (nI_le (a := 1) (by omega) (by omega)) (fun M' he fr => uX8_isOut walk53 ?_)⟩
          have f' : FR M M' := f.trans (FR.c (fun q hq => fr q (by omega) (by omega) (by omega)))
          rw [he.2.2.1]
          refine ⟨fun c x1 e1 => ?_, fun c => ⟨_, rfl, ?_⟩⟩
          · rw [b2i_0, ← ho.out] at c
            rw [e1, nI_1]
            refine ih (i + 1) (by omega) (by omega) M' f' (hp.same (fr _ (by decide) (by decide) (by decide)) (fr _ (by decide) (by decide) (by decide)) (fr _ (by decide) (by decide) (by decide))) (fun M2 f2 => ?_)
            have := g M2 f2
            rw [firstV, if_neg (by unfold leaP; rw [decide_eq_true_iff]; exact c)] at this
            exact this
          · rw [b2n, ← ho.out] at c
            have := g M' f'
            rw [firstV, if_pos (by unfold leaP; rw [decide_eq_true_iff]; exact c)] at this
            exact this
      refine bcA (by decide) hI (fun M' f d1 d2 d3 => ⟨fun c => ?_, fun c => ?_⟩)
      · refine L 99 1 rfl (by decide) M' f ⟨fun x x0 x1 => ?_, fun x x0 x1 => ?_, ?_⟩ hK
        · rw [dG]; exact d1 x x0 x1
        · rw [wG, if_pos c]; exact d2 x x0 x1
        · rw [lG]; exact d3
      · refine uJ7_fill (la := 192) rfl (by decide) (by decide) (fun fl hf => ?_)
        refine L 99 1 rfl (by decide) _ (f.trans (FR.c (fun q hq => mput_ne (by omega)))) ⟨fun x x0 x1 => ?_, fun x x0 x1 => ?_, ?_⟩ hK
        · rw [dG, mput_ne (by decide)]; exact d1 x x0 x1
        · rw [wG, if_neg c]
          obtain ⟨k, hk, rfl⟩ := nI_of2 (n := 191) rfl (Int32.not_lt.mpr x0) x1
          have e51 : mput M' 51 fl (49 + 2) = fl := mput_eq
          rw [e51, nI_clamp (by omega)]
          exact ⟨hf k (by omega), by decide⟩
        · rw [lG, mput_ne (by decide)]; exact d3
    · have h4 : M1 59 4 = 0 := r.2.2.1.trans hI.2.2.2.2.2
      refine csi_of (by decide) (Nat.le_of_ble_eq_true rfl) (vX11_least_0 (by decide) a0 a1 a2 M1 _ ⟨fun _ => ⟨hb2, fun M2 e2 => ?_⟩, fun q => absurd ⟨hs.1, hs.2, by decide⟩ q⟩)
      have FIN : ∀ Mx, (∀ q, q ≠ 59 → q ≠ 64 → Mx q = M1 q) → (∀ j, j ≠ 4 → j ≠ 13 → j ≠ 14 → j ≠ 15 → Mx 59 j = M1 59 j) → FR M1 (mset Mx 59 4 0) := by
        intro Mx x1 x2
        refine ⟨fun q hq => ?_, ?_, ?_, ?_⟩
        · rw [mset_ne (fun z => hq (by subst z; unfold jc; omega))]
          exact x1 q (fun z => hq (by subst z; unfold jc; omega)) (fun z => hq (by subst z; unfold jc; omega))
        · rw [mset_eq, pk_un (by decide)]; exact x2 2 (by decide) (by decide) (by decide) (by decide)
        · rw [mset_eq, pk_us, h4]
        · rw [mset_eq, pk_un (by decide)]; exact x2 6 (by decide) (by decide) (by decide) (by decide)
      have L : ∀ n i, n + i = 100 → 1 ≤ i → ∀ Mx, Mx 59 4 = a2 → (∀ q, q ≠ 59 → q ≠ 64 → Mx q = M1 q) → (∀ j, j ≠ 4 → j ≠ 13 → j ≠ 14 → j ≠ 15 → Mx 59 j = M1 59 j) → (∀ M', FR M1 M' → finR (firstV (leaP M a0 a1 a2) n i) M' K) → RM w 12 kX11_least 27 [(0, .ref 59), (1, .int a0), (2, .int a1), (4, .int (-1)), (5, .int (nI i))] [] Mx (fun r M' => ∃ x, r = some (.int x) ∧ K x M') := by
        intro n
        induction n with
        | zero =>
          intro i hi h1 Mx x0 x1 x2 g
          have : i = 100 := by omega
          subst this
          refine vX11_least_27 (by decide) _ _ _ _ Mx _ ⟨fun _ Ma ea => ⟨fun q => absurd q (by decide), fun _ => find3 ?_⟩, fun c => absurd (by decide) c⟩
          rw [ea]; exact g _ (FIN Mx x1 x2)
        | succ n ih =>
          intro i hi h1 Mx x0 x1 x2 g
          have e60 : Mx 60 = M 60 := (x1 60 (by decide) (by decide)).trans r.m60
          refine vX11_least_27 (by decide) _ _ _ _ Mx _ ⟨fun c => absurd c (nI_ge (b := 100) (by omega) (by decide)), fun _ => ⟨fun q => absurd q (by decide), fun _ => goG (G := mset M 59 4 a2) (by decide) ?_ ?_ ?_ hs.2.1 hs.2.2 (fun M' he y1 y2 x xe x' xe' => ?_)⟩⟩
          · rw [dG]; funext c; unfold dtR; rw [e60]
          · funext c; rw [wG]; unfold wtR; rw [x0, e60]
          · rw [lG, e60]
          · rw [he.2.1] at xe
            have z0 : M' 59 4 = a2 := by rw [y2 4 (by decide) (by decide) (by decide)]; exact x0
            have z1 : ∀ q, q ≠ 59 → q ≠ 64 → M' q = M1 q := fun q a b => by rw [y1 q a b]; exact x1 q a b
            have z2 : ∀ j, j ≠ 4 → j ≠ 13 → j ≠ 14 → j ≠ 15 → M' 59 j = M1 59 j := fun j a b c d => by rw [y2 j b c d]; exact x2 j a b c d
            rw [xe', nI_1]
            by_cases c : 0 ≤ (pe (mset M 59 4 a2) a0 a1 (nI i)).2.1
            · rw [if_pos c] at xe
              have gg := g _ (FIN M' z1 z2)
              rw [firstV, if_pos (by unfold leaP; rw [decide_eq_true_iff]; exact c)] at gg
              rw [xe]
              have hp : 0 ≤ nI i := nI_pos' (by omega)
              refine vX11_least_27 (by decide) _ _ _ _ M' _ ⟨fun _ Ma ea => ⟨fun _ => ⟨_, rfl, ?_⟩, fun q => absurd hp q⟩, fun _ => ⟨fun _ Ma ea => ⟨fun _ => ⟨_, rfl, ?_⟩, fun q => absurd hp q⟩, fun q => absurd hp q⟩⟩
              · rw [ea]; exact gg
              · rw [ea]; exact gg
            · rw [if_neg c] at xe
              rw [xe]
              refine ih (i + 1) (by omega) (by omega) M' z0 z1 z2 (fun M2 f2 => ?_)
              have := g M2 f2
              rw [firstV, if_neg (by unfold leaP; rw [decide_eq_true_iff]; exact c)] at this
              exact this
      refine L 99 1 rfl (by decide) M2 ?_ ?_ ?_ hK
      · rw [e2, mset_eq, pk_us]
      · intro q a _; rw [e2, mset_ne a]
      · intro j a _ _ _; rw [e2, mset_eq, pk_un a]
  · refine pairQ hI (.inr 0) in0 (fun K hK => ?_) (fun M1 r K hK => ?_)
    · exact csi_of (by decide) (Nat.le_of_ble_eq_true rfl) (vX10_least_0 (by decide) a0 a1 a2 M _ ⟨fun _ => tell0 (hK _ FR.refl), fun q => ⟨fun q2 => absurd ⟨q, q2⟩ hs, fun _ => tell0 (hK _ FR.refl)⟩⟩)
    · exact csi_of (by decide) (Nat.le_of_ble_eq_true rfl) (vX11_least_0 (by decide) a0 a1 a2 M1 _ ⟨fun q => absurd ⟨q.1, q.2.1⟩ hs, fun _ => find0 (hK _ FR.refl)⟩)
end P4

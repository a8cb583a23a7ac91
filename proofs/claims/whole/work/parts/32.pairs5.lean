/-! ===== soonest, edge ===== -/
theorem g_pm1 {x : Int32} : x + (-1) = x - 1 := by grind
theorem g_lt65 {n : Nat} (h : n ≤ 64) : ¬ (65 : Int32) ≤ nI n := nI_ge (b := 65) (by omega) (by decide)
theorem n18 (k : Nat) : 18 + nI k = nI (18 + k) := nI_add 18 k
theorem n210 (k : Nat) : 210 + nI k = nI (210 + k) := nI_add 210 k
section P5
variable {w : Wd} {M : Mem}
def sooV (M : Mem) (a0 a1 a2 : Int32) : Nat → Nat → Int32 → Int32 → Int32 ⊕ Nat
  | 0, _, best, _ => if best = -1 then .inr 3 else .inl best
  | n + 1, i, best, few => if 0 ≤ (pe (mset M 60 0 (nI i)) a0 a1 a2).2.1 ∧ ¬ few ≤ nI (pe (mset M 60 0 (nI i)) a0 a1 a2).1 then sooV M a0 a1 a2 n (i + 1) (nI i) (nI (pe (mset M 60 0 (nI i)) a0 a1 a2).1) else sooV M a0 a1 a2 n (i + 1) best few
theorem sooV_in {a0 a1 a2 : Int32} : ∀ n i b f j, sooV M a0 a1 a2 n i b f = .inr j → j < 7 := by
  intro n
  induction n with
  | zero => intro i b f j e; rw [sooV] at e; split at e <;> cases e; decide
  | succ n ih =>
    intro i b f j e
    rw [sooV] at e
    split at e
    · exact ih _ _ _ _ e
    · exact ih _ _ _ _ e
theorem p_soonest (hI : INV M) {a0 a1 a2 : Int32} : PAIR w kX10_soonest kX11_soonest [.int a0, .int a1, .int a2] M := by
  by_cases hs : (0 ≤ a0 ∧ a0 ≤ 7) ∧ (0 ≤ a1 ∧ a1 ≤ 11) ∧ (1 ≤ a2 ∧ a2 ≤ 99)
  · have z0 : Int32.toNatClampNeg 0 = 0 := rfl
    have hin : vp_in 0 666 := inL 666 rfl (by decide) (by decide)
    refine pairQ hI (sooV M a0 a1 a2 10 0 (-1) 65) (sooV_in 10 0 _ _) (fun K hK => ?_) (fun M1 r K hK => ?_)
    · refine csi_of (by decide) (Nat.le_of_ble_eq_true rfl) (vX10_soonest_0 (by decide) a0 a1 a2 M _ ⟨fun _ => ?_, fun q => absurd hs q⟩)
      have L : ∀ n i, n + i = 10 → ∀ b f Mx, FR M Mx → (∀ c : Int32, 0 ≤ c → c ≤ 191 → Mx 50 c.toNatClampNeg = M 60 (18 + c).toNatClampNeg) → (∀ c : Int32, 0 ≤ c → c ≤ 191 → Mx 51 c.toNatClampNeg = M 60 (210 + c).toNatClampNeg ∧ 0 ≤ M 60 (210 + c).toNatClampNeg) → (∀ M', FR M M' → finC (sooV M a0 a1 a2 n i b f) M' K) → RM w 12 kX10_soonest 42 [(0, .ref 0), (1, .int a0), (2, .int a1), (3, .int a2), (4, .int b), (5, .int f), (6, .int (nI i))] [] Mx (fun r M' => ∃ x, r = some (.int x) ∧ K x M') := by
        intro n
        induction n with
        | zero =>
          intro i hi b f Mx fx d1 d2 g
          have : i = 10 := by omega
          subst this
          have gg := g Mx fx
          rw [sooV] at gg
          refine vX10_soonest_42 (by decide) _ _ _ _ _ _ Mx _ ⟨fun _ => ⟨fun c => ⟨_, rfl, ?_⟩, fun c => tell3 ?_⟩, fun c => absurd (by decide) c⟩
          · rw [if_neg c] at gg; exact gg
          · rw [if_pos c] at gg; exact gg
        | succ n ih =>
          intro i hi b f Mx fx d1 d2 g
          have ho := pe_ok (M := mset M 60 0 (nI i)) (kd := a0) (wa := a2) hs.2.1.1 hs.2.1.2
          refine vX10_soonest_42 (by decide) _ _ _ _ _ _ Mx _ ⟨fun c => absurd c (nI_nlt (a := 9) (by omega) (by decide)), fun _ Ma ea => folG (G := mset M 60 0 (nI i)) (by decide) ⟨fun c c0 c1 => ?_, fun c c0 c1 => ?_, ?_⟩ hs.1.1 hs.1.2 hs.2.1.1 hs.2.1.2 hs.2.2.1 (fun M' he fr => uX8_isOut walk53 ?_)⟩
          · unfold dtR
            obtain ⟨k, hk, rfl⟩ := nI_of2 (n := 191) rfl (Int32.not_lt.mpr c0) c1
            rw [ea, mset_ne (by decide), mset_eq, n18, nI_clamp (show 18 + k < 2 ^ 31 by omega), pk_un (by omega)]
            have := d1 _ c0 c1
            rw [n18, nI_clamp (show 18 + k < 2 ^ 31 by omega)] at this
            exact this
          · unfold wtR
            rw [mset_ne (show 59 ≠ 60 by decide), if_pos hI.2.2.2.2.2]
            obtain ⟨k, hk, rfl⟩ := nI_of2 (n := 191) rfl (Int32.not_lt.mpr c0) c1
            rw [ea, mset_ne (by decide), mset_eq, n210, nI_clamp (show 210 + k < 2 ^ 31 by omega), pk_un (by omega)]
            have := d2 _ c0 c1
            rw [n210, nI_clamp (show 210 + k < 2 ^ 31 by omega)] at this
            exact this
          · rw [ea, mset_eq, pk_us, mset_eq, pk_us]
          · have fo : ∀ q, q ≠ 49 → q ≠ 53 → q ≠ 54 → q ≠ 52 → M' q = Mx q := fun q a b c d => by rw [fr q b c d, ea, mset_ne a]
            have f' : FR M M' := fx.trans (FR.c (fun q hq => fo q (by omega) (by omega) (by omega) (by omega)))
            have d1' : ∀ c : Int32, 0 ≤ c → c ≤ 191 → M' 50 c.toNatClampNeg = M 60 (18 + c).toNatClampNeg := fun c c0 c1 => by rw [fo 50 (by decide) (by decide) (by decide) (by decide)]; exact d1 c c0 c1
            have d2' : ∀ c : Int32, 0 ≤ c → c ≤ 191 → M' 51 c.toNatClampNeg = M 60 (210 + c).toNatClampNeg ∧ 0 ≤ M 60 (210 + c).toNatClampNeg := fun c c0 c1 => by rw [fo 51 (by decide) (by decide) (by decide) (by decide)]; exact d2 c c0 c1
            rw [he.2.2.1, he.1]
            refine ⟨fun c x1 e1 => ?_, fun c => ⟨fun c2 x1 e1 => ?_, fun c2 x1 e1 x2 e2 => ?_⟩⟩
            · rw [b2i_0, ← ho.out] at c
              rw [e1, nI_1]
              refine ih (i + 1) (by omega) _ _ M' f' d1' d2' (fun M2 f2 => ?_)
              have := g M2 f2
              rw [sooV, if_neg (fun z => c z.1)] at this
              exact this
            · rw [e1, nI_1]
              refine ih (i + 1) (by omega) _ _ M' f' d1' d2' (fun M2 f2 => ?_)
              have := g M2 f2
              rw [sooV, if_neg (fun z => z.2 c2)] at this
              exact this
            · rw [b2n, ← ho.out] at c
              rw [e1, e2, nI_1]
              refine ih (i + 1) (by omega) _ _ M' f' d1' d2' (fun M2 f2 => ?_)
              have := g M2 f2
              rw [sooV, if_pos ⟨c, c2⟩] at this
              exact this
      exact bcA (by decide) hI (fun M' f d1 d2 d3 => L 10 0 rfl _ _ M' f d1 d2 hK)
    · refine csi_of (by decide) (Nat.le_of_ble_eq_true rfl) (vX11_soonest_0 (by decide) a0 a1 a2 M1 _ ⟨fun _ => ⟨hin, fun x1 e1 => ?_⟩, fun q => absurd hs q⟩)
      rw [z0, r.m60] at e1
      subst e1
      have L : ∀ n i, n + i = 10 → ∀ b f v6 Mx y, ((b = -1 ∧ f = 65) ∨ (0 ≤ b ∧ f = v6)) → Mx 60 = upd (M 60) 0 y → (∀ q, q ≠ 59 → q ≠ 60 → q ≠ 64 → Mx q = M1 q) → (∀ j, j ≠ 13 → j ≠ 14 → j ≠ 15 → Mx 59 j = M1 59 j) → (∀ M', FR M1 M' → finR (sooV M a0 a1 a2 n i b f) M' K) → RM w 12 kX11_soonest 33 [(0, .ref 59), (1, .int a0), (2, .int a1), (3, .int a2), (4, .int (M 60 0)), (5, .int b), (6, .int v6), (7, .int (nI i))] [] Mx (fun r M' => ∃ x, r = some (.int x) ∧ K x M') := by
        intro n
        induction n with
        | zero =>
          intro i hi b f v6 Mx y hb h60 x1 x2 g
          have : i = 10 := by omega
          subst this
          have FIN : FR M1 (mset Mx 60 0 (M 60 0)) := by
            refine ⟨fun q hq => ?_, ?_, ?_, ?_⟩
            · by_cases hq6 : q = 60
              · subst hq6; rw [mset_eq, h60, upd_self rfl, r.m60]
              · rw [mset_ne hq6]
                exact x1 q (fun z => hq (by subst z; unfold jc; omega)) hq6 (fun z => hq (by subst z; unfold jc; omega))
            · rw [mset_ne (by decide)]; exact x2 2 (by decide) (by decide) (by decide)
            · rw [mset_ne (by decide)]; exact x2 4 (by decide) (by decide) (by decide)
            · rw [mset_ne (by decide)]; exact x2 6 (by decide) (by decide) (by decide)
          have gg := g _ FIN
          rw [sooV] at gg
          refine vX11_soonest_33 (by decide) _ _ _ _ _ _ _ Mx _ ⟨fun _ => ⟨hin, fun Ma ea => ⟨fun c => ⟨_, rfl, ?_⟩, fun c => find3 ?_⟩⟩, fun c => absurd (by decide) c⟩
          · rw [if_neg (fun z => by rw [z] at c; exact absurd c (by decide))] at gg; rw [ea]; exact gg
          · have hb1 : b = -1 := by rcases hb with z | z; exact z.1; exact absurd z.1 c
            rw [if_pos hb1] at gg; rw [ea]; exact gg
        | succ n ih =>
          intro i hi b f v6 Mx y hb h60 x1 x2 g
          have ho := pe_ok (M := mset M 60 0 (nI i)) (kd := a0) (wa := a2) hs.2.1.1 hs.2.1.2
          have hle := ho.1
          refine vX11_soonest_33 (by decide) _ _ _ _ _ _ _ Mx _ ⟨fun c => absurd c (nI_ge (b := 10) (by omega) (by decide)), fun _ => ⟨hin, fun Ma ea => ?_⟩⟩
          have ea60 : Ma 60 = mset M 60 0 (nI i) 60 := by
            rw [ea, mset_eq, mset_eq, h60, z0]
            funext j
            by_cases hj : j = 0
            · subst hj; rw [pk_us, pk_us]
            · rw [pk_un hj, pk_un hj, pk_un hj]
          have ea59 : Ma 59 = Mx 59 := by rw [ea, mset_ne (by decide)]
          refine goG (G := mset M 60 0 (nI i)) (by decide) ?_ ?_ ?_ hs.2.1.1 hs.2.1.2 (fun M' he y1 y2 => ?_)
          · funext c; unfold dtR; rw [ea60]
          · funext c; unfold wtR; rw [ea60, ea59, x2 4 (by decide) (by decide) (by decide), r.2.2.1, mset_ne (show 59 ≠ 60 by decide)]
          · rw [ea60]
          · have w60 : M' 60 = upd (M 60) 0 (nI i) := by rw [y1 60 (by decide) (by decide), ea60, mset_eq]
            have w1 : ∀ q, q ≠ 59 → q ≠ 60 → q ≠ 64 → M' q = M1 q := fun q a b c => by rw [y1 q a c, ea, mset_ne b]; exact x1 q a b c
            have w2 : ∀ j, j ≠ 13 → j ≠ 14 → j ≠ 15 → M' 59 j = M1 59 j := fun j a b c => by rw [y2 j a b c, ea59]; exact x2 j a b c
            rw [he.2.1, he.1]
            have TAKE : 0 ≤ (pe (mset M 60 0 (nI i)) a0 a1 a2).2.1 → ¬ f ≤ nI (pe (mset M 60 0 (nI i)) a0 a1 a2).1 → RM w 12 kX11_soonest 33 [(0, .ref 59), (1, .int a0), (2, .int a1), (3, .int a2), (4, .int (M 60 0)), (5, .int (nI i)), (6, .int (nI (pe (mset M 60 0 (nI i)) a0 a1 a2).1)), (7, .int (nI (i + 1)))] [] M' (fun r M' => ∃ x, r = some (.int x) ∧ K x M') := by
              intro c1 c2
              refine ih (i + 1) (by omega) _ _ _ M' _ (Or.inr ⟨nI_pos' (by omega), rfl⟩) w60 w1 w2 (fun M2 f2 => ?_)
              have := g M2 f2
              rw [sooV, if_pos ⟨c1, c2⟩] at this
              exact this
            have LEAVE : ¬ (0 ≤ (pe (mset M 60 0 (nI i)) a0 a1 a2).2.1 ∧ ¬ f ≤ nI (pe (mset M 60 0 (nI i)) a0 a1 a2).1) → RM w 12 kX11_soonest 33 [(0, .ref 59), (1, .int a0), (2, .int a1), (3, .int a2), (4, .int (M 60 0)), (5, .int b), (6, .int v6), (7, .int (nI (i + 1)))] [] M' (fun r M' => ∃ x, r = some (.int x) ∧ K x M') := by
              intro c1
              refine ih (i + 1) (by omega) _ _ _ M' _ hb w60 w1 w2 (fun M2 f2 => ?_)
              have := g M2 f2
              rw [sooV, if_neg c1] at this
              exact this
            refine ⟨fun c x1 e1 => ?_, fun c => ⟨fun c2 x1 e1 x2 e2 => ?_, fun c2 => ⟨fun c3 x1 e1 x2 e2 => ?_, fun c3 x1 e1 => ?_⟩⟩⟩
            · rw [e1, nI_1]; exact LEAVE (fun z => absurd z.1 (Int32.not_le.mpr c))
            · rw [e1, e2, nI_1]
              have hf : f = 65 := by
                rcases hb with z | z
                · exact z.2
                · exact absurd z.1 (Int32.not_le.mpr c2)
              exact TAKE (Int32.not_lt.mp c) (by rw [hf]; exact g_lt65 hle)
            · rw [e1, e2, nI_1]
              have hf : f = v6 := by
                rcases hb with z | z
                · rw [z.1] at c2; exact absurd (by decide) c2
                · exact z.2
              exact TAKE (Int32.not_lt.mp c) (by rw [hf]; exact Int32.not_le.mpr c3)
            · rw [e1, nI_1]
              have hf : f = v6 := by
                rcases hb with z | z
                · rw [z.1] at c2; exact absurd (by decide) c2
                · exact z.2
              exact LEAVE (fun z => z.2 (by rw [hf]; exact Int32.not_lt.mp c3))
      refine L 10 0 rfl (-1) 65 0 M1 (M 60 0) (Or.inl ⟨rfl, rfl⟩) ?_ (fun _ _ _ _ => rfl) (fun _ _ _ _ => rfl) hK
      rw [r.m60]
      funext j
      by_cases hj : j = 0
      · subst hj; rw [pk_us]
      · rw [pk_un hj]
  · refine pairQ hI (.inr 0) in0 (fun K hK => ?_) (fun M1 r K hK => ?_)
    · exact csi_of (by decide) (Nat.le_of_ble_eq_true rfl) (vX10_soonest_0 (by decide) a0 a1 a2 M _ ⟨fun q => absurd q hs, fun _ => tell0 (hK _ FR.refl)⟩)
    · exact csi_of (by decide) (Nat.le_of_ble_eq_true rfl) (vX11_soonest_0 (by decide) a0 a1 a2 M1 _ ⟨fun q => absurd q hs, fun _ => find0 (hK _ FR.refl)⟩)
def edgV (p : Int32 → Bool) : Nat → Int32
  | 0 => -1
  | n + 1 => if p (nI n) = true then nI n else edgV p n
theorem edgV_or {p : Int32 → Bool} : ∀ n, n ≤ 10 → edgV p n = -1 ∨ 0 ≤ edgV p n := by
  intro n
  induction n with
  | zero => intro _; exact Or.inl rfl
  | succ n ih =>
    intro hn
    rw [edgV]
    split
    · exact Or.inr (nI_pos' (by omega))
    · exact ih (by omega)
def edgP (M : Mem) (c : Nat) (a1 a2 : Int32) (v : Int32) : Bool := decide (0 ≤ (pe (mset M 60 (18 + c) v) a1 a2 20).2.1)
theorem p_edge (hI : INV M) {a0 a1 a2 : Int32} : PAIR w kX10_edge kX11_edge [.int a0, .int a1, .int a2] M := by
  by_cases hs : (0 ≤ a0 ∧ a0 ≤ 191) ∧ (0 ≤ a1 ∧ a1 ≤ 7) ∧ (0 ≤ a2 ∧ a2 ≤ 11)
  · obtain ⟨⟨s0, s1⟩, hk, hc⟩ := hs
    obtain ⟨c, hc4, rfl⟩ := nI_of2 (n := 191) rfl (Int32.not_lt.mpr s0) s1
    have hcl : (nI c).toNatClampNeg = c := nI_clamp (by omega)
    have hcl8 : (18 + nI c).toNatClampNeg = 18 + c := by rw [n18, nI_clamp (by omega)]
    have hin : vp_in (nI c) 192 := vp_in_nI (by omega) (by decide)
    have hin8 : vp_in (18 + nI c) 666 := by rw [n18]; exact vp_in_nI (by omega) (by decide)
    refine pairQ hI (if edgV (edgP M c a1 a2) 10 = -1 then .inr 3 else .inl (edgV (edgP M c a1 a2) 10)) (fun j e => ?_) (fun K hK => ?_) (fun M1 r K hK => ?_)
    · split at e <;> cases e; decide
    · refine csi_of (by decide) (Nat.le_of_ble_eq_true rfl) (vX10_edge_0 (by decide) _ a1 a2 M _ ⟨fun q => absurd ⟨s0, s1⟩ q, fun _ => ⟨fun q => absurd hk q, fun _ => ⟨fun _ => ?_, fun q => absurd hc q⟩⟩⟩)
      have L : ∀ n, n ≤ 10 → ∀ Mx y, FR M Mx → (∀ k, k < 192 → Mx 50 k = upd (M 60) (18 + c) y (18 + k)) → (∀ c : Int32, 0 ≤ c → c ≤ 191 → Mx 51 c.toNatClampNeg = M 60 (210 + c).toNatClampNeg ∧ 0 ≤ M 60 (210 + c).toNatClampNeg) → Mx 49 2 = M 60 0 → (∀ M', FR M M' → finC (if edgV (edgP M c a1 a2) n = -1 then .inr 3 else .inl (edgV (edgP M c a1 a2) n)) M' K) → RM w 12 kX10_edge 48 [(0, .ref 0), (1, .int (nI c)), (2, .int a1), (3, .int a2), (4, .int (nI n - 1))] [] Mx (fun r M' => ∃ x, r = some (.int x) ∧ K x M') := by
        intro n
        induction n with
        | zero =>
          intro hn Mx y fx d1 d2 d3 g
          exact vX10_edge_48 (by decide) _ _ _ _ Mx _ ⟨fun _ => tell3 (g Mx fx), fun c => absurd (by decide) c⟩
        | succ n ih =>
          intro hn Mx y fx d1 d2 d3 g
          have ho := pe_ok (M := mset M 60 (18 + c) (nI n)) (kd := a1) (wa := 20) hc.1 hc.2
          rw [nI_pred]
          refine vX10_edge_48 (by decide) _ _ _ _ Mx _ ⟨fun q => absurd q (nI_pos (by omega)), fun _ => ⟨hin, fun Ma ea => folG (G := mset M 60 (18 + c) (nI n)) (by decide) ⟨fun x c0 c1 => ?_, fun x c0 c1 => ?_, ?_⟩ hk.1 hk.2 hc.1 hc.2 (by decide) (fun M' he fr => uX8_isOut walk53 ?_)⟩⟩
          · unfold dtR
            obtain ⟨k, hk, rfl⟩ := nI_of2 (n := 191) rfl (Int32.not_lt.mpr c0) c1
            have e50 : Ma (49 + 1) = upd (Mx 50) c (nI n) := by rw [ea, hcl]; exact mset_eq
            rw [e50, mset_eq, n18, nI_clamp (show 18 + k < 2 ^ 31 by omega), nI_clamp (show k < 2 ^ 31 by omega)]
            by_cases hkc : k = c
            · subst hkc; rw [pk_us, pk_us]
            · rw [pk_un hkc, pk_un (by omega), d1 k (by omega), pk_un (by omega)]
          · unfold wtR
            rw [mset_ne (show 59 ≠ 60 by decide), if_pos hI.2.2.2.2.2]
            obtain ⟨k, hk, rfl⟩ := nI_of2 (n := 191) rfl (Int32.not_lt.mpr c0) c1
            rw [ea, mset_ne (by decide), mset_eq, n210, nI_clamp (show 210 + k < 2 ^ 31 by omega), pk_un (by omega)]
            have := d2 _ c0 c1
            rw [n210, nI_clamp (show 210 + k < 2 ^ 31 by omega)] at this
            exact this
          · rw [ea, mset_ne (by decide), mset_eq, pk_un (by omega)]; exact d3
          · have fo : ∀ q, q ≠ 50 → q ≠ 53 → q ≠ 54 → q ≠ 52 → M' q = Mx q := fun q a b c d => by rw [fr q b c d, ea, mset_ne a]
            have f' : FR M M' := fx.trans (FR.c (fun q hq => fo q (by omega) (by omega) (by omega) (by omega)))
            rw [he.2.2.1]
            refine ⟨fun q x1 e1 => ?_, fun q => ⟨_, rfl, ?_⟩⟩
            · rw [b2i_0, ← ho.out] at q
              rw [e1, g_pm1]
              refine ih (by omega) M' (nI n) f' (fun k hk => ?_) (fun x c0 c1 => ?_) ?_ (fun M2 f2 => ?_)
              · rw [fr 50 (by decide) (by decide) (by decide), ea, mset_eq, hcl]
                by_cases hkc : k = c
                · subst hkc; rw [pk_us, pk_us]
                · rw [pk_un hkc, pk_un (by omega), d1 k (by omega), pk_un (by omega)]
              · rw [fo 51 (by decide) (by decide) (by decide) (by decide)]; exact d2 x c0 c1
              · rw [fo 49 (by decide) (by decide) (by decide) (by decide)]; exact d3
              · have := g M2 f2
                rw [edgV, if_neg (show ¬ edgP M c a1 a2 (nI n) = true by unfold edgP; rw [decide_eq_true_iff]; exact q)] at this
                exact this
            · rw [b2n, ← ho.out] at q
              have := g M' f'
              rw [edgV, if_pos (show edgP M c a1 a2 (nI n) = true by unfold edgP; rw [decide_eq_true_iff]; exact q), if_neg (fun z => absurd (nI_pos' (n := n) (by omega)) (by rw [z]; decide))] at this
              exact this
      refine bcA (by decide) hI (fun M' f d1 d2 d3 => L 10 (by decide) M' (M 60 (18 + c)) f (fun k hk => ?_) d2 d3 hK)
      have := d1 (nI k) (nI_pos' (by omega)) (nI_le (b := 191) (by omega) (by decide))
      rw [n18, nI_clamp (show k < 2 ^ 31 by omega), nI_clamp (show 18 + k < 2 ^ 31 by omega)] at this
      rw [this]
      by_cases hkc : k = c
      · subst hkc; rw [pk_us]
      · rw [pk_un (by omega)]
    · refine csi_of (by decide) (Nat.le_of_ble_eq_true rfl) (vX11_edge_0 (by decide) _ a1 a2 M1 _ ⟨fun q => absurd ⟨s0, s1⟩ q, fun _ => ⟨fun _ => ⟨hin8, fun x1 e1 => ?_⟩, fun q => absurd ⟨hk, hc, by decide⟩ q⟩⟩)
      rw [hcl8, r.m60] at e1
      subst e1
      have L : ∀ n i, n + i = 10 → ∀ Mx y, Mx 60 = upd (M 60) (18 + c) y → (∀ q, q ≠ 59 → q ≠ 60 → q ≠ 64 → Mx q = M1 q) → (∀ j, j ≠ 13 → j ≠ 14 → j ≠ 15 → Mx 59 j = M1 59 j) → RM w 12 kX11_edge 41 [(0, .ref 59), (1, .int (nI c)), (2, .int a1), (3, .int a2), (4, .int (M 60 (18 + c))), (5, .int (edgV (edgP M c a1 a2) i)), (6, .int (nI i))] [] Mx (fun r M' => ∃ x, r = some (.int x) ∧ K x M') := by
        intro n
        induction n with
        | zero =>
          intro i hi Mx y h60 x1 x2
          have : i = 10 := by omega
          subst this
          have FIN : FR M1 (mset Mx 60 (18 + c) (M 60 (18 + c))) := by
            refine ⟨fun q hq => ?_, ?_, ?_, ?_⟩
            · by_cases hq6 : q = 60
              · subst hq6; rw [mset_eq, h60, upd_self rfl, r.m60]
              · rw [mset_ne hq6]
                exact x1 q (fun z => hq (by subst z; unfold jc; omega)) hq6 (fun z => hq (by subst z; unfold jc; omega))
            · rw [mset_ne (by decide)]; exact x2 2 (by decide) (by decide) (by decide)
            · rw [mset_ne (by decide)]; exact x2 4 (by decide) (by decide) (by decide)
            · rw [mset_ne (by decide)]; exact x2 6 (by decide) (by decide) (by decide)
          have gg := hK _ FIN
          refine vX11_edge_41 (by decide) _ _ _ _ _ _ Mx _ ⟨fun _ => ⟨hin8, fun Ma ea => ?_⟩, fun c => absurd (by decide) c⟩
          rw [hcl8] at ea
          rw [ea]
          refine ⟨fun q => ⟨_, rfl, ?_⟩, fun q => find3 ?_⟩
          · rw [if_neg (fun z => by rw [z] at q; exact absurd q (by decide))] at gg; exact gg
          · have hb1 : edgV (edgP M c a1 a2) 10 = -1 := by rcases edgV_or (p := edgP M c a1 a2) 10 (by decide) with z | z; exact z; exact absurd z q
            rw [if_pos hb1] at gg; exact gg
        | succ n ih =>
          intro i hi Mx y h60 x1 x2
          refine vX11_edge_41 (by decide) _ _ _ _ _ _ Mx _ ⟨fun c => absurd c (nI_ge (b := 10) (by omega) (by decide)), fun _ => ⟨hin8, fun Ma ea => ?_⟩⟩
          rw [hcl8] at ea
          have ea60 : Ma 60 = mset M 60 (18 + c) (nI i) 60 := by
            rw [ea, mset_eq, mset_eq, h60]
            funext j
            by_cases hj : j = 18 + c
            · subst hj; rw [pk_us, pk_us]
            · rw [pk_un hj, pk_un hj, pk_un hj]
          have ea59 : Ma 59 = Mx 59 := by rw [ea, mset_ne (by decide)]
          refine goG (G := mset M 60 (18 + c) (nI i)) (by decide) ?_ ?_ ?_ hc.1 hc.2 (fun M' he y1 y2 v1 e1 v2 e2 => ?_)
          · funext c; unfold dtR; rw [ea60]
          · funext x; unfold wtR; rw [ea60, ea59, x2 4 (by decide) (by decide) (by decide), r.2.2.1, mset_ne (show 59 ≠ 60 by decide)]
          · rw [ea60]
          · have e3 : v1 = edgV (edgP M c a1 a2) (i + 1) := by
              rw [e1, he.2.1, edgV]
              by_cases q : 0 ≤ (pe (mset M 60 (18 + c) (nI i)) a1 a2 20).2.1
              · rw [if_pos q, if_pos (show edgP M c a1 a2 (nI i) = true by unfold edgP; rw [decide_eq_true_iff]; exact q)]
              · rw [if_neg q, if_neg (show ¬ edgP M c a1 a2 (nI i) = true by unfold edgP; rw [decide_eq_true_iff]; exact q)]
            rw [e3, e2, nI_1]
            refine ih (i + 1) (by omega) M' (nI i) ?_ ?_ ?_
            · rw [y1 60 (by decide) (by decide), ea60, mset_eq]
            · intro q a b d; rw [y1 q a d, ea, mset_ne b]; exact x1 q a b d
            · intro j a b d; rw [y2 j a b d, ea59]; exact x2 j a b d
      refine L 10 0 rfl M1 (M 60 (18 + c)) ?_ (fun _ _ _ _ => rfl) (fun _ _ _ _ => rfl)
      rw [r.m60]
      funext j
      by_cases hj : j = 18 + c
      · subst hj; rw [pk_us]
      · rw [pk_un hj]
  · refine pairQ hI (.inr 0) in0 (fun K hK => ?_) (fun M1 r K hK => ?_)
    · exact csi_of (by decide) (Nat.le_of_ble_eq_true rfl) (vX10_edge_0 (by decide) a0 a1 a2 M _ ⟨fun _ => tell0 (hK _ FR.refl), fun q => ⟨fun _ => tell0 (hK _ FR.refl), fun q2 => ⟨fun q3 => absurd ⟨q, q2, q3⟩ hs, fun _ => tell0 (hK _ FR.refl)⟩⟩⟩)
    · exact csi_of (by decide) (Nat.le_of_ble_eq_true rfl) (vX11_edge_0 (by decide) a0 a1 a2 M1 _ ⟨fun _ => find0 (hK _ FR.refl), fun q => ⟨fun q2 => absurd ⟨q, q2.1, q2.2.1⟩ hs, fun _ => find0 (hK _ FR.refl)⟩⟩)
end P5

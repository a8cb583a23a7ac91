/-! ===== the reference's reader: tokens, words, signs, numbers ===== -/
theorem g_sp {x : Int32} : ((32 : Int32) ≤ x ∧ x ≤ 32) ↔ x = 32 := by
  constructor
  · intro z; grind
  · intro z; rw [z]; decide
theorem so0 {f : Nat → Int32} {n s : Nat} : soT f n s = 0 ↔ tyT f n s = 0 := by
  unfold soT
  split
  · rename_i q; simp [q]
  · rename_i q
    constructor
    · intro z; split at z
      · exact absurd z (by decide)
      · split at z <;> exact absurd z (by decide)
    · intro z; exact absurd z q
theorem so1 {f : Nat → Int32} {n s : Nat} : soT f n s = 1 ↔ tyT f n s = 1 := by
  unfold soT
  constructor
  · intro z
    split at z
    · exact absurd z (by decide)
    · split at z
      · assumption
      · split at z <;> exact absurd z (by decide)
  · intro z; rw [z]; decide
theorem so2 {f : Nat → Int32} {n s : Nat} : soT f n s = 2 ↔ tyT f n s = 2 := by
  unfold soT
  constructor
  · intro z
    split at z
    · exact absurd z (by decide)
    · split at z
      · exact absurd z (by decide)
      · split at z
        · assumption
        · exact absurd z (by decide)
  · intro z; rw [z]; decide
theorem so3 {f : Nat → Int32} {n s : Nat} : soT f n s = 3 ↔ (¬ tyT f n s = 0 ∧ ¬ tyT f n s = 1 ∧ ¬ tyT f n s = 2) := by
  unfold soT
  constructor
  · intro z
    split at z
    · exact absurd z (by decide)
    · split at z
      · exact absurd z (by decide)
      · split at z
        · exact absurd z (by decide)
        · exact ⟨by assumption, by assumption, by assumption⟩
  · intro z; rw [if_neg z.1, if_neg z.2.1, if_neg z.2.2]
/-- what the reference's reader may change -/
def RD (M M' : Mem) : Prop := (∀ q, q ≠ 59 → M' q = M q) ∧ ∀ j, (j < 7 ∨ 11 ≤ j) → M' 59 j = M 59 j
theorem RD.refl {M : Mem} : RD M M := ⟨fun _ _ => rfl, fun _ _ => rfl⟩
theorem RD.trans {M M' M'' : Mem} (a : RD M M') (b : RD M' M'') : RD M M'' := ⟨fun q h => (b.1 q h).trans (a.1 q h), fun j h => (b.2 j h).trans (a.2 j h)⟩
theorem RD.set {M M' : Mem} (a : RD M M') {j : Nat} {x : Int32} (h7 : 7 ≤ j) (h11 : j < 11) : RD M (mset M' 59 j x) := ⟨fun q h => by rw [mset_ne h]; exact a.1 q h, fun i h => by rw [mset_eq, pk_un (by omega)]; exact a.2 i h⟩
theorem TR.rd {f : Nat → Int32} {n : Nat} {M M' : Mem} (T : TR f n M) (e : RD M M') : TR f n M' := by
  unfold TR; rw [e.2 6 (by omega), e.1 63 (by decide)]; exact T
section TX2
variable {w : Wd} {h : Nat} {M : Mem} {K : Int32 → Mem → Prop} {Kv : Mem → Prop} {f : Nat → Int32} {n : Nat}
theorem uX11_isByte (hh : 1 ≤ h) (T : TR f n M) {s : Nat} (hs : s ≤ n) {x lo hi : Int32} (hx : x = nI s) (hK1 : s < n → lo ≤ f s ∧ f s ≤ hi → K 1 M) (hK0 : ¬ (s < n ∧ lo ≤ f s ∧ f s ≤ hi) → K 0 M) : CSi w h kX11_isByte [.ref 59, .int x, .int lo, .int hi] M K := by
  obtain ⟨h, rfl⟩ : ∃ k, h = k + 1 := ⟨h - 1, by omega⟩
  subst hx
  have hn := T.1
  refine csi_of (by decide) (Nat.le_of_ble_eq_true rfl) (vX11_isByte_0 (nI s) lo hi M _ ?_)
  rw [T.2.1]
  refine ⟨fun c => ⟨_, rfl, hK0 (fun z => absurd c (nI_ge z.1 (by omega)))⟩, fun c => ?_⟩
  have hsn : s < n := by
    rcases Nat.lt_or_ge s n with q | q
    · exact q
    · exact absurd (nI_le q (by omega)) c
  refine ⟨vp_in_nI (by omega) (by decide), _, rfl, ?_⟩
  rw [nI_clamp (by omega), T.2.2 s hsn]
  by_cases q : lo ≤ f s ∧ f s ≤ hi
  · rw [b2i_t q]; exact hK1 hsn q
  · rw [b2i_f q]; exact hK0 (fun z => q z.2)
theorem uX11_token (hh : 2 ≤ h) (T : TR f n M) {p : Nat} (hp : p ≤ n) (e9 : M 59 9 = nI p) (hK : ∀ M', rTok f n (skT f n p) M' → RD M M' → Kv M') : CSv w h kX11_token [.ref 59] M Kv := by
  obtain ⟨h, rfl⟩ : ∃ k, h = k + 1 := ⟨h - 1, by omega⟩
  have hn := T.1
  have hsk := skT_le (f := f) hp
  -- a number's digits
  have D : ∀ k p', p' + k = n → ∀ v, 0 ≤ v → ∀ Mx : Mem, RD M Mx → Mx 59 7 = soT f n (skT f n p) → Mx 59 8 = nI (skT f n p) → Mx 59 9 = nI p' → Mx 59 10 = v → (tyT f n (skT f n p) = 2 → sc 48 57 f n p' = enT f n (skT f n p) ∧ vl f n p' v = vl f n (skT f n p) 0) → (¬ tyT f n (skT f n p) = 2 → p' = enT f n (skT f n p)) → RM w (h + 1) kX11_token 161 [(0, .ref 59)] [] Mx (fun r M' => r = none ∧ Kv M') := by
    intro k
    induction k with
    | zero =>
      intro p' hp' v hv Mx x0 x7 x8 x9 x10 xa xb
      have Tx := T.rd x0
      refine vX11_token_161 Mx _ ⟨fun q => ⟨rfl, hK Mx ⟨hsk.2, x7, x8, ?_, fun z => ?_⟩ x0⟩, fun q => uX11_isByte (by omega) Tx (s := p') (by omega) x9 (fun z => absurd z (by omega)) (fun _ => ⟨fun _ => ⟨rfl, hK Mx ⟨hsk.2, x7, x8, ?_, fun z => ?_⟩ x0⟩, fun q => absurd rfl q⟩)⟩
      · rw [x7, so2] at q; rw [x9, xb q]
      · rw [x7, so2] at q; exact absurd z q
      · rw [x7, so2] at q; rw [x9, ← (xa q).1, sc_end (by omega)]
      · rw [x10, ← (xa z).2, vl_end (by omega)]
    | succ k ih =>
      intro p' hp' v hv Mx x0 x7 x8 x9 x10 xa xb
      have Tx := T.rd x0
      refine vX11_token_161 Mx _ ⟨fun q => ⟨rfl, hK Mx ⟨hsk.2, x7, x8, ?_, fun z => ?_⟩ x0⟩, fun q => uX11_isByte (by omega) Tx (s := p') (by omega) x9 (fun _ z => ⟨fun q => absurd q (by decide), fun _ => ?_⟩) (fun zb => ⟨fun _ => ⟨rfl, hK Mx ⟨hsk.2, x7, x8, ?_, fun z => ?_⟩ x0⟩, fun q => absurd rfl q⟩)⟩
      · rw [x7, so2] at q; rw [x9, xb q]
      · rw [x7, so2] at q; exact absurd z q
      · rw [x7, so2] at q
        have hx := xa q
        rw [x9, nI_clamp (by omega), Tx.2.2 p' (by omega), x10]
        have G : ∀ v', 0 ≤ v' → v' = (if v ≤ 999 then 10 * v + f p' - 48 else v) → ∀ Ma : Mem, Ma = mset Mx 59 10 v' → ∀ Mb : Mem, Mb = mset Ma 59 9 (Ma 59 9 + 1) → RM w (h + 1) kX11_token 161 [(0, .ref 59)] [] Mb (fun r M' => r = none ∧ Kv M') := by
          intro v' hv' ev Ma ea Mb eb
          have a9 : Ma 59 9 = nI p' := by rw [ea, mset_eq, pk_un (by decide)]; exact x9
          refine ih (p' + 1) (by omega) v' hv' Mb ?_ ?_ ?_ ?_ ?_ (fun _ => ⟨?_, ?_⟩) (fun q' => absurd q q')
          · rw [eb, ea]; exact (x0.set (by omega) (by omega)).set (by omega) (by omega)
          · rw [eb, mset_eq, pk_un (by decide), ea, mset_eq, pk_un (by decide)]; exact x7
          · rw [eb, mset_eq, pk_un (by decide), ea, mset_eq, pk_un (by decide)]; exact x8
          · rw [eb, mset_eq, pk_us, a9, nI_1]
          · rw [eb, mset_eq, pk_un (by decide), ea, mset_eq, pk_us]
          · rw [← hx.1, sc_in (p := p') (by omega) z]
          · rw [← hx.2, vl_in (p := p') (by omega) z, ev]
        refine ⟨fun c => ⟨vp_in_nI (by omega) (by decide), fun Ma ea Mb eb => G _ ?_ ?_ Ma ea Mb eb⟩, fun c Ma ea Mb eb => G v hv (by rw [if_neg c]) Ma ea Mb eb⟩
        · have := step_pos hv z.1 z.2
          rw [if_pos c] at this; exact this
        · rw [if_pos c]
      · rw [x7, so2] at q
        rw [x9, ← (xa q).1, sc_out (fun y => zb ⟨by omega, y⟩)]
      · rw [x10, ← (xa z).2, vl_out (fun y => zb ⟨by omega, y⟩)]
  -- a word's letters, from the token's start or behind a sign
  have Wd : ∀ k p', p' + k = n → ∀ Mx : Mem, RD M Mx → Mx 59 7 = soT f n (skT f n p) → Mx 59 8 = nI (skT f n p) → Mx 59 9 = nI p' → Mx 59 10 = 0 → (tyT f n (skT f n p) = 1 → sc 97 122 f n p' = enT f n (skT f n p)) → (tyT f n (skT f n p) = 2 → p' = skT f n p) → (¬ tyT f n (skT f n p) = 1 → ¬ tyT f n (skT f n p) = 2 → p' = enT f n (skT f n p)) → RM w (h + 1) kX11_token 125 [(0, .ref 59)] [] Mx (fun r M' => r = none ∧ Kv M') := by
    have fin : ∀ p', p' ≤ n → ∀ Mx : Mem, RD M Mx → Mx 59 7 = soT f n (skT f n p) → Mx 59 8 = nI (skT f n p) → Mx 59 9 = nI p' → Mx 59 10 = 0 → (tyT f n (skT f n p) = 2 → p' = skT f n p) → (¬ tyT f n (skT f n p) = 2 → p' = enT f n (skT f n p)) → RM w (h + 1) kX11_token 161 [(0, .ref 59)] [] Mx (fun r M' => r = none ∧ Kv M') := by
      intro p' hp' Mx x0 x7 x8 x9 x10 xb xc
      refine D (n - p') p' (by omega) 0 (by decide) Mx x0 x7 x8 x9 x10 (fun z => ?_) xc
      have e := xb z
      subst e
      refine ⟨?_, rfl⟩
      unfold enT; rw [if_neg (by rw [z]; decide), if_pos z]
    intro k
    induction k with
    | zero =>
      intro p' hp' Mx x0 x7 x8 x9 x10 xa xb xc
      have Tx := T.rd x0
      refine vX11_token_125 Mx _ ⟨fun q => ?_, fun q => uX11_isByte (by omega) Tx (s := p') (by omega) x9 (fun z => absurd z (by omega)) (fun _ => ⟨fun _ => ?_, fun q => absurd rfl q⟩)⟩
      · rw [x7, so1] at q
        exact fin p' (by omega) Mx x0 x7 x8 x9 x10 xb (xc q)
      · rw [x7, so1] at q
        refine fin p' (by omega) Mx x0 x7 x8 x9 x10 xb (fun _ => ?_)
        rw [← xa q, sc_end (by omega)]
    | succ k ih =>
      intro p' hp' Mx x0 x7 x8 x9 x10 xa xb xc
      have Tx := T.rd x0
      refine vX11_token_125 Mx _ ⟨fun q => ?_, fun q => uX11_isByte (by omega) Tx (s := p') (by omega) x9 (fun _ z => ⟨fun q => absurd q (by decide), fun _ Ma ea => ?_⟩) (fun z => ⟨fun _ => ?_, fun q => absurd rfl q⟩)⟩
      · rw [x7, so1] at q
        exact fin p' (by omega) Mx x0 x7 x8 x9 x10 xb (xc q)
      · rw [x7, so1] at q
        refine ih (p' + 1) (by omega) Ma ?_ ?_ ?_ ?_ ?_ (fun _ => ?_) (fun z => ?_) (fun z => absurd q z)
        · rw [ea]; exact x0.set (by omega) (by omega)
        · rw [ea, mset_eq, pk_un (by decide)]; exact x7
        · rw [ea, mset_eq, pk_un (by decide)]; exact x8
        · rw [ea, mset_eq, pk_us, x9, nI_1]
        · rw [ea, mset_eq, pk_un (by decide)]; exact x10
        · rw [← xa q, sc_in (p := p') (by omega) z]
        · rw [q] at z; exact absurd z (by decide)
      · rw [x7, so1] at q
        refine fin p' (by omega) Mx x0 x7 x8 x9 x10 xb (fun _ => ?_)
        rw [← xa q, sc_out (fun y => z ⟨by omega, y⟩)]
  -- behind the spaces: the sort is known
  have E : ∀ Mx : Mem, RD M Mx → Mx 59 8 = nI (skT f n p) → Mx 59 9 = nI (skT f n p) → Mx 59 10 = 0 → ∀ x, x = soT f n (skT f n p) → ∀ M5 : Mem, M5 = mset Mx 59 7 x → ((¬ ((M5 59 7) = 3) → RM w (h + 1) kX11_token 125 [(0, .ref 59)] [] M5 (fun r M' => r = none ∧ Kv M')) ∧ ((M5 59 7) = 3 → (∀ M6 : Mem, M6 = mset M5 59 9 ((M5 59 9) + 1) → RM w (h + 1) kX11_token 125 [(0, .ref 59)] [] M6 (fun r M' => r = none ∧ Kv M')))) := by
    intro Mx x0 x8 x9 x10 x ex M5 e5
    have y0 : RD M M5 := by rw [e5]; exact x0.set (by omega) (by omega)
    have y7 : M5 59 7 = soT f n (skT f n p) := by rw [e5, mset_eq, pk_us]; exact ex
    have y8 : M5 59 8 = nI (skT f n p) := by rw [e5, mset_eq, pk_un (by decide)]; exact x8
    have y9 : M5 59 9 = nI (skT f n p) := by rw [e5, mset_eq, pk_un (by decide)]; exact x9
    have y10 : M5 59 10 = 0 := by rw [e5, mset_eq, pk_un (by decide)]; exact x10
    refine ⟨fun c => ?_, fun c M6 e6 => ?_⟩
    · rw [y7, so3] at c
      refine Wd (n - skT f n p) (skT f n p) (by omega) M5 y0 y7 y8 y9 y10 (fun z => ?_) (fun _ => rfl) (fun z1 z2 => ?_)
      · unfold enT; rw [if_pos z]
      · have z0 : tyT f n (skT f n p) = 0 := Classical.byContradiction (fun z => c ⟨z, z1, z2⟩)
        unfold enT; rw [if_neg z1, if_neg z2, if_pos z0]
    · rw [y7, so3] at c
      have hlt := tyT_lt c.1
      refine Wd (n - (skT f n p + 1)) (skT f n p + 1) (by omega) M6 ?_ ?_ ?_ ?_ ?_ (fun z => absurd z c.2.1) (fun z => absurd z c.2.2) (fun _ _ => ?_)
      · rw [e6]; exact y0.set (by omega) (by omega)
      · rw [e6, mset_eq, pk_un (by decide)]; exact y7
      · rw [e6, mset_eq, pk_un (by decide)]; exact y8
      · rw [e6, mset_eq, pk_us, y9, nI_1]
      · rw [e6, mset_eq, pk_un (by decide)]; exact y10
      · unfold enT; rw [if_neg c.2.1, if_neg c.2.2, if_neg c.1]
  have G : ∀ Mx : Mem, RD M Mx → Mx 59 8 = nI (skT f n p) → ∀ M2 : Mem, M2 = mset Mx 59 9 (Mx 59 8) → ∀ M3 : Mem, M3 = mset M2 59 10 0 → RD M M3 ∧ M3 59 8 = nI (skT f n p) ∧ M3 59 9 = nI (skT f n p) ∧ M3 59 10 = 0 := by
    intro Mx x0 x8 M2 e2 M3 e3
    refine ⟨?_, ?_, ?_, ?_⟩
    · rw [e3, e2]; exact (x0.set (by omega) (by omega)).set (by omega) (by omega)
    · rw [e3, mset_eq, pk_un (by decide), e2, mset_eq, pk_un (by decide)]; exact x8
    · rw [e3, mset_eq, pk_un (by decide), e2, mset_eq, pk_us]; exact x8
    · rw [e3, mset_eq, pk_us]
  refine csv_of (by decide) (Nat.le_of_ble_eq_true rfl) (vX11_token_0 M _ (fun M1 f1 => ?_))
  have L : ∀ k p', p' + k = n → ∀ Mx : Mem, Mx 59 8 = nI p' → RD M Mx → sc 32 32 f n p' = skT f n p → RM w (h + 1) kX11_token 8 [(0, .ref 59)] [] Mx (fun r M' => r = none ∧ Kv M') := by
    intro k
    induction k with
    | zero =>
      intro p' hp' Mx x8 x0 x7
      have Tx := T.rd x0
      rw [sc_end (by omega)] at x7
      refine vX11_token_8 Mx _ (uX11_isByte (by omega) Tx (s := p') (by omega) x8 (fun z => absurd z (by omega)) (fun _ => ⟨fun _ M2 e2 M3 e3 => ?_, fun q => absurd rfl q⟩))
      obtain ⟨g0, g8, g9, g10⟩ := G Mx x0 (by rw [x8, x7]) M2 e2 M3 e3
      have T3 := T.rd g0
      rw [g8, T3.2.1]
      have z : n ≤ skT f n p := by omega
      have t0 : tyT f n (skT f n p) = 0 := (tyT_0 hsk.2).mpr (by omega)
      refine ⟨fun q => absurd (by rw [show skT f n p = n by omega]) q, fun _ M4 e4 => E M3 g0 g8 g9 g10 0 (so0.mpr t0).symm M4 e4⟩
    | succ k ih =>
      intro p' hp' Mx x8 x0 x7
      have Tx := T.rd x0
      refine vX11_token_8 Mx _ (uX11_isByte (by omega) Tx (s := p') (by omega) x8 (fun _ z => ⟨fun q => absurd q (by decide), fun _ Ma ea => ?_⟩) (fun z => ⟨fun _ M2 e2 M3 e3 => ?_, fun q => absurd rfl q⟩))
      · refine ih (p' + 1) (by omega) Ma ?_ ?_ ?_
        · rw [ea, mset_eq, pk_us, x8, nI_1]
        · rw [ea]; exact x0.set (by omega) (by omega)
        · rw [← x7, sc_in (p := p') (by omega) z]
      · rw [sc_out (fun y => z ⟨by omega, y⟩)] at x7
        obtain ⟨g0, g8, g9, g10⟩ := G Mx x0 (by rw [x8, x7]) M2 e2 M3 e3
        have T3 := T.rd g0
        have hlt : skT f n p < n := by omega
        have t0 : ¬ tyT f n (skT f n p) = 0 := fun z => absurd ((tyT_0 hsk.2).mp z) (by omega)
        refine ⟨fun q => ?_, fun q => ?_⟩
        · refine uX11_isByte (by omega) T3 hsk.2 g8 (fun _ y => ⟨fun q => absurd q (by decide), fun _ M5 e5 => E M3 g0 g8 g9 g10 1 (so1.mpr ((ty1 hlt).mpr y)).symm M5 e5⟩) (fun y1 => ⟨fun _ => ?_, fun q => absurd rfl q⟩)
          have t1 : ¬ tyT f n (skT f n p) = 1 := fun y => y1 ⟨hlt, (ty1 hlt).mp y⟩
          refine uX11_isByte (by omega) T3 hsk.2 g8 (fun _ y M6 e6 => E M3 g0 g8 g9 g10 _ ?_ M6 e6) (fun y M6 e6 => E M3 g0 g8 g9 g10 _ ?_ M6 e6)
          · rw [if_neg (by decide)]; exact (so2.mpr ((ty2 hlt).mpr y)).symm
          · rw [if_pos rfl]; exact (so3.mpr ⟨t0, t1, fun y2 => y ⟨hlt, (ty2 hlt).mp y2⟩⟩).symm
        · rw [g8, T3.2.1] at q
          exact absurd ((nI_eq (by omega) (by omega)).mp q) (by omega)
  refine L (n - p) p (by omega) M1 ?_ ?_ rfl
  · rw [f1, mset_eq, pk_us]; exact e9
  · rw [f1]; exact RD.refl.set (by omega) (by omega)
theorem uX11_isWord (hh : 5 ≤ h) (T : TR f n M) {s i : Nat} (hi : i < 28) (b0 : M 59 11 = 0) (R : rTok f n s M) (hK1 : tyT f n s = 1 → isWd f s (enT f n s) i → K 1 M) (hK0 : ¬ (tyT f n s = 1 ∧ isWd f s (enT f n s) i) → K 0 M) : CSi w h kX11_isWord [.ref 59, .ref (1000 + (4 + i))] M K := by
  obtain ⟨h, rfl⟩ : ∃ k, h = k + 1 := ⟨h - 1, by omega⟩
  have hn := T.1
  have S := strB_sm i hi
  obtain ⟨hs, r7, r8, r9, -⟩ := R
  have he := enT_le (f := f) hs
  refine csi_of (by decide) (Nat.le_of_ble_eq_true rfl) (vX11_isWord_0 i hi M _ ⟨fun q => absurd b0 q, fun _ => ⟨fun q => ?_, fun q => uJ0_length (by omega) hi (fun x1 e1 => ?_)⟩⟩)
  · rw [r7, so1] at q
    exact vX11_isWord_39 i _ _ hi M _ ⟨fun _ => ⟨Or.inl rfl, _, rfl, hK0 (fun z => q z.1)⟩, fun q => absurd rfl q⟩
  · rw [r7, so1] at q
    rw [r8, r9, pk_sub he.1] at e1
    by_cases hl : enT f n s - s = (strB i).length
    · rw [b2i_t (by rw [hl])] at e1
      subst e1
      have L : ∀ k, k ≤ (strB i).length → (∀ j, j < k → f (s + j) = (strB i).getD j 0) → RM w (h + 1) kX11_isWord 39 [(0, .ref 59), (1, .ref (1000 + (4 + i))), (2, .int 1), (3, .int (nI k))] [] M (fun r M' => ∃ x, r = some (.int x) ∧ K x M') := by
        refine up_ind (fun hj => ?_) (fun k hk ih hj => ?_)
        · exact vX11_isWord_39 i _ _ hi M _ ⟨fun q => absurd q (by decide), fun _ => uJ0_length (by omega) hi ⟨fun _ => ⟨Or.inr rfl, _, rfl, hK1 q ⟨hl, hj⟩⟩, fun q => absurd (nI_le (Nat.le_refl _) (by omega)) q⟩⟩
        · refine vX11_isWord_39 i _ _ hi M _ ⟨fun q => absurd q (by decide), fun _ => uJ0_length (by omega) hi ⟨fun q => absurd q (nI_ge hk (by omega)), fun _ => ?_⟩⟩
          rw [r8, nI_add]
          refine ⟨vp_in_nI (by omega) (by decide), uJ0_charAt (by omega) hi hk (fun x1 e1 x2 e2 => ?_)⟩
          rw [nI_clamp (by omega), T.2.2 (s + k) (by omega)] at e1
          rw [e2, nI_1]
          by_cases c : f (s + k) = (strB i).getD k 0
          · rw [b2i_t c] at e1
            rw [e1]
            refine ih (fun j hj' => ?_)
            by_cases hjk : j = k
            · subst hjk; exact c
            · exact hj j (by omega)
          · rw [b2i_f c] at e1
            rw [e1]
            exact vX11_isWord_39 i _ _ hi M _ ⟨fun _ => ⟨Or.inl rfl, _, rfl, hK0 (fun z => c (z.2.2 k hk))⟩, fun q => absurd rfl q⟩
      exact L 0 (Nat.zero_le _) (fun j hj => absurd hj (by omega))
    · rw [b2i_f (fun z => hl ((nI_eq (by omega) (by omega)).mp z))] at e1
      rw [e1]
      exact vX11_isWord_39 i _ _ hi M _ ⟨fun _ => ⟨Or.inl rfl, _, rfl, hK0 (fun z => hl z.2.1)⟩, fun q => absurd rfl q⟩
theorem ty3 {s : Nat} (h : s < n) : tyT f n s = 3 ↔ f s = 59 := by
  unfold tyT
  rw [if_neg (by omega)]
  constructor
  · intro q
    split at q
    · exact absurd q (by decide)
    · split at q
      · exact absurd q (by decide)
      · split at q
        · assumption
        · split at q <;> exact absurd q (by decide)
  · intro q; rw [q]; decide
theorem ty4 {s : Nat} (h : s < n) : tyT f n s = 4 ↔ f s = 45 := by
  unfold tyT
  rw [if_neg (by omega)]
  constructor
  · intro q
    split at q
    · exact absurd q (by decide)
    · split at q
      · exact absurd q (by decide)
      · split at q
        · exact absurd q (by decide)
        · split at q
          · assumption
          · exact absurd q (by decide)
  · intro q; rw [q]; decide
/-- a sign c, of type t -/
theorem uX11_isSign (T : TR f n M) {s : Nat} {c t : Int32} (hc : (c = 59 ∧ t = 3) ∨ (c = 45 ∧ t = 4)) (b0 : M 59 11 = 0) (R : rTok f n s M) (hK1 : tyT f n s = t → K 1 M) (hK0 : ¬ tyT f n s = t → K 0 M) : CSi w h kX11_isSign [.ref 59, .int c] M K := by
  have hn := T.1
  obtain ⟨hs, r7, r8, r9, -⟩ := R
  have ht : t ≠ 0 ∧ t ≠ 1 ∧ t ≠ 2 := by rcases hc with ⟨-, rfl⟩ | ⟨-, rfl⟩ <;> decide
  have hty : s < n → (tyT f n s = t ↔ f s = c) := by
    intro hlt
    rcases hc with ⟨rfl, rfl⟩ | ⟨rfl, rfl⟩
    · exact ty3 hlt
    · exact ty4 hlt
  refine csi_of (by decide) (Nat.le_of_ble_eq_true rfl) (vX11_isSign_0 c M _ ⟨fun q => absurd b0 q, fun _ => ⟨fun q => ⟨_, rfl, hK0 (fun z => ?_)⟩, fun q => ?_⟩⟩)
  · rw [r7, so3] at q
    exact q ⟨by rw [z]; exact ht.1, by rw [z]; exact ht.2.1, by rw [z]; exact ht.2.2⟩
  · rw [r7, so3] at q
    have hlt := tyT_lt q.1
    rw [r8, nI_clamp (by omega), T.2.2 s hlt]
    refine ⟨vp_in_nI (by omega) (by decide), _, rfl, ?_⟩
    by_cases z : f s = c
    · rw [b2i_t z]; exact hK1 ((hty hlt).mpr z)
    · rw [b2i_f z]; exact hK0 (fun y => z ((hty hlt).mp y))
theorem uX11_isSign_bad {c : Int32} (b0 : ¬ M 59 11 = 0) (hK0 : K 0 M) : CSi w h kX11_isSign [.ref 59, .int c] M K :=
  csi_of (by decide) (Nat.le_of_ble_eq_true rfl) (vX11_isSign_0 c M _ ⟨fun _ => ⟨_, rfl, hK0⟩, fun q => absurd q b0⟩)
/-- the number's token is read, or it is bad -/
def nOk (f : Nat → Int32) (n s : Nat) (lo hi : Int32) : Prop := tyT f n s = 2 ∧ lo ≤ vl f n s 0 ∧ vl f n s 0 ≤ hi
theorem uX11_number (hh : 3 ≤ h) (T : TR f n M) {s : Nat} {lo hi : Int32} (b0 : M 59 11 = 0) (R : rTok f n s M) (hK1 : nOk f n s lo hi → ∀ M', rTok f n (tkN f n s) M' → RD M M' → K (vl f n s 0) M') (hK0 : ¬ nOk f n s lo hi → ∀ x, K x (mset M 59 11 1)) : CSi w h kX11_number [.ref 59, .int lo, .int hi] M K := by
  obtain ⟨h, rfl⟩ : ∃ k, h = k + 1 := ⟨h - 1, by omega⟩
  have hn := T.1
  have R' := R
  obtain ⟨hs, r7, r8, r9, r10⟩ := R
  have he := enT_le (f := f) hs
  have one : ∀ x : Int32, mset M 59 11 x 59 11 = x := fun x => by rw [mset_eq, pk_us]
  refine csi_of (by decide) (Nat.le_of_ble_eq_true rfl) (vX11_number_0 lo hi M _ ⟨fun q => absurd b0 q, fun _ => ⟨fun q M1 e1 x1 ex => ?_, fun q M1 e1 x1 ex => ?_⟩⟩)
  · rw [r7, so2] at q
    subst e1
    refine ⟨fun _ => ⟨_, rfl, hK0 (fun z => q z.1) x1⟩, fun z => ?_⟩
    rw [one] at z; exact absurd z (by decide)
  · rw [r7, so2] at q
    rw [r10 q] at e1
    by_cases c : lo ≤ vl f n s 0 ∧ vl f n s 0 ≤ hi
    · rw [b2i_f (fun z => z c)] at e1
      have e1' : M1 = M := by
        rw [e1]
        funext a
        by_cases ha : a = 59
        · subst ha
          rw [mset_eq]
          funext j
          by_cases hj : j = 11
          · subst hj; rw [pk_us, b0]
          · rw [pk_un hj]
        · rw [mset_ne ha]
      rw [e1'] at ex ⊢
      rw [r10 q] at ex
      refine ⟨fun z => absurd b0 z, fun _ => uX11_token (by omega) T he.2 r9 (fun M' a b => ⟨_, rfl, ?_⟩)⟩
      rw [ex]; exact hK1 ⟨q, c⟩ M' a b
    · rw [b2i_t c] at e1
      subst e1
      refine ⟨fun _ => ⟨_, rfl, hK0 (fun z => c z.2) x1⟩, fun z => ?_⟩
      rw [one] at z; exact absurd z (by decide)
/-- the reference's number of a deed -/
def rD (d : Nat) : Int32 := if d = 10 then 11 else if d = 11 then 10 else nI d
theorem uX11_deedHere (hh : 6 ≤ h) (T : TR f n M) {s : Nat} (b0 : M 59 11 = 0) (R : rTok f n s M) (hK1 : tyT f n s = 1 → ∀ d, d < 13 → isWd f s (enT f n s) d → K (rD d) M) (hK0 : ¬ (tyT f n s = 1 ∧ ∃ d, d < 13 ∧ isWd f s (enT f n s) d) → K (-1) M) : CSi w h kX11_deedHere [.ref 59] M K := by
  obtain ⟨h, rfl⟩ : ∃ k, h = k + 1 := ⟨h - 1, by omega⟩
  have hh' : 5 ≤ h := by omega
  have yes : ∀ d i : Nat, d < 13 → strB i = strB d → ∀ x : Int32, x = rD d → tyT f n s = 1 → isWd f s (enT f n s) i → K x M := fun d i hd hb x hx ht hw => by rw [hx]; exact hK1 ht d hd (by unfold isWd at hw ⊢; rw [hb] at hw; exact hw)
  have no : ∀ d i : Nat, strB i = strB d → ¬ (tyT f n s = 1 ∧ isWd f s (enT f n s) i) → ¬ (tyT f n s = 1 ∧ isWd f s (enT f n s) d) := fun d i hb z y => z ⟨y.1, by unfold isWd; rw [hb]; exact y.2⟩
  refine csi_of (by decide) (Nat.le_of_ble_eq_true rfl) (vX11_deedHere_0 M _ ?_)
  refine uX11_isWord hh' T (by decide) b0 R (fun t z => ⟨fun q => absurd q (by decide), fun _ => ⟨_, rfl, yes 0 14 (by decide) rfl _ rfl t z⟩⟩) (fun z0 => ⟨fun _ => ?_, fun q => absurd rfl q⟩)
  refine uX11_isWord hh' T (by decide) b0 R (fun t z => ⟨fun q => absurd q (by decide), fun _ => ⟨_, rfl, yes 1 15 (by decide) rfl _ rfl t z⟩⟩) (fun z1 => ⟨fun _ => ?_, fun q => absurd rfl q⟩)
  refine uX11_isWord hh' T (by decide) b0 R (fun t z => ⟨fun q => absurd q (by decide), fun _ => ⟨_, rfl, yes 2 16 (by decide) rfl _ rfl t z⟩⟩) (fun z2 => ⟨fun _ => ?_, fun q => absurd rfl q⟩)
  refine uX11_isWord hh' T (by decide) b0 R (fun t z => ⟨fun q => absurd q (by decide), fun _ => ⟨_, rfl, yes 3 17 (by decide) rfl _ rfl t z⟩⟩) (fun z3 => ⟨fun _ => ?_, fun q => absurd rfl q⟩)
  refine uX11_isWord hh' T (by decide) b0 R (fun t z => ⟨fun q => absurd q (by decide), fun _ => ⟨_, rfl, yes 4 18 (by decide) rfl _ rfl t z⟩⟩) (fun z4 => ⟨fun _ => ?_, fun q => absurd rfl q⟩)
  refine uX11_isWord hh' T (by decide) b0 R (fun t z => ⟨fun q => absurd q (by decide), fun _ => ⟨_, rfl, yes 5 19 (by decide) rfl _ rfl t z⟩⟩) (fun z5 => ⟨fun _ => ?_, fun q => absurd rfl q⟩)
  refine uX11_isWord hh' T (by decide) b0 R (fun t z => ⟨fun q => absurd q (by decide), fun _ => ⟨_, rfl, yes 6 20 (by decide) rfl _ rfl t z⟩⟩) (fun z6 => ⟨fun _ => ?_, fun q => absurd rfl q⟩)
  refine uX11_isWord hh' T (by decide) b0 R (fun t z => ⟨fun q => absurd q (by decide), fun _ => ⟨_, rfl, yes 7 21 (by decide) rfl _ rfl t z⟩⟩) (fun z7 => ⟨fun _ => ?_, fun q => absurd rfl q⟩)
  refine uX11_isWord hh' T (by decide) b0 R (fun t z => ⟨fun q => absurd q (by decide), fun _ => ⟨_, rfl, yes 8 22 (by decide) rfl _ rfl t z⟩⟩) (fun z8 => ⟨fun _ => ?_, fun q => absurd rfl q⟩)
  refine uX11_isWord hh' T (by decide) b0 R (fun t z => ⟨fun q => absurd q (by decide), fun _ => ⟨_, rfl, yes 9 23 (by decide) rfl _ rfl t z⟩⟩) (fun z9 => ⟨fun _ => ?_, fun q => absurd rfl q⟩)
  refine uX11_isWord hh' T (by decide) b0 R (fun t z => ⟨fun q => absurd q (by decide), fun _ => ⟨_, rfl, yes 11 24 (by decide) rfl _ rfl t z⟩⟩) (fun z11 => ⟨fun _ => ?_, fun q => absurd rfl q⟩)
  refine uX11_isWord hh' T (by decide) b0 R (fun t z => ⟨fun q => absurd q (by decide), fun _ => ⟨_, rfl, yes 10 25 (by decide) rfl _ rfl t z⟩⟩) (fun z10 => ⟨fun _ => ?_, fun q => absurd rfl q⟩)
  refine uX11_isWord hh' T (by decide) b0 R (fun t z => ⟨_, rfl, yes 12 26 (by decide) rfl _ rfl t z⟩) (fun z12 => ⟨_, rfl, ?_⟩)
  rw [if_pos rfl]
  refine hK0 (fun y => ?_)
  obtain ⟨t, d, hd, hw⟩ := y
  have : d = 0 ∨ d = 1 ∨ d = 2 ∨ d = 3 ∨ d = 4 ∨ d = 5 ∨ d = 6 ∨ d = 7 ∨ d = 8 ∨ d = 9 ∨ d = 10 ∨ d = 11 ∨ d = 12 := by omega
  rcases this with rfl | rfl | rfl | rfl | rfl | rfl | rfl | rfl | rfl | rfl | rfl | rfl | rfl
  · exact no 0 14 rfl z0 ⟨t, hw⟩
  · exact no 1 15 rfl z1 ⟨t, hw⟩
  · exact no 2 16 rfl z2 ⟨t, hw⟩
  · exact no 3 17 rfl z3 ⟨t, hw⟩
  · exact no 4 18 rfl z4 ⟨t, hw⟩
  · exact no 5 19 rfl z5 ⟨t, hw⟩
  · exact no 6 20 rfl z6 ⟨t, hw⟩
  · exact no 7 21 rfl z7 ⟨t, hw⟩
  · exact no 8 22 rfl z8 ⟨t, hw⟩
  · exact no 9 23 rfl z9 ⟨t, hw⟩
  · exact no 10 25 rfl z10 ⟨t, hw⟩
  · exact no 11 24 rfl z11 ⟨t, hw⟩
  · exact no 12 26 rfl z12 ⟨t, hw⟩
end TX2

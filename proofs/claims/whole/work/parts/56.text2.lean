/-! ===== the class's reader: tokens, words, numbers ===== -/
section TX1
variable {w : Wd} {h : Nat} {M : Mem} {K : Int32 → Mem → Prop} {Kv : Mem → Prop} {f : Nat → Int32} {n : Nat}
theorem uX4_typeAt (hh : 1 ≤ h) (T : TC f n M) {s : Nat} (hs : s ≤ n) {x : Int32} (hx : x = nI s) (hK : K (tyT f n s) M) : CSi w h kX4_typeAt [.ref 39, .int x] M K := by
  obtain ⟨h, rfl⟩ : ∃ k, h = k + 1 := ⟨h - 1, by omega⟩
  subst hx
  have hn := T.1
  refine csi_of (by decide) (Nat.le_of_ble_eq_true rfl) (vX4_typeAt_0 (nI s) M _ ?_)
  rw [T.2.1, nI_clamp (by omega)]
  unfold tyT at hK
  refine ⟨fun c => ?_, fun c => ⟨_, rfl, ?_⟩⟩
  · have hsn : s < n := (nI_ltI (by omega) (by omega)).mp c
    rw [if_neg (by omega)] at hK
    refine ⟨vp_in_nI (by omega) (by decide), fun x1 e1 => ?_⟩
    rw [T.2.2 s hsn] at e1
    subst e1
    refine ⟨fun c1 => ⟨fun c2 => ⟨fun c3 => ⟨_, rfl, ?_⟩, fun c3 => ⟨_, rfl, ?_⟩⟩, fun c2 => ⟨_, rfl, ?_⟩⟩, fun c1 => ⟨_, rfl, ?_⟩⟩
    · rw [if_neg c1, if_neg c2, if_neg c3] at hK; exact hK
    · rw [if_neg c1, if_neg c2, if_pos c3] at hK; exact hK
    · rw [if_neg c1, if_pos c2] at hK; exact hK
    · rw [if_pos c1] at hK; exact hK
  · rw [if_pos (by have := (not_congr (nI_ltI (a := s) (b := n) (by omega) (by omega))).mp c; omega)] at hK
    exact hK
theorem ty1 {s : Nat} (h : s < n) : tyT f n s = 1 ↔ ((97 : Int32) ≤ f s ∧ f s ≤ 122) := by
  unfold tyT
  rw [if_neg (by omega)]
  constructor
  · intro q
    split at q
    · assumption
    · split at q
      · exact absurd q (by decide)
      · split at q
        · exact absurd q (by decide)
        · split at q <;> exact absurd q (by decide)
  · intro q; rw [if_pos q]
theorem g_d1 {x : Int32} (h : (48 : Int32) ≤ x ∧ x ≤ 57) : ¬ ((97 : Int32) ≤ x ∧ x ≤ 122) := by grind
theorem ty2 {s : Nat} (h : s < n) : tyT f n s = 2 ↔ ((48 : Int32) ≤ f s ∧ f s ≤ 57) := by
  unfold tyT
  rw [if_neg (by omega)]
  constructor
  · intro q
    split at q
    · exact absurd q (by decide)
    · split at q
      · assumption
      · split at q
        · exact absurd q (by decide)
        · split at q <;> exact absurd q (by decide)
  · intro q; rw [if_neg (g_d1 q), if_pos q]
theorem uX4_readNumber (hh : 2 ≤ h) (T : TC f n M) {s : Nat} (hs : s ≤ n) (e3 : M 39 3 = nI s) (hK : ∀ M', M' 39 3 = nI (sc 48 57 f n s) → M' 39 4 = cap (vl f n s 0) → (∀ j, j ≠ 3 → j ≠ 4 → M' 39 j = M 39 j) → (∀ q, q ≠ 39 → M' q = M q) → Kv M') : CSv w h kX4_readNumber [.ref 39] M Kv := by
  obtain ⟨h, rfl⟩ : ∃ k, h = k + 1 := ⟨h - 1, by omega⟩
  have hn := T.1
  refine csv_of (by decide) (Nat.le_of_ble_eq_true rfl) (vX4_readNumber_0 M _ (fun M1 f1 => ?_))
  have L : ∀ k p, p + k = n → ∀ v, 0 ≤ v → ∀ Mx : Mem, Mx 39 3 = nI p → Mx 39 4 = cap v → (∀ j, j ≠ 3 → j ≠ 4 → Mx 39 j = M 39 j) → (∀ q, q ≠ 39 → Mx q = M q) → sc 48 57 f n p = sc 48 57 f n s → vl f n p v = vl f n s 0 → RM w (h + 1) kX4_readNumber 5 [(0, .ref 39)] [] Mx (fun r M' => r = none ∧ Kv M') := by
    intro k
    induction k with
    | zero =>
      intro p hp v hv Mx x3 x4 x5 x6 x7 x8
      have Tx := T.same x6
      refine vX4_readNumber_5 Mx _ ⟨fun _ => ⟨rfl, hK Mx ?_ ?_ x5 x6⟩, fun q => absurd ?_ q⟩
      · rw [x3, ← x7, sc_end (by omega)]
      · rw [x4, ← x8, vl_end (by omega)]
      · rw [Tx.2.1, x3]; exact nI_le (by omega) (by omega)
    | succ k ih =>
      intro p hp v hv Mx x3 x4 x5 x6 x7 x8
      have Tx := T.same x6
      refine vX4_readNumber_5 Mx _ ⟨fun q => ?_, fun _ => uX4_typeAt (by omega) Tx (s := p) (by omega) x3 ⟨fun q => ⟨rfl, hK Mx ?_ ?_ x5 x6⟩, fun q => ?_⟩⟩
      · rw [Tx.2.1, x3] at q; exact absurd q (nI_ge (by omega) (by omega))
      · rw [ty2 (by omega)] at q
        rw [x3, ← x7, sc_out q]
      · rw [ty2 (by omega)] at q
        rw [x4, ← x8, vl_out q]
      · rw [ty2 (by omega)] at q
        rw [x3, nI_clamp (by omega), Tx.2.2 p (by omega), x4]
        refine ⟨vp_in_nI (by omega) (by decide), fun Ma ea Mb eb => ?_⟩
        rw [cap_step hv q.1 q.2] at ea
        have ea3 : Ma 39 3 = nI p := by rw [ea, mset_eq, pk_un (by decide), x3]
        refine ih (p + 1) (by omega) _ (step_pos hv q.1 q.2) Mb ?_ ?_ (fun j a b => ?_) (fun q a => ?_) ?_ ?_
        · rw [eb, mset_eq, pk_us, ea3, nI_1]
        · rw [eb, mset_eq, pk_un (by decide), ea, mset_eq, pk_us]
        · rw [eb, mset_eq, pk_un a, ea, mset_eq, pk_un b]; exact x5 j a b
        · rw [eb, mset_ne a, ea, mset_ne a]; exact x6 q a
        · rw [← x7, sc_in (p := p) (by omega) q]
        · rw [← x8, vl_in (p := p) (by omega) q]
  refine L (n - s) s (by omega) 0 (by decide) M1 ?_ ?_ (fun j a b => ?_) (fun q a => ?_) rfl rfl
  · rw [f1, mset_eq, pk_un (by decide)]; exact e3
  · rw [f1, mset_eq, pk_us]; rfl
  · rw [f1, mset_eq, pk_un b]
  · rw [f1, mset_ne a]
theorem uX4_readToken (hh : 3 ≤ h) (T : TC f n M) {p : Nat} (hp : p ≤ n) (e3 : M 39 3 = nI p) (hK : ∀ M', cTok f n (skT f n p) M' → (∀ q, q ≠ 39 → M' q = M q) → Kv M') : CSv w h kX4_readToken [.ref 39] M Kv := by
  obtain ⟨h, rfl⟩ : ∃ k, h = k + 1 := ⟨h - 1, by omega⟩
  have hn := T.1
  have hsk := skT_le (f := f) hp
  -- behind the spaces
  have W : ∀ k p', p' + k = n → ∀ Mx : Mem, Mx 39 3 = nI p' → Mx 39 1 = 1 → Mx 39 2 = nI (skT f n p) → tyT f n (skT f n p) = 1 → sc 97 122 f n p' = enT f n (skT f n p) → (∀ q, q ≠ 39 → Mx q = M q) → RM w (h + 1) kX4_readToken 80 [(0, .ref 39)] [] Mx (fun r M' => r = none ∧ Kv M') := by
    intro k
    induction k with
    | zero =>
      intro p' hp' Mx x3 x1 x2 xt xe x6
      have Tx := T.same x6
      refine vX4_readToken_80 Mx _ ⟨fun _ => ⟨rfl, hK Mx ⟨hsk.2, ?_, x2, ?_, fun q => ?_⟩ x6⟩, fun q => absurd ?_ q⟩
      · rw [x1, xt]
      · rw [x3, ← xe, sc_end (by omega)]
      · rw [xt] at q; exact absurd q (by decide)
      · rw [Tx.2.1, x3]; exact nI_le (by omega) (by omega)
    | succ k ih =>
      intro p' hp' Mx x3 x1 x2 xt xe x6
      have Tx := T.same x6
      refine vX4_readToken_80 Mx _ ⟨fun q => ?_, fun _ => uX4_typeAt (by omega) Tx (s := p') (by omega) x3 ⟨fun q => ⟨rfl, hK Mx ⟨hsk.2, ?_, x2, ?_, fun q => ?_⟩ x6⟩, fun q Ma ea => ?_⟩⟩
      · rw [Tx.2.1, x3] at q; exact absurd q (nI_ge (by omega) (by omega))
      · rw [x1, xt]
      · rw [ty1 (by omega)] at q
        rw [x3, ← xe, sc_out q]
      · rw [xt] at q; exact absurd q (by decide)
      · rw [ty1 (by omega)] at q
        refine ih (p' + 1) (by omega) Ma ?_ ?_ ?_ xt ?_ (fun q a => ?_)
        · rw [ea, mset_eq, pk_us, x3, nI_1]
        · rw [ea, mset_eq, pk_un (by decide)]; exact x1
        · rw [ea, mset_eq, pk_un (by decide)]; exact x2
        · rw [← xe, sc_in (p := p') (by omega) q]
        · rw [ea, mset_ne a]; exact x6 q a
  have E : ∀ Mx : Mem, Mx 39 2 = nI (skT f n p) → (∀ q, q ≠ 39 → Mx q = M q) → (∀ M1 : Mem, M1 = mset Mx 39 3 (Mx 39 2) → (CSi w h kX4_typeAt [.ref 39, .int (M1 39 2)] M1 (fun r1 M2 => (∀ M3 : Mem, M3 = mset M2 39 1 r1 → ((¬ ((M3 39 1) = 1) → ((¬ ((M3 39 1) = 2) → (((M3 39 1) = 0 → ((none : Option Value) = none ∧ Kv M3)) ∧ (¬ ((M3 39 1) = 0) → (∀ M4 : Mem, M4 = mset M3 39 3 ((M3 39 3) + 1) → ((none : Option Value) = none ∧ Kv M4))))) ∧ ((M3 39 1) = 2 → (CSv w h kX4_readNumber [.ref 39] M3 (fun M4 => ((none : Option Value) = none ∧ Kv M4)))))) ∧ ((M3 39 1) = 1 → RM w (h + 1) kX4_readToken 80 [(0, .ref 39)] [] M3 (fun r M' => r = none ∧ Kv M'))))))) := by
    intro Mx x2 x6 M1 e1
    have m2 : M1 39 2 = nI (skT f n p) := by rw [e1, mset_eq, pk_un (by decide)]; exact x2
    have m3 : M1 39 3 = nI (skT f n p) := by rw [e1, mset_eq, pk_us]; exact x2
    have m6 : ∀ q, q ≠ 39 → M1 q = M q := fun q a => by rw [e1, mset_ne a]; exact x6 q a
    refine uX4_typeAt (by omega) (T.same m6) hsk.2 m2 (fun M3 e4 => ?_)
    have k1 : M3 39 1 = tyT f n (skT f n p) := by rw [e4, mset_eq, pk_us]
    have k2 : M3 39 2 = nI (skT f n p) := by rw [e4, mset_eq, pk_un (by decide)]; exact m2
    have k3 : M3 39 3 = nI (skT f n p) := by rw [e4, mset_eq, pk_un (by decide)]; exact m3
    have k6 : ∀ q, q ≠ 39 → M3 q = M q := fun q a => by rw [e4, mset_ne a]; exact m6 q a
    rw [k1]
    refine ⟨fun c1 => ⟨fun c2 => ⟨fun c0 => ⟨rfl, hK M3 ⟨hsk.2, k1, k2, ?_, fun q => absurd q c2⟩ k6⟩, fun c0 M4 e5 => ⟨rfl, hK M4 ⟨hsk.2, ?_, ?_, ?_, fun q => absurd q c2⟩ (fun q a => ?_)⟩⟩, fun c2 => ?_⟩, fun c1 => ?_⟩
    · rw [k3]; unfold enT; rw [if_neg c1, if_neg c2, if_pos c0]
    · rw [e5, mset_eq, pk_un (by decide)]; exact k1
    · rw [e5, mset_eq, pk_un (by decide)]; exact k2
    · rw [e5, mset_eq, pk_us, k3, nI_1]; unfold enT; rw [if_neg c1, if_neg c2, if_neg c0]
    · rw [e5, mset_ne a]; exact k6 q a
    · refine uX4_readNumber (by omega) (T.same k6) hsk.2 k3 (fun M4 a3 a4 a5 a6 => ⟨rfl, hK M4 ⟨hsk.2, ?_, ?_, ?_, fun _ => a4⟩ (fun q a => ?_)⟩)
      · rw [a5 1 (by decide) (by decide)]; exact k1
      · rw [a5 2 (by decide) (by decide)]; exact k2
      · rw [a3]; unfold enT; rw [if_neg c1, if_pos c2]
      · rw [a6 q a]; exact k6 q a
    · refine W (n - skT f n p) (skT f n p) (by omega) M3 k3 ?_ k2 c1 ?_ k6
      · rw [k1]; exact c1
      · unfold enT; rw [if_pos c1]
  refine csv_of (by decide) (Nat.le_of_ble_eq_true rfl) (vX4_readToken_0 M _ (fun M1 f1 => ?_))
  have L : ∀ k p', p' + k = n → ∀ Mx : Mem, Mx 39 2 = nI p' → (∀ q, q ≠ 39 → Mx q = M q) → sc 32 32 f n p' = skT f n p → RM w (h + 1) kX4_readToken 8 [(0, .ref 39)] [] Mx (fun r M' => r = none ∧ Kv M') := by
    intro k
    induction k with
    | zero =>
      intro p' hp' Mx x2 x6 x7
      have Tx := T.same x6
      rw [sc_end (by omega)] at x7
      refine vX4_readToken_8 Mx _ ⟨fun _ => E Mx (by rw [x2, x7]) x6, fun q => absurd ?_ q⟩
      rw [Tx.2.1, x2]; exact nI_le (by omega) (by omega)
    | succ k ih =>
      intro p' hp' Mx x2 x6 x7
      have Tx := T.same x6
      refine vX4_readToken_8 Mx _ ⟨fun q => ?_, fun _ => ⟨?_, fun c => ?_, fun c Ma ea => ?_⟩⟩
      · rw [Tx.2.1, x2] at q; exact absurd q (nI_ge (by omega) (by omega))
      · rw [x2]; exact vp_in_nI (by omega) (by decide)
      · rw [x2, nI_clamp (by omega), Tx.2.2 p' (by omega)] at c
        rw [sc_out (fun z => c (by grind))] at x7
        exact E Mx (by rw [x2, x7]) x6
      · rw [x2, nI_clamp (by omega), Tx.2.2 p' (by omega)] at c
        refine ih (p' + 1) (by omega) Ma ?_ (fun q a => ?_) ?_
        · rw [ea, mset_eq, pk_us, x2, nI_1]
        · rw [ea, mset_ne a]; exact x6 q a
        · rw [← x7, sc_in (p := p') (by omega) (by rw [c]; decide)]
  refine L (n - p) p (by omega) M1 ?_ (fun q a => ?_) rfl
  · rw [f1, mset_eq, pk_us]; exact e3
  · rw [f1, mset_ne a]
theorem uX4_isToken (hh : 5 ≤ h) (T : TC f n M) {s e i : Nat} (hi : i < 28) (he : e ≤ n) (hse : s ≤ e) (e2 : M 39 2 = nI s) (e3 : M 39 3 = nI e) (hK1 : isWd f s e i → K 1 M) (hK0 : ¬ isWd f s e i → K 0 M) : CSi w h kX4_isToken [.ref 39, .ref (1000 + (4 + i))] M K := by
  obtain ⟨h, rfl⟩ : ∃ k, h = k + 1 := ⟨h - 1, by omega⟩
  have hn := T.1
  have S := strB_sm i hi
  refine csi_of (by decide) (Nat.le_of_ble_eq_true rfl) (vX4_isToken_0 i hi M _ (uJ0_length (by omega) hi ?_))
  rw [e2, e3, pk_sub hse]
  refine ⟨fun c => ?_, fun c => ⟨_, rfl, hK0 (fun z => c (by rw [z.1]))⟩⟩
  have hl : e - s = (strB i).length := (nI_eq (by omega) (by omega)).mp c
  have L : ∀ k, k ≤ (strB i).length → (∀ j, j < k → f (s + j) = (strB i).getD j 0) → RM w (h + 1) kX4_isToken 20 [(0, .ref 39), (1, .ref (1000 + (4 + i))), (2, .int (nI k))] [] M (fun r M' => ∃ x, r = some (.int x) ∧ K x M') := by
    refine up_ind (fun hj => ?_) (fun k hk ih hj => ?_)
    · exact vX4_isToken_20 i _ hi M _ (uJ0_length (by omega) hi ⟨fun _ => ⟨_, rfl, hK1 ⟨hl, hj⟩⟩, fun q => absurd (nI_le (Nat.le_refl _) (by omega)) q⟩)
    · refine vX4_isToken_20 i _ hi M _ (uJ0_length (by omega) hi ⟨fun q => absurd q (nI_ge hk (by omega)), fun _ => ?_⟩)
      rw [e2, nI_add]
      refine ⟨vp_in_nI (by omega) (by decide), uJ0_charAt (by omega) hi hk ?_⟩
      rw [nI_clamp (by omega), T.2.2 (s + k) (by omega)]
      refine ⟨fun c x1 e1 => ?_, fun c => ⟨_, rfl, hK0 (fun z => c (z.2 k hk))⟩⟩
      rw [e1, nI_1]
      refine ih (fun j hj' => ?_)
      by_cases hjk : j = k
      · subst hjk; exact c
      · exact hj j (by omega)
  exact L 0 (Nat.zero_le _) (fun j hj => absurd hj (by omega))
theorem uX4_wordOf {d : Nat} (hd : d < 13) {Kr : Nat → Mem → Prop} (hK : Kr (1000 + (4 + d)) M) : CSr w h kX4_wordOf [.int (nI d)] M Kr := by
  refine csr_of (by decide) (Nat.le_of_ble_eq_true rfl) (vX4_wordOf_0 (nI d) M _ ?_)
  have : d = 0 ∨ d = 1 ∨ d = 2 ∨ d = 3 ∨ d = 4 ∨ d = 5 ∨ d = 6 ∨ d = 7 ∨ d = 8 ∨ d = 9 ∨ d = 10 ∨ d = 11 ∨ d = 12 := by omega
  rcases this with rfl | rfl | rfl | rfl | rfl | rfl | rfl | rfl | rfl | rfl | rfl | rfl | rfl <;> repeat' (first | (refine ⟨fun q => ⟨_, rfl, hK⟩, fun q => absurd (by decide) q⟩) | (refine ⟨fun q => absurd q (by decide), fun _ => ?_⟩) | exact ⟨_, rfl, hK⟩)
theorem uX4_deedOfToken (hh : 6 ≤ h) (T : TC f n M) {s e : Nat} (he : e ≤ n) (hse : s ≤ e) (e2 : M 39 2 = nI s) (e3 : M 39 3 = nI e) (hK1 : ∀ d, d < 13 → isWd f s e d → K (nI d) M) (hK0 : (∀ d, d < 13 → ¬ isWd f s e d) → K (-1) M) : CSi w h kX4_deedOfToken [.ref 39] M K := by
  obtain ⟨h, rfl⟩ : ∃ k, h = k + 1 := ⟨h - 1, by omega⟩
  refine csi_of (by decide) (Nat.le_of_ble_eq_true rfl) (vX4_deedOfToken_0 M _ ?_)
  have L : ∀ k, k ≤ 13 → (∀ d, d < k → ¬ isWd f s e d) → RM w (h + 1) kX4_deedOfToken 2 [(0, .ref 39), (1, .int (nI k))] [] M (fun r M' => ∃ x, r = some (.int x) ∧ K x M') := by
    refine up_ind (fun hj => ?_) (fun k hk ih hj => ?_)
    · exact vX4_deedOfToken_2 _ M _ ⟨fun _ => ⟨_, rfl, hK0 hj⟩, fun q => absurd (by decide) q⟩
    · refine vX4_deedOfToken_2 _ M _ ⟨fun q => absurd q (nI_ge (b := 13) hk (by decide)), fun _ => uX4_wordOf hk ⟨k, rfl, by omega, ?_⟩⟩
      refine uX4_isToken (by omega) T (by omega) he hse e2 e3 (fun z => ⟨fun q => absurd q (by decide), fun _ => ⟨_, rfl, hK1 k hk z⟩⟩) (fun z => ⟨fun _ x1 e1 => ?_, fun q => absurd rfl q⟩)
      rw [e1, nI_1]
      refine ih (fun d hd => ?_)
      by_cases hdk : d = k
      · subst hdk; exact z
      · exact hj d (by omega)
  exact L 0 (by omega) (fun d hd => absurd hd (by omega))
theorem uX4_isNumber (hh : 1 ≤ h) {lo hi : Int32} (hK : K (if M 39 1 = 2 then b2i (lo ≤ M 39 4 ∧ M 39 4 ≤ hi) else 0) M) : CSi w h kX4_isNumber [.ref 39, .int lo, .int hi] M K := by
  obtain ⟨h, rfl⟩ : ∃ k, h = k + 1 := ⟨h - 1, by omega⟩
  refine csi_of (by decide) (Nat.le_of_ble_eq_true rfl) (vX4_isNumber_0 lo hi M _ ⟨fun q => ⟨_, rfl, ?_⟩, fun q => ⟨_, rfl, ?_⟩⟩)
  · rw [if_neg q] at hK; exact hK
  · rw [if_pos q] at hK; exact hK
end TX1

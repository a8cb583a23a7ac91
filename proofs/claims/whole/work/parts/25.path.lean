/-! ===== paths ===== -/
def und : Nat → Int32 → Int32 → Bool
  | 0, _, _ => false
  | n + 1, k, a => if 0 ≤ k ∧ k ≤ 7 then (if k = a then true else und n (tabA k.toNatClampNeg) a) else false
theorem und_1 {kd : Int32} (h0 : 0 ≤ kd) (h1 : kd ≤ 7) : (und 8 kd 1 = true) ↔ (kd = 1 ∨ kd = 7) := by
  obtain ⟨k, hk, rfl⟩ := nI_of3 (x := kd) (m := 8) (N := 8) rfl h0 (by grind)
  have T : ∀ k, k < 8 → ((und 8 (nI k) 1 = true) ↔ (nI k = 1 ∨ nI k = 7)) := by decide
  exact T k hk
/-- cell and water behind so many steps, as long as nothing ends the path -/
def sta (dt wt : Int32 → Int32) (ln kd col wa : Int32) : Nat → Int32 × Int32
  | 0 => (col, wa)
  | i + 1 => (gt dt wt ln kd (sta dt wt ln kd col wa i).1 (sta dt wt ln kd col wa i).2 (nI i), (sta dt wt ln kd col wa i).2 - b2i (kd = 1 ∨ kd = 7))
/-- steps, where it goes out (-1), water at the end -/
def runS (dt wt : Int32 → Int32) (ln kd col wa : Int32) : Nat → Nat → Nat × Int32 × Int32
  | 0, i => (i, -1, (sta dt wt ln kd col wa i).2)
  | n + 1, i => if (sta dt wt ln kd col wa i).2 ≤ 0 then (i, -1, (sta dt wt ln kd col wa i).2)
      else if (sta dt wt ln kd col wa (i + 1)).1 = (sta dt wt ln kd col wa i).1 then (i, -1, (sta dt wt ln kd col wa i).2)
      else if 0 ≤ (sta dt wt ln kd col wa (i + 1)).1 then runS dt wt ln kd col wa n (i + 1)
      else (i + 1, md12 (sta dt wt ln kd col wa i).1, (sta dt wt ln kd col wa i).2)
abbrev pR (dt wt : Int32 → Int32) (ln kd col wa : Int32) : Nat × Int32 × Int32 := runS dt wt ln kd col wa 64 0
/-- what is known of an end: e = (steps, out, water), c the cells behind 0, 1, .. steps -/
def okE (e : Nat × Int32 × Int32) (c : Nat → Int32) : Prop := e.1 ≤ 64 ∧ ((e.2.1 = -1 ∧ ∀ j, j ≤ e.1 → 0 ≤ c j ∧ c j ≤ 191) ∨ (0 ≤ e.2.1 ∧ e.2.1 ≤ 11 ∧ 1 ≤ e.1 ∧ ∀ j, j < e.1 → 0 ≤ c j ∧ c j ≤ 191))
theorem runS_ok {dt wt : Int32 → Int32} {ln kd col wa : Int32} : ∀ n i, n + i = 64 → (∀ j, j ≤ i → 0 ≤ (sta dt wt ln kd col wa j).1 ∧ (sta dt wt ln kd col wa j).1 ≤ 191) → okE (runS dt wt ln kd col wa n i) (fun j => (sta dt wt ln kd col wa j).1) := by
  intro n
  induction n with
  | zero => intro i hi hc; exact ⟨by show i ≤ 64; omega, Or.inl ⟨rfl, hc⟩⟩
  | succ n ih =>
    intro i hi hc
    unfold runS
    split
    · exact ⟨by show i ≤ 64; omega, Or.inl ⟨rfl, hc⟩⟩
    · split
      · exact ⟨by show i ≤ 64; omega, Or.inl ⟨rfl, hc⟩⟩
      · split
        · rename_i h3
          refine ih (i + 1) (by omega) (fun j hj => ?_)
          by_cases hji : j = i + 1
          · subst hji
            refine ⟨h3, ?_⟩
            rcases gt_bd (dt := dt) (wt := wt) (ln := ln) (kd := kd) (wa := (sta dt wt ln kd col wa i).2) (sp := nI i) (hc i (Nat.le_refl _)).1 (show (sta dt wt ln kd col wa i).1 < 192 from Int32.lt_of_le_of_lt (hc i (Nat.le_refl _)).2 (by decide)) with z | z
            · have : (sta dt wt ln kd col wa (i + 1)).1 = -1 := z
              rw [this] at h3
              exact absurd h3 (by decide)
            · exact z.2
          · exact hc j (by omega)
        · have hb := md12_bd (hc i (Nat.le_refl _)).1
          exact ⟨by show i + 1 ≤ 64; omega, Or.inr ⟨hb.1, hb.2, by show 1 ≤ i + 1; omega, fun j hj => hc j (by have : j < i + 1 := hj; omega)⟩⟩
theorem pR_ok {dt wt : Int32 → Int32} {ln kd col wa : Int32} (h0 : 0 ≤ col) (h1 : col ≤ 11) : okE (pR dt wt ln kd col wa) (fun j => (sta dt wt ln kd col wa j).1) := by
  refine runS_ok 64 0 rfl (fun j hj => ?_)
  have : j = 0 := by omega
  subst this
  exact ⟨h0, Int32.le_trans h1 (by decide)⟩
theorem g_c191 {c : Int32} (h : c ≤ 191) : c < 192 := by grind
theorem b2i_ne0 {x : Int32} : b2i (¬ x ≤ 0) = 0 ↔ x ≤ 0 := by rw [b2i_0]; exact Classical.not_not
section PTH
variable {w : Wd} {h : Nat} {M : Mem} {K : Int32 → Mem → Prop} {Kv : Mem → Prop} {P : Nat} {dt wt : Int32 → Int32} {ln : Int32}
theorem uX10_isUnder (hh : 2 ≤ h) {k a : Int32} (hK : K (b2i (und 8 k a = true)) M) : CSi w h kX10_isUnder [.int k, .int a] M K := by
  obtain ⟨h, rfl⟩ : ∃ k, h = k + 1 := ⟨h - 1, by omega⟩
  refine csi_of (by decide) (Nat.le_of_ble_eq_true rfl) (vX10_isUnder_0 k a M _ ?_)
  have L : ∀ n, n ≤ 8 → ∀ k : Int32, K (b2i (und n k a = true)) M → RM w (h + 1) kX10_isUnder 4 [(1, .int a), (2, .int k), (3, .int (nI (8 - n)))] [] M (fun r M' => ∃ x, r = some (.int x) ∧ K x M') := by
    intro n
    induction n with
    | zero => intro _ k hK; exact vX10_isUnder_4 (by omega) _ _ _ M _ ⟨fun _ => ⟨_, rfl, hK⟩, fun hc => absurd (by decide) hc⟩
    | succ n ih =>
      intro hn k hK
      refine vX10_isUnder_4 (by omega) _ _ _ M _ ⟨fun hc => absurd hc (nI_ge (b := 8) (by omega) (by decide)), fun _ => ⟨fun hk => ⟨_, rfl, ?_⟩, fun hk => ⟨fun he => ⟨inL 8 rfl hk.1 (by have := hk.2; grind), fun x1 e1 x2 e2 => ?_⟩, fun he => ⟨_, rfl, ?_⟩⟩⟩⟩
      · rw [und, if_neg hk, b2i_f (by decide)] at hK; exact hK
      · rw [und, if_pos hk, if_neg he] at hK
        have e3 : x2 = nI (8 - n) := by rw [e2, nI_1]; congr 1; omega
        rw [e3, e1]
        exact ih (by omega) _ hK
      · rw [und, if_pos hk, if_pos he, b2i_t rfl] at hK; exact hK
  exact L 8 (Nat.le_refl _) k hK
theorem uX8_isOut {Kc : Nat} (hk : isWalk Kc) (hK : K (b2i (¬ M Kc 3 = -1)) M) : CSi w h kX8_isOut [.ref Kc] M K :=
  csi_of (by decide) (Nat.le_of_ble_eq_true rfl) (vX8_isOut_0 Kc hk M _ ⟨_, rfl, hK⟩)
theorem uX11_onCells (hK : K (if 0 ≤ M 59 14 then M 59 13 - 1 else M 59 13) M) : CSi w h kX11_onCells [.ref 59] M K :=
  csi_of (by decide) (Nat.le_of_ble_eq_true rfl) (vX11_onCells_0 M _ ⟨_, rfl, hK⟩)
theorem g_neg {x : Int32} (h : ¬ 0 ≤ x) : ¬ x = -1 → x < -1 ∨ False ∨ x < 0 := fun _ => Or.inr (Or.inr (Int32.not_le.mp h))
theorem uX11_goesAll (hh : 6 ≤ h) {kd col wa : Int32} (h0 : 0 ≤ col) (h1 : col ≤ 11)
    (hK : ∀ M' : Mem, M' 59 13 = nI (pR (dtR M) (wtR M) (M 60 0) kd col wa).1 → M' 59 14 = (pR (dtR M) (wtR M) (M 60 0) kd col wa).2.1 → M' 59 15 = (pR (dtR M) (wtR M) (M 60 0) kd col wa).2.2 → (∀ j, j < (pR (dtR M) (wtR M) (M 60 0) kd col wa).1 ∨ ((pR (dtR M) (wtR M) (M 60 0) kd col wa).2.1 = -1 ∧ j = (pR (dtR M) (wtR M) (M 60 0) kd col wa).1) → M' 64 j = (sta (dtR M) (wtR M) (M 60 0) kd col wa j).1) → (∀ q, q ≠ 59 → q ≠ 64 → M' q = M q) → (∀ j, j ≠ 13 → j ≠ 14 → j ≠ 15 → M' 59 j = M 59 j) → Kv M') : CSv w h kX11_goesAll [.ref 59, .int kd, .int col, .int wa] M Kv := by
  obtain ⟨h, rfl⟩ : ∃ k, h = k + 1 := ⟨h - 1, by omega⟩
  refine csv_of (by decide) (Nat.le_of_ble_eq_true rfl) (vX11_goesAll_0 kd col wa M _ ?_)
  have L : ∀ n i, n + i = 64 → (∀ M' : Mem, M' 59 13 = nI (runS (dtR M) (wtR M) (M 60 0) kd col wa n i).1 → M' 59 14 = (runS (dtR M) (wtR M) (M 60 0) kd col wa n i).2.1 → M' 59 15 = (runS (dtR M) (wtR M) (M 60 0) kd col wa n i).2.2 → (∀ j, j < (runS (dtR M) (wtR M) (M 60 0) kd col wa n i).1 ∨ ((runS (dtR M) (wtR M) (M 60 0) kd col wa n i).2.1 = -1 ∧ j = (runS (dtR M) (wtR M) (M 60 0) kd col wa n i).1) → M' 64 j = (sta (dtR M) (wtR M) (M 60 0) kd col wa j).1) → (∀ q, q ≠ 59 → q ≠ 64 → M' q = M q) → (∀ j, j ≠ 13 → j ≠ 14 → j ≠ 15 → M' 59 j = M 59 j) → Kv M') →
      ∀ M1 : Mem, M1 59 13 = nI i → M1 59 14 = -1 → M1 59 15 = (sta (dtR M) (wtR M) (M 60 0) kd col wa i).2 → (∀ j, j ≤ i → M1 64 j = (sta (dtR M) (wtR M) (M 60 0) kd col wa j).1) → (∀ q, q ≠ 59 → q ≠ 64 → M1 q = M q) → (∀ j, j ≠ 13 → j ≠ 14 → j ≠ 15 → M1 59 j = M 59 j) → (0 ≤ (sta (dtR M) (wtR M) (M 60 0) kd col wa i).1 ∧ (sta (dtR M) (wtR M) (M 60 0) kd col wa i).1 ≤ 191) →
      RM w (h + 1) kX11_goesAll 26 [(0, .ref 59), (1, .int kd), (4, .int (sta (dtR M) (wtR M) (M 60 0) kd col wa i).1)] [] M1 (fun r M' => r = none ∧ Kv M') := by
    intro n
    induction n with
    | zero =>
      intro i hi hK M1 a1 a2 a3 a4 a5 a6 a7
      have : i = 64 := by omega
      subst this
      refine vX11_goesAll_26 _ _ M1 _ ⟨fun _ => ⟨rfl, ?_⟩, fun hc => absurd (by rw [a1]; decide) hc⟩
      exact hK M1 a1 a2 a3 (fun j hj => a4 j (by rcases hj with hj | hj; exact Nat.le_of_lt hj; exact Nat.le_of_eq hj.2)) a5 a6
    | succ n ih =>
      intro i hi hK M1 a1 a2 a3 a4 a5 a6 a7
      have e60 : M1 60 = M 60 := a5 60 (by decide) (by decide)
      have ed : dtR M1 = dtR M := by funext c; unfold dtR; rw [e60]
      have ew : wtR M1 = wtR M := by funext c; unfold wtR; rw [e60, a6 4 (by decide) (by decide) (by decide)]
      have done0 : runS (dtR M) (wtR M) (M 60 0) kd col wa (n + 1) i = (i, -1, (sta (dtR M) (wtR M) (M 60 0) kd col wa i).2) → Kv M1 := by
        intro e
        rw [e] at hK
        exact hK M1 a1 a2 a3 (fun j hj => a4 j (by rcases hj with hj | hj; exact Nat.le_of_lt hj; exact Nat.le_of_eq hj.2)) a5 a6
      refine vX11_goesAll_26 _ _ M1 _ ⟨fun hc => absurd hc (by rw [a1]; exact nI_ge (b := 64) (by omega) (by decide)), fun _ => ⟨fun hw => ⟨rfl, ?_⟩, fun hw => ?_⟩⟩
      · rw [a3] at hw
        exact done0 (by rw [runS, if_pos hw])
      · rw [a3] at hw
        refine uX11_goesTo (by omega) a7.1 a7.2 ?_
        rw [ed, ew, e60, a3, a1]
        have es : gt (dtR M) (wtR M) (M 60 0) kd (sta (dtR M) (wtR M) (M 60 0) kd col wa i).1 (sta (dtR M) (wtR M) (M 60 0) kd col wa i).2 (nI i) = (sta (dtR M) (wtR M) (M 60 0) kd col wa (i + 1)).1 := rfl
        have hgb := gt_bd (dt := dtR M) (wt := wtR M) (ln := M 60 0) (kd := kd) (wa := (sta (dtR M) (wtR M) (M 60 0) kd col wa i).2) (sp := nI i) a7.1 (g_c191 a7.2)
        rw [es] at hgb ⊢
        refine ⟨fun hne M2 e2 => ⟨fun hp => ?_, fun hp M3 e3 => ⟨rfl, ?_⟩⟩, fun he => ⟨rfl, ?_⟩⟩
        · have e2' : M2 59 13 = nI (i + 1) := by rw [e2, mset_eq]; simp [upd, nI_1]
          rw [e2']
          refine ⟨vp_in_nI (by omega) (by decide), fun M3 e3 M4 e4 => ?_⟩
          rw [nI_clamp (by omega)] at e3
          have hr : runS (dtR M) (wtR M) (M 60 0) kd col wa (n + 1) i = runS (dtR M) (wtR M) (M 60 0) kd col wa n (i + 1) := by rw [runS, if_neg hw, if_neg hne, if_pos hp]
          rw [hr] at hK
          have f3 : M3 59 = M2 59 := by rw [e3, mset_ne (by decide)]
          refine ih (i + 1) (by omega) hK M4 ?_ ?_ ?_ ?_ ?_ ?_ ?_
          · rw [e4, mset_eq, f3]; simp only [upd]; rw [if_neg (by decide)]; exact e2'
          · rw [e4, mset_eq, f3, e2, mset_eq]; simp only [upd]; rw [if_neg (by decide), if_neg (by decide)]; exact a2
          · rw [e4, mset_eq, pk_us, f3, e2, mset_eq, pk_un (by decide), a3]; rfl
          · intro j hj
            rw [e4, mset_ne (by decide), e3, mset_eq, e2, mset_ne (by decide)]
            by_cases hji : j = i + 1
            · subst hji; simp [upd]
            · simp only [upd]; rw [if_neg hji]; exact a4 j (by omega)
          · intro q h1 h2
            rw [e4, mset_ne h1, e3, mset_ne h2, e2, mset_ne h1]; exact a5 q h1 h2
          · intro j h1 h2 h3
            rw [e4, mset_eq, f3, e2, mset_eq]; simp only [upd]; rw [if_neg h3, if_neg h1]; exact a6 j h1 h2 h3
          · rcases hgb with z | z
            · rw [z] at hp; exact absurd hp (by decide)
            · exact z
        · have hr : runS (dtR M) (wtR M) (M 60 0) kd col wa (n + 1) i = (i + 1, md12 (sta (dtR M) (wtR M) (M 60 0) kd col wa i).1, (sta (dtR M) (wtR M) (M 60 0) kd col wa i).2) := by rw [runS, if_neg hw, if_neg hne, if_neg hp]
          have hmd := md12_bd a7.1
          rw [hr] at hK
          refine hK M3 ?_ ?_ ?_ ?_ ?_ ?_
          · rw [e3, mset_eq, pk_un (by decide), e2, mset_eq, pk_us, nI_1]
          · rw [e3, mset_eq]; simp [upd, md12]
          · rw [e3, mset_eq, e2, mset_eq]; simp only [upd]; rw [if_neg (by decide), if_neg (by decide)]; exact a3
          · intro j hj
            rw [e3, mset_ne (by decide), e2, mset_ne (by decide)]
            refine a4 j ?_
            rcases hj with hj | hj
            · exact Nat.le_of_lt_succ hj
            · have z := hj.1
              dsimp only at z
              rw [z] at hmd
              exact absurd hmd.1 (by decide)
          · intro q h1 h2
            rw [e3, mset_ne h1, e2, mset_ne h1]; exact a5 q h1 h2
          · intro j h1 h2 h3
            rw [e3, mset_eq, e2, mset_eq]; simp only [upd]; rw [if_neg h2, if_neg h1]; exact a6 j h1 h2 h3
        · exact done0 (by rw [runS, if_neg hw, if_pos he])
  intro M1 e1 M2 e2 M3 e3
  refine ⟨inL 65 rfl (by decide) (by decide), fun M4 e4 => ?_⟩
  have e4' : M4 = mset M3 64 0 col := e4
  refine L 64 0 rfl hK M4 ?_ ?_ ?_ ?_ ?_ ?_ ?_
  · rw [e4', mset_ne (by decide), e3, mset_eq, e2, mset_eq, e1, mset_eq]; simp [upd]; rfl
  · rw [e4', mset_ne (by decide), e3, mset_eq, e2, mset_eq]; simp [upd]
  · rw [e4', mset_ne (by decide), e3, mset_eq]; simp [upd]; rfl
  · intro j hj
    have : j = 0 := by omega
    subst this
    rw [e4', mset_eq]; simp [upd]; rfl
  · intro q h1 h2
    rw [e4', mset_ne h2, e3, mset_ne h1, e2, mset_ne h1, e1, mset_ne h1]
  · intro j h1 h2 h3
    rw [e4', mset_ne (by decide), e3, mset_eq, e2, mset_eq, e1, mset_eq]; simp only [upd]; rw [if_neg h3, if_neg h2, if_neg h1]
  · exact ⟨h0, Int32.le_trans h1 (by decide)⟩
end PTH

/-! ===== a deed's text ===== -/
noncomputable def cit {α : Type} (c : Prop) (a b : α) : α := @ite α c (Classical.propDecidable c) a b
theorem cit_t {α : Type} {c : Prop} {a b : α} (h : c) : cit c a b = a := by unfold cit; exact if_pos h
theorem cit_f {α : Type} {c : Prop} {a b : α} (h : ¬ c) : cit c a b = b := by unfold cit; exact if_neg h
/-- a deed (class's number, number, column) and the next token's start; or none, and the fault's place -/
abbrev DR : Type := Option (Nat × Int32 × Int32) × Nat
def atT (f : Nat → Int32) (n s : Nat) : Prop := tyT f n s = 1 ∧ isWd f s (enT f n s) 13
noncomputable def dfC (f : Nat → Int32) (n d : Nat) (x : Int32) (s : Nat) : DR := cit (d < 8) (cit (atT f n s) (cit (nOk f n (tkN f n s) 0 11) (some (d, x, vl f n (tkN f n s) 0), tkN f n (tkN f n s)) (none, tkN f n s)) (none, s)) (some (d, x, 0), s)
noncomputable def dfB (f : Nat → Int32) (n d : Nat) (g : Int32 → Int32) (s : Nat) : DR := cit (nOk f n s (tabL d) (tabM d)) (dfC f n d (g (vl f n s 0)) (tkN f n s)) (none, s)
noncomputable def dfA (f : Nat → Int32) (n d s : Nat) : DR := cit (d = 11 ∧ tyT f n s = 4) (dfB f n d (fun v => -v) (tkN f n s)) (dfB f n d (fun v => v) s)
noncomputable def wdD (f : Nat → Int32) (s e : Nat) : Nat := Classical.epsilon (fun d => d < 13 ∧ isWd f s e d)
def hasW (f : Nat → Int32) (n s : Nat) : Prop := tyT f n s = 1 ∧ ∃ d, d < 13 ∧ isWd f s (enT f n s) d
noncomputable def deedF (f : Nat → Int32) (n s : Nat) : DR := cit (hasW f n s) (dfA f n (wdD f s (enT f n s)) (tkN f n s)) (none, s)
theorem deedF_n {f : Nat → Int32} {n s : Nat} (z : ¬ hasW f n s) : deedF f n s = (none, s) := cit_f z
theorem deedF_w {f : Nat → Int32} {n s d : Nat} (t : tyT f n s = 1) (hd : d < 13) (hw : isWd f s (enT f n s) d) : deedF f n s = dfA f n d (tkN f n s) := by
  have hs := Classical.epsilon_spec (p := fun d => d < 13 ∧ isWd f s (enT f n s) d) ⟨d, hd, hw⟩
  have e : wdD f s (enT f n s) = d := isWd_one hs.1 hd hs.2 hw
  unfold deedF
  rw [cit_t ⟨t, d, hd, hw⟩, e]
theorem dfC_le {f : Nat → Int32} {n d s : Nat} {x : Int32} (h : s ≤ n) : (dfC f n d x s).2 ≤ n := by
  have h1 := tkN_le (f := f) h
  have h2 := tkN_le (f := f) h1
  unfold dfC
  by_cases a : d < 8
  · rw [cit_t a]
    by_cases b : atT f n s
    · rw [cit_t b]
      by_cases c : nOk f n (tkN f n s) 0 11
      · rw [cit_t c]; exact h2
      · rw [cit_f c]; exact h1
    · rw [cit_f b]; exact h
  · rw [cit_f a]; exact h
theorem dfB_le {f : Nat → Int32} {n d s : Nat} {g : Int32 → Int32} (h : s ≤ n) : (dfB f n d g s).2 ≤ n := by
  unfold dfB
  by_cases a : nOk f n s (tabL d) (tabM d)
  · rw [cit_t a]; exact dfC_le (tkN_le h)
  · rw [cit_f a]; exact h
theorem deedF_le {f : Nat → Int32} {n s : Nat} (h : s ≤ n) : (deedF f n s).2 ≤ n := by
  unfold deedF
  by_cases a : hasW f n s
  · rw [cit_t a]
    unfold dfA
    by_cases b : wdD f s (enT f n s) = 11 ∧ tyT f n (tkN f n s) = 4
    · rw [cit_t b]; exact dfB_le (tkN_le (tkN_le h))
    · rw [cit_f b]; exact dfB_le (tkN_le h)
  · rw [cit_f a]; exact h
theorem g_m20 {x : Int32} (h : (0 : Int32) ≤ x) (h2 : x ≤ 20) : -20 ≤ -x ∧ -x ≤ 20 := by grind
theorem g_p20 {x : Int32} (h : (0 : Int32) ≤ x) (h2 : x ≤ 20) : -20 ≤ x ∧ x ≤ 20 := by grind
/-- a deed that was read is one -/
theorem dfC_ok {f : Nat → Int32} {n d s : Nat} {x : Int32} (hd : d < 13) (hx : (d ≠ 11 → tabL d ≤ x ∧ x ≤ tabM d) ∧ (d = 11 → -20 ≤ x ∧ x ≤ 20)) {d' : Nat} {x' c : Int32} {s' : Nat} (e : dfC f n d x s = (some (d', x', c), s')) : ∀ c', (d' < 8 → c' = c) → d' < 13 ∧ deedR (nI d') x' c (rD d') x' c' := by
  unfold dfC at e
  by_cases a : d < 8
  · rw [cit_t a] at e
    by_cases b : atT f n s
    · rw [cit_t b] at e
      by_cases q : nOk f n (tkN f n s) 0 11
      · rw [cit_t q] at e
        cases e
        intro c' hc'
        rw [hc' a]
        refine ⟨hd, rfl, Or.inl ⟨⟨nI_pos' (by omega), nI_le (b := 7) (by omega) (by decide)⟩, ?_, rfl, ?_, q.2⟩⟩
        · unfold rD; rw [if_neg (by omega), if_neg (by omega)]
        · have h1 := hx.1 (by omega)
          have t1 : tabL d = 1 := by unfold tabL; rw [if_pos (by omega)]
          have t2 : tabM d = 99 := by
            have T : ∀ d, d < 8 → tabM d = 99 := by decide
            exact T d a
          rw [t1, t2] at h1; exact h1
      · rw [cit_f q] at e; cases e
    · rw [cit_f b] at e; cases e
  · rw [cit_f a] at e
    cases e
    intro c' _
    have : d = 8 ∨ d = 9 ∨ d = 10 ∨ d = 11 ∨ d = 12 := by omega
    refine ⟨hd, rfl, Or.inr ?_⟩
    rcases this with rfl | rfl | rfl | rfl | rfl
    · exact Or.inl ⟨rfl, rfl, hx.1 (by decide)⟩
    · exact Or.inr (Or.inl ⟨rfl, rfl, hx.1 (by decide)⟩)
    · exact Or.inr (Or.inr (Or.inl ⟨rfl, rfl, hx.1 (by decide)⟩))
    · exact Or.inr (Or.inr (Or.inr (Or.inl ⟨rfl, rfl, hx.2 rfl⟩)))
    · exact Or.inr (Or.inr (Or.inr (Or.inr ⟨rfl, rfl, hx.1 (by decide)⟩)))
theorem dfB_ok {f : Nat → Int32} {n d s : Nat} {g : Int32 → Int32} (hd : d < 13) (hg : (g = fun v => v) ∨ (d = 11 ∧ g = fun v => -v)) {d' : Nat} {x' c : Int32} {s' : Nat} (e : dfB f n d g s = (some (d', x', c), s')) : ∀ c', (d' < 8 → c' = c) → d' < 13 ∧ deedR (nI d') x' c (rD d') x' c' := by
  unfold dfB at e
  by_cases a : nOk f n s (tabL d) (tabM d)
  · rw [cit_t a] at e
    refine dfC_ok hd ⟨fun h11 => ?_, fun h11 => ?_⟩ e
    · rcases hg with rfl | ⟨z, -⟩
      · exact a.2
      · exact absurd z h11
    · subst h11
      have h1 : (0 : Int32) ≤ vl f n s 0 := a.2.1
      have h2 : vl f n s 0 ≤ (20 : Int32) := a.2.2
      rcases hg with rfl | ⟨-, rfl⟩
      · exact g_p20 h1 h2
      · exact g_m20 h1 h2
  · rw [cit_f a] at e; cases e
theorem deedF_ok {f : Nat → Int32} {n s d : Nat} {x c : Int32} {s' : Nat} (e : deedF f n s = (some (d, x, c), s')) : ∀ c', (d < 8 → c' = c) → d < 13 ∧ deedR (nI d) x c (rD d) x c' := by
  by_cases a : hasW f n s
  · obtain ⟨t, d0, hd0, hw⟩ := a
    rw [deedF_w t hd0 hw] at e
    unfold dfA at e
    by_cases b : d0 = 11 ∧ tyT f n (tkN f n s) = 4
    · rw [cit_t b] at e
      exact dfB_ok hd0 (Or.inr ⟨b.1, rfl⟩) e
    · rw [cit_f b] at e
      exact dfB_ok hd0 (Or.inl rfl) e
  · rw [deedF_n a] at e; cases e
theorem nI_m1 {k : Nat} (h : k < 1000) : ¬ nI k = -1 := fun z => by
  have h1 := nI_toInt (n := k) (by omega)
  rw [z] at h1
  have h2 : ((-1 : Int32)).toInt = -1 := by decide
  rw [h2] at h1; omega
theorem tab_hi : ∀ d, d < 13 → tabM d ≤ (999 : Int32) := by decide
theorem cTok.num {f : Nat → Int32} {n s : Nat} {M : Mem} (R : cTok f n s M) {lo hi : Int32} (h : hi ≤ 999) : (if M 39 1 = 2 then b2i (lo ≤ M 39 4 ∧ M 39 4 ≤ hi) else 0) = cit (nOk f n s lo hi) 1 0 := by
  obtain ⟨-, r1, -, -, r4⟩ := R
  rw [r1]
  by_cases t : tyT f n s = 2
  · rw [if_pos t, r4 t]
    by_cases q : lo ≤ vl f n s 0 ∧ vl f n s 0 ≤ hi
    · rw [b2i_t ((cap_in h).mpr q), cit_t ⟨t, q⟩]
    · rw [b2i_f (fun z => q ((cap_in h).mp z)), cit_f (fun z => q z.2)]
  · rw [if_neg t, cit_f (fun z => t z.1)]
theorem cTok.val {f : Nat → Int32} {n s : Nat} {M : Mem} (R : cTok f n s M) {lo hi : Int32} (h : hi ≤ 999) (ok : nOk f n s lo hi) : M 39 4 = vl f n s 0 := by
  rw [R.2.2.2.2 ok.1, cap_eq h ok.2.2]
section DX
variable {w : Wd} {h : Nat} {M : Mem} {K : Int32 → Mem → Prop} {Kv : Mem → Prop} {f : Nat → Int32} {n : Nat}
theorem uX3_put {pl : Nat} (hpl : pl < 72) {a b c : Int32} (hK : ∀ M', M' 15 = upd (M 15) pl a → M' 16 = upd (M 16) pl b → M' 17 = upd (M 17) pl c → (∀ q, q ≠ 15 → q ≠ 16 → q ≠ 17 → M' q = M q) → Kv M') : CSv w h kX3_put [.ref 13, .int (nI pl), .int a, .int b, .int c] M Kv := by
  have hin : vp_in (nI pl) 72 := vp_in_nI hpl (by decide)
  refine csv_of (by decide) (Nat.le_of_ble_eq_true rfl) (vX3_put_0 (nI pl) a b c M _ ⟨hin, fun M1 e1 => ⟨hin, fun M2 e2 => ⟨hin, fun M3 e3 => ⟨rfl, hK M3 ?_ ?_ ?_ (fun q a b c => ?_)⟩⟩⟩⟩)
  · rw [e3, mset_ne (by decide), e2, mset_ne (by decide), e1, mset_eq, nI_clamp (by omega)]
  · rw [e3, mset_ne (by decide), e2, mset_eq, nI_clamp (by omega), e1, mset_ne (by decide)]
  · rw [e3, mset_eq, nI_clamp (by omega), e2, mset_ne (by decide), e1, mset_ne (by decide)]
  · rw [e3, mset_ne c, e2, mset_ne b, e1, mset_ne a]
theorem uX4_readDeed (hh : 7 ≤ h) (T : TC f n M) {s : Nat} (R : cTok f n s M) {pl : Nat} (hpl : pl < 72) (hK0 : ∀ e, deedF f n s = (none, e) → ∀ M', (∀ q, q ≠ 39 → M' q = M q) → K (nI e) M') (hK1 : ∀ d x c s', deedF f n s = (some (d, x, c), s') → ∀ M', cTok f n s' M' → M' 15 = upd (M 15) pl (nI d) → M' 16 = upd (M 16) pl x → M' 17 = upd (M 17) pl c → (∀ q, q ≠ 39 → q ≠ 15 → q ≠ 16 → q ≠ 17 → M' q = M q) → K (-1) M') : CSi w h kX4_readDeed [.ref 39, .ref 13, .int (nI pl)] M K := by
  obtain ⟨h, rfl⟩ : ∃ k, h = k + 1 := ⟨h - 1, by omega⟩
  have hn := T.1
  have FA : ∀ e, deedF f n s = (none, e) → ∀ Mx : Mem, (∀ q, q ≠ 39 → Mx q = M q) → Mx 39 2 = nI e → ∃ x, some (Value.int (Mx 39 2)) = some (.int x) ∧ K x Mx := fun e he Mx fr e2 => ⟨_, rfl, by rw [e2]; exact hK0 e he Mx fr⟩
  -- the end: the deed is put
  have E : ∀ d x c s', d < 13 → deedF f n s = (some (d, x, c), s') → ∀ Mx : Mem, cTok f n s' Mx → (∀ q, q ≠ 39 → Mx q = M q) → RM w (h + 1) kX4_readDeed 167 [(1, .ref 13), (2, .int (nI pl)), (3, .int (nI d)), (5, .int x), (6, .int c)] [] Mx (fun r M' => ∃ x, r = some (.int x) ∧ K x M') := by
    intro d x c s' hd e Mx Rx fr
    refine vX4_readDeed_167 (by omega) _ _ _ _ Mx _ (uX3_put hpl (fun M' a1 a2 a3 a4 => ⟨_, rfl, hK1 d x c s' e M' ?_ ?_ ?_ ?_ (fun q b1 b2 b3 b4 => ?_)⟩))
    · unfold cTok; rw [a4 39 (by decide) (by decide) (by decide)]; exact Rx
    · rw [a1, fr 15 (by decide)]
    · rw [a2, fr 16 (by decide)]
    · rw [a3, fr 17 (by decide)]
    · rw [a4 q b2 b3 b4]; exact fr q b1
  -- behind the number
  have C : ∀ d x s2, d < 13 → deedF f n s = dfC f n d x (tkN f n s2) → ∀ Mx : Mem, cTok f n s2 Mx → (∀ q, q ≠ 39 → Mx q = M q) → RM w (h + 1) kX4_readDeed 102 [(0, .ref 39), (1, .ref 13), (2, .int (nI pl)), (3, .int (nI d)), (5, .int x)] [] Mx (fun r M' => ∃ x, r = some (.int x) ∧ K x M') := by
    intro d x s2 hd e Mx Rx fr
    refine vX4_readDeed_102 (by omega) _ _ _ Mx _ (uX4_readToken (by omega) (T.same fr) (enT_le Rx.1).2 Rx.2.2.2.1 (fun M1 c1 f1 => ?_))
    have fr1 : ∀ q, q ≠ 39 → M1 q = M q := fun q a => (f1 q a).trans (fr q a)
    change cTok f n (tkN f n s2) M1 at c1
    refine ⟨fun q => ?_, fun q => ⟨fun q1 => ?_, fun q1 => ?_⟩⟩
    · have hd8 : ¬ d < 8 := fun z => q ⟨nI_pos' (by omega), nI_le (b := 7) (by omega) (by decide)⟩
      refine E d x 0 (tkN f n s2) hd ?_ M1 c1 fr1
      rw [e]; unfold dfC; rw [cit_f hd8]
    · have hd8 : d < 8 := by have := (nI_leI (b := 7) (a := d) (by omega) (by decide)).mp q.2; omega
      rw [c1.2.1] at q1
      refine FA (tkN f n s2) ?_ M1 fr1 c1.2.2.1
      rw [e]; unfold dfC; rw [cit_t hd8, cit_f (fun z => q1 z.1)]
    · have hd8 : d < 8 := by have := (nI_leI (b := 7) (a := d) (by omega) (by decide)).mp q.2; omega
      rw [c1.2.1] at q1
      refine uX4_isToken (i := 13) (by omega) (T.same fr1) (by decide) (enT_le c1.1).2 (enT_le c1.1).1 c1.2.2.1 c1.2.2.2.1 (fun z => ⟨fun _ => ?_, fun y => absurd y (by decide)⟩) (fun z => ⟨fun y => absurd rfl y, fun _ => ?_⟩)
      · refine uX4_readToken (by omega) (T.same fr1) (enT_le c1.1).2 c1.2.2.2.1 (fun M3 c3 f3 => ?_)
        have fr3 : ∀ q, q ≠ 39 → M3 q = M q := fun q a => (f3 q a).trans (fr1 q a)
        change cTok f n (tkN f n (tkN f n s2)) M3 at c3
        refine uX4_isNumber (by omega) ?_
        rw [c3.num (by decide)]
        by_cases ok : nOk f n (tkN f n (tkN f n s2)) 0 11
        · rw [cit_t ok]
          refine ⟨fun _ x1 e1 => ?_, fun y => absurd y (by decide)⟩
          rw [c3.val (by decide) ok] at e1
          rw [e1]
          refine uX4_readToken (by omega) (T.same fr3) (enT_le c3.1).2 c3.2.2.2.1 (fun M5 c5 f5 => ?_)
          have fr5 : ∀ q, q ≠ 39 → M5 q = M q := fun q a => (f5 q a).trans (fr3 q a)
          change cTok f n (tkN f n (tkN f n (tkN f n s2))) M5 at c5
          refine E d x _ _ hd ?_ M5 c5 fr5
          rw [e]; unfold dfC; rw [cit_t hd8, cit_t ⟨q1, z⟩, cit_t ok]
        · rw [cit_f ok]
          refine ⟨fun y => absurd rfl y, fun _ => FA _ ?_ M3 fr3 c3.2.2.1⟩
          rw [e]; unfold dfC; rw [cit_t hd8, cit_t ⟨q1, z⟩, cit_f ok]
      · refine FA (tkN f n s2) ?_ M1 fr1 c1.2.2.1
        rw [e]; unfold dfC; rw [cit_t hd8, cit_f (fun y => z y.2)]
  -- the number
  have B : ∀ d v4 g s2, d < 13 → (∀ v : Int32, (if v4 = 0 then v else -v) = g v) → deedF f n s = dfB f n d g s2 → ∀ Mx : Mem, cTok f n s2 Mx → (∀ q, q ≠ 39 → Mx q = M q) → RM w (h + 1) kX4_readDeed 61 [(0, .ref 39), (1, .ref 13), (2, .int (nI pl)), (3, .int (nI d)), (4, .int v4)] [] Mx (fun r M' => ∃ x, r = some (.int x) ∧ K x M') := by
    intro d v4 g s2 hd hg e Mx Rx fr
    refine vX4_readDeed_61 _ _ _ Mx _ ⟨vp_in_nI hd (by decide), vp_in_nI hd (by decide), ?_⟩
    rw [nI_clamp (by omega)]
    refine uX4_isNumber (by omega) ?_
    rw [Rx.num (tab_hi d hd)]
    by_cases ok : nOk f n s2 (tabL d) (tabM d)
    · rw [cit_t ok]
      refine ⟨fun _ x1 e1 => ?_, fun y => absurd y (by decide)⟩
      rw [Rx.val (tab_hi d hd) ok, hg] at e1
      rw [e1]
      refine C d _ s2 hd ?_ Mx Rx fr
      rw [e]; unfold dfB; rw [cit_t ok]
    · rw [cit_f ok]
      refine ⟨fun y => absurd rfl y, fun _ => FA _ ?_ Mx fr Rx.2.2.1⟩
      rw [e]; unfold dfB; rw [cit_f ok]
  have N : ¬ hasW f n s → RM w (h + 1) kX4_readDeed 17 [(0, .ref 39), (1, .ref 13), (2, .int (nI pl)), (3, .int (-1))] [] M (fun r M' => ∃ x, r = some (.int x) ∧ K x M') := fun z => vX4_readDeed_17 _ _ M _ ⟨fun q => absurd rfl q, fun _ => FA s (deedF_n z) M (fun _ _ => rfl) R.2.2.1⟩
  refine csi_of (by decide) (Nat.le_of_ble_eq_true rfl) (vX4_readDeed_0 (nI pl) M _ ⟨fun q => ?_, fun q => ?_⟩)
  · rw [R.2.1] at q
    exact N (fun z => q z.1)
  · rw [R.2.1] at q
    refine uX4_deedOfToken (by omega) T (enT_le R.1).2 (enT_le R.1).1 R.2.2.1 R.2.2.2.1 (fun d hd hw => ?_) (fun z => N (fun y => by obtain ⟨-, d, hd, hw⟩ := y; exact z d hd hw))
    have e := deedF_w q hd hw
    refine vX4_readDeed_17 _ _ M _ ⟨fun _ => uX4_readToken (by omega) T (enT_le R.1).2 R.2.2.2.1 (fun M1 c1 f1 => ?_), fun y => absurd y (nI_m1 (by omega))⟩
    change cTok f n (tkN f n s) M1 at c1
    refine ⟨fun y => ⟨fun _ => ?_, fun y => absurd rfl y⟩, fun y x1 e1 => ?_⟩
    · refine B d 0 (fun v => v) _ hd (fun v => if_pos rfl) ?_ M1 c1 f1
      rw [e]; unfold dfA; rw [cit_f (fun z => y (by rw [z.1]; rfl))]
    · have hd11 : d = 11 := (nI_eq (b := 11) (by omega) (by decide)).mp y
      rw [c1.2.1] at e1
      by_cases t4 : tyT f n (tkN f n s) = 4
      · rw [b2i_t t4] at e1
        subst e1
        refine ⟨fun z => absurd z (by decide), fun _ => uX4_readToken (by omega) (T.same f1) (enT_le c1.1).2 c1.2.2.2.1 (fun M2 c2 f2 => ?_)⟩
        change cTok f n (tkN f n (tkN f n s)) M2 at c2
        refine B d 1 (fun v => -v) _ hd (fun v => if_neg (by decide)) ?_ M2 c2 (fun q a => (f2 q a).trans (f1 q a))
        rw [e]; unfold dfA; rw [cit_t ⟨hd11, t4⟩]
      · rw [b2i_f t4] at e1
        subst e1
        refine ⟨fun _ => ?_, fun z => absurd rfl z⟩
        refine B d 0 (fun v => v) _ hd (fun v => if_pos rfl) ?_ M1 c1 f1
        rw [e]; unfold dfA; rw [cit_f (fun z => t4 z.2)]
end DX

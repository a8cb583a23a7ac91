/-! ===== program ===== -/
noncomputable def dS (f : Nat → Int32) (n : Nat) : Nat → Nat
  | 0 => skT f n 0
  | i + 1 => tkN f n (deedF f n (dS f n i)).2
theorem dS_le {f : Nat → Int32} {n : Nat} : ∀ i, dS f n i ≤ n := by
  intro i
  induction i with
  | zero => exact (skT_le (Nat.zero_le _)).2
  | succ i ih => exact tkN_le (deedF_le ih)
/-- behind the i-th deed stands a semicolon -/
def goD (f : Nat → Int32) (n i : Nat) : Prop := ∃ d x c s', deedF f n (dS f n i) = (some (d, x, c), s') ∧ tyT f n s' = 3
theorem goD_ex (f : Nat → Int32) (n : Nat) : ∃ N, N ≤ 12 ∧ (∀ k, k < N → goD f n k) ∧ (N = 12 ∨ (N < 12 ∧ ¬ goD f n N)) := by
  have L : ∀ m, m ≤ 12 → (∀ k, k < m → goD f n k) ∨ ∃ N, N < m ∧ (∀ k, k < N → goD f n k) ∧ ¬ goD f n N := by
    intro m
    induction m with
    | zero => intro _; exact Or.inl (fun k hk => absurd hk (by omega))
    | succ m ih =>
      intro hm
      rcases ih (by omega) with q | ⟨N, h1, h2, h3⟩
      · by_cases g : goD f n m
        · refine Or.inl (fun k hk => ?_)
          by_cases hkm : k = m
          · subst hkm; exact g
          · exact q k (by omega)
        · exact Or.inr ⟨m, by omega, q, g⟩
      · exact Or.inr ⟨N, by omega, h2, h3⟩
  rcases L 12 (Nat.le_refl _) with q | ⟨N, h1, h2, h3⟩
  · exact ⟨12, Nat.le_refl _, q, Or.inl rfl⟩
  · exact ⟨N, by omega, h2, Or.inr ⟨h1, h3⟩⟩
def faD (f : Nat → Int32) (n N e : Nat) : Prop := (N = 12 ∧ e = dS f n 12) ∨ (N < 12 ∧ deedF f n (dS f n N) = (none, e)) ∨ (N < 12 ∧ ∃ t, deedF f n (dS f n N) = (some t, e) ∧ ¬ tyT f n e = 0)
def okD (f : Nat → Int32) (n N : Nat) : Prop := N < 12 ∧ ∃ t s', deedF f n (dS f n N) = (some t, s') ∧ tyT f n s' = 0
theorem faD_one {f : Nat → Int32} {n N e e' : Nat} (a : faD f n N e) (b : faD f n N e') : e = e' := by
  rcases a with ⟨a1, a2⟩ | ⟨a1, a2⟩ | ⟨a1, t, a2, a3⟩ <;> rcases b with ⟨b1, b2⟩ | ⟨b1, b2⟩ | ⟨b1, t', b2, b3⟩
  · rw [a2, b2]
  · omega
  · omega
  · omega
  · rw [a2] at b2; cases b2; rfl
  · rw [a2] at b2; cases b2
  · omega
  · rw [a2] at b2; cases b2
  · rw [a2] at b2; cases b2; rfl
theorem faD_ok {f : Nat → Int32} {n N e : Nat} (a : faD f n N e) (b : okD f n N) : False := by
  obtain ⟨b1, t', s', b2, b3⟩ := b
  rcases a with ⟨a1, a2⟩ | ⟨a1, a2⟩ | ⟨a1, t, a2, a3⟩
  · omega
  · rw [a2] at b2; cases b2
  · rw [a2] at b2; cases b2; exact a3 b3
/-- the class's cells behind the reading -/
def cF (np : Nat) (M M' : Mem) : Prop := (∀ q, q ≠ 39 → (q < 13 ∨ 17 < q) → M' q = M q) ∧ ∀ j, j < 12 * np → M' 15 j = M 15 j ∧ M' 16 j = M 16 j ∧ M' 17 j = M 17 j
def cDe (f : Nat → Int32) (n np k : Nat) (M : Mem) : Prop := ∀ d x c s', deedF f n (dS f n k) = (some (d, x, c), s') → M 15 (12 * np + k) = nI d ∧ M 16 (12 * np + k) = x ∧ M 17 (12 * np + k) = c
def cI (f : Nat → Int32) (n np : Nat) (M : Mem) (k : Nat) (Mx : Mem) : Prop := Mx 13 = M 13 ∧ Mx 14 = M 14 ∧ cF np M Mx ∧ ∀ i, i < k → cDe f n np i Mx
theorem cI.tc {f : Nat → Int32} {n np k : Nat} {M Mx : Mem} (I : cI f n np M k Mx) (T : TC f n M) : TC f n Mx := by
  unfold TC; rw [I.2.2.1.1 37 (by decide) (by omega), I.2.2.1.1 38 (by decide) (by omega)]; exact T
theorem cI.rd {f : Nat → Int32} {n np k : Nat} {M Mx M' : Mem} (I : cI f n np M k Mx) (e : ∀ q, q ≠ 39 → M' q = Mx q) : cI f n np M k M' := by
  obtain ⟨i1, i2, i3, i4⟩ := I
  refine ⟨?_, ?_, ⟨fun q a b => ?_, ?_⟩, ?_⟩
  · rw [e 13 (by decide)]; exact i1
  · rw [e 14 (by decide)]; exact i2
  · rw [e q a]; exact i3.1 q a b
  · rw [e 15 (by decide), e 16 (by decide), e 17 (by decide)]; exact i3.2
  · intro i hi; unfold cDe; rw [e 15 (by decide), e 16 (by decide), e 17 (by decide)]; exact i4 i hi
theorem cI.step {f : Nat → Int32} {n np k : Nat} {M Mx M' : Mem} (I : cI f n np M k Mx) {d : Nat} {x c : Int32} {s' : Nat} (he : deedF f n (dS f n k) = (some (d, x, c), s')) (a15 : M' 15 = upd (Mx 15) (12 * np + k) (nI d)) (a16 : M' 16 = upd (Mx 16) (12 * np + k) x) (a17 : M' 17 = upd (Mx 17) (12 * np + k) c) (e : ∀ q, q ≠ 39 → q ≠ 15 → q ≠ 16 → q ≠ 17 → M' q = Mx q) : cI f n np M (k + 1) M' := by
  obtain ⟨i1, i2, i3, i4⟩ := I
  refine ⟨?_, ?_, ⟨fun q a b => ?_, fun j hj => ?_⟩, fun i hi => ?_⟩
  · rw [e 13 (by decide) (by decide) (by decide) (by decide)]; exact i1
  · rw [e 14 (by decide) (by decide) (by decide) (by decide)]; exact i2
  · rw [e q a (by omega) (by omega) (by omega)]; exact i3.1 q a b
  · rw [a15, a16, a17, pk_un (by omega), pk_un (by omega), pk_un (by omega)]; exact i3.2 j hj
  · by_cases hik : i = k
    · subst hik
      intro d' x' c' s'' he'
      rw [he] at he'
      cases he'
      rw [a15, a16, a17, pk_us, pk_us, pk_us]; exact ⟨rfl, rfl, rfl⟩
    · intro d' x' c' s'' he'
      rw [a15, a16, a17, pk_un (by omega), pk_un (by omega), pk_un (by omega)]
      exact i4 i (by omega) d' x' c' s'' he'
section PGC
variable {w : Wd} {h : Nat} {M : Mem} {K : Int32 → Mem → Prop} {Kv : Mem → Prop} {f : Nat → Int32} {n : Nat}
theorem uX4_readText (hh : 8 ≤ h) (T : TC f n M) {np N : Nat} (hnp : np < 6) (e13 : M 13 0 = nI np) (hN : N ≤ 12) (hg : ∀ k, k < N → goD f n k) (hx : N = 12 ∨ (N < 12 ∧ ¬ goD f n N)) (hKf : ∀ e, e ≤ n → faD f n N e → ∀ M', M' 13 = M 13 → M' 14 = M 14 → cF np M M' → K (nI e) M') (hKo : okD f n N → ∀ M', M' 13 = upd (M 13) 0 (nI (np + 1)) → M' 14 = upd (M 14) np (nI (N + 1)) → (∀ k, k ≤ N → cDe f n np k M') → cF np M M' → K (-1) M') : CSi w h kX4_readText [.ref 39, .ref 13] M K := by
  obtain ⟨h, rfl⟩ : ∃ k, h = k + 1 := ⟨h - 1, by omega⟩
  have hn := T.1
  have L : ∀ k, k ≤ N → ∀ Mx : Mem, cTok f n (dS f n k) Mx → cI f n np M k Mx → RM w (h + 1) kX4_readText 19 [(0, .ref 39), (1, .ref 13), (2, .int (nI (12 * np))), (3, .int (nI k))] [] Mx (fun r M' => ∃ x, r = some (.int x) ∧ K x M') := by
    refine up_ind (fun Mx R I => ?_) (fun k hk ih Mx R I => ?_)
    · rcases hx with rfl | ⟨hlt, hng⟩
      · refine vX4_readText_19 _ _ Mx _ ⟨fun _ => ⟨_, rfl, ?_⟩, fun q => absurd (by decide) q⟩
        rw [R.2.2.1]
        exact hKf _ (dS_le 12) (Or.inl ⟨rfl, rfl⟩) Mx I.1 I.2.1 I.2.2.1
      · refine vX4_readText_19 _ _ Mx _ ⟨fun q => absurd q (nI_ge (b := 12) hlt (by decide)), fun _ => ?_⟩
        rw [nI_add]
        have dl := deedF_le (f := f) (dS_le (f := f) (n := n) N)
        refine uX4_readDeed (by omega) (I.tc T) R (pl := 12 * np + N) (by omega) (fun e he M1 f1 => ⟨fun q => ?_, fun _ => ⟨_, rfl, ?_⟩⟩) (fun d x c s' he M1 c1 a15 a16 a17 f1 => ⟨fun _ => ⟨fun t0 => ⟨fun t3 => ?_, fun _ => ⟨_, rfl, ?_⟩⟩, fun t0 => ?_⟩, fun q => absurd rfl q⟩)
        · rw [he] at dl; exact absurd q (nI_m1 (by have := dl; simp at this; omega))
        · have I1 := I.rd f1
          rw [he] at dl
          exact hKf e dl (Or.inr (Or.inl ⟨hlt, he⟩)) M1 I1.1 I1.2.1 I1.2.2.1
        · rw [c1.2.1] at t3
          exact absurd ⟨d, x, c, s', he, t3⟩ hng
        · have I1 := I.step he a15 a16 a17 f1
          rw [c1.2.1] at t0
          rw [c1.2.2.1]
          exact hKf s' c1.1 (Or.inr (Or.inr ⟨hlt, _, he, t0⟩)) M1 I1.1 I1.2.1 I1.2.2.1
        · have I1 := I.step he a15 a16 a17 f1
          rw [c1.2.1] at t0
          have m13 : M1 13 0 = nI np := by rw [I1.1]; exact e13
          rw [m13, nI_clamp (by omega)]
          refine ⟨vp_in_nI hnp (by decide), fun M2 e2 M3 e3 => ⟨_, rfl, hKo ⟨hlt, _, s', he, t0⟩ M3 ?_ ?_ (fun k hk => ?_) ⟨fun q a b => ?_, fun j hj => ?_⟩⟩⟩
          · rw [e3, mset_eq, e2, mset_ne (by decide), m13, I1.1, nI_1]
          · rw [e3, mset_ne (by decide), e2, mset_eq, I1.2.1, nI_1]
          · unfold cDe
            rw [e3, mset_ne (by decide), mset_ne (by decide), mset_ne (by decide), e2, mset_ne (by decide), mset_ne (by decide), mset_ne (by decide)]
            exact I1.2.2.2 k (by omega)
          · rw [e3, mset_ne (by omega), e2, mset_ne (by omega)]; exact I1.2.2.1.1 q a b
          · rw [e3, mset_ne (by decide), mset_ne (by decide), mset_ne (by decide), e2, mset_ne (by decide), mset_ne (by decide), mset_ne (by decide)]
            exact I1.2.2.1.2 j hj
    · obtain ⟨d0, x0, c0, s0, he0, t30⟩ := hg k hk
      refine vX4_readText_19 _ _ Mx _ ⟨fun q => absurd q (nI_ge (b := 12) (by omega) (by decide)), fun _ => ?_⟩
      rw [nI_add]
      refine uX4_readDeed (by omega) (I.tc T) R (pl := 12 * np + k) (by omega) (fun e he M1 f1 => ?_) (fun d x c s' he M1 c1 a15 a16 a17 f1 => ⟨fun _ => ⟨fun t0 => ⟨fun t3 => ?_, fun t3 => ?_⟩, fun t0 => ?_⟩, fun q => absurd rfl q⟩)
      · rw [he0] at he; cases he
      · have I1 := I.step he a15 a16 a17 f1
        refine uX4_readToken (by omega) (I1.tc T) (enT_le c1.1).2 c1.2.2.2.1 (fun M2 c2 f2 x1 e1 => ?_)
        rw [e1, nI_1]
        refine ih M2 ?_ (I1.rd f2)
        have e : dS f n (k + 1) = tkN f n s' := by rw [dS, he]
        rw [e]; exact c2
      · rw [he0] at he; cases he
        rw [c1.2.1] at t3; exact absurd t30 t3
      · rw [he0] at he; cases he
        rw [c1.2.1, t30] at t0; exact absurd t0 (by decide)
  refine csi_of (by decide) (Nat.le_of_ble_eq_true rfl) (vX4_readText_0 M _ (fun M1 e1 => ?_))
  have f1 : ∀ q, q ≠ 39 → M1 q = M q := fun q a => by rw [e1, mset_ne a]
  refine uX4_readToken (p := 0) (by omega) (T.same f1) (Nat.zero_le _) (by rw [e1, mset_eq, pk_us]; rfl) (fun M2 c2 f2 x1 ex => ?_)
  have f12 : ∀ q, q ≠ 39 → M2 q = M q := fun q a => (f2 q a).trans (f1 q a)
  have ex' : x1 = nI (12 * np) := by
    rw [ex, f12 13 (by decide), e13, Nat.mul_comm]
    exact pk_mul np 12
  rw [ex']
  exact L 0 (Nat.zero_le _) M2 c2 ⟨f12 13 (by decide), f12 14 (by decide), ⟨fun q a _ => f12 q a, fun j _ => by rw [f12 15 (by decide), f12 16 (by decide), f12 17 (by decide)]; exact ⟨rfl, rfl, rfl⟩⟩, fun i hi => absurd hi (by omega)⟩
end PGC
/-- the reference's cells behind the reading -/
def rDe (f : Nat → Int32) (n np k : Nat) (M : Mem) : Prop := ∀ d x c s', deedF f n (dS f n k) = (some (d, x, c), s') → M 60 (435 + 37 * np + 3 * k) = rD d ∧ M 60 (436 + 37 * np + 3 * k) = x ∧ (d < 8 → M 60 (437 + 37 * np + 3 * k) = c)
def rI (f : Nat → Int32) (n np : Nat) (M : Mem) (k : Nat) (Mx : Mem) : Prop := (∀ q, q ≠ 59 → q ≠ 60 → Mx q = M q) ∧ (∀ j, (j < 7 ∨ 12 ≤ j) → Mx 59 j = M 59 j) ∧ (∀ j, (j < 435 + 37 * np ∨ 471 + 37 * np ≤ j) → Mx 60 j = M 60 j) ∧ ∀ i, i < k → rDe f n np i Mx
theorem rI.tr {f : Nat → Int32} {n np k : Nat} {M Mx : Mem} (I : rI f n np M k Mx) (T : TR f n M) : TR f n Mx := by
  unfold TR; rw [I.2.1 6 (by omega), I.1 63 (by decide) (by decide)]; exact T
theorem rI.rd {f : Nat → Int32} {n np k : Nat} {M Mx M' : Mem} (I : rI f n np M k Mx) (e : RD Mx M') : rI f n np M k M' := by
  obtain ⟨i1, i2, i3, i4⟩ := I
  refine ⟨fun q a b => ?_, fun j hj => ?_, ?_, ?_⟩
  · rw [e.1 q a]; exact i1 q a b
  · rw [e.2 j (by omega)]; exact i2 j hj
  · rw [e.1 60 (by decide)]; exact i3
  · intro i hi; unfold rDe; rw [e.1 60 (by decide)]; exact i4 i hi
theorem rI.bad {f : Nat → Int32} {n np k : Nat} {M Mx : Mem} {v : Int32} (I : rI f n np M k Mx) : rI f n np M k (mset Mx 59 11 v) := by
  obtain ⟨i1, i2, i3, i4⟩ := I
  refine ⟨fun q a b => ?_, fun j hj => ?_, ?_, ?_⟩
  · rw [mset_ne a]; exact i1 q a b
  · rw [mset_eq, pk_un (by omega)]; exact i2 j hj
  · rw [mset_ne (by decide)]; exact i3
  · intro i hi; unfold rDe; rw [mset_ne (by decide)]; exact i4 i hi
theorem rI.rx {f : Nat → Int32} {n np k : Nat} {M Mx M' : Mem} (I : rI f n np M k Mx) (hk : k < 12) (e : RX (435 + 37 * np + 3 * k) Mx M') : rI f n np M k M' := by
  obtain ⟨i1, i2, i3, i4⟩ := I
  refine ⟨fun q a b => ?_, fun j hj => ?_, fun j hj => ?_, fun i hi => ?_⟩
  · rw [e.1 q a b]; exact i1 q a b
  · rw [e.2.1 j (by omega)]; exact i2 j hj
  · rw [e.2.2 j (by omega)]; exact i3 j hj
  · unfold rDe; rw [e.2.2 (435 + 37 * np + 3 * i) (by omega), e.2.2 (436 + 37 * np + 3 * i) (by omega), e.2.2 (437 + 37 * np + 3 * i) (by omega)]; exact i4 i hi
theorem rI.step {f : Nat → Int32} {n np k : Nat} {M Mx M' : Mem} (I : rI f n np M k Mx) (hk : k < 12) {d : Nat} {x c : Int32} {s' : Nat} (he : deedF f n (dS f n k) = (some (d, x, c), s')) (a1 : M' 60 (435 + 37 * np + 3 * k) = rD d) (a2 : M' 60 (435 + 37 * np + 3 * k + 1) = x) (a3 : d < 8 → M' 60 (435 + 37 * np + 3 * k + 2) = c) (e : RX (435 + 37 * np + 3 * k) Mx M') : rI f n np M (k + 1) M' := by
  obtain ⟨i1, i2, i3, i4⟩ := I.rx hk e
  refine ⟨i1, i2, i3, fun i hi => ?_⟩
  by_cases hik : i = k
  · subst hik
    intro d' x' c' s'' he'
    rw [he] at he'
    cases he'
    rw [show 436 + 37 * np + 3 * i = 435 + 37 * np + 3 * i + 1 by omega, show 437 + 37 * np + 3 * i = 435 + 37 * np + 3 * i + 2 by omega]
    exact ⟨a1, a2, a3⟩
  · exact i4 i (by omega)
def rF (np : Nat) (M M' : Mem) : Prop := (∀ q, q ≠ 59 → q ≠ 60 → M' q = M q) ∧ M' 59 2 = M 59 2 ∧ M' 59 4 = M 59 4 ∧ M' 59 6 = 0 ∧ ∀ j, j ≠ 5 → (j < 434 + 37 * np ∨ 471 + 37 * np ≤ j) → M' 60 j = M 60 j
section PGR
variable {w : Wd} {h : Nat} {M : Mem} {K : Int32 → Mem → Prop} {Kv : Mem → Prop} {f : Nat → Int32} {n : Nat}
theorem in5_666 : vp_in (5 : Int32) 666 := (vp_in_nI (by decide : 5 < 666) (by decide) : vp_in (nI 5) 666)
theorem cl5 : Int32.toNatClampNeg 5 = 5 := rfl
theorem uX11_program (hh : 8 ≤ h) (T : TR f n M) {np N : Nat} (hnp : np < 6) (e5 : M 60 5 = nI np) (hN : N ≤ 12) (hg : ∀ k, k < N → goD f n k) (hx : N = 12 ∨ (N < 12 ∧ ¬ goD f n N)) (hKf : ∀ e, faD f n N e → ∀ M', M' 60 5 = nI np → rF np M M' → K (-1 - nI e) M') (hKo : okD f n N → ∀ M', M' 60 5 = nI (np + 1) → M' 60 (434 + 37 * np) = nI (N + 1) → (∀ k, k ≤ N → rDe f n np k M') → rF np M M' → K (nI np) M') : CSi w h kX11_program [.ref 59] M K := by
  obtain ⟨h, rfl⟩ : ∃ k, h = k + 1 := ⟨h - 1, by omega⟩
  have hn := T.1
  have X0 : ∀ e v2 k (Mx : Mem), rI f n np M k Mx → ¬ Mx 59 11 = 0 → Mx 59 8 = nI e → faD f n N e → RM w (h + 1) kX11_program 50 [(0, .ref 59), (1, .int (nI (434 + 37 * np))), (2, .int v2), (3, .int 0)] [] Mx (fun r M' => ∃ x, r = some (.int x) ∧ K x M') := by
    intro e v2 k Mx I b8 b9 fa
    refine vX11_program_50 _ _ _ Mx _ ⟨fun _ => ⟨fun _ M1 e1 x1 ex M2 e2 => ⟨fun q => ?_, fun _ => ⟨_, rfl, ?_⟩⟩, fun q => absurd q b8⟩, fun q => absurd rfl q⟩
    · rw [e2, mset_eq, pk_un (by decide), e1, mset_eq, pk_us] at q; exact absurd q (by decide)
    · rw [ex, e1, mset_eq, pk_un (by decide), b9]
      rw [e2, e1]
      refine hKf e fa _ ?_ ⟨fun q a b => ?_, ?_, ?_, ?_, fun j a b => ?_⟩
      · rw [mset_ne (by decide), mset_ne (by decide), I.2.2.1 5 (by omega)]; exact e5
      · rw [mset_ne a, mset_ne a]; exact I.1 q a b
      · rw [mset_eq, pk_un (by decide), mset_eq, pk_un (by decide)]; exact I.2.1 2 (by omega)
      · rw [mset_eq, pk_un (by decide), mset_eq, pk_un (by decide)]; exact I.2.1 4 (by omega)
      · rw [mset_eq, pk_us]
      · rw [mset_ne (by decide), mset_ne (by decide)]; exact I.2.2.1 j (by omega)
  have L : ∀ k, k ≤ N → ∀ Mx : Mem, rTok f n (dS f n k) Mx → rI f n np M k Mx → RM w (h + 1) kX11_program 50 [(0, .ref 59), (1, .int (nI (434 + 37 * np))), (2, .int (nI k)), (3, .int 1)] [] Mx (fun r M' => ∃ x, r = some (.int x) ∧ K x M') := by
    have ad : ∀ k : Nat, nI (434 + 37 * np) + 1 + 3 * nI k = nI (435 + 37 * np + 3 * k) := by
      intro k
      rw [nI_1, show (3 : Int32) * nI k = nI (3 * k) from pk_mul 3 k, nI_add]
      congr 1; omega
    refine up_ind (fun Mx R I => ?_) (fun k hk ih Mx R I => ?_)
    · refine vX11_program_50 _ _ _ Mx _ ⟨fun q => absurd q (by decide), fun _ Ma ea => ?_⟩
      rcases hx with rfl | ⟨hlt, hng⟩
      · rw [b2i_t (show nI 12 = 12 from rfl)] at ea
        have b1 : ¬ Ma 59 11 = 0 := by rw [ea, mset_eq, pk_us]; decide
        refine ⟨fun _ x1 e1 => uX11_isSign_bad b1 ⟨fun _ => X0 (dS f n 12) _ 12 Ma ?_ b1 ?_ (Or.inl ⟨rfl, rfl⟩), fun q => absurd rfl q⟩, fun q => absurd q b1⟩
        · rw [ea]; exact I.bad
        · rw [ea, mset_eq, pk_un (by decide)]; exact R.2.2.1
      · rw [b2i_f (show ¬ nI N = 12 from fun z => absurd ((nI_eq (a := N) (b := 12) (by omega) (by decide)).mp z) (by omega))] at ea
        have b0 : Ma 59 11 = 0 := by rw [ea, mset_eq, pk_us]
        have Ia : rI f n np M N Ma := by rw [ea]; exact I.bad
        have Ra : rTok f n (dS f n N) Ma := R.of (fun j a b => by rw [ea, mset_eq, pk_un (by omega)])
        refine ⟨fun q => absurd b0 q, fun _ => ?_⟩
        rw [ad]
        refine uX11_deed (by omega) (Ia.tr T) b0 Ra (by omega) (fun e he M2 b8 b9 rx x1 e1 => ?_) (fun d x c s' he M2 b8 r2 g1 g2 g3 rx x1 e1 => ?_)
        · exact uX11_isSign_bad b8 ⟨fun _ => X0 e _ N M2 (Ia.rx hlt rx) b8 b9 (Or.inr (Or.inl ⟨hlt, he⟩)), fun q => absurd rfl q⟩
        · have I2 := Ia.step hlt he g1 g2 g3 rx
          refine uX11_isSign (t := 3) (I2.tr T) (Or.inl ⟨rfl, rfl⟩) b8 r2 (fun t3 => absurd ⟨d, x, c, s', he, t3⟩ hng) (fun t3 => ⟨fun _ => ?_, fun q => absurd rfl q⟩)
          by_cases t0 : tyT f n s' = 0
          · refine vX11_program_50 _ _ _ M2 _ ⟨fun _ => ⟨fun q => absurd b8 q, fun _ M3 e3 x3 ex3 M4 e4 => ?_⟩, fun q => absurd rfl q⟩
            rw [r2.2.1, b2i_f (fun z => z (so0.mpr t0))] at e3
            have m60 : M4 60 = M2 60 := by rw [e4, mset_ne (by decide), e3, mset_ne (by decide)]
            refine ⟨fun _ => ⟨vp_in_nI (by omega) (by decide), fun M5 e5' => ⟨in5_666, in5_666, fun M6 e6 => ⟨in5_666, _, rfl, ?_⟩⟩⟩, fun q => ?_⟩
            · rw [cl5] at e6 ⊢
              rw [nI_clamp (by omega)] at e5'
              have m5 : M5 60 = upd (M2 60) (434 + 37 * np) x1 := by rw [e5', mset_eq, m60]
              have m55 : M5 60 5 = nI np := by rw [m5, pk_un (by omega), I2.2.2.1 5 (by omega)]; exact e5
              rw [m55, nI_1] at e6
              have m6 : M6 60 = upd (upd (M2 60) (434 + 37 * np) x1) 5 (nI (np + 1)) := by rw [e6, mset_eq, m5]
              have m65 : M6 60 5 = nI (np + 1) := by rw [m6, pk_us]
              have m6o : ∀ q, q ≠ 60 → M6 q = M4 q := fun q a => by rw [e6, mset_ne a, e5', mset_ne a]
              rw [m65, nI_pred]
              refine hKo ⟨hlt, _, s', he, t0⟩ M6 m65 ?_ (fun k hk => ?_) ⟨fun q a b => ?_, ?_, ?_, ?_, fun j a b => ?_⟩
              · rw [m6, pk_un (by omega), pk_us, e1, nI_1]
              · unfold rDe
                rw [m6, pk_un (by omega), pk_un (by omega), pk_un (by omega), pk_un (by omega), pk_un (by omega), pk_un (by omega)]
                exact I2.2.2.2 k (by omega)
              · rw [m6o q b, e4, mset_ne a, e3, mset_ne a]; exact I2.1 q a b
              · rw [m6o 59 (by decide), e4, mset_eq, pk_un (by decide), e3, mset_eq, pk_un (by decide)]; exact I2.2.1 2 (by omega)
              · rw [m6o 59 (by decide), e4, mset_eq, pk_un (by decide), e3, mset_eq, pk_un (by decide)]; exact I2.2.1 4 (by omega)
              · rw [m6o 59 (by decide), e4, mset_eq, pk_us]
              · rw [m6, pk_un a, pk_un (by omega)]; exact I2.2.2.1 j (by omega)
            · rw [e4, mset_eq, pk_un (by decide), e3, mset_eq, pk_us] at q; exact absurd rfl q
          · refine vX11_program_50 _ _ _ M2 _ ⟨fun _ => ⟨fun q => absurd b8 q, fun _ M3 e3 x3 ex3 M4 e4 => ?_⟩, fun q => absurd rfl q⟩
            rw [r2.2.1, b2i_t (show ¬ soT f n s' = 0 from fun z => t0 (so0.mp z))] at e3
            refine ⟨fun q => ?_, fun _ => ⟨_, rfl, ?_⟩⟩
            · rw [e4, mset_eq, pk_un (by decide), e3, mset_eq, pk_us] at q; exact absurd q (by decide)
            · rw [ex3, e3, mset_eq, pk_un (by decide), r2.2.2.1]
              rw [e4, e3]
              refine hKf s' (Or.inr (Or.inr ⟨hlt, _, he, t0⟩)) _ ?_ ⟨fun q a b => ?_, ?_, ?_, ?_, fun j a b => ?_⟩
              · rw [mset_ne (by decide), mset_ne (by decide), I2.2.2.1 5 (by omega)]; exact e5
              · rw [mset_ne a, mset_ne a]; exact I2.1 q a b
              · rw [mset_eq, pk_un (by decide), mset_eq, pk_un (by decide)]; exact I2.2.1 2 (by omega)
              · rw [mset_eq, pk_un (by decide), mset_eq, pk_un (by decide)]; exact I2.2.1 4 (by omega)
              · rw [mset_eq, pk_us]
              · rw [mset_ne (by decide), mset_ne (by decide)]; exact I2.2.2.1 j (by omega)
    · obtain ⟨d0, x0, c0, s0, he0, t30⟩ := hg k hk
      refine vX11_program_50 _ _ _ Mx _ ⟨fun q => absurd q (by decide), fun _ Ma ea => ?_⟩
      rw [b2i_f (show ¬ nI k = 12 from fun z => absurd ((nI_eq (a := k) (b := 12) (by omega) (by decide)).mp z) (by omega))] at ea
      have b0 : Ma 59 11 = 0 := by rw [ea, mset_eq, pk_us]
      have Ia : rI f n np M k Ma := by rw [ea]; exact I.bad
      have Ra : rTok f n (dS f n k) Ma := R.of (fun j a b => by rw [ea, mset_eq, pk_un (by omega)])
      refine ⟨fun q => absurd b0 q, fun _ => ?_⟩
      rw [ad]
      refine uX11_deed (by omega) (Ia.tr T) b0 Ra (by omega) (fun e he M2 b8 b9 rx x1 e1 => ?_) (fun d x c s' he M2 b8 r2 g1 g2 g3 rx x1 e1 => ?_)
      · rw [he0] at he; cases he
      · have I2 := Ia.step (by omega) he g1 g2 g3 rx
        have es : s0 = s' := by rw [he0] at he; cases he; rfl
        subst es
        refine uX11_isSign (t := 3) (I2.tr T) (Or.inl ⟨rfl, rfl⟩) b8 r2 (fun t3 => ⟨fun q => absurd q (by decide), fun _ => ?_⟩) (fun t3 => absurd t30 t3)
        refine uX11_token (by omega) (I2.tr T) (enT_le r2.1).2 r2.2.2.2.1 (fun M4 r4 f4 => ?_)
        rw [e1, nI_1]
        refine ih M4 ?_ (I2.rd f4)
        have e : dS f n (k + 1) = tkN f n s0 := by rw [dS, he]
        rw [e]; exact r4
  refine csi_of (by decide) (Nat.le_of_ble_eq_true rfl) (vX11_program_0 M _ ⟨in5_666, fun _ => ⟨in5_666, fun x1 ex M1 e1 M2 e2 => ?_⟩, fun q => ?_⟩)
  · rw [cl5, e5, show (37 : Int32) * nI np = nI (37 * np) from pk_mul 37 np, show (434 : Int32) + nI (37 * np) = nI (434 + 37 * np) from nI_add 434 (37 * np)] at ex
    have m9 : M2 59 9 = nI 0 := by rw [e2, mset_eq, pk_un (by decide), e1, mset_eq, pk_us]; rfl
    have mq : ∀ q, q ≠ 59 → M2 q = M q := fun q a => by rw [e2, mset_ne a, e1, mset_ne a]
    have mj : ∀ j, j ≠ 9 → j ≠ 11 → M2 59 j = M 59 j := fun j a b => by rw [e2, mset_eq, pk_un b, e1, mset_eq, pk_un a]
    have I2 : rI f n np M 0 M2 := ⟨fun q a _ => mq q a, fun j hj => ?_, fun j _ => by rw [mq 60 (by decide)], fun i hi => absurd hi (by omega)⟩
    · rw [ex]
      exact uX11_token (p := 0) (by omega) (I2.tr T) (Nat.zero_le _) m9 (fun M3 r3 f3 => L 0 (Nat.zero_le _) M3 r3 (I2.rd f3))
    · rcases Nat.lt_or_ge j 7 with z | z
      · exact mj j (by omega) (by omega)
      · exact mj j (by omega) (by omega)
  · rw [cl5, e5] at q
    exact absurd ((nI_eq (b := 6) (by omega) (by decide)).mp q) (by omega)
end PGR
theorem INV.prog {M M' : Mem} (hI : INV M) (h : cR 3 M' (M' 60)) (ht : iTape M') (f : ∀ q, ¬ (3 ≤ q ∧ q ≤ 19) → q ≠ 60 → q ≠ 37 → ¬ jc q → M' q = M q) (f2 : M' 59 2 = M 59 2) (f4 : M' 59 4 = M 59 4) : INV M' := by
  obtain ⟨h1, ⟨k1, k2, k3⟩, h3, h4, h5, h6⟩ := hI
  have fa : ∀ q, ¬ (q = 7 ∨ q = 39 ∨ (49 ≤ q ∧ q ≤ 59) ∨ q = 64 ∨ q = 65 ∨ q = 66) → ¬ (3 ≤ q ∧ q ≤ 19) → q ≠ 60 → q ≠ 37 → M' q = M q := fun q a b c d => f q b c d a
  refine ⟨SR_cR.mpr h, ⟨?_, ?_, fun hz => ?_⟩, ?_, ht, ?_, ?_⟩
  · rw [fa 0 (by omega) (by omega) (by omega) (by omega), f2]; exact k1
  · rw [f2]; exact k2
  · rw [f2] at hz
    exact (k3 hz).same (fa 61 (by omega) (by omega) (by omega) (by omega)) (fun q a b c => fa q (by omega) (by omega) (by omega) (by omega))
  · unfold iFound; rw [fa 2 (by omega) (by omega) (by omega) (by omega), fa 62 (by omega) (by omega) (by omega) (by omega)]; exact h3
  · exact h5.same (fun q a b => fa q (by omega) (by omega) (by omega) (by omega)) (fa 67 (by omega) (by omega) (by omega) (by omega)) (fa 68 (by omega) (by omega) (by omega) (by omega)) (fa 69 (by omega) (by omega) (by omega) (by omega))
  · rw [f4]; exact h6
/-- programs changed, the rest of the scene not -/
theorem cR.prg {M M' : Mem} {f f' : Nat → Int32} (c : cR 3 M f) (e : ∀ q, 3 ≤ q → q ≤ 19 → (q < 13 ∨ 17 < q) → M' q = M q) (hf : ∀ j, j ≠ 5 → (j < 434 ∨ 656 ≤ j) → f' j = f j) (g : gProg (M' 13) (M' 14) (M' 15) (M' 16) (M' 17) f') : cR 3 M' f' := by
  have c1 : cR 3 (fun q => if 13 ≤ q ∧ q ≤ 17 then M' q else M q) f' := by
    refine c.uProg (fun q hq => ?_) hf ?_
    · show (if 13 ≤ q ∧ q ≤ 17 then M' q else M q) = M q
      rw [if_neg (by omega)]
    · exact g
  refine c1.same (fun q a b d => ?_)
  show M' q = (if 13 ≤ q ∧ q ≤ 17 then M' q else M q)
  by_cases hq : 13 ≤ q ∧ q ≤ 17
  · rw [if_pos hq]
  · rw [if_neg hq]; exact e q a (by omega) (by omega)
section PG
variable {w : Wd} {M : Mem}
theorem p_program (hI : INV M) : PAIR w kX10_program kX11_program [] M := by
  obtain ⟨l, hl, t1, t2, t3⟩ := hI.2.2.2.1
  have cr := hI.cr
  obtain ⟨np, np1, np2, np3, np4⟩ := cr.p
  have np2' : M 13 0 = nI np := np2
  by_cases h6 : np = 6
  · subst h6
    refine pairQ hI (.inr 1) in1 (fun K hK => ?_) (fun M1 r K hK => ?_)
    · refine csi_of (by decide) (Nat.le_of_ble_eq_true rfl) (vX10_program_0 M _ ⟨fun q => ?_, fun _ => tell1 (hK _ FR.refl)⟩)
      rw [np2'] at q; exact absurd q (by decide)
    · refine csi_of (by decide) (Nat.le_of_ble_eq_true rfl) (vX11_program_0 M1 _ ⟨in5_666, fun q => ?_, fun _ => find1 (hK _ FR.refl)⟩)
      rw [cl5, r.m60, np3] at q; exact absurd rfl q
  · have hnp : np < 6 := by omega
    have T : TC (M 38) l M := ⟨hl, t1, fun _ _ => rfl⟩
    obtain ⟨N, hN, hg, hx⟩ := goD_ex (M 38) l
    have oldC : ∀ M' : Mem, cF np M M' → ∀ p, p < np → ∀ i, i < 12 → M' 15 (12 * p + i) = M 15 (12 * p + i) ∧ M' 16 (12 * p + i) = M 16 (12 * p + i) ∧ M' 17 (12 * p + i) = M 17 (12 * p + i) := fun M' c p hp i hi => c.2 _ (by omega)
    -- what both sides leave
    have FIN : ∀ M1 M2 M3 : Mem, cF np M M1 → M2 = mset M1 37 1 0 → rF np M2 M3 → (∀ f', M3 60 = f' → gProg (M1 13) (M1 14) (M1 15) (M1 16) (M1 17) f') → INV M3 := by
      intro M1 M2 M3 c e2 r g
      have m3 : ∀ q, q ≠ 59 → q ≠ 60 → q ≠ 37 → M3 q = M1 q := fun q a b d => by rw [r.1 q a b, e2, mset_ne d]
      have m260 : M2 60 = M 60 := by rw [e2, mset_ne (by decide)]; exact c.1 60 (by decide) (by omega)
      have m259 : M2 59 = M 59 := by rw [e2, mset_ne (by decide)]; exact c.1 59 (by decide) (by omega)
      refine hI.prog ?_ ⟨0, by omega, ?_, ?_, fun j hj => absurd hj (by omega)⟩ (fun q a b d j => ?_) ?_ ?_
      · refine cr.prg (fun q a b d => ?_) (fun j a b => ?_) ?_
        · rw [m3 q (by omega) (by omega) (by omega)]; exact c.1 q (by omega) d
        · rw [r.2.2.2.2 j a (by omega), m260]
        · rw [m3 13 (by decide) (by decide) (by decide), m3 14 (by decide) (by decide) (by decide), m3 15 (by decide) (by decide) (by decide), m3 16 (by decide) (by decide) (by decide), m3 17 (by decide) (by decide) (by decide)]
          exact g _ rfl
      · rw [r.1 37 (by decide) (by decide), e2, mset_eq, pk_us]; rfl
      · rw [r.2.2.2.1]; rfl
      · have q59 : q ≠ 59 := fun z => j (by subst z; unfold jc; omega)
        have q39 : q ≠ 39 := fun z => j (by subst z; unfold jc; omega)
        rw [m3 q q59 b d]; exact c.1 q q39 (by omega)
      · rw [r.2.1, m259]
      · rw [r.2.2.1, m259]
    have RT : ∀ M1 M2 : Mem, cF np M M1 → M2 = mset M1 37 1 0 → TR (M 38) l M2 ∧ M2 60 5 = nI np ∧ M2 60 = M 60 := by
      intro M1 M2 c e2
      have m260 : M2 60 = M 60 := by rw [e2, mset_ne (by decide)]; exact c.1 60 (by decide) (by omega)
      refine ⟨⟨hl, ?_, fun j hj => ?_⟩, by rw [m260]; exact np3, m260⟩
      · rw [e2, mset_ne (by decide), c.1 59 (by decide) (by omega)]; exact t2
      · rw [e2, mset_ne (by decide), c.1 63 (by decide) (by omega)]; exact (t3 j hj).1.symm
    refine csi_of (by decide) (Nat.le_of_ble_eq_true rfl) (vX10_program_0 M _ ⟨fun _ => uX4_readText (by decide) T hnp np2' hN hg hx (fun e hel fa M1 m13 m14 c M2 e2 => ⟨_, rfl, ?_⟩) (fun ok M1 m13 m14 de c M2 e2 => ⟨_, rfl, ?_⟩), fun q => ?_⟩)
    · rw [if_neg (nI_m1 (by omega))]
      obtain ⟨T2, f5, m260⟩ := RT M1 M2 c e2
      refine uX11_program (by decide) T2 hnp f5 hN hg hx (fun e' fa' M3 g5 r => ⟨?_, ?_⟩) (fun ok => absurd ok (fun z => faD_ok fa z))
      · rw [faD_one fa fa']
      · refine FIN M1 M2 M3 c e2 r (fun f' ef => ⟨np, np1, ?_, ?_, fun p hp => ?_⟩)
        · rw [m13]; exact np2
        · rw [← ef]; exact g5
        · obtain ⟨s, s1, s2, s3, s4, s5⟩ := np4 p hp
          refine ⟨s, s1, s2, ?_, ?_, fun i hi => ?_⟩
          · rw [m14]; exact s3
          · rw [← ef, r.2.2.2.2 _ (by omega) (by omega), m260]; exact s4
          · obtain ⟨o1, o2, o3⟩ := oldC M1 c p hp i (by omega)
            rw [o1, o2, o3, ← ef, r.2.2.2.2 (435 + 37 * p + 3 * i) (by omega) (by omega), r.2.2.2.2 (436 + 37 * p + 3 * i) (by omega) (by omega), r.2.2.2.2 (437 + 37 * p + 3 * i) (by omega) (by omega), m260]
            exact s5 i hi
    · rw [if_pos rfl]
      obtain ⟨T2, f5, m260⟩ := RT M1 M2 c e2
      have v : M2 13 0 - 1 = nI np := by rw [e2, mset_ne (by decide), m13, pk_us, nI_pred]
      rw [v]
      refine uX11_program (by decide) T2 hnp f5 hN hg hx (fun e' fa' => absurd ok (fun z => faD_ok fa' z)) (fun _ M3 g5 g4 rde r => ⟨rfl, ?_⟩)
      refine FIN M1 M2 M3 c e2 r (fun f' ef => ⟨np + 1, by omega, ?_, ?_, fun p hp => ?_⟩)
      · rw [m13, pk_us]
      · rw [← ef]; exact g5
      · by_cases hpn : p = np
        · subst hpn
          refine ⟨N + 1, by omega, by have := ok.1; omega, ?_, ?_, fun i hi => ?_⟩
          · rw [m14, pk_us]
          · rw [← ef]; exact g4
          · have hd : ∃ d x c s', deedF (M 38) l (dS (M 38) l i) = (some (d, x, c), s') := by
              by_cases hiN : i = N
              · subst hiN
                obtain ⟨-, ⟨d, x, c⟩, s', he, -⟩ := ok
                exact ⟨d, x, c, s', he⟩
              · obtain ⟨d, x, c, s', he, -⟩ := hg i (by omega)
                exact ⟨d, x, c, s', he⟩
            obtain ⟨d, x, c', s', he⟩ := hd
            obtain ⟨o1, o2, o3⟩ := de i (by omega) d x c' s' he
            obtain ⟨u1, u2, u3⟩ := rde i (by omega) d x c' s' he
            rw [o1, o2, o3, ← ef, u1, u2]
            exact (deedF_ok he _ u3).2
        · obtain ⟨s, s1, s2, s3, s4, s5⟩ := np4 p (by omega)
          refine ⟨s, s1, s2, ?_, ?_, fun i hi => ?_⟩
          · rw [m14, pk_un hpn]; exact s3
          · rw [← ef, r.2.2.2.2 _ (by omega) (by omega), m260]; exact s4
          · obtain ⟨o1, o2, o3⟩ := oldC M1 c p (by omega) i (by omega)
            rw [o1, o2, o3, ← ef, r.2.2.2.2 (435 + 37 * p + 3 * i) (by omega) (by omega), r.2.2.2.2 (436 + 37 * p + 3 * i) (by omega) (by omega), r.2.2.2.2 (437 + 37 * p + 3 * i) (by omega) (by omega), m260]
            exact s5 i hi
    · rw [np2'] at q; exact absurd (nI_lt (b := 6) hnp (by decide)) q
end PG

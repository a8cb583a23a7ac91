/-! ===== what ties the class's cells to the reference's ===== -/
def sDirt (a r : Nat) (M : Mem) : Prop := ∀ c : Int32, 0 ≤ c → c ≤ 191 → M (a + 2) c.toNatClampNeg = M r (18 + c).toNatClampNeg ∧ 0 ≤ M (a + 2) c.toNatClampNeg ∧ M (a + 2) c.toNatClampNeg ≤ 9
def sWet (a r : Nat) (M : Mem) : Prop := ∀ c : Int32, 0 ≤ c → c ≤ 191 → M (a + 3) c.toNatClampNeg = M r (210 + c).toNatClampNeg ∧ 0 ≤ M (a + 3) c.toNatClampNeg ∧ M (a + 3) c.toNatClampNeg ≤ 99
def sSet (a r : Nat) (M : Mem) : Prop := (M (a + 1) 2 = M r 0 ∧ 0 ≤ M r 0 ∧ M r 0 ≤ 9) ∧ (M (a + 1) 3 = M r 1 ∧ -20 ≤ M r 1 ∧ M r 1 ≤ 20) ∧ (M (a + 1) 4 = M r 2 ∧ 0 ≤ M r 2 ∧ M r 2 ≤ 9)
def sZ (a r : Nat) (M : Mem) : Prop := M a 5 = M r 3 ∧ M a 6 = M r 4
def sShed (a r : Nat) (M : Mem) : Prop := ∀ c, c < 12 → M (a + 15) c = M r (6 + c)
/-- a drop: absent in both, or the same -/
def sDrop1 (a r : Nat) (M : Mem) (d : Nat) : Prop := (M (a + 8) d = 0 ∧ M r (402 + 4 * d) = -1) ∨ ((1 ≤ M (a + 8) d ∧ M (a + 8) d ≤ 99) ∧ (0 ≤ M r (402 + 4 * d) ∧ M r (402 + 4 * d) ≤ 7) ∧ M (a + 6) d = M r (402 + 4 * d) ∧ M (a + 7) d = M r (403 + 4 * d) ∧ (0 ≤ M (a + 7) d ∧ M (a + 7) d ≤ 191) ∧ M (a + 8) d = M r (404 + 4 * d) ∧ M (a + 9) d = M r (405 + 4 * d))
def sDrop (a r : Nat) (M : Mem) : Prop := ∀ d, d < 8 → sDrop1 a r M d
/-- a deed: (class's word, number, column) and (reference's word, number, column) -/
def deedR (d n c d' n' c' : Int32) : Prop := n = n' ∧ (((0 ≤ d ∧ d ≤ 7) ∧ d' = d ∧ c = c' ∧ (1 ≤ n ∧ n ≤ 99) ∧ (0 ≤ c ∧ c ≤ 11)) ∨ (d = 8 ∧ d' = 8 ∧ 1 ≤ n ∧ n ≤ 50) ∨ (d = 9 ∧ d' = 9 ∧ 0 ≤ n ∧ n ≤ 9) ∨ (d = 10 ∧ d' = 11 ∧ 0 ≤ n ∧ n ≤ 9) ∨ (d = 11 ∧ d' = 10 ∧ -20 ≤ n ∧ n ≤ 20) ∨ (d = 12 ∧ d' = 12 ∧ 0 ≤ n ∧ n ≤ 11))
def sProg (a r : Nat) (M : Mem) : Prop := ∃ np : Nat, np ≤ 6 ∧ M (a + 10) 0 = nI np ∧ M r 5 = nI np ∧ ∀ p, p < np → ∃ sz : Nat, 1 ≤ sz ∧ sz ≤ 12 ∧ M (a + 11) p = nI sz ∧ M r (434 + 37 * p) = nI sz ∧ ∀ i, i < sz → deedR (M (a + 12) (12 * p + i)) (M (a + 13) (12 * p + i)) (M (a + 14) (12 * p + i)) (M r (435 + 37 * p + 3 * i)) (M r (436 + 37 * p + 3 * i)) (M r (437 + 37 * p + 3 * i))
def sSpot (a r : Nat) (M : Mem) : Prop := ∀ k, k < 10 → M (a + 16) k = M r (656 + k) ∧ -1 ≤ M (a + 16) k ∧ M (a + 16) k ≤ 7
def SR (a r : Nat) (M : Mem) : Prop := sDirt a r M ∧ sWet a r M ∧ sSet a r M ∧ sZ a r M ∧ sShed a r M ∧ sDrop a r M ∧ sProg a r M ∧ sSpot a r M
def iKept (M : Mem) : Prop := M 0 3 = M 59 2 ∧ (M 59 2 = 0 ∨ M 59 2 = 1) ∧ (¬ M 59 2 = 0 → SR 20 61 M)
def iFound (M : Mem) : Prop := ∀ k, k < 7 → M 2 k = M 62 k
def iTape (M : Mem) : Prop := ∃ n : Nat, n ≤ 100 ∧ M 37 1 = nI n ∧ M 59 6 = nI n ∧ ∀ j, j < n → M 38 j = M 63 j ∧ 0 ≤ M 38 j ∧ M 38 j ≤ 255
def iSheet (M : Mem) : Prop := ∀ s, s < 4 → M (41 + 2 * s) 0 = M 67 s ∧ (M 67 s = 0 ∨ M 67 s = 8 ∨ M 67 s = 16 ∨ M 67 s = 32) ∧ M (41 + 2 * s) 1 = M 68 s ∧ (∃ n : Nat, n ≤ 40 ∧ M 68 s = nI n) ∧ ∀ i, i < 40 → M (42 + 2 * s) i = M 69 (40 * s + i)
def INV (M : Mem) : Prop := SR 3 60 M ∧ iKept M ∧ iFound M ∧ iTape M ∧ iSheet M ∧ M 59 4 = 0
theorem SR.same {a r : Nat} {M M' : Mem} (h : SR a r M) (hr : M' r = M r) (ha : ∀ q, a ≤ q → q ≤ a + 16 → q ≠ a + 4 → M' q = M q) : SR a r M' := by
  obtain ⟨h1, h2, h3, h4, h5, h6, h7, h8⟩ := h
  refine ⟨?_, ?_, ?_, ?_, ?_, ?_, ?_, ?_⟩
  · unfold sDirt; rw [hr, ha (a + 2) (by omega) (by omega) (by omega)]; exact h1
  · unfold sWet; rw [hr, ha (a + 3) (by omega) (by omega) (by omega)]; exact h2
  · unfold sSet; rw [hr, ha (a + 1) (by omega) (by omega) (by omega)]; exact h3
  · unfold sZ; rw [hr, ha a (by omega) (by omega) (by omega)]; exact h4
  · unfold sShed; rw [hr, ha (a + 15) (by omega) (by omega) (by omega)]; exact h5
  · unfold sDrop sDrop1; rw [hr, ha (a + 6) (by omega) (by omega) (by omega), ha (a + 7) (by omega) (by omega) (by omega), ha (a + 8) (by omega) (by omega) (by omega), ha (a + 9) (by omega) (by omega) (by omega)]; exact h6
  · unfold sProg; rw [hr, ha (a + 10) (by omega) (by omega) (by omega), ha (a + 11) (by omega) (by omega) (by omega), ha (a + 12) (by omega) (by omega) (by omega), ha (a + 13) (by omega) (by omega) (by omega), ha (a + 14) (by omega) (by omega) (by omega)]; exact h7
  · unfold sSpot; rw [hr, ha (a + 16) (by omega) (by omega) (by omega)]; exact h8
/-- cells that the tie doesn't speak of -/
def jc (q : Nat) : Prop := q = 7 ∨ q = 39 ∨ (49 ≤ q ∧ q ≤ 59) ∨ q = 64 ∨ q = 65 ∨ q = 66
def FR (M M' : Mem) : Prop := (∀ q, ¬ jc q → M' q = M q) ∧ M' 59 2 = M 59 2 ∧ M' 59 4 = M 59 4 ∧ M' 59 6 = M 59 6
theorem FR.refl {M : Mem} : FR M M := ⟨fun _ _ => rfl, rfl, rfl, rfl⟩
theorem FR.trans {M M' M'' : Mem} (h : FR M M') (h' : FR M' M'') : FR M M'' := ⟨fun q hq => (h'.1 q hq).trans (h.1 q hq), h'.2.1.trans h.2.1, h'.2.2.1.trans h.2.2.1, h'.2.2.2.trans h.2.2.2⟩
theorem FR.c {M M' : Mem} (h : ∀ q, ¬ (q = 7 ∨ q = 39 ∨ (49 ≤ q ∧ q ≤ 58)) → M' q = M q) : FR M M' :=
  ⟨fun q hq => h q (fun z => hq (by unfold jc; rcases z with z | z | z; exact Or.inl z; exact Or.inr (Or.inl z); exact Or.inr (Or.inr (Or.inl ⟨z.1, by omega⟩)))), by rw [h 59 (by omega)], by rw [h 59 (by omega)], by rw [h 59 (by omega)]⟩
theorem FR.at {M M' : Mem} (h : FR M M') (q : Nat) (hq : ¬ (q = 7 ∨ q = 39 ∨ (49 ≤ q ∧ q ≤ 59) ∨ q = 64 ∨ q = 65 ∨ q = 66)) : M' q = M q := h.1 q hq
theorem iSheet.same {M M' : Mem} (h : iSheet M) (hc : ∀ q, 41 ≤ q → q ≤ 48 → M' q = M q) (h7 : M' 67 = M 67) (h8 : M' 68 = M 68) (h9 : M' 69 = M 69) : iSheet M' := by
  intro s hs
  rw [h7, h8, h9, hc (41 + 2 * s) (by omega) (by omega), hc (42 + 2 * s) (by omega) (by omega)]
  exact h s hs
theorem INV.fr {M M' : Mem} (h : INV M) (f : FR M M') : INV M' := by
  obtain ⟨h1, ⟨k1, k2, k3⟩, h3, h4, h5, h6⟩ := h
  refine ⟨h1.same (f.at 60 (by omega)) (fun q a b c => f.at q (by omega)), ⟨?_, ?_, fun hz => ?_⟩, ?_, ?_, ?_, ?_⟩
  · rw [f.at 0 (by omega), f.2.1]; exact k1
  · rw [f.2.1]; exact k2
  · rw [f.2.1] at hz
    exact (k3 hz).same (f.at 61 (by omega)) (fun q a b c => f.at q (by omega))
  · unfold iFound; rw [f.at 2 (by omega), f.at 62 (by omega)]; exact h3
  · unfold iTape; rw [f.at 37 (by omega), f.at 38 (by omega), f.at 63 (by omega), f.2.2.2]; exact h4
  · exact h5.same (fun q a b => f.at q (by omega)) (f.at 67 (by omega)) (f.at 68 (by omega)) (f.at 69 (by omega))
  · rw [f.2.2.1]; exact h6
/-- a finding was told on both sides -/
theorem INV.tell {M M' : Mem} {i : Nat} (h : INV M) (e2 : M' 2 = upd (M 2) i (M 2 i + 1)) (e62 : M' 62 = upd (M 62) i (M 62 i + 1)) (hi : i < 7) (f : ∀ q, ¬ jc q → q ≠ 2 → q ≠ 62 → M' q = M q) (f2 : M' 59 2 = M 59 2) (f4 : M' 59 4 = M 59 4) (f6 : M' 59 6 = M 59 6) : INV M' := by
  obtain ⟨h1, ⟨k1, k2, k3⟩, h3, h4, h5, h6⟩ := h
  have fa : ∀ q, ¬ (q = 7 ∨ q = 39 ∨ (49 ≤ q ∧ q ≤ 59) ∨ q = 64 ∨ q = 65 ∨ q = 66) → q ≠ 2 → q ≠ 62 → M' q = M q := f
  refine ⟨h1.same (fa 60 (by omega) (by omega) (by omega)) (fun q a b c => fa q (by omega) (by omega) (by omega)), ⟨?_, ?_, fun hz => ?_⟩, ?_, ?_, ?_, ?_⟩
  · rw [fa 0 (by omega) (by omega) (by omega), f2]; exact k1
  · rw [f2]; exact k2
  · rw [f2] at hz
    exact (k3 hz).same (fa 61 (by omega) (by omega) (by omega)) (fun q a b c => fa q (by omega) (by omega) (by omega))
  · intro k hk
    rw [e2, e62]
    by_cases hki : k = i
    · subst hki; rw [pk_us, pk_us, h3 k hk]
    · rw [pk_un hki, pk_un hki]; exact h3 k hk
  · unfold iTape; rw [fa 37 (by omega) (by omega) (by omega), fa 38 (by omega) (by omega) (by omega), fa 63 (by omega) (by omega) (by omega), f6]; exact h4
  · exact h5.same (fun q a b => fa q (by omega) (by omega) (by omega)) (fa 67 (by omega) (by omega) (by omega)) (fa 68 (by omega) (by omega) (by omega)) (fa 69 (by omega) (by omega) (by omega))
  · rw [f4]; exact h6
theorem INV.pane {M : Mem} (h : INV M) : pnI M 4 (dtR M) (wtR M) (M 60 0) := by
  obtain ⟨⟨h1, h2, h3, -⟩, -, -, -, -, h6⟩ := h
  refine ⟨fun c c0 c1 => (h1 c c0 c1).1, fun c c0 c1 => ?_, h3.1.1⟩
  obtain ⟨a, b, -⟩ := h2 c c0 c1
  have e : wtR M c = M 60 (210 + c).toNatClampNeg := by unfold wtR; rw [if_pos h6]
  rw [e, ← a]
  exact ⟨rfl, b⟩
theorem dtR_fr {M M' : Mem} (f : FR M M') : dtR M' = dtR M := by funext c; unfold dtR; rw [f.at 60 (by omega)]
theorem wtR_fr {M M' : Mem} (f : FR M M') : wtR M' = wtR M := by funext c; unfold wtR; rw [f.at 60 (by omega), f.2.2.1]
/-- both sides tell finding i, with nothing else changed that matters: the class's side first -/
theorem pair_tell {w : Wd} {h h' : Nat} {M M1 : Mem} {i : Nat} {a f : Int32} (hI : INV M) (hf1 : FR M M1) (hi : i < 7) (ha : a = nI i) (hff : -1000001 - f = nI i) {Kx : Int32 → Mem → Prop} {C : (Int32 → Mem → Prop) → Mem → Prop}
    (hC : ∀ M2, M2 = mset M1 2 i (M1 2 i + 1) → ∀ K' : Int32 → Mem → Prop, (∀ M3, FR M2 M3 → CSi w h' kX11_finds [.ref 59, .int f] M3 K') → C K' M2) (hKx : ∀ (r : Int32) (M2 : Mem), r = f → C (fun r2 M4 => r = r2 ∧ INV M4) M2 → Kx r M2) : CSi w h kX1_tell [.ref 1, .int a] M1 Kx := by
  have hfa : -1000001 - a = f := by
    have : a = -1000001 - f := by rw [ha, hff]
    rw [this]; clear this ha hff; grind
  refine uX1_tell i hi ha ?_
  rw [hfa]
  refine hKx f _ rfl (hC _ rfl _ (fun M3 f3 => uX11_finds i hi hff ⟨rfl, ?_⟩))
  have n2 : ∀ q, q ≠ 2 → (mset M1 2 i (M1 2 i + 1)) q = M1 q := fun q hq => mset_ne hq
  refine INV.tell (i := i) hI ?_ ?_ hi ?_ ?_ ?_ ?_
  · rw [mset_ne (by decide), f3.at 2 (by omega), mset_eq, hf1.at 2 (by omega)]
  · rw [mset_eq, f3.at 62 (by omega), n2 62 (by decide), hf1.at 62 (by omega)]
  · intro q hq h2 h62
    rw [mset_ne h62, f3.1 q hq, n2 q h2, hf1.1 q hq]
  · rw [mset_ne (by decide), f3.2.1, n2 59 (by decide), hf1.2.1]
  · rw [mset_ne (by decide), f3.2.2.1, n2 59 (by decide), hf1.2.2.1]
  · rw [mset_ne (by decide), f3.2.2.2, n2 59 (by decide), hf1.2.2.2]

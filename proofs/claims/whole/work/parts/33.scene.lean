/-! ===== a scene: the class's cells from a on hold what the reference's row f holds ===== -/
def gDirt (m f : Nat → Int32) : Prop := ∀ k, k < 192 → m k = f (18 + k) ∧ 0 ≤ f (18 + k) ∧ f (18 + k) ≤ 9
def gWet (m f : Nat → Int32) : Prop := ∀ k, k < 192 → m k = f (210 + k) ∧ 0 ≤ f (210 + k) ∧ f (210 + k) ≤ 99
def gSet (m f : Nat → Int32) : Prop := (m 2 = f 0 ∧ 0 ≤ f 0 ∧ f 0 ≤ 9) ∧ (m 3 = f 1 ∧ -20 ≤ f 1 ∧ f 1 ≤ 20) ∧ (m 4 = f 2 ∧ 0 ≤ f 2 ∧ f 2 ≤ 9)
def gZ (m f : Nat → Int32) : Prop := m 5 = f 3 ∧ m 6 = f 4
def gShed (m f : Nat → Int32) : Prop := ∀ c, c < 12 → m c = f (6 + c)
def gDrop1 (k c wa st f : Nat → Int32) (d : Nat) : Prop := (wa d = 0 ∧ f (402 + 4 * d) = -1) ∨ ((1 ≤ wa d ∧ wa d ≤ 99) ∧ (0 ≤ f (402 + 4 * d) ∧ f (402 + 4 * d) ≤ 7) ∧ k d = f (402 + 4 * d) ∧ c d = f (403 + 4 * d) ∧ (0 ≤ c d ∧ c d ≤ 191) ∧ wa d = f (404 + 4 * d) ∧ st d = f (405 + 4 * d))
def gDrop (k c wa st f : Nat → Int32) : Prop := ∀ d, d < 8 → gDrop1 k c wa st f d
def gProg (o sz de nu co f : Nat → Int32) : Prop := ∃ np : Nat, np ≤ 6 ∧ o 0 = nI np ∧ f 5 = nI np ∧ ∀ p, p < np → ∃ s : Nat, 1 ≤ s ∧ s ≤ 12 ∧ sz p = nI s ∧ f (434 + 37 * p) = nI s ∧ ∀ i, i < s → deedR (de (12 * p + i)) (nu (12 * p + i)) (co (12 * p + i)) (f (435 + 37 * p + 3 * i)) (f (436 + 37 * p + 3 * i)) (f (437 + 37 * p + 3 * i))
def gSpot (m f : Nat → Int32) : Prop := ∀ k, k < 10 → m k = f (656 + k) ∧ -1 ≤ m k ∧ m k ≤ 7
theorem gDirt.f {m f f' : Nat → Int32} (h : gDirt m f) (e : ∀ j, 18 ≤ j → j < 210 → f' j = f j) : gDirt m f' := fun k hk => by rw [e (18 + k) (by omega) (by omega)]; exact h k hk
theorem gWet.f {m f f' : Nat → Int32} (h : gWet m f) (e : ∀ j, 210 ≤ j → j < 402 → f' j = f j) : gWet m f' := fun k hk => by rw [e (210 + k) (by omega) (by omega)]; exact h k hk
theorem gSet.f {m f f' : Nat → Int32} (h : gSet m f) (e : ∀ j, j < 3 → f' j = f j) : gSet m f' := by unfold gSet; rw [e 0 (by decide), e 1 (by decide), e 2 (by decide)]; exact h
theorem gZ.f {m f f' : Nat → Int32} (h : gZ m f) (e : ∀ j, 3 ≤ j → j < 5 → f' j = f j) : gZ m f' := by unfold gZ; rw [e 3 (by decide) (by decide), e 4 (by decide) (by decide)]; exact h
theorem gShed.f {m f f' : Nat → Int32} (h : gShed m f) (e : ∀ j, 6 ≤ j → j < 18 → f' j = f j) : gShed m f' := fun k hk => by rw [e (6 + k) (by omega) (by omega)]; exact h k hk
theorem gDrop.f {k c wa st f f' : Nat → Int32} (h : gDrop k c wa st f) (e : ∀ j, 402 ≤ j → j < 434 → f' j = f j) : gDrop k c wa st f' := fun d hd => by
  unfold gDrop1
  rw [e (402 + 4 * d) (by omega) (by omega), e (403 + 4 * d) (by omega) (by omega), e (404 + 4 * d) (by omega) (by omega), e (405 + 4 * d) (by omega) (by omega)]
  exact h d hd
theorem gProg.f {o sz de nu co f f' : Nat → Int32} (h : gProg o sz de nu co f) (e5 : f' 5 = f 5) (e : ∀ j, 434 ≤ j → j < 656 → f' j = f j) : gProg o sz de nu co f' := by
  obtain ⟨np, h1, h2, h3, h4⟩ := h
  refine ⟨np, h1, h2, by rw [e5]; exact h3, fun p hp => ?_⟩
  obtain ⟨s, s1, s2, s3, s4, s5⟩ := h4 p hp
  refine ⟨s, s1, s2, s3, by rw [e _ (by omega) (by omega)]; exact s4, fun i hi => ?_⟩
  rw [e (435 + 37 * p + 3 * i) (by omega) (by omega), e (436 + 37 * p + 3 * i) (by omega) (by omega), e (437 + 37 * p + 3 * i) (by omega) (by omega)]
  exact s5 i hi
theorem gSpot.f {m f f' : Nat → Int32} (h : gSpot m f) (e : ∀ j, 656 ≤ j → f' j = f j) : gSpot m f' := fun k hk => by rw [e (656 + k) (by omega)]; exact h k hk
def cR (a : Nat) (M : Mem) (f : Nat → Int32) : Prop := gDirt (M (a + 2)) f ∧ gWet (M (a + 3)) f ∧ gSet (M (a + 1)) f ∧ gZ (M a) f ∧ gShed (M (a + 15)) f ∧ gDrop (M (a + 6)) (M (a + 7)) (M (a + 8)) (M (a + 9)) f ∧ gProg (M (a + 10)) (M (a + 11)) (M (a + 12)) (M (a + 13)) (M (a + 14)) f ∧ gSpot (M (a + 16)) f
theorem cR.d {a : Nat} {M : Mem} {f : Nat → Int32} (c : cR a M f) : gDirt (M (a + 2)) f := c.1
theorem cR.w {a : Nat} {M : Mem} {f : Nat → Int32} (c : cR a M f) : gWet (M (a + 3)) f := c.2.1
theorem cR.s {a : Nat} {M : Mem} {f : Nat → Int32} (c : cR a M f) : gSet (M (a + 1)) f := c.2.2.1
theorem cR.z {a : Nat} {M : Mem} {f : Nat → Int32} (c : cR a M f) : gZ (M a) f := c.2.2.2.1
theorem cR.h {a : Nat} {M : Mem} {f : Nat → Int32} (c : cR a M f) : gShed (M (a + 15)) f := c.2.2.2.2.1
theorem cR.r {a : Nat} {M : Mem} {f : Nat → Int32} (c : cR a M f) : gDrop (M (a + 6)) (M (a + 7)) (M (a + 8)) (M (a + 9)) f := c.2.2.2.2.2.1
theorem cR.p {a : Nat} {M : Mem} {f : Nat → Int32} (c : cR a M f) : gProg (M (a + 10)) (M (a + 11)) (M (a + 12)) (M (a + 13)) (M (a + 14)) f := c.2.2.2.2.2.2.1
theorem cR.t {a : Nat} {M : Mem} {f : Nat → Int32} (c : cR a M f) : gSpot (M (a + 16)) f := c.2.2.2.2.2.2.2
theorem SR_cR {a r : Nat} {M : Mem} : SR a r M ↔ cR a M (M r) := by
  constructor
  · intro ⟨h1, h2, h3, h4, h5, h6, h7, h8⟩
    refine ⟨fun k hk => ?_, fun k hk => ?_, h3, h4, h5, h6, h7, h8⟩
    · have := h1 (nI k) (nI_pos' (by omega)) (nI_le (b := 191) (by omega) (by decide))
      rw [n18, nI_clamp (show k < 2 ^ 31 by omega), nI_clamp (show 18 + k < 2 ^ 31 by omega)] at this
      rw [← this.1]; exact ⟨rfl, this.2⟩
    · have := h2 (nI k) (nI_pos' (by omega)) (nI_le (b := 191) (by omega) (by decide))
      rw [n210, nI_clamp (show k < 2 ^ 31 by omega), nI_clamp (show 210 + k < 2 ^ 31 by omega)] at this
      rw [← this.1]; exact ⟨rfl, this.2⟩
  · intro ⟨h1, h2, h3, h4, h5, h6, h7, h8⟩
    refine ⟨fun c c0 c1 => ?_, fun c c0 c1 => ?_, h3, h4, h5, h6, h7, h8⟩
    · obtain ⟨k, hk, rfl⟩ := nI_of2 (n := 191) rfl (Int32.not_lt.mpr c0) c1
      rw [n18, nI_clamp (show k < 2 ^ 31 by omega), nI_clamp (show 18 + k < 2 ^ 31 by omega)]
      have := h1 k (by omega)
      rw [this.1]; exact ⟨rfl, this.2⟩
    · obtain ⟨k, hk, rfl⟩ := nI_of2 (n := 191) rfl (Int32.not_lt.mpr c0) c1
      rw [n210, nI_clamp (show k < 2 ^ 31 by omega), nI_clamp (show 210 + k < 2 ^ 31 by omega)]
      have := h2 k (by omega)
      rw [this.1]; exact ⟨rfl, this.2⟩
section CR
variable {a : Nat} {M M' : Mem} {f f' : Nat → Int32}
theorem cR.same (c : cR a M f) (e : ∀ q, a ≤ q → q ≤ a + 16 → q ≠ a + 4 → M' q = M q) : cR a M' f := by
  obtain ⟨h1, h2, h3, h4, h5, h6, h7, h8⟩ := c
  refine ⟨?_, ?_, ?_, ?_, ?_, ?_, ?_, ?_⟩
  · rw [e _ (by omega) (by omega) (by omega)]; exact h1
  · rw [e _ (by omega) (by omega) (by omega)]; exact h2
  · rw [e _ (by omega) (by omega) (by omega)]; exact h3
  · rw [e _ (by omega) (by omega) (by omega)]; exact h4
  · rw [e _ (by omega) (by omega) (by omega)]; exact h5
  · rw [e (a + 6) (by omega) (by omega) (by omega), e (a + 7) (by omega) (by omega) (by omega), e (a + 8) (by omega) (by omega) (by omega), e (a + 9) (by omega) (by omega) (by omega)]; exact h6
  · rw [e (a + 10) (by omega) (by omega) (by omega), e (a + 11) (by omega) (by omega) (by omega), e (a + 12) (by omega) (by omega) (by omega), e (a + 13) (by omega) (by omega) (by omega), e (a + 14) (by omega) (by omega) (by omega)]; exact h7
  · rw [e _ (by omega) (by omega) (by omega)]; exact h8
theorem cR.uDirt (c : cR a M f) (e : ∀ q, q ≠ a + 2 → M' q = M q) (hf : ∀ j, (j < 18 ∨ 210 ≤ j) → f' j = f j) (g : gDirt (M' (a + 2)) f') : cR a M' f' := by
  obtain ⟨h1, h2, h3, h4, h5, h6, h7, h8⟩ := c
  refine ⟨g, ?_, ?_, ?_, ?_, ?_, ?_, ?_⟩
  · rw [e _ (by omega)]; exact h2.f (fun j a b => hf j (by omega))
  · rw [e _ (by omega)]; exact h3.f (fun j a => hf j (by omega))
  · rw [e _ (by omega)]; exact h4.f (fun j a b => hf j (by omega))
  · rw [e _ (by omega)]; exact h5.f (fun j a b => hf j (by omega))
  · rw [e (a + 6) (by omega), e (a + 7) (by omega), e (a + 8) (by omega), e (a + 9) (by omega)]; exact h6.f (fun j a b => hf j (by omega))
  · rw [e (a + 10) (by omega), e (a + 11) (by omega), e (a + 12) (by omega), e (a + 13) (by omega), e (a + 14) (by omega)]; exact h7.f (hf 5 (by omega)) (fun j a b => hf j (by omega))
  · rw [e _ (by omega)]; exact h8.f (fun j a => hf j (by omega))
theorem cR.uWet (c : cR a M f) (e : ∀ q, q ≠ a + 3 → M' q = M q) (hf : ∀ j, (j < 210 ∨ 402 ≤ j) → f' j = f j) (g : gWet (M' (a + 3)) f') : cR a M' f' := by
  obtain ⟨h1, h2, h3, h4, h5, h6, h7, h8⟩ := c
  refine ⟨?_, g, ?_, ?_, ?_, ?_, ?_, ?_⟩
  · rw [e _ (by omega)]; exact h1.f (fun j a b => hf j (by omega))
  · rw [e _ (by omega)]; exact h3.f (fun j a => hf j (by omega))
  · rw [e _ (by omega)]; exact h4.f (fun j a b => hf j (by omega))
  · rw [e _ (by omega)]; exact h5.f (fun j a b => hf j (by omega))
  · rw [e (a + 6) (by omega), e (a + 7) (by omega), e (a + 8) (by omega), e (a + 9) (by omega)]; exact h6.f (fun j a b => hf j (by omega))
  · rw [e (a + 10) (by omega), e (a + 11) (by omega), e (a + 12) (by omega), e (a + 13) (by omega), e (a + 14) (by omega)]; exact h7.f (hf 5 (by omega)) (fun j a b => hf j (by omega))
  · rw [e _ (by omega)]; exact h8.f (fun j a => hf j (by omega))
theorem cR.uSet (c : cR a M f) (e : ∀ q, q ≠ a + 1 → M' q = M q) (hf : ∀ j, 3 ≤ j → f' j = f j) (g : gSet (M' (a + 1)) f') : cR a M' f' := by
  obtain ⟨h1, h2, h3, h4, h5, h6, h7, h8⟩ := c
  refine ⟨?_, ?_, g, ?_, ?_, ?_, ?_, ?_⟩
  · rw [e _ (by omega)]; exact h1.f (fun j a b => hf j (by omega))
  · rw [e _ (by omega)]; exact h2.f (fun j a b => hf j (by omega))
  · rw [e _ (by omega)]; exact h4.f (fun j a b => hf j (by omega))
  · rw [e _ (by omega)]; exact h5.f (fun j a b => hf j (by omega))
  · rw [e (a + 6) (by omega), e (a + 7) (by omega), e (a + 8) (by omega), e (a + 9) (by omega)]; exact h6.f (fun j a b => hf j (by omega))
  · rw [e (a + 10) (by omega), e (a + 11) (by omega), e (a + 12) (by omega), e (a + 13) (by omega), e (a + 14) (by omega)]; exact h7.f (hf 5 (by omega)) (fun j a b => hf j (by omega))
  · rw [e _ (by omega)]; exact h8.f (fun j a => hf j (by omega))
theorem cR.uZ (c : cR a M f) (e : ∀ q, q ≠ a → M' q = M q) (hf : ∀ j, j ≠ 3 → j ≠ 4 → f' j = f j) (g : gZ (M' a) f') : cR a M' f' := by
  obtain ⟨h1, h2, h3, h4, h5, h6, h7, h8⟩ := c
  refine ⟨?_, ?_, ?_, g, ?_, ?_, ?_, ?_⟩
  · rw [e _ (by omega)]; exact h1.f (fun j a b => hf j (by omega) (by omega))
  · rw [e _ (by omega)]; exact h2.f (fun j a b => hf j (by omega) (by omega))
  · rw [e _ (by omega)]; exact h3.f (fun j a => hf j (by omega) (by omega))
  · rw [e _ (by omega)]; exact h5.f (fun j a b => hf j (by omega) (by omega))
  · rw [e (a + 6) (by omega), e (a + 7) (by omega), e (a + 8) (by omega), e (a + 9) (by omega)]; exact h6.f (fun j a b => hf j (by omega) (by omega))
  · rw [e (a + 10) (by omega), e (a + 11) (by omega), e (a + 12) (by omega), e (a + 13) (by omega), e (a + 14) (by omega)]; exact h7.f (hf 5 (by omega) (by omega)) (fun j a b => hf j (by omega) (by omega))
  · rw [e _ (by omega)]; exact h8.f (fun j a => hf j (by omega) (by omega))
theorem cR.uShed (c : cR a M f) (e : ∀ q, q ≠ a + 15 → M' q = M q) (hf : ∀ j, (j < 6 ∨ 18 ≤ j) → f' j = f j) (g : gShed (M' (a + 15)) f') : cR a M' f' := by
  obtain ⟨h1, h2, h3, h4, h5, h6, h7, h8⟩ := c
  refine ⟨?_, ?_, ?_, ?_, g, ?_, ?_, ?_⟩
  · rw [e _ (by omega)]; exact h1.f (fun j a b => hf j (by omega))
  · rw [e _ (by omega)]; exact h2.f (fun j a b => hf j (by omega))
  · rw [e _ (by omega)]; exact h3.f (fun j a => hf j (by omega))
  · rw [e _ (by omega)]; exact h4.f (fun j a b => hf j (by omega))
  · rw [e (a + 6) (by omega), e (a + 7) (by omega), e (a + 8) (by omega), e (a + 9) (by omega)]; exact h6.f (fun j a b => hf j (by omega))
  · rw [e (a + 10) (by omega), e (a + 11) (by omega), e (a + 12) (by omega), e (a + 13) (by omega), e (a + 14) (by omega)]; exact h7.f (hf 5 (by omega)) (fun j a b => hf j (by omega))
  · rw [e _ (by omega)]; exact h8.f (fun j a => hf j (by omega))
theorem cR.uDrop (c : cR a M f) (e : ∀ q, (q < a + 6 ∨ a + 9 < q) → M' q = M q) (hf : ∀ j, (j < 402 ∨ 434 ≤ j) → f' j = f j) (g : gDrop (M' (a + 6)) (M' (a + 7)) (M' (a + 8)) (M' (a + 9)) f') : cR a M' f' := by
  obtain ⟨h1, h2, h3, h4, h5, h6, h7, h8⟩ := c
  refine ⟨?_, ?_, ?_, ?_, ?_, g, ?_, ?_⟩
  · rw [e _ (by omega)]; exact h1.f (fun j a b => hf j (by omega))
  · rw [e _ (by omega)]; exact h2.f (fun j a b => hf j (by omega))
  · rw [e _ (by omega)]; exact h3.f (fun j a => hf j (by omega))
  · rw [e _ (by omega)]; exact h4.f (fun j a b => hf j (by omega))
  · rw [e _ (by omega)]; exact h5.f (fun j a b => hf j (by omega))
  · rw [e (a + 10) (by omega), e (a + 11) (by omega), e (a + 12) (by omega), e (a + 13) (by omega), e (a + 14) (by omega)]; exact h7.f (hf 5 (by omega)) (fun j a b => hf j (by omega))
  · rw [e _ (by omega)]; exact h8.f (fun j a => hf j (by omega))
theorem cR.uProg (c : cR a M f) (e : ∀ q, (q < a + 10 ∨ a + 14 < q) → M' q = M q) (hf : ∀ j, j ≠ 5 → (j < 434 ∨ 656 ≤ j) → f' j = f j) (g : gProg (M' (a + 10)) (M' (a + 11)) (M' (a + 12)) (M' (a + 13)) (M' (a + 14)) f') : cR a M' f' := by
  obtain ⟨h1, h2, h3, h4, h5, h6, h7, h8⟩ := c
  refine ⟨?_, ?_, ?_, ?_, ?_, ?_, g, ?_⟩
  · rw [e _ (by omega)]; exact h1.f (fun j a b => hf j (by omega) (by omega))
  · rw [e _ (by omega)]; exact h2.f (fun j a b => hf j (by omega) (by omega))
  · rw [e _ (by omega)]; exact h3.f (fun j a => hf j (by omega) (by omega))
  · rw [e _ (by omega)]; exact h4.f (fun j a b => hf j (by omega) (by omega))
  · rw [e _ (by omega)]; exact h5.f (fun j a b => hf j (by omega) (by omega))
  · rw [e (a + 6) (by omega), e (a + 7) (by omega), e (a + 8) (by omega), e (a + 9) (by omega)]; exact h6.f (fun j a b => hf j (by omega) (by omega))
  · rw [e _ (by omega)]; exact h8.f (fun j a => hf j (by omega) (by omega))
theorem cR.uSpot (c : cR a M f) (e : ∀ q, q ≠ a + 16 → M' q = M q) (hf : ∀ j, j < 656 → f' j = f j) (g : gSpot (M' (a + 16)) f') : cR a M' f' := by
  obtain ⟨h1, h2, h3, h4, h5, h6, h7, h8⟩ := c
  refine ⟨?_, ?_, ?_, ?_, ?_, ?_, ?_, g⟩
  · rw [e _ (by omega)]; exact h1.f (fun j a b => hf j (by omega))
  · rw [e _ (by omega)]; exact h2.f (fun j a b => hf j (by omega))
  · rw [e _ (by omega)]; exact h3.f (fun j a => hf j (by omega))
  · rw [e _ (by omega)]; exact h4.f (fun j a b => hf j (by omega))
  · rw [e _ (by omega)]; exact h5.f (fun j a b => hf j (by omega))
  · rw [e (a + 6) (by omega), e (a + 7) (by omega), e (a + 8) (by omega), e (a + 9) (by omega)]; exact h6.f (fun j a b => hf j (by omega))
  · rw [e (a + 10) (by omega), e (a + 11) (by omega), e (a + 12) (by omega), e (a + 13) (by omega), e (a + 14) (by omega)]; exact h7.f (hf 5 (by omega)) (fun j a b => hf j (by omega))
end CR
/-- the class's scene may have changed (and what the tie doesn't speak of) -/
def FS (M M' : Mem) : Prop := (∀ q, ¬ (3 ≤ q ∧ q ≤ 19) → ¬ jc q → M' q = M q) ∧ M' 59 = M 59
/-- the reference's scene may have changed -/
def FX60 (M M' : Mem) : Prop := (∀ q, q ≠ 60 → ¬ jc q → M' q = M q) ∧ M' 59 2 = M 59 2 ∧ M' 59 4 = M 59 4 ∧ M' 59 6 = M 59 6
theorem FS.refl {M : Mem} : FS M M := ⟨fun _ _ _ => rfl, rfl⟩
theorem FS.trans {M M' M'' : Mem} (h : FS M M') (h' : FS M' M'') : FS M M'' := ⟨fun q a b => (h'.1 q a b).trans (h.1 q a b), h'.2.trans h.2⟩
theorem FS.of {M M' : Mem} (h : ∀ q, ¬ (3 ≤ q ∧ q ≤ 19) → M' q = M q) : FS M M' := ⟨fun q a _ => h q a, h 59 (by omega)⟩
theorem FX60.refl {M : Mem} : FX60 M M := ⟨fun _ _ _ => rfl, rfl, rfl, rfl⟩
theorem FX60.trans {M M' M'' : Mem} (h : FX60 M M') (h' : FX60 M' M'') : FX60 M M'' := ⟨fun q a b => (h'.1 q a b).trans (h.1 q a b), h'.2.1.trans h.2.1, h'.2.2.1.trans h.2.2.1, h'.2.2.2.trans h.2.2.2⟩
theorem FX60.of {M M' : Mem} (h : ∀ q, q ≠ 60 → M' q = M q) : FX60 M M' := ⟨fun q a _ => h q a, by rw [h 59 (by decide)], by rw [h 59 (by decide)], by rw [h 59 (by decide)]⟩
theorem INV.cr {M : Mem} (h : INV M) : cR 3 M (M 60) := SR_cR.mp h.1
theorem INV.scene {M M' : Mem} (hI : INV M) (h : cR 3 M' (M' 60)) (f : ∀ q, ¬ (3 ≤ q ∧ q ≤ 19) → q ≠ 60 → ¬ jc q → M' q = M q) (f2 : M' 59 2 = M 59 2) (f4 : M' 59 4 = M 59 4) (f6 : M' 59 6 = M 59 6) : INV M' := by
  obtain ⟨h1, ⟨k1, k2, k3⟩, h3, h4, h5, h6⟩ := hI
  have fa : ∀ q, ¬ (q = 7 ∨ q = 39 ∨ (49 ≤ q ∧ q ≤ 59) ∨ q = 64 ∨ q = 65 ∨ q = 66) → ¬ (3 ≤ q ∧ q ≤ 19) → q ≠ 60 → M' q = M q := fun q a b c => f q b c a
  refine ⟨SR_cR.mpr h, ⟨?_, ?_, fun hz => ?_⟩, ?_, ?_, ?_, ?_⟩
  · rw [fa 0 (by omega) (by omega) (by omega), f2]; exact k1
  · rw [f2]; exact k2
  · rw [f2] at hz
    exact (k3 hz).same (fa 61 (by omega) (by omega) (by omega)) (fun q a b c => fa q (by omega) (by omega) (by omega))
  · unfold iFound; rw [fa 2 (by omega) (by omega) (by omega), fa 62 (by omega) (by omega) (by omega)]; exact h3
  · unfold iTape; rw [fa 37 (by omega) (by omega) (by omega), fa 38 (by omega) (by omega) (by omega), fa 63 (by omega) (by omega) (by omega), f6]; exact h4
  · exact h5.same (fun q a b => fa q (by omega) (by omega) (by omega)) (fa 67 (by omega) (by omega) (by omega)) (fa 68 (by omega) (by omega) (by omega)) (fa 69 (by omega) (by omega) (by omega))
  · rw [f4]; exact h6
section PS
variable {w : Wd} {h : Nat} {M : Mem} {K : Int32 → Mem → Prop}
theorem pairS {kc kr : MI} {as : List Value} (hI : INV M) (x : Int32) (f' : Nat → Int32) (hC : ∀ K, (∀ M', cR 3 M' f' → FS M M' → K x M') → CSi w 12 kc (.ref 0 :: as) M K) (hR : ∀ M1, M1 60 = M 60 → M1 59 4 = 0 → ∀ K, (∀ M', M' 60 = f' → FX60 M1 M' → K x M') → CSi w 12 kr (.ref 59 :: as) M1 K) : PAIR w kc kr as M := by
  refine hC _ (fun M' c s => ?_)
  refine hR M' (s.1 60 (by omega) (by unfold jc; omega)) (by rw [s.2]; exact hI.2.2.2.2.2) _ (fun M2 e t => ⟨rfl, ?_⟩)
  refine hI.scene ?_ ?_ ?_ ?_ ?_
  · rw [e]; exact c.same (fun q a b d => t.1 q (by omega) (by unfold jc; omega))
  · intro q a b d; rw [t.1 q b d]; exact s.1 q a d
  · rw [t.2.1, s.2]
  · rw [t.2.2.1, s.2]
  · rw [t.2.2.2, s.2]
theorem uX11_becomes {j : Nat} (hj : j < 666) {v : Int32} (hK : K (M 60 j) (mset M 60 j v)) : CSi w h kX11_becomes [.ref 59, .int (nI j), .int v] M K := by
  have hin : vp_in (nI j) 666 := vp_in_nI hj (by decide)
  refine csi_of (by decide) (Nat.le_of_ble_eq_true rfl) (vX11_becomes_0 _ v M _ ⟨hin, fun x1 e1 => ⟨hin, fun M1 e2 => ⟨_, rfl, ?_⟩⟩⟩)
  rw [nI_clamp (by omega)] at e1 e2
  rw [e1, e2]; exact hK
end PS

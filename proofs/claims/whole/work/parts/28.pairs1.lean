/-! ===== pairs: both sides answer alike ===== -/
def finC (a : Int32 ⊕ Nat) (M : Mem) (K : Int32 → Mem → Prop) : Prop := match a with
  | .inl x => K x M
  | .inr i => K (-1000001 - nI i) (mset M 2 i (M 2 i + 1))
def finR (a : Int32 ⊕ Nat) (M : Mem) (K : Int32 → Mem → Prop) : Prop := match a with
  | .inl x => K x M
  | .inr i => K (-1000001 - nI i) (mset M 62 i (M 62 i + 1))
def RF (M M1 : Mem) : Prop := (∀ q, 59 < q → q ≠ 64 → q ≠ 65 → q ≠ 66 → M1 q = M q) ∧ M1 59 2 = M 59 2 ∧ M1 59 4 = M 59 4 ∧ M1 59 6 = M 59 6
theorem RF.refl {M : Mem} : RF M M := ⟨fun _ _ _ _ _ => rfl, rfl, rfl, rfl⟩
theorem RF.fr {M M1 M2 : Mem} (r : RF M M1) (f : FR M1 M2) : RF M M2 := ⟨fun q a b c d => (f.at q (by omega)).trans (r.1 q a b c d), f.2.1.trans r.2.1, f.2.2.1.trans r.2.2.1, f.2.2.2.trans r.2.2.2⟩
theorem RF.m60 {M M1 : Mem} (r : RF M M1) : M1 60 = M 60 := r.1 60 (by decide) (by decide) (by decide) (by decide)
theorem dtR_rf {M M' : Mem} (f : RF M M') : dtR M' = dtR M := by funext c; unfold dtR; rw [f.m60]
theorem wtR_rf {M M' : Mem} (f : RF M M') : wtR M' = wtR M := by funext c; unfold wtR; rw [f.m60, f.2.2.1]
theorem g_fin {f : Int32} {n : Int32} (h : -1000001 - f = n) : f = -1000001 - n := by grind
section PQ
variable {w : Wd} {h : Nat} {M : Mem} {K : Int32 → Mem → Prop}
theorem tellQ (i : Nat) (hi : i < 7) {a : Int32} (ha : a = nI i) (hK : finC (.inr i) M K) : CSi w h kX1_tell [.ref 1, .int a] M (fun r1 M1 => ∃ x, some (Value.int r1) = some (.int x) ∧ K x M1) := by
  refine uX1_tell i hi ha ⟨_, rfl, ?_⟩
  rw [ha]; exact hK
theorem findQ (i : Nat) (hi : i < 7) {f : Int32} (hf : -1000001 - f = nI i) (hK : finR (.inr i) M K) : CSi w h kX11_finds [.ref 59, .int f] M (fun r1 M1 => ∃ x, some (Value.int r1) = some (.int x) ∧ K x M1) := by
  refine uX11_finds i hi hf ⟨_, rfl, ?_⟩
  rw [g_fin hf]; exact hK
theorem tell0 (hK : finC (.inr 0) M K) : CSi w h kX1_tell [.ref 1, .int 0] M (fun r1 M1 => ∃ x, some (Value.int r1) = some (.int x) ∧ K x M1) := tellQ 0 (by decide) (by decide) hK
theorem tell1 (hK : finC (.inr 1) M K) : CSi w h kX1_tell [.ref 1, .int 1] M (fun r1 M1 => ∃ x, some (Value.int r1) = some (.int x) ∧ K x M1) := tellQ 1 (by decide) (by decide) hK
theorem tell2 (hK : finC (.inr 2) M K) : CSi w h kX1_tell [.ref 1, .int 2] M (fun r1 M1 => ∃ x, some (Value.int r1) = some (.int x) ∧ K x M1) := tellQ 2 (by decide) (by decide) hK
theorem tell3 (hK : finC (.inr 3) M K) : CSi w h kX1_tell [.ref 1, .int 3] M (fun r1 M1 => ∃ x, some (Value.int r1) = some (.int x) ∧ K x M1) := tellQ 3 (by decide) (by decide) hK
theorem tell5 (hK : finC (.inr 5) M K) : CSi w h kX1_tell [.ref 1, .int 5] M (fun r1 M1 => ∃ x, some (Value.int r1) = some (.int x) ∧ K x M1) := tellQ 5 (by decide) (by decide) hK
theorem tell6 (hK : finC (.inr 6) M K) : CSi w h kX1_tell [.ref 1, .int 6] M (fun r1 M1 => ∃ x, some (Value.int r1) = some (.int x) ∧ K x M1) := tellQ 6 (by decide) (by decide) hK
theorem find0 (hK : finR (.inr 0) M K) : CSi w h kX11_finds [.ref 59, .int (-1000001)] M (fun r1 M1 => ∃ x, some (Value.int r1) = some (.int x) ∧ K x M1) := findQ 0 (by decide) (by decide) hK
theorem find1 (hK : finR (.inr 1) M K) : CSi w h kX11_finds [.ref 59, .int (-1000002)] M (fun r1 M1 => ∃ x, some (Value.int r1) = some (.int x) ∧ K x M1) := findQ 1 (by decide) (by decide) hK
theorem find2 (hK : finR (.inr 2) M K) : CSi w h kX11_finds [.ref 59, .int (-1000003)] M (fun r1 M1 => ∃ x, some (Value.int r1) = some (.int x) ∧ K x M1) := findQ 2 (by decide) (by decide) hK
theorem find3 (hK : finR (.inr 3) M K) : CSi w h kX11_finds [.ref 59, .int (-1000004)] M (fun r1 M1 => ∃ x, some (Value.int r1) = some (.int x) ∧ K x M1) := findQ 3 (by decide) (by decide) hK
theorem find5 (hK : finR (.inr 5) M K) : CSi w h kX11_finds [.ref 59, .int (-1000006)] M (fun r1 M1 => ∃ x, some (Value.int r1) = some (.int x) ∧ K x M1) := findQ 5 (by decide) (by decide) hK
theorem find6 (hK : finR (.inr 6) M K) : CSi w h kX11_finds [.ref 59, .int (-1000007)] M (fun r1 M1 => ∃ x, some (Value.int r1) = some (.int x) ∧ K x M1) := findQ 6 (by decide) (by decide) hK
/-- what is asked of a call: the class's method, then the reference's, answer alike and keep the tie -/
def PAIR (w : Wd) (kc kr : MI) (as : List Value) (M : Mem) : Prop := CSi w 12 kc (.ref 0 :: as) M (fun r1 M1 => CSi w 12 kr (.ref 59 :: as) M1 (fun r2 M2 => r1 = r2 ∧ INV M2))
theorem INV.told {M' M2 : Mem} {i : Nat} (hi : i < 7) (hI : INV M') (f2 : FR (mset M' 2 i (M' 2 i + 1)) M2) : INV (mset M2 62 i (M2 62 i + 1)) := by
  refine INV.tell (i := i) hI ?_ ?_ hi ?_ ?_ ?_ ?_
  · rw [mset_ne (by decide), f2.at 2 (by omega), mset_eq]
  · rw [mset_eq, f2.at 62 (by omega), mset_ne (by decide)]
  · intro q hq h2 h62
    rw [mset_ne h62, f2.1 q hq, mset_ne h2]
  · rw [mset_ne (by decide), f2.2.1, mset_ne (by decide)]
  · rw [mset_ne (by decide), f2.2.2.1, mset_ne (by decide)]
  · rw [mset_ne (by decide), f2.2.2.2, mset_ne (by decide)]
theorem pairQ {kc kr : MI} {as : List Value} (hI : INV M) (a : Int32 ⊕ Nat) (ha : ∀ i, a = .inr i → i < 7) (hC : ∀ K, (∀ M', FR M M' → finC a M' K) → CSi w 12 kc (.ref 0 :: as) M K) (hR : ∀ M1, RF M M1 → ∀ K, (∀ M', FR M1 M' → finR a M' K) → CSi w 12 kr (.ref 59 :: as) M1 K) : PAIR w kc kr as M := by
  refine hC _ (fun M' f => ?_)
  have rf := RF.refl.fr f
  cases a with
  | inl x => exact hR M' rf _ (fun M2 f2 => ⟨rfl, (hI.fr f).fr f2⟩)
  | inr i =>
    refine hR _ ?_ _ (fun M2 f2 => ⟨rfl, ?_⟩)
    · exact ⟨fun q a b c d => by rw [mset_ne (by omega)]; exact rf.1 q a b c d, by rw [mset_ne (by decide)]; exact rf.2.1, by rw [mset_ne (by decide)]; exact rf.2.2.1, by rw [mset_ne (by decide)]; exact rf.2.2.2⟩
    · exact INV.told (ha i rfl) (hI.fr f) f2
theorem in0 : ∀ i, (Sum.inr 0 : Int32 ⊕ Nat) = .inr i → i < 7 := fun i e => by cases e; decide
theorem in1 : ∀ i, (Sum.inr 1 : Int32 ⊕ Nat) = .inr i → i < 7 := fun i e => by cases e; decide
theorem in2 : ∀ i, (Sum.inr 2 : Int32 ⊕ Nat) = .inr i → i < 7 := fun i e => by cases e; decide
theorem in3 : ∀ i, (Sum.inr 3 : Int32 ⊕ Nat) = .inr i → i < 7 := fun i e => by cases e; decide
theorem in5 : ∀ i, (Sum.inr 5 : Int32 ⊕ Nat) = .inr i → i < 7 := fun i e => by cases e; decide
theorem in6 : ∀ i, (Sum.inr 6 : Int32 ⊕ Nat) = .inr i → i < 7 := fun i e => by cases e; decide
theorem inL' {x : Int32} : ∀ i, (Sum.inl x : Int32 ⊕ Nat) = .inr i → i < 7 := fun i e => by cases e
end PQ
/-! ===== paths on both sides ===== -/
abbrev pe (M : Mem) (kd col wa : Int32) : Nat × Int32 × Int32 := pR (dtR M) (wtR M) (M 60 0) kd col wa
abbrev ps (M : Mem) (kd col wa : Int32) : Nat → Int32 := fun j => (sta (dtR M) (wtR M) (M 60 0) kd col wa j).1
def rkE (M' : Mem) (e : Nat × Int32 × Int32) (c : Nat → Int32) : Prop := M' 59 13 = nI e.1 ∧ M' 59 14 = e.2.1 ∧ M' 59 15 = e.2.2 ∧ (∀ j, j < e.1 ∨ (e.2.1 = -1 ∧ j = e.1) → M' 64 j = c j)
def onE (e : Nat × Int32 × Int32) : Nat := if 0 ≤ e.2.1 then e.1 - 1 else e.1
theorem okE.jn {e : Nat × Int32 × Int32} {c : Nat → Int32} (h : okE e c) {j : Nat} (hj : j ≤ onE e) : j < e.1 ∨ (e.2.1 = -1 ∧ j = e.1) := by
  unfold onE at hj
  rcases h.2 with ⟨a, -⟩ | ⟨a, -, b, -⟩
  · rw [a, if_neg (by decide)] at hj
    rcases Nat.lt_or_ge j e.1 with z | z
    · exact Or.inl z
    · exact Or.inr ⟨a, by omega⟩
  · rw [if_pos a] at hj
    exact Or.inl (by omega)
theorem okE.bd {e : Nat × Int32 × Int32} {c : Nat → Int32} (h : okE e c) {j : Nat} (hj : j ≤ onE e) : 0 ≤ c j ∧ c j ≤ 191 := by
  unfold onE at hj
  rcases h.2 with ⟨a, b⟩ | ⟨a, -, b, d⟩
  · rw [a, if_neg (by decide)] at hj; exact b j hj
  · rw [if_pos a] at hj; exact d j (by omega)
theorem okE.le {e : Nat × Int32 × Int32} {c : Nat → Int32} (h : okE e c) : onE e ≤ 64 := by
  unfold onE
  have := h.1
  split <;> omega
theorem okE.onI {e : Nat × Int32 × Int32} {c : Nat → Int32} (h : okE e c) : (if 0 ≤ e.2.1 then nI e.1 - 1 else nI e.1) = nI (onE e) := by
  unfold onE
  rcases h.2 with ⟨a, -⟩ | ⟨a, -, b, -⟩
  · rw [a, if_neg (by decide), if_neg (by decide)]
  · rw [if_pos a, if_pos a]
    obtain ⟨k, hk⟩ : ∃ k, e.1 = k + 1 := ⟨e.1 - 1, by omega⟩
    rw [hk, nI_pred]; rfl
theorem okE.out {e : Nat × Int32 × Int32} {c : Nat → Int32} (h : okE e c) : 0 ≤ e.2.1 ↔ ¬ e.2.1 = -1 := by
  rcases h.2 with ⟨a, -⟩ | ⟨a, -, -⟩
  · rw [a]; decide
  · exact ⟨fun _ z => by rw [z] at a; exact absurd a (by decide), fun _ => a⟩
section PP
variable {w : Wd} {h : Nat} {M M1 : Mem} {K : Int32 → Mem → Prop} {Kv : Mem → Prop}
theorem pe_ok {kd col wa : Int32} (h0 : 0 ≤ col) (h1 : col ≤ 11) : okE (pe M kd col wa) (ps M kd col wa) := pR_ok h0 h1
theorem walk_isW {Kc : Nat} (h : Kc = 53 ∨ Kc = 55) : isWalk Kc := by rcases h with rfl | rfl; exact walk53; exact walk55
theorem g_pos {x : Int32} (h : 1 ≤ x) : ¬ x ≤ 0 := by grind
theorem folA (hh : 4 ≤ h) (hI : INV M) (f : FR M M1) {Kc : Nat} (hk : Kc = 53 ∨ Kc = 55) {kd col wa : Int32} (k0 : 0 ≤ kd) (k1 : kd ≤ 7) (h0 : 0 ≤ col) (h1 : col ≤ 11) (hw0 : 1 ≤ wa)
    (hK : ∀ M', wkE M' Kc (pe M kd col wa) (ps M kd col wa) → FR M M' → (∀ q, q ≠ Kc → q ≠ Kc + 1 → q ≠ 7 → M' q = M1 q) → Kv M') : CSv w h kX8_follow [.ref Kc, .ref 4, .int kd, .int col, .int wa] M1 Kv := by
  have hp := (hI.fr f).pane
  rw [dtR_fr f, wtR_fr f, f.at 60 (by omega)] at hp
  refine uX8_follow hh (walk_isW hk) pane4 (by omega) hp k0 k1 h0 h1 (g_pos hw0) (fun M' e fr => hK M' e (f.trans (FR.c (fun q hq => fr q (by omega) (by omega) (by omega)))) fr)
theorem goA (hh : 6 ≤ h) (r : RF M M1) {kd col wa : Int32} (h0 : 0 ≤ col) (h1 : col ≤ 11)
    (hK : ∀ M', rkE M' (pe M kd col wa) (ps M kd col wa) → FR M1 M' → (∀ q, q ≠ 59 → q ≠ 64 → M' q = M1 q) → Kv M') : CSv w h kX11_goesAll [.ref 59, .int kd, .int col, .int wa] M1 Kv := by
  refine uX11_goesAll hh h0 h1 ?_
  rw [dtR_rf r, wtR_rf r, r.m60]
  intro M' a1 a2 a3 a4 a5 a6
  exact hK M' ⟨a1, a2, a3, a4⟩ ⟨fun q hq => a5 q (fun z => hq (by subst z; unfold jc; omega)) (fun z => hq (by subst z; unfold jc; omega)), a6 2 (by decide) (by decide) (by decide), a6 4 (by decide) (by decide) (by decide), a6 6 (by decide) (by decide) (by decide)⟩ a5
theorem onA {e : Nat × Int32 × Int32} {c : Nat → Int32} (he : rkE M e c) (ho : okE e c) (hK : K (nI (onE e)) M) : CSi w h kX11_onCells [.ref 59] M K := by
  refine uX11_onCells ?_
  rw [he.1, he.2.1, ho.onI]; exact hK
theorem behA {e : Nat × Int32 × Int32} {c : Nat → Int32} {Kc : Nat} (hk : isWalk Kc) (he : wkE M Kc e c) (ho : okE e c) {i : Nat} (hi : i ≤ 64) (hK : K (if i ≤ onE e then c i else -2) M) : CSi w h kX8_cellBehind [.ref Kc, .int (nI i)] M K := by
  obtain ⟨e1, -, e3, e4, e5⟩ := he
  refine csi_of (by decide) (Nat.le_of_ble_eq_true rfl) (vX8_cellBehind_0 Kc _ hk M _ ?_)
  have hin : vp_in (nI i) 65 := vp_in_nI (by omega) (by decide)
  rw [e1, nI_clamp (by omega)]
  have hle := ho.1
  by_cases hj : i ≤ onE e
  · rw [if_pos hj] at hK
    have hb := ho.bd hj
    have hc := e4 i (ho.jn hj)
    have hie : i ≤ e.1 := by rcases ho.jn hj with z | z <;> omega
    refine ⟨fun q => absurd q (nI_nlt hie (by omega)), fun _ => ⟨hin, fun q => ?_, fun _ => ⟨hin, _, rfl, ?_⟩⟩⟩
    · rw [hc] at q; rw [q] at hb; exact absurd hb.1 (by decide)
    · rw [hc]; exact hK
  · rw [if_neg hj] at hK
    refine ⟨fun _ => ⟨_, rfl, hK⟩, fun q => ⟨hin, fun _ => ⟨_, rfl, hK⟩, fun q2 => ?_⟩⟩
    have hie : i ≤ e.1 := by
      rcases Nat.lt_or_ge e.1 i with z | z
      · exact absurd (nI_lt z (by omega)) q
      · exact z
    unfold onE at hj
    rcases ho.2 with ⟨a, -⟩ | ⟨a, -, b, -⟩
    · rw [a, if_neg (by decide)] at hj; exact absurd hie hj
    · rw [if_pos a] at hj
      have : i = e.1 := by omega
      rw [this, e5 a] at q2
      exact absurd rfl q2
theorem lastA {e : Nat × Int32 × Int32} {c : Nat → Int32} {Kc : Nat} (hh : 1 ≤ h) (hk : isWalk Kc) (he : wkE M Kc e c) (ho : okE e c) (hK : K (c (onE e)) M) : CSi w h kX8_lastCell [.ref Kc] M K := by
  obtain ⟨h, rfl⟩ : ∃ k, h = k + 1 := ⟨h - 1, by omega⟩
  obtain ⟨e1, -, e3, e4, e5⟩ := he
  have hle := ho.1
  refine csi_of (by decide) (Nat.le_of_ble_eq_true rfl) (vX8_lastCell_0 Kc hk M _ (uX8_isOut hk ?_))
  have hc := e4 (onE e) (ho.jn (Nat.le_refl _))
  rw [e3, e1]
  rcases ho.2 with ⟨a, -⟩ | ⟨a, -, b, -⟩
  · have hon : onE e = e.1 := by unfold onE; rw [a, if_neg (by decide)]
    rw [hon] at hK hc
    refine ⟨fun _ => ⟨vp_in_nI (by omega) (by decide), _, rfl, ?_⟩, fun q => absurd (b2i_f (fun z => z a)) q⟩
    rw [nI_clamp (by omega), hc]; exact hK
  · have hon : onE e = e.1 - 1 := by unfold onE; rw [if_pos a]
    obtain ⟨k, hk⟩ : ∃ k, e.1 = k + 1 := ⟨e.1 - 1, by omega⟩
    rw [hon, hk] at hK hc
    rw [hk, nI_pred]
    refine ⟨fun q => ?_, fun _ => ⟨fun q => absurd q (nI_nle (by omega) (by omega)), fun _ => ⟨vp_in_nI (by omega) (by decide), _, rfl, ?_⟩⟩⟩
    · rw [b2i_0] at q
      exact absurd (ho.out.mp a) q
    · rw [nI_clamp (by omega)]
      have : k + 1 - 1 = k := rfl
      rw [this] at hc hK
      rw [hc]; exact hK
end PP
/-! ===== path, along ===== -/
section P1
variable {w : Wd} {M : Mem}
def pathV (M : Mem) (a0 a1 a2 a3 : Int32) : Int32 := if a3 = 0 then (pe M a0 a1 a2).2.1 else if a3 = 1 then nI (pe M a0 a1 a2).1 else if a3 = 2 then ps M a0 a1 a2 (onE (pe M a0 a1 a2)) else (pe M a0 a1 a2).2.2
theorem p_path (hI : INV M) {a0 a1 a2 a3 : Int32} : PAIR w kX10_path kX11_path [.int a0, .int a1, .int a2, .int a3] M := by
  by_cases hs : (0 ≤ a0 ∧ a0 ≤ 7) ∧ (0 ≤ a1 ∧ a1 ≤ 11) ∧ (1 ≤ a2 ∧ a2 ≤ 99)
  · by_cases hq : (0 : Int32) ≤ a3 ∧ a3 ≤ (3 : Int32)
    · have ho := pe_ok (M := M) (kd := a0) (wa := a2) hs.2.1.1 hs.2.1.2
      refine pairQ hI (.inl (pathV M a0 a1 a2 a3)) inL' (fun K hK => ?_) (fun M1 r K hK => ?_)
      · refine csi_of (by decide) (Nat.le_of_ble_eq_true rfl) (vX10_path_0 (by decide) a0 a1 a2 a3 M _ ⟨fun q => absurd hs q, fun _ => ⟨fun _ => ?_, fun q => absurd hq q⟩⟩)
        refine folA (by decide) hI FR.refl (Or.inl rfl) hs.1.1 hs.1.2 hs.2.1.1 hs.2.1.2 hs.2.2.1 (fun M' he f _ => ?_)
        have g := hK M' f
        unfold pathV at g
        refine ⟨fun c => ⟨_, rfl, ?_⟩, fun c => ⟨fun c2 => ⟨_, rfl, ?_⟩, fun c2 => ⟨fun c3 => lastA (by decide) walk53 he ho ⟨_, rfl, ?_⟩, fun c3 => ⟨_, rfl, ?_⟩⟩⟩⟩
        · rw [if_pos c] at g; rw [he.2.2.1]; exact g
        · rw [if_neg c, if_pos c2] at g; rw [he.1]; exact g
        · rw [if_neg c, if_neg c2, if_pos c3] at g; exact g
        · rw [if_neg c, if_neg c2, if_neg c3] at g; rw [he.2.1]; exact g
      · refine csi_of (by decide) (Nat.le_of_ble_eq_true rfl) (vX11_path_0 (by decide) a0 a1 a2 a3 M1 _ ⟨fun q => absurd hs q, fun _ => ⟨fun _ => ?_, fun q => absurd hq q⟩⟩)
        refine goA (by decide) r hs.2.1.1 hs.2.1.2 (fun M' he f _ => ?_)
        have g := hK M' f
        unfold pathV at g
        refine ⟨fun c => ⟨fun c2 => ⟨fun c3 => ⟨_, rfl, ?_⟩, fun c3 => onA he ho ⟨vp_in_nI (Nat.lt_succ_of_le ho.le) (by decide), _, rfl, ?_⟩⟩, fun c2 => ⟨_, rfl, ?_⟩⟩, fun c => ⟨_, rfl, ?_⟩⟩
        · rw [if_neg c, if_neg c2, if_neg c3] at g; rw [he.2.2.1]; exact g
        · rw [if_neg c, if_neg c2, if_pos c3] at g
          rw [nI_clamp (Nat.lt_of_le_of_lt ho.le (by decide)), he.2.2.2 _ (ho.jn (Nat.le_refl _))]; exact g
        · rw [if_neg c, if_pos c2] at g; rw [he.1]; exact g
        · rw [if_pos c] at g; rw [he.2.1]; exact g
    · refine pairQ hI (.inr 0) in0 (fun K hK => ?_) (fun M1 r K hK => ?_)
      · exact csi_of (by decide) (Nat.le_of_ble_eq_true rfl) (vX10_path_0 (by decide) a0 a1 a2 a3 M _ ⟨fun q => absurd hs q, fun _ => ⟨fun q => absurd q hq, fun _ => tell0 (hK _ FR.refl)⟩⟩)
      · exact csi_of (by decide) (Nat.le_of_ble_eq_true rfl) (vX11_path_0 (by decide) a0 a1 a2 a3 M1 _ ⟨fun q => absurd hs q, fun _ => ⟨fun q => absurd q hq, fun _ => find0 (hK _ FR.refl)⟩⟩)
  · refine pairQ hI (.inr 0) in0 (fun K hK => ?_) (fun M1 r K hK => ?_)
    · exact csi_of (by decide) (Nat.le_of_ble_eq_true rfl) (vX10_path_0 (by decide) a0 a1 a2 a3 M _ ⟨fun _ => tell0 (hK _ FR.refl), fun q => absurd q hs⟩)
    · exact csi_of (by decide) (Nat.le_of_ble_eq_true rfl) (vX11_path_0 (by decide) a0 a1 a2 a3 M1 _ ⟨fun _ => find0 (hK _ FR.refl), fun q => absurd q hs⟩)
theorem p_along (hI : INV M) {a0 a1 a2 a3 : Int32} : PAIR w kX10_along kX11_along [.int a0, .int a1, .int a2, .int a3] M := by
  by_cases hs : (0 ≤ a0 ∧ a0 ≤ 7) ∧ (0 ≤ a1 ∧ a1 ≤ 11) ∧ (1 ≤ a2 ∧ a2 ≤ 99)
  · by_cases hq : (0 : Int32) ≤ a3 ∧ a3 ≤ (64 : Int32)
    · have ho := pe_ok (M := M) (kd := a0) (wa := a2) hs.2.1.1 hs.2.1.2
      obtain ⟨i, hi, rfl⟩ := nI_of2 (n := 64) rfl (Int32.not_lt.mpr hq.1) hq.2
      refine pairQ hI (if i ≤ onE (pe M a0 a1 a2) then .inl (ps M a0 a1 a2 i) else .inr 3) (fun j e => ?_) (fun K hK => ?_) (fun M1 r K hK => ?_)
      · split at e <;> cases e; decide
      · refine csi_of (by decide) (Nat.le_of_ble_eq_true rfl) (vX10_along_0 (by decide) a0 a1 a2 _ M _ ⟨fun q => absurd hs q, fun _ => ⟨fun _ => ?_, fun q => absurd hq q⟩⟩)
        refine folA (by decide) hI FR.refl (Or.inl rfl) hs.1.1 hs.1.2 hs.2.1.1 hs.2.1.2 hs.2.2.1 (fun M' he f _ => behA walk53 he ho hi ?_)
        have g := hK M' f
        by_cases hj : i ≤ onE (pe M a0 a1 a2)
        · rw [if_pos hj] at g ⊢
          refine ⟨fun _ => ⟨_, rfl, g⟩, fun c => ?_⟩
          have hb := (ho.bd hj).1
          rw [c] at hb
          exact absurd hb (by decide)
        · rw [if_neg hj] at g ⊢
          exact ⟨fun c => absurd rfl c, fun _ => tell3 g⟩
      · refine csi_of (by decide) (Nat.le_of_ble_eq_true rfl) (vX11_along_0 (by decide) a0 a1 a2 _ M1 _ ⟨fun q => absurd hs q, fun _ => ⟨fun _ => ?_, fun q => absurd hq q⟩⟩)
        refine goA (by decide) r hs.2.1.1 hs.2.1.2 (fun M' he f _ => onA he ho ?_)
        have g := hK M' f
        by_cases hj : i ≤ onE (pe M a0 a1 a2)
        · rw [if_pos hj] at g
          refine ⟨fun _ => ⟨vp_in_nI (by omega) (by decide), _, rfl, ?_⟩, fun c => absurd (nI_le hj (Nat.lt_of_le_of_lt ho.le (by decide))) c⟩
          rw [nI_clamp (by omega), he.2.2.2 _ (ho.jn hj)]; exact g
        · rw [if_neg hj] at g
          exact ⟨fun c => absurd c (nI_ge (by omega) (by omega)), fun _ => find3 g⟩
    · refine pairQ hI (.inr 0) in0 (fun K hK => ?_) (fun M1 r K hK => ?_)
      · exact csi_of (by decide) (Nat.le_of_ble_eq_true rfl) (vX10_along_0 (by decide) a0 a1 a2 a3 M _ ⟨fun q => absurd hs q, fun _ => ⟨fun q => absurd q hq, fun _ => tell0 (hK _ FR.refl)⟩⟩)
      · exact csi_of (by decide) (Nat.le_of_ble_eq_true rfl) (vX11_along_0 (by decide) a0 a1 a2 a3 M1 _ ⟨fun q => absurd hs q, fun _ => ⟨fun q => absurd q hq, fun _ => find0 (hK _ FR.refl)⟩⟩)
  · refine pairQ hI (.inr 0) in0 (fun K hK => ?_) (fun M1 r K hK => ?_)
    · exact csi_of (by decide) (Nat.le_of_ble_eq_true rfl) (vX10_along_0 (by decide) a0 a1 a2 a3 M _ ⟨fun _ => tell0 (hK _ FR.refl), fun q => absurd q hs⟩)
    · exact csi_of (by decide) (Nat.le_of_ble_eq_true rfl) (vX11_along_0 (by decide) a0 a1 a2 a3 M1 _ ⟨fun _ => find0 (hK _ FR.refl), fun q => absurd q hs⟩)
end P1

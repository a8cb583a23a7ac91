/-! ===== clean, finger, scatter, drop ===== -/
def clT : Nat → Nat → Int32 → (Nat → Int32) → Int32 × (Nat → Int32)
  | 0, _, acc, f => (acc, f)
  | n + 1, c, acc, f => clT n (c + 1) (acc + b2i (¬ f (18 + c) ≤ 0)) (upd (upd f (18 + c) 0) (210 + c) 0)
def fiT : Nat → Nat → Int32 → (Nat → Int32) → Int32 × (Nat → Int32)
  | 0, _, acc, f => (acc, f)
  | n + 1, c, acc, f => fiT n (c + 12) (acc + b2i (¬ f (210 + c) = 99)) (upd f (210 + c) 99)
theorem g_a0 {x : Int32} : x + 0 = x := by grind
theorem g_99 {x : Int32} (h : x ≤ 99) : 99 ≤ x ↔ x = 99 := by grind
theorem r12 {r : Nat} (h : r < 16) : nI r * 12 = nI (12 * r) ∧ 12 * nI r = nI (12 * r) ∧ (nI r + 1) * 12 = nI (12 * r + 12) ∧ 12 * nI r + 12 = nI (12 * r + 12) := by
  have T : ∀ r, r < 16 → (nI r * 12 = nI (12 * r) ∧ 12 * nI r = nI (12 * r) ∧ (nI r + 1) * 12 = nI (12 * r + 12) ∧ 12 * nI r + 12 = nI (12 * r + 12)) := by decide
  exact T r h
theorem gDirt.set {m f f' : Nat → Int32} {c : Nat} {v : Int32} (h : gDirt m f) (hv : 0 ≤ v ∧ v ≤ 9) (e : f' (18 + c) = v) (e' : ∀ k, k < 192 → k ≠ c → f' (18 + k) = f (18 + k)) : gDirt (upd m c v) f' := fun k hk => by
  by_cases hkc : k = c
  · subst hkc; rw [pk_us, e]; exact ⟨rfl, hv⟩
  · rw [pk_un hkc, e' k hk hkc]; exact h k hk
theorem gWet.set {m f f' : Nat → Int32} {c : Nat} {v : Int32} (h : gWet m f) (hv : 0 ≤ v ∧ v ≤ 99) (e : f' (210 + c) = v) (e' : ∀ k, k < 192 → k ≠ c → f' (210 + k) = f (210 + k)) : gWet (upd m c v) f' := fun k hk => by
  by_cases hkc : k = c
  · subst hkc; rw [pk_us, e]; exact ⟨rfl, hv⟩
  · rw [pk_un hkc, e' k hk hkc]; exact h k hk
/-- one cell of wet on both sides -/
theorem cR.wet1 {a : Nat} {M M' : Mem} {f : Nat → Int32} {c : Nat} {v : Int32} (h : cR a M f) (hc : c < 192) (hv : 0 ≤ v ∧ v ≤ 99) (e : M' = mset M (a + 3) c v) : cR a M' (upd f (210 + c) v) := by
  refine h.uWet (fun q hq => by rw [e]; exact mset_ne hq) (fun j hj => pk_un (by omega)) ?_
  rw [e, mset_eq]
  exact h.w.set hv pk_us (fun k hk hkc => pk_un (by omega))
theorem cR.dirt1 {a : Nat} {M M' : Mem} {f : Nat → Int32} {c : Nat} {v : Int32} (h : cR a M f) (hc : c < 192) (hv : 0 ≤ v ∧ v ≤ 9) (e : M' = mset M (a + 2) c v) : cR a M' (upd f (18 + c) v) := by
  refine h.uDirt (fun q hq => by rw [e]; exact mset_ne hq) (fun j hj => pk_un (by omega)) ?_
  rw [e, mset_eq]
  exact h.d.set hv pk_us (fun k hk hkc => pk_un (by omega))
section D1
variable {w : Wd} {h : Nat} {M : Mem} {K : Int32 → Mem → Prop} {f : Nat → Int32}
theorem uX2_cleanRow (hc : cR 3 M f) {r : Nat} (hr : r < 16) (hK : ∀ M', cR 3 M' (clT 12 (12 * r) 0 f).2 → FS M M' → K (clT 12 (12 * r) 0 f).1 M') : CSi w h kX2_cleanRow [.ref 4, .int (nI r)] M K := by
  refine csi_of (by decide) (Nat.le_of_ble_eq_true rfl) (vX2_cleanRow_0 4 _ pane4 M _ (fun x1 e1 => ?_))
  rw [(r12 hr).1] at e1
  rw [e1]
  have L : ∀ n c, n + c = 12 * r + 12 → ∀ acc f Mx, cR 3 Mx f → FS M Mx → (∀ M', cR 3 M' (clT n c acc f).2 → FS M M' → K (clT n c acc f).1 M') → RM w h kX2_cleanRow 7 [(0, .ref 4), (1, .int (nI r)), (2, .int acc), (3, .int (nI c))] [] Mx (fun r M' => ∃ x, r = some (.int x) ∧ K x M') := by
    intro n
    induction n with
    | zero =>
      intro c hc acc f Mx cr fs g
      refine vX2_cleanRow_7 4 _ _ _ pane4 Mx _ ⟨fun _ => ⟨_, rfl, g Mx cr fs⟩, fun q => absurd ?_ q⟩
      rw [(r12 hr).2.2.1]; exact nI_le (by omega) (by omega)
    | succ n ih =>
      intro c hc acc f Mx cr fs g
      have hin : vp_in (nI c) 192 := vp_in_nI (by omega) (by decide)
      have hd := (cr.d c (by omega)).1
      rw [clT] at g
      refine vX2_cleanRow_7 4 _ _ _ pane4 Mx _ ⟨fun q => ?_, fun _ => ⟨hin, ?_⟩⟩
      · rw [(r12 hr).2.2.1] at q; exact absurd q (nI_ge (by omega) (by omega))
      · rw [nI_clamp (by omega)]
        have e0 : Mx (4 + 1) c = f (18 + c) := hd
        rw [e0]
        refine ⟨fun q => ⟨hin, fun M1 e1 => ⟨hin, fun M2 e2 x1 e3 => ?_⟩⟩, fun q x1 e3 => ⟨hin, fun M1 e1 => ⟨hin, fun M2 e2 x2 e4 => ?_⟩⟩⟩
        · rw [e3, nI_1]
          rw [b2i_f (fun z => z q), g_a0] at g
          exact ih (c + 1) (by omega) _ _ M2 ((cr.dirt1 (by omega) (by decide) e1).wet1 (by omega) (by decide) e2) (fs.trans (FS.of (fun q hq => by rw [e2, mset_ne (by omega), e1, mset_ne (by omega)]))) g
        · rw [e4, nI_1, e3]
          rw [b2i_t q] at g
          exact ih (c + 1) (by omega) _ _ M2 ((cr.dirt1 (by omega) (by decide) e1).wet1 (by omega) (by decide) e2) (fs.trans (FS.of (fun q hq => by rw [e2, mset_ne (by omega), e1, mset_ne (by omega)]))) g
  exact L 12 (12 * r) (by omega) 0 f M hc FS.refl hK
theorem uX2_wetColumn (hc : cR 3 M f) {c : Nat} (hc12 : c < 12) (hK : ∀ M', cR 3 M' (fiT 16 c 0 f).2 → FS M M' → K (fiT 16 c 0 f).1 M') : CSi w h kX2_wetColumn [.ref 4, .int (nI c)] M K := by
  refine csi_of (by decide) (Nat.le_of_ble_eq_true rfl) (vX2_wetColumn_0 4 _ pane4 M _ ?_)
  have L : ∀ n i, n + i = 16 → ∀ acc f Mx, cR 3 Mx f → FS M Mx → (∀ M', cR 3 M' (fiT n (c + 12 * i) acc f).2 → FS M M' → K (fiT n (c + 12 * i) acc f).1 M') → RM w h kX2_wetColumn 4 [(0, .ref 4), (2, .int acc), (3, .int (nI (c + 12 * i)))] [] Mx (fun r M' => ∃ x, r = some (.int x) ∧ K x M') := by
    intro n
    induction n with
    | zero =>
      intro i hi acc f Mx cr fs g
      refine vX2_wetColumn_4 4 _ _ pane4 Mx _ ⟨fun _ => ⟨_, rfl, g Mx cr fs⟩, fun q => absurd (nI_le (a := 192) (by omega) (by omega)) q⟩
    | succ n ih =>
      intro i hi acc f Mx cr fs g
      have hin : vp_in (nI (c + 12 * i)) 192 := vp_in_nI (by omega) (by decide)
      have hd := cr.w (c + 12 * i) (by omega)
      rw [fiT] at g
      have e12 : ∀ x : Int32, x = nI (c + 12 * i) + 12 → x = nI (c + 12 * (i + 1)) := fun x e => by rw [e]; exact (nI_add (c + 12 * i) 12).trans (by congr 1)
      have e13 : c + 12 * i + 12 = c + 12 * (i + 1) := by omega
      rw [e13] at g
      refine vX2_wetColumn_4 4 _ _ pane4 Mx _ ⟨fun q => absurd q (nI_ge (b := 192) (by omega) (by decide)), fun _ => ⟨hin, ?_⟩⟩
      rw [nI_clamp (by omega)]
      have e0 : Mx (4 + 2) (c + 12 * i) = f (210 + (c + 12 * i)) := hd.1
      rw [e0, g_99 hd.2.2]
      refine ⟨fun q => ⟨hin, fun M1 e1 x1 e3 => ?_⟩, fun q x1 e3 => ⟨hin, fun M1 e1 x2 e4 => ?_⟩⟩
      · rw [e12 x1 e3]
        rw [b2i_f (fun z => z q), g_a0] at g
        exact ih (i + 1) (by omega) _ _ M1 (cr.wet1 (by omega) (by decide) e1) (fs.trans (FS.of (fun q hq => by rw [e1, mset_ne (by omega)]))) g
      · rw [e12 x2 e4, e3]
        rw [b2i_t q] at g
        exact ih (i + 1) (by omega) _ _ M1 (cr.wet1 (by omega) (by decide) e1) (fs.trans (FS.of (fun q hq => by rw [e1, mset_ne (by omega)]))) g
  exact L 16 0 rfl 0 f M hc FS.refl hK
theorem uX11_fingers (hh : 1 ≤ h) {c : Nat} (hc12 : c < 12) (hK : ∀ M', M' 60 = (fiT 16 c 0 (M 60)).2 → FX60 M M' → K (fiT 16 c 0 (M 60)).1 M') : CSi w h kX11_fingers [.ref 59, .int (nI c)] M K := by
  obtain ⟨h, rfl⟩ : ∃ k, h = k + 1 := ⟨h - 1, by omega⟩
  refine csi_of (by decide) (Nat.le_of_ble_eq_true rfl) (vX11_fingers_0 _ M _ ?_)
  have L : ∀ n i, n + i = 16 → ∀ acc Mx, FX60 M Mx → (∀ M', M' 60 = (fiT n (c + 12 * i) acc (Mx 60)).2 → FX60 M M' → K (fiT n (c + 12 * i) acc (Mx 60)).1 M') → RM w (h + 1) kX11_fingers 4 [(0, .ref 59), (2, .int acc), (3, .int (nI (c + 12 * i)))] [] Mx (fun r M' => ∃ x, r = some (.int x) ∧ K x M') := by
    intro n
    induction n with
    | zero =>
      intro i hi acc Mx fs g
      refine vX11_fingers_4 _ _ Mx _ ⟨fun _ => ⟨_, rfl, g Mx rfl fs⟩, fun q => absurd (nI_le (a := 192) (by omega) (by omega)) q⟩
    | succ n ih =>
      intro i hi acc Mx fs g
      rw [fiT] at g
      have e12 : ∀ x : Int32, x = nI (c + 12 * i) + 12 → x = nI (c + 12 * (i + 1)) := fun x e => by rw [e]; exact (nI_add (c + 12 * i) 12).trans (by congr 1)
      have e13 : c + 12 * i + 12 = c + 12 * (i + 1) := by omega
      rw [e13] at g
      refine vX11_fingers_4 _ _ Mx _ ⟨fun q => absurd q (nI_ge (b := 192) (by omega) (by decide)), fun _ => ?_⟩
      rw [n210]
      refine uX11_becomes (by omega) (fun x1 e1 x2 e2 => ?_)
      rw [e12 x2 e2, e1]
      refine ih (i + 1) (by omega) _ _ (fs.trans (FX60.of (fun q hq => mset_ne hq))) ?_
      rw [mset_eq]; exact g
  exact L 16 0 rfl 0 M FX60.refl hK
theorem p_clean (hI : INV M) {a0 : Int32} : PAIR w kX10_clean kX11_clean [.int a0] M := by
  by_cases hs : (0 : Int32) ≤ a0 ∧ a0 ≤ (15 : Int32)
  · obtain ⟨r, hr, rfl⟩ := nI_of2 (n := 15) rfl (Int32.not_lt.mpr hs.1) hs.2
    have hr' : r < 16 := by omega
    refine pairS hI (clT 12 (12 * r) 0 (M 60)).1 (clT 12 (12 * r) 0 (M 60)).2 (fun K hK => ?_) (fun M1 e60 e4 K hK => ?_)
    · exact csi_of (by decide) (Nat.le_of_ble_eq_true rfl) (vX10_clean_0 (by decide) _ M _ ⟨fun _ => uX2_cleanRow hI.cr hr' (fun M' c f => ⟨_, rfl, hK M' c f⟩), fun q => absurd hs q⟩)
    · refine csi_of (by decide) (Nat.le_of_ble_eq_true rfl) (vX11_clean_0 _ M1 _ ⟨fun _ x1 e1 => ?_, fun q => absurd hs q⟩)
      rw [(r12 hr').2.1] at e1
      rw [e1]
      have L : ∀ n c, n + c = 12 * r + 12 → ∀ acc Mx, FX60 M1 Mx → (∀ M', M' 60 = (clT n c acc (Mx 60)).2 → FX60 M1 M' → K (clT n c acc (Mx 60)).1 M') → RM w 12 kX11_clean 26 [(0, .ref 59), (1, .int (nI r)), (2, .int acc), (3, .int (nI c))] [] Mx (fun r M' => ∃ x, r = some (.int x) ∧ K x M') := by
        intro n
        induction n with
        | zero =>
          intro c hc acc Mx fs g
          refine vX11_clean_26 _ _ _ Mx _ ⟨fun _ => ⟨_, rfl, g Mx rfl fs⟩, fun q => absurd ?_ q⟩
          rw [(r12 hr').2.2.2]; exact nI_le (by omega) (by omega)
        | succ n ih =>
          intro c hc acc Mx fs g
          rw [clT] at g
          have h18 : vp_in (18 + nI c) 666 := by rw [n18]; exact vp_in_nI (by omega) (by decide)
          have h210 : vp_in (210 + nI c) 666 := by rw [n210]; exact vp_in_nI (by omega) (by decide)
          refine vX11_clean_26 _ _ _ Mx _ ⟨fun q => ?_, fun _ => ⟨h18, fun x1 e1 => ⟨h18, fun Ma ea => ⟨h210, fun Mb eb x2 e2 => ?_⟩⟩⟩⟩
          · rw [(r12 hr').2.2.2] at q; exact absurd q (nI_ge (by omega) (by omega))
          · rw [n18, nI_clamp (by omega)] at e1 ea
            rw [n210, nI_clamp (by omega)] at eb
            rw [e2, nI_1, e1]
            have e6 : Mb 60 = upd (upd (Mx 60) (18 + c) 0) (210 + c) 0 := by rw [eb, mset_eq, ea, mset_eq]
            refine ih (c + 1) (by omega) _ Mb (fs.trans (FX60.of (fun q hq => by rw [eb, mset_ne hq, ea, mset_ne hq]))) ?_
            rw [e6]; exact g
      refine L 12 (12 * r) (by omega) 0 M1 FX60.refl ?_
      rw [e60]; exact hK
  · refine pairQ hI (.inr 0) in0 (fun K hK => ?_) (fun M1 r K hK => ?_)
    · exact csi_of (by decide) (Nat.le_of_ble_eq_true rfl) (vX10_clean_0 (by decide) a0 M _ ⟨fun q => absurd q hs, fun _ => tell0 (hK _ FR.refl)⟩)
    · exact csi_of (by decide) (Nat.le_of_ble_eq_true rfl) (vX11_clean_0 a0 M1 _ ⟨fun q => absurd q hs, fun _ => find0 (hK _ FR.refl)⟩)
theorem p_finger (hI : INV M) {a0 : Int32} : PAIR w kX10_finger kX11_finger [.int a0] M := by
  by_cases hs : 0 ≤ a0 ∧ a0 ≤ 11
  · obtain ⟨r, hr, rfl⟩ := nI_of2 (n := 11) rfl (Int32.not_lt.mpr hs.1) hs.2
    refine pairS hI (fiT 16 r 0 (M 60)).1 (fiT 16 r 0 (M 60)).2 (fun K hK => ?_) (fun M1 e60 e4 K hK => ?_)
    · exact csi_of (by decide) (Nat.le_of_ble_eq_true rfl) (vX10_finger_0 (by decide) _ M _ ⟨fun _ => uX2_wetColumn hI.cr (by omega) (fun M' c f => ⟨_, rfl, hK M' c f⟩), fun q => absurd hs q⟩)
    · refine csi_of (by decide) (Nat.le_of_ble_eq_true rfl) (vX11_finger_0 (by decide) _ M1 _ ⟨fun q => absurd hs q, fun _ => uX11_fingers (by decide) (by omega) ?_⟩)
      rw [e60]
      exact fun M' c f => ⟨_, rfl, hK M' c f⟩
  · refine pairQ hI (.inr 0) in0 (fun K hK => ?_) (fun M1 r K hK => ?_)
    · exact csi_of (by decide) (Nat.le_of_ble_eq_true rfl) (vX10_finger_0 (by decide) a0 M _ ⟨fun q => absurd q hs, fun _ => tell0 (hK _ FR.refl)⟩)
    · exact csi_of (by decide) (Nat.le_of_ble_eq_true rfl) (vX11_finger_0 (by decide) a0 M1 _ ⟨fun _ => find0 (hK _ FR.refl), fun q => absurd q hs⟩)
end D1

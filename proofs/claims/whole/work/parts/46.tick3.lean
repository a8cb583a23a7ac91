/-! ===== ticks ===== -/
def tkS (f : Nat → Int32) : Nat → Int32 := upd (fdT 192 0 (jcT 8 0 (blT 8 0 (letT 8 0 f)))) 4 (fdT 192 0 (jcT 8 0 (blT 8 0 (letT 8 0 f))) 4 + 1)
def tkT : Nat → (Nat → Int32) → (Nat → Int32)
  | 0, f => f
  | n + 1, f => tkT n (tkS f)
theorem cR.tk {M M' : Mem} {f : Nat → Int32} (c : cR 3 M f) (e : M' = mset M 3 6 (M 3 6 + 1)) : cR 3 M' (upd f 4 (f 4 + 1)) := by
  refine c.uZ (fun q hq => by rw [e]; exact mset_ne hq) (fun j _ hj => pk_un hj) ?_
  rw [e, mset_eq, c.z.2]
  exact ⟨by rw [pk_un (by decide), pk_un (by decide)]; exact c.z.1, by rw [pk_us, pk_us]⟩
theorem okF.tk {f : Nat → Int32} (h : okF f) : okF (tkS f) := by
  obtain ⟨M, c⟩ := okF.fd 192 0 rfl _ (okF.jct 8 0 rfl _ (okF.blt 8 0 rfl _ (okF.let (f := f) 8 0 rfl _ h)))
  exact ⟨_, c.tk rfl⟩
section T3
variable {w : Wd} {h : Nat} {M M' : Mem} {K : Int32 → Mem → Prop} {Kv : Mem → Prop} {f : Nat → Int32}
theorem uX5_passTicks (hh : 6 ≤ h) (hc : cR 3 M f) {n : Nat} (hn : n ≤ 50) (hK : ∀ M', cR 3 M' (tkT n f) → FS M M' → Kv M') : CSv w h kX5_passTicks [.ref 3, .int (nI n)] M Kv := by
  obtain ⟨h, rfl⟩ : ∃ k, h = k + 1 := ⟨h - 1, by omega⟩
  refine csv_of (by decide) (Nat.le_of_ble_eq_true rfl) (vX5_passTicks_0 _ M _ ?_)
  have L : ∀ k i, k + i = n → ∀ f Mx, cR 3 Mx f → FS M Mx → (∀ M', cR 3 M' (tkT k f) → FS M M' → Kv M') → RM w (h + 1) kX5_passTicks 2 [(0, .ref 3), (1, .int (nI n)), (2, .int (nI i))] [] Mx (fun r M' => r = none ∧ Kv M') := by
    intro k
    induction k with
    | zero =>
      intro i hi f Mx cx fx g
      exact vX5_passTicks_2 _ _ Mx _ ⟨fun _ => ⟨rfl, g Mx cx fx⟩, fun q => absurd (nI_le (by omega) (by omega)) q⟩
    | succ k ih =>
      intro i hi f Mx cx fx g
      rw [tkT] at g
      refine vX5_passTicks_2 _ _ Mx _ ⟨fun q => absurd q (nI_ge (by omega) (by omega)), fun _ => uX5_letGo (by omega) cx (fun M1 c1 f1 => uX5_blow (by omega) c1 (fun M2 c2 f2 => uX0_join (by omega) c2 (fun M3 c3 f3 => uX2_fadeOnce (by omega) c3 (fun M4 c4 f4 M5 e5 x1 e1 => ?_))))⟩
      rw [e1, nI_1]
      exact ih (i + 1) (by omega) _ M5 (c4.tk e5) (fx.trans (f1.trans (f2.trans (f3.trans (f4.trans (FS.of (fun q hq => by rw [e5]; exact mset_ne (by omega)))))))) g
  exact L n 0 rfl f M hc FS.refl hK
theorem uX11_ticks (hh : 8 ≤ h) (ok : okF (M 60)) (h4 : M 59 4 = 0) {n : Nat} (hn : n ≤ 50) (hK : ∀ M', M' 60 = tkT n (M 60) → (∀ q, q ≠ 60 → M' q = M q) → Kv M') : CSv w h kX11_ticks [.ref 59, .int (nI n)] M Kv := by
  obtain ⟨h, rfl⟩ : ∃ k, h = k + 1 := ⟨h - 1, by omega⟩
  refine csv_of (by decide) (Nat.le_of_ble_eq_true rfl) (vX11_ticks_0 _ M _ ?_)
  have L : ∀ k i, k + i = n → ∀ Mx : Mem, okF (Mx 60) → (∀ q, q ≠ 60 → Mx q = M q) → (∀ M' : Mem, M' 60 = tkT k (Mx 60) → (∀ q, q ≠ 60 → M' q = M q) → Kv M') → RM w (h + 1) kX11_ticks 2 [(0, .ref 59), (1, .int (nI n)), (2, .int (nI i))] [] Mx (fun r M' => r = none ∧ Kv M') := by
    intro k
    induction k with
    | zero =>
      intro i hi Mx ox fx g
      exact vX11_ticks_2 _ _ Mx _ ⟨fun _ => ⟨rfl, g Mx rfl fx⟩, fun q => absurd (nI_le (by omega) (by omega)) q⟩
    | succ k ih =>
      intro i hi Mx ox fx g
      rw [tkT] at g
      have o1 := okF.let (f := Mx 60) 8 0 rfl _ ox
      have o2 := okF.blt 8 0 rfl _ o1
      have o3 := okF.jct 8 0 rfl _ o2
      -- fading
      have FD : ∀ m c, m + c = 192 → ∀ My : Mem, (∀ q, q ≠ 60 → My q = M q) → fdT m c (My 60) = fdT 192 0 (jcT 8 0 (blT 8 0 (letT 8 0 (Mx 60)))) → RM w (h + 1) kX11_ticks 67 [(0, .ref 59), (1, .int (nI n)), (2, .int (nI i)), (3, .int (nI c))] [] My (fun r M' => r = none ∧ Kv M') := by
        intro m
        induction m with
        | zero =>
          intro c hc My fy ey
          have : c = 192 := by omega
          subst this
          have hin4 : vp_in 4 666 := inL 666 rfl (by decide) (by decide)
          refine vX11_ticks_67 _ _ _ My _ ⟨fun _ => ⟨hin4, hin4, fun Mz ez x1 e1 => ?_⟩, fun q => absurd (by decide) q⟩
          rw [e1, nI_1]
          have ez' : Mz = mset My 60 4 (My 60 4 + 1) := ez
          have e6 : Mz 60 = tkS (Mx 60) := by
            rw [ez', mset_eq]
            unfold tkS
            rw [← ey]; rfl
          refine ih (i + 1) (by omega) Mz (by rw [e6]; exact ox.tk) (fun q hq => by rw [ez', mset_ne hq]; exact fy q hq) ?_
          rw [e6]; exact g
        | succ m ihm =>
          intro c hc My fy ey
          rw [fdT] at ey
          have hin : vp_in (210 + nI c) 666 := by rw [n210]; exact vp_in_nI (by omega) (by decide)
          have hi2 : vp_in 2 666 := inL 666 rfl (by decide) (by decide)
          have z2 : Int32.toNatClampNeg 2 = 2 := rfl
          have c210 : (210 + nI c).toNatClampNeg = 210 + c := by rw [n210, nI_clamp (by omega)]
          refine vX11_ticks_67 _ _ _ My _ ⟨fun q => absurd q (nI_ge (b := 192) (by omega) (by decide)), fun _ => ⟨hin, hi2, ?_⟩⟩
          rw [c210, z2]
          refine ⟨fun q => ⟨hin, fun Mz ez x1 e1 => ?_⟩, fun q => ⟨hin, hi2, hin, fun Mz ez x1 e1 => ?_⟩⟩
          · rw [e1, nI_1]
            refine ihm (c + 1) (by omega) Mz (fun q hq => by rw [ez, mset_ne hq]; exact fy q hq) ?_
            rw [ez, mset_eq]
            unfold fdv at ey
            rw [if_pos q] at ey; exact ey
          · rw [e1, nI_1]
            refine ihm (c + 1) (by omega) Mz (fun q hq => by rw [ez, mset_ne hq]; exact fy q hq) ?_
            rw [ez, mset_eq]
            unfold fdv at ey
            rw [if_neg q] at ey; exact ey
      have BL : ∀ m d, m + d = 8 → ∀ My : Mem, okF (My 60) → (∀ q, q ≠ 60 → My q = M q) → blT m d (My 60) = blT 8 0 (letT 8 0 (Mx 60)) → RM w (h + 1) kX11_ticks 36 [(0, .ref 59), (1, .int (nI n)), (2, .int (nI i)), (3, .int (nI d))] [] My (fun r M' => r = none ∧ Kv M') := by
        intro m
        induction m with
        | zero =>
          intro d hd My oy fy ey
          have : d = 8 := by omega
          subst this
          refine vX11_ticks_36 _ _ _ My _ ⟨fun _ => uX11_joins (by omega) (fun Mz ez fz => ?_), fun q => absurd (by decide) q⟩
          refine FD 192 0 rfl Mz (fun q hq => by rw [fz q hq]; exact fy q hq) ?_
          rw [ez, show My 60 = blT 8 0 (letT 8 0 (Mx 60)) from ey]
        | succ m ihm =>
          intro d hd My oy fy ey
          rw [blT] at ey
          refine vX11_ticks_36 _ _ _ My _ ⟨fun q => absurd q (nI_ge (b := 8) (by omega) (by decide)), fun _ => uX11_isDrop (by omega) (by omega) ⟨fun q x1 e1 => ?_, fun q => ?_⟩⟩
          · rw [b2i_0] at q
            rw [if_pos (Classical.not_not.mp q)] at ey
            rw [e1, nI_1]; exact ihm (d + 1) (by omega) My oy fy ey
          · rw [b2n] at q
            rw [if_neg q] at ey
            refine uX11_blown (by omega) oy (by omega) q (fun Mz ez fz x1 e1 => ?_)
            rw [e1, nI_1]
            refine ihm (d + 1) (by omega) Mz (by rw [ez]; exact oy.bl (by omega) q) (fun q hq => by rw [fz q hq]; exact fy q hq) ?_
            rw [ez]; exact ey
      have LG : ∀ m d, m + d = 8 → ∀ My : Mem, okF (My 60) → (∀ q, q ≠ 60 → My q = M q) → letT m d (My 60) = letT 8 0 (Mx 60) → RM w (h + 1) kX11_ticks 9 [(0, .ref 59), (1, .int (nI n)), (2, .int (nI i)), (3, .int (nI d))] [] My (fun r M' => r = none ∧ Kv M') := by
        intro m
        induction m with
        | zero =>
          intro d hd My oy fy ey
          have : d = 8 := by omega
          subst this
          refine vX11_ticks_9 _ _ _ My _ ⟨fun _ => BL 8 0 rfl My oy fy ?_, fun q => absurd (by decide) q⟩
          rw [show My 60 = letT 8 0 (Mx 60) from ey]
        | succ m ihm =>
          intro d hd My oy fy ey
          rw [show letT (m + 1) d (My 60) = letT m (d + 1) (if My 60 (402 + 4 * d) < 0 then My 60 else goF (My 60) d) from rfl] at ey
          refine vX11_ticks_9 _ _ _ My _ ⟨fun q => absurd q (nI_ge (b := 8) (by omega) (by decide)), fun _ => uX11_isDrop (by omega) (by omega) ⟨fun q x1 e1 => ?_, fun q => ?_⟩⟩
          · rw [b2i_0] at q
            rw [if_pos (Classical.not_not.mp q)] at ey
            rw [e1, nI_1]; exact ihm (d + 1) (by omega) My oy fy ey
          · rw [b2n] at q
            rw [if_neg q] at ey
            refine uX11_goes (by omega) oy (by rw [fy 59 (by decide)]; exact h4) (by omega) q (fun Mz ez fz x1 e1 => ?_)
            rw [e1, nI_1]
            refine ihm (d + 1) (by omega) Mz (by rw [ez]; exact oy.go (by omega) q) (fun q hq => by rw [fz q hq]; exact fy q hq) ?_
            rw [ez]; exact ey
      exact vX11_ticks_2 _ _ Mx _ ⟨fun q => absurd q (nI_ge (by omega) (by omega)), fun _ => LG 8 0 rfl Mx ox fx rfl⟩
  exact L n 0 rfl M ok (fun _ _ => rfl) hK
theorem p_tick (hI : INV M) {a0 : Int32} : PAIR w kX10_tick kX11_tick [.int a0] M := by
  by_cases hs : (1 : Int32) ≤ a0 ∧ a0 ≤ (50 : Int32)
  · obtain ⟨n, hn, rfl⟩ := nI_of2 (n := 50) rfl (Int32.not_lt.mpr (Int32.le_trans (by decide) hs.1)) hs.2
    refine pairS hI (nDrops (tkT n (M 60))) (tkT n (M 60)) (fun K hK => ?_) (fun M1 e60 e4 K hK => ?_)
    · exact csi_of (by decide) (Nat.le_of_ble_eq_true rfl) (vX10_tick_0 _ M _ ⟨fun _ => uX5_passTicks (by decide) hI.cr hn (fun M' c f => uX0_howMany (by decide) c.r ⟨_, rfl, hK M' c f⟩), fun q => absurd hs q⟩)
    · refine csi_of (by decide) (Nat.le_of_ble_eq_true rfl) (vX11_tick_0 _ M1 _ ⟨fun _ => uX11_ticks (by decide) (by rw [e60]; exact ⟨M, hI.cr⟩) e4 hn (fun M' e f => uX11_drops (by decide) ⟨_, rfl, ?_⟩), fun q => absurd hs q⟩)
      rw [e60] at e
      rw [e]
      exact hK M' e (FX60.of f)
  · refine pairQ hI (.inr 0) in0 (fun K hK => ?_) (fun M1 r K hK => ?_)
    · exact csi_of (by decide) (Nat.le_of_ble_eq_true rfl) (vX10_tick_0 a0 M _ ⟨fun q => absurd q hs, fun _ => tell0 (hK _ FR.refl)⟩)
    · exact csi_of (by decide) (Nat.le_of_ble_eq_true rfl) (vX11_tick_0 a0 M1 _ ⟨fun q => absurd q hs, fun _ => find0 (hK _ FR.refl)⟩)
end T3

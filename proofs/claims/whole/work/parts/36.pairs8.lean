/-! ===== scatter, drop ===== -/
def rv (z : Int32) : Int32 := (Int32.toUInt32 z >>> (Int32.toUInt32 8 &&& Int32.toUInt32 31)).toInt32
theorem rv_nI (z : Int32) : ∃ k : Nat, k < 2 ^ 31 ∧ rv z = nI k := by
  have e := pk_ushr z 8 8 (by decide)
  have hz : z.toBitVec.toNat < 2 ^ 32 := z.toBitVec.isLt
  refine ⟨z.toBitVec.toNat / 2 ^ 8, ?_, ?_⟩
  · have : z.toBitVec.toNat / 2 ^ 8 ≤ z.toBitVec.toNat / 2 := Nat.div_le_div_left (by decide) (by decide)
    omega
  · apply Int32.toBitVec_inj.mp
    apply BitVec.eq_of_toNat_eq
    rw [pk_tn (Nat.lt_of_le_of_lt (Nat.div_le_self _ _) hz)]
    exact e
theorem rv_192 (z : Int32) : ∃ k : Nat, k < 192 ∧ rv z - rv z / 192 * 192 = nI k := by
  obtain ⟨k, hk, e⟩ := rv_nI z
  refine ⟨k % 192, Nat.mod_lt _ (by decide), ?_⟩
  rw [e]; exact pk_rem (d := 192) hk (by decide) (by decide)
theorem rv_10 (z : Int32) : 0 ≤ rv z - rv z / 10 * 10 ∧ rv z - rv z / 10 * 10 ≤ 9 := by
  obtain ⟨k, hk, e⟩ := rv_nI z
  have e2 : rv z - rv z / 10 * 10 = nI (k % 10) := by rw [e]; exact pk_rem (d := 10) hk (by decide) (by decide)
  have h1 : k % 10 < 10 := Nat.mod_lt _ (by decide)
  rw [e2]
  exact ⟨nI_pos' (by omega), nI_le (b := 9) (by omega) (by decide)⟩
def drw (f : Nat → Int32) : Nat → Int32 := upd f 3 (f 3 * 1103515245 + 12345)
def scS (f : Nat → Int32) : Nat → Int32 := upd (drw (drw f)) (18 + (rv (drw f 3) - rv (drw f 3) / 192 * 192).toNatClampNeg) (rv (drw (drw f) 3) - rv (drw (drw f) 3) / 10 * 10)
def scT : Nat → (Nat → Int32) → (Nat → Int32)
  | 0, f => f
  | n + 1, f => scT n (scS f)
theorem cR.draw1 {M M' : Mem} {f : Nat → Int32} (c : cR 3 M f) (e : M' = mset M 3 5 (M 3 5 * 1103515245 + 12345)) : cR 3 M' (drw f) ∧ M' 3 5 = drw f 3 := by
  have hz := c.z
  have e5 : M' 3 = upd (M 3) 5 (f 3 * 1103515245 + 12345) := by rw [e, mset_eq, hz.1]
  refine ⟨c.uZ (fun q hq => by rw [e]; exact mset_ne hq) (fun j hj _ => pk_un hj) ?_, ?_⟩
  · rw [e5]
    exact ⟨by rw [pk_us]; exact pk_us.symm, by rw [pk_un (by decide)]; exact hz.2.trans (pk_un (by decide)).symm⟩
  · rw [e5, pk_us]; exact pk_us.symm
def nDirt (f : Nat → Int32) : Int32 := sumN (fun k => b2i (¬ f (18 + k) ≤ 0)) 192
section D2
variable {w : Wd} {h : Nat} {M : Mem} {K : Int32 → Mem → Prop} {Kv : Mem → Prop} {f : Nat → Int32}
theorem uX5_draw (c : cR 3 M f) (hK : ∀ M', cR 3 M' (drw f) → FS M M' → K (rv (drw f 3)) M') : CSi w h kX5_draw [.ref 3] M K := by
  refine csi_of (by decide) (Nat.le_of_ble_eq_true rfl) (vX5_draw_0 M _ (fun M1 e1 => ⟨_, rfl, ?_⟩))
  have := c.draw1 e1
  rw [this.2]
  exact hK M1 this.1 (FS.of (fun q hq => by rw [e1]; exact mset_ne (by omega)))
theorem uX11_draw (hK : K (rv (drw (M 60) 3)) (mput M 60 (drw (M 60)))) : CSi w h kX11_draw [.ref 59] M K := by
  have hin : vp_in 3 666 := inL 666 rfl (by decide) (by decide)
  refine csi_of (by decide) (Nat.le_of_ble_eq_true rfl) (vX11_draw_0 M _ ⟨hin, hin, fun M1 e1 => ⟨hin, _, rfl, ?_⟩⟩)
  have e : M1 = mput M 60 (drw (M 60)) := e1
  rw [e]
  have e2 : mput M 60 (drw (M 60)) 60 (Int32.toNatClampNeg 3) = drw (M 60) 3 := by rw [mput_eq]; rfl
  rw [e2]; exact hK
theorem uX11_dirty (hK : K (nDirt (M 60)) M) : CSi w h kX11_dirty [.ref 59] M K := by
  refine csi_of (by decide) (Nat.le_of_ble_eq_true rfl) (vX11_dirty_0 M _ ?_)
  have L : ∀ k, k ≤ 192 → RM w h kX11_dirty 4 [(0, .ref 59), (1, .int (sumN (fun k => b2i (¬ M 60 (18 + k) ≤ 0)) k)), (2, .int (nI k))] [] M (fun r M' => ∃ x, r = some (.int x) ∧ K x M') := by
    refine up_ind ?_ (fun k hk ih => ?_)
    · exact vX11_dirty_4 _ _ M _ ⟨fun _ => ⟨_, rfl, hK⟩, fun q => absurd (by decide) q⟩
    · refine vX11_dirty_4 _ _ M _ ⟨fun q => absurd q (nI_ge (b := 192) hk (by decide)), fun _ => ⟨by rw [n18]; exact vp_in_nI (by omega) (by decide), fun x1 e1 x2 e2 => ?_⟩⟩
      rw [n18, nI_clamp (by omega)] at e1
      rw [e2, nI_1, e1]; exact ih
  exact L 0 (by decide)
theorem cntD (c : cR 3 M f) : sumN (fun k => b2i (0 < M 5 k)) 192 = nDirt f := by
  refine sumN_c (fun k hk => ?_)
  show b2i (0 < M (3 + 2) k) = _
  rw [(c.d k hk).1]
  exact b2i_iff Int32.not_le.symm
theorem p_scatter (hI : INV M) {a0 : Int32} : PAIR w kX10_scatter kX11_scatter [.int a0] M := by
  by_cases hs : (1 : Int32) ≤ a0 ∧ a0 ≤ (60 : Int32)
  · obtain ⟨m, hm, rfl⟩ := nI_of2 (n := 60) rfl (Int32.not_lt.mpr (Int32.le_trans (by decide) hs.1)) hs.2
    refine pairS hI (nDirt (scT m (M 60))) (scT m (M 60)) (fun K hK => ?_) (fun M1 e60 e4 K hK => ?_)
    · refine csi_of (by decide) (Nat.le_of_ble_eq_true rfl) (vX10_scatter_0 _ M _ ⟨fun _ => ?_, fun q => absurd hs q⟩)
      have L : ∀ n i, n + i = m → ∀ f Mx, cR 3 Mx f → FS M Mx → (∀ M', cR 3 M' (scT n f) → FS M M' → K (nDirt (scT n f)) M') → RM w 12 kX10_scatter 21 [(0, .ref 0), (1, .int (nI m)), (2, .int (nI i))] [] Mx (fun r M' => ∃ x, r = some (.int x) ∧ K x M') := by
        intro n
        induction n with
        | zero =>
          intro i hi f Mx cr fs g
          refine vX10_scatter_21 _ _ Mx _ ⟨fun _ => uX10_countAbove0 (la := 192) rfl (by decide) (by decide) ⟨_, rfl, ?_⟩, fun q => absurd (nI_le (by omega) (by omega)) q⟩
          rw [cntD cr]; exact g Mx cr fs
        | succ n ih =>
          intro i hi f Mx cr fs g
          refine vX10_scatter_21 _ _ Mx _ ⟨fun q => absurd q (nI_ge (by omega) (by omega)), fun _ => uX5_draw cr (fun Ma ca fa x1 e1 => uX5_draw ca (fun Mb cb fb => ?_))⟩
          obtain ⟨k, hk, ek⟩ := rv_192 (drw f 3)
          rw [ek] at e1
          refine ⟨by rw [e1]; exact vp_in_nI hk (by decide), fun Mc ec x2 e2 => ?_⟩
          rw [e1, nI_clamp (by omega)] at ec
          rw [e2, nI_1]
          have es : scS f = upd (drw (drw f)) (18 + k) (rv (drw (drw f) 3) - rv (drw (drw f) 3) / 10 * 10) := by unfold scS; rw [ek, nI_clamp (by omega)]
          refine ih (i + 1) (by omega) (scS f) Mc ?_ (fs.trans (fa.trans (fb.trans (FS.of (fun q hq => by rw [ec]; exact mset_ne (by omega)))))) g
          rw [es]
          exact cb.dirt1 (by omega) (rv_10 _) ec
      exact L m 0 rfl (M 60) M hI.cr FS.refl hK
    · refine csi_of (by decide) (Nat.le_of_ble_eq_true rfl) (vX11_scatter_0 _ M1 _ ⟨fun _ => ?_, fun q => absurd hs q⟩)
      have L : ∀ n i, n + i = m → ∀ Mx, FX60 M1 Mx → (∀ M', M' 60 = scT n (Mx 60) → FX60 M1 M' → K (nDirt (scT n (Mx 60))) M') → RM w 12 kX11_scatter 21 [(0, .ref 59), (1, .int (nI m)), (2, .int (nI i))] [] Mx (fun r M' => ∃ x, r = some (.int x) ∧ K x M') := by
        intro n
        induction n with
        | zero =>
          intro i hi Mx fs g
          exact vX11_scatter_21 _ _ Mx _ ⟨fun _ => uX11_dirty ⟨_, rfl, g Mx rfl fs⟩, fun q => absurd (nI_le (by omega) (by omega)) q⟩
        | succ n ih =>
          intro i hi Mx fs g
          refine vX11_scatter_21 _ _ Mx _ ⟨fun q => absurd q (nI_ge (by omega) (by omega)), fun _ => uX11_draw (fun x1 e1 => uX11_draw ?_)⟩
          rw [mput_eq]
          obtain ⟨k, hk, ek⟩ := rv_192 (drw (Mx 60) 3)
          rw [ek] at e1
          have es : scS (Mx 60) = upd (drw (drw (Mx 60))) (18 + k) (rv (drw (drw (Mx 60)) 3) - rv (drw (drw (Mx 60)) 3) / 10 * 10) := by unfold scS; rw [ek, nI_clamp (by omega)]
          refine ⟨by rw [e1, n18]; exact vp_in_nI (by omega) (by decide), fun Mc ec x2 e2 => ?_⟩
          rw [e1, n18, nI_clamp (by omega)] at ec
          rw [e2, nI_1]
          have e6 : Mc 60 = scS (Mx 60) := by rw [ec, mset_eq, mput_eq, es]
          refine ih (i + 1) (by omega) Mc (fs.trans (FX60.of (fun q hq => by rw [ec, mset_ne hq, mput_ne hq, mput_ne hq]))) ?_
          rw [e6]; exact g
      refine L m 0 rfl M1 FX60.refl ?_
      rw [e60]; exact hK
  · refine pairQ hI (.inr 0) in0 (fun K hK => ?_) (fun M1 r K hK => ?_)
    · exact csi_of (by decide) (Nat.le_of_ble_eq_true rfl) (vX10_scatter_0 a0 M _ ⟨fun q => absurd q hs, fun _ => tell0 (hK _ FR.refl)⟩)
    · exact csi_of (by decide) (Nat.le_of_ble_eq_true rfl) (vX11_scatter_0 a0 M1 _ ⟨fun q => absurd q hs, fun _ => find0 (hK _ FR.refl)⟩)
/-! a new drop -/
/-- the least number, from i on, that no drop has; 8 if there is none -/
def free (f : Nat → Int32) : Nat → Nat → Nat
  | 0, _ => 8
  | n + 1, i => if f (402 + 4 * i) < 0 then i else free f n (i + 1)
theorem free_le {f : Nat → Int32} : ∀ n i, n + i = 8 → free f n i ≤ 8 ∧ (free f n i < 8 → f (402 + 4 * free f n i) < 0) := by
  intro n
  induction n with
  | zero => intro i _; exact ⟨Nat.le_refl _, fun z => absurd z (by rw [free]; omega)⟩
  | succ n ih =>
    intro i hi
    rw [free]
    split
    · rename_i q; exact ⟨by omega, fun _ => q⟩
    · exact ih (i + 1) (by omega)
def newD (f : Nat → Int32) (d : Nat) (kd : Int32) (col : Nat) (wa : Int32) : Nat → Int32 := upd (upd (upd (upd (upd f (402 + 4 * d) kd) (403 + 4 * d) (nI col)) (404 + 4 * d) wa) (405 + 4 * d) 0) (210 + col) 99
theorem uX0_leastFree (hh : 1 ≤ h) (g : gDrop (M 9) (M 10) (M 11) (M 12) f) (hK : K (if free f 8 0 = 8 then -1 else nI (free f 8 0)) M) : CSi w h kX0_leastFree [.ref 8] M K := by
  obtain ⟨h, rfl⟩ : ∃ k, h = k + 1 := ⟨h - 1, by omega⟩
  refine csi_of (by decide) (Nat.le_of_ble_eq_true rfl) (vX0_leastFree_0 M _ ?_)
  have L : ∀ n i, n + i = 8 → K (if free f n i = 8 then -1 else nI (free f n i)) M → RM w (h + 1) kX0_leastFree 2 [(0, .ref 8), (1, .int (nI i))] [] M (fun r M' => ∃ x, r = some (.int x) ∧ K x M') := by
    intro n
    induction n with
    | zero =>
      intro i hi gk
      have : i = 8 := by omega
      subst this
      rw [free, if_pos rfl] at gk
      exact vX0_leastFree_2 _ M _ ⟨fun _ => ⟨_, rfl, gk⟩, fun c => absurd (by decide) c⟩
    | succ n ih =>
      intro i hi gk
      rw [free] at gk
      refine vX0_leastFree_2 _ M _ ⟨fun c => absurd c (nI_ge (b := 8) (by omega) (by decide)), fun _ => thereA (by omega) g ⟨fun c x1 e1 => ?_, fun c => ⟨_, rfl, ?_⟩⟩⟩
      · rw [b2n] at c
        rw [if_neg c] at gk
        rw [e1, nI_1]; exact ih (i + 1) (by omega) gk
      · rw [b2i_0] at c
        rw [if_pos (Classical.not_not.mp c), if_neg (by omega)] at gk; exact gk
  exact L 8 0 rfl hK
theorem gDrop.new {k c wa st f f' : Nat → Int32} {d : Nat} {kd cl wt sp : Int32} (g : gDrop k c wa st f) (k0 : 0 ≤ kd ∧ kd ≤ 7) (c0 : 0 ≤ cl ∧ cl ≤ 191) (w0 : 1 ≤ wt ∧ wt ≤ 99) (e1 : f' (402 + 4 * d) = kd) (e2 : f' (403 + 4 * d) = cl) (e3 : f' (404 + 4 * d) = wt) (e4 : f' (405 + 4 * d) = sp) (eo : ∀ j, 402 ≤ j → j < 434 → (j < 402 + 4 * d ∨ 405 + 4 * d < j) → f' j = f j) : gDrop (upd k d kd) (upd c d cl) (upd wa d wt) (upd st d sp) f' := by
  intro d' hd'
  by_cases hdd : d' = d
  · subst hdd
    unfold gDrop1
    rw [e1, e2, e3, e4, pk_us, pk_us, pk_us, pk_us]
    exact Or.inr ⟨w0, k0, rfl, rfl, c0, rfl, rfl⟩
  · unfold gDrop1
    rw [pk_un hdd, pk_un hdd, pk_un hdd, pk_un hdd, eo _ (by omega) (by omega) (by omega), eo _ (by omega) (by omega) (by omega), eo _ (by omega) (by omega) (by omega), eo _ (by omega) (by omega) (by omega)]
    exact g d' hd'
theorem uX5_makeDrop (hh : 2 ≤ h) (hc : cR 3 M f) {kd wt : Int32} {col : Nat} (k0 : 0 ≤ kd ∧ kd ≤ 7) (c0 : col < 12) (w0 : 1 ≤ wt ∧ wt ≤ 99) (hN : free f 8 0 = 8 → K (-1) M) (hY : free f 8 0 < 8 → ∀ M', cR 3 M' (newD f (free f 8 0) kd col wt) → FS M M' → K (nI (free f 8 0)) M') : CSi w h kX5_makeDrop [.ref 3, .int kd, .int (nI col), .int wt] M K := by
  obtain ⟨h, rfl⟩ : ∃ k, h = k + 1 := ⟨h - 1, by omega⟩
  have hfl := (free_le (f := f) 8 0 rfl).1
  refine csi_of (by decide) (Nat.le_of_ble_eq_true rfl) (vX5_makeDrop_0 kd _ wt M _ (uX0_leastFree (by omega) hc.r ?_))
  by_cases hf : free f 8 0 = 8
  · rw [if_pos hf]
    exact ⟨fun _ => ⟨_, rfl, hN hf⟩, fun q => absurd rfl q⟩
  · rw [if_neg hf]
    have hlt : free f 8 0 < 8 := by omega
    have hY := hY hlt
    generalize free f 8 0 = d at hlt hY
    have hin : vp_in (nI d) 8 := vp_in_nI hlt (by decide)
    refine ⟨fun q => absurd (nI_pos' (n := d) (by omega)) (by rw [q]; decide), fun _ => ⟨hin, fun M2 e2 => ⟨hin, fun M3 e3 => ⟨hin, fun M4 e4 => ⟨hin, fun M5 e5 => ⟨vp_in_nI (by omega) (by decide), fun M6 e6 => ⟨_, rfl, ?_⟩⟩⟩⟩⟩⟩⟩
    rw [nI_clamp (by omega)] at e2 e3 e4 e5 e6
    have c5 : cR 3 M5 (upd (upd (upd (upd f (402 + 4 * d) kd) (403 + 4 * d) (nI col)) (404 + 4 * d) wt) (405 + 4 * d) 0) := by
      refine hc.uDrop (fun q hq => by rw [e5, mset_ne (by omega), e4, mset_ne (by omega), e3, mset_ne (by omega), e2, mset_ne (by omega)]) (fun j hj => by rw [pk_un (by omega), pk_un (by omega), pk_un (by omega), pk_un (by omega)]) ?_
      have a9 : M5 (3 + 6) = upd (M 9) d kd := by rw [e5, mset_ne (by decide), e4, mset_ne (by decide), e3, mset_ne (by decide), e2]; exact mset_eq
      have a10 : M5 (3 + 7) = upd (M 10) d (nI col) := by rw [e5, mset_ne (by decide), e4, mset_ne (by decide), e3]; show mset M2 10 d _ 10 = _; rw [mset_eq, e2, mset_ne (by decide)]
      have a11 : M5 (3 + 8) = upd (M 11) d wt := by rw [e5, mset_ne (by decide), e4]; show mset M3 11 d _ 11 = _; rw [mset_eq, e3, mset_ne (by decide), e2, mset_ne (by decide)]
      have a12 : M5 (3 + 9) = upd (M 12) d 0 := by rw [e5]; show mset M4 12 d _ 12 = _; rw [mset_eq, e4, mset_ne (by decide), e3, mset_ne (by decide), e2, mset_ne (by decide)]
      rw [a9, a10, a11, a12]
      refine hc.r.new k0 ⟨nI_pos' (by omega), nI_le (b := 191) (by omega) (by decide)⟩ w0 ?_ ?_ ?_ ?_ ?_
      · rw [pk_un (by omega), pk_un (by omega), pk_un (by omega), pk_us]
      · rw [pk_un (by omega), pk_un (by omega), pk_us]
      · rw [pk_un (by omega), pk_us]
      · rw [pk_us]
      · intro j h1 h2 h3; rw [pk_un (by omega), pk_un (by omega), pk_un (by omega), pk_un (by omega)]
    exact hY M6 (c5.wet1 (by omega) (by decide) e6) (FS.of (fun q hq => by rw [e6, mset_ne (by omega), e5, mset_ne (by omega), e4, mset_ne (by omega), e3, mset_ne (by omega), e2, mset_ne (by omega)]))
theorem uX11_comes (hh : 1 ≤ h) {kd wt : Int32} {col : Nat} (c0 : col < 12) (hN : free (M 60) 8 0 = 8 → K (-1) M) (hY : free (M 60) 8 0 < 8 → K (nI (free (M 60) 8 0)) (mput M 60 (newD (M 60) (free (M 60) 8 0) kd col wt))) : CSi w h kX11_comes [.ref 59, .int kd, .int (nI col), .int wt] M K := by
  obtain ⟨h, rfl⟩ : ∃ k, h = k + 1 := ⟨h - 1, by omega⟩
  refine csi_of (by decide) (Nat.le_of_ble_eq_true rfl) (vX11_comes_0 kd _ wt M _ ?_)
  have L : ∀ n i, n + i = 8 → free (M 60) 8 0 = free (M 60) n i → RM w (h + 1) kX11_comes 3 [(0, .ref 59), (1, .int kd), (2, .int (nI col)), (3, .int wt), (4, .int (nI i))] [] M (fun r M' => ∃ x, r = some (.int x) ∧ K x M') := by
    intro n
    induction n with
    | zero =>
      intro i hi e
      have : i = 8 := by omega
      subst this
      exact vX11_comes_3 _ _ _ _ M _ ⟨fun _ => ⟨_, rfl, hN e⟩, fun c => absurd (by decide) c⟩
    | succ n ih =>
      intro i hi e
      rw [show free (M 60) (n + 1) i = if M 60 (402 + 4 * i) < 0 then i else free (M 60) n (i + 1) from rfl] at e
      refine vX11_comes_3 _ _ _ _ M _ ⟨fun c => absurd c (nI_ge (b := 8) (by omega) (by decide)), fun _ => uX11_of (by omega) 0 (by decide) rfl ⟨fun q => ?_, fun q x1 e1 => ?_⟩⟩
      · have q' : M 60 (402 + 4 * i) < 0 := q
        rw [if_pos q'] at e
        have hY := hY (by omega)
        rw [e] at hY
        have t1 : nI (402 + 4 * i) + 1 = nI (403 + 4 * i) := (nI_add _ 1).trans (by congr 1; omega)
        have t2 : nI (402 + 4 * i) + 2 = nI (404 + 4 * i) := (nI_add _ 2).trans (by congr 1; omega)
        have t3 : nI (402 + 4 * i) + 3 = nI (405 + 4 * i) := (nI_add _ 3).trans (by congr 1; omega)
        rw [n402 (by omega), t1, t2, t3, n210, nI_clamp (by omega), nI_clamp (by omega), nI_clamp (by omega), nI_clamp (by omega), nI_clamp (by omega)]
        refine ⟨vp_in_nI (by omega) (by decide), fun M2 e2 => ⟨vp_in_nI (by omega) (by decide), fun M3 e3 => ⟨vp_in_nI (by omega) (by decide), fun M4 e4 => ⟨vp_in_nI (by omega) (by decide), fun M5 e5 => ⟨vp_in_nI (by omega) (by decide), fun M6 e6 => ⟨_, rfl, ?_⟩⟩⟩⟩⟩⟩
        have e7 : M6 = mput M 60 (newD (M 60) i kd col wt) := by
          funext q
          by_cases hq : q = 60
          · subst hq; rw [e6, mset_eq, e5, mset_eq, e4, mset_eq, e3, mset_eq, e2, mset_eq, mput_eq]; rfl
          · rw [mput_ne hq, e6, mset_ne hq, e5, mset_ne hq, e4, mset_ne hq, e3, mset_ne hq, e2, mset_ne hq]
        rw [e7]; exact hY
      · have q' : ¬ M 60 (402 + 4 * i) < 0 := q
        rw [if_neg q'] at e
        rw [e1, nI_1]; exact ih (i + 1) (by omega) e
  exact L 8 0 rfl rfl
theorem p_drop (hI : INV M) {a0 a1 a2 : Int32} : PAIR w kX10_drop kX11_drop [.int a0, .int a1, .int a2] M := by
  by_cases hs : (0 ≤ a0 ∧ a0 ≤ 7) ∧ (0 ≤ a1 ∧ a1 ≤ 11) ∧ (1 ≤ a2 ∧ a2 ≤ 99)
  · obtain ⟨hk, hc, hw⟩ := id hs
    obtain ⟨col, hcol, rfl⟩ := nI_of2 (n := 11) rfl (Int32.not_lt.mpr hc.1) hc.2
    have hfl := (free_le (f := M 60) 8 0 rfl).1
    by_cases hf : free (M 60) 8 0 = 8
    · refine pairQ hI (.inr 1) in1 (fun K hK => ?_) (fun M1 r K hK => ?_)
      · refine csi_of (by decide) (Nat.le_of_ble_eq_true rfl) (vX10_drop_0 (by decide) a0 _ a2 M _ ⟨fun _ => uX5_makeDrop (by decide) hI.cr hk (by omega) hw (fun _ => ?_) (fun z => absurd hf (by omega)), fun q => absurd hs q⟩)
        exact ⟨fun q => absurd rfl q, fun _ => tell1 (hK _ FR.refl)⟩
      · refine csi_of (by decide) (Nat.le_of_ble_eq_true rfl) (vX11_drop_0 (by decide) a0 _ a2 M1 _ ⟨fun q => absurd hk q, fun _ => ⟨fun q => absurd hc q, fun _ => ⟨fun _ => uX11_comes (by decide) (by omega) (fun _ => ?_) (fun z => ?_), fun q => absurd hw q⟩⟩⟩)
        · exact ⟨fun q => absurd q (by decide), fun _ => find1 (hK _ FR.refl)⟩
        · rw [r.m60] at z; exact absurd hf (by omega)
    · have hlt : free (M 60) 8 0 < 8 := by omega
      refine pairS hI (nI (free (M 60) 8 0)) (newD (M 60) (free (M 60) 8 0) a0 col a2) (fun K hK => ?_) (fun M1 e60 e4 K hK => ?_)
      · refine csi_of (by decide) (Nat.le_of_ble_eq_true rfl) (vX10_drop_0 (by decide) a0 _ a2 M _ ⟨fun _ => uX5_makeDrop (by decide) hI.cr hk (by omega) hw (fun z => absurd z hf) (fun _ M' c f => ?_), fun q => absurd hs q⟩)
        exact ⟨fun _ => ⟨_, rfl, hK M' c f⟩, fun q => absurd (nI_pos' (n := free (M 60) 8 0) (by omega)) (by rw [q]; decide)⟩
      · refine csi_of (by decide) (Nat.le_of_ble_eq_true rfl) (vX11_drop_0 (by decide) a0 _ a2 M1 _ ⟨fun q => absurd hk q, fun _ => ⟨fun q => absurd hc q, fun _ => ⟨fun _ => uX11_comes (by decide) (by omega) (fun z => ?_) (fun _ => ?_), fun q => absurd hw q⟩⟩⟩)
        · rw [e60] at z; exact absurd z hf
        · rw [e60]
          exact ⟨fun _ => ⟨_, rfl, hK _ mput_eq (FX60.of (fun q hq => mput_ne hq))⟩, fun q => absurd (nI_pos' (by omega)) q⟩
  · refine pairQ hI (.inr 0) in0 (fun K hK => ?_) (fun M1 r K hK => ?_)
    · exact csi_of (by decide) (Nat.le_of_ble_eq_true rfl) (vX10_drop_0 (by decide) a0 a1 a2 M _ ⟨fun q => absurd q hs, fun _ => tell0 (hK _ FR.refl)⟩)
    · exact csi_of (by decide) (Nat.le_of_ble_eq_true rfl) (vX11_drop_0 (by decide) a0 a1 a2 M1 _ ⟨fun _ => find0 (hK _ FR.refl), fun q1 => ⟨fun _ => find0 (hK _ FR.refl), fun q2 => ⟨fun q3 => absurd ⟨q1, q2, q3⟩ hs, fun _ => find0 (hK _ FR.refl)⟩⟩⟩)
end D2

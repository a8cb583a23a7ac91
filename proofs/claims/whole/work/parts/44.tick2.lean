/-! ===== one tick: the reference's drops go; the wind; the fading ===== -/
def okF (f : Nat → Int32) : Prop := ∃ M : Mem, cR 3 M f
theorem okF.at {f : Nat → Int32} (h : okF f) {d : Nat} (hd : d < 8) (hp : ¬ f (402 + 4 * d) < 0) : (0 ≤ f (402 + 4 * d) ∧ f (402 + 4 * d) ≤ 7) ∧ (0 ≤ f (403 + 4 * d) ∧ f (403 + 4 * d) ≤ 191) ∧ (1 ≤ f (404 + 4 * d) ∧ f (404 + 4 * d) ≤ 99) := by
  obtain ⟨M, c⟩ := h
  obtain ⟨a, b, c1, c2, c3, c4, c5⟩ := (c.r d hd).got hp
  rw [c2] at c3
  rw [c4] at a
  exact ⟨b, c3, a⟩
theorem goF_mv {f : Nat → Int32} {d t : Nat} (ht : t < 192) (et : toF f d = nI t) (hne : ¬ toF f d = f (403 + 4 * d)) : goF f d = (if f (402 + 4 * d) = 1 ∨ f (402 + 4 * d) = 7 then (if f (404 + 4 * d) - 1 = 0 then upd (upd (mvF f d t) (404 + 4 * d) (f (404 + 4 * d) - 1)) (402 + 4 * d) (-1) else upd (mvF f d t) (404 + 4 * d) (f (404 + 4 * d) - 1)) else mvF f d t) := by
  unfold goF
  rw [if_neg hne, if_pos (by rw [et]; exact nI_pos' (by omega)), et, nI_clamp (by omega)]
theorem goF_out {f : Nat → Int32} {d k : Nat} (hk : k < 12) (ek : md12 (f (403 + 4 * d)) = nI k) (h1 : toF f d = -1) (h0 : 0 ≤ f (403 + 4 * d)) : goF f d = upd (upd f (6 + k) (f (6 + k) + f (404 + 4 * d))) (402 + 4 * d) (-1) := by
  unfold goF
  rw [if_neg (fun z => by rw [h1] at z; rw [← z] at h0; exact absurd h0 (by decide)), if_neg (by rw [h1]; decide), ek, nI_clamp (by omega)]
theorem okF.go {f : Nat → Int32} (h : okF f) {d : Nat} (hd : d < 8) (hp : ¬ f (402 + 4 * d) < 0) : okF (goF f d) := by
  obtain ⟨-, g5, -⟩ := h.at hd hp
  obtain ⟨M, c⟩ := h
  by_cases qe : toF f d = f (403 + 4 * d)
  · refine ⟨M, ?_⟩
    unfold goF; rw [if_pos qe]; exact c
  · rcases toF_bd (f := f) (d := d) g5.1 g5.2 with z | z
    · have hm := md12_bd g5.1
      obtain ⟨k, hk, ek⟩ := nI_of2 (n := 11) rfl (Int32.not_lt.mpr hm.1) hm.2
      rw [goF_out (by omega) ek z g5.1]
      exact ⟨_, c.out hd hp (by omega) rfl rfl⟩
    · obtain ⟨t, ht, et⟩ := nI_of2 (n := 191) rfl (Int32.not_lt.mpr z.1) z.2
      rw [goF_mv (by omega) et qe]
      have c3 := c.mv (t := t) hd hp (by omega) rfl rfl rfl
      have m2 : mvF f d t (402 + 4 * d) = f (402 + 4 * d) := mvF_at (by omega) (by omega) (by omega) (by omega)
      have m4 : mvF f d t (404 + 4 * d) = f (404 + 4 * d) := mvF_at (by omega) (by omega) (by omega) (by omega)
      by_cases hl : f (402 + 4 * d) = 1 ∨ f (402 + 4 * d) = 7
      · rw [if_pos hl]
        have := c3.less hd (by rw [m2]; exact hp) rfl
        rw [m4] at this
        exact ⟨_, this⟩
      · rw [if_neg hl]; exact ⟨_, c3⟩
theorem okF.let {f : Nat → Int32} : ∀ n i, n + i = 8 → ∀ f, okF f → okF (letT n i f) := by
  intro n
  induction n with
  | zero => intro i _ f h; exact h
  | succ n ih =>
    intro i hi f h
    rw [letT]
    refine ih (i + 1) (by omega) _ ?_
    split
    · exact h
    · rename_i q; exact h.go (by omega) q
def absw (x : Int32) : Int32 := if 0 ≤ x then x else -x
def sgw (x : Int32) : Int32 := if 0 ≤ x then 1 else -1
def blF (f : Nat → Int32) (d : Nat) : Nat → Int32 := if f (404 + 4 * d) < absw (f 1) ∧ (0 ≤ md12 (f (403 + 4 * d)) + sgw (f 1) ∧ md12 (f (403 + 4 * d)) + sgw (f 1) ≤ 11) then upd (upd f (403 + 4 * d) (f (403 + 4 * d) + sgw (f 1))) (210 + (f (403 + 4 * d) + sgw (f 1)).toNatClampNeg) 99 else f
theorem bl_bd {c x : Int32} (h0 : 0 ≤ c) (h1 : c ≤ 191) (h2 : 0 ≤ md12 c + sgw x ∧ md12 c + sgw x ≤ 11) : ∃ t : Nat, t < 192 ∧ c + sgw x = nI t := by
  obtain ⟨k, hk, rfl⟩ := nI_of2 (n := 191) rfl (Int32.not_lt.mpr h0) h1
  rw [md_nI (by omega)] at h2
  unfold sgw at h2 ⊢
  by_cases hx : 0 ≤ x
  · rw [if_pos hx] at h2 ⊢
    rw [nI_1] at h2 ⊢
    have h3 := (nI_leI (b := 11) (by omega) (by decide)).mp h2.2
    exact ⟨k + 1, by omega, rfl⟩
  · rw [if_neg hx] at h2 ⊢
    rw [g_pm1] at h2 ⊢
    have hk0 : ¬ k % 12 = 0 := fun z => by rw [z] at h2; exact absurd h2.1 (by decide)
    obtain ⟨m, hm⟩ : ∃ m, k = m + 1 := ⟨k - 1, by omega⟩
    subst hm
    exact ⟨m, by omega, nI_pred m⟩
theorem g_bes {m s : Int32} : (m + s < 0 ∨ 12 ≤ m + s) ↔ ¬ (0 ≤ m + s ∧ m + s ≤ 11) := by
  generalize m + s = x
  constructor
  · intro h; grind
  · intro h; grind
theorem gDrop.cel {k c wa st f f' : Nat → Int32} {d : Nat} {t : Int32} (g : gDrop k c wa st f) (hd : d < 8) (hp : ¬ f (402 + 4 * d) < 0) (t0 : 0 ≤ t ∧ t ≤ 191) (e1 : f' (403 + 4 * d) = t) (eo : ∀ j, 402 ≤ j → j < 434 → j ≠ 403 + 4 * d → f' j = f j) : gDrop k (upd c d t) wa st f' := by
  intro d' hd'
  by_cases hdd : d' = d
  · subst hdd
    obtain ⟨a, b, c1, c2, c3, c4, c5⟩ := (g d' hd').got hp
    unfold gDrop1
    rw [e1, pk_us, eo (402 + 4 * d') (by omega) (by omega) (by omega), eo (404 + 4 * d') (by omega) (by omega) (by omega), eo (405 + 4 * d') (by omega) (by omega) (by omega)]
    exact Or.inr ⟨a, b, c1, rfl, t0, c4, c5⟩
  · unfold gDrop1
    rw [pk_un hdd, eo _ (by omega) (by omega) (by omega), eo _ (by omega) (by omega) (by omega), eo _ (by omega) (by omega) (by omega), eo _ (by omega) (by omega) (by omega)]
    exact g d' hd'
theorem cR.bl {M : Mem} {f : Nat → Int32} (c : cR 3 M f) {d t : Nat} (hd : d < 8) (hp : ¬ f (402 + 4 * d) < 0) (ht : t < 192) {Ma Mb : Mem} (ea : Ma = mset M 10 d (nI t)) (eb : Mb = mset Ma 6 t 99) : cR 3 Mb (upd (upd f (403 + 4 * d) (nI t)) (210 + t) 99) := by
  have c1 : cR 3 Ma (upd f (403 + 4 * d) (nI t)) := by
    refine c.uDrop (fun q hq => by rw [ea]; exact mset_ne (by omega)) (fun j hj => pk_un (by omega)) ?_
    have e9 : Ma (3 + 6) = M (3 + 6) := by rw [ea]; exact mset_ne (by decide)
    have e10 : Ma (3 + 7) = upd (M (3 + 7)) d (nI t) := by rw [ea]; exact mset_eq
    have e11 : Ma (3 + 8) = M (3 + 8) := by rw [ea]; exact mset_ne (by decide)
    have e12 : Ma (3 + 9) = M (3 + 9) := by rw [ea]; exact mset_ne (by decide)
    rw [e9, e10, e11, e12]
    exact c.r.cel hd hp ⟨nI_pos' (by omega), nI_le (b := 191) (by omega) (by decide)⟩ pk_us (fun j _ _ a => pk_un a)
  exact c1.wet1 ht (by decide) eb
theorem okF.bl {f : Nat → Int32} (h : okF f) {d : Nat} (hd : d < 8) (hp : ¬ f (402 + 4 * d) < 0) : okF (blF f d) := by
  obtain ⟨-, g5, -⟩ := h.at hd hp
  obtain ⟨M, c⟩ := h
  unfold blF
  split
  · rename_i q
    obtain ⟨t, ht, et⟩ := bl_bd g5.1 g5.2 q.2
    rw [et, nI_clamp (by omega)]
    exact ⟨_, c.bl hd hp ht rfl rfl⟩
  · exact ⟨M, c⟩
def blT : Nat → Nat → (Nat → Int32) → (Nat → Int32)
  | 0, _, f => f
  | n + 1, d, f => blT n (d + 1) (if f (402 + 4 * d) < 0 then f else blF f d)
theorem okF.blt : ∀ n i, n + i = 8 → ∀ f, okF f → okF (blT n i f) := by
  intro n
  induction n with
  | zero => intro i _ f h; exact h
  | succ n ih =>
    intro i hi f h
    rw [blT]
    refine ih (i + 1) (by omega) _ ?_
    split
    · exact h
    · rename_i q; exact h.bl (by omega) q
theorem blF_1 {f : Nat → Int32} {d : Nat} (hd : d < 8) : blF f d 1 = f 1 := by
  unfold blF
  split
  · rw [pk_un (by omega), pk_un (by omega)]
  · rfl
def fdv (x y : Int32) : Int32 := if x ≤ y then 0 else x - y
def fdT : Nat → Nat → (Nat → Int32) → (Nat → Int32)
  | 0, _, f => f
  | n + 1, c, f => fdT n (c + 1) (upd f (210 + c) (fdv (f (210 + c)) (f 2)))
theorem g_fd {x y : Int32} (h0 : 0 ≤ x) (h1 : x ≤ 99) (h2 : 0 ≤ y) (h3 : y ≤ 9) : (if (0 : Int32) < x - y then x - y else 0) = fdv x y ∧ 0 ≤ fdv x y ∧ fdv x y ≤ 99 := by
  unfold fdv
  by_cases h : x ≤ y
  · rw [if_pos h, if_neg (by grind)]; decide
  · rw [if_neg h, if_pos (by grind)]; exact ⟨rfl, by grind, by grind⟩
theorem okF.fd : ∀ n i, n + i = 192 → ∀ f, okF f → okF (fdT n i f) := by
  intro n
  induction n with
  | zero => intro i _ f h; exact h
  | succ n ih =>
    intro i hi f h
    rw [fdT]
    refine ih (i + 1) (by omega) _ ?_
    obtain ⟨M, c⟩ := h
    have a := c.w i (by omega)
    have b := c.s.2.2
    exact ⟨_, c.wet1 (c := i) (by omega) (g_fd a.2.1 a.2.2 b.2.1 b.2.2).2 rfl⟩
section T2
variable {w : Wd} {h : Nat} {M M' : Mem} {K : Int32 → Mem → Prop} {Kv : Mem → Prop} {f : Nat → Int32}
theorem d402 {d : Nat} (hd : d < 8) : (402 + 4 * nI d = nI (402 + 4 * d)) ∧ nI (402 + 4 * d) + 1 = nI (403 + 4 * d) ∧ nI (402 + 4 * d) + 2 = nI (404 + 4 * d) ∧ nI (402 + 4 * d) + 3 = nI (405 + 4 * d) :=
  ⟨n402 hd, (nI_add _ 1).trans (by congr 1; omega), (nI_add _ 2).trans (by congr 1; omega), (nI_add _ 3).trans (by congr 1; omega)⟩
theorem uX11_goes (hh : 7 ≤ h) (ok : okF (M 60)) (h4 : M 59 4 = 0) {d : Nat} (hd : d < 8) (hp : ¬ M 60 (402 + 4 * d) < 0) (hK : ∀ M', M' 60 = goF (M 60) d → (∀ q, q ≠ 60 → M' q = M q) → Kv M') : CSv w h kX11_goes [.ref 59, .int (nI d)] M Kv := by
  obtain ⟨h, rfl⟩ : ∃ k, h = k + 1 := ⟨h - 1, by omega⟩
  obtain ⟨-, g5, -⟩ := ok.at hd hp
  obtain ⟨x0, x1, x2, x3⟩ := d402 hd
  refine csv_of (by decide) (Nat.le_of_ble_eq_true rfl) (vX11_goes_0 _ M _ (fun v ev => uX11_nextOf (by omega) hd g5.1 g5.2 ?_))
  rw [x0] at ev
  have c2 : (nI (402 + 4 * d)).toNatClampNeg = 402 + 4 * d := nI_clamp (by omega)
  have c3 : (nI (403 + 4 * d)).toNatClampNeg = 403 + 4 * d := nI_clamp (by omega)
  have c4 : (nI (404 + 4 * d)).toNatClampNeg = 404 + 4 * d := nI_clamp (by omega)
  have c5 : (nI (405 + 4 * d)).toNatClampNeg = 405 + 4 * d := nI_clamp (by omega)
  have i2 : vp_in (nI (402 + 4 * d)) 666 := vp_in_nI (by omega) (by decide)
  have i3 : vp_in (nI (403 + 4 * d)) 666 := vp_in_nI (by omega) (by decide)
  have i4 : vp_in (nI (404 + 4 * d)) 666 := vp_in_nI (by omega) (by decide)
  have i5 : vp_in (nI (405 + 4 * d)) 666 := vp_in_nI (by omega) (by decide)
  rw [wtR_F h4, show gt (dtR M) (wtF (M 60)) (M 60 0) (M 60 (402 + 4 * d)) (M 60 (403 + 4 * d)) (M 60 (404 + 4 * d)) (M 60 (405 + 4 * d)) = toF (M 60) d from rfl, ev, x1, x2, x3, c2, c3, c4, c5]
  have hm := md12_bd g5.1
  obtain ⟨k, hk, ek⟩ := nI_of2 (n := 11) rfl (Int32.not_lt.mpr hm.1) hm.2
  have ek' : M 60 (403 + 4 * d) - M 60 (403 + 4 * d) / 12 * 12 = nI k := ek
  rw [ek', n6, nI_clamp (show 6 + k < 2 ^ 31 by omega)]
  have hb := toF_bd (f := M 60) (d := d) g5.1 g5.2
  refine ⟨i3, fun qe => ⟨fun q0 => ⟨i3, fun M2 e2 => ⟨i5, i5, fun M3 e3 => ?_⟩⟩, fun q0 => ⟨i3, vp_in_nI (by omega) (by decide), i4, vp_in_nI (by omega) (by decide), fun M2 e2 => ⟨i2, fun M3 e3 => ⟨rfl, ?_⟩⟩⟩⟩, fun qe => ⟨rfl, ?_⟩⟩
  · have hb' : 0 ≤ toF (M 60) d ∧ toF (M 60) d ≤ 191 := hb.elim (fun z => absurd q0 (by rw [z]; decide)) id
    obtain ⟨t, ht, et⟩ := nI_of2 (n := 191) rfl (Int32.not_lt.mpr hb'.1) hb'.2
    rw [goF_mv (by omega) et qe] at hK
    rw [et, n210, nI_clamp (show 210 + t < 2 ^ 31 by omega)]
    refine ⟨vp_in_nI (by omega) (by decide), fun M4 e4 => ⟨i2, ?_⟩⟩
    have f4 : M4 60 = mvF (M 60) d t := by
      have a2 : M2 60 = upd (M 60) (403 + 4 * d) (nI t) := by rw [e2, mset_eq, et]
      rw [e4, mset_eq, e3, mset_eq, a2, pk_un (show 405 + 4 * d ≠ 403 + 4 * d by omega)]; rfl
    have o4 : ∀ q, q ≠ 60 → M4 q = M q := fun q hq => by rw [e4, mset_ne hq, e3, mset_ne hq, e2, mset_ne hq]
    rw [f4, mvF_at (by omega) (by omega) (by omega) (by omega), mvF_at (by omega) (by omega) (by omega) (by omega)]
    refine ⟨fun ql => ⟨i4, i4, fun M5 e5 => ⟨i4, ?_⟩⟩, fun ql => ⟨rfl, ?_⟩⟩
    · rw [if_pos ql] at hK
      have f5 : M5 60 = upd (mvF (M 60) d t) (404 + 4 * d) (M 60 (404 + 4 * d) - 1) := by rw [e5, mset_eq, f4]
      have o5 : ∀ q, q ≠ 60 → M5 q = M q := fun q hq => by rw [e5, mset_ne hq]; exact o4 q hq
      rw [f5, pk_us]
      refine ⟨fun qz => ⟨rfl, ?_⟩, fun qz => ⟨i2, fun M6 e6 => ⟨rfl, ?_⟩⟩⟩
      · rw [if_neg qz] at hK; exact hK M5 f5 o5
      · rw [if_pos qz] at hK
        exact hK M6 (by rw [e6, mset_eq, f5]) (fun q hq => by rw [e6, mset_ne hq]; exact o5 q hq)
    · rw [if_neg ql] at hK; exact hK M4 f4 o4
  · have z : toF (M 60) d = -1 := hb.elim id (fun z => absurd z.1 q0)
    rw [goF_out (by omega) ek z g5.1] at hK
    exact hK M3 (by rw [e3, mset_eq, e2, mset_eq]) (fun q hq => by rw [e3, mset_ne hq, e2, mset_ne hq])
  · have e : goF (M 60) d = M 60 := by unfold goF; rw [if_pos qe]
    rw [e] at hK
    exact hK M rfl (fun _ _ => rfl)
theorem g_0neg {x : Int32} : 0 - x = -x := by grind
theorem uX5_blow (hh : 3 ≤ h) (hc : cR 3 M f) (hK : ∀ M', cR 3 M' (blT 8 0 f) → FS M M' → Kv M') : CSv w h kX5_blow [.ref 3] M Kv := by
  obtain ⟨h, rfl⟩ : ∃ k, h = k + 1 := ⟨h - 1, by omega⟩
  refine csv_of (by decide) (Nat.le_of_ble_eq_true rfl) (vX5_blow_0 M _ (fun x1 e1 x2 e2 => ?_))
  have hw : M 4 3 = f 1 := hc.s.2.1.1
  rw [hw] at e1 e2
  have e1' : x1 = sgw (f 1) := e1
  have e2' : x2 = absw (f 1) := by rw [e2]; unfold absw; rw [g_0neg]
  have L : ∀ n i, n + i = 8 → ∀ g Mx, g 1 = f 1 → cR 3 Mx g → FS M Mx → (∀ M', cR 3 M' (blT n i g) → FS M M' → Kv M') → RM w (h + 1) kX5_blow 29 [(0, .ref 3), (1, .int (sgw (f 1))), (2, .int (absw (f 1))), (3, .int (nI i))] [] Mx (fun r M' => r = none ∧ Kv M') := by
    intro n
    induction n with
    | zero =>
      intro i hi g Mx g1 cx fx k
      have : i = 8 := by omega
      subst this
      exact vX5_blow_29 _ _ _ Mx _ ⟨fun _ => ⟨rfl, k Mx cx fx⟩, fun q => absurd (by decide) q⟩
    | succ n ih =>
      intro i hi g Mx g1 cx fx k
      rw [blT] at k
      have hin : vp_in (nI i) 8 := vp_in_nI (by omega) (by decide)
      refine vX5_blow_29 _ _ _ Mx _ ⟨fun q => absurd q (nI_ge (b := 8) (by omega) (by decide)), fun _ => thereA (by omega) cx.r ⟨fun q x1 e1 => ?_, fun q => ⟨hin, ?_⟩⟩⟩
      · rw [b2i_0] at q
        rw [if_pos (Classical.not_not.mp q)] at k
        rw [e1, nI_1]; exact ih (i + 1) (by omega) _ Mx g1 cx fx k
      · rw [b2n] at q
        rw [if_neg q] at k
        obtain ⟨-, -, -, k2, k5, k3, -⟩ := (cx.r i (by omega)).got q
        rw [k2] at k5
        rw [nI_clamp (by omega), show Mx 11 i = _ from k3, show Mx 10 i = _ from k2]
        have b1 := blF_1 (f := g) (d := i) (by omega)
        refine ⟨fun ql x1 e1 => ?_, fun ql => ⟨hin, uX10_besideOf ?_⟩⟩
        · have e : blF g i = g := by unfold blF; rw [g1, if_neg (fun z => absurd z.1 (Int32.not_lt.mpr ql))]
          rw [e] at k
          rw [e1, nI_1]; exact ih (i + 1) (by omega) _ Mx g1 cx fx k
        · unfold bes
          by_cases hr : 0 ≤ md12 (g (403 + 4 * i)) + sgw (f 1) ∧ md12 (g (403 + 4 * i)) + sgw (f 1) ≤ 11
          · rw [if_neg (fun z => g_bes.mp z hr)]
            obtain ⟨t, ht, et⟩ := bl_bd k5.1 k5.2 hr
            have e : blF g i = upd (upd g (403 + 4 * i) (nI t)) (210 + t) 99 := by
              unfold blF
              rw [g1, if_pos ⟨Int32.not_le.mp ql, hr⟩, et, nI_clamp (by omega)]
            rw [e] at k b1
            rw [et]
            refine ⟨fun z => absurd (nI_pos' (n := t) (by omega)) (by rw [z]; decide), fun _ => ⟨hin, fun M3 e3 => ⟨vp_in_nI ht (by decide), fun M4 e4 x1 e1 => ?_⟩⟩⟩
            rw [nI_clamp (by omega)] at e4
            rw [e1, nI_1]
            exact ih (i + 1) (by omega) _ M4 (b1.trans g1) (cx.bl (by omega) q ht e3 e4) (fx.trans (FS.of (fun q hq => by rw [e4, mset_ne (by omega), e3, mset_ne (by omega)]))) k
          · rw [if_pos (g_bes.mpr hr)]
            have e : blF g i = g := by unfold blF; rw [g1, if_neg (fun z => hr z.2)]
            rw [e] at k
            refine ⟨fun _ x1 e1 => ?_, fun z => absurd rfl z⟩
            rw [e1, nI_1]; exact ih (i + 1) (by omega) _ Mx g1 cx fx k
  rw [e1', e2']
  exact L 8 0 rfl f M rfl hc FS.refl hK
theorem uX11_blown (hh : 2 ≤ h) (ok : okF (M 60)) {d : Nat} (hd : d < 8) (hp : ¬ M 60 (402 + 4 * d) < 0) (hK : ∀ M', M' 60 = blF (M 60) d → (∀ q, q ≠ 60 → M' q = M q) → Kv M') : CSv w h kX11_blown [.ref 59, .int (nI d)] M Kv := by
  obtain ⟨h, rfl⟩ : ∃ k, h = k + 1 := ⟨h - 1, by omega⟩
  obtain ⟨-, g5, -⟩ := ok.at hd hp
  obtain ⟨x0, x1, x2, x3⟩ := d402 hd
  have c3 : (nI (403 + 4 * d)).toNatClampNeg = 403 + 4 * d := nI_clamp (by omega)
  have c4 : (nI (404 + 4 * d)).toNatClampNeg = 404 + 4 * d := nI_clamp (by omega)
  have i3 : vp_in (nI (403 + 4 * d)) 666 := vp_in_nI (by omega) (by decide)
  have i4 : vp_in (nI (404 + 4 * d)) 666 := vp_in_nI (by omega) (by decide)
  have z1 : Int32.toNatClampNeg 1 = 1 := rfl
  refine csv_of (by decide) (Nat.le_of_ble_eq_true rfl) (vX11_blown_0 (by omega) _ M _ (fun v ev => ⟨inL 666 rfl (by decide) (by decide), fun y ey => ?_⟩))
  rw [x0] at ev
  rw [z1] at ey
  rw [ev, x1, x2, c3, c4, ey]
  refine ⟨i4, fun ql => ⟨i3, fun u eu => ⟨fun hr => ⟨i3, i3, fun M1 e1 => ⟨i3, ?_⟩⟩, fun hr => ⟨rfl, ?_⟩⟩⟩, fun ql => ⟨rfl, ?_⟩⟩
  · have hr' : 0 ≤ md12 (M 60 (403 + 4 * d)) + sgw (M 60 1) ∧ md12 (M 60 (403 + 4 * d)) + sgw (M 60 1) ≤ 11 := by rw [eu] at hr; exact hr
    obtain ⟨t, ht, et⟩ := bl_bd g5.1 g5.2 hr'
    have e : blF (M 60) d = upd (upd (M 60) (403 + 4 * d) (nI t)) (210 + t) 99 := by
      unfold blF
      rw [if_pos ⟨ql, hr'⟩, et, nI_clamp (by omega)]
    rw [e] at hK
    have e1' : M1 60 = upd (M 60) (403 + 4 * d) (nI t) := by rw [e1, mset_eq]; congr 1
    rw [e1', pk_us, n210, nI_clamp (by omega)]
    refine ⟨vp_in_nI (by omega) (by decide), fun M2 e2 => ⟨rfl, hK M2 ?_ (fun q hq => by rw [e2, mset_ne hq, e1, mset_ne hq])⟩⟩
    rw [e2, mset_eq, e1']
  · have e : blF (M 60) d = M 60 := by
      unfold blF
      rw [if_neg (fun z => hr (by rw [eu]; exact z.2))]
    rw [e] at hK
    exact hK M rfl (fun _ _ => rfl)
  · have e : blF (M 60) d = M 60 := by
      unfold blF
      rw [if_neg (fun z => ql z.1)]
    rw [e] at hK
    exact hK M rfl (fun _ _ => rfl)
theorem uX2_fadeOnce (hh : 1 ≤ h) (hc : cR 3 M f) (hK : ∀ M', cR 3 M' (fdT 192 0 f) → FS M M' → Kv M') : CSv w h kX2_fadeOnce [.ref 4] M Kv := by
  obtain ⟨h, rfl⟩ : ∃ k, h = k + 1 := ⟨h - 1, by omega⟩
  refine csv_of (by decide) (Nat.le_of_ble_eq_true rfl) (vX2_fadeOnce_0 4 pane4 M _ ?_)
  have L : ∀ n i, n + i = 192 → ∀ f Mx, cR 3 Mx f → FS M Mx → (∀ M', cR 3 M' (fdT n i f) → FS M M' → Kv M') → RM w (h + 1) kX2_fadeOnce 2 [(0, .ref 4), (1, .int (nI i))] [] Mx (fun r M' => r = none ∧ Kv M') := by
    intro n
    induction n with
    | zero =>
      intro i hi f Mx cx fx k
      have : i = 192 := by omega
      subst this
      exact vX2_fadeOnce_2 4 _ pane4 Mx _ ⟨fun _ => ⟨rfl, k Mx cx fx⟩, fun q => absurd (by decide) q⟩
    | succ n ih =>
      intro i hi f Mx cx fx k
      rw [fdT] at k
      have hin : vp_in (nI i) 192 := vp_in_nI (by omega) (by decide)
      refine vX2_fadeOnce_2 4 _ pane4 Mx _ ⟨fun q => absurd q (nI_ge (b := 192) (by omega) (by decide)), fun _ => ⟨hin, hin, fun M1 e1 x1 ex => ?_⟩⟩
      have a := cx.w i (by omega)
      have b := cx.s.2.2
      have gf := g_fd a.2.1 a.2.2 b.2.1 b.2.2
      rw [nI_clamp (by omega), show Mx (4 + 2) i = _ from a.1, show Mx 4 4 = _ from b.1, gf.1] at e1
      rw [ex, nI_1]
      exact ih (i + 1) (by omega) _ M1 (cx.wet1 (by omega) gf.2 e1) (fx.trans (FS.of (fun q hq => by rw [e1]; exact mset_ne (by omega)))) k
  exact L 192 0 rfl f M hc FS.refl hK
end T2

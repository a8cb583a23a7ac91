/-! ===== one tick: the drops go ===== -/
def dtF (f : Nat → Int32) (c : Int32) : Int32 := f (18 + c).toNatClampNeg
def wtF (f : Nat → Int32) (c : Int32) : Int32 := f (210 + c).toNatClampNeg
theorem dtR_F {M : Mem} : dtR M = dtF (M 60) := rfl
theorem wtR_F {M : Mem} (h : M 59 4 = 0) : wtR M = wtF (M 60) := by funext c; unfold wtR wtF; rw [if_pos h]
theorem cR.pane {M : Mem} {f : Nat → Int32} (c : cR 3 M f) : pnI M 4 (dtF f) (wtF f) (f 0) := by
  refine ⟨fun x c0 c1 => ?_, fun x c0 c1 => ?_, c.s.1.1⟩
  · obtain ⟨k, hk, rfl⟩ := nI_of2 (n := 191) rfl (Int32.not_lt.mpr c0) c1
    unfold dtF
    rw [n18, nI_clamp (show k < 2 ^ 31 by omega), nI_clamp (show 18 + k < 2 ^ 31 by omega)]
    exact (c.d k (by omega)).1
  · obtain ⟨k, hk, rfl⟩ := nI_of2 (n := 191) rfl (Int32.not_lt.mpr c0) c1
    unfold wtF
    rw [n210, nI_clamp (show k < 2 ^ 31 by omega), nI_clamp (show 210 + k < 2 ^ 31 by omega)]
    have := c.w k (by omega)
    exact ⟨this.1, this.2.1⟩
/-- where drop d goes -/
def toF (f : Nat → Int32) (d : Nat) : Int32 := gt (dtF f) (wtF f) (f 0) (f (402 + 4 * d)) (f (403 + 4 * d)) (f (404 + 4 * d)) (f (405 + 4 * d))
/-- moved, and the cell wet -/
def mvF (f : Nat → Int32) (d t : Nat) : Nat → Int32 := upd (upd (upd f (403 + 4 * d) (nI t)) (405 + 4 * d) (f (405 + 4 * d) + 1)) (210 + t) 99
def goF (f : Nat → Int32) (d : Nat) : Nat → Int32 :=
  if toF f d = f (403 + 4 * d) then f
  else if 0 ≤ toF f d then
    (if f (402 + 4 * d) = 1 ∨ f (402 + 4 * d) = 7 then
      (if f (404 + 4 * d) - 1 = 0 then upd (upd (mvF f d (toF f d).toNatClampNeg) (404 + 4 * d) (f (404 + 4 * d) - 1)) (402 + 4 * d) (-1)
       else upd (mvF f d (toF f d).toNatClampNeg) (404 + 4 * d) (f (404 + 4 * d) - 1))
     else mvF f d (toF f d).toNatClampNeg)
  else upd (upd f (6 + (md12 (f (403 + 4 * d))).toNatClampNeg) (f (6 + (md12 (f (403 + 4 * d))).toNatClampNeg) + f (404 + 4 * d))) (402 + 4 * d) (-1)
theorem gDrop.rem {k c wa st f f' : Nat → Int32} {d : Nat} (g : gDrop k c wa st f) (e : f' (402 + 4 * d) = -1) (eo : ∀ j, 402 ≤ j → j < 434 → j ≠ 402 + 4 * d → j ≠ 404 + 4 * d → f' j = f j) : gDrop k c (upd wa d 0) st f' := by
  intro d' hd'
  by_cases hdd : d' = d
  · subst hdd; exact Or.inl ⟨pk_us, e⟩
  · unfold gDrop1
    rw [pk_un hdd, eo _ (by omega) (by omega) (by omega) (by omega), eo _ (by omega) (by omega) (by omega) (by omega), eo _ (by omega) (by omega) (by omega) (by omega), eo _ (by omega) (by omega) (by omega) (by omega)]
    exact g d' hd'
theorem gDrop.mov {k c wa st f f' : Nat → Int32} {d : Nat} {t sp : Int32} (g : gDrop k c wa st f) (hd : d < 8) (hp : ¬ f (402 + 4 * d) < 0) (t0 : 0 ≤ t ∧ t ≤ 191) (e1 : f' (403 + 4 * d) = t) (e2 : f' (405 + 4 * d) = sp) (eo : ∀ j, 402 ≤ j → j < 434 → j ≠ 403 + 4 * d → j ≠ 405 + 4 * d → f' j = f j) : gDrop k (upd c d t) wa (upd st d sp) f' := by
  intro d' hd'
  by_cases hdd : d' = d
  · subst hdd
    obtain ⟨a, b, c1, c2, c3, c4, c5⟩ := (g d' hd').got hp
    unfold gDrop1
    rw [e1, e2, pk_us, pk_us, eo (402 + 4 * d') (by omega) (by omega) (by omega) (by omega), eo (404 + 4 * d') (by omega) (by omega) (by omega) (by omega)]
    exact Or.inr ⟨a, b, c1, rfl, t0, c4, rfl⟩
  · unfold gDrop1
    rw [pk_un hdd, pk_un hdd, eo _ (by omega) (by omega) (by omega) (by omega), eo _ (by omega) (by omega) (by omega) (by omega), eo _ (by omega) (by omega) (by omega) (by omega), eo _ (by omega) (by omega) (by omega) (by omega)]
    exact g d' hd'
theorem g_le1 {x : Int32} (h : 1 ≤ x) (h2 : x ≤ 99) (h3 : ¬ x - 1 = 0) : 1 ≤ x - 1 ∧ x - 1 ≤ 99 := by grind
theorem g_eq1 {x : Int32} (h : x - 1 = 0) : x = 1 := by grind
section TK
variable {w : Wd} {h : Nat} {M M' : Mem} {K : Int32 → Mem → Prop} {Kv : Mem → Prop} {f : Nat → Int32}
theorem cR.out (c : cR 3 M f) {d k : Nat} (hd : d < 8) (hp : ¬ f (402 + 4 * d) < 0) (hk : k < 12) {Ma Mb : Mem} (ea : Ma = mset M 18 k (M 18 k + M 11 d)) (eb : Mb = mset Ma 11 d 0) : cR 3 Mb (upd (upd f (6 + k) (f (6 + k) + f (404 + 4 * d))) (402 + 4 * d) (-1)) := by
  have hw : M 11 d = f (404 + 4 * d) := ((c.r d hd).got hp).2.2.2.2.2.1
  have hs : M 18 k = f (6 + k) := c.h k hk
  have c1 : cR 3 Ma (upd f (6 + k) (f (6 + k) + f (404 + 4 * d))) := by
    refine c.uShed (fun q hq => by rw [ea]; exact mset_ne hq) (fun j hj => pk_un (by omega)) (fun x hx => ?_)
    have e : Ma (3 + 15) = upd (M 18) k (f (6 + k) + f (404 + 4 * d)) := by rw [ea, hw, hs]; exact mset_eq
    rw [e]
    by_cases hxk : x = k
    · subst hxk; rw [pk_us, pk_us]
    · rw [pk_un hxk, pk_un (by omega)]; exact c.h x hx
  refine c1.uDrop (fun q hq => by rw [eb]; exact mset_ne (by omega)) (fun j hj => pk_un (by omega)) ?_
  have e9 : Mb (3 + 6) = Ma (3 + 6) := by rw [eb]; exact mset_ne (by decide)
  have e10 : Mb (3 + 7) = Ma (3 + 7) := by rw [eb]; exact mset_ne (by decide)
  have e11 : Mb (3 + 8) = upd (Ma (3 + 8)) d 0 := by rw [eb]; exact mset_eq
  have e12 : Mb (3 + 9) = Ma (3 + 9) := by rw [eb]; exact mset_ne (by decide)
  rw [e9, e10, e11, e12]
  exact c1.r.rem pk_us (fun j _ _ a _ => pk_un a)
theorem cR.mv (c : cR 3 M f) {d t : Nat} (hd : d < 8) (hp : ¬ f (402 + 4 * d) < 0) (ht : t < 192) {Ma Mb Mc : Mem} (ea : Ma = mset M 10 d (nI t)) (eb : Mb = mset Ma 12 d (Ma 12 d + 1)) (ec : Mc = mset Mb 6 t 99) : cR 3 Mc (mvF f d t) := by
  have hst : M 12 d = f (405 + 4 * d) := ((c.r d hd).got hp).2.2.2.2.2.2
  have c1 : cR 3 Mb (upd (upd f (403 + 4 * d) (nI t)) (405 + 4 * d) (f (405 + 4 * d) + 1)) := by
    refine c.uDrop (fun q hq => by rw [eb, mset_ne (by omega), ea, mset_ne (by omega)]) (fun j hj => by rw [pk_un (by omega), pk_un (by omega)]) ?_
    have e9 : Mb (3 + 6) = M 9 := by rw [eb, mset_ne (by decide), ea]; exact mset_ne (by decide)
    have e10 : Mb (3 + 7) = upd (M 10) d (nI t) := by rw [eb, mset_ne (by decide), ea]; exact mset_eq
    have e11 : Mb (3 + 8) = M 11 := by rw [eb, mset_ne (by decide), ea]; exact mset_ne (by decide)
    have e12 : Mb (3 + 9) = upd (M 12) d (f (405 + 4 * d) + 1) := by
      have ea12 : Ma 12 = M 12 := by rw [ea]; exact mset_ne (by decide)
      rw [eb, ea12, hst]
      show mset Ma 12 d _ 12 = _
      rw [mset_eq, ea12]
    rw [e9, e10, e11, e12]
    exact c.r.mov hd hp ⟨nI_pos' (by omega), nI_le (b := 191) (by omega) (by decide)⟩ (by rw [pk_un (by omega), pk_us]) pk_us (fun j _ _ a b => by rw [pk_un b, pk_un a])
  exact c1.wet1 ht (by decide) ec
theorem mvF_at {d t j : Nat} (ht : t < 192) (hj : 402 ≤ j) (h1 : j ≠ 403 + 4 * d) (h2 : j ≠ 405 + 4 * d) : mvF f d t j = f j := by
  unfold mvF; rw [pk_un (by omega), pk_un h2, pk_un h1]
/-- one less of water -/
theorem cR.less {g : Nat → Int32} (c : cR 3 M g) {d : Nat} (hd : d < 8) (hp : ¬ g (402 + 4 * d) < 0) {Ma : Mem} (ea : Ma = mset M 11 d (M 11 d - 1)) : cR 3 Ma (if g (404 + 4 * d) - 1 = 0 then upd (upd g (404 + 4 * d) (g (404 + 4 * d) - 1)) (402 + 4 * d) (-1) else upd g (404 + 4 * d) (g (404 + 4 * d) - 1)) := by
  obtain ⟨a, -, -, -, -, hw, -⟩ := (c.r d hd).got hp
  have hw' : M 11 d = g (404 + 4 * d) := hw
  rw [hw] at a
  rw [hw'] at ea
  have e9 : Ma (3 + 6) = M (3 + 6) := by rw [ea]; exact mset_ne (by decide)
  have e10 : Ma (3 + 7) = M (3 + 7) := by rw [ea]; exact mset_ne (by decide)
  have e11 : Ma (3 + 8) = upd (M (3 + 8)) d (g (404 + 4 * d) - 1) := by rw [ea]; exact mset_eq
  have e12 : Ma (3 + 9) = M (3 + 9) := by rw [ea]; exact mset_ne (by decide)
  split
  · rename_i q
    refine c.uDrop (fun q hq => by rw [ea]; exact mset_ne (by omega)) (fun j hj => by rw [pk_un (by omega), pk_un (by omega)]) ?_
    rw [e9, e10, e11, e12, q]
    exact c.r.rem pk_us (fun j _ _ x y => by rw [pk_un x, pk_un y])
  · rename_i q
    refine c.uDrop (fun q hq => by rw [ea]; exact mset_ne (by omega)) (fun j hj => by rw [pk_un (by omega)]) ?_
    rw [e9, e10, e11, e12]
    exact c.r.wat hd hp (g_le1 a.1 a.2 q) pk_us (fun j _ _ x => pk_un x)
theorem uX5_comeTo (hh : 3 ≤ h) (c : cR 3 M f) {d t : Nat} (hd : d < 8) (hp : ¬ f (402 + 4 * d) < 0) (ht : t < 192) (hK : ∀ M', cR 3 M' (if f (402 + 4 * d) = 1 ∨ f (402 + 4 * d) = 7 then (if f (404 + 4 * d) - 1 = 0 then upd (upd (mvF f d t) (404 + 4 * d) (f (404 + 4 * d) - 1)) (402 + 4 * d) (-1) else upd (mvF f d t) (404 + 4 * d) (f (404 + 4 * d) - 1)) else mvF f d t) → FS M M' → Kv M') : CSv w h kX5_comeTo [.ref 3, .int (nI d), .int (nI t)] M Kv := by
  obtain ⟨h, rfl⟩ : ∃ k, h = k + 1 := ⟨h - 1, by omega⟩
  have hin : vp_in (nI d) 8 := vp_in_nI hd (by decide)
  refine csv_of (by decide) (Nat.le_of_ble_eq_true rfl) (vX5_comeTo_0 _ _ M _ ⟨hin, fun M1 e1 => ⟨hin, hin, fun M2 e2 => ⟨vp_in_nI ht (by decide), fun M3 e3 => ⟨hin, ?_⟩⟩⟩⟩)
  rw [nI_clamp (by omega)] at e1 e2 e3
  rw [nI_clamp (by omega)]
  have c3 := c.mv hd hp ht e1 e2 e3
  have m2 : mvF f d t (402 + 4 * d) = f (402 + 4 * d) := mvF_at ht (by omega) (by omega) (by omega)
  have m4 : mvF f d t (404 + 4 * d) = f (404 + 4 * d) := mvF_at ht (by omega) (by omega) (by omega)
  have hp3 : ¬ mvF f d t (402 + 4 * d) < 0 := by rw [m2]; exact hp
  obtain ⟨-, b, k3, -⟩ := (c3.r d hd).got hp3
  rw [m2] at b k3
  have fs : FS M M3 := FS.of (fun q hq => by rw [e3, mset_ne (by omega), e2, mset_ne (by omega), e1, mset_ne (by omega)])
  rw [show M3 9 d = _ from k3]
  refine uX10_isUnder (by omega) ?_
  rw [b2i_iff (und_1 b.1 b.2)]
  refine ⟨fun q => ⟨rfl, ?_⟩, fun q => ⟨hin, hin, fun M5 e5 => ⟨rfl, ?_⟩⟩⟩
  · rw [b2i_0] at q
    refine hK M3 ?_ fs
    rw [if_neg q]; exact c3
  · rw [b2n] at q
    refine hK M5 ?_ (fs.trans (FS.of (fun q hq => by rw [e5, mset_ne (by omega)])))
    rw [if_pos q]
    have := c3.less hd hp3 e5
    rw [m4] at this
    exact this
def letT : Nat → Nat → (Nat → Int32) → (Nat → Int32)
  | 0, _, f => f
  | n + 1, d, f => letT n (d + 1) (if f (402 + 4 * d) < 0 then f else goF f d)
theorem toF_bd {d : Nat} (h0 : 0 ≤ f (403 + 4 * d)) (h1 : f (403 + 4 * d) ≤ 191) : toF f d = -1 ∨ (0 ≤ toF f d ∧ toF f d ≤ 191) := gt_bd h0 (g_c191 h1)
theorem uX5_letGo (hh : 5 ≤ h) (hc : cR 3 M f) (hK : ∀ M', cR 3 M' (letT 8 0 f) → FS M M' → Kv M') : CSv w h kX5_letGo [.ref 3] M Kv := by
  obtain ⟨h, rfl⟩ : ∃ k, h = k + 1 := ⟨h - 1, by omega⟩
  refine csv_of (by decide) (Nat.le_of_ble_eq_true rfl) (vX5_letGo_0 M _ ?_)
  have L : ∀ n i, n + i = 8 → ∀ f Mx, cR 3 Mx f → FS M Mx → (∀ M', cR 3 M' (letT n i f) → FS M M' → Kv M') → RM w (h + 1) kX5_letGo 2 [(0, .ref 3), (1, .int (nI i))] [] Mx (fun r M' => r = none ∧ Kv M') := by
    intro n
    induction n with
    | zero =>
      intro i hi f Mx cx fx g
      have : i = 8 := by omega
      subst this
      exact vX5_letGo_2 _ Mx _ ⟨fun _ => ⟨rfl, g Mx cx fx⟩, fun q => absurd (by decide) q⟩
    | succ n ih =>
      intro i hi f Mx cx fx g
      rw [letT] at g
      have hin : vp_in (nI i) 8 := vp_in_nI (by omega) (by decide)
      refine vX5_letGo_2 _ Mx _ ⟨fun q => absurd q (nI_ge (b := 8) (by omega) (by decide)), fun _ => thereA (by omega) cx.r ⟨fun q x1 e1 => ?_, fun q => ⟨hin, fun x1 e1 => ⟨hin, hin, hin, ?_⟩⟩⟩⟩
      · rw [b2i_0] at q
        rw [if_pos (Classical.not_not.mp q)] at g
        rw [e1, nI_1]; exact ih (i + 1) (by omega) _ Mx cx fx g
      · rw [b2n] at q
        rw [if_neg q] at g
        obtain ⟨-, g0, g1, g2, g5, g3, g4⟩ := (cx.r i (by omega)).got q
        rw [g2] at g5
        rw [nI_clamp (by omega)] at e1
        rw [show Mx 10 i = _ from g2] at e1
        rw [nI_clamp (by omega), show Mx 9 i = _ from g1, show Mx 11 i = _ from g3, show Mx 12 i = _ from g4, e1]
        refine uX2_goal (by omega) pane4 cx.pane g5.1 g5.2 (fun fl => ?_)
        have ce : cR 3 (mput Mx (4 + 3) fl) f := cx.same (fun q a b c => mput_ne (by omega))
        have fe : FS M (mput Mx (4 + 3) fl) := fx.trans (FS.of (fun q hq => mput_ne (by omega)))
        rw [show gt (dtF f) (wtF f) (f 0) (f (402 + 4 * i)) (f (403 + 4 * i)) (f (404 + 4 * i)) (f (405 + 4 * i)) = toF f i from rfl]
        have hb := toF_bd (f := f) (d := i) g5.1 g5.2
        refine ⟨fun n1 => ⟨fun qe x2 e2 => ?_, fun qe => ?_⟩, fun n1 => ?_⟩
        · have e : goF f i = f := by unfold goF; rw [if_pos qe]
          rw [e] at g
          rw [e2, nI_1]; exact ih (i + 1) (by omega) _ _ ce fe g
        · have hb' : 0 ≤ toF f i ∧ toF f i ≤ 191 := hb.elim (fun z => absurd z n1) id
          obtain ⟨t, ht, et⟩ := nI_of2 (n := 191) rfl (Int32.not_lt.mpr hb'.1) hb'.2
          have e : goF f i = (if f (402 + 4 * i) = 1 ∨ f (402 + 4 * i) = 7 then (if f (404 + 4 * i) - 1 = 0 then upd (upd (mvF f i t) (404 + 4 * i) (f (404 + 4 * i) - 1)) (402 + 4 * i) (-1) else upd (mvF f i t) (404 + 4 * i) (f (404 + 4 * i) - 1)) else mvF f i t) := by
            unfold goF
            rw [if_neg qe, if_pos hb'.1, et, nI_clamp (by omega)]
          rw [e] at g
          rw [et]
          refine uX5_comeTo (by omega) ce (by omega) q (by omega) (fun M3 c3 f3 x2 e2 => ?_)
          rw [e2, nI_1]; exact ih (i + 1) (by omega) _ M3 c3 (fe.trans f3) g
        · have qe : ¬ toF f i = f (403 + 4 * i) := fun z => by rw [n1] at z; rw [← z] at g5; exact absurd g5.1 (by decide)
          have hm := md12_bd g5.1
          obtain ⟨k, hk, ek⟩ := nI_of2 (n := 11) rfl (Int32.not_lt.mpr hm.1) hm.2
          have ek' : f (403 + 4 * i) - f (403 + 4 * i) / 12 * 12 = nI k := ek
          have e : goF f i = upd (upd f (6 + k) (f (6 + k) + f (404 + 4 * i))) (402 + 4 * i) (-1) := by
            unfold goF
            rw [if_neg qe, if_neg (by rw [n1]; decide), ek, nI_clamp (by omega)]
          rw [e] at g
          rw [ek', nI_clamp (by omega)]
          refine ⟨vp_in_nI (by omega) (by decide), hin, vp_in_nI (by omega) (by decide), fun M3 e3 => ⟨hin, fun M4 e4 x2 e2 => ?_⟩⟩
          rw [e2, nI_1]
          exact ih (i + 1) (by omega) _ M4 (ce.out (by omega) q (by omega) e3 e4) (fe.trans (FS.of (fun q hq => by rw [e4, mset_ne (by omega), e3, mset_ne (by omega)]))) g
  exact L 8 0 rfl f M hc FS.refl hK
end TK

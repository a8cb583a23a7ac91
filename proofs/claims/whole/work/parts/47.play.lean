/-! ===== play, programOf ===== -/
/-- what programs hold stays -/
def prq (f f' : Nat → Int32) : Prop := f' 5 = f 5 ∧ ∀ j, 434 ≤ j → f' j = f j
theorem prq.refl {f : Nat → Int32} : prq f f := ⟨rfl, fun _ _ => rfl⟩
theorem prq.trans {f g k : Nat → Int32} (a : prq f g) (b : prq g k) : prq f k := ⟨b.1.trans a.1, fun j hj => (b.2 j hj).trans (a.2 j hj)⟩
theorem prq.upd {f g : Nat → Int32} (a : prq f g) {j : Nat} {v : Int32} (h5 : j ≠ 5) (h : j < 434) : prq f (upd g j v) := ⟨by rw [pk_un (by omega)]; exact a.1, fun i hi => by rw [pk_un (by omega)]; exact a.2 i hi⟩
theorem pr_mv {f : Nat → Int32} {d t : Nat} (hd : d < 8) (ht : t < 192) : prq f (mvF f d t) := ((prq.refl.upd (by omega) (by omega)).upd (by omega) (by omega)).upd (by omega) (by omega)
theorem pr_go {f : Nat → Int32} (h : okF f) {d : Nat} (hd : d < 8) (hp : ¬ f (402 + 4 * d) < 0) : prq f (goF f d) := by
  obtain ⟨-, g5, -⟩ := h.at hd hp
  by_cases qe : toF f d = f (403 + 4 * d)
  · unfold goF; rw [if_pos qe]; exact prq.refl
  · rcases toF_bd (f := f) (d := d) g5.1 g5.2 with z | z
    · have hm := md12_bd g5.1
      obtain ⟨k, hk, ek⟩ := nI_of2 (n := 11) rfl (Int32.not_lt.mpr hm.1) hm.2
      rw [goF_out (by omega) ek z g5.1]
      exact (prq.refl.upd (by omega) (by omega)).upd (by omega) (by omega)
    · obtain ⟨t, ht, et⟩ := nI_of2 (n := 191) rfl (Int32.not_lt.mpr z.1) z.2
      rw [goF_mv (by omega) et qe]
      have m := pr_mv (f := f) (d := d) (t := t) hd (by omega)
      split
      · split
        · exact (m.upd (by omega) (by omega)).upd (by omega) (by omega)
        · exact m.upd (by omega) (by omega)
      · exact m
theorem pr_let : ∀ n i, n + i = 8 → ∀ f, okF f → prq f (letT n i f) := by
  intro n
  induction n with
  | zero => intro i _ f _; exact prq.refl
  | succ n ih =>
    intro i hi f h
    rw [letT]
    split
    · exact ih (i + 1) (by omega) _ h
    · rename_i q; exact (pr_go h (by omega) q).trans (ih (i + 1) (by omega) _ (h.go (by omega) q))
theorem pr_bl : ∀ n i, n + i = 8 → ∀ f, okF f → prq f (blT n i f) := by
  intro n
  induction n with
  | zero => intro i _ f _; exact prq.refl
  | succ n ih =>
    intro i hi f h
    rw [blT]
    split
    · exact ih (i + 1) (by omega) _ h
    · rename_i q
      refine prq.trans ?_ (ih (i + 1) (by omega) _ (h.bl (by omega) q))
      obtain ⟨-, g5, -⟩ := h.at (by omega) q
      unfold blF
      split
      · rename_i q2
        obtain ⟨t, ht, et⟩ := bl_bd g5.1 g5.2 q2.2
        rw [et, nI_clamp (by omega)]
        exact (prq.refl.upd (by omega) (by omega)).upd (by omega) (by omega)
      · exact prq.refl
theorem pr_jc : ∀ n i, n + i = 8 → ∀ f, prq f (jcT n i f) := by
  intro n
  induction n with
  | zero => intro i _ f; exact prq.refl
  | succ n ih =>
    intro i hi f
    rw [jcT]
    refine prq.trans ?_ (ih (i + 1) (by omega) _)
    by_cases hp : f (402 + 4 * i) < 0
    · rw [jcS_no hp]; exact prq.refl
    · obtain ⟨l, l1, l2, l3, l4⟩ := lsOn_ex (f := f) (pl := f (403 + 4 * i)) 8 0 rfl i (by omega) (by omega) hp rfl
      by_cases hld : l = i
      · subst hld; rw [jcS_me l4]; exact prq.refl
      · rw [jcS_to hp (by omega) (by omega) hld l4]
        exact (prq.refl.upd (by omega) (by omega)).upd (by omega) (by omega)
theorem pr_fd : ∀ n i, n + i = 192 → ∀ f, prq f (fdT n i f) := by
  intro n
  induction n with
  | zero => intro i _ f; exact prq.refl
  | succ n ih =>
    intro i hi f
    rw [fdT]
    exact prq.trans (prq.refl.upd (by omega) (by omega)) (ih (i + 1) (by omega) _)
theorem pr_tk : ∀ n f, okF f → okF (tkT n f) ∧ prq f (tkT n f) := by
  intro n
  induction n with
  | zero => intro f h; exact ⟨h, prq.refl⟩
  | succ n ih =>
    intro f h
    rw [tkT]
    obtain ⟨a, b⟩ := ih _ h.tk
    refine ⟨a, prq.trans ?_ b⟩
    have o1 := okF.let (f := f) 8 0 rfl _ h
    exact ((((pr_let 8 0 rfl f h).trans (pr_bl 8 0 rfl _ o1)).trans (pr_jc 8 0 rfl _)).trans (pr_fd 192 0 rfl _)).upd (by decide) (by decide)
theorem pr_fi {c : Nat} (hc : c < 12) : ∀ n i, n + i = 16 → ∀ acc f, prq f (fiT n (c + 12 * i) acc f).2 := by
  intro n
  induction n with
  | zero => intro i _ acc f; exact prq.refl
  | succ n ih =>
    intro i hi acc f
    rw [fiT, show c + 12 * i + 12 = c + 12 * (i + 1) by omega]
    exact prq.trans (prq.refl.upd (by omega) (by omega)) (ih (i + 1) (by omega) _ _)
theorem pr_new {f : Nat → Int32} {d col : Nat} {kd wt : Int32} (hd : d < 8) (hc : col < 12) : prq f (newD f d kd col wt) := ((((prq.refl.upd (by omega) (by omega)).upd (by omega) (by omega)).upd (by omega) (by omega)).upd (by omega) (by omega)).upd (by omega) (by omega)
/-- one deed, in the reference's numbers -/
def doF (f : Nat → Int32) (a0 a1 a2 : Int32) : Nat → Int32 :=
  if 8 ≤ a0 then (if a0 = 8 then tkT a1.toNatClampNeg f else if a0 = 12 then (fiT 16 a1.toNatClampNeg 0 f).2 else upd f (a0 - 9).toNatClampNeg a1)
  else if free f 8 0 = 8 then f else newD f (free f 8 0) a0 a2.toNatClampNeg a1
section PL
variable {w : Wd} {h : Nat} {M M' : Mem} {K : Int32 → Mem → Prop} {Kv : Mem → Prop} {f : Nat → Int32}
theorem cR.set1 (c : cR 3 M f) {v : Int32} (hv : 0 ≤ v ∧ v ≤ 9) (e : M' = mset M 4 2 v) : cR 3 M' (upd f 0 v) := by
  obtain ⟨⟨s1, s2⟩, ⟨s3, s4⟩, ⟨s5, s6⟩⟩ := c.s
  refine c.uSet (fun q hq => by rw [e]; exact mset_ne hq) (fun j hj => pk_un (by omega)) ?_
  rw [e]
  show gSet (mset M 4 2 v 4) _
  rw [mset_eq]
  exact ⟨⟨by rw [pk_us, pk_us], by rw [pk_us]; exact hv⟩, ⟨by rw [pk_un (by decide), pk_un (by decide)]; exact s3, by rw [pk_un (by decide)]; exact s4⟩, ⟨by rw [pk_un (by decide), pk_un (by decide)]; exact s5, by rw [pk_un (by decide)]; exact s6⟩⟩
theorem cR.set2 (c : cR 3 M f) {v : Int32} (hv : -20 ≤ v ∧ v ≤ 20) (e : M' = mset M 4 3 v) : cR 3 M' (upd f 1 v) := by
  obtain ⟨⟨s1, s2⟩, ⟨s3, s4⟩, ⟨s5, s6⟩⟩ := c.s
  refine c.uSet (fun q hq => by rw [e]; exact mset_ne hq) (fun j hj => pk_un (by omega)) ?_
  rw [e]
  show gSet (mset M 4 3 v 4) _
  rw [mset_eq]
  exact ⟨⟨by rw [pk_un (by decide), pk_un (by decide)]; exact s1, by rw [pk_un (by decide)]; exact s2⟩, ⟨by rw [pk_us, pk_us], by rw [pk_us]; exact hv⟩, ⟨by rw [pk_un (by decide), pk_un (by decide)]; exact s5, by rw [pk_un (by decide)]; exact s6⟩⟩
theorem cR.set3 (c : cR 3 M f) {v : Int32} (hv : 0 ≤ v ∧ v ≤ 9) (e : M' = mset M 4 4 v) : cR 3 M' (upd f 2 v) := by
  obtain ⟨⟨s1, s2⟩, ⟨s3, s4⟩, ⟨s5, s6⟩⟩ := c.s
  refine c.uSet (fun q hq => by rw [e]; exact mset_ne hq) (fun j hj => pk_un (by omega)) ?_
  rw [e]
  show gSet (mset M 4 4 v 4) _
  rw [mset_eq]
  exact ⟨⟨by rw [pk_un (by decide), pk_un (by decide)]; exact s1, by rw [pk_un (by decide)]; exact s2⟩, ⟨by rw [pk_un (by decide), pk_un (by decide)]; exact s3, by rw [pk_un (by decide)]; exact s4⟩, ⟨by rw [pk_us, pk_us], by rw [pk_us]; exact hv⟩⟩
/-- a deed is one of these -/
theorem deed_cases {d n c d' n' c' : Int32} (h : deedR d n c d' n' c') : n = n' ∧ ((∃ k col m : Nat, k < 8 ∧ col < 12 ∧ 1 ≤ m ∧ m ≤ 99 ∧ d = nI k ∧ d' = nI k ∧ c = nI col ∧ c' = nI col ∧ n = nI m) ∨ (∃ m : Nat, 1 ≤ m ∧ m ≤ 50 ∧ d = 8 ∧ d' = 8 ∧ n = nI m) ∨ (d = 9 ∧ d' = 9 ∧ 0 ≤ n ∧ n ≤ 9) ∨ (d = 10 ∧ d' = 11 ∧ 0 ≤ n ∧ n ≤ 9) ∨ (d = 11 ∧ d' = 10 ∧ -20 ≤ n ∧ n ≤ 20) ∨ (∃ m : Nat, m < 12 ∧ d = 12 ∧ d' = 12 ∧ n = nI m)) := by
  obtain ⟨e, h⟩ := h
  refine ⟨e, ?_⟩
  rcases h with ⟨h1, h2, h3, h4, h5⟩ | ⟨h1, h2, h3, h4⟩ | ⟨h1, h2, h3, h4⟩ | ⟨h1, h2, h3, h4⟩ | ⟨h1, h2, h3, h4⟩ | ⟨h1, h2, h3, h4⟩
  · obtain ⟨k, hk, rfl⟩ := nI_of2 (n := 7) rfl (Int32.not_lt.mpr h1.1) h1.2
    obtain ⟨col, hc, rfl⟩ := nI_of2 (n := 11) rfl (Int32.not_lt.mpr h5.1) h5.2
    obtain ⟨m, hm, rfl⟩ := nI_of2 (n := 99) rfl (Int32.not_lt.mpr (Int32.le_trans (by decide) h4.1)) h4.2
    exact Or.inl ⟨k, col, m, by omega, by omega, (nI_leI (a := 1) (by decide) (by omega)).mp h4.1, hm, rfl, h2, rfl, h3.symm, rfl⟩
  · obtain ⟨m, hm, rfl⟩ := nI_of2 (n := 50) rfl (Int32.not_lt.mpr (Int32.le_trans (by decide) h3)) h4
    exact Or.inr (Or.inl ⟨m, (nI_leI (a := 1) (by decide) (by omega)).mp h3, hm, h1, h2, rfl⟩)
  · exact Or.inr (Or.inr (Or.inl ⟨h1, h2, h3, h4⟩))
  · exact Or.inr (Or.inr (Or.inr (Or.inl ⟨h1, h2, h3, h4⟩)))
  · exact Or.inr (Or.inr (Or.inr (Or.inr (Or.inl ⟨h1, h2, h3, h4⟩))))
  · obtain ⟨m, hm, rfl⟩ := nI_of2 (n := 11) rfl (Int32.not_lt.mpr h3) h4
    exact Or.inr (Or.inr (Or.inr (Or.inr (Or.inr ⟨m, by omega, h1, h2, rfl⟩))))
theorem doF_mk {k col m : Nat} (hk : k < 8) (hc : col < 12) : doF f (nI k) (nI m) (nI col) = if free f 8 0 = 8 then f else newD f (free f 8 0) (nI k) col (nI m) := by
  unfold doF
  rw [if_neg (show ¬ (8 : Int32) ≤ nI k from nI_ge (b := 8) hk (by decide)), nI_clamp (show col < 2 ^ 31 by omega)]
theorem doF_wa {m : Nat} {c : Int32} (hm : m ≤ 50) : doF f 8 (nI m) c = tkT m f := by
  unfold doF
  rw [if_pos (by decide), if_pos rfl, nI_clamp (by omega)]
theorem doF_fi {m : Nat} {c : Int32} (hm : m < 12) : doF f 12 (nI m) c = (fiT 16 m 0 f).2 := by
  unfold doF
  rw [if_pos (by decide), if_neg (by decide), if_pos rfl, nI_clamp (by omega)]
theorem doF_le {n c : Int32} : doF f 9 n c = upd f 0 n := by
  unfold doF
  rw [if_pos (by decide), if_neg (by decide), if_neg (by decide)]; rfl
theorem doF_wi {n c : Int32} : doF f 10 n c = upd f 1 n := by
  unfold doF
  rw [if_pos (by decide), if_neg (by decide), if_neg (by decide)]; rfl
theorem doF_fa {n c : Int32} : doF f 11 n c = upd f 2 n := by
  unfold doF
  rw [if_pos (by decide), if_neg (by decide), if_neg (by decide)]; rfl
theorem uX5_perform (hh : 7 ≤ h) (hc : cR 3 M f) {j : Nat} (hj : j < 72) {d' n' c' : Int32} (hd : deedR (M 15 j) (M 16 j) (M 17 j) d' n' c') (hK : ∀ M', cR 3 M' (doF f d' n' c') → FS M M' → Kv M') : CSv w h kX5_perform [.ref 3, .int (nI j)] M Kv := by
  obtain ⟨h, rfl⟩ : ∃ k, h = k + 1 := ⟨h - 1, by omega⟩
  have hin : vp_in (nI j) 72 := vp_in_nI hj (by decide)
  refine csv_of (by decide) (Nat.le_of_ble_eq_true rfl) (vX5_perform_0 _ M _ ⟨hin, fun x1 e1 => ⟨hin, fun x2 e2 => ?_⟩⟩)
  rw [nI_clamp (by omega)] at e1 e2 ⊢
  obtain ⟨en, hcs⟩ := deed_cases hd
  rw [← e1] at hcs
  rw [← e2] at hcs en
  rw [← en] at hK
  have hfl := (free_le (f := f) 8 0 rfl).1
  rcases hcs with ⟨k, col, m, hk, hcol, m1, m9, d1, d2, d3, d4, d5⟩ | ⟨m, m1, m9, d1, d2, d5⟩ | ⟨d1, d2, b1, b2⟩ | ⟨d1, d2, b1, b2⟩ | ⟨d1, d2, b1, b2⟩ | ⟨m, m9, d1, d2, d5⟩
  · rw [d2, d4, d5, doF_mk hk hcol] at hK
    rw [d3, d5, d1]
    refine ⟨fun q => absurd ((nI_eq (b := 8) (by omega) (by decide)).mp q) (by omega), fun _ => ⟨fun q => absurd ((nI_eq (b := 9) (by omega) (by decide)).mp q) (by omega), fun _ => ⟨fun q => absurd ((nI_eq (b := 10) (by omega) (by decide)).mp q) (by omega), fun _ => ⟨fun q => absurd ((nI_eq (b := 11) (by omega) (by decide)).mp q) (by omega), fun _ => ⟨fun q => absurd ((nI_eq (b := 12) (by omega) (by decide)).mp q) (by omega), fun _ => ⟨hin, ?_⟩⟩⟩⟩⟩⟩
    refine uX5_makeDrop (by omega) hc ⟨nI_pos' (by omega), nI_le (b := 7) (by omega) (by decide)⟩ hcol ⟨nI_le (a := 1) m1 (by omega), nI_le (b := 99) m9 (by decide)⟩ (fun z => ⟨rfl, ?_⟩) (fun z M1 c1 f1 => ⟨rfl, ?_⟩)
    · rw [if_pos z] at hK; exact hK M hc FS.refl
    · rw [if_neg (by omega)] at hK; exact hK M1 c1 f1
  · rw [d2, d5, doF_wa m9] at hK
    rw [d1, d5]
    exact ⟨fun _ => uX5_passTicks (by omega) hc m9 (fun M1 c1 f1 => ⟨rfl, hK M1 c1 f1⟩), fun q => absurd rfl q⟩
  · rw [d2, doF_le] at hK
    rw [d1]
    refine ⟨fun q => absurd q (by decide), fun _ => ⟨fun _ M1 e3 => ⟨rfl, ?_⟩, fun q => absurd rfl q⟩⟩
    exact hK M1 (hc.set1 ⟨b1, b2⟩ e3) (FS.of (fun q hq => by rw [e3]; exact mset_ne (by omega)))
  · rw [d2, doF_fa] at hK
    rw [d1]
    refine ⟨fun q => absurd q (by decide), fun _ => ⟨fun q => absurd q (by decide), fun _ => ⟨fun _ M1 e3 => ⟨rfl, ?_⟩, fun q => absurd rfl q⟩⟩⟩
    exact hK M1 (hc.set3 ⟨b1, b2⟩ e3) (FS.of (fun q hq => by rw [e3]; exact mset_ne (by omega)))
  · rw [d2, doF_wi] at hK
    rw [d1]
    refine ⟨fun q => absurd q (by decide), fun _ => ⟨fun q => absurd q (by decide), fun _ => ⟨fun q => absurd q (by decide), fun _ => ⟨fun _ M1 e3 => ⟨rfl, ?_⟩, fun q => absurd rfl q⟩⟩⟩⟩
    exact hK M1 (hc.set2 ⟨b1, b2⟩ e3) (FS.of (fun q hq => by rw [e3]; exact mset_ne (by omega)))
  · rw [d2, d5, doF_fi m9] at hK
    rw [d1, d5]
    exact ⟨fun q => absurd q (by decide), fun _ => ⟨fun q => absurd q (by decide), fun _ => ⟨fun q => absurd q (by decide), fun _ => ⟨fun q => absurd q (by decide), fun _ => ⟨fun _ => uX2_wetColumn hc m9 (fun M1 c1 f1 => ⟨rfl, hK M1 c1 f1⟩), fun q => absurd rfl q⟩⟩⟩⟩⟩
theorem uX11_does (hh : 9 ≤ h) (ok : okF (M 60)) (h4 : M 59 4 = 0) {d n c d' n' c' : Int32} (hd : deedR d n c d' n' c') (hK : ∀ M', M' 60 = doF (M 60) d' n' c' → FX60 M M' → Kv M') : CSv w h kX11_does [.ref 59, .int d', .int n', .int c'] M Kv := by
  obtain ⟨h, rfl⟩ : ∃ k, h = k + 1 := ⟨h - 1, by omega⟩
  refine csv_of (by decide) (Nat.le_of_ble_eq_true rfl) (vX11_does_0 d' n' c' M _ ?_)
  obtain ⟨en, hcs⟩ := deed_cases hd
  rw [en] at hcs
  have hfl := (free_le (f := M 60) 8 0 rfl).1
  rcases hcs with ⟨k, col, m, hk, hcol, m1, m9, d1, d2, d3, d4, d5⟩ | ⟨m, m1, m9, d1, d2, d5⟩ | ⟨d1, d2, b1, b2⟩ | ⟨d1, d2, b1, b2⟩ | ⟨d1, d2, b1, b2⟩ | ⟨m, m9, d1, d2, d5⟩
  · rw [d2, d4, d5, doF_mk hk hcol] at hK
    rw [d2, d4, d5]
    refine ⟨fun q => absurd q (nI_ge (b := 8) hk (by decide)), fun _ => uX11_comes (by omega) hcol (fun z => ⟨rfl, ?_⟩) (fun z => ⟨rfl, ?_⟩)⟩
    · rw [if_pos z] at hK; exact hK M rfl FX60.refl
    · rw [if_neg (by omega)] at hK; exact hK _ mput_eq (FX60.of (fun q hq => mput_ne hq))
  · rw [d2, d5, doF_wa m9] at hK
    rw [d2, d5]
    exact ⟨fun _ => ⟨fun q => absurd rfl q, fun _ => uX11_ticks (by omega) ok h4 m9 (fun M1 e1 f1 => ⟨rfl, hK M1 e1 (FX60.of f1)⟩)⟩, fun q => absurd (by decide) q⟩
  · rw [d2, doF_le] at hK
    rw [d2]
    refine ⟨fun _ => ⟨fun _ => ⟨fun _ => ⟨inL 666 rfl (by decide) (by decide), fun M1 e1 => ⟨rfl, hK M1 ?_ (FX60.of (fun q hq => by rw [e1]; exact mset_ne hq))⟩⟩, fun q => absurd q (by decide)⟩, fun q => absurd q (by decide)⟩, fun q => absurd (by decide) q⟩
    rw [e1]; exact mset_eq
  · rw [d2, doF_fa] at hK
    rw [d2]
    refine ⟨fun _ => ⟨fun _ => ⟨fun _ => ⟨inL 666 rfl (by decide) (by decide), fun M1 e1 => ⟨rfl, hK M1 ?_ (FX60.of (fun q hq => by rw [e1]; exact mset_ne hq))⟩⟩, fun q => absurd q (by decide)⟩, fun q => absurd q (by decide)⟩, fun q => absurd (by decide) q⟩
    rw [e1]; exact mset_eq
  · rw [d2, doF_wi] at hK
    rw [d2]
    refine ⟨fun _ => ⟨fun _ => ⟨fun _ => ⟨inL 666 rfl (by decide) (by decide), fun M1 e1 => ⟨rfl, hK M1 ?_ (FX60.of (fun q hq => by rw [e1]; exact mset_ne hq))⟩⟩, fun q => absurd q (by decide)⟩, fun q => absurd q (by decide)⟩, fun q => absurd (by decide) q⟩
    rw [e1]; exact mset_eq
  · rw [d2, d5, doF_fi m9] at hK
    rw [d2, d5]
    exact ⟨fun _ => ⟨fun _ => ⟨fun q => absurd rfl q, fun _ => uX11_fingers (by omega) m9 (fun M1 e1 f1 => ⟨rfl, hK M1 e1 f1⟩)⟩, fun q => absurd q (by decide)⟩, fun q => absurd (by decide) q⟩
theorem pr_do (ok : okF f) {d n c d' n' c' : Int32} (hd : deedR d n c d' n' c') : prq f (doF f d' n' c') := by
  obtain ⟨en, hcs⟩ := deed_cases hd
  rw [en] at hcs
  have hfl := (free_le (f := f) 8 0 rfl).1
  rcases hcs with ⟨k, col, m, hk, hcol, m1, m9, d1, d2, d3, d4, d5⟩ | ⟨m, m1, m9, d1, d2, d5⟩ | ⟨d1, d2, b1, b2⟩ | ⟨d1, d2, b1, b2⟩ | ⟨d1, d2, b1, b2⟩ | ⟨m, m9, d1, d2, d5⟩
  · rw [d2, d4, d5, doF_mk hk hcol]
    split
    · exact prq.refl
    · exact pr_new (by omega) hcol
  · rw [d2, d5, doF_wa m9]; exact (pr_tk m f ok).2
  · rw [d2, doF_le]; exact prq.refl.upd (by decide) (by decide)
  · rw [d2, doF_fa]; exact prq.refl.upd (by decide) (by decide)
  · rw [d2, doF_wi]; exact prq.refl.upd (by decide) (by decide)
  · rw [d2, d5, doF_fi m9]; exact pr_fi m9 16 0 rfl 0 f
end PL
section PL2
variable {f : Nat → Int32}
theorem okF.fi : ∀ n c acc, c + 12 * n ≤ 203 → ∀ f, okF f → okF (fiT n c acc f).2 := by
  intro n
  induction n with
  | zero => intro c acc _ f h; exact h
  | succ n ih =>
    intro c acc hc f h
    rw [fiT]
    obtain ⟨M, cc⟩ := h
    exact ih (c + 12) _ (by omega) _ ⟨_, cc.wet1 (c := c) (by omega) (by decide) rfl⟩
theorem okF.new (h : okF f) {d col : Nat} {kd wt : Int32} (k0 : 0 ≤ kd ∧ kd ≤ 7) (w0 : 1 ≤ wt ∧ wt ≤ 99) (hd : d < 8) (hc : col < 12) : okF (newD f d kd col wt) := by
  obtain ⟨M, c⟩ := h
  have c5 : cR 3 (mput (mput (mput (mput M 9 (upd (M 9) d kd)) 10 (upd (M 10) d (nI col))) 11 (upd (M 11) d wt)) 12 (upd (M 12) d 0)) (upd (upd (upd (upd f (402 + 4 * d) kd) (403 + 4 * d) (nI col)) (404 + 4 * d) wt) (405 + 4 * d) 0) := by
    refine c.uDrop (fun q hq => by rw [mput_ne (by omega), mput_ne (by omega), mput_ne (by omega), mput_ne (by omega)]) (fun j hj => by rw [pk_un (by omega), pk_un (by omega), pk_un (by omega), pk_un (by omega)]) ?_
    exact c.r.new k0 ⟨nI_pos' (by omega), nI_le (b := 191) (by omega) (by decide)⟩ w0 (by rw [pk_un (by omega), pk_un (by omega), pk_un (by omega), pk_us]) (by rw [pk_un (by omega), pk_un (by omega), pk_us]) (by rw [pk_un (by omega), pk_us]) pk_us (fun j h1 h2 h3 => by rw [pk_un (by omega), pk_un (by omega), pk_un (by omega), pk_un (by omega)])
  exact ⟨_, c5.wet1 (c := col) (by omega) (by decide) rfl⟩
theorem do_ok (ok : okF f) {d n c d' n' c' : Int32} (hd : deedR d n c d' n' c') : okF (doF f d' n' c') := by
  obtain ⟨en, hcs⟩ := deed_cases hd
  rw [en] at hcs
  have hfl := (free_le (f := f) 8 0 rfl).1
  rcases hcs with ⟨k, col, m, hk, hcol, m1, m9, d1, d2, d3, d4, d5⟩ | ⟨m, m1, m9, d1, d2, d5⟩ | ⟨d1, d2, b1, b2⟩ | ⟨d1, d2, b1, b2⟩ | ⟨d1, d2, b1, b2⟩ | ⟨m, m9, d1, d2, d5⟩
  · rw [d2, d4, d5, doF_mk hk hcol]
    split
    · exact ok
    · exact ok.new ⟨nI_pos' (by omega), nI_le (b := 7) (by omega) (by decide)⟩ ⟨nI_le (a := 1) m1 (by omega), nI_le (b := 99) m9 (by decide)⟩ (by omega) hcol
  · rw [d2, d5, doF_wa m9]; exact (pr_tk m f ok).1
  · rw [d2, doF_le]; obtain ⟨M, cc⟩ := ok; exact ⟨_, cc.set1 ⟨b1, b2⟩ rfl⟩
  · rw [d2, doF_fa]; obtain ⟨M, cc⟩ := ok; exact ⟨_, cc.set3 ⟨b1, b2⟩ rfl⟩
  · rw [d2, doF_wi]; obtain ⟨M, cc⟩ := ok; exact ⟨_, cc.set2 ⟨b1, b2⟩ rfl⟩
  · rw [d2, d5, doF_fi m9]; exact okF.fi 16 m 0 (by omega) f ok
end PL2

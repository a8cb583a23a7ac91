/-! ===== one tick: drops join ===== -/
def mn99 (a b : Int32) : Int32 := if a + b ≤ 99 then a + b else 99
abbrev Pd (f : Nat → Int32) (d : Nat) : Prop := ¬ f (402 + 4 * d) < 0
theorem lsOn_ok {f : Nat → Int32} {pl : Int32} : ∀ n i l, n + i = 8 → i ≤ l → l < 8 → Pd f l → f (403 + 4 * l) = pl → (∀ e, i ≤ e → e < l → ¬ (Pd f e ∧ f (403 + 4 * e) = pl)) → lsOn f pl n i = nI l := by
  intro n
  induction n with
  | zero => intro i l h1 h2 h3; omega
  | succ n ih =>
    intro i l h1 h2 h3 h4 h5 h6
    rw [lsOn]
    by_cases hil : i = l
    · subst hil; rw [if_pos ⟨h4, h5⟩]
    · rw [if_neg (h6 i (Nat.le_refl _) (by omega))]
      exact ih (i + 1) l (by omega) (by omega) h3 h4 h5 (fun e a b => h6 e (by omega) b)
theorem lsOn_ex {f : Nat → Int32} {pl : Int32} : ∀ n i, n + i = 8 → ∀ d, i ≤ d → d < 8 → Pd f d → f (403 + 4 * d) = pl → ∃ l, l ≤ d ∧ Pd f l ∧ f (403 + 4 * l) = pl ∧ lsOn f pl n i = nI l := by
  intro n
  induction n with
  | zero => intro i h1 d h2 h3; omega
  | succ n ih =>
    intro i h1 d h2 h3 h4 h5
    rw [lsOn]
    split
    · rename_i q; exact ⟨i, h2, q.1, q.2, rfl⟩
    · rename_i q
      have : ¬ i = d := fun z => by subst z; exact q ⟨h4, h5⟩
      exact ih (i + 1) (by omega) d (by omega) h3 h4 h5
/-- drop d joins the least on its cell -/
def jcS (f : Nat → Int32) (d : Nat) : Nat → Int32 := if f (402 + 4 * d) < 0 then f else if lsOn f (f (403 + 4 * d)) 8 0 = nI d then f else upd (upd f (404 + 4 * (lsOn f (f (403 + 4 * d)) 8 0).toNatClampNeg) (mn99 (f (404 + 4 * (lsOn f (f (403 + 4 * d)) 8 0).toNatClampNeg)) (f (404 + 4 * d)))) (402 + 4 * d) (-1)
def jcT : Nat → Nat → (Nat → Int32) → (Nat → Int32)
  | 0, _, f => f
  | n + 1, d, f => jcT n (d + 1) (jcS f d)
theorem cR.joi {M : Mem} {f : Nat → Int32} (c : cR 3 M f) {l d : Nat} (hl : l < 8) (hd : d < 8) (hne : l ≠ d) (pl : Pd f l) (pd : Pd f d) {Ma Mb : Mem} (ea : Ma = mset M 11 l (if M 11 l + M 11 d ≤ 99 then M 11 l + M 11 d else 99)) (eb : Mb = mset Ma 11 d 0) : cR 3 Mb (upd (upd f (404 + 4 * l) (mn99 (f (404 + 4 * l)) (f (404 + 4 * d)))) (402 + 4 * d) (-1)) := by
  obtain ⟨a, -, -, -, -, wl, -⟩ := (c.r l hl).got pl
  obtain ⟨b, -, -, -, -, wd, -⟩ := (c.r d hd).got pd
  rw [show M 11 l = _ from wl, show M 11 d = _ from wd] at ea
  rw [wl] at a
  rw [wd] at b
  have hb := g_min2 a.1 a.2 b.1 b.2
  have c1 : cR 3 Ma (upd f (404 + 4 * l) (mn99 (f (404 + 4 * l)) (f (404 + 4 * d)))) := by
    refine c.uDrop (fun q hq => by rw [ea]; exact mset_ne (by omega)) (fun j hj => pk_un (by omega)) ?_
    have e9 : Ma (3 + 6) = M (3 + 6) := by rw [ea]; exact mset_ne (by decide)
    have e10 : Ma (3 + 7) = M (3 + 7) := by rw [ea]; exact mset_ne (by decide)
    have e11 : Ma (3 + 8) = upd (M (3 + 8)) l (mn99 (f (404 + 4 * l)) (f (404 + 4 * d))) := by rw [ea]; exact mset_eq
    have e12 : Ma (3 + 9) = M (3 + 9) := by rw [ea]; exact mset_ne (by decide)
    rw [e9, e10, e11, e12]
    exact c.r.wat hl pl hb pk_us (fun j _ _ x => pk_un x)
  refine c1.uDrop (fun q hq => by rw [eb]; exact mset_ne (by omega)) (fun j hj => pk_un (by omega)) ?_
  have e9 : Mb (3 + 6) = Ma (3 + 6) := by rw [eb]; exact mset_ne (by decide)
  have e10 : Mb (3 + 7) = Ma (3 + 7) := by rw [eb]; exact mset_ne (by decide)
  have e11 : Mb (3 + 8) = upd (Ma (3 + 8)) d 0 := by rw [eb]; exact mset_eq
  have e12 : Mb (3 + 9) = Ma (3 + 9) := by rw [eb]; exact mset_ne (by decide)
  rw [e9, e10, e11, e12]
  exact c1.r.rem pk_us (fun j _ _ x _ => pk_un x)
theorem jcS_no {f : Nat → Int32} {d : Nat} (h : f (402 + 4 * d) < 0) : jcS f d = f := by unfold jcS; rw [if_pos h]
theorem jcS_me {f : Nat → Int32} {d : Nat} (h : lsOn f (f (403 + 4 * d)) 8 0 = nI d) : jcS f d = f := by
  unfold jcS
  split
  · rfl
  · rfl
theorem jcS_to {f : Nat → Int32} {d l : Nat} (hp : Pd f d) (hl : l < 8) (hd : d < 8) (hne : l ≠ d) (h : lsOn f (f (403 + 4 * d)) 8 0 = nI l) : jcS f d = upd (upd f (404 + 4 * l) (mn99 (f (404 + 4 * l)) (f (404 + 4 * d)))) (402 + 4 * d) (-1) := by
  unfold jcS
  rw [if_neg hp, h, if_neg (fun z => hne ((nI_eq (by omega) (by omega)).mp z)), nI_clamp (by omega)]
theorem okF.jc {f : Nat → Int32} (h : okF f) {d : Nat} (hd : d < 8) : okF (jcS f d) := by
  by_cases hp : f (402 + 4 * d) < 0
  · rw [jcS_no hp]; exact h
  · obtain ⟨l, l1, l2, l3, l4⟩ := lsOn_ex (f := f) (pl := f (403 + 4 * d)) 8 0 rfl d (by omega) hd hp rfl
    by_cases hld : l = d
    · subst hld; rw [jcS_me l4]; exact h
    · rw [jcS_to hp (by omega) hd hld l4]
      obtain ⟨M, c⟩ := h
      exact ⟨_, c.joi (by omega) hd hld l2 hp rfl rfl⟩
theorem okF.jct : ∀ n i, n + i = 8 → ∀ f, okF f → okF (jcT n i f) := by
  intro n
  induction n with
  | zero => intro i _ f h; exact h
  | succ n ih =>
    intro i hi f h
    rw [jcT]
    exact ih (i + 1) (by omega) _ (h.jc (by omega))
section JN
variable {w : Wd} {h : Nat} {M M' : Mem} {K : Int32 → Mem → Prop} {Kv : Mem → Prop} {f : Nat → Int32}
theorem uX0_join (hh : 3 ≤ h) (hc : cR 3 M f) (hK : ∀ M', cR 3 M' (jcT 8 0 f) → FS M M' → Kv M') : CSv w h kX0_join [.ref 8] M Kv := by
  obtain ⟨h, rfl⟩ : ∃ k, h = k + 1 := ⟨h - 1, by omega⟩
  refine csv_of (by decide) (Nat.le_of_ble_eq_true rfl) (vX0_join_0 M _ ?_)
  have L : ∀ n i, n + i = 8 → ∀ f Mx, cR 3 Mx f → FS M Mx → (∀ M', cR 3 M' (jcT n i f) → FS M M' → Kv M') → RM w (h + 1) kX0_join 2 [(0, .ref 8), (1, .int (nI i))] [] Mx (fun r M' => r = none ∧ Kv M') := by
    intro n
    induction n with
    | zero =>
      intro i hi f Mx cx fx k
      have : i = 8 := by omega
      subst this
      exact vX0_join_2 (by omega) _ Mx _ ⟨fun _ => ⟨rfl, k Mx cx fx⟩, fun q => absurd (by decide) q⟩
    | succ n ih =>
      intro i hi f Mx cx fx k
      rw [jcT] at k
      have hin : vp_in (nI i) 8 := vp_in_nI (by omega) (by decide)
      refine vX0_join_2 (by omega) _ Mx _ ⟨fun q => absurd q (nI_ge (b := 8) (by omega) (by decide)), fun _ => thereA (by omega) cx.r ⟨fun q => ⟨fun _ x1 e1 => ?_, fun z => absurd rfl z⟩, fun q => ⟨hin, ?_⟩⟩⟩
      · rw [b2i_0] at q
        rw [jcS_no (Classical.not_not.mp q)] at k
        rw [e1, nI_1]; exact ih (i + 1) (by omega) _ Mx cx fx k
      · rw [b2n] at q
        have hce : Mx 10 i = f (403 + 4 * i) := ((cx.r i (by omega)).got q).2.2.2.1
        rw [nI_clamp (by omega), hce]
        refine uX0_leastOn (by omega) cx.r ?_
        obtain ⟨l, l1, l2, l3, l4⟩ := lsOn_ex (f := f) (pl := f (403 + 4 * i)) 8 0 rfl i (by omega) (by omega) q rfl
        rw [l4]
        by_cases hld : l = i
        · subst hld
          rw [jcS_me l4] at k
          refine ⟨fun _ x1 e1 => ?_, fun z => absurd rfl z⟩
          rw [e1, nI_1]; exact ih (l + 1) (by omega) _ Mx cx fx k
        · rw [jcS_to q (by omega) (by omega) hld l4] at k
          refine ⟨fun z => absurd ((nI_eq (by omega) (by omega)).mp z) hld, fun _ => ⟨fun z => absurd ⟨nI_pos' (by omega), nI_le (b := 7) (by omega) (by decide)⟩ z, fun _ => ⟨hin, uX0_addWater (by omega) (by omega) ⟨hin, fun M4 e4 x1 e1 => ?_⟩⟩⟩⟩
          rw [e1, nI_1]
          exact ih (i + 1) (by omega) _ M4 (cx.joi (by omega) (by omega) hld l2 q rfl e4) (fx.trans (FS.of (fun q hq => by rw [e4, mset_ne (by omega), mset_ne (by omega)]))) k
  exact L 8 0 rfl f M hc FS.refl hK
end JN
/-! the reference joins in another order: both are one state -/
/-- the least drop on d's cell, up to d -/
def lfG (f : Nat → Int32) (d : Nat) : Nat → Nat → Nat
  | 0, _ => d
  | n + 1, i => if Pd f i ∧ f (403 + 4 * i) = f (403 + 4 * d) then i else lfG f d n (i + 1)
theorem lfG_ok {f : Nat → Int32} {d : Nat} : ∀ n i, n + i = d → i ≤ lfG f d n i ∧ lfG f d n i ≤ d ∧ (lfG f d n i < d → Pd f (lfG f d n i) ∧ f (403 + 4 * lfG f d n i) = f (403 + 4 * d)) ∧ (∀ e, i ≤ e → e < lfG f d n i → ¬ (Pd f e ∧ f (403 + 4 * e) = f (403 + 4 * d))) := by
  intro n
  induction n with
  | zero => intro i hi; rw [lfG]; exact ⟨by omega, Nat.le_refl _, fun z => absurd z (by omega), fun e a b => absurd b (by omega)⟩
  | succ n ih =>
    intro i hi
    rw [lfG]
    split
    · rename_i q; exact ⟨Nat.le_refl _, by omega, fun _ => q, fun e a b => absurd b (by omega)⟩
    · rename_i q
      obtain ⟨a, b, c, e⟩ := ih (i + 1) (by omega)
      refine ⟨by omega, b, c, fun x hx hx2 => ?_⟩
      by_cases hxi : x = i
      · subst hxi; exact q
      · exact e x (by omega) hx2
def gG (f : Nat → Int32) (d : Nat) : Nat := lfG f d d 0
section GG
variable {f : Nat → Int32} {d e : Nat}
theorem gG_le : gG f d ≤ d := (lfG_ok d 0 rfl).2.1
theorem gG_P (h : Pd f d) : Pd f (gG f d) := by
  rcases Nat.lt_or_ge (gG f d) d with z | z
  · exact ((lfG_ok d 0 rfl).2.2.1 z).1
  · have : gG f d = d := Nat.le_antisymm gG_le z
    rw [this]; exact h
theorem gG_c : f (403 + 4 * gG f d) = f (403 + 4 * d) := by
  rcases Nat.lt_or_ge (gG f d) d with z | z
  · exact ((lfG_ok d 0 rfl).2.2.1 z).2
  · have : gG f d = d := Nat.le_antisymm gG_le z
    rw [this]
theorem gG_min (h : e < gG f d) : ¬ (Pd f e ∧ f (403 + 4 * e) = f (403 + 4 * d)) := (lfG_ok d 0 rfl).2.2.2 e (by omega) h
theorem gG_eq (hd : Pd f d) (he : Pd f e) : f (403 + 4 * e) = f (403 + 4 * d) ↔ gG f e = gG f d := by
  constructor
  · intro h
    rcases Nat.lt_trichotomy (gG f e) (gG f d) with z | z | z
    · exact absurd ⟨gG_P he, gG_c.trans h⟩ (gG_min z)
    · exact z
    · exact absurd ⟨gG_P hd, gG_c.trans h.symm⟩ (gG_min z)
  · intro h
    rw [← gG_c (f := f) (d := e), h, gG_c (f := f) (d := d)]
theorem gG_gG (hd : Pd f d) : gG f (gG f d) = gG f d := (gG_eq hd (gG_P hd)).mp gG_c
end GG
/-- the water of a leader l, with all of its drops below m joined -/
def wfJ (f : Nat → Int32) (l : Nat) : Nat → Int32
  | 0 => f (404 + 4 * l)
  | m + 1 => if l < m ∧ Pd f m ∧ gG f m = l then mn99 (wfJ f l m) (f (404 + 4 * m)) else wfJ f l m
theorem wfJ_i {f : Nat → Int32} {l : Nat} : ∀ m, m ≤ l + 1 → wfJ f l m = f (404 + 4 * l) := by
  intro m
  induction m with
  | zero => intro _; rfl
  | succ m ih => intro h; rw [wfJ, if_neg (by omega)]; exact ih (by omega)
def STJ (f S : Nat → Int32) (rm : Nat → Prop) (wt : Nat → Int32) : Prop := (∀ d, d < 8 → (rm d → S (402 + 4 * d) = -1) ∧ (¬ rm d → S (402 + 4 * d) = f (402 + 4 * d))) ∧ (∀ d, d < 8 → S (404 + 4 * d) = wt d) ∧ (∀ j, (j < 402 ∨ 434 ≤ j ∨ (j % 4 ≠ 2 ∧ j % 4 ≠ 0)) → S j = f j)
theorem STJ.eq {f S S' : Nat → Int32} {rm rm' : Nat → Prop} {wt wt' : Nat → Int32} (h : STJ f S rm wt) (h' : STJ f S' rm' wt') (hr : ∀ d, d < 8 → (rm d ↔ rm' d)) (hw : ∀ d, d < 8 → wt d = wt' d) : S = S' := by
  funext j
  by_cases hj : j < 402 ∨ 434 ≤ j ∨ (j % 4 ≠ 2 ∧ j % 4 ≠ 0)
  · rw [h.2.2 j hj, h'.2.2 j hj]
  · by_cases h2 : j % 4 = 2
    · obtain ⟨d, hd, rfl⟩ : ∃ d, d < 8 ∧ j = 402 + 4 * d := ⟨(j - 402) / 4, by omega, by omega⟩
      by_cases hrd : rm d
      · rw [(h.1 d hd).1 hrd, (h'.1 d hd).1 ((hr d hd).mp hrd)]
      · rw [(h.1 d hd).2 hrd, (h'.1 d hd).2 (fun z => hrd ((hr d hd).mpr z))]
    · obtain ⟨d, hd, rfl⟩ : ∃ d, d < 8 ∧ j = 404 + 4 * d := ⟨(j - 404) / 4, by omega, by omega⟩
      rw [h.2.1 d hd, h'.2.1 d hd, hw d hd]
theorem STJ.conv {f S : Nat → Int32} {rm rm' : Nat → Prop} {wt wt' : Nat → Int32} (h : STJ f S rm wt) (hr : ∀ d, d < 8 → (rm d ↔ rm' d)) (hw : ∀ d, d < 8 → wt d = wt' d) : STJ f S rm' wt' :=
  ⟨fun d hd => ⟨fun z => (h.1 d hd).1 ((hr d hd).mpr z), fun z => (h.1 d hd).2 (fun q => z ((hr d hd).mp q))⟩, fun d hd => by rw [h.2.1 d hd, hw d hd], h.2.2⟩
/-- m joined l -/
theorem STJ.step {f S : Nat → Int32} {rm rm' : Nat → Prop} {wt wt' : Nat → Int32} {l m : Nat} {v : Int32} (h : STJ f S rm wt) (hl : l < 8) (hm : m < 8) (hr : ∀ d, d < 8 → (rm' d ↔ (rm d ∨ d = m))) (hv : wt' l = v) (hw : ∀ d, d < 8 → d ≠ l → wt' d = wt d) : STJ f (upd (upd S (404 + 4 * l) v) (402 + 4 * m) (-1)) rm' wt' := by
  refine ⟨fun d hd => ?_, fun d hd => ?_, fun j hj => ?_⟩
  · by_cases hdm : d = m
    · subst hdm; exact ⟨fun _ => pk_us, fun z => absurd ((hr d hd).mpr (Or.inr rfl)) z⟩
    · rw [pk_un (by omega), pk_un (by omega)]
      refine ⟨fun z => (h.1 d hd).1 ?_, fun z => (h.1 d hd).2 (fun q => z ((hr d hd).mpr (Or.inl q)))⟩
      rcases (hr d hd).mp z with q | q
      · exact q
      · exact absurd q hdm
  · rw [pk_un (by omega)]
    by_cases hdl : d = l
    · subst hdl; rw [pk_us, hv]
    · rw [pk_un (by omega), h.2.1 d hd, hw d hd hdl]
  · rw [pk_un (by omega), pk_un (by omega)]; exact h.2.2 j hj
def rmC (f : Nat → Int32) (m d : Nat) : Prop := d < m ∧ Pd f d ∧ gG f d ≠ d
def wtC (f : Nat → Int32) (m d : Nat) : Int32 := if Pd f d ∧ gG f d = d then wfJ f d m else f (404 + 4 * d)
theorem STJ.P {f S : Nat → Int32} {rm : Nat → Prop} {wt : Nat → Int32} (h : STJ f S rm wt) {d : Nat} (hd : d < 8) : Pd S d ↔ (Pd f d ∧ ¬ rm d) := by
  by_cases hr : rm d
  · unfold Pd
    rw [(h.1 d hd).1 hr]
    exact ⟨fun z => absurd (by decide) z, fun z => absurd hr z.2⟩
  · unfold Pd
    rw [(h.1 d hd).2 hr]
    exact ⟨fun z => ⟨z, hr⟩, fun z => z.1⟩
theorem STJ.c {f S : Nat → Int32} {rm : Nat → Prop} {wt : Nat → Int32} (h : STJ f S rm wt) (d : Nat) : S (403 + 4 * d) = f (403 + 4 * d) := h.2.2 _ (by omega)
theorem jc_st {f : Nat → Int32} : ∀ n m, n + m = 8 → ∀ S, STJ f S (rmC f m) (wtC f m) → STJ f (jcT n m S) (rmC f 8) (wtC f 8) := by
  intro n
  induction n with
  | zero => intro m hm S h; have : m = 8 := by omega
            subst this; exact h
  | succ n ih =>
    intro m hm S h
    have hm8 : m < 8 := by omega
    rw [jcT]
    refine ih (m + 1) (by omega) _ ?_
    have hPm := h.P hm8
    by_cases hP : Pd f m
    · have hPS : Pd S m := hPm.mpr ⟨hP, fun z => absurd z.1 (by omega)⟩
      have hG := gG_le (f := f) (d := m)
      have hls : lsOn S (S (403 + 4 * m)) 8 0 = nI (gG f m) := by
        refine lsOn_ok 8 0 (gG f m) rfl (by omega) (by omega) ?_ ?_ ?_
        · exact (h.P (by omega)).mpr ⟨gG_P hP, fun z => z.2.2 (gG_gG hP)⟩
        · rw [h.c, h.c]; exact gG_c
        · intro e _ he z
          rw [h.c, h.c] at z
          exact gG_min he ⟨((h.P (by omega)).mp z.1).1, z.2⟩
      by_cases hGm : gG f m = m
      · rw [jcS_me (by rw [hls, hGm])]
        refine h.conv (fun d hd => ?_) (fun d hd => ?_)
        · unfold rmC
          constructor
          · intro z; exact ⟨by omega, z.2⟩
          · intro z
            refine ⟨?_, z.2⟩
            rcases Nat.lt_or_ge d m with q | q
            · exact q
            · have : d = m := by omega
              subst this; exact absurd hGm z.2.2
        · unfold wtC
          split
          · rename_i q
            rw [wfJ, if_neg (fun z => by omega)]
          · rfl
      · rw [jcS_to hPS (by omega) hm8 hGm hls]
        refine h.step (by omega) hm8 (fun d hd => ?_) ?_ (fun d hd hdl => ?_)
        · unfold rmC
          constructor
          · intro z
            rcases Nat.lt_or_ge d m with q | q
            · exact Or.inl ⟨q, z.2⟩
            · exact Or.inr (by omega)
          · intro z
            rcases z with z | z
            · exact ⟨by omega, z.2⟩
            · subst z; exact ⟨by omega, hP, hGm⟩
        · have e1 : S (404 + 4 * gG f m) = wfJ f (gG f m) m := by
            rw [h.2.1 _ (by omega)]; unfold wtC; rw [if_pos ⟨gG_P hP, gG_gG hP⟩]
          have e2 : S (404 + 4 * m) = f (404 + 4 * m) := by
            rw [h.2.1 _ hm8]; unfold wtC; rw [if_neg (fun z => hGm z.2)]
          rw [e1, e2]
          unfold wtC
          rw [if_pos ⟨gG_P hP, gG_gG hP⟩, wfJ, if_pos ⟨by omega, hP, rfl⟩]
        · unfold wtC
          split
          · rw [wfJ, if_neg (fun z => hdl z.2.2.symm)]
          · rfl
    · have : S (402 + 4 * m) < 0 := Classical.not_not.mp (fun z => hP (hPm.mp z).1)
      rw [jcS_no this]
      refine h.conv (fun d hd => ?_) (fun d hd => ?_)
      · unfold rmC
        constructor
        · intro z; exact ⟨by omega, z.2⟩
        · intro z
          refine ⟨?_, z.2⟩
          rcases Nat.lt_or_ge d m with q | q
          · exact q
          · have : d = m := by omega
            subst this; exact absurd z.2.1 hP
      · unfold wtC
        split
        · rw [wfJ, if_neg (fun z => hP z.2.1)]
        · rfl
theorem jc_all {f : Nat → Int32} : STJ f (jcT 8 0 f) (rmC f 8) (wtC f 8) := by
  refine jc_st 8 0 rfl f ⟨fun d hd => ⟨fun z => absurd z.1 (by omega), fun _ => rfl⟩, fun d hd => ?_, fun _ _ => rfl⟩
  unfold wtC
  split
  · rfl
  · rfl
def rmJ (f : Nat → Int32) (l m d : Nat) : Prop := Pd f d ∧ gG f d ≠ d ∧ (gG f d < l ∨ (gG f d = l ∧ d < m))
def wtJ (f : Nat → Int32) (l m d : Nat) : Int32 := if Pd f d ∧ gG f d = d then (if d < l then wfJ f d 8 else if d = l then wfJ f d m else f (404 + 4 * d)) else f (404 + 4 * d)
section JR
variable {w : Wd} {h : Nat} {M M' : Mem} {Kv : Mem → Prop}
theorem uX11_joins (hh : 1 ≤ h) (hK : ∀ M', M' 60 = jcT 8 0 (M 60) → (∀ q, q ≠ 60 → M' q = M q) → Kv M') : CSv w h kX11_joins [.ref 59] M Kv := by
  obtain ⟨h, rfl⟩ : ∃ k, h = k + 1 := ⟨h - 1, by omega⟩
  refine csv_of (by decide) (Nat.le_of_ble_eq_true rfl) (vX11_joins_0 M _ ?_)
  have O : ∀ n l, n + l = 8 → ∀ Mx : Mem, (∀ q, q ≠ 60 → Mx q = M q) → STJ (M 60) (Mx 60) (rmJ (M 60) l (l + 1)) (wtJ (M 60) l (l + 1)) → RM w (h + 1) kX11_joins 2 [(0, .ref 59), (1, .int (nI l))] [] Mx (fun r M' => r = none ∧ Kv M') := by
    intro n
    induction n with
    | zero =>
      intro l hl Mx fo st
      have : l = 8 := by omega
      subst this
      refine vX11_joins_2 _ Mx _ ⟨fun _ => ⟨rfl, hK Mx (st.eq jc_all (fun d hd => ?_) (fun d hd => ?_)) fo⟩, fun q => absurd (by decide) q⟩
      · unfold rmJ rmC
        have := gG_le (f := M 60) (d := d)
        exact ⟨fun z => ⟨hd, z.1, z.2.1⟩, fun z => ⟨z.2.1, z.2.2, Or.inl (by omega)⟩⟩
      · unfold wtJ wtC
        split
        · first | rfl | rw [if_pos hd]
        · rfl
    | succ n ih =>
      intro l hl Mx fo st
      refine vX11_joins_2 _ Mx _ ⟨fun q => absurd q (nI_ge (b := 8) (by omega) (by decide)), fun _ x1 e1 => ?_⟩
      rw [e1, nI_1]
      have I : ∀ k m, k + m = 8 → l < m → ∀ My : Mem, (∀ q, q ≠ 60 → My q = M q) → STJ (M 60) (My 60) (rmJ (M 60) l m) (wtJ (M 60) l m) → RM w (h + 1) kX11_joins 12 [(0, .ref 59), (1, .int (nI l)), (2, .int (nI m))] [] My (fun r M' => r = none ∧ Kv M') := by
        intro k
        induction k with
        | zero =>
          intro m hm hlm My gy st
          have : m = 8 := by omega
          subst this
          refine vX11_joins_12 _ _ My _ ⟨fun _ x1 e1 => ?_, fun q => absurd (by decide) q⟩
          rw [e1, nI_1]
          refine ih (l + 1) (by omega) My gy (st.conv (fun d hd => ?_) (fun d hd => ?_))
          · unfold rmJ
            have := gG_le (f := M 60) (d := d)
            constructor
            · intro z; exact ⟨z.1, z.2.1, Or.inl (by omega)⟩
            · intro z
              have z2 := z.2.1
              exact ⟨z.1, z.2.1, by omega⟩
          · unfold wtJ
            split
            · by_cases h1 : d < l
              · rw [if_pos h1, if_pos (by omega)]
              · rw [if_neg h1]
                by_cases h2 : d = l
                · rw [if_pos h2, if_pos (by omega)]
                · rw [if_neg h2, if_neg (by omega)]
                  split
                  · rename_i h3; rw [wfJ_i _ (by omega)]
                  · rfl
            · rfl
        | succ k ihk =>
          intro m hm hlm My gy st
          have hm8 : m < 8 := by omega
          have hl8 : l < 8 := by omega
          have hGl := gG_le (f := M 60) (d := l)
          have hGm := gG_le (f := M 60) (d := m)
          have Pl := st.P hl8
          have Pm := st.P hm8
          -- nothing joined at m
          have SKIP : (¬ (Pd (M 60) m ∧ gG (M 60) m = l ∧ Pd (M 60) l ∧ gG (M 60) l = l)) → RM w (h + 1) kX11_joins 12 [(0, .ref 59), (1, .int (nI l)), (2, .int (nI (m + 1)))] [] My (fun r M' => r = none ∧ Kv M') := by
            intro hno
            have hno' : ¬ (Pd (M 60) m ∧ gG (M 60) m = l) := fun z => hno ⟨z.1, z.2, by rw [← z.2]; exact gG_P z.1, by rw [← z.2]; exact gG_gG z.1⟩
            refine ihk (m + 1) (by omega) (by omega) My gy (st.conv (fun d hd => ?_) (fun d hd => ?_))
            · unfold rmJ
              constructor
              · intro z; exact ⟨z.1, z.2.1, by omega⟩
              · intro z
                refine ⟨z.1, z.2.1, ?_⟩
                rcases z.2.2 with q | q
                · exact Or.inl q
                · refine Or.inr ⟨q.1, ?_⟩
                  rcases Nat.lt_or_ge d m with u | u
                  · exact u
                  · have : d = m := by omega
                    subst this
                    exact absurd ⟨z.1, q.1⟩ hno'
            · unfold wtJ
              split
              · split
                · rfl
                · split
                  · rename_i h3
                    rw [wfJ, if_neg (fun z => hno' ⟨z.2.1, z.2.2.trans h3⟩)]
                  · rfl
              · rfl
          refine vX11_joins_12 _ _ My _ ⟨fun q => absurd q (nI_ge (b := 8) (by omega) (by decide)), fun _ => uX11_of hl8 0 (by decide) rfl ⟨fun q x1 e1 => ?_, fun q => uX11_of hm8 0 (by decide) rfl ⟨fun q2 x1 e1 => ?_, fun q2 => uX11_of hl8 1 (by decide) rfl (uX11_of hm8 1 (by decide) rfl ?_)⟩⟩⟩
          · rw [e1, nI_1]
            refine SKIP (fun z => ?_)
            have : Pd (My 60) l := Pl.mpr ⟨z.2.2.1, fun u => u.2.1 z.2.2.2⟩
            exact this q
          · rw [e1, nI_1]
            refine SKIP (fun z => ?_)
            have : Pd (My 60) m := Pm.mpr ⟨z.1, fun u => by unfold rmJ at u; omega⟩
            exact this q2
          · have ql : Pd (M 60) l ∧ ¬ rmJ (M 60) l m l := Pl.mp q
            have qm : Pd (M 60) m ∧ ¬ rmJ (M 60) l m m := Pm.mp q2
            have hGll : gG (M 60) l = l := by
              rcases Nat.lt_or_ge (gG (M 60) l) l with u | u
              · exact absurd ⟨ql.1, by omega, Or.inl u⟩ ql.2
              · omega
            have cl : My 60 (402 + 4 * l + 1) = M 60 (403 + 4 * l) := by rw [show 402 + 4 * l + 1 = 403 + 4 * l by omega]; exact st.c l
            have cm : My 60 (402 + 4 * m + 1) = M 60 (403 + 4 * m) := by rw [show 402 + 4 * m + 1 = 403 + 4 * m by omega]; exact st.c m
            rw [cl, cm]
            refine ⟨fun qe => uX11_of hl8 2 (by decide) rfl (uX11_of hm8 2 (by decide) rfl (fun x1 e1 => ?_)), fun qe x1 e1 => ?_⟩
            · have hGml : gG (M 60) m = l := by rw [← (gG_eq qm.1 ql.1).mp qe]; exact hGll
              have wl : My 60 (402 + 4 * l + 2) = wfJ (M 60) l m := by
                rw [show 402 + 4 * l + 2 = 404 + 4 * l by omega, st.2.1 l hl8]; unfold wtJ
                rw [if_pos ⟨ql.1, hGll⟩, if_neg (by omega), if_pos rfl]
              have wm : My 60 (402 + 4 * m + 2) = M 60 (404 + 4 * m) := by
                rw [show 402 + 4 * m + 2 = 404 + 4 * m by omega, st.2.1 m hm8]; unfold wtJ
                rw [if_neg (fun z => by omega)]
              rw [wl, wm] at e1
              obtain ⟨y0, -, y2, -⟩ := d402 hl8
              rw [y0, y2, nI_clamp (by omega), n402 hm8, nI_clamp (by omega)]
              refine ⟨vp_in_nI (by omega) (by decide), fun M7 e7 => ⟨vp_in_nI (by omega) (by decide), fun M8 e8 x2 e2 => ?_⟩⟩
              rw [e2, nI_1]
              refine ihk (m + 1) (by omega) (by omega) M8 (fun q hq => by rw [e8, mset_ne hq, e7, mset_ne hq]; exact gy q hq) ?_
              rw [e8, mset_eq, e7, mset_eq, e1]
              refine st.step hl8 hm8 (fun d hd => ?_) ?_ (fun d hd hdl => ?_)
              · unfold rmJ
                constructor
                · intro z
                  by_cases hdm : d = m
                  · exact Or.inr hdm
                  · exact Or.inl ⟨z.1, z.2.1, by omega⟩
                · intro z
                  rcases z with z | z
                  · exact ⟨z.1, z.2.1, by omega⟩
                  · subst z; exact ⟨qm.1, by omega, Or.inr ⟨hGml, by omega⟩⟩
              · unfold wtJ
                rw [if_pos ⟨ql.1, hGll⟩, if_neg (by omega), if_pos rfl, wfJ, if_pos ⟨hlm, qm.1, hGml⟩]
                rfl
              · unfold wtJ
                split
                · split
                  · rfl
                  · first | rfl | rw [if_neg hdl, if_neg hdl]
                · rfl
            · rw [e1, nI_1]
              refine SKIP (fun z => qe ((gG_eq qm.1 ql.1).mpr (by rw [hGll, z.2.1])))
      exact I (8 - (l + 1)) (l + 1) (by omega) (by omega) Mx fo st
  refine O 8 0 rfl M (fun _ _ => rfl) ⟨fun d hd => ⟨fun z => ?_, fun _ => rfl⟩, fun d hd => ?_, fun _ _ => rfl⟩
  · have := gG_le (f := M 60) (d := d)
    have z2 := z.2.1
    have z3 := z.2.2
    omega
  · unfold wtJ
    split
    · rw [if_neg (by omega)]
      split
      · rw [wfJ_i _ (by omega)]
      · rfl
    · rfl
end JR

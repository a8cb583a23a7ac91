/-! ===== the reference's deed ===== -/
def RX (a : Nat) (M M' : Mem) : Prop := (∀ q, q ≠ 59 → q ≠ 60 → M' q = M q) ∧ (∀ j, (j < 7 ∨ 12 ≤ j) → M' 59 j = M 59 j) ∧ ∀ j, (j < a ∨ a + 3 ≤ j) → M' 60 j = M 60 j
theorem RX.refl {a : Nat} {M : Mem} : RX a M M := ⟨fun _ _ _ => rfl, fun _ _ => rfl, fun _ _ => rfl⟩
theorem RX.rd {a : Nat} {M M' M'' : Mem} (x : RX a M M') (r : RD M' M'') : RX a M M'' := ⟨fun q h1 h2 => (r.1 q h1).trans (x.1 q h1 h2), fun j h => (r.2 j (by omega)).trans (x.2.1 j h), fun j h => by rw [r.1 60 (by decide)]; exact x.2.2 j h⟩
theorem RX.set {a j : Nat} {M M' : Mem} {v : Int32} (x : RX a M M') (h1 : a ≤ j) (h2 : j < a + 3) : RX a M (mset M' 60 j v) := ⟨fun q h1 h2 => by rw [mset_ne h2]; exact x.1 q h1 h2, fun j h => by rw [mset_ne (by decide)]; exact x.2.1 j h, fun i h => by rw [mset_eq, pk_un (by omega)]; exact x.2.2 i h⟩
theorem RX.bad {a : Nat} {M M' : Mem} {v : Int32} (x : RX a M M') : RX a M (mset M' 59 11 v) := ⟨fun q h1 h2 => by rw [mset_ne h1]; exact x.1 q h1 h2, fun j h => by rw [mset_eq, pk_un (by omega)]; exact x.2.1 j h, fun i h => by rw [mset_ne (by decide)]; exact x.2.2 i h⟩
theorem TR.rx {f : Nat → Int32} {n a : Nat} {M M' : Mem} (T : TR f n M) (e : RX a M M') : TR f n M' := by
  unfold TR; rw [e.2.1 6 (by omega), e.1 63 (by decide) (by decide)]; exact T
theorem rTok.of {f : Nat → Int32} {n s : Nat} {M M' : Mem} (R : rTok f n s M) (e : ∀ j, 7 ≤ j → j < 11 → M' 59 j = M 59 j) : rTok f n s M' := by
  unfold rTok; rw [e 7 (by decide) (by decide), e 8 (by decide) (by decide), e 9 (by decide) (by decide), e 10 (by decide) (by decide)]; exact R
theorem rTok.m60 {f : Nat → Int32} {n s j : Nat} {M : Mem} {v : Int32} (R : rTok f n s M) : rTok f n s (mset M 60 j v) := R.of (fun i _ _ => by rw [mset_ne (by decide)])
theorem RD.b {M M' : Mem} (r : RD M M') : M' 59 11 = M 59 11 := r.2 11 (by omega)
theorem mset_self {M : Mem} {k j : Nat} {x : Int32} (h : M k j = x) : mset M k j x = M := by
  funext a
  by_cases ha : a = k
  · subst ha
    rw [mset_eq]
    funext i
    by_cases hi : i = j
    · subst hi; rw [pk_us, h]
    · rw [pk_un hi]
  · rw [mset_ne ha]
section DR
variable {w : Wd} {h : Nat} {M : Mem} {K : Int32 → Mem → Prop} {Kv : Mem → Prop} {f : Nat → Int32} {n : Nat}
theorem uX11_wind (hh : 4 ≤ h) (T : TR f n M) {s : Nat} (b0 : M 59 11 = 0) (R : rTok f n s M) (hK : ∀ s2 g, dfA f n 11 s = dfB f n 11 g s2 → (nOk f n s2 0 20 → ∀ M', rTok f n (tkN f n s2) M' → RD M M' → K (g (vl f n s2 0)) M') ∧ (¬ nOk f n s2 0 20 → ∀ M', rTok f n s2 M' → RD M M' → ∀ x, K x (mset M' 59 11 1))) : CSi w h kX11_wind [.ref 59] M K := by
  obtain ⟨h, rfl⟩ : ∃ k, h = k + 1 := ⟨h - 1, by omega⟩
  refine csi_of (by decide) (Nat.le_of_ble_eq_true rfl) (vX11_wind_0 M _ (uX11_isSign (t := 4) T (Or.inr ⟨rfl, rfl⟩) b0 R (fun t4 => ⟨fun q => absurd q (by decide), fun _ => ?_⟩) (fun t4 => ⟨fun _ => ?_, fun q => absurd rfl q⟩)))
  · have e : dfA f n 11 s = dfB f n 11 (fun v => -v) (tkN f n s) := by unfold dfA; rw [cit_t ⟨rfl, t4⟩]
    obtain ⟨k1, k0⟩ := hK _ _ e
    refine uX11_token (by omega) T (enT_le R.1).2 R.2.2.2.1 (fun M2 c2 f2 => ?_)
    change rTok f n (tkN f n s) M2 at c2
    refine uX11_number (by omega) (T.rd f2) (by rw [f2.b]; exact b0) c2 (fun ok M' a b => ⟨_, rfl, ?_⟩) (fun ok x => ⟨_, rfl, ?_⟩)
    · rw [if_neg (by decide)]; exact k1 ok M' a (f2.trans b)
    · exact k0 ok M2 c2 f2 _
  · have e : dfA f n 11 s = dfB f n 11 (fun v => v) s := by unfold dfA; rw [cit_f (fun z => t4 z.2)]
    obtain ⟨k1, k0⟩ := hK _ _ e
    refine uX11_number (by omega) T b0 R (fun ok M' a b => ⟨_, rfl, ?_⟩) (fun ok x => ⟨_, rfl, ?_⟩)
    · rw [if_pos rfl]; exact k1 ok M' a b
    · exact k0 ok M R RD.refl _
theorem uX11_deed (hh : 7 ≤ h) (T : TR f n M) {s : Nat} (b0 : M 59 11 = 0) (R : rTok f n s M) {a : Nat} (ha : a + 2 < 666) (hK0 : ∀ e, deedF f n s = (none, e) → ∀ M', ¬ M' 59 11 = 0 → M' 59 8 = nI e → RX a M M' → Kv M') (hK1 : ∀ d x c s', deedF f n s = (some (d, x, c), s') → ∀ M', M' 59 11 = 0 → rTok f n s' M' → M' 60 a = rD d → M' 60 (a + 1) = x → (d < 8 → M' 60 (a + 2) = c) → RX a M M' → Kv M') : CSv w h kX11_deed [.ref 59, .int (nI a)] M Kv := by
  obtain ⟨h, rfl⟩ : ∃ k, h = k + 1 := ⟨h - 1, by omega⟩
  have hn := T.1
  have a1 : nI a + 1 = nI (a + 1) := nI_1 a
  have a2 : nI a + 2 = nI (a + 2) := nI_add a 2
  have badm : ∀ Mx : Mem, ¬ mset Mx 59 11 1 59 11 = 0 := fun Mx => by rw [mset_eq, pk_us]; decide
  -- a bad number: it is put all the same
  have BD : ∀ e, deedF f n s = (none, e) → ∀ Mx : Mem, ¬ Mx 59 11 = 0 → Mx 59 8 = nI e → RX a M Mx → ∀ y (M4 : Mem), M4 = mset Mx 60 (Int32.toNatClampNeg (nI (a + 1))) y → ¬ M4 59 11 = 0 ∧ M4 59 8 = nI e ∧ RX a M M4 := by
    intro e he Mx b8 b9 rx y M4 e4
    rw [nI_clamp (by omega)] at e4
    refine ⟨?_, ?_, ?_⟩
    · rw [e4, mset_ne (by decide)]; exact b8
    · rw [e4, mset_ne (by decide)]; exact b9
    · rw [e4]; exact rx.set (by omega) (by omega)
  -- one number alone (8 and on)
  have ON : ∀ d g s2 lo hi, d < 13 → 8 ≤ d → tabL d = lo → tabM d = hi → deedF f n s = dfB f n d g s2 → ∀ Mx : Mem, RX a M Mx → Mx 59 11 = 0 → Mx 60 a = rD d → (nOk f n s2 lo hi → ∀ M', rTok f n (tkN f n s2) M' → RD Mx M' → ∀ M4 : Mem, M4 = mset M' 60 (Int32.toNatClampNeg (nI (a + 1))) (g (vl f n s2 0)) → Kv M4) ∧ (¬ nOk f n s2 lo hi → ∀ M', rTok f n s2 M' → RD Mx M' → ∀ x (M4 : Mem), M4 = mset (mset M' 59 11 1) 60 (Int32.toNatClampNeg (nI (a + 1))) x → Kv M4) := by
    intro d g s2 lo hi hd h8 hlo hhi e Mx rx bx ax
    subst hlo; subst hhi
    refine ⟨fun ok M' r rd M4 e4 => ?_, fun ok M' r rd x M4 e4 => ?_⟩
    · rw [nI_clamp (by omega)] at e4
      refine hK1 d (g (vl f n s2 0)) 0 (tkN f n s2) ?_ M4 ?_ ?_ ?_ ?_ (fun z => absurd z (by omega)) ?_
      · rw [e]; unfold dfB dfC; rw [cit_t ok, cit_f (by omega)]
      · rw [e4, mset_ne (by decide), rd.b]; exact bx
      · rw [e4]; exact r.m60
      · rw [e4, mset_eq, pk_un (by omega), rd.1 60 (by decide)]; exact ax
      · rw [e4, mset_eq, pk_us]
      · rw [e4]; exact (rx.rd rd).set (by omega) (by omega)
    · have ee : deedF f n s = (none, s2) := by rw [e]; unfold dfB; rw [cit_f ok]
      obtain ⟨y1, y2, y3⟩ := BD s2 ee (mset M' 59 11 1) (badm M') (by rw [mset_eq, pk_un (by decide)]; exact r.2.2.1) (rx.rd rd).bad x M4 e4
      exact hK0 s2 ee M4 y1 y2 y3
  refine csv_of (by decide) (Nat.le_of_ble_eq_true rfl) (vX11_deed_0 (nI a) M _ (uX11_deedHere (by omega) T b0 R (fun t d hd hw => ?_) (fun z => ?_)))
  · refine ⟨fun q => absurd b0 q, fun _ Mz ez => ?_⟩
    have hr : (0 : Int32) ≤ rD d := by
      have TT : ∀ d, d < 13 → (0 : Int32) ≤ rD d := by decide
      exact TT d hd
    rw [b2i_f (fun z => z hr), mset_self b0] at ez
    subst ez
    have e := deedF_w t hd hw
    refine vX11_deed_25 _ _ Mz _ ⟨fun _ => uX11_token (by omega) T (enT_le R.1).2 R.2.2.2.1 (fun M1 r1 f1 => ⟨vp_in_nI (by omega) (by decide), fun M2 e2 => ?_⟩), fun q => absurd b0 q⟩
    change rTok f n (tkN f n s) M1 at r1
    rw [nI_clamp (by omega)] at e2
    have x2 : RX a Mz M2 := by rw [e2]; exact (RX.refl.rd f1).set (by omega) (by omega)
    have b2 : M2 59 11 = 0 := by rw [e2, mset_ne (by decide), f1.b]; exact b0
    have r2 : rTok f n (tkN f n s) M2 := by rw [e2]; exact r1.m60
    have g2 : M2 60 a = rD d := by rw [e2, mset_eq, pk_us]
    have T2 := T.rx x2
    rw [a1]
    by_cases hd8 : d < 8
    · have hrd : rD d = nI d := by unfold rD; rw [if_neg (by omega), if_neg (by omega)]
      have e' : deedF f n s = dfB f n d (fun v => v) (tkN f n s) := by rw [e]; unfold dfA; rw [cit_f (by omega)]
      have t1 : tabL d = 1 := by unfold tabL; rw [if_pos (by omega)]
      have t2 : tabM d = 99 := by
        have TT : ∀ d, d < 8 → tabM d = 99 := by decide
        exact TT d hd8
      refine ⟨fun q => ?_, fun _ => ?_⟩
      · rw [hrd] at q; exact absurd q (nI_ge (b := 8) hd8 (by decide))
      · refine uX11_number (by omega) T2 b2 r2 (fun ok M3 r3 f3 => ⟨vp_in_nI (by omega) (by decide), fun M4 e4 => ?_⟩) (fun ok x => ⟨vp_in_nI (by omega) (by decide), fun M4 e4 => ?_⟩)
        · rw [nI_clamp (by omega)] at e4
          have x4 : RX a Mz M4 := by rw [e4]; exact (x2.rd f3).set (by omega) (by omega)
          have b4 : M4 59 11 = 0 := by rw [e4, mset_ne (by decide), f3.b]; exact b2
          have r4 : rTok f n (tkN f n (tkN f n s)) M4 := by rw [e4]; exact r3.m60
          have g4 : M4 60 a = rD d := by rw [e4, mset_eq, pk_un (by omega), f3.1 60 (by decide)]; exact g2
          have g5 : M4 60 (a + 1) = vl f n (tkN f n s) 0 := by rw [e4, mset_eq, pk_us]
          have e'' : deedF f n s = dfC f n d (vl f n (tkN f n s) 0) (tkN f n (tkN f n s)) := by rw [e']; unfold dfB; rw [t1, t2, cit_t ok]
          have T4 := T.rx x4
          refine ⟨fun q => absurd b4 q, fun _ => uX11_isWord (i := 27) (by omega) T4 (by decide) b4 r4 (fun ty wd M6 e6 => ?_) (fun z M6 e6 => ?_)⟩
          · rw [b2i_f (by decide), mset_self b4] at e6
            rw [e6]
            have at1 : atT f n (tkN f n (tkN f n s)) := ⟨ty, wd⟩
            refine vX11_deed_90 _ M4 _ ⟨fun _ => uX11_token (by omega) T4 (enT_le r4.1).2 r4.2.2.2.1 (fun M7 r7 f7 => ?_), fun q => absurd b4 q⟩
            change rTok f n (tkN f n (tkN f n (tkN f n s))) M7 at r7
            have T7 := T4.rd f7
            have b7 : M7 59 11 = 0 := by rw [f7.b]; exact b4
            rw [a2]
            refine uX11_number (by omega) T7 b7 r7 (fun ok2 M8 r8 f8 => ⟨vp_in_nI (by omega) (by decide), fun M9 e9 => ⟨rfl, ?_⟩⟩) (fun ok2 x => ⟨vp_in_nI (by omega) (by decide), fun M9 e9 => ⟨rfl, ?_⟩⟩)
            · rw [nI_clamp (by omega)] at e9
              refine hK1 d (vl f n (tkN f n s) 0) (vl f n (tkN f n (tkN f n (tkN f n s))) 0) (tkN f n (tkN f n (tkN f n (tkN f n s)))) ?_ M9 ?_ ?_ ?_ ?_ (fun _ => ?_) ?_
              · rw [e'']; unfold dfC; rw [cit_t hd8, cit_t at1, cit_t ok2]
              · rw [e9, mset_ne (by decide), f8.b]; exact b7
              · rw [e9]; exact r8.m60
              · rw [e9, mset_eq, pk_un (by omega), f8.1 60 (by decide), f7.1 60 (by decide)]; exact g4
              · rw [e9, mset_eq, pk_un (by omega), f8.1 60 (by decide), f7.1 60 (by decide)]; exact g5
              · rw [e9, mset_eq, pk_us]
              · rw [e9]; exact ((x4.rd f7).rd f8).set (by omega) (by omega)
            · rw [nI_clamp (by omega)] at e9
              refine hK0 (tkN f n (tkN f n (tkN f n s))) ?_ M9 ?_ ?_ ?_
              · rw [e'']; unfold dfC; rw [cit_t hd8, cit_t at1, cit_f ok2]
              · rw [e9, mset_ne (by decide)]; exact badm M7
              · rw [e9, mset_ne (by decide), mset_eq, pk_un (by decide)]; exact r7.2.2.1
              · rw [e9]; exact ((x4.rd f7).bad).set (by omega) (by omega)
          · rw [b2i_t rfl] at e6
            refine vX11_deed_90 _ M6 _ ⟨fun q => ?_, fun _ => ⟨rfl, hK0 (tkN f n (tkN f n s)) ?_ M6 ?_ ?_ ?_⟩⟩
            · rw [e6] at q; exact absurd q (badm M4)
            · rw [e'']; unfold dfC; rw [cit_t hd8, cit_f (show ¬ atT f n (tkN f n (tkN f n s)) from z)]
            · rw [e6]; exact badm M4
            · rw [e6, mset_eq, pk_un (by decide)]; exact r4.2.2.1
            · rw [e6]; exact x4.bad
        · have ee : deedF f n s = (none, tkN f n s) := by rw [e']; unfold dfB; rw [t1, t2, cit_f ok]
          obtain ⟨y1, y2, y3⟩ := BD _ ee (mset M2 59 11 1) (badm M2) (by rw [mset_eq, pk_un (by decide)]; exact r2.2.2.1) x2.bad x M4 e4
          refine ⟨fun _ M5 e5 => ?_, fun q => absurd q y1⟩
          refine vX11_deed_90 _ M5 _ ⟨fun q => ?_, fun _ => ⟨rfl, hK0 _ ee M5 ?_ ?_ ?_⟩⟩
          · rw [e5] at q; exact absurd q (badm M4)
          · rw [e5]; exact badm M4
          · rw [e5, mset_eq, pk_un (by decide)]; exact y2
          · rw [e5]; exact y3.bad
    · have NB : ∀ lo hi, tabL d = lo → tabM d = hi → d ≠ 11 → CSi w h kX11_number [.ref 59, .int lo, .int hi] M2 (fun r1 M3 => (vp_in (nI (a + 1)) 666 ∧ ∀ M4 : Mem, M4 = mset M3 60 (Int32.toNatClampNeg (nI (a + 1))) r1 → ((none : Option Value) = none ∧ Kv M4))) := by
        intro lo hi hlo hhi h11
        have e' : deedF f n s = dfB f n d (fun v => v) (tkN f n s) := by rw [e]; unfold dfA; rw [cit_f (fun z => h11 z.1)]
        obtain ⟨k1, k0⟩ := ON d (fun v => v) (tkN f n s) lo hi hd (by omega) hlo hhi e' M2 x2 b2 g2
        exact uX11_number (by omega) T2 b2 r2 (fun ok M3 r3 f3 => ⟨vp_in_nI (by omega) (by decide), fun M4 e4 => ⟨rfl, k1 ok M3 r3 f3 M4 e4⟩⟩) (fun ok x => ⟨vp_in_nI (by omega) (by decide), fun M4 e4 => ⟨rfl, k0 ok M2 r2 RD.refl x M4 e4⟩⟩)
      have : d = 8 ∨ d = 9 ∨ d = 10 ∨ d = 11 ∨ d = 12 := by omega
      rcases this with rfl | rfl | rfl | rfl | rfl
      · exact ⟨fun _ => ⟨fun _ => ⟨fun q => absurd (by decide) q, fun _ => NB 1 50 rfl rfl (by decide)⟩, fun q => absurd q (by decide)⟩, fun q => absurd (by decide) q⟩
      · exact ⟨fun _ => ⟨fun _ => ⟨fun _ => NB _ _ (by decide) (by decide) (by decide), fun q => absurd q (by decide)⟩, fun q => absurd q (by decide)⟩, fun q => absurd (by decide) q⟩
      · exact ⟨fun _ => ⟨fun _ => ⟨fun _ => NB _ _ (by decide) (by decide) (by decide), fun q => absurd q (by decide)⟩, fun q => absurd q (by decide)⟩, fun q => absurd (by decide) q⟩
      · refine ⟨fun _ => ⟨fun q => absurd (by decide) q, fun _ => ?_⟩, fun q => absurd (by decide) q⟩
        refine uX11_wind (by omega) T2 b2 r2 (fun s2 g eg => ?_)
        obtain ⟨k1, k0⟩ := ON 11 g s2 0 20 hd (by omega) rfl rfl (by rw [e, eg]) M2 x2 b2 g2
        exact ⟨fun ok M3 r3 f3 => ⟨vp_in_nI (by omega) (by decide), fun M4 e4 => ⟨rfl, k1 ok M3 r3 f3 M4 e4⟩⟩, fun ok M3 r3 f3 x => ⟨vp_in_nI (by omega) (by decide), fun M4 e4 => ⟨rfl, k0 ok M3 r3 f3 x M4 e4⟩⟩⟩
      · exact ⟨fun _ => ⟨fun _ => ⟨fun _ => NB _ _ (by decide) (by decide) (by decide), fun q => absurd q (by decide)⟩, fun q => absurd q (by decide)⟩, fun q => absurd (by decide) q⟩
  · refine ⟨fun q => absurd b0 q, fun _ Mz ez => ?_⟩
    rw [b2i_t (by decide)] at ez
    refine vX11_deed_25 _ _ Mz _ ⟨fun q => ?_, fun _ => ⟨rfl, hK0 s (deedF_n z) Mz ?_ ?_ ?_⟩⟩
    · rw [ez] at q; exact absurd q (badm M)
    · rw [ez]; exact badm M
    · rw [ez, mset_eq, pk_un (by decide)]; exact R.2.2.1
    · rw [ez]; exact RX.refl.bad
end DR

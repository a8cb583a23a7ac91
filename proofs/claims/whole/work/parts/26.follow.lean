/-! ===== the class: Walk.follow ===== -/
theorem pnI.same {M M' : Mem} {P : Nat} {dt wt : Int32 → Int32} {ln : Int32} (h : pnI M P dt wt ln) (e0 : M' P = M P) (e1 : M' (P + 1) = M (P + 1)) (e2 : M' (P + 2) = M (P + 2)) : pnI M' P dt wt ln := by
  unfold pnI
  rw [e0, e1, e2]
  exact h
theorem g_sub0 {x : Int32} : x - 0 = x := by grind
section FOL
variable {w : Wd} {h : Nat} {M : Mem} {K : Int32 → Mem → Prop} {Kv : Mem → Prop} {P Kc : Nat} {dt wt : Int32 → Int32} {ln : Int32}
/-- a walk's cells hold this end -/
def wkE (M' : Mem) (Kc : Nat) (e : Nat × Int32 × Int32) (c : Nat → Int32) : Prop := M' Kc 1 = nI e.1 ∧ M' Kc 2 = e.2.2 ∧ M' Kc 3 = e.2.1 ∧ (∀ j, (j < e.1 ∨ (e.2.1 = -1 ∧ j = e.1)) → M' (Kc + 1) j = c j) ∧ (0 ≤ e.2.1 → M' (Kc + 1) e.1 = -1)
theorem uX8_follow (hh : 4 ≤ h) (hk : isWalk Kc) (hP : isPane P) (hPK : P + 3 < Kc) (hp : pnI M P dt wt ln) {kd col wa : Int32} (k0 : 0 ≤ kd) (k1 : kd ≤ 7) (h0 : 0 ≤ col) (h1 : col ≤ 11) (hw0 : ¬ wa ≤ 0)
    (hK : ∀ M' : Mem, wkE M' Kc (pR dt wt ln kd col wa) (fun j => (sta dt wt ln kd col wa j).1) → (∀ q, q ≠ Kc → q ≠ Kc + 1 → q ≠ P + 3 → M' q = M q) → Kv M') : CSv w h kX8_follow [.ref Kc, .ref P, .int kd, .int col, .int wa] M Kv := by
  obtain ⟨h, rfl⟩ : ∃ k, h = k + 1 := ⟨h - 1, by omega⟩
  refine csv_of (by decide) (Nat.le_of_ble_eq_true rfl) (vX8_follow_0 Kc P kd col wa hk hP M _ ?_)
  have hlose : ∀ x : Int32, x = b2i (und 8 kd 1 = true) → x = b2i (kd = 1 ∨ kd = 7) := fun x e => by rw [e]; exact b2i_iff (und_1 k0 k1)
  have EX : ∀ (v5 v7 : Int32) (M2 : Mem), Kv M2 → RM w (h + 1) kX8_follow 36 [(0, .ref Kc), (1, .ref P), (2, .int kd), (5, .int v5), (6, .int 0), (7, .int v7)] [] M2 (fun r M' => r = none ∧ Kv M') := fun v5 v7 M2 g => vX8_follow_36 Kc P _ _ _ _ hk hP M2 _ ⟨fun _ => ⟨rfl, g⟩, fun q => absurd rfl q⟩
  have L : ∀ n i, n + i = 64 → (∀ M' : Mem, wkE M' Kc (runS dt wt ln kd col wa n i) (fun j => (sta dt wt ln kd col wa j).1) → (∀ q, q ≠ Kc → q ≠ Kc + 1 → q ≠ P + 3 → M' q = M q) → Kv M') →
      ∀ (M1 : Mem) (v6 : Int32), M1 Kc 1 = nI i → M1 Kc 2 = (sta dt wt ln kd col wa i).2 → M1 Kc 3 = -1 → (∀ j, j ≤ i → M1 (Kc + 1) j = (sta dt wt ln kd col wa j).1) → (∀ q, q ≠ Kc → q ≠ Kc + 1 → q ≠ P + 3 → M1 q = M q) → (0 ≤ (sta dt wt ln kd col wa i).1 ∧ (sta dt wt ln kd col wa i).1 ≤ 191) → (v6 = 0 ↔ (sta dt wt ln kd col wa i).2 ≤ 0) →
      RM w (h + 1) kX8_follow 36 [(0, .ref Kc), (1, .ref P), (2, .int kd), (5, .int (b2i (kd = 1 ∨ kd = 7))), (6, .int v6), (7, .int (nI i))] [] M1 (fun r M' => r = none ∧ Kv M') := by
    intro n
    induction n with
    | zero =>
      intro i hi hK M1 v6 a1 a2 a3 a4 a5 a6 a7
      have : i = 64 := by omega
      subst this
      have g : Kv M1 := hK M1 ⟨a1, a2, a3, fun j hj => a4 j (by rcases hj with hj | hj; exact Nat.le_of_lt hj; exact Nat.le_of_eq hj.2), fun q => absurd q (by show ¬ 0 ≤ (-1 : Int32); decide)⟩ a5
      exact vX8_follow_36 Kc P _ _ _ _ hk hP M1 _ ⟨fun _ => ⟨rfl, g⟩, fun _ => ⟨fun _ => ⟨rfl, g⟩, fun hc => absurd (by decide) hc⟩⟩
    | succ n ih =>
      intro i hi hK M1 v6 a1 a2 a3 a4 a5 a6 a7
      have done0 : ∀ f : Nat → Int32, runS dt wt ln kd col wa (n + 1) i = (i, -1, (sta dt wt ln kd col wa i).2) → Kv (mput M1 (P + 3) f) := by
        intro f e
        rw [e] at hK
        refine hK _ ⟨?_, ?_, ?_, fun j hj => ?_, fun q => absurd q (by show ¬ 0 ≤ (-1 : Int32); decide)⟩ (fun q h1 h2 h3 => ?_)
        · rw [mput_ne (by omega)]; exact a1
        · rw [mput_ne (by omega)]; exact a2
        · rw [mput_ne (by omega)]; exact a3
        · rw [mput_ne (by omega)]; exact a4 j (by rcases hj with hj | hj; exact Nat.le_of_lt hj; exact Nat.le_of_eq hj.2)
        · rw [mput_ne h3]; exact a5 q h1 h2 h3
      have hin : vp_in (nI i) 65 := vp_in_nI (by omega) (by decide)
      refine vX8_follow_36 Kc P _ _ _ _ hk hP M1 _ ⟨fun hz => ⟨rfl, ?_⟩, fun hz => ⟨fun hc => absurd hc (nI_ge (b := 64) (by omega) (by decide)), fun _ => ⟨hin, ?_⟩⟩⟩
      · have g := done0 (M1 (P + 3)) (by rw [runS, if_pos (a7.mp hz)])
        rw [mput_self] at g; exact g
      · have hw : ¬ (sta dt wt ln kd col wa i).2 ≤ 0 := fun q => hz (a7.mpr q)
        rw [nI_clamp (by omega), a4 i (Nat.le_refl _), a2]
        have hp1 : pnI M1 P dt wt ln := hp.same (a5 P (by omega) (by omega) (by omega)) (a5 (P + 1) (by omega) (by omega) (by omega)) (a5 (P + 2) (by omega) (by omega) (by omega))
        refine uX2_goal (by omega) hP hp1 a6.1 a6.2 (fun f => ⟨hin, ?_⟩)
        have es : gt dt wt ln kd (sta dt wt ln kd col wa i).1 (sta dt wt ln kd col wa i).2 (nI i) = (sta dt wt ln kd col wa (i + 1)).1 := rfl
        have hgb := gt_bd (dt := dt) (wt := wt) (ln := ln) (kd := kd) (wa := (sta dt wt ln kd col wa i).2) (sp := nI i) a6.1 (g_c191 a6.2)
        have ec : mput M1 (P + 3) f (Kc + 1) i = (sta dt wt ln kd col wa i).1 := by rw [mput_ne (by omega)]; exact a4 i (Nat.le_refl _)
        rw [es] at hgb ⊢
        rw [ec]
        refine ⟨fun hne M2 e2 => ?_, fun he x1 e1 => EX _ _ _ (done0 f (by rw [runS, if_neg hw, if_pos he]))⟩
        have e2' : M2 Kc 1 = nI (i + 1) := by rw [e2, mset_eq, pk_us, nI_1]
        have e2k : M2 Kc = upd (M1 Kc) 1 (nI (i + 1)) := by rw [e2, mset_eq, mput_ne (by omega), nI_1]
        have e2c : M2 (Kc + 1) = M1 (Kc + 1) := by rw [e2, mset_ne (by omega), mput_ne (by omega)]
        have e2o : ∀ q, q ≠ Kc → q ≠ Kc + 1 → q ≠ P + 3 → M2 q = M q := fun q h1 h2 h3 => by rw [e2, mset_ne h1, mput_ne h3]; exact a5 q h1 h2 h3
        rw [e2']
        refine ⟨vp_in_nI (by omega) (by decide), fun M3 e3 => ?_⟩
        rw [nI_clamp (by omega)] at e3
        have e3k : M3 Kc = upd (M1 Kc) 1 (nI (i + 1)) := by rw [e3, mset_ne (by omega)]; exact e2k
        have e3c : M3 (Kc + 1) = upd (M1 (Kc + 1)) (i + 1) (sta dt wt ln kd col wa (i + 1)).1 := by rw [e3, mset_eq, e2c]
        have e3o : ∀ q, q ≠ Kc → q ≠ Kc + 1 → q ≠ P + 3 → M3 q = M q := fun q h1 h2 h3 => by rw [e3, mset_ne h2]; exact e2o q h1 h2 h3
        have e3h : ∀ j, j ≤ i + 1 → M3 (Kc + 1) j = (sta dt wt ln kd col wa j).1 := by
          intro j hj
          rw [e3c]
          by_cases hji : j = i + 1
          · subst hji; rw [pk_us]
          · rw [pk_un hji]; exact a4 j (by omega)
        refine ⟨fun hm1 => ?_, fun hm1 => ⟨hin, fun M4 e4 x1 e1 => EX _ _ _ ?_⟩⟩
        · have hp0 : 0 ≤ (sta dt wt ln kd col wa (i + 1)).1 ∧ (sta dt wt ln kd col wa (i + 1)).1 ≤ 191 := hgb.elim (fun z => absurd z hm1) id
          have hr : runS dt wt ln kd col wa (n + 1) i = runS dt wt ln kd col wa n (i + 1) := by rw [runS, if_neg hw, if_neg hne, if_pos hp0.1]
          rw [hr] at hK
          have ew : (sta dt wt ln kd col wa (i + 1)).2 = (sta dt wt ln kd col wa i).2 - b2i (kd = 1 ∨ kd = 7) := rfl
          refine ⟨fun hv x1 e1 => ?_, fun hv M4 e4 x1 e1 x2 e5 => ?_⟩
          · rw [e1, nI_1]
            rw [hv, g_sub0] at ew
            refine ih (i + 1) (by omega) hK M3 v6 ?_ ?_ ?_ e3h e3o hp0 ?_
            · rw [e3k, pk_us]
            · rw [e3k, pk_un (by decide), a2, ew]
            · rw [e3k, pk_un (by decide), a3]
            · rw [ew]; exact a7
          · rw [e5, nI_1]
            have hb1 : b2i (kd = 1 ∨ kd = 7) = 1 := b2i_t (b2n.mp hv)
            rw [hb1] at ew
            have e4k : M4 Kc = upd (upd (M1 Kc) 1 (nI (i + 1))) 2 ((sta dt wt ln kd col wa i).2 - 1) := by rw [e4, mset_eq, e3k, pk_un (show (2 : Nat) ≠ 1 by decide), a2]
            have e4w : M4 Kc 2 = (sta dt wt ln kd col wa (i + 1)).2 := by rw [e4k, pk_us, ew]
            refine ih (i + 1) (by omega) hK M4 x1 ?_ e4w ?_ ?_ ?_ hp0 ?_
            · rw [e4k, pk_un (by decide), pk_us]
            · rw [e4k, pk_un (by decide), pk_un (by decide), a3]
            · intro j hj; rw [e4, mset_ne (by omega)]; exact e3h j hj
            · intro q h1 h2 h3; rw [e4, mset_ne h1]; exact e3o q h1 h2 h3
            · rw [e1, b2i_ne0, e4w]
        · have hp0 : ¬ 0 ≤ (sta dt wt ln kd col wa (i + 1)).1 := by rw [hm1]; decide
          have hr : runS dt wt ln kd col wa (n + 1) i = (i + 1, md12 (sta dt wt ln kd col wa i).1, (sta dt wt ln kd col wa i).2) := by rw [runS, if_neg hw, if_neg hne, if_neg hp0]
          have hmd := md12_bd a6.1
          rw [hr] at hK
          rw [e3h i (by omega)] at e4
          have e4k : M4 Kc = upd (upd (M1 Kc) 1 (nI (i + 1))) 3 (md12 (sta dt wt ln kd col wa i).1) := by rw [e4, mset_eq, e3k]; rfl
          have e4c : M4 (Kc + 1) = M3 (Kc + 1) := by rw [e4, mset_ne (by omega)]
          refine hK M4 ⟨?_, ?_, ?_, fun j hj => ?_, fun _ => ?_⟩ (fun q h1 h2 h3 => ?_)
          · rw [e4k, pk_un (by decide), pk_us]
          · rw [e4k, pk_un (by decide), pk_un (by decide), a2]
          · rw [e4k, pk_us]
          · rw [e4c]
            rcases hj with hj | hj
            · exact e3h j (Nat.le_of_lt hj)
            · have z := hj.1
              dsimp only at z
              rw [z] at hmd
              exact absurd hmd.1 (by decide)
          · rw [e4c]; show M3 (Kc + 1) (i + 1) = -1
            rw [e3h (i + 1) (Nat.le_refl _), hm1]
          · rw [e4, mset_ne h1]; exact e3o q h1 h2 h3
  refine ⟨inL 65 rfl (by decide) (by decide), fun M1 e1 M2 e2 M3 e3 M4 e4 => uX10_isUnder (by omega) ?_⟩
  rw [hlose _ rfl]
  have e1' : M1 = mset M (Kc + 1) 0 col := e1
  have k4 : M4 Kc = upd (upd (upd (M Kc) 1 0) 2 wa) 3 (-1) := by rw [e4, mset_eq, e3, mset_eq, e2, mset_eq, e1', mset_ne (by omega)]
  have c4 : M4 (Kc + 1) = upd (M (Kc + 1)) 0 col := by rw [e4, mset_ne (by omega), e3, mset_ne (by omega), e2, mset_ne (by omega), e1', mset_eq]
  refine L 64 0 rfl hK M4 1 ?_ ?_ ?_ ?_ ?_ ?_ ?_
  · rw [k4, pk_un (by decide), pk_un (by decide), pk_us]; rfl
  · rw [k4, pk_un (by decide), pk_us]; rfl
  · rw [k4, pk_us]
  · intro j hj
    have : j = 0 := by omega
    subst this
    rw [c4, pk_us]; rfl
  · intro q h1 h2 h3
    rw [e4, mset_ne h1, e3, mset_ne h1, e2, mset_ne h1, e1', mset_ne h2]
  · exact ⟨h0, Int32.le_trans h1 (by decide)⟩
  · exact ⟨fun q => absurd q (by decide), fun q => absurd q hw0⟩
end FOL

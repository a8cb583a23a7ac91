/-! ===== ways: what is still to cost ===== -/
def hN (f : Nat → Int32) (c : Nat) : Nat := (hold (dtF f) (wtF f) (nI c)).toNatClampNeg
theorem hN_ok {f : Nat → Int32} (ok : okF f) {c : Nat} (hc : c < 192) : hN f c ≤ 27 ∧ hold (dtF f) (wtF f) (nI c) = nI (hN f c) := by
  obtain ⟨n, hn, e⟩ := hold_N ok hc
  have : hN f c = n := by unfold hN; rw [e, nI_clamp (by omega)]
  rw [this]; exact ⟨hn, e⟩
def cst (s : Bool) (h x : Nat) : Nat := if s = true then h + x else max h x
/-- the best of sides 0 .. k -/
def bst (C : Nat → Nat) (c : Nat) : Nat → Nat
  | 0 => C 0
  | k + 1 => if nbl c (k + 1) = 0 then bst C c k else min (bst C c k) (C (k + 1))
theorem bst_c {C C' : Nat → Nat} {c : Nat} (h : ∀ k, nbl c k ≠ 0 → C k = C' k) : ∀ k, bst C c k = bst C' c k := by
  intro k
  induction k with
  | zero => exact h 0 (by unfold nbl; rw [if_pos rfl]; omega)
  | succ k ih =>
    rw [bst, bst, ih]
    split
    · rfl
    · rename_i q; rw [h (k + 1) q]
theorem bst_le {C : Nat → Nat} {c B : Nat} (h : C 0 ≤ B) : ∀ k, bst C c k ≤ B := by
  intro k
  induction k with
  | zero => exact h
  | succ k ih =>
    rw [bst]
    split
    · exact ih
    · omega
def rsN (f : Nat → Int32) (s : Bool) : Nat → Nat → Nat
  | 0, _ => 0
  | n + 1, c => bst (fun k => cst s (hN f (nbl c k)) (rsN f s n (nbl c k))) c 2
/-- what the best way from cell c still costs -/
def RV (f : Nat → Int32) (s : Bool) (c : Nat) : Nat := rsN f s (15 - c / 12) c
def RC (f : Nat → Int32) (s : Bool) (c k : Nat) : Nat := cst s (hN f (nbl c k)) (RV f s (nbl c k))
theorem RV_top {f : Nat → Int32} {s : Bool} {c : Nat} (h : 180 ≤ c) : RV f s c = 0 := by
  unfold RV
  rw [show 15 - c / 12 = 0 by omega]; rfl
theorem RV_st {f : Nat → Int32} {s : Bool} {c : Nat} (h : c < 180) : RV f s c = bst (RC f s c) c 2 := by
  have e : RV f s c = rsN f s ((14 - c / 12) + 1) c := by unfold RV; congr 1; omega
  rw [e, rsN]
  refine bst_c (fun k hk => ?_) 2
  have hb := nbl_bd h hk
  unfold RC RV
  rw [show 15 - nbl c k / 12 = 14 - c / 12 by omega]
theorem RV_le {f : Nat → Int32} {s : Bool} (ok : okF f) : ∀ n c, c < 192 → 15 - c / 12 = n → RV f s c ≤ 27 * n := by
  intro n
  induction n with
  | zero => intro c hc h; rw [RV_top (by omega)]; omega
  | succ n ih =>
    intro c hc h
    have h8 : c < 180 := by omega
    rw [RV_st h8]
    refine bst_le ?_ 2
    have hn0 : nbl c 0 = c + 12 := rfl
    have h1 := ih (c + 12) (by omega) (by omega)
    have h2 := (hN_ok ok (c := c + 12) (by omega)).1
    unfold RC cst
    rw [hn0]
    split
    · omega
    · omega
theorem RV_405 {f : Nat → Int32} {s : Bool} (ok : okF f) {c : Nat} (hc : c < 192) : RV f s c ≤ 405 := by
  have := RV_le (s := s) ok (15 - c / 12) c hc rfl
  omega
theorem RC_432 {f : Nat → Int32} {s : Bool} (ok : okF f) {c k : Nat} (hc : c < 180) (hn : nbl c k ≠ 0) : RC f s c k ≤ 432 := by
  have hb := nbl_bd hc hn
  have h1 := RV_405 (s := s) ok hb.1
  have h2 := (hN_ok ok hb.1).1
  unfold RC cst
  split <;> omega
section WY
variable {w : Wd} {h : Nat} {M M' : Mem} {K : Int32 → Mem → Prop} {Kv : Mem → Prop} {f : Nat → Int32} {s : Bool}
def sI (s : Bool) : Int32 := if s = true then 1 else 0
theorem uX9_costOver (hh : 1 ≤ h) (hc : cR 3 M f) {b x : Nat} (hb : b < 192) (hx : x ≤ 405) (e58 : M 58 b = nI x) (hK : K (nI (cst s (hN f b) x)) M) : CSi w h kX9_costOver [.ref 57, .ref 4, .int (nI b), .int (sI s)] M K := by
  obtain ⟨h, rfl⟩ : ∃ k, h = k + 1 := ⟨h - 1, by omega⟩
  have hh' := hN_ok ⟨M, hc⟩ hb
  have hin : vp_in (nI b) 192 := vp_in_nI hb (by decide)
  refine csi_of (by decide) (Nat.le_of_ble_eq_true rfl) (vX9_costOver_0 _ _ M _ (uX2_holdOf pane4 hc.pane (nI_pos' (by omega)) (nI_le (b := 191) (by omega) (by decide)) ?_))
  rw [hh'.2, nI_clamp (by omega), e58]
  unfold sI
  cases s with
  | true =>
    refine ⟨fun q => absurd q (by decide), fun _ => ⟨hin, _, rfl, ?_⟩⟩
    rw [nI_add]; exact hK
  | false =>
    refine ⟨fun _ => ⟨hin, _, rfl, ?_⟩, fun q => absurd (by decide) q⟩
    have e : (if nI (hN f b) < nI x then nI x else nI (hN f b)) = nI (cst false (hN f b) x) := by
      show _ = nI (max (hN f b) x)
      by_cases q : hN f b < x
      · rw [if_pos (nI_lt q (by omega))]; congr 1; omega
      · rw [if_neg (nI_nlt (by omega) (by omega))]; congr 1; omega
    rw [e]; exact hK
theorem uX9_leastBelow (hh : 3 ≤ h) (hc : cR 3 M f) {c : Nat} (hc8 : c < 180) (e58 : ∀ j, c < j → j < 192 → M 58 j = nI (RV f s j)) (hK : K (nI (RV f s c)) M) : CSi w h kX9_leastBelow [.ref 57, .ref 4, .int (nI c), .int (sI s)] M K := by
  obtain ⟨h, rfl⟩ : ∃ k, h = k + 1 := ⟨h - 1, by omega⟩
  have ok : okF f := ⟨M, hc⟩
  have c0 : 0 ≤ nI c := nI_pos' (by omega)
  have c1 : nI c < 180 := nI_lt (b := 180) hc8 (by decide)
  have gt1 : ∀ k, nbl c k ≠ 0 → c < nbl c k := fun k hk => by have := nbl_bd hc8 hk; omega
  refine csi_of (by decide) (Nat.le_of_ble_eq_true rfl) (vX9_leastBelow_0 _ _ M _ (uX10_belowOf (by omega) c0 c1 ?_))
  have n0 : nbl c 0 ≠ 0 := by show c + 12 ≠ 0; omega
  have e0 : belC (nI c) 0 = nI (nbl c 0) := by rw [show (0 : Int32) = nI 0 from rfl, belC_nI hc8 (by decide), if_neg n0]
  rw [e0]
  refine uX9_costOver (by omega) hc (nbl_bd hc8 n0).1 (RV_405 (s := s) ok (nbl_bd hc8 n0).1) (e58 _ (gt1 0 n0) (nbl_bd hc8 n0).1) ?_
  rw [RV_st hc8] at hK
  have L : ∀ k, k ≤ 3 → 1 ≤ k → RM w (h + 1) kX9_leastBelow 16 [(0, .ref 57), (1, .ref 4), (2, .int (nI c)), (3, .int (sI s)), (4, .int (nI (bst (RC f s c) c (k - 1)))), (5, .int (nI k))] [] M (fun r M' => ∃ x, r = some (.int x) ∧ K x M') := by
    refine up_ind (N := 3) (fun _ => ?_) (fun k hk ih hk1 => ?_)
    · exact vX9_leastBelow_16 _ _ _ _ M _ ⟨fun _ => ⟨_, rfl, hK⟩, fun q => absurd (by decide) q⟩
    · have ih := ih (by omega)
      obtain ⟨m, rfl⟩ : ∃ m, k = m + 1 := ⟨k - 1, by omega⟩
      rw [show m + 1 + 1 - 1 = m + 1 from rfl, bst] at ih
      rw [show m + 1 - 1 = m from rfl]
      refine vX9_leastBelow_16 _ _ _ _ M _ ⟨fun q => absurd q (nI_ge (b := 3) (by omega) (by decide)), fun _ => uX10_belowOf (by omega) c0 c1 ?_⟩
      rw [belC_nI hc8 (by omega)]
      by_cases hn : nbl c (m + 1) = 0
      · rw [if_pos hn]
        rw [if_pos hn] at ih
        refine ⟨fun _ x1 e1 => ?_, fun q => absurd rfl q⟩
        rw [e1, nI_1]; exact ih
      · rw [if_neg hn]
        rw [if_neg hn] at ih
        have hb := nbl_bd hc8 hn
        refine ⟨fun q => absurd (nI_pos' (n := nbl c (m + 1)) (by omega)) (by rw [q]; decide), fun _ => uX9_costOver (by omega) hc hb.1 (RV_405 (s := s) ok hb.1) (e58 _ (gt1 _ hn) hb.1) (fun x1 e1 x2 e2 => ?_)⟩
        have r1 : RC f s c (m + 1) ≤ 432 := RC_432 ok hc8 hn
        have r2 : bst (RC f s c) c m ≤ 432 := bst_le (RC_432 ok hc8 n0) m
        rw [e2, nI_1, e1]
        have e : (if nI (cst s (hN f (nbl c (m + 1))) (RV f s (nbl c (m + 1)))) < nI (bst (RC f s c) c m) then nI (cst s (hN f (nbl c (m + 1))) (RV f s (nbl c (m + 1)))) else nI (bst (RC f s c) c m)) = nI (min (bst (RC f s c) c m) (RC f s c (m + 1))) := by
          show (if nI (RC f s c (m + 1)) < _ then nI (RC f s c (m + 1)) else _) = _
          by_cases q : RC f s c (m + 1) < bst (RC f s c) c m
          · rw [if_pos (nI_lt q (by omega))]; congr 1; omega
          · rw [if_neg (nI_nlt (by omega) (by omega))]; congr 1; omega
        rw [e]; exact ih
  exact L 1 (by decide) (by decide)
theorem uX9_reckon (hh : 4 ≤ h) (hc : cR 3 M f) (hK : ∀ M', (∀ c, c < 192 → M' 58 c = nI (RV f s c)) → (∀ q, q ≠ 58 → M' q = M q) → Kv M') : CSv w h kX9_reckon [.ref 57, .ref 4, .int (sI s)] M Kv := by
  obtain ⟨h, rfl⟩ : ∃ k, h = k + 1 := ⟨h - 1, by omega⟩
  refine csv_of (by decide) (Nat.le_of_ble_eq_true rfl) (vX9_reckon_0 _ M _ ?_)
  have L : ∀ n, n ≤ 192 → ∀ Mx : Mem, (∀ q, q ≠ 58 → Mx q = M q) → (∀ j, n ≤ j → j < 192 → Mx 58 j = nI (RV f s j)) → RM w (h + 1) kX9_reckon 4 [(0, .ref 57), (1, .ref 4), (2, .int (sI s)), (3, .int (nI n - 1))] [] Mx (fun r M' => r = none ∧ Kv M') := by
    intro n
    induction n with
    | zero =>
      intro hn Mx a b
      exact vX9_reckon_4 _ _ Mx _ ⟨fun _ => ⟨rfl, hK Mx (fun c hc => b c (by omega) hc) a⟩, fun q => absurd (by decide) q⟩
    | succ n ih =>
      intro hn Mx a b
      rw [nI_pred]
      have cx : cR 3 Mx f := hc.same (fun q x y z => a q (by omega))
      have hin : vp_in (nI n) 192 := vp_in_nI (by omega) (by decide)
      have NX : ∀ Mz : Mem, Mz = mset Mx 58 n (nI (RV f s n)) → RM w (h + 1) kX9_reckon 4 [(0, .ref 57), (1, .ref 4), (2, .int (sI s)), (3, .int (nI n - 1))] [] Mz (fun r M' => r = none ∧ Kv M') := by
        intro Mz ez
        refine ih (by omega) Mz (fun q hq => by rw [ez, mset_ne hq]; exact a q hq) (fun j j1 j2 => ?_)
        rw [ez, mset_eq]
        by_cases hj : j = n
        · subst hj; rw [pk_us]
        · rw [pk_un hj]; exact b j (by omega) j2
      refine vX9_reckon_4 _ _ Mx _ ⟨fun q => absurd q (nI_pos (by omega)), fun _ => ⟨fun q => ?_, fun q => ⟨hin, fun M1 e1 x1 ex => ?_⟩⟩⟩
      · have hn8 : n < 180 := by
          rcases Nat.lt_or_ge n 180 with z | z
          · exact z
          · exact absurd (nI_le z (by omega)) q
        refine uX9_leastBelow (by omega) cx hn8 (fun j j1 j2 => b j (by omega) j2) ⟨hin, fun M2 e2 x1 ex => ?_⟩
        rw [nI_clamp (by omega)] at e2
        rw [ex, g_pm1]; exact NX M2 e2
      · have hn8 : 180 ≤ n := (nI_leI (a := 180) (by decide) (by omega)).mp q
        rw [nI_clamp (by omega)] at e1
        rw [ex, g_pm1]
        refine NX M1 ?_
        rw [e1, RV_top hn8]; rfl
  exact L 192 (by decide) M (fun _ _ => rfl) (fun j h1 h2 => absurd h2 (by omega))
end WY

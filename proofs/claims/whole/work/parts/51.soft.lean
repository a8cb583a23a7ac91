/-! ===== soft ===== -/
def lsA (g : Nat → Nat) : Nat → Nat → Nat → Nat
  | 0, _, b => b
  | n + 1, i, b => if g b ≤ g i then lsA g n (i + 1) b else lsA g n (i + 1) i
theorem lsA_lt {g : Nat → Nat} : ∀ n i b, n + i = 12 → b < 12 → lsA g n i b < 12 := by
  intro n
  induction n with
  | zero => intro i b _ h; exact h
  | succ n ih =>
    intro i b h1 h2
    rw [lsA]
    split
    · exact ih _ _ (by omega) h2
    · exact ih _ _ (by omega) (by omega)
def beg (f : Nat → Int32) (s : Bool) : Nat := lsA (RV f s) 11 1 0
theorem beg_lt {f : Nat → Int32} {s : Bool} : beg f s < 12 := lsA_lt 11 1 0 rfl (by decide)
theorem bst_at {C : Nat → Nat} {c : Nat} : ∀ K, ∃ k, k ≤ K ∧ nbl c k ≠ 0 ∧ bst C c K = C k := by
  intro K
  induction K with
  | zero => exact ⟨0, Nat.le_refl _, by show c + 12 ≠ 0; omega, rfl⟩
  | succ K ih =>
    obtain ⟨k, k1, k2, k3⟩ := ih
    rw [bst]
    by_cases hn : nbl c (K + 1) = 0
    · rw [if_pos hn]; exact ⟨k, by omega, k2, k3⟩
    · rw [if_neg hn]
      rcases Nat.lt_or_ge (C (K + 1)) (bst C c K) with z | z
      · exact ⟨K + 1, Nat.le_refl _, hn, by omega⟩
      · exact ⟨k, by omega, k2, by omega⟩
def dnK (f : Nat → Int32) (c : Nat) : Nat → Nat → Nat
  | 0, k => k
  | n + 1, k => if nbl c k ≠ 0 ∧ RC f true c k = RV f true c then k else dnK f c n (k + 1)
theorem dnK_ok {f : Nat → Int32} {c : Nat} : ∀ n k, n + k = 3 → (∃ j, k ≤ j ∧ j < 3 ∧ nbl c j ≠ 0 ∧ RC f true c j = RV f true c) → dnK f c n k < 3 ∧ nbl c (dnK f c n k) ≠ 0 := by
  intro n
  induction n with
  | zero => intro k h ⟨j, a, b, _⟩; omega
  | succ n ih =>
    intro k h ⟨j, a, b, d, e⟩
    rw [dnK]
    split
    · rename_i q; exact ⟨by omega, q.1⟩
    · rename_i q
      have : j ≠ k := fun z => by subst z; exact q ⟨d, e⟩
      exact ih (k + 1) (by omega) ⟨j, by omega, b, d, e⟩
theorem dn_ex {f : Nat → Int32} {c : Nat} (hc : c < 180) : ∃ j, 0 ≤ j ∧ j < 3 ∧ nbl c j ≠ 0 ∧ RC f true c j = RV f true c := by
  obtain ⟨k, k1, k2, k3⟩ := bst_at (C := RC f true c) (c := c) 2
  exact ⟨k, by omega, by omega, k2, by rw [RV_st hc, k3]⟩
def dnF (f : Nat → Int32) (c : Nat) : Nat := nbl c (dnK f c 3 0)
def enF (f : Nat → Int32) : Nat → Nat → Nat
  | 0, c => c
  | n + 1, c => enF f n (dnF f c)
theorem dnF_ok {f : Nat → Int32} {c : Nat} (hc : c < 180) : dnF f c < 192 ∧ dnF f c / 12 = c / 12 + 1 := nbl_bd hc (dnK_ok 3 0 rfl (dn_ex hc)).2
section SF
variable {w : Wd} {h : Nat} {M M' : Mem} {K : Int32 → Mem → Prop} {Kv : Mem → Prop} {f : Nat → Int32} {s : Bool}
theorem uX9_leastStart (ok : okF f) (e58 : ∀ c, c < 192 → M 58 c = nI (RV f s c)) (hK : K (nI (beg f s)) M) : CSi w h kX9_leastStart [.ref 57] M K := by
  refine csi_of (by decide) (Nat.le_of_ble_eq_true rfl) (vX9_leastStart_0 M _ ?_)
  have L : ∀ n i b, n + i = 12 → b < 12 → K (nI (lsA (RV f s) n i b)) M → RM w h kX9_leastStart 4 [(0, .ref 57), (1, .int (nI b)), (2, .int (nI i))] [] M (fun r M' => ∃ x, r = some (.int x) ∧ K x M') := by
    intro n
    induction n with
    | zero =>
      intro i b hi hb g
      have : i = 12 := by omega
      subst this
      exact vX9_leastStart_4 _ _ M _ ⟨fun _ => ⟨_, rfl, g⟩, fun q => absurd (by decide) q⟩
    | succ n ih =>
      intro i b hi hb g
      rw [lsA] at g
      have l1 := RV_405 (s := s) ok (c := i) (by omega)
      have l2 := RV_405 (s := s) ok (c := b) (by omega)
      refine vX9_leastStart_4 _ _ M _ ⟨fun q => absurd q (nI_ge (b := 12) (by omega) (by decide)), fun _ => ⟨vp_in_nI (by omega) (by decide), vp_in_nI (by omega) (by decide), ?_⟩⟩
      rw [nI_clamp (by omega), nI_clamp (by omega), e58 b (by omega), e58 i (by omega), nI_leI (by omega) (by omega)]
      refine ⟨fun q x1 e1 => ?_, fun q x1 e1 => ?_⟩
      · rw [if_pos q] at g; rw [e1, nI_1]; exact ih (i + 1) b (by omega) hb g
      · rw [if_neg q] at g; rw [e1, nI_1]; exact ih (i + 1) i (by omega) (by omega) g
  exact L 11 1 0 rfl (by decide) hK
theorem uX9_downOn (hh : 2 ≤ h) (hc : cR 3 M f) {c : Nat} (hc8 : c < 180) (e58 : ∀ c, c < 192 → M 58 c = nI (RV f true c)) (hK : K (nI (dnF f c)) M) : CSi w h kX9_downOn [.ref 57, .ref 4, .int (nI c)] M K := by
  obtain ⟨h, rfl⟩ : ∃ k, h = k + 1 := ⟨h - 1, by omega⟩
  have ok : okF f := ⟨M, hc⟩
  have c0 : 0 ≤ nI c := nI_pos' (by omega)
  have c1 : nI c < 180 := nI_lt (b := 180) hc8 (by decide)
  refine csi_of (by decide) (Nat.le_of_ble_eq_true rfl) (vX9_downOn_0 _ M _ ?_)
  have L : ∀ n k, n + k = 3 → dnK f c 3 0 = dnK f c n k → (∃ j, k ≤ j ∧ j < 3 ∧ nbl c j ≠ 0 ∧ RC f true c j = RV f true c) → RM w (h + 1) kX9_downOn 2 [(0, .ref 57), (1, .ref 4), (2, .int (nI c)), (3, .int (nI k))] [] M (fun r M' => ∃ x, r = some (.int x) ∧ K x M') := by
    intro n
    induction n with
    | zero => intro k hk _ ⟨j, a, b, _⟩; omega
    | succ n ih =>
      intro k hk e ⟨j, a, b, d, ej⟩
      rw [show dnK f c (n + 1) k = if nbl c k ≠ 0 ∧ RC f true c k = RV f true c then k else dnK f c n (k + 1) from rfl] at e
      refine vX9_downOn_2 _ _ M _ ⟨fun q => absurd q (nI_ge (b := 3) (by omega) (by decide)), fun _ => uX10_belowOf (by omega) c0 c1 ?_⟩
      rw [belC_nI hc8 (by omega)]
      by_cases hn : nbl c k = 0
      · rw [if_pos hn]
        rw [if_neg (fun z => z.1 hn)] at e
        refine ⟨fun _ x1 e1 => ?_, fun q => absurd rfl q⟩
        have : j ≠ k := fun z => by subst z; exact d hn
        rw [e1, nI_1]; exact ih (k + 1) (by omega) e ⟨j, by omega, b, d, ej⟩
      · rw [if_neg hn]
        have hb := nbl_bd hc8 hn
        refine ⟨fun q => absurd (nI_pos' (n := nbl c k) (by omega)) (by rw [q]; decide), fun _ => uX9_costOver (s := true) (by omega) hc hb.1 (RV_405 (s := true) ok hb.1) (e58 _ hb.1) ⟨vp_in_nI (by omega) (by decide), ?_⟩⟩
        have r1 : RC f true c k ≤ 432 := RC_432 ok hc8 hn
        have r2 := RV_405 (s := true) ok (c := c) (by omega)
        rw [nI_clamp (by omega), e58 c (by omega), show cst true (hN f (nbl c k)) (RV f true (nbl c k)) = RC f true c k from rfl, nI_eq (by omega) (by omega)]
        refine ⟨fun q x1 e1 => ?_, fun q => ⟨_, rfl, ?_⟩⟩
        · rw [if_neg (fun z => q z.2)] at e
          have : j ≠ k := fun z => by subst z; exact q ej
          rw [e1, nI_1]; exact ih (k + 1) (by omega) e ⟨j, by omega, b, d, ej⟩
        · rw [if_pos ⟨hn, q⟩] at e
          unfold dnF at hK
          rw [e] at hK; exact hK
  exact L 3 0 rfl rfl (dn_ex hc8)
theorem uX9_endFrom (hh : 3 ≤ h) (hc : cR 3 M f) {b : Nat} (hb : b < 12) (e58 : ∀ c, c < 192 → M 58 c = nI (RV f true c)) (hK : K (md12 (nI (enF f 15 b))) M) : CSi w h kX9_endFrom [.ref 57, .ref 4, .int (nI b)] M K := by
  obtain ⟨h, rfl⟩ : ∃ k, h = k + 1 := ⟨h - 1, by omega⟩
  refine csi_of (by decide) (Nat.le_of_ble_eq_true rfl) (vX9_endFrom_0 _ M _ ?_)
  have L : ∀ n i c, n + i = 15 → c < 192 → c / 12 = i → K (md12 (nI (enF f n c))) M → RM w (h + 1) kX9_endFrom 5 [(0, .ref 57), (1, .ref 4), (3, .int (nI c)), (4, .int (nI i))] [] M (fun r M' => ∃ x, r = some (.int x) ∧ K x M') := by
    intro n
    induction n with
    | zero =>
      intro i c hi hc1 hc2 g
      have : i = 15 := by omega
      subst this
      exact vX9_endFrom_5 _ _ M _ ⟨fun _ => ⟨_, rfl, g⟩, fun q => absurd (by decide) q⟩
    | succ n ih =>
      intro i c hi hc1 hc2 g
      rw [enF] at g
      have hd := dnF_ok (f := f) (c := c) (by omega)
      refine vX9_endFrom_5 _ _ M _ ⟨fun q => absurd q (nI_ge (b := 15) (by omega) (by decide)), fun _ => uX9_downOn (by omega) hc (by omega) e58 (fun x1 e1 => ?_)⟩
      rw [e1, nI_1]
      exact ih (i + 1) _ (by omega) hd.1 (by omega) g
  exact L 15 0 b rfl (by omega) (by omega) hK
theorem uX11_findSums (hh : 3 ≤ h) (ok : okF (M 60)) (h4 : M 59 4 = 0) (hK : ∀ M', (∀ c, c < 192 → M' 66 c = nI (RV (M 60) true c)) → (∀ q, q ≠ 66 → M' q = M q) → Kv M') : CSv w h kX11_findSums [.ref 59] M Kv := by
  obtain ⟨h, rfl⟩ : ∃ k, h = k + 1 := ⟨h - 1, by omega⟩
  refine csv_of (by decide) (Nat.le_of_ble_eq_true rfl) (vX11_findSums_0 M _ ?_)
  have L : ∀ n, n ≤ 192 → ∀ Mx : Mem, (∀ q, q ≠ 66 → Mx q = M q) → (∀ j, n ≤ j → j < 192 → Mx 66 j = nI (RV (M 60) true j)) → RM w (h + 1) kX11_findSums 4 [(0, .ref 59), (1, .int (nI n - 1))] [] Mx (fun r M' => r = none ∧ Kv M') := by
    intro n
    induction n with
    | zero =>
      intro hn Mx a b
      exact vX11_findSums_4 _ Mx _ ⟨fun _ => ⟨rfl, hK Mx (fun c hc => b c (by omega) hc) a⟩, fun q => absurd (by decide) q⟩
    | succ n ih =>
      intro hn Mx a b
      rw [nI_pred]
      have hin : vp_in (nI n) 192 := vp_in_nI (by omega) (by decide)
      refine vX11_findSums_4 _ Mx _ ⟨fun q => absurd q (nI_pos (by omega)), fun _ => ⟨hin, fun M1 e1 => ⟨fun q => ⟨hin, fun M2 e2 => ?_⟩, fun q x1 ex => ?_⟩⟩⟩
      · have hn8 : n < 180 := (nI_ltI (b := 180) (by omega) (by decide)).mp q
        rw [nI_clamp (by omega)] at e1 e2
        have n0 : nbl n 0 ≠ 0 := by show n + 12 ≠ 0; omega
        have I : ∀ k, k ≤ 3 → ∀ My : Mem, (∀ q, q ≠ 66 → My q = M q) → (∀ j, n < j → j < 192 → My 66 j = nI (RV (M 60) true j)) → My 66 n = (if k = 0 then 2147483647 else nI (bst (RC (M 60) true n) n (k - 1))) → RM w (h + 1) kX11_findSums 36 [(0, .ref 59), (1, .int (nI n)), (2, .int (nI k))] [] My (fun r M' => r = none ∧ Kv M') := by
          refine up_ind (N := 3) (fun My ay b1 b2 => ?_) (fun k hk ihk My ay b1 b2 => ?_)
          · refine vX11_findSums_36 _ _ My _ ⟨fun _ x1 ex => ?_, fun q => absurd (by decide) q⟩
            rw [ex, g_pm1]
            refine ih (by omega) My ay (fun j j1 j2 => ?_)
            by_cases hj : j = n
            · subst hj; rw [b2, if_neg (by decide), RV_st hn8]
            · exact b1 j (by omega) j2
          · have h60 : My 60 = M 60 := ay 60 (by decide)
            have h594 : My 59 4 = 0 := by rw [ay 59 (by decide)]; exact h4
            refine vX11_findSums_36 _ _ My _ ⟨fun q => absurd q (nI_ge (b := 3) (by omega) (by decide)), fun _ => uX11_below ?_⟩
            rw [bel_nI hn8 hk]
            by_cases hn0 : nbl n k = 0
            · rw [if_pos hn0]
              refine ⟨fun _ x1 ex => ?_, fun q => absurd (by decide) q⟩
              rw [ex, nI_1]
              refine ihk My ay b1 ?_
              have hk0 : k ≠ 0 := fun z => by subst z; exact n0 hn0
              obtain ⟨m, rfl⟩ : ∃ m, k = m + 1 := ⟨k - 1, by omega⟩
              rw [b2, if_neg (by omega), if_neg (by omega)]
              rw [show m + 1 + 1 - 1 = m + 1 from rfl, bst, if_pos hn0]; rfl
            · rw [if_neg hn0]
              have hb := nbl_bd hn8 hn0
              have hh := hN_ok ok hb.1
              have r1 : RC (M 60) true n k ≤ 432 := RC_432 ok hn8 hn0
              have rB : ∀ m, bst (RC (M 60) true n) n m ≤ 432 := bst_le (RC_432 ok hn8 n0)
              have hinb : vp_in (nI (nbl n k)) 192 := vp_in_nI hb.1 (by decide)
              have eh : hold (dtR My) (wtR My) (nI (nbl n k)) = nI (hN (M 60) (nbl n k)) := by rw [wtR_F h594, dtR_F, h60]; exact hh.2
              have e66 : My 66 (nbl n k) = nI (RV (M 60) true (nbl n k)) := b1 _ (by omega) hb.1
              refine ⟨fun q => absurd q (nI_pos (by omega)), fun _ => uX11_holdOf (by omega) (nI_pos' (by omega)) (nI_le (b := 191) (by omega) (by decide)) ⟨hinb, hin, ?_⟩⟩
              rw [eh, nI_clamp (by omega), nI_clamp (by omega), e66, nI_add, show hN (M 60) (nbl n k) + RV (M 60) true (nbl n k) = RC (M 60) true n k from rfl]
              refine ⟨fun q x1 ex => ?_, fun q => uX11_holdOf (by omega) (nI_pos' (by omega)) (nI_le (b := 191) (by omega) (by decide)) ⟨hinb, hin, ?_⟩⟩
              · rw [ex, nI_1]
                refine ihk My ay b1 ?_
                have hk0 : k ≠ 0 := fun z => by
                  subst z
                  rw [b2, if_pos rfl] at q
                  exact absurd (show nI 2147483647 ≤ nI (RC (M 60) true n 0) from q) (nI_ge (by omega) (by decide))
                obtain ⟨m, rfl⟩ : ∃ m, k = m + 1 := ⟨k - 1, by omega⟩
                rw [b2, if_neg (by omega)] at q
                rw [b2, if_neg (by omega), if_neg (by omega)]
                have q' := (nI_leI (by have := rB (m + 1 - 1); omega) (by omega)).mp q
                rw [show m + 1 + 1 - 1 = m + 1 from rfl, bst, if_neg hn0]
                rw [show m + 1 - 1 = m from rfl] at q' ⊢
                congr 1; omega
              · rw [eh, e66, nI_add, show hN (M 60) (nbl n k) + RV (M 60) true (nbl n k) = RC (M 60) true n k from rfl]
                intro M4 e4 x1 ex
                rw [ex, nI_1]
                refine ihk M4 (fun q hq => by rw [e4, mset_ne hq]; exact ay q hq) (fun j j1 j2 => ?_) ?_
                · rw [e4, mset_eq, pk_un (by omega)]; exact b1 j j1 j2
                · rw [e4, mset_eq, pk_us, if_neg (by omega)]
                  by_cases hk0 : k = 0
                  · subst hk0; rfl
                  · obtain ⟨m, rfl⟩ : ∃ m, k = m + 1 := ⟨k - 1, by omega⟩
                    rw [b2, if_neg (by omega)] at q
                    have q' : ¬ bst (RC (M 60) true n) n m ≤ RC (M 60) true n (m + 1) := fun z => q (nI_le z (by omega))
                    rw [show m + 1 + 1 - 1 = m + 1 from rfl, bst, if_neg hn0]
                    congr 1; omega
        refine I 0 (by decide) M2 (fun q hq => by rw [e2, mset_ne hq, e1, mset_ne hq]; exact a q hq) (fun j j1 j2 => ?_) ?_
        · rw [e2, mset_eq, pk_un (by omega), e1, mset_eq, pk_un (by omega)]; exact b j (by omega) j2
        · rw [e2, mset_eq, pk_us]; rfl
      · have hn8 : 180 ≤ n := by
          rcases Nat.lt_or_ge n 180 with z | z
          · exact absurd (nI_lt z (by decide)) q
          · exact z
        rw [nI_clamp (by omega)] at e1
        rw [ex, g_pm1]
        refine ih (by omega) M1 (fun q hq => by rw [e1, mset_ne hq]; exact a q hq) (fun j j1 j2 => ?_)
        rw [e1, mset_eq]
        by_cases hj : j = n
        · subst hj; rw [pk_us, RV_top hn8]; rfl
        · rw [pk_un hj]; exact b j (by omega) j2
  exact L 192 (by decide) M (fun _ _ => rfl) (fun j h1 h2 => absurd h2 (by omega))
end SF

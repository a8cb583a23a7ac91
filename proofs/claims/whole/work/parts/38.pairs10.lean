/-! ===== open, status, count, tear, image, undo ===== -/
def nDrops (f : Nat → Int32) : Int32 := sumN (fun d => b2i (¬ f (402 + 4 * d) < 0)) 8
def sWat (f : Nat → Int32) : Int32 := sumN (fun d => if f (402 + 4 * d) < 0 then 0 else f (404 + 4 * d)) 8
def nWet (f : Nat → Int32) : Int32 := sumN (fun k => b2i (¬ f (210 + k) ≤ 0)) 192
section E0
variable {w : Wd} {h : Nat} {M : Mem} {K : Int32 → Mem → Prop} {Kv : Mem → Prop} {f : Nat → Int32}
theorem uX0_howMany (hh : 1 ≤ h) (g : gDrop (M 9) (M 10) (M 11) (M 12) f) (hK : K (nDrops f) M) : CSi w h kX0_howMany [.ref 8] M K := by
  obtain ⟨h, rfl⟩ : ∃ k, h = k + 1 := ⟨h - 1, by omega⟩
  refine csi_of (by decide) (Nat.le_of_ble_eq_true rfl) (vX0_howMany_0 M _ (uX10_countAbove0 (la := 8) rfl (by decide) (by decide) ⟨_, rfl, ?_⟩))
  rw [sumN_c (g' := fun d => b2i (¬ f (402 + 4 * d) < 0)) (fun k hk => b2i_iff (Int32.not_le.symm.trans (not_congr (g k hk).there)))]
  exact hK
theorem uX11_drops (hh : 1 ≤ h) (hK : K (nDrops (M 60)) M) : CSi w h kX11_drops [.ref 59] M K := by
  obtain ⟨h, rfl⟩ : ∃ k, h = k + 1 := ⟨h - 1, by omega⟩
  refine csi_of (by decide) (Nat.le_of_ble_eq_true rfl) (vX11_drops_0 M _ ?_)
  have L : ∀ k, k ≤ 8 → RM w (h + 1) kX11_drops 4 [(0, .ref 59), (1, .int (sumN (fun d => b2i (¬ M 60 (402 + 4 * d) < 0)) k)), (2, .int (nI k))] [] M (fun r M' => ∃ x, r = some (.int x) ∧ K x M') := by
    refine up_ind ?_ (fun k hk ih => ?_)
    · exact vX11_drops_4 _ _ M _ ⟨fun _ => ⟨_, rfl, hK⟩, fun q => absurd (by decide) q⟩
    · refine vX11_drops_4 _ _ M _ ⟨fun q => absurd q (nI_ge (b := 8) hk (by decide)), fun _ => uX11_of hk 0 (by decide) rfl (fun x1 e1 x2 e2 => ?_)⟩
      rw [e2, nI_1, e1]; exact ih
  exact L 0 (by decide)
theorem g_neg1 {x : Int32} (h : -1 ≤ x) (h2 : ¬ x = -1) : 0 ≤ x := by grind
theorem p_status (hI : INV M) {a0 : Int32} : PAIR w kX10_status kX11_status [.int a0] M := by
  by_cases hm : a0 = -1
  · subst hm
    refine pairQ hI (.inl (sumN (M 62) 7)) inL' (fun K hK => ?_) (fun M1 r K hK => ?_)
    · refine csi_of (by decide) (Nat.le_of_ble_eq_true rfl) (vX10_status_0 _ M _ ⟨fun q => absurd rfl q, fun _ => uX10_sumOf (la := 7) rfl (by decide) (by decide) ⟨_, rfl, ?_⟩⟩)
      rw [sumN_c (fun k hk => hI.2.2.1 k hk)]
      exact hK M FR.refl
    · refine csi_of (by decide) (Nat.le_of_ble_eq_true rfl) (vX11_status_0 _ M1 _ ⟨fun _ => ?_, fun q => absurd (by decide) q⟩)
      have L : ∀ k, k ≤ 7 → RM w 12 kX11_status 25 [(0, .ref 59), (1, .int (-1)), (2, .int (sumN (M 62) k)), (3, .int (nI k))] [] M1 (fun r M' => ∃ x, r = some (.int x) ∧ K x M') := by
        refine up_ind ?_ (fun k hk ih => ?_)
        · exact vX11_status_25 _ _ _ M1 _ ⟨fun _ => ⟨_, rfl, hK M1 FR.refl⟩, fun q => absurd (by decide) q⟩
        · refine vX11_status_25 _ _ _ M1 _ ⟨fun q => absurd q (nI_ge (b := 7) hk (by decide)), fun _ => ⟨fun _ => ⟨vp_in_nI (by omega) (by decide), fun x1 e1 x2 e2 => ?_⟩, fun q => absurd (by decide) q⟩⟩
          rw [nI_clamp (by omega), r.1 62 (by decide) (by decide) (by decide) (by decide)] at e1
          rw [e2, nI_1, e1]; exact ih
      exact L 0 (by decide)
  · by_cases hs : (0 : Int32) ≤ a0 ∧ a0 ≤ (6 : Int32)
    · obtain ⟨c, hc, rfl⟩ := nI_of2 (n := 6) rfl (Int32.not_lt.mpr hs.1) hs.2
      refine pairQ hI (.inl (M 62 c)) inL' (fun K hK => ?_) (fun M1 r K hK => ?_)
      · refine csi_of (by decide) (Nat.le_of_ble_eq_true rfl) (vX10_status_0 _ M _ ⟨fun _ => ⟨fun _ => ⟨vp_in_nI (by omega) (by decide), _, rfl, ?_⟩, fun q => absurd hs q⟩, fun q => absurd q hm⟩)
        rw [nI_clamp (by omega), hI.2.2.1 c (by omega)]
        exact hK M FR.refl
      · refine csi_of (by decide) (Nat.le_of_ble_eq_true rfl) (vX11_status_0 _ M1 _ ⟨fun _ => ?_, fun q => absurd ⟨Int32.le_trans (by decide) hs.1, hs.2⟩ q⟩)
        have L : ∀ k, k ≤ 7 → RM w 12 kX11_status 25 [(0, .ref 59), (1, .int (nI c)), (2, .int (if k ≤ c then 0 else M 62 c)), (3, .int (nI k))] [] M1 (fun r M' => ∃ x, r = some (.int x) ∧ K x M') := by
          refine up_ind ?_ (fun k hk ih => ?_)
          · rw [if_neg (by omega)]
            exact vX11_status_25 _ _ _ M1 _ ⟨fun _ => ⟨_, rfl, hK M1 FR.refl⟩, fun q => absurd (by decide) q⟩
          · refine vX11_status_25 _ _ _ M1 _ ⟨fun q => absurd q (nI_ge (b := 7) hk (by decide)), fun _ => ⟨fun q => absurd q (nI_pos (by omega)), fun _ => ⟨fun q x1 e1 x2 e2 => ?_, fun q => ⟨vp_in_nI (by omega) (by decide), fun x1 e1 x2 e2 => ?_⟩⟩⟩⟩
            · have hne : k ≠ c := fun z => q (by rw [z])
              rw [e2, nI_1, e1, g_a0]
              by_cases hkc : k ≤ c
              · rw [if_pos hkc]; rw [if_pos (by omega)] at ih; exact ih
              · rw [if_neg hkc]; rw [if_neg (by omega)] at ih; exact ih
            · have heq : c = k := (nI_eq (by omega) (by omega)).mp q
              subst heq
              rw [nI_clamp (by omega), r.1 62 (by decide) (by decide) (by decide) (by decide), if_pos (Nat.le_refl _)] at e1
              rw [if_neg (by omega)] at ih
              rw [e2, nI_1, e1, show (0 : Int32) + M 62 c = M 62 c by simp]; exact ih
        have := L 0 (by decide)
        rw [if_pos (by omega)] at this
        exact this
    · refine pairQ hI (.inr 0) in0 (fun K hK => ?_) (fun M1 r K hK => ?_)
      · exact csi_of (by decide) (Nat.le_of_ble_eq_true rfl) (vX10_status_0 a0 M _ ⟨fun _ => ⟨fun q => absurd q hs, fun _ => tell0 (hK _ FR.refl)⟩, fun q => absurd q hm⟩)
      · exact csi_of (by decide) (Nat.le_of_ble_eq_true rfl) (vX11_status_0 a0 M1 _ ⟨fun q => absurd ⟨g_neg1 q.1 hm, q.2⟩ hs, fun _ => find0 (hK _ FR.refl)⟩)
theorem p_count (hI : INV M) {a0 : Int32} : PAIR w kX10_count kX11_count [.int a0] M := by
  obtain ⟨n, hn, t1, t2, -⟩ := hI.2.2.2.1
  refine pairQ hI (if a0 = 0 then .inl (nDrops (M 60)) else if a0 = 1 then .inl (sWat (M 60)) else if a0 = 2 then .inl (nWet (M 60)) else if a0 = 3 then .inl (nDirt (M 60)) else if a0 = 4 then .inl (M 60 5) else if a0 = 5 then .inl (M 59 6) else if a0 = 6 then .inl (M 60 3) else if a0 = 7 then .inl (M 60 4) else .inr 0) (fun j e => ?_) (fun K hK => ?_) (fun M1 r K hK => ?_)
  · repeat' split at e
    all_goals first | (cases e; decide) | cases e
  · have g := hK M FR.refl
    refine csi_of (by decide) (Nat.le_of_ble_eq_true rfl) (vX10_count_0 a0 M _ ⟨fun q0 => uX0_howMany (by decide) hI.cr.r ⟨_, rfl, ?_⟩, fun q0 => ⟨fun q1 => uX10_sumOf (la := 8) rfl (by decide) (by decide) ⟨_, rfl, ?_⟩, fun q1 => ⟨fun q2 => uX10_countAbove0 (la := 192) rfl (by decide) (by decide) ⟨_, rfl, ?_⟩, fun q2 => ⟨fun q3 => uX10_countAbove0 (la := 192) rfl (by decide) (by decide) ⟨_, rfl, ?_⟩, fun q3 => ⟨fun q4 => ⟨_, rfl, ?_⟩, fun q4 => ⟨fun q5 => ⟨_, rfl, ?_⟩, fun q5 => ⟨fun q6 => ⟨_, rfl, ?_⟩, fun q6 => ⟨fun q7 => ⟨_, rfl, ?_⟩, fun q7 => tell0 ?_⟩⟩⟩⟩⟩⟩⟩⟩)
    · rw [if_pos q0] at g; exact g
    · rw [if_neg q0, if_pos q1] at g
      rw [sumN_c (g' := fun d => if M 60 (402 + 4 * d) < 0 then 0 else M 60 (404 + 4 * d)) (fun k hk => ?_)]
      · exact g
      · by_cases hp : M 60 (402 + 4 * k) < 0
        · rw [if_pos hp]
          rcases hI.cr.r k hk with z | z
          · exact z.1
          · exact absurd hp (Int32.not_lt.mpr z.2.1.1)
        · rw [if_neg hp]; exact ((hI.cr.r k hk).got hp).2.2.2.2.2.1
    · rw [if_neg q0, if_neg q1, if_pos q2] at g
      rw [sumN_c (g' := fun k => b2i (¬ M 60 (210 + k) ≤ 0)) (fun k hk => by rw [show M 6 k = _ from (hI.cr.w k hk).1]; exact b2i_iff Int32.not_le.symm)]
      exact g
    · rw [if_neg q0, if_neg q1, if_neg q2, if_pos q3] at g
      rw [cntD hI.cr]; exact g
    · rw [if_neg q0, if_neg q1, if_neg q2, if_neg q3, if_pos q4] at g
      obtain ⟨np, -, o1, o2, -⟩ := hI.cr.p
      rw [show M 13 0 = nI np from o1, ← o2]; exact g
    · rw [if_neg q0, if_neg q1, if_neg q2, if_neg q3, if_neg q4, if_pos q5] at g
      rw [t1, ← t2]; exact g
    · rw [if_neg q0, if_neg q1, if_neg q2, if_neg q3, if_neg q4, if_neg q5, if_pos q6] at g
      rw [hI.cr.z.1]; exact g
    · rw [if_neg q0, if_neg q1, if_neg q2, if_neg q3, if_neg q4, if_neg q5, if_neg q6, if_pos q7] at g
      rw [hI.cr.z.2]; exact g
    · rw [if_neg q0, if_neg q1, if_neg q2, if_neg q3, if_neg q4, if_neg q5, if_neg q6, if_neg q7] at g
      exact g
  · have g := hK M1 FR.refl
    have L1 : K (sWat (M 60)) M1 → ∀ k, k ≤ 8 → RM w 12 kX11_count 55 [(0, .ref 59), (2, .int (sumN (fun d => if M 60 (402 + 4 * d) < 0 then 0 else M 60 (404 + 4 * d)) k)), (3, .int (nI k))] [] M1 (fun r M' => ∃ x, r = some (.int x) ∧ K x M') := by
      intro g
      refine up_ind ?_ (fun k hk ih => ?_)
      · exact vX11_count_55 _ _ M1 _ ⟨fun _ => ⟨_, rfl, g⟩, fun q => absurd (by decide) q⟩
      · refine vX11_count_55 _ _ M1 _ ⟨fun q => absurd q (nI_ge (b := 8) hk (by decide)), fun _ => uX11_isDrop (by decide) hk ?_⟩
        rw [r.m60]
        rw [sumN] at ih
        refine ⟨fun q x1 e1 x2 e2 => ?_, fun q => uX11_of hk 2 (by decide) rfl (fun x1 e1 x2 e2 => ?_)⟩
        · rw [b2i_0] at q
          rw [if_pos (Classical.not_not.mp q)] at ih
          rw [e2, nI_1, e1]; exact ih
        · rw [b2n] at q
          rw [if_neg q] at ih
          rw [show 402 + 4 * k + 2 = 404 + 4 * k by omega, r.m60] at e1
          rw [e2, nI_1, e1]; exact ih
    have L2 : K (nWet (M 60)) M1 → ∀ k, k ≤ 192 → RM w 12 kX11_count 92 [(0, .ref 59), (2, .int (sumN (fun k => b2i (¬ M 60 (210 + k) ≤ 0)) k)), (3, .int (nI k))] [] M1 (fun r M' => ∃ x, r = some (.int x) ∧ K x M') := by
      intro g
      refine up_ind ?_ (fun k hk ih => ?_)
      · exact vX11_count_92 _ _ M1 _ ⟨fun _ => ⟨_, rfl, g⟩, fun q => absurd (by decide) q⟩
      · refine vX11_count_92 _ _ M1 _ ⟨fun q => absurd q (nI_ge (b := 192) hk (by decide)), fun _ => ⟨by rw [n210]; exact vp_in_nI (by omega) (by decide), fun x1 e1 x2 e2 => ?_⟩⟩
        rw [n210, nI_clamp (by omega), r.m60] at e1
        rw [e2, nI_1, e1]; exact ih
    have hi : ∀ j : Int32, 0 ≤ j → j < 666 → vp_in j 666 := fun j a b => inL 666 rfl a b
    refine csi_of (by decide) (Nat.le_of_ble_eq_true rfl) (vX11_count_0 a0 M1 _ ⟨fun q0 => uX11_drops (by decide) ⟨_, rfl, ?_⟩, fun q0 => ⟨fun q1 => L1 ?_ 0 (by decide), fun q1 => ⟨fun q2 => L2 ?_ 0 (by decide), fun q2 => ⟨fun q3 => uX11_dirty ⟨_, rfl, ?_⟩, fun q3 => ⟨fun q4 => ⟨hi _ (by decide) (by decide), _, rfl, ?_⟩, fun q4 => ⟨fun q5 => ⟨_, rfl, ?_⟩, fun q5 => ⟨fun q6 => ⟨hi _ (by decide) (by decide), _, rfl, ?_⟩, fun q6 => ⟨fun q7 => ⟨hi _ (by decide) (by decide), _, rfl, ?_⟩, fun q7 => find0 ?_⟩⟩⟩⟩⟩⟩⟩⟩)
    · rw [if_pos q0] at g; rw [r.m60]; exact g
    · rw [if_neg q0, if_pos q1] at g; exact g
    · rw [if_neg q0, if_neg q1, if_pos q2] at g; exact g
    · rw [if_neg q0, if_neg q1, if_neg q2, if_pos q3] at g; rw [r.m60]; exact g
    · rw [if_neg q0, if_neg q1, if_neg q2, if_neg q3, if_pos q4] at g
      rw [r.m60]; exact g
    · rw [if_neg q0, if_neg q1, if_neg q2, if_neg q3, if_neg q4, if_pos q5] at g
      rw [r.2.2.2]; exact g
    · rw [if_neg q0, if_neg q1, if_neg q2, if_neg q3, if_neg q4, if_neg q5, if_pos q6] at g
      rw [r.m60]; exact g
    · rw [if_neg q0, if_neg q1, if_neg q2, if_neg q3, if_neg q4, if_neg q5, if_neg q6, if_pos q7] at g
      rw [r.m60]; exact g
    · rw [if_neg q0, if_neg q1, if_neg q2, if_neg q3, if_neg q4, if_neg q5, if_neg q6, if_neg q7] at g
      exact g
def opnV (M : Mem) (wa : Int32) : Nat → Nat → Int32 → Int32
  | 0, _, acc => acc
  | n + 1, c, acc => opnV M wa n (c + 1) (acc + b2i (¬ (wa + M 60 0 < hold (dtR M) (wtR M) (nI c))))
theorem p_open (hI : INV M) {a0 a1 : Int32} : PAIR w kX10_open kX11_open [.int a0, .int a1] M := by
  by_cases hs : (0 ≤ a0 ∧ a0 ≤ 15) ∧ (1 ≤ a1 ∧ a1 ≤ 99)
  · obtain ⟨hd, hv⟩ := id hs
    obtain ⟨r, hr, rfl⟩ := nI_of2 (n := 15) rfl (Int32.not_lt.mpr hd.1) hd.2
    have hr' : r < 16 := by omega
    refine pairQ hI (.inl (opnV M a1 12 (12 * r) 0)) inL' (fun K hK => ?_) (fun M1 rf K hK => ?_)
    · refine csi_of (by decide) (Nat.le_of_ble_eq_true rfl) (vX10_open_0 (by decide) _ a1 M _ ⟨fun q => absurd hd q, fun _ => ⟨fun _ x1 e1 => ?_, fun q => absurd hv q⟩⟩)
      rw [show M 4 2 = _ from hI.cr.s.1.1] at e1
      have L : ∀ n i, n + i = 12 → ∀ acc, K (opnV M a1 n (12 * r + i) acc) M → RM w 12 kX10_open 42 [(0, .ref 0), (1, .int (nI r)), (3, .int x1), (4, .int acc), (5, .int (nI i))] [] M (fun r M' => ∃ x, r = some (.int x) ∧ K x M') := by
        intro n
        induction n with
        | zero =>
          intro i hi acc g
          have : i = 12 := by omega
          subst this
          exact vX10_open_42 (by decide) _ _ _ _ M _ ⟨fun _ => ⟨_, rfl, g⟩, fun q => absurd (by decide) q⟩
        | succ n ih =>
          intro i hi acc g
          rw [opnV] at g
          refine vX10_open_42 (by decide) _ _ _ _ M _ ⟨fun q => absurd q (nI_ge (b := 12) (by omega) (by decide)), fun _ => ?_⟩
          rw [(r12 hr').1, nI_add]
          refine uX2_holdOf pane4 hI.pane (nI_pos' (by omega)) (nI_le (b := 191) (by omega) (by decide)) ?_
          rw [e1]
          rw [e1] at ih
          refine ⟨fun q v1 e2 => ?_, fun q v1 e2 v2 e3 => ?_⟩
          · rw [b2i_f (fun z => z q), g_a0] at g
            rw [e2, nI_1]; exact ih (i + 1) (by omega) _ g
          · rw [b2i_t q] at g
            rw [e3, nI_1, e2]; exact ih (i + 1) (by omega) _ g
      exact L 12 0 rfl 0 (hK M FR.refl)
    · refine csi_of (by decide) (Nat.le_of_ble_eq_true rfl) (vX11_open_0 (by decide) _ a1 M1 _ ⟨fun q => absurd hd q, fun _ => ⟨fun _ x1 e1 => ?_, fun q => absurd hv q⟩⟩)
      rw [(r12 hr').2.1] at e1
      rw [e1]
      have L : ∀ n c, n + c = 12 * r + 12 → ∀ acc, K (opnV M a1 n c acc) M1 → RM w 12 kX11_open 34 [(0, .ref 59), (1, .int (nI r)), (2, .int a1), (3, .int acc), (4, .int (nI c))] [] M1 (fun r M' => ∃ x, r = some (.int x) ∧ K x M') := by
        intro n
        induction n with
        | zero =>
          intro c hc acc g
          refine vX11_open_34 (by decide) _ _ _ _ M1 _ ⟨fun _ => ⟨_, rfl, g⟩, fun q => absurd ?_ q⟩
          rw [(r12 hr').2.2.2]; exact nI_le (by omega) (by omega)
        | succ n ih =>
          intro c hc acc g
          rw [opnV] at g
          refine vX11_open_34 (by decide) _ _ _ _ M1 _ ⟨fun q => ?_, fun _ => uX11_can (by decide) (nI_pos' (by omega)) (nI_le (b := 191) (by omega) (by decide)) (fun v1 e2 v2 e3 => ?_)⟩
          · rw [(r12 hr').2.2.2] at q; exact absurd q (nI_ge (by omega) (by omega))
          · rw [dtR_rf rf, wtR_rf rf, rf.m60] at e2
            rw [e3, nI_1, e2]
            refine ih (c + 1) (by omega) _ ?_
            rw [b2i_iff (Q := ¬ (a1 + M 60 0 < hold (dtR M) (wtR M) (nI c))) b2n]
            exact g
      exact L 12 (12 * r) (by omega) 0 (hK M1 FR.refl)
  · refine pairQ hI (.inr 0) in0 (fun K hK => ?_) (fun M1 r K hK => ?_)
    · exact csi_of (by decide) (Nat.le_of_ble_eq_true rfl) (vX10_open_0 (by decide) a0 a1 M _ ⟨fun _ => tell0 (hK _ FR.refl), fun q => ⟨fun q2 => absurd ⟨q, q2⟩ hs, fun _ => tell0 (hK _ FR.refl)⟩⟩)
    · exact csi_of (by decide) (Nat.le_of_ble_eq_true rfl) (vX11_open_0 (by decide) a0 a1 M1 _ ⟨fun _ => find0 (hK _ FR.refl), fun q => ⟨fun q2 => absurd ⟨q, q2⟩ hs, fun _ => find0 (hK _ FR.refl)⟩⟩)
end E0

/-! ===== the reference: where a drop goes ===== -/
def dtR (M : Mem) (c : Int32) : Int32 := M 60 (18 + c).toNatClampNeg
def wtR (M : Mem) (c : Int32) : Int32 := if M 59 4 = 0 then M 60 (210 + c).toNatClampNeg else 0
theorem i18 {x : Int32} (h0 : 0 ≤ x) (h1 : x ≤ 191) : vp_in (18 + x) 666 := inL 666 rfl (by grind) (by grind)
theorem i210 {x : Int32} (h0 : 0 ≤ x) (h1 : x ≤ 191) : vp_in (210 + x) 666 := inL 666 rfl (by grind) (by grind)
theorem g_12b {x : Int32} (h1 : 0 ≤ x) (h2 : x < 180) : 0 ≤ x + 12 ∧ x + 12 ≤ 191 := by grind
theorem g_le {x : Int32} (h2 : x < 180) : x ≤ 191 := by grind
theorem g_lt {x : Int32} (h2 : x < 180) : x < 192 := by grind
theorem i32_3 {k : Int32} (h : k = 0 ∨ k = 1 ∨ k = 2) : ¬ 3 ≤ k := by rcases h with rfl | rfl | rfl <;> decide
section RG
variable {w : Wd} {h : Nat} {M : Mem} {K : Int32 → Mem → Prop} {Kv : Mem → Prop}
theorem uX11_finds (i : Nat) (hi : i < 7) {f : Int32} (hf : -1000001 - f = nI i) (hK : K f (mset M 62 i (M 62 i + 1))) : CSi w h kX11_finds [.ref 59, .int f] M K := by
  refine csi_of (by decide) (Nat.le_of_ble_eq_true rfl) (vX11_finds_0 f M _ ?_)
  rw [hf, nI_clamp (by omega)]
  exact ⟨vp_in_nI hi (by decide), vp_in_nI hi (by decide), fun M1 e => ⟨_, rfl, by rw [e]; exact hK⟩⟩
theorem uX11_wetOf {c : Int32} (h0 : 0 ≤ c) (h1 : c ≤ 191) (hK : K (wtR M c) M) : CSi w h kX11_wetOf [.ref 59, .int c] M K := by
  refine csi_of (by decide) (Nat.le_of_ble_eq_true rfl) (vX11_wetOf_0 c M _ ?_)
  refine ⟨fun hd => ⟨i210 h0 h1, _, rfl, ?_⟩, fun hd => ⟨_, rfl, ?_⟩⟩
  · rwa [wtR, if_pos hd] at hK
  · rwa [wtR, if_neg hd] at hK
theorem uX11_holdOf (hh : 1 ≤ h) {c : Int32} (h0 : 0 ≤ c) (h1 : c ≤ 191) (hK : K (hold (dtR M) (wtR M) c) M) : CSi w h kX11_holdOf [.ref 59, .int c] M K := by
  obtain ⟨h, rfl⟩ : ∃ k, h = k + 1 := ⟨h - 1, by omega⟩
  refine csi_of (by decide) (Nat.le_of_ble_eq_true rfl) (vX11_holdOf_0 c M _ ?_)
  exact ⟨i18 h0 h1, uX11_wetOf h0 h1 (fun x1 e1 => ⟨_, rfl, by rw [e1]; exact hK⟩)⟩
theorem uX11_can (hh : 2 ≤ h) {c wa : Int32} (h0 : 0 ≤ c) (h1 : c ≤ 191) (hK : K (b2i (¬ (wa + M 60 0 < hold (dtR M) (wtR M) c))) M) : CSi w h kX11_can [.ref 59, .int c, .int wa] M K := by
  obtain ⟨h, rfl⟩ : ∃ k, h = k + 1 := ⟨h - 1, by omega⟩
  refine csi_of (by decide) (Nat.le_of_ble_eq_true rfl) (vX11_can_0 c wa M _ ?_)
  exact uX11_holdOf (by omega) h0 h1 ⟨inL 666 rfl (by decide) (by decide), _, rfl, hK⟩
theorem uX11_below {c k : Int32} (hK : K (bel c k) M) : CSi w h kX11_below [.int c, .int k] M K := by
  refine csi_of (by decide) (Nat.le_of_ble_eq_true rfl) (vX11_below_0 c k M _ ?_)
  intro x1 e1
  subst e1
  unfold bel md12 at hK
  refine ⟨fun hk => ⟨fun hk1 => ⟨_, rfl, ?_⟩, fun hk1 => ⟨_, rfl, ?_⟩⟩, fun hk => ⟨_, rfl, ?_⟩⟩
  · rwa [if_neg hk, if_neg hk1] at hK
  · rwa [if_neg hk, if_pos hk1] at hK
  · rwa [if_pos hk] at hK
theorem b2n {P : Prop} [Decidable P] : ¬ (b2i P = 0) ↔ P := by rw [b2i_0]; exact Classical.not_not
theorem uX11_softest (hh : 3 ≤ h) {c wa : Int32} (h0 : 0 ≤ c) (h1 : c < 180) (hK : K (softest3 (dtR M) (wtR M) (M 60 0) wa c) M) : CSi w h kX11_softest [.ref 59, .int c, .int wa] M K := by
  obtain ⟨h, rfl⟩ : ∃ k, h = k + 1 := ⟨h - 1, by omega⟩
  refine csi_of (by decide) (Nat.le_of_ble_eq_true rfl) (vX11_softest_0 c wa M _ ?_)
  have S : ∀ k best : Int32, (k = 0 ∨ k = 1 ∨ k = 2) → 0 ≤ best ∧ best ≤ 191 → RM w (h + 1) kX11_softest 5 [(0, .ref 59), (1, .int c), (2, .int wa), (3, .int (sstep (dtR M) (wtR M) (M 60 0) wa c best k)), (4, .int (k + 1))] [] M (fun r M' => ∃ x, r = some (.int x) ∧ K x M') → RM w (h + 1) kX11_softest 5 [(0, .ref 59), (1, .int c), (2, .int wa), (3, .int best), (4, .int k)] [] M (fun r M' => ∃ x, r = some (.int x) ∧ K x M') := by
    intro k best hk hb kk
    have hq := bel_bd (k := k) h0 h1
    refine vX11_softest_5 _ _ _ _ M _ ⟨fun hc => absurd hc (i32_3 hk), fun _ => uX11_below ⟨fun hn x1 e1 => ?_, fun hn => ?_⟩⟩
    · rw [sstep, if_pos (Or.inl hn)] at kk
      rw [e1]; exact kk
    · have hB : 0 ≤ bel c k ∧ bel c k ≤ 191 := by
        rcases hq with hq | hq
        · exact absurd (by rw [hq]; decide) hn
        · exact ⟨Int32.not_lt.mp hn, hq.2.1⟩
      refine uX11_can (by omega) hB.1 hB.2 ⟨fun hcan => ⟨fun hbc x1 e1 => ?_, fun hbc => ?_⟩, fun hcan x1 e1 => ?_⟩
      · rw [b2n] at hcan
        rw [sstep, if_neg (fun q => q.elim hn hcan), if_pos (Or.inl hbc)] at kk
        rw [e1]; exact kk
      · rw [b2n] at hcan
        refine uX11_holdOf (by omega) hB.1 hB.2 (uX11_holdOf (by omega) hb.1 hb.2 ⟨fun hle x1 e1 => ?_, fun hle x1 e1 => ?_⟩)
        · rw [sstep, if_neg (fun q => q.elim hn hcan), if_neg (fun q => q.elim hbc (fun z => Int32.not_le.mpr z hle))] at kk
          rw [e1]; exact kk
        · rw [sstep, if_neg (fun q => q.elim hn hcan), if_pos (Or.inr (Int32.not_le.mp hle))] at kk
          rw [e1]; exact kk
      · rw [b2i_0, Classical.not_not] at hcan
        rw [sstep, if_pos (Or.inr hcan)] at kk
        rw [e1]; exact kk
  have hc0 : 0 ≤ c ∧ c ≤ 191 := ⟨h0, g_le h1⟩
  have b1 := sstep_bd (dt := dtR M) (wt := wtR M) (ln := M 60 0) (wa := wa) (k := 0) h0 h1 hc0
  have b2 := sstep_bd (dt := dtR M) (wt := wtR M) (ln := M 60 0) (wa := wa) (k := 1) h0 h1 b1
  refine S 0 c (Or.inl rfl) hc0 (S (0 + 1) _ (Or.inr (Or.inl (by decide))) b1 (S (0 + 1 + 1) _ (Or.inr (Or.inr (by decide))) b2 ?_))
  exact vX11_softest_5 _ _ _ _ M _ ⟨fun _ => ⟨_, rfl, hK⟩, fun hc => absurd (by decide) hc⟩
theorem uX11_wettest (hh : 3 ≤ h) {c wa : Int32} (h0 : 0 ≤ c) (h1 : c < 180) (hK : K (wettest3 (dtR M) (wtR M) (M 60 0) wa c) M) : CSi w h kX11_wettest [.ref 59, .int c, .int wa] M K := by
  obtain ⟨h, rfl⟩ : ∃ k, h = k + 1 := ⟨h - 1, by omega⟩
  refine csi_of (by decide) (Nat.le_of_ble_eq_true rfl) (vX11_wettest_0 c wa M _ ?_)
  have S : ∀ k best : Int32, (k = 0 ∨ k = 1 ∨ k = 2) → 0 ≤ best ∧ best ≤ 191 → RM w (h + 1) kX11_wettest 5 [(0, .ref 59), (1, .int c), (2, .int wa), (3, .int (wstep (dtR M) (wtR M) (M 60 0) wa c best k)), (4, .int (k + 1))] [] M (fun r M' => ∃ x, r = some (.int x) ∧ K x M') → RM w (h + 1) kX11_wettest 5 [(0, .ref 59), (1, .int c), (2, .int wa), (3, .int best), (4, .int k)] [] M (fun r M' => ∃ x, r = some (.int x) ∧ K x M') := by
    intro k best hk hb kk
    have hq := bel_bd (k := k) h0 h1
    refine vX11_wettest_5 _ _ _ _ M _ ⟨fun hc => absurd hc (i32_3 hk), fun _ => uX11_below ⟨fun hn x1 e1 => ?_, fun hn => ?_⟩⟩
    · rw [wstep, if_pos (Or.inl hn)] at kk
      rw [e1]; exact kk
    · have hB : 0 ≤ bel c k ∧ bel c k ≤ 191 := by
        rcases hq with hq | hq
        · exact absurd (by rw [hq]; decide) hn
        · exact ⟨Int32.not_lt.mp hn, hq.2.1⟩
      refine uX11_can (by omega) hB.1 hB.2 ⟨fun hcan x1 e1 => ?_, fun hcan => uX11_wetOf hB.1 hB.2 ⟨fun hw => ⟨fun hbc x1 e1 => ?_, fun hbc => ?_⟩, fun hw x1 e1 => ?_⟩⟩
      · rw [b2i_0, Classical.not_not] at hcan
        rw [wstep, if_pos (Or.inr (Or.inl hcan))] at kk
        rw [e1]; exact kk
      · rw [b2n] at hcan
        rw [wstep, if_neg (fun q => q.elim hn (fun q => q.elim hcan hw)), if_pos (Or.inl hbc)] at kk
        rw [e1]; exact kk
      · rw [b2n] at hcan
        refine uX11_wetOf hB.1 hB.2 (uX11_wetOf hb.1 hb.2 ⟨fun hle x1 e1 => ?_, fun hle x1 e1 => ?_⟩)
        · rw [wstep, if_neg (fun q => q.elim hn (fun q => q.elim hcan hw)), if_neg (fun q => q.elim hbc (fun z => Int32.not_le.mpr z hle))] at kk
          rw [e1]; exact kk
        · rw [wstep, if_neg (fun q => q.elim hn (fun q => q.elim hcan hw)), if_pos (Or.inr (Int32.not_le.mp hle))] at kk
          rw [e1]; exact kk
      · rw [wstep, if_pos (Or.inr (Or.inr hw))] at kk
        rw [e1]; exact kk
  have hc0 : 0 ≤ c ∧ c ≤ 191 := ⟨h0, g_le h1⟩
  have b1 := wstep_bd (dt := dtR M) (wt := wtR M) (ln := M 60 0) (wa := wa) (k := 0) h0 h1 hc0
  have b2 := wstep_bd (dt := dtR M) (wt := wtR M) (ln := M 60 0) (wa := wa) (k := 1) h0 h1 b1
  refine S 0 c (Or.inl rfl) hc0 (S (0 + 1) _ (Or.inr (Or.inl (by decide))) b1 (S (0 + 1 + 1) _ (Or.inr (Or.inr (by decide))) b2 ?_))
  exact vX11_wettest_5 _ _ _ _ M _ ⟨fun _ => ⟨_, rfl, hK⟩, fun hc => absurd (by decide) hc⟩
theorem uX11_swung (hh : 4 ≤ h) {c wa sp : Int32} (h0 : 0 ≤ c) (h1 : c < 180) (hK : K (swung3 (dtR M) (wtR M) (M 60 0) wa c sp) M) : CSi w h kX11_swung [.ref 59, .int c, .int wa, .int sp] M K := by
  obtain ⟨h, rfl⟩ : ∃ k, h = k + 1 := ⟨h - 1, by omega⟩
  refine csi_of (by decide) (Nat.le_of_ble_eq_true rfl) (vX11_swung_0 c wa sp M _ ?_)
  have hq := bel_bd (k := if sp - sp / 2 * 2 = 0 then 1 else 2) h0 h1
  unfold swung3 at hK
  refine uX11_below ⟨fun hn => ?_, fun hn => ?_⟩
  · rw [if_pos (Or.inl hn)] at hK
    exact uX11_softest (by omega) h0 h1 ⟨_, rfl, hK⟩
  · have hB : 0 ≤ bel c (if sp - sp / 2 * 2 = 0 then 1 else 2) ∧ bel c (if sp - sp / 2 * 2 = 0 then 1 else 2) ≤ 191 := by
      rcases hq with hq | hq
      · exact absurd (by rw [hq]; decide) hn
      · exact ⟨Int32.not_lt.mp hn, hq.2.1⟩
    refine uX11_can (by omega) hB.1 hB.2 ⟨fun hcan => ?_, fun hcan => ⟨_, rfl, ?_⟩⟩
    · rw [b2i_0, Classical.not_not] at hcan
      rw [if_pos (Or.inr hcan)] at hK
      exact uX11_softest (by omega) h0 h1 ⟨_, rfl, hK⟩
    · rw [b2n] at hcan
      rwa [if_neg (fun q => q.elim hn hcan)] at hK
theorem uX11_aside (hh : 3 ≤ h) {c wa : Int32} (h0 : 0 ≤ c) (h1 : c < 180) (hK : K (aside3 (dtR M) (wtR M) (M 60 0) wa c) M) : CSi w h kX11_aside [.ref 59, .int c, .int wa] M K := by
  obtain ⟨h, rfl⟩ : ∃ k, h = k + 1 := ⟨h - 1, by omega⟩
  refine csi_of (by decide) (Nat.le_of_ble_eq_true rfl) (vX11_aside_0 c wa M _ ?_)
  have hq := sideC_bd (c := c) h0 (g_lt h1)
  have core : ∀ x2 : Int32, x2 = sideC c → ((x2 < 0 → ∃ x, some (Value.int c) = some (.int x) ∧ K x M) ∧ (¬ (x2 < 0) → CSi w h kX11_can [.ref 59, .int x2, .int wa] M (fun r1 M1 => ∃ x, some (Value.int (if r1 = 0 then c else x2)) = some (.int x) ∧ K x M1))) := by
    intro x2 e2
    unfold aside3 at hK
    rw [← e2] at hK hq
    refine ⟨fun hn => ⟨_, rfl, ?_⟩, fun hn => ?_⟩
    · rwa [if_pos (Or.inl hn)] at hK
    · have hB : 0 ≤ x2 ∧ x2 ≤ 191 := by
        rcases hq with hq | hq
        · exact absurd (by rw [hq]; decide) hn
        · exact hq
      refine uX11_can (by omega) hB.1 hB.2 ⟨_, rfl, ?_⟩
      by_cases hcan : wa + M 60 0 < hold (dtR M) (wtR M) x2
      · rw [if_pos (Or.inr hcan)] at hK
        rwa [if_pos (b2i_0.mpr (Classical.not_not.mpr hcan))]
      · rw [if_neg (fun q => q.elim hn hcan)] at hK
        rwa [if_neg (by rw [b2n]; exact hcan)]
  intro x1 e1
  have e1' : x1 = md12 c := e1
  refine ⟨fun hp x2 e2 => core x2 ?_, fun hp x2 e2 => core x2 ?_⟩
  · rw [e2]; unfold sideC; rw [← e1', if_neg hp]
  · rw [e2]; unfold sideC; rw [← e1', if_pos hp]
theorem uX11_goesTo (hh : 5 ≤ h) {kd c wa sp : Int32} (h0 : 0 ≤ c) (h1 : c ≤ 191) (hK : K (gt (dtR M) (wtR M) (M 60 0) kd c wa sp) M) : CSi w h kX11_goesTo [.ref 59, .int kd, .int c, .int wa, .int sp] M K := by
  obtain ⟨h, rfl⟩ : ∃ k, h = k + 1 := ⟨h - 1, by omega⟩
  refine csi_of (by decide) (Nat.le_of_ble_eq_true rfl) (vX11_goesTo_0 kd c wa sp M _ ?_)
  unfold gt at hK
  refine ⟨fun hc => ?_, fun hc => ⟨_, rfl, ?_⟩⟩
  · rw [if_neg (fun q => q hc)] at hK
    have h12 : 0 ≤ c + 12 ∧ c + 12 ≤ 191 := g_12b h0 hc
    have T : ∀ wt : Int32, (kd = 7 → wt = wettest3 (dtR M) (wtR M) (M 60 0) wa c) → (¬ kd = 7 → wt = c) → RM w (h + 1) kX11_goesTo 36 [(0, .ref 59), (1, .int kd), (2, .int c), (3, .int wa), (4, .int sp), (5, .int (b2i (¬ (wa + M 60 0 < hold (dtR M) (wtR M) (c + 12)))))] [.int wt] M (fun r M' => ∃ x, r = some (.int x) ∧ K x M') := by
      intro wt e7 e0
      refine vX11_goesTo_36 _ _ _ _ _ _ M _ ⟨fun k2 => ⟨_, rfl, ?_⟩, fun k2 => ⟨fun k3 => ⟨fun hb => ?_, fun hb => ⟨_, rfl, ?_⟩⟩, fun k3 => ⟨fun k4 => ?_, fun k4 => ⟨fun k5 => ⟨fun hm => ?_, fun hm => ?_⟩, fun k5 => ⟨fun k6 => ⟨fun hb => ?_, fun hb => ⟨_, rfl, ?_⟩⟩, fun k6 => ⟨fun hs => ?_, fun hs => ⟨_, rfl, ?_⟩⟩⟩⟩⟩⟩⟩
      · rw [if_pos k2] at hK
        by_cases hcan : wa + M 60 0 < hold (dtR M) (wtR M) (c + 12)
        · rw [if_pos hcan] at hK
          rwa [if_pos (b2i_0.mpr (Classical.not_not.mpr hcan))]
        · rw [if_neg hcan] at hK
          rwa [if_neg (by rw [b2n]; exact hcan)]
      · rw [b2i_0, Classical.not_not] at hb
        rw [if_neg k2, if_pos k3, if_pos hb] at hK
        exact uX11_aside (by omega) h0 hc ⟨_, rfl, hK⟩
      · rw [b2n] at hb
        rwa [if_neg k2, if_pos k3, if_neg hb] at hK
      · rw [if_neg k2, if_neg k3, if_pos k4] at hK
        exact uX11_swung (by omega) h0 hc ⟨_, rfl, hK⟩
      · rw [if_neg k2, if_neg k3, if_neg k4, if_pos k5, if_neg hm] at hK
        exact uX11_swung (by omega) h0 hc ⟨_, rfl, hK⟩
      · rw [if_neg k2, if_neg k3, if_neg k4, if_pos k5, if_pos hm] at hK
        exact uX11_softest (by omega) h0 hc ⟨_, rfl, hK⟩
      · rw [b2i_0, Classical.not_not] at hb
        rw [if_neg k2, if_neg k3, if_neg k4, if_neg k5, if_pos k6, if_pos hb] at hK
        exact uX11_softest (by omega) h0 hc ⟨_, rfl, hK⟩
      · rw [b2n] at hb
        rwa [if_neg k2, if_neg k3, if_neg k4, if_neg k5, if_pos k6, if_neg hb] at hK
      · rw [if_neg k2, if_neg k3, if_neg k4, if_neg k5, if_neg k6] at hK
        refine uX11_softest (by omega) h0 hc ⟨_, rfl, ?_⟩
        by_cases k7 : kd = 7
        · rwa [if_pos k7, if_pos (by rw [← e7 k7]; exact hs)] at hK
        · rwa [if_neg k7] at hK
      · rw [if_neg k2, if_neg k3, if_neg k4, if_neg k5, if_neg k6] at hK
        by_cases k7 : kd = 7
        · rw [if_pos k7, if_neg (by rw [← e7 k7]; exact hs)] at hK
          rwa [e7 k7]
        · exact absurd (e0 k7) hs
    refine uX11_can (by omega) h12.1 h12.2 ⟨fun k7 => T c (fun z => absurd z k7) (fun _ => rfl), fun k7 => uX11_wettest (by omega) h0 hc (T _ (fun _ => rfl) (fun z => absurd k7 z))⟩
  · rwa [if_pos hc] at hK
end RG

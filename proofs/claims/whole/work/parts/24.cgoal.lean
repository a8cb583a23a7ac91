/-! ===== the class: where a drop goes ===== -/
theorem md_12 {c : Int32} (h0 : 0 ≤ c) (h1 : c < 180) : md12 (c + 12) = md12 c := by
  obtain ⟨q, hq, rfl⟩ := nI_of3 (m := 180) (N := 180) rfl h0 h1
  rw [show nI q + 12 = nI (q + 12) from nI_add q 12, md_nI (by omega), md_nI (by omega)]
  congr 1
  omega
def bes (c d : Int32) : Int32 := if md12 c + d < 0 ∨ 12 ≤ md12 c + d then -2 else c + d
theorem g_b1 {m : Int32} (h0 : 0 ≤ m) (h1 : m ≤ 11) : (m + -1 < 0 ∨ 12 ≤ m + -1) ↔ m ≤ 0 := by grind
theorem g_b2 {m : Int32} (h0 : 0 ≤ m) (h1 : m ≤ 11) : (m + 1 < 0 ∨ 12 ≤ m + 1) ↔ 11 ≤ m := by grind
theorem bes_l {c : Int32} (h0 : 0 ≤ c) : bes c (-1) = if md12 c ≤ 0 then -2 else c - 1 := by
  have hm := md12_bd h0
  have e : c + -1 = c - 1 := by grind
  unfold bes
  rw [e]
  by_cases h : md12 c ≤ 0
  · rw [if_pos h, if_pos ((g_b1 hm.1 hm.2).mpr h)]
  · rw [if_neg h, if_neg (fun q => h ((g_b1 hm.1 hm.2).mp q))]
theorem bes_r {c : Int32} (h0 : 0 ≤ c) : bes c 1 = if 11 ≤ md12 c then -2 else c + 1 := by
  have hm := md12_bd h0
  unfold bes
  by_cases h : 11 ≤ md12 c
  · rw [if_pos h, if_pos ((g_b2 hm.1 hm.2).mpr h)]
  · rw [if_neg h, if_neg (fun q => h ((g_b2 hm.1 hm.2).mp q))]
/-- below, as the class says it: -2 where there is none -/
def belC (c k : Int32) : Int32 := if bel c k < 0 then -2 else bel c k
theorem g_nn {x : Int32} (h : 12 ≤ x) : ¬ x < 0 := by grind
theorem belC_0 {c : Int32} (h0 : 0 ≤ c) (h1 : c < 180) : c + 12 = belC c 0 := by
  unfold belC bel
  rw [if_pos rfl, if_neg (g_nn (g_12 h0 h1).1)]
theorem belC_1 {c : Int32} (h0 : 0 ≤ c) (h1 : c < 180) : bes (c + 12) (-1) = belC c 1 := by
  rw [bes_l (g_12b h0 h1).1, md_12 h0 h1]
  have e : bel c 1 = if md12 c ≤ 0 then -1 else c + 12 - 1 := by unfold bel; rw [if_neg (show ¬ (1 : Int32) = 0 by decide), if_pos rfl]
  unfold belC
  by_cases h : md12 c ≤ 0
  · rw [if_pos h] at e ⊢
    rw [e, if_pos (by decide)]
  · rw [if_neg h] at e ⊢
    obtain ⟨q, hq, rfl⟩ := nI_of3 (m := 180) (N := 180) rfl h0 h1
    rw [e, if_neg (g_nn (g_11 (md_pos h (by omega)) h1).1)]
theorem belC_2 {c k : Int32} (h0 : 0 ≤ c) (h1 : c < 180) (k0 : ¬ k = 0) (k1 : ¬ k = 1) : bes (c + 12) 1 = belC c k := by
  rw [bes_r (g_12b h0 h1).1, md_12 h0 h1]
  have hb := bel_bd (k := k) h0 h1
  unfold belC
  have e : bel c k = if 11 ≤ md12 c then -1 else c + 12 + 1 := by unfold bel; rw [if_neg k0, if_neg k1]
  by_cases h : 11 ≤ md12 c
  · rw [if_pos h] at e ⊢
    rw [e, if_pos (by decide)]
  · rw [if_neg h] at e ⊢
    rcases hb with hb | hb
    · exfalso
      have hm := md12_bd h0
      rw [e] at hb
      exact absurd hb (by clear hb e hm; grind)
    · rw [if_neg (g_nn hb.1), e]
theorem hold_alt {x : Int32} : (if x ≤ 0 then 0 else x) = (if 0 ≤ x then x else 0) := by grind
theorem mput_self {M : Mem} {k : Nat} : mput M k (M k) = M := by funext q; by_cases hq : q = k <;> simp [mput, hq]
theorem mput_mput {M : Mem} {k : Nat} {f g : Nat → Int32} : mput (mput M k f) k g = mput M k g := by funext q; by_cases hq : q = k <;> simp [mput, hq]
theorem mset_mput {M : Mem} {k j : Nat} {f : Nat → Int32} {x : Int32} : mset (mput M k f) k j x = mput M k (upd f j x) := by funext q; by_cases hq : q = k <;> simp [mset, mput, hq]
/-- a pane's cells hold these numbers -/
def pnI (M : Mem) (P : Nat) (dt wt : Int32 → Int32) (ln : Int32) : Prop := (∀ c : Int32, 0 ≤ c → c ≤ 191 → M (P + 1) c.toNatClampNeg = dt c) ∧ (∀ c : Int32, 0 ≤ c → c ≤ 191 → M (P + 2) c.toNatClampNeg = wt c ∧ 0 ≤ wt c) ∧ M P 2 = ln
theorem pnI.put {M : Mem} {P : Nat} {dt wt : Int32 → Int32} {ln : Int32} (h : pnI M P dt wt ln) (f : Nat → Int32) : pnI (mput M (P + 3) f) P dt wt ln := by
  refine ⟨fun c h0 h1 => ?_, fun c h0 h1 => ?_, ?_⟩
  · rw [mput_ne (by omega)]; exact h.1 c h0 h1
  · rw [mput_ne (by omega)]; exact h.2.1 c h0 h1
  · rw [mput_ne (by omega)]; exact h.2.2
theorem i192 {x : Int32} (h0 : 0 ≤ x) (h1 : x ≤ 191) : vp_in x 192 := inL 192 rfl h0 (by grind)
section CG
variable {w : Wd} {h : Nat} {M : Mem} {K : Int32 → Mem → Prop} {Kv : Mem → Prop} {P : Nat} {dt wt : Int32 → Int32} {ln : Int32}
theorem uX1_tell (i : Nat) (hi : i < 7) {a : Int32} (ha : a = nI i) (hK : K (-1000001 - a) (mset M 2 i (M 2 i + 1))) : CSi w h kX1_tell [.ref 1, .int a] M K := by
  refine csi_of (by decide) (Nat.le_of_ble_eq_true rfl) (vX1_tell_0 a M _ ?_)
  have e : a.toNatClampNeg = i := by rw [ha, nI_clamp (by omega)]
  rw [e]
  have hv : vp_in a 7 := by rw [ha]; exact vp_in_nI hi (by decide)
  exact ⟨hv, hv, fun M1 e => ⟨_, rfl, by rw [e]; exact hK⟩⟩
theorem uX2_holdOf (hP : isPane P) (hp : pnI M P dt wt ln) {c : Int32} (h0 : 0 ≤ c) (h1 : c ≤ 191) (hK : K (hold dt wt c) M) : CSi w h kX2_holdOf [.ref P, .int c] M K := by
  refine csi_of (by decide) (Nat.le_of_ble_eq_true rfl) (vX2_holdOf_0 P c hP M _ ?_)
  rw [hp.1 c h0 h1, (hp.2.1 c h0 h1).1]
  refine ⟨i192 h0 h1, i192 h0 h1, fun x1 e1 => ⟨_, rfl, ?_⟩⟩
  rw [hold_alt, e1]
  exact hK
theorem uX10_besideOf {c d : Int32} (hK : K (bes c d) M) : CSi w h kX10_besideOf [.int c, .int d] M K := by
  refine csi_of (by decide) (Nat.le_of_ble_eq_true rfl) (vX10_besideOf_0 c d M _ ?_)
  intro x1 e1
  subst e1
  unfold bes md12 at hK
  refine ⟨fun hn => ⟨_, rfl, ?_⟩, fun hn => ⟨_, rfl, ?_⟩⟩
  · rwa [if_pos (Or.inl hn)] at hK
  · by_cases h12 : 12 ≤ (c - c / 12 * 12) + d
    · rw [if_pos h12]; rwa [if_pos (Or.inr h12)] at hK
    · rw [if_neg h12]; rwa [if_neg (fun q => q.elim hn h12)] at hK
theorem uX10_belowOf (hh : 1 ≤ h) {c k : Int32} (h0 : 0 ≤ c) (h1 : c < 180) (hK : K (belC c k) M) : CSi w h kX10_belowOf [.int c, .int k] M K := by
  obtain ⟨h, rfl⟩ : ∃ k, h = k + 1 := ⟨h - 1, by omega⟩
  refine csi_of (by decide) (Nat.le_of_ble_eq_true rfl) (vX10_belowOf_0 c k M _ ?_)
  intro x1 e1
  subst e1
  refine ⟨fun k0 => ⟨_, rfl, ?_⟩, fun k0 => ⟨fun k1 => uX10_besideOf ⟨_, rfl, ?_⟩, fun k1 => uX10_besideOf ⟨_, rfl, ?_⟩⟩⟩
  · rw [k0, ← belC_0 h0 h1] at hK; exact hK
  · rw [k1, ← belC_1 h0 h1] at hK; exact hK
  · rw [← belC_2 h0 h1 k0 k1] at hK; exact hK
/-- what lookDown writes -/
def rch (dt wt : Int32 → Int32) (c pu k : Int32) : Int32 := if bel c k < 0 ∨ pu < hold dt wt (bel c k) then -2 else bel c k
theorem uX2_lookDown (hh : 2 ≤ h) (hP : isPane P) (hp : pnI M P dt wt ln) {c pu : Int32} (h0 : 0 ≤ c) (h1 : c < 180) (hK : ∀ f : Nat → Int32, f 0 = rch dt wt c pu 0 → f 1 = rch dt wt c pu 1 → f 2 = rch dt wt c pu 2 → Kv (mput M (P + 3) f)) : CSv w h kX2_lookDown [.ref P, .int c, .int pu] M Kv := by
  obtain ⟨h, rfl⟩ : ∃ k, h = k + 1 := ⟨h - 1, by omega⟩
  refine csv_of (by decide) (Nat.le_of_ble_eq_true rfl) (vX2_lookDown_0 P c pu hP M _ ?_)
  have S : ∀ (k : Int32) (f : Nat → Int32), (k = 0 ∨ k = 1 ∨ k = 2) → RM w (h + 1) kX2_lookDown 2 [(0, .ref P), (1, .int c), (2, .int pu), (3, .int (k + 1))] [] (mput M (P + 3) (upd f k.toNatClampNeg (rch dt wt c pu k))) (fun r M' => r = none ∧ Kv M') → RM w (h + 1) kX2_lookDown 2 [(0, .ref P), (1, .int c), (2, .int pu), (3, .int k)] [] (mput M (P + 3) f) (fun r M' => r = none ∧ Kv M') := by
    intro k f hk kk
    have hp' := hp.put f
    have hin : vp_in k 3 := by rcases hk with rfl | rfl | rfl <;> exact inL 3 rfl (by decide) (by decide)
    have hq := bel_bd (k := k) h0 h1
    refine vX2_lookDown_2 P _ _ _ hP _ _ ⟨fun hc => absurd hc (i32_3 hk), fun _ => uX10_belowOf (by omega) h0 h1 ⟨fun hn => ?_, fun hn => ?_⟩⟩
    · refine ⟨hin, fun M2 e2 x1 e1 => ?_⟩
      have hlt : bel c k < 0 := by
        unfold belC at hn
        by_cases z : bel c k < 0
        · exact z
        · rw [if_neg z] at hn; rw [hn]; decide
      rw [rch, if_pos (Or.inl hlt)] at kk
      rw [e1, e2, mset_mput]
      exact kk
    · have hlt : ¬ bel c k < 0 := by
        unfold belC at hn
        by_cases z : bel c k < 0
        · rw [if_pos z] at hn; exact absurd rfl hn
        · exact z
      have eC : belC c k = bel c k := by unfold belC; rw [if_neg hlt]
      have hB : 0 ≤ bel c k ∧ bel c k ≤ 191 := by
        rcases hq with hq | hq
        · exact absurd (by rw [hq]; decide) hlt
        · exact ⟨Int32.not_lt.mp hlt, hq.2.1⟩
      rw [eC]
      refine uX2_holdOf hP hp' hB.1 hB.2 ⟨hin, fun M2 e2 x1 e1 => ?_⟩
      rw [e1, e2, mset_mput]
      have er : rch dt wt c pu k = (if pu < hold dt wt (bel c k) then (-2) else bel c k) := by
        unfold rch
        by_cases z : pu < hold dt wt (bel c k)
        · rw [if_pos (Or.inr z), if_pos z]
        · rw [if_neg (fun q => q.elim hlt z), if_neg z]
      rw [er] at kk
      exact kk
  have e0 : M = mput M (P + 3) (M (P + 3)) := mput_self.symm
  have g := S 0 (M (P + 3)) (Or.inl rfl) (S (0 + 1) _ (Or.inr (Or.inl (by decide))) (S (0 + 1 + 1) _ (Or.inr (Or.inr (by decide))) (vX2_lookDown_2 P _ _ _ hP _ _ ⟨fun _ => ⟨rfl, hK _ ?_ ?_ ?_⟩, fun hc => absurd (by decide) hc⟩)))
  · rw [← e0] at g; exact g
  · rfl
  · rfl
  · rfl
theorem uX2_swing (hP : isPane P) {sp : Int32} (hK : K (M (P + 3) (if sp - sp / 2 * 2 = 0 then 1 else 2)) M) : CSi w h kX2_swing [.ref P, .int sp] M K := by
  refine csi_of (by decide) (Nat.le_of_ble_eq_true rfl) (vX2_swing_0 P sp hP M _ ?_)
  refine ⟨fun hn => ⟨inL 3 rfl (by decide) (by decide), _, rfl, ?_⟩, fun hn => ⟨inL 3 rfl (by decide) (by decide), _, rfl, ?_⟩⟩
  · rw [if_neg hn] at hK; exact hK
  · rw [if_pos hn] at hK; exact hK
def m2 (c x : Int32) : Int32 := if x = c then -2 else x
theorem g_ne2 {x : Int32} (h : 0 ≤ x) : ¬ x = -2 := by grind
theorem uX2_softest (hh : 1 ≤ h) (hP : isPane P) (hp : pnI M P dt wt ln) {c pu wa : Int32} (hpu : pu = wa + ln) (h0 : 0 ≤ c) (h1 : c < 180) (r0 : M (P + 3) 0 = rch dt wt c pu 0) (r1 : M (P + 3) 1 = rch dt wt c pu 1) (r2 : M (P + 3) 2 = rch dt wt c pu 2) (hK : K (m2 c (softest3 dt wt ln wa c)) M) : CSi w h kX2_softest [.ref P] M K := by
  obtain ⟨h, rfl⟩ : ∃ k, h = k + 1 := ⟨h - 1, by omega⟩
  refine csi_of (by decide) (Nat.le_of_ble_eq_true rfl) (vX2_softest_0 P hP M _ ?_)
  have S : ∀ (k best lh : Int32), (k = 0 ∨ k = 1 ∨ k = 2) → 0 ≤ best ∧ best ≤ 191 → (¬ best = c → lh = hold dt wt best) → (∀ lh', (¬ sstep dt wt ln wa c best k = c → lh' = hold dt wt (sstep dt wt ln wa c best k)) → RM w (h + 1) kX2_softest 17 [(0, .ref P), (1, .int (m2 c (sstep dt wt ln wa c best k))), (2, .int lh'), (3, .ref (P + 3)), (4, .int 3), (5, .int (k + 1))] [] M (fun r M' => ∃ x, r = some (.int x) ∧ K x M')) → RM w (h + 1) kX2_softest 17 [(0, .ref P), (1, .int (m2 c best)), (2, .int lh), (3, .ref (P + 3)), (4, .int 3), (5, .int k)] [] M (fun r M' => ∃ x, r = some (.int x) ∧ K x M') := by
    intro k best lh hk hb hlh kk
    have hin : vp_in k 3 := by rcases hk with rfl | rfl | rfl <;> exact inL 3 rfl (by decide) (by decide)
    have hr : M (P + 3) k.toNatClampNeg = rch dt wt c pu k := by rcases hk with rfl | rfl | rfl; exact r0; exact r1; exact r2
    have hq := bel_bd (k := k) h0 h1
    refine vX2_softest_17 P _ _ _ _ hP M _ ⟨fun hc => absurd hc (i32_3 hk), fun _ => ⟨hin, fun x1 e1 => ?_⟩⟩
    rw [hr, rch, hpu] at e1
    by_cases hz : bel c k < 0 ∨ wa + ln < hold dt wt (bel c k)
    · rw [if_pos hz] at e1
      have es : sstep dt wt ln wa c best k = best := by unfold sstep; rw [if_pos hz]
      rw [es] at kk
      exact ⟨fun _ x2 e2 => by rw [e2]; exact kk lh hlh, fun hn => absurd e1 hn⟩
    · rw [if_neg hz] at e1
      have hB : 0 ≤ bel c k ∧ bel c k ≤ 191 ∧ c < bel c k := by
        rcases hq with hq | hq
        · exact absurd (Or.inl (by rw [hq]; decide)) hz
        · exact ⟨Int32.not_lt.mp (fun q => hz (Or.inl q)), hq.2.1, hq.2.2⟩
      have hne : ¬ bel c k = c := fun q => by rw [q] at hB; exact absurd hB.2.2 (Int32.lt_irrefl)
      refine ⟨fun hn => absurd hn (by rw [e1]; exact g_ne2 hB.1), fun hn => ?_⟩
      rw [e1]
      refine ⟨fun hb2 => uX2_holdOf hP hp hB.1 hB.2.1 (fun x2 e2 => ?_), fun hb2 => uX2_holdOf hP hp hB.1 hB.2.1 ⟨fun hle x2 e2 => ?_, fun hle => uX2_holdOf hP hp hB.1 hB.2.1 (fun x2 e2 => ?_)⟩⟩
      · have hbc : best = c := by
          unfold m2 at hb2
          by_cases z : best = c
          · exact z
          · rw [if_neg z] at hb2; exact absurd hb2 (g_ne2 hb.1)
        have es : sstep dt wt ln wa c best k = bel c k := by unfold sstep; rw [if_neg hz, if_pos (Or.inl hbc)]
        rw [es] at kk
        have e3 : m2 c (bel c k) = bel c k := by unfold m2; rw [if_neg hne]
        rw [e3] at kk
        rw [e2]; exact kk _ (fun _ => rfl)
      · have hbc : ¬ best = c := fun z => hb2 (by unfold m2; rw [if_pos z])
        have es : sstep dt wt ln wa c best k = best := by unfold sstep; rw [if_neg hz, if_neg (fun q => q.elim hbc (fun z => Int32.not_le.mpr z (by rw [hlh hbc] at hle; exact hle)))]
        rw [es] at kk
        rw [e2]; exact kk lh hlh
      · have hbc : ¬ best = c := fun z => hb2 (by unfold m2; rw [if_pos z])
        have es : sstep dt wt ln wa c best k = bel c k := by unfold sstep; rw [if_neg hz, if_pos (Or.inr (by rw [hlh hbc] at hle; exact Int32.not_le.mp hle))]
        rw [es] at kk
        have e3 : m2 c (bel c k) = bel c k := by unfold m2; rw [if_neg hne]
        rw [e3] at kk
        rw [e2]; exact kk _ (fun _ => rfl)
  have hc0 : 0 ≤ c ∧ c ≤ 191 := ⟨h0, g_le h1⟩
  have b1 := sstep_bd (dt := dt) (wt := wt) (ln := ln) (wa := wa) (k := 0) h0 h1 hc0
  have b2 := sstep_bd (dt := dt) (wt := wt) (ln := ln) (wa := wa) (k := 0 + 1) h0 h1 b1
  have em : m2 c c = -2 := by unfold m2; rw [if_pos rfl]
  have g := S 0 c 0 (Or.inl rfl) hc0 (fun q => absurd rfl q) (fun l1 e1 => S (0 + 1) _ l1 (Or.inr (Or.inl (by decide))) b1 e1 (fun l2 e2 => S (0 + 1 + 1) _ l2 (Or.inr (Or.inr (by decide))) b2 e2 (fun l3 _ => vX2_softest_17 P _ _ _ _ hP M _ ⟨fun _ => ⟨_, rfl, hK⟩, fun hc => absurd (by decide) hc⟩)))
  rw [em] at g
  exact g
theorem g_nle {x y : Int32} (h0 : 0 ≤ x) (h : ¬ x = 0) : ¬ x ≤ 0 := by grind
theorem uX2_wettest (hP : isPane P) (hp : pnI M P dt wt ln) {c pu wa : Int32} (hpu : pu = wa + ln) (h0 : 0 ≤ c) (h1 : c < 180) (r0 : M (P + 3) 0 = rch dt wt c pu 0) (r1 : M (P + 3) 1 = rch dt wt c pu 1) (r2 : M (P + 3) 2 = rch dt wt c pu 2) (hK : K (m2 c (wettest3 dt wt ln wa c)) M) : CSi w h kX2_wettest [.ref P] M K := by
  refine csi_of (by decide) (Nat.le_of_ble_eq_true rfl) (vX2_wettest_0 P hP M _ ?_)
  have S : ∀ (k best lh : Int32), (k = 0 ∨ k = 1 ∨ k = 2) → 0 ≤ best ∧ best ≤ 191 → (lh = if best = c then 0 else wt best) → (∀ lh', (lh' = if wstep dt wt ln wa c best k = c then 0 else wt (wstep dt wt ln wa c best k)) → RM w h kX2_wettest 17 [(0, .ref P), (1, .int (m2 c (wstep dt wt ln wa c best k))), (2, .int lh'), (3, .ref (P + 3)), (4, .int 3), (5, .int (k + 1))] [] M (fun r M' => ∃ x, r = some (.int x) ∧ K x M')) → RM w h kX2_wettest 17 [(0, .ref P), (1, .int (m2 c best)), (2, .int lh), (3, .ref (P + 3)), (4, .int 3), (5, .int k)] [] M (fun r M' => ∃ x, r = some (.int x) ∧ K x M') := by
    intro k best lh hk hb hlh kk
    have hin : vp_in k 3 := by rcases hk with rfl | rfl | rfl <;> exact inL 3 rfl (by decide) (by decide)
    have hr : M (P + 3) k.toNatClampNeg = rch dt wt c pu k := by rcases hk with rfl | rfl | rfl; exact r0; exact r1; exact r2
    have hq := bel_bd (k := k) h0 h1
    refine vX2_wettest_17 P _ _ _ _ hP M _ ⟨fun hc => absurd hc (i32_3 hk), fun _ => ⟨hin, fun x1 e1 => ?_⟩⟩
    rw [hr, rch, hpu] at e1
    by_cases hz : bel c k < 0 ∨ wa + ln < hold dt wt (bel c k)
    · rw [if_pos hz] at e1
      have es : wstep dt wt ln wa c best k = best := by unfold wstep; rw [if_pos (hz.elim Or.inl (fun q => Or.inr (Or.inl q)))]
      rw [es] at kk
      exact ⟨fun _ x2 e2 => by rw [e2]; exact kk lh hlh, fun hn => absurd e1 hn⟩
    · rw [if_neg hz] at e1
      have hB : 0 ≤ bel c k ∧ bel c k ≤ 191 ∧ c < bel c k := by
        rcases hq with hq | hq
        · exact absurd (Or.inl (by rw [hq]; decide)) hz
        · exact ⟨Int32.not_lt.mp (fun q => hz (Or.inl q)), hq.2.1, hq.2.2⟩
      have hne : ¬ bel c k = c := fun q => by rw [q] at hB; exact absurd hB.2.2 (Int32.lt_irrefl)
      have hw := hp.2.1 (bel c k) hB.1 hB.2.1
      have hwb := hp.2.1 best hb.1 hb.2
      refine ⟨fun hn => absurd hn (by rw [e1]; exact g_ne2 hB.1), fun hn => ?_⟩
      rw [e1, hw.1]
      refine ⟨i192 hB.1 hB.2.1, fun hle x2 e2 => ?_, fun hle => ⟨i192 hB.1 hB.2.1, fun x2 e2 x3 e3 => ?_⟩⟩
      · have es : wstep dt wt ln wa c best k = best := by
          unfold wstep
          by_cases z : wt (bel c k) = 0
          · rw [if_pos (Or.inr (Or.inr z))]
          · rw [if_neg (fun q => q.elim (fun q => hz (Or.inl q)) (fun q => q.elim (fun q => hz (Or.inr q)) z))]
            by_cases zb : best = c
            · rw [hlh, if_pos zb] at hle
              exact absurd hle (g_nle (y := 0) hw.2 z)
            · rw [hlh, if_neg zb] at hle
              rw [if_neg (fun q => q.elim zb (fun q => Int32.not_le.mpr q hle))]
        rw [es] at kk
        rw [e2]; exact kk lh hlh
      · have hnz : ¬ wt (bel c k) = 0 := by
          intro z
          rw [z, hlh] at hle
          by_cases zb : best = c
          · rw [if_pos zb] at hle; exact hle (by decide)
          · rw [if_neg zb] at hle; exact hle hwb.2
        have es : wstep dt wt ln wa c best k = bel c k := by
          unfold wstep
          rw [if_neg (fun q => q.elim (fun q => hz (Or.inl q)) (fun q => q.elim (fun q => hz (Or.inr q)) hnz))]
          by_cases zb : best = c
          · rw [if_pos (Or.inl zb)]
          · rw [hlh, if_neg zb] at hle
            rw [if_pos (Or.inr (Int32.not_le.mp hle))]
        rw [es] at kk
        have e4 : m2 c (bel c k) = bel c k := by unfold m2; rw [if_neg hne]
        rw [e4] at kk
        rw [e3]; exact kk x2 (by rw [e2, if_neg hne])
  have hc0 : 0 ≤ c ∧ c ≤ 191 := ⟨h0, g_le h1⟩
  have b1 := wstep_bd (dt := dt) (wt := wt) (ln := ln) (wa := wa) (k := 0) h0 h1 hc0
  have b2 := wstep_bd (dt := dt) (wt := wt) (ln := ln) (wa := wa) (k := 0 + 1) h0 h1 b1
  have em : m2 c c = -2 := by unfold m2; rw [if_pos rfl]
  have g := S 0 c 0 (Or.inl rfl) hc0 (by rw [if_pos rfl]) (fun l1 e1 => S (0 + 1) _ l1 (Or.inr (Or.inl (by decide))) b1 e1 (fun l2 e2 => S (0 + 1 + 1) _ l2 (Or.inr (Or.inr (by decide))) b2 e2 (fun l3 _ => vX2_wettest_17 P _ _ _ _ hP M _ ⟨fun _ => ⟨_, rfl, hK⟩, fun hc => absurd (by decide) hc⟩)))
  rw [em] at g
  exact g
theorem sw_n (sp : Int32) : (if sp - sp / 2 * 2 = 0 then (1 : Nat) else 2) = (if sp - sp / 2 * 2 = 0 then (1 : Int32) else 2).toNatClampNeg := by
  by_cases h : sp - sp / 2 * 2 = 0
  · rw [if_pos h, if_pos h]; rfl
  · rw [if_neg h, if_neg h]; rfl
theorem uX2_ownChoice (hh : 1 ≤ h) (hP : isPane P) (hp : pnI M P dt wt ln) {c pu wa kd sp : Int32} (hpu : pu = wa + ln) (h0 : 0 ≤ c) (h1 : c < 180) (r0 : M (P + 3) 0 = rch dt wt c pu 0) (r1 : M (P + 3) 1 = rch dt wt c pu 1) (r2 : M (P + 3) 2 = rch dt wt c pu 2)
    (hK : K (if kd = 2 ∨ kd = 3 ∨ kd = 6 then rch dt wt c pu 0 else if kd = 4 then rch dt wt c pu (if sp - sp / 2 * 2 = 0 then 1 else 2) else if kd = 5 then (if sp - sp / 3 * 3 = 2 then -2 else rch dt wt c pu (if sp - sp / 2 * 2 = 0 then 1 else 2)) else if kd = 7 then m2 c (wettest3 dt wt ln wa c) else -2) M) : CSi w h kX2_ownChoice [.ref P, .int kd, .int sp] M K := by
  obtain ⟨h, rfl⟩ : ∃ k, h = k + 1 := ⟨h - 1, by omega⟩
  refine csi_of (by decide) (Nat.le_of_ble_eq_true rfl) (vX2_ownChoice_0 P kd sp hP M _ ?_)
  have hz : vp_in 0 3 := inL 3 rfl (by decide) (by decide)
  have e0 : M (P + 3) (0 : Int32).toNatClampNeg = rch dt wt c pu 0 := r0
  have esw : M (P + 3) (if sp - sp / 2 * 2 = 0 then 1 else 2) = rch dt wt c pu (if sp - sp / 2 * 2 = 0 then 1 else 2) := by
    by_cases z : sp - sp / 2 * 2 = 0
    · rw [if_pos z, if_pos z]; exact r1
    · rw [if_neg z, if_neg z]; exact r2
  refine ⟨fun k2 => ⟨hz, _, rfl, ?_⟩, fun k2 => ⟨fun k3 => ⟨hz, _, rfl, ?_⟩, fun k3 => ⟨fun k4 => uX2_swing hP ⟨_, rfl, ?_⟩, fun k4 => ⟨fun k5 => ⟨fun hm => uX2_swing hP ⟨_, rfl, ?_⟩, fun hm => ⟨_, rfl, ?_⟩⟩, fun k5 => ⟨fun k6 => ⟨hz, _, rfl, ?_⟩, fun k6 => ⟨fun k7 => uX2_wettest hP hp hpu h0 h1 r0 r1 r2 ⟨_, rfl, ?_⟩, fun k7 => ⟨_, rfl, ?_⟩⟩⟩⟩⟩⟩⟩
  · rw [if_pos (Or.inl k2)] at hK; rw [e0]; exact hK
  · rw [if_pos (Or.inr (Or.inl k3))] at hK; rw [e0]; exact hK
  · rw [if_neg (fun q => q.elim k2 (fun q => q.elim k3 (fun q => absurd (k4.symm.trans q) (by decide)))), if_pos k4] at hK; rw [esw]; exact hK
  · rw [if_neg (fun q => q.elim k2 (fun q => q.elim k3 (fun q => absurd (k5.symm.trans q) (by decide)))), if_neg k4, if_pos k5, if_neg hm] at hK; rw [esw]; exact hK
  · rw [if_neg (fun q => q.elim k2 (fun q => q.elim k3 (fun q => absurd (k5.symm.trans q) (by decide)))), if_neg k4, if_pos k5, if_pos hm] at hK; exact hK
  · rw [if_pos (Or.inr (Or.inr k6))] at hK; rw [e0]; exact hK
  · rw [if_neg (fun q => q.elim k2 (fun q => q.elim k3 k6)), if_neg k4, if_neg k5, if_pos k7] at hK; exact hK
  · rw [if_neg (fun q => q.elim k2 (fun q => q.elim k3 k6)), if_neg k4, if_neg k5, if_neg k7] at hK; exact hK
def sideC2 (c : Int32) : Int32 := if sideC c < 0 then -2 else sideC c
theorem bes_side {c : Int32} (h0 : 0 ≤ c) (h1 : c < 192) : bes c (if md12 c - md12 c / 2 * 2 = 0 then -1 else 1) = sideC2 c := by
  have hb := sideC_bd h0 h1
  unfold sideC2
  have e : sideC c = if md12 c - md12 c / 2 * 2 = 0 then (if md12 c ≤ 0 then -1 else c - 1) else (if 11 ≤ md12 c then -1 else c + 1) := rfl
  by_cases hz : md12 c - md12 c / 2 * 2 = 0
  · rw [if_pos hz] at e ⊢
    rw [bes_l h0]
    by_cases hm : md12 c ≤ 0
    · rw [if_pos hm] at e ⊢; rw [e, if_pos (by decide)]
    · rw [if_neg hm] at e ⊢
      rcases hb with hb | hb
      · exfalso
        obtain ⟨q, hq, rfl⟩ := nI_of3 (m := 192) (N := 192) rfl h0 h1
        have := g_m1 (md_pos hm (by omega)) h1
        rw [e] at hb; rw [hb] at this; exact absurd this.1 (by decide)
      · rw [if_neg (Int32.not_lt.mpr hb.1), e]
  · rw [if_neg hz] at e ⊢
    rw [bes_r h0]
    by_cases hm : 11 ≤ md12 c
    · rw [if_pos hm] at e ⊢; rw [e, if_pos (by decide)]
    · rw [if_neg hm] at e ⊢
      rcases hb with hb | hb
      · exfalso
        rw [e] at hb
        exact absurd hb (by clear hb e hm hz h1; grind)
      · rw [if_neg (Int32.not_lt.mpr hb.1), e]
theorem uX2_sideways (hh : 1 ≤ h) (hP : isPane P) (hp : pnI M P dt wt ln) {c pu wa : Int32} (hpu : pu = wa + ln) (h0 : 0 ≤ c) (h1 : c < 180) (hK : K (m2 c (aside3 dt wt ln wa c)) M) : CSi w h kX2_sideways [.ref P, .int c, .int pu] M K := by
  obtain ⟨h, rfl⟩ : ∃ k, h = k + 1 := ⟨h - 1, by omega⟩
  refine csi_of (by decide) (Nat.le_of_ble_eq_true rfl) (vX2_sideways_0 P c pu hP M _ ?_)
  have hq := sideC_bd (c := c) h0 (g_lt h1)
  have hsc : ¬ sideC c = c := by
    unfold sideC
    intro e
    by_cases hz : md12 c - md12 c / 2 * 2 = 0
    · rw [if_pos hz] at e
      by_cases hm : md12 c ≤ 0
      · rw [if_pos hm] at e; rw [← e] at h0; exact absurd h0 (by decide)
      · rw [if_neg hm] at e; exact absurd e (by clear e hm hz hK hq hpu hp; grind)
    · rw [if_neg hz] at e
      by_cases hm : 11 ≤ md12 c
      · rw [if_pos hm] at e; rw [← e] at h0; exact absurd h0 (by decide)
      · rw [if_neg hm] at e; exact absurd e (by clear e hm hz hK hq hpu hp; grind)
  refine uX10_besideOf ?_
  have eb := bes_side h0 (g_lt h1)
  unfold md12 at eb
  rw [eb]
  unfold aside3 at hK
  unfold sideC2
  by_cases hn : sideC c < 0
  · rw [if_pos hn]
    refine ⟨fun _ => ⟨_, rfl, ?_⟩, fun q => absurd rfl q⟩
    rw [if_pos (Or.inl hn)] at hK
    unfold m2 at hK
    rwa [if_pos rfl] at hK
  · rw [if_neg hn]
    have hB : 0 ≤ sideC c ∧ sideC c ≤ 191 := by
      rcases hq with hq | hq
      · exact absurd (by rw [hq]; decide) hn
      · exact hq
    refine ⟨fun q => absurd q (g_ne2 hB.1), fun _ => uX2_holdOf hP hp hB.1 hB.2 ⟨_, rfl, ?_⟩⟩
    rw [hpu]
    by_cases hz : wa + ln < hold dt wt (sideC c)
    · rw [if_pos (Or.inr hz)] at hK
      unfold m2 at hK
      rw [if_pos rfl] at hK
      rwa [if_pos hz]
    · rw [if_neg (fun q => q.elim hn hz)] at hK
      unfold m2 at hK
      rw [if_neg hsc] at hK
      rwa [if_neg hz]
theorem m2_back {c x : Int32} (h : 0 ≤ x) : (if m2 c x = -2 then c else m2 c x) = x := by
  unfold m2
  by_cases z : x = c
  · rw [if_pos z, if_pos rfl, z]
  · rw [if_neg z, if_neg (g_ne2 h)]
theorem aside3_bd {wa c : Int32} (h0 : 0 ≤ c) (h1 : c < 180) : 0 ≤ aside3 dt wt ln wa c := by
  unfold aside3
  have hq := sideC_bd (c := c) h0 (g_lt h1)
  split
  · exact h0
  · rename_i hn
    rcases hq with hq | hq
    · exact absurd (Or.inl (by rw [hq]; decide)) hn
    · exact hq.1
theorem uX2_goal (hh : 3 ≤ h) (hP : isPane P) (hp : pnI M P dt wt ln) {c wa kd sp : Int32} (h0 : 0 ≤ c) (h1 : c ≤ 191) (hK : ∀ f : Nat → Int32, K (gt dt wt ln kd c wa sp) (mput M (P + 3) f)) : CSi w h kX2_goal [.ref P, .int kd, .int c, .int wa, .int sp] M K := by
  obtain ⟨h, rfl⟩ : ∃ k, h = k + 1 := ⟨h - 1, by omega⟩
  refine csi_of (by decide) (Nat.le_of_ble_eq_true rfl) (vX2_goal_0 P kd c wa sp hP M _ ?_)
  refine ⟨fun hc => ?_, fun hc => ⟨_, rfl, ?_⟩⟩
  rotate_left
  · have g := hK (M (P + 3))
    rw [mput_self] at g
    unfold gt at g
    rwa [if_pos (Int32.not_lt.mpr hc)] at g
  have hc' : c < 180 := Int32.not_le.mp hc
  intro x1 e1
  rw [hp.2.2] at e1
  refine uX2_lookDown (by omega) hP hp h0 hc' (fun f f0 f1 f2 => ?_)
  have hp2 := hp.put f
  have q0 : mput M (P + 3) f (P + 3) 0 = rch dt wt c x1 0 := by rw [mput_eq]; exact f0
  have q1 : mput M (P + 3) f (P + 3) 1 = rch dt wt c x1 1 := by rw [mput_eq]; exact f1
  have q2 : mput M (P + 3) f (P + 3) 2 = rch dt wt c x1 2 := by rw [mput_eq]; exact f2
  have hKf := hK f
  unfold gt at hKf
  rw [if_neg (fun q => q hc')] at hKf
  -- the two roads behind the kind's own choice
  have bs := (softest3_bd (dt := dt) (wt := wt) (ln := ln) (wa := wa) h0 hc').1
  have bw := (wettest3_bd (dt := dt) (wt := wt) (ln := ln) (wa := wa) h0 hc').1
  have ba := aside3_bd (dt := dt) (wt := wt) (ln := ln) (wa := wa) h0 hc'
  have soft : K (softest3 dt wt ln wa c) (mput M (P + 3) f) → CSi w h kX2_softest [.ref P] (mput M (P + 3) f) (fun r2 M3 => ∃ x, some (Value.int (if r2 = -2 then c else r2)) = some (.int x) ∧ K x M3) := fun g => uX2_softest (by omega) hP hp2 e1 h0 hc' q0 q1 q2 ⟨_, rfl, by rw [m2_back bs]; exact g⟩
  have side : K (aside3 dt wt ln wa c) (mput M (P + 3) f) → CSi w h kX2_sideways [.ref P, .int c, .int x1] (mput M (P + 3) f) (fun r2 M3 => ∃ x, some (Value.int (if r2 = -2 then c else r2)) = some (.int x) ∧ K x M3) := fun g => uX2_sideways (by omega) hP hp2 e1 h0 hc' ⟨_, rfl, by rw [m2_back ba]; exact g⟩
  have b0 : rch dt wt c x1 0 = if wa + ln < hold dt wt (c + 12) then -2 else c + 12 := by
    unfold rch bel
    rw [if_pos rfl, e1]
    by_cases z : wa + ln < hold dt wt (c + 12)
    · rw [if_pos (Or.inr z), if_pos z]
    · rw [if_neg (fun q => q.elim (g_nn (g_12 h0 hc').1) z), if_neg z]
  have n12 := g_ne2 (g_12b h0 hc').1
  refine uX2_ownChoice (by omega) hP hp2 e1 h0 hc' q0 q1 q2 ?_
  have fin : ∀ r1 : Int32, (¬ r1 = -2 → K r1 (mput M (P + 3) f)) → (r1 = -2 → kd = 2 → K c (mput M (P + 3) f)) → (r1 = -2 → kd = 3 → K (aside3 dt wt ln wa c) (mput M (P + 3) f)) → (r1 = -2 → ¬ kd = 2 → ¬ kd = 3 → K (softest3 dt wt ln wa c) (mput M (P + 3) f)) →
      ((¬ (r1 = (-2)) → ((¬ (r1 = (-2)) → ∃ x, some (Value.int (if r1 = (-2) then c else r1)) = some (.int x) ∧ K x (mput M (P + 3) f)) ∧ (r1 = (-2) → ((kd = 2 → ∃ x, some (Value.int (if r1 = (-2) then c else r1)) = some (.int x) ∧ K x (mput M (P + 3) f)) ∧ (¬ (kd = 2) → (CSi w h kX2_softest [.ref P] (mput M (P + 3) f) (fun r2 M3 => ∃ x, some (Value.int (if r2 = (-2) then c else r2)) = some (.int x) ∧ K x M3))))))) ∧ (r1 = (-2) → ((¬ (kd = 3) → ((¬ (r1 = (-2)) → ∃ x, some (Value.int (if r1 = (-2) then c else r1)) = some (.int x) ∧ K x (mput M (P + 3) f)) ∧ (r1 = (-2) → ((kd = 2 → ∃ x, some (Value.int (if r1 = (-2) then c else r1)) = some (.int x) ∧ K x (mput M (P + 3) f)) ∧ (¬ (kd = 2) → (CSi w h kX2_softest [.ref P] (mput M (P + 3) f) (fun r2 M3 => ∃ x, some (Value.int (if r2 = (-2) then c else r2)) = some (.int x) ∧ K x M3))))))) ∧ (kd = 3 → (CSi w h kX2_sideways [.ref P, .int c, .int x1] (mput M (P + 3) f) (fun r2 M3 => ∃ x, some (Value.int (if r2 = (-2) then c else r2)) = some (.int x) ∧ K x M3)))))) := by
    intro r1 a1 a2 a3 a4
    refine ⟨fun hn => ⟨fun _ => ⟨_, rfl, by rw [if_neg hn]; exact a1 hn⟩, fun q => absurd q hn⟩, fun hn => ⟨fun k3 => ⟨fun q => absurd hn q, fun _ => ⟨fun k2 => ⟨_, rfl, by rw [if_pos hn]; exact a2 hn k2⟩, fun k2 => soft (a4 hn k2 k3)⟩⟩, fun k3 => side (a3 hn k3)⟩⟩
  refine fin _ ?_ ?_ ?_ ?_
  · intro hn
    by_cases k2 : kd = 2
    · rw [if_pos (Or.inl k2), b0] at hn ⊢
      rw [if_pos k2] at hKf
      by_cases z : wa + ln < hold dt wt (c + 12)
      · rw [if_pos z] at hn; exact absurd rfl hn
      · rw [if_neg z] at hKf ⊢; exact hKf
    · rw [if_neg k2] at hKf
      by_cases k3 : kd = 3
      · rw [if_pos (Or.inr (Or.inl k3)), b0] at hn ⊢
        rw [if_pos k3] at hKf
        by_cases z : wa + ln < hold dt wt (c + 12)
        · rw [if_pos z] at hn; exact absurd rfl hn
        · rw [if_neg z] at hKf ⊢; exact hKf
      · rw [if_neg k3] at hKf
        by_cases k6 : kd = 6
        · rw [if_pos (Or.inr (Or.inr k6)), b0] at hn ⊢
          rw [if_neg (fun q => absurd (k6.symm.trans q) (by decide)), if_neg (fun q => absurd (k6.symm.trans q) (by decide)), if_pos k6] at hKf
          by_cases z : wa + ln < hold dt wt (c + 12)
          · rw [if_pos z] at hn; exact absurd rfl hn
          · rw [if_neg z] at hKf ⊢; exact hKf
        · rw [if_neg (fun q => q.elim k2 (fun q => q.elim k3 k6))] at hn ⊢
          by_cases k4 : kd = 4
          · rw [if_pos k4] at hn hKf ⊢
            unfold rch at hn ⊢
            unfold swung3 at hKf
            rw [e1] at hn ⊢
            by_cases z : bel c (if sp - sp / 2 * 2 = 0 then 1 else 2) < 0 ∨ wa + ln < hold dt wt (bel c (if sp - sp / 2 * 2 = 0 then 1 else 2))
            · rw [if_pos z] at hn; exact absurd rfl hn
            · rw [if_neg z] at hKf ⊢; exact hKf
          · rw [if_neg k4] at hn hKf ⊢
            by_cases k5 : kd = 5
            · rw [if_pos k5] at hn hKf ⊢
              by_cases hm : sp - sp / 3 * 3 = 2
              · rw [if_pos hm] at hn; exact absurd rfl hn
              · rw [if_neg hm] at hn hKf ⊢
                unfold rch at hn ⊢
                unfold swung3 at hKf
                rw [e1] at hn ⊢
                by_cases z : bel c (if sp - sp / 2 * 2 = 0 then 1 else 2) < 0 ∨ wa + ln < hold dt wt (bel c (if sp - sp / 2 * 2 = 0 then 1 else 2))
                · rw [if_pos z] at hn; exact absurd rfl hn
                · rw [if_neg z] at hKf ⊢; exact hKf
            · rw [if_neg k5] at hn hKf ⊢
              rw [if_neg k6] at hKf
              by_cases k7 : kd = 7
              · rw [if_pos k7] at hn hKf ⊢
                unfold m2 at hn ⊢
                by_cases z : wettest3 dt wt ln wa c = c
                · rw [if_pos z] at hn; exact absurd rfl hn
                · rw [if_neg z] at hKf ⊢; exact hKf
              · rw [if_neg k7] at hn; exact absurd rfl hn
  · intro hn k2
    rw [if_pos (Or.inl k2), b0] at hn
    rw [if_pos k2] at hKf
    by_cases z : wa + ln < hold dt wt (c + 12)
    · rw [if_pos z] at hKf; exact hKf
    · rw [if_neg z] at hn; exact absurd hn n12
  · intro hn k3
    rw [if_pos (Or.inr (Or.inl k3)), b0] at hn
    rw [if_neg (fun q => absurd (k3.symm.trans q) (by decide)), if_pos k3] at hKf
    by_cases z : wa + ln < hold dt wt (c + 12)
    · rw [if_pos z] at hKf; exact hKf
    · rw [if_neg z] at hn; exact absurd hn n12
  · intro hn k2 k3
    rw [if_neg k2, if_neg k3] at hKf
    by_cases k6 : kd = 6
    · rw [if_pos (Or.inr (Or.inr k6)), b0] at hn
      rw [if_neg (fun q => absurd (k6.symm.trans q) (by decide)), if_neg (fun q => absurd (k6.symm.trans q) (by decide)), if_pos k6] at hKf
      by_cases z : wa + ln < hold dt wt (c + 12)
      · rw [if_pos z] at hKf; exact hKf
      · rw [if_neg z] at hn; exact absurd hn n12
    · rw [if_neg (fun q => q.elim k2 (fun q => q.elim k3 k6))] at hn
      have hb2 := bel_bd (k := if sp - sp / 2 * 2 = 0 then 1 else 2) h0 hc'
      have sw : rch dt wt c x1 (if sp - sp / 2 * 2 = 0 then 1 else 2) = -2 → swung3 dt wt ln wa c sp = softest3 dt wt ln wa c := by
        intro hr
        unfold rch at hr
        rw [e1] at hr
        unfold swung3
        by_cases z : bel c (if sp - sp / 2 * 2 = 0 then 1 else 2) < 0 ∨ wa + ln < hold dt wt (bel c (if sp - sp / 2 * 2 = 0 then 1 else 2))
        · rw [if_pos z]
        · rw [if_neg z] at hr
          exact absurd (Or.inl (by rw [hr]; decide)) z
      by_cases k4 : kd = 4
      · rw [if_pos k4] at hn hKf
        rw [sw hn] at hKf; exact hKf
      · rw [if_neg k4] at hn hKf
        by_cases k5 : kd = 5
        · rw [if_pos k5] at hn hKf
          by_cases hm : sp - sp / 3 * 3 = 2
          · rw [if_pos hm] at hKf; exact hKf
          · rw [if_neg hm] at hn hKf
            rw [sw hn] at hKf; exact hKf
        · rw [if_neg k5] at hn hKf
          rw [if_neg k6] at hKf
          by_cases k7 : kd = 7
          · rw [if_pos k7] at hn hKf
            unfold m2 at hn
            by_cases z : wettest3 dt wt ln wa c = c
            · rw [if_pos z] at hKf; exact hKf
            · rw [if_neg z] at hn; exact absurd hn (g_ne2 bw)
          · rw [if_neg k7] at hKf; exact hKf
end CG

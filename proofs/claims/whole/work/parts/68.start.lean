/-! ===== what holds at the law's entry ===== -/
def strP : Nat → Nat := fun i => ([52, 61, 73, 85, 97, 109, 119, 130, 139, 147, 155, 163, 171, 181, 187, 197, 210, 223, 236, 249, 260, 272, 282, 291, 300, 309, 318, 329] : List Nat).getD i 0
def strQ : Nat → Nat := fun i => ([616, 617, 618, 619, 620, 621, 622, 623, 624, 625, 626, 627, 628, 690, 1198, 1205, 1206, 1207, 1208, 1209, 1210, 1211, 1212, 1213, 1214, 1215, 1216, 1221] : List Nat).getD i 0
def gW : List Cond := flatC (Jvm.Cond.and given_1 narrow_1)
def strW (own : String) (k : Nat) (bs : List Int32) : List Cond := [.exactly (.string own k) "java/lang/String", .eq (.field (.string own k) "java/lang/String" "coder" "B") (.int 0), .arrayOf (.field (.string own k) "java/lang/String" "value" "[B") .byte, .eq (.length (.field (.string own k) "java/lang/String" "value" "[B")) (.int (Int32.ofNat bs.length))] ++ (List.range bs.length).map (fun j => .eq (.elem (.field (.string own k) "java/lang/String" "value" "[B") (.int (Int32.ofNat j))) (.int (bs.getD j 0)))
theorem strW_in : ∀ i, i < 28 → strW (strO i) (strK i) (strB i) = (gW.drop (strP i)).take (4 + (strB i).length) := by decide +kernel
theorem strR_in : ∀ i, i < 28 → lw_tbl[strQ i]? = some (Cond.stringRef (strO i) (strK i) (strT i)) := by decide +kernel
theorem str_one {args : Array Value} {s : State} {own tx : String} {k : Nat} {bs : List Int32} {A : Nat → Prop} (h1 : (Cond.stringRef own k tx).before args s = true) (hw : ∀ c ∈ strW own k bs, c.before args s = true) (hl : bs.length < 2 ^ 31) (hA : ∀ a : Nat, a < s.heap.size → ¬ A a) : ∃ q : Nat × Nat, vk_R own k tx q.1 s ∧ va_O "java/lang/String" q.1 A s s.heap ∧ va_OF "java/lang/String" "coder" "B" (.int 0) q.1 A s s.heap ∧ va_OF "java/lang/String" "value" "[B" (.ref q.2) q.1 A s s.heap ∧ va_T .byte q.2 bs.length (fun j => .int (bs.getD j 0)) A s s.heap := by
  have w0 : (Cond.exactly (.string own k) "java/lang/String").before args s = true := hw _ (by simp [strW])
  have w1 : (Cond.eq (.field (.string own k) "java/lang/String" "coder" "B") (.int 0)).before args s = true := hw _ (by simp [strW])
  have w2 : (Cond.arrayOf (.field (.string own k) "java/lang/String" "value" "[B") .byte).before args s = true := hw _ (by simp [strW])
  have w3 : (Cond.eq (.length (.field (.string own k) "java/lang/String" "value" "[B")) (.int (Int32.ofNat bs.length))).before args s = true := hw _ (by simp [strW])
  have w4 : ∀ j : Nat, j < bs.length → (Cond.eq (.elem (.field (.string own k) "java/lang/String" "value" "[B") (.int (Int32.ofNat j))) (.int (bs.getD j 0))).before args s = true := fun j hj => hw _ (List.mem_append_right _ (List.mem_map.mpr ⟨j, List.mem_range.mpr hj, rfl⟩))
  obtain ⟨a, c, cA, kA, q1, q2, q3, q4, q5, q6, -⟩ := Cond.exactly_spec (args := args) (first := s) (o := none) (s := s) (idx := []) (t := .string own k) (cls := "java/lang/String") w0
  obtain ⟨t, ht, hT⟩ := va_Tof (f := fun j => .int (bs.getD j 0)) (A := A) hl w2 (va_eqt w3) (fun j hj => va_eqt (w4 j hj)) hA
  exact ⟨(a, t), vk_R.of h1 q1, ⟨cA, q3, q5, by rw [q6]; exact q2, hA a (Array.getElem?_eq_some_iff.mp q3).1⟩, vk_OFof q1 (va_eqt w1) hA, vk_OFof q1 ht hA, hT⟩
/-- a static array of ints -/
def tabW (nm : String) (N : Nat) (g : Nat → Int32) : List Cond := [.arrayOf (.static "PaneThread" nm "[I") .int, .eq (.length (.static "PaneThread" nm "[I")) (.int (Int32.ofNat N))] ++ (List.range N).map (fun j => .eq (.elem (.static "PaneThread" nm "[I") (.int (Int32.ofNat j))) (.int (g j)))
theorem tab_one {args : Array Value} {s : State} {nm : String} {N : Nat} {g : Nat → Int32} {A : Nat → Prop} (hl : (Cond.laysStatic "PaneThread" nm "[I").before args s = true) (hini : (Cond.initialized "PaneThread").before args s = true) (hw : ∀ c ∈ tabW nm N g, c.before args s = true) (hN : N < 2 ^ 31) (hA : ∀ a : Nat, a < s.heap.size → ¬ A a) : ∃ t : Nat, va_Z "PaneThread" nm "[I" (.ref t) A s s.heap ∧ va_T .int t N (fun j => .int (g j)) A s s.heap := by
  have w2 : (Cond.arrayOf (.static "PaneThread" nm "[I") .int).before args s = true := hw _ (by simp [tabW])
  have w3 : (Cond.eq (.length (.static "PaneThread" nm "[I")) (.int (Int32.ofNat N))).before args s = true := hw _ (by simp [tabW])
  have w4 : ∀ j : Nat, j < N → (Cond.eq (.elem (.static "PaneThread" nm "[I") (.int (Int32.ofNat j))) (.int (g j))).before args s = true := fun j hj => hw _ (List.mem_append_right _ (List.mem_map.mpr ⟨j, List.mem_range.mpr hj, rfl⟩))
  obtain ⟨t, ht, hT⟩ := va_Tof (f := fun j => .int (g j)) (A := A) hN w2 (va_eqt w3) (fun j hj => va_eqt (w4 j hj)) hA
  exact ⟨t, va_Zref hl hini ht hA, hT⟩
theorem tabW_tabA : tabW "ABOVE" 8 tabA = (gW.drop 5).take 10 := by decide +kernel
theorem tabW_tabL : tabW "LEAST_OF_DEED" 13 tabL = (gW.drop 21).take 15 := by decide +kernel
theorem tabW_tabM : tabW "MOST_OF_DEED" 13 tabM = (gW.drop 37).take 15 := by decide +kernel
theorem gW_cs : gW[15]? = some (Cond.eq (.static "java/lang/String" "COMPACT_STRINGS" "Z") (.int 1)) := by decide +kernel
theorem gW_sf : gW[16]? = some (Cond.isRef (.static "jdk/internal/util/Preconditions" "SIOOBE_FORMATTER" "Ljava/util/function/BiFunction;")) := by decide +kernel
theorem ls_tabA : lw_tbl[520]? = some (Cond.laysStatic "PaneThread" "ABOVE" "[I") := by decide +kernel
theorem ls_tabL : lw_tbl[682]? = some (Cond.laysStatic "PaneThread" "LEAST_OF_DEED" "[I") := by decide +kernel
theorem ls_tabM : lw_tbl[684]? = some (Cond.laysStatic "PaneThread" "MOST_OF_DEED" "[I") := by decide +kernel
theorem ls_cs : lw_tbl[642]? = some (Cond.laysStatic "java/lang/String" "COMPACT_STRINGS" "Z") := by decide +kernel
theorem ls_sf : lw_tbl[658]? = some (Cond.laysStatic "jdk/internal/util/Preconditions" "SIOOBE_FORMATTER" "Ljava/util/function/BiFunction;") := by decide +kernel
theorem it_p : lw_tbl[57]? = some (Cond.initialized "PaneThread") := by decide +kernel
theorem it_s : lw_tbl[71]? = some (Cond.initialized "java/lang/String") := by decide +kernel
theorem it_f : lw_tbl[73]? = some (Cond.initialized "jdk/internal/util/Preconditions") := by decide +kernel
theorem ao_6 : lw_tbl[263]? = some (Cond.arrayOver (.object "PaneThread$Sheet")) := by decide +kernel
theorem cls_all {args : Array Value} {s : State} (hts : ∀ x ∈ tG, x.before args s = true) : ∃ D : va_G, ∀ (c : Nat) (q : vw_C), vwCl[c]? = some q → u_Kn s q.1 q.2.1 q.2.2 (D.1 c) (D.2 c) := by
  obtain ⟨c0, i0, k0⟩ := u_known hts clX0.2.1 (hts _ in_X0)
  obtain ⟨c1, i1, k1⟩ := u_known hts clX1.2.1 (hts _ in_X1)
  obtain ⟨c2, i2, k2⟩ := u_known hts clX2.2.1 (hts _ in_X2)
  obtain ⟨c3, i3, k3⟩ := u_known hts clX3.2.1 (hts _ in_X3)
  obtain ⟨c4, i4, k4⟩ := u_known hts clX4.2.1 (hts _ in_X4)
  obtain ⟨c5, i5, k5⟩ := u_known hts clX5.2.1 (hts _ in_X5)
  obtain ⟨c6, i6, k6⟩ := u_known hts clX6.2.1 (hts _ in_X6)
  obtain ⟨c7, i7, k7⟩ := u_known hts clX7.2.1 (hts _ in_X7)
  obtain ⟨c8, i8, k8⟩ := u_known hts clX8.2.1 (hts _ in_X8)
  obtain ⟨c9, i9, k9⟩ := u_known hts clX9.2.1 (hts _ in_X9)
  obtain ⟨c10, i10, k10⟩ := u_known hts clX10.2.1 (hts _ in_X10)
  obtain ⟨c11, i11, k11⟩ := u_known hts clX11.2.1 (hts _ in_X11)
  refine ⟨(fun c => ([c0, c1, c2, c3, c4, c5, c6, c7, c8, c9, c10, c11] : List ClassId).getD c c0, fun c => ([i0, i1, i2, i3, i4, i5, i6, i7, i8, i9, i10, i11] : List (Nat → Nat)).getD c i0), fun c q hq => ?_⟩
  match c, hq with
  | 0, hq => cases hq; exact k0
  | 1, hq => cases hq; exact k1
  | 2, hq => cases hq; exact k2
  | 3, hq => cases hq; exact k3
  | 4, hq => cases hq; exact k4
  | 5, hq => cases hq; exact k5
  | 6, hq => cases hq; exact k6
  | 7, hq => cases hq; exact k7
  | 8, hq => cases hq; exact k8
  | 9, hq => cases hq; exact k9
  | 10, hq => cases hq; exact k10
  | 11, hq => cases hq; exact k11
  | c + 12, hq => exact absurd hq (by simp)
theorem ks_start {s : State} {b L : Nat} {xs : Nat → Int32} (l : Launch) (hts : ∀ x ∈ lw_tbl, x.before #[Value.ref b] s = true) (hX : va_X b L xs s s.heap) (hbl : b < s.heap.size) (hgv : (Jvm.Cond.and given_1 narrow_1).before #[Value.ref b] s = true) : ∃ w : Wd, wl w = l ∧ wH w = s.heap ∧ wL w = L ∧ wX w 0 = b ∧ KS w s := by
  have hg : ∀ c ∈ gW, c.before #[Value.ref b] s = true := flat_of_before _ hgv
  have hG : ∀ x ∈ tG, x.before #[Value.ref b] s = true := fun x hx => hts x (List.mem_filter.mp hx).1
  have tb : ∀ {i : Nat} {c : Cond}, lw_tbl[i]? = some c → c.before #[Value.ref b] s = true := fun h => hts _ (List.mem_of_getElem? h)
  have hA : ∀ a : Nat, a < s.heap.size → ¬ (fun q => s.heap.size ≤ q) a := fun a ha hq => absurd ha (Nat.not_lt.mpr hq)
  obtain ⟨D, hD⟩ := cls_all hG
  obtain ⟨cI, kI, compI, f1, f2, f3⟩ := Cond.arrayClass_spec (args := #[Value.ref b]) (first := s) (o := none) (s := s) (idx := []) (type := .int) (hG _ ac_int)
  obtain ⟨compR, cR, kR, g1, -, g3, g4, g5⟩ := Cond.arrayOver_spec (args := #[Value.ref b]) (first := s) (o := none) (s := s) (idx := []) (n := "PaneThread$Sheet") (tb ao_6)
  obtain ⟨tA, zA1, zA2⟩ := tab_one (A := fun q => s.heap.size ≤ q) (tb ls_tabA) (tb it_p) (fun c hc => hg c (List.mem_of_mem_drop (List.mem_of_mem_take (tabW_tabA ▸ hc)))) (by decide) hA
  obtain ⟨tL, zL1, zL2⟩ := tab_one (A := fun q => s.heap.size ≤ q) (tb ls_tabL) (tb it_p) (fun c hc => hg c (List.mem_of_mem_drop (List.mem_of_mem_take (tabW_tabL ▸ hc)))) (by decide) hA
  obtain ⟨tM, zM1, zM2⟩ := tab_one (A := fun q => s.heap.size ≤ q) (tb ls_tabM) (tb it_p) (fun c hc => hg c (List.mem_of_mem_drop (List.mem_of_mem_take (tabW_tabM ▸ hc)))) (by decide) hA
  have zC := va_Zof (A := fun q => s.heap.size ≤ q) (tb ls_cs) (tb it_s) (va_eqi (hg _ (List.mem_of_getElem? gW_cs))) hA
  have zF := va_Zqof (A := fun q => s.heap.size ≤ q) (tb ls_sf) (tb it_f) (hg _ (List.mem_of_getElem? gW_sf)) hA
  obtain ⟨V, tF, hV⟩ : ∃ (V : Value) (tF : Nat), (V = .null ∧ va_Z "jdk/internal/util/Preconditions" "SIOOBE_FORMATTER" "Ljava/util/function/BiFunction;" .null (fun q => s.heap.size ≤ q) s s.heap) ∨ (V = .ref 1060 ∧ va_Z "jdk/internal/util/Preconditions" "SIOOBE_FORMATTER" "Ljava/util/function/BiFunction;" (.ref tF) (fun q => s.heap.size ≤ q) s s.heap) := by
    rcases zF with z | ⟨t, z⟩
    · exact ⟨.null, 0, Or.inl ⟨rfl, z⟩⟩
    · exact ⟨.ref 1060, t, Or.inr ⟨rfl, z⟩⟩
  have hS : ∀ i : Nat, ∃ q : Nat × Nat, i < 28 → vk_R (strO i) (strK i) (strT i) q.1 s ∧ va_O "java/lang/String" q.1 (fun q => s.heap.size ≤ q) s s.heap ∧ va_OF "java/lang/String" "coder" "B" (.int 0) q.1 (fun q => s.heap.size ≤ q) s s.heap ∧ va_OF "java/lang/String" "value" "[B" (.ref q.2) q.1 (fun q => s.heap.size ≤ q) s s.heap ∧ va_T .byte q.2 (strB i).length (fun j => .int ((strB i).getD j 0)) (fun q => s.heap.size ≤ q) s s.heap := by
    intro i
    by_cases hi : i < 28
    · obtain ⟨q, hq⟩ := str_one (A := fun q => s.heap.size ≤ q) (tb (strR_in i hi)) (fun c hc => hg c (List.mem_of_mem_drop (List.mem_of_mem_take (strW_in i hi ▸ hc)))) (Nat.lt_trans (strB_sm i hi).1 (by decide)) hA
      exact ⟨q, fun _ => hq⟩
    · exact ⟨(0, 0), fun h => absurd h hi⟩
  obtain ⟨ad, had⟩ := Classical.axiomOfChoice hS
  let X : Nat → Nat := fun k => if k = 0 then b else if k = 1 then tA else if k = 2 then tL else if k = 3 then tM else if k < 32 then (ad (k - 4)).1 else if k < 60 then (ad (k - 32)).2 else tF
  have X4 : ∀ i, i < 28 → X (4 + i) = (ad i).1 := by
    intro i hi
    show (if 4 + i = 0 then b else if 4 + i = 1 then tA else if 4 + i = 2 then tL else if 4 + i = 3 then tM else if 4 + i < 32 then (ad (4 + i - 4)).1 else if 4 + i < 60 then (ad (4 + i - 32)).2 else tF) = _
    rw [if_neg (by omega), if_neg (by omega), if_neg (by omega), if_neg (by omega), if_pos (by omega), Nat.add_sub_cancel_left]
  have X32 : ∀ i, i < 28 → X (32 + i) = (ad i).2 := by
    intro i hi
    show (if 32 + i = 0 then b else if 32 + i = 1 then tA else if 32 + i = 2 then tL else if 32 + i = 3 then tM else if 32 + i < 32 then (ad (32 + i - 4)).1 else if 32 + i < 60 then (ad (32 + i - 32)).2 else tF) = _
    rw [if_neg (by omega), if_neg (by omega), if_neg (by omega), if_neg (by omega), if_neg (by omega), if_pos (by omega), Nat.add_sub_cancel_left]
  refine ⟨(l, s.heap, D, (cI, cR), X, (L, xs), V), rfl, rfl, rfl, rfl, ⟨hD, fun k q hk => ?_⟩, fun x hx => ?_, ⟨hX, hbl⟩, ⟨⟨zA1, zA2⟩, ⟨zL1, zL2⟩, ⟨zM1, zM2⟩, zC, ?_⟩, fun i hi => ?_, va_AO.of (A := #[Value.ref b]) (tb ao_6), ?_⟩
  · match k, hk with
    | 0, hk =>
      cases hk
      exact ⟨fun n z => ⟨fun k h => (by cases h), kI, f2, compI, f3⟩, f1⟩
    | 1, hk =>
      cases hk
      exact ⟨fun n z => ⟨fun k h => (by cases h), kR, g3, compR, g4⟩, ⟨kR, compR, g3, g4, g1, g5⟩⟩
    | k + 2, hk => exact absurd hk (by simp)
  · exact va_Nw.of (tN_on (List.mem_filter.mp hx).2) (hts x (List.mem_filter.mp hx).1)
  · rcases hV with ⟨rfl, z⟩ | ⟨rfl, z⟩
    · exact z
    · exact z
  · have h := had i hi
    show vk_R (strO i) (strK i) (strT i) (X (4 + i)) s ∧ va_O "java/lang/String" (X (4 + i)) _ s s.heap ∧ va_OF "java/lang/String" "coder" "B" (.int 0) (X (4 + i)) _ s s.heap ∧ va_OF "java/lang/String" "value" "[B" (.ref (X (32 + i))) (X (4 + i)) _ s s.heap ∧ va_T .byte (X (32 + i)) (strB i).length (fun j => .int ((strB i).getD j 0)) _ s s.heap
    rw [X4 i hi, X32 i hi]
    exact h
  · rcases hV with ⟨rfl, -⟩ | ⟨rfl, -⟩ <;> rfl

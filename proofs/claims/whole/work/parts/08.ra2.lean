def strO : Nat → String := fun i => match i with
  | 0 => "PaneThread$Reader"
  | 1 => "PaneThread$Reader"
  | 2 => "PaneThread$Reader"
  | 3 => "PaneThread$Reader"
  | 4 => "PaneThread$Reader"
  | 5 => "PaneThread$Reader"
  | 6 => "PaneThread$Reader"
  | 7 => "PaneThread$Reader"
  | 8 => "PaneThread$Reader"
  | 9 => "PaneThread$Reader"
  | 10 => "PaneThread$Reader"
  | 11 => "PaneThread$Reader"
  | 12 => "PaneThread$Reader"
  | 13 => "PaneThread$Reader"
  | 14 => "PaneThreadModel"
  | 15 => "PaneThreadModel"
  | 16 => "PaneThreadModel"
  | 17 => "PaneThreadModel"
  | 18 => "PaneThreadModel"
  | 19 => "PaneThreadModel"
  | 20 => "PaneThreadModel"
  | 21 => "PaneThreadModel"
  | 22 => "PaneThreadModel"
  | 23 => "PaneThreadModel"
  | 24 => "PaneThreadModel"
  | 25 => "PaneThreadModel"
  | 26 => "PaneThreadModel"
  | 27 => "PaneThreadModel"
  | _ => ""

def strK : Nat → Nat := fun i => match i with
  | 0 => 94
  | 1 => 96
  | 2 => 98
  | 3 => 100
  | 4 => 102
  | 5 => 104
  | 6 => 106
  | 7 => 108
  | 8 => 110
  | 9 => 112
  | 10 => 114
  | 11 => 116
  | 12 => 118
  | 13 => 62
  | 14 => 207
  | 15 => 213
  | 16 => 215
  | 17 => 217
  | 18 => 219
  | 19 => 221
  | 20 => 223
  | 21 => 225
  | 22 => 227
  | 23 => 229
  | 24 => 231
  | 25 => 233
  | 26 => 235
  | 27 => 245
  | _ => 0

def strT : Nat → String := fun i => match i with
  | 0 => "going"
  | 1 => "dropping"
  | 2 => "straight"
  | 3 => "standing"
  | 4 => "swinging"
  | 5 => "broken"
  | 6 => "plaited"
  | 7 => "again"
  | 8 => "wait"
  | 9 => "lean"
  | 10 => "fade"
  | 11 => "wind"
  | 12 => "finger"
  | 13 => "at"
  | 14 => "going"
  | 15 => "dropping"
  | 16 => "straight"
  | 17 => "standing"
  | 18 => "swinging"
  | 19 => "broken"
  | 20 => "plaited"
  | 21 => "again"
  | 22 => "wait"
  | 23 => "lean"
  | 24 => "wind"
  | 25 => "fade"
  | 26 => "finger"
  | 27 => "at"
  | _ => ""

def strB : Nat → List Int32 := fun i => match i with
  | 0 => [103, 111, 105, 110, 103]
  | 1 => [100, 114, 111, 112, 112, 105, 110, 103]
  | 2 => [115, 116, 114, 97, 105, 103, 104, 116]
  | 3 => [115, 116, 97, 110, 100, 105, 110, 103]
  | 4 => [115, 119, 105, 110, 103, 105, 110, 103]
  | 5 => [98, 114, 111, 107, 101, 110]
  | 6 => [112, 108, 97, 105, 116, 101, 100]
  | 7 => [97, 103, 97, 105, 110]
  | 8 => [119, 97, 105, 116]
  | 9 => [108, 101, 97, 110]
  | 10 => [102, 97, 100, 101]
  | 11 => [119, 105, 110, 100]
  | 12 => [102, 105, 110, 103, 101, 114]
  | 13 => [97, 116]
  | 14 => [103, 111, 105, 110, 103]
  | 15 => [100, 114, 111, 112, 112, 105, 110, 103]
  | 16 => [115, 116, 114, 97, 105, 103, 104, 116]
  | 17 => [115, 116, 97, 110, 100, 105, 110, 103]
  | 18 => [115, 119, 105, 110, 103, 105, 110, 103]
  | 19 => [98, 114, 111, 107, 101, 110]
  | 20 => [112, 108, 97, 105, 116, 101, 100]
  | 21 => [97, 103, 97, 105, 110]
  | 22 => [119, 97, 105, 116]
  | 23 => [108, 101, 97, 110]
  | 24 => [119, 105, 110, 100]
  | 25 => [102, 97, 100, 101]
  | 26 => [102, 105, 110, 103, 101, 114]
  | 27 => [97, 116]
  | _ => []
def tabA : Nat → Int32 := fun i => match i with
  | 0 => -1
  | 1 => 0
  | 2 => 0
  | 3 => 2
  | 4 => 0
  | 5 => 4
  | 6 => 2
  | _ => 1
def tabL : Nat → Int32 := fun i => if i < 9 then 1 else 0
def tabM : Nat → Int32 := fun i => match i with
  | 8 => 50
  | 9 => 9
  | 10 => 9
  | 11 => 20
  | 12 => 11
  | _ => 99
/-- static arrays: their place, their length, what they hold -/
def KT (w : Wd) (U : State) (i : Nat) (n : String) (N : Nat) (f : Nat → Int32) : Prop := va_Z RX10 n "[I" (.ref (wX w i)) (wA w) U (wH w) ∧ va_T .int (wX w i) N (fun j => .int (f j)) (wA w) U (wH w)
def KSt (w : Wd) (U : State) : Prop := KT w U 1 "ABOVE" 8 tabA ∧ KT w U 2 "LEAST_OF_DEED" 13 tabL ∧ KT w U 3 "MOST_OF_DEED" 13 tabM ∧ va_Z RJ0 "COMPACT_STRINGS" "Z" (.int 1) (wA w) U (wH w) ∧ va_Z RJ3 "SIOOBE_FORMATTER" "Ljava/util/function/BiFunction;" (cv w (wV w)) (wA w) U (wH w)
/-- the text constants -/
def KStr (w : Wd) (U : State) : Prop := ∀ i, i < 28 → vk_R (strO i) (strK i) (strT i) (wX w (4 + i)) U ∧ va_O "java/lang/String" (wX w (4 + i)) (wA w) U (wH w) ∧ va_OF "java/lang/String" "coder" "B" (.int 0) (wX w (4 + i)) (wA w) U (wH w) ∧ va_OF "java/lang/String" "value" "[B" (.ref (wX w (32 + i))) (wX w (4 + i)) (wA w) U (wH w) ∧ va_T .byte (wX w (32 + i)) (strB i).length (fun j => .int ((strB i).getD j 0)) (wA w) U (wH w)
/-- what the tables and the heap at the law's entry say, at every state -/
def KS (w : Wd) (U : State) : Prop := va_K (wD w) vwCl [(wI w, .int), (wR w, .object RX6)] U ∧ (∀ x ∈ tN, va_Nw x U) ∧ (va_X (wX w 0) (wL w) (wS w) U (wH w) ∧ wX w 0 < wB w) ∧ KSt w U ∧ KStr w U ∧ va_AO RX6 U ∧ (wV w).category = 1
theorem KSt.moved {w : Wd} {u U : State} (h : u.vm.Alike U.vm) (k : KSt w u) : KSt w U := by
  obtain ⟨⟨a1, a2⟩, ⟨b1, b2⟩, ⟨c1, c2⟩, d, e⟩ := k
  exact ⟨⟨va_Z.moved h a1, va_T.moved h a2⟩, ⟨va_Z.moved h b1, va_T.moved h b2⟩, ⟨va_Z.moved h c1, va_T.moved h c2⟩, va_Z.moved h d, va_Z.moved h e⟩
theorem KS.warm {w : Wd} {s U : State} (hW : s.WarmedH U.vm) (k : KS w s) : KS w U := by
  obtain ⟨k1, k2, ⟨k3, k3'⟩, k4, k5, k6, k7⟩ := k
  have h := hW.alike
  refine ⟨va_K.moved h k1, fun x hx => tN_warm (List.mem_filter.mp hx).2 hW (k2 x hx), ⟨va_X.moved h k3, k3'⟩, KSt.moved h k4, fun i hi => ?_, va_AO.moved h k6, k7⟩
  obtain ⟨a, b, c, d, e⟩ := k5 i hi
  exact ⟨vk_R.warm hW a, va_O.moved h b, va_OF.moved h c, va_OF.moved h d, va_T.moved h e⟩
theorem KS.same {w : Wd} {s U : State} (hv : s.vm = U.vm) (k : KS w s) : KS w U := by
  obtain ⟨k1, k2, ⟨k3, k3'⟩, k4, k5, k6, k7⟩ := k
  have h : s.vm.Alike U.vm := by rw [hv]; exact Vm.Alike.refl _
  refine ⟨va_K.moved h k1, fun x hx => tN_same (List.mem_filter.mp hx).2 hv (k2 x hx), ⟨va_X.moved h k3, k3'⟩, KSt.moved h k4, fun i hi => ?_, va_AO.moved h k6, k7⟩
  obtain ⟨a, b, c, d, e⟩ := k5 i hi
  exact ⟨vk_R.same hv.symm a, va_O.moved h b, va_OF.moved h c, va_OF.moved h d, va_T.moved h e⟩
theorem HH.old {w : Wd} {H : Heap} {n : Nat} {es : Ent} (h : HH w H n es) : ∀ a : Nat, a < (wH w).size → ¬ wA w a → H[a]? = (wH w)[a]? := fun a ha _ => h.2.2.1 a ha
/-- a method: its name, code, number of locals, type of answer -/
abbrev MI : Type := MethodName × ByteArray × Nat × Option FieldType
/-- what is known in a frame of a method -/
def FX (w : Wd) (mi : MI) (p : Program) (s : State) (m : MethodId) (args : Array Value) (meth : Method) (c : Code) : Prop :=
  p.tables.exec = Jvm.exec ∧ c.code = mi.2.1 ∧ meth.sig.returnType = mi.2.2.2 ∧ c.maxLocals = mi.2.2.1 ∧ s.vm.findClass mi.1.cls = some m.cls ∧ meth.locks = false ∧ meth.name = mi.1.name ∧ (∀ x ∈ tG, x.before args s = true) ∧ KS w s
def RJ (w : Wd) (R : Room) (mi : MI) (ce sl pc : Nat) (lv : List (Nat × Value)) (st : List Value) (n : Nat) (es : Ent) (F : Array Value → State → List Frame → State → Prop) : Prop :=
  ∀ (p : Program) (e : Env) (s : State) (m : MethodId) (args : Array Value) (below : List Frame) (meth : Method) (c : Code) (H : Heap) (locs : List Loc) (ls : Array Slot),
    FX w mi p s m args meth c → (∀ q ∈ locs, wB w ≤ q.base) → HH w H n es → lv_has ls mi.2.2.1 (lv.map (fun q => (q.1, cv w q.2))) →
    W p (wl w) e R s m args below meth c H locs ce sl (F args s below) (F0 m pc ls (st.map (cv w)))
def rmk (h mc ms : Nat) : Room := { frames := h, cells := mc, slots := ms, locals := 39 * h }
def QC (w : Wd) (Q : Option Value → Nat → Ent → Prop) : Array Value → State → Outcome → State → Prop := fun _ _ o t => ∃ r n es, o = .returned (r.map (cv w)) ∧ HH w t.heap n es ∧ Q r n es
def FM (w : Wd) (mc ms : Nat) (Q : Option Value → Nat → Ent → Prop) : Array Value → State → List Frame → State → Prop := fun args s below => MQ below (QC w Q) args s mc ms (wA w)
/-- a method's contract at given arguments and cells -/
def CO (w : Wd) (h : Nat) (mi : MI) (mc ms : Nat) (as : List Value) (n : Nat) (es : Ent) (Q : Option Value → Nat → Ent → Prop) : Prop :=
  Met (wl w) mi.1 (Cond.code mi.1 mi.2.1 mi.2.2.1 mi.2.2.2 :: tG) (rmk h mc ms) (fun a U => a = (as.map (cv w)).toArray ∧ KS w U ∧ HH w U.heap n es) (QC w Q) mc ms (wA w)
theorem lv_args_cv (w : Wd) : ∀ (as : List Value) (i : Nat), lv_args i (as.map (cv w)) = (lv_args i as).map (fun q => (q.1, cv w q.2))
  | [], _ => rfl
  | v :: t, i => by
    show (i, cv w v) :: lv_args (if (cv w v).category = 2 then i + 2 else i + 1) (t.map (cv w)) = (i, cv w v) :: (lv_args (if v.category = 2 then i + 2 else i + 1) t).map _
    rw [cv_cat, lv_args_cv w t]
theorem lg_sl_cv (w : Wd) : ∀ as : List Value, (lg_sl (as.map (cv w))).length = (lg_sl as).length
  | [] => rfl
  | v :: t => by
    have ih := lg_sl_cv w t
    simp only [lg_sl, List.map_cons, List.flatMap_cons, List.length_append, cv_cat] at ih ⊢
    rw [ih]
    by_cases h : v.category = 2 <;> simp [h]
/-- a contract out of a walk from the entry -/
theorem co_of {w : Wd} {h : Nat} {mi : MI} {mc ms : Nat} {as : List Value} {n : Nat} {es : Ent} {Q : Option Value → Nat → Ent → Prop} (hp : plainName mi.1.cls = true) (hl : (lg_sl as).length ≤ mi.2.2.1)
    (k : RJ w (rmk h mc ms) mi 0 0 0 (lv_args 0 as) [] n es (FM w mc ms Q)) : CO w h mi mc ms as n es Q := by
  refine Met.ofW (cc := mi.2.1) (maxL := mi.2.2.1) (ret := mi.2.2.2) hp rfl ?_
  intro p e s m args below meth c s₁ B hml hv
  obtain ⟨rfl, hK, hH⟩ := hv
  have hts := atoms_spec (ws := Cond.code mi.1 mi.2.1 mi.2.2.1 mi.2.2.2 :: tG) B.pre
  have hown : s.vm.findClass mi.1.cls = some m.cls := findClass_of_methodNamed B.named
  have hl' : (lg_sl (as.map (cv w))).length ≤ mi.2.2.1 := by rw [lg_sl_cv]; exact hl
  have hlv := lv_entry (as.map (cv w)) (n := mi.2.2.1) hl'
  rw [lg_entry_eq]
  rw [lv_args_cv] at hlv
  exact k p e s m (as.map (cv w)).toArray below meth c s.heap [] _ ⟨B.exec, B.bytes, B.returns, hml, hown, B.notSynchronized, (name_of_methodNamed B.named B.method).1, fun x hx => hts x (List.mem_cons_of_mem _ hx), hK⟩ (fun q h => by cases h) hH hlv

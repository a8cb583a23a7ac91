/-! ===== the cells as they stand once both objects are made: which they are, and what numbers they hold ===== -/
def layL : List (Nat × Nat) := [(10, 11), (1, 1), (12, 7), (5, 7), (2, 6), (12, 192), (12, 192), (12, 3), (0, 4), (12, 8), (12, 8), (12, 8), (12, 8), (3, 5), (12, 6), (12, 72), (12, 72), (12, 72), (12, 12), (12, 10), (5, 7), (2, 6), (12, 192), (12, 192), (12, 3), (0, 4), (12, 8), (12, 8), (12, 8), (12, 8), (3, 5), (12, 6), (12, 72), (12, 72), (12, 72), (12, 12), (12, 10), (7, 2), (12, 100), (4, 5), (13, 4), (6, 3), (12, 40), (6, 3), (12, 40), (6, 3), (12, 40), (6, 3), (12, 40), (2, 6), (12, 192), (12, 192), (12, 3), (8, 4), (12, 65), (8, 4), (12, 65), (9, 1), (12, 192), (11, 21), (12, 666), (12, 666), (12, 7), (12, 100), (12, 65), (12, 65), (12, 192), (12, 4), (12, 4), (12, 160)]
def lay (k : Nat) : Nat × Nat := layL.getD k (12, 0)
def nfl (ci : Nat) : Nat := ([4, 1, 6, 5, 5, 7, 3, 2, 4, 1, 11, 21] : List Nat).getD ci 0
/-- where a field of references leads: to the cell so many on (less 2) -/
def roff (ci j : Nat) : Option Nat := match ci with
  | 0 => some (j + 3)
  | 1 => some 3
  | 2 => if j = 0 then some 3 else if j = 1 then some 4 else if j = 5 then some 5 else none
  | 3 => if j = 0 then none else some (j + 2)
  | 4 => if j = 0 then some 0 else none
  | 5 => if j = 0 then some 3 else if j = 1 then some 7 else if j = 2 then some 12 else if j = 3 then some 17 else if j = 4 then some 18 else none
  | 6 => if j = 2 then some 3 else none
  | 7 => if j = 0 then some 3 else none
  | 8 => if j = 0 then some 3 else none
  | 9 => some 3
  | 10 => if j = 0 then some 3 else if j = 1 then some 5 else if j = 2 then some 22 else if j = 4 then some 39 else if j = 5 then some 41 else if j = 6 then some 42 else if j = 7 then some 51 else if j = 8 then some 55 else if j = 9 then some 57 else if j = 10 then some 59 else none
  | 11 => if j = 0 then some 3 else if j = 1 then some 4 else if j = 3 then some 5 else if j = 5 then some 6 else if j = 12 then some 7 else if j = 16 then some 8 else if j = 17 then some 9 else if j = 18 then some 10 else if j = 19 then some 11 else if j = 20 then some 12 else none
  | _ => none
def fld (f : Nat → Int32) (k ci j : Nat) : Value := match roff ci j with
  | some o => .ref (k + o - 2)
  | none => .int (f j)
def cE (k : Nat) (q : Nat × Nat) (f : Nat → Int32) : va_E := if q.1 = 12 then .inl (0, q.2, .inl f) else if q.1 = 13 then .inl (1, q.2, .inr (.inr (.inr (.inr (fun i => some (k + 1 + 2 * i)))))) else .inr (q.1, (List.range (nfl q.1)).map (fld f k q.1))
def sE (M : Mem) : Ent := fun k => cE k (lay k) (M k)
def mput (M : Mem) (k : Nat) (f : Nat → Int32) : Mem := fun k' => if k' = k then f else M k'
def mset (M : Mem) (k j : Nat) (x : Int32) : Mem := mput M k (upd (M k) j x)
theorem lay_lt {k : Nat} (h : ¬ lay k = (12, 0)) : k < 70 := by
  rcases Nat.lt_or_ge k 70 with q | q
  · exact q
  · exact absurd (show layL.getD k (12, 0) = (12, 0) by rw [List.getD_eq_getElem?_getD, List.getElem?_eq_none (by simpa [layL] using q)]; rfl) h
theorem lay_a {k len : Nat} (h : lay k = (12, len)) (hl : 0 < len) : k < 70 := lay_lt (by rw [h]; intro e; cases e; omega)
theorem lay_o {k ci : Nat} (h : (lay k).1 = ci) (hc : ci < 12) : k < 70 := lay_lt (by intro e; rw [e] at h; simp at h; omega)
theorem sE_a {M : Mem} {k len : Nat} (h : lay k = (12, len)) : sE M k = .inl (0, len, .inl (M k)) := by simp [sE, cE, h]
theorem sE_o {M : Mem} {k ci : Nat} (h : (lay k).1 = ci) (hc : ci < 12) : sE M k = .inr (ci, (List.range (nfl ci)).map (fld (M k) k ci)) := by
  have h1 : ¬ ci = 12 := by omega
  have h2 : ¬ ci = 13 := by omega
  simp [sE, cE, h, h1, h2]
theorem up_a {M : Mem} {k len : Nat} {f : Nat → Int32} (h : lay k = (12, len)) : va_up (sE M) k (.inl (0, len, .inl f)) = sE (mput M k f) := by
  funext q
  by_cases hq : q = k
  · subst hq
    simp [va_up, sE, cE, h, mput]
  · simp [va_up, sE, mput, hq]
theorem up_o {M : Mem} {k ci j : Nat} {x : Int32} (h : (lay k).1 = ci) (hc : ci < 12) (hr : roff ci j = none) : va_up (sE M) k (.inr (ci, ((List.range (nfl ci)).map (fld (M k) k ci)).set j (.int x))) = sE (mset M k j x) := by
  funext q
  by_cases hq : q = k
  · subst hq
    rw [sE_o h hc]
    have e : va_up (sE M) q (.inr (ci, ((List.range (nfl ci)).map (fld (M q) q ci)).set j (.int x))) q = .inr (ci, ((List.range (nfl ci)).map (fld (M q) q ci)).set j (.int x)) := by simp [va_up]
    rw [e]
    congr 2
    apply List.ext_getElem?
    intro i
    by_cases hi : i = j
    · subst hi
      by_cases hl : i < nfl ci
      · rw [List.getElem?_set_self (by simpa using hl), List.getElem?_map, List.getElem?_range hl]
        simp [fld, hr, mset, mput, upd]
      · rw [List.getElem?_eq_none (by simpa using hl), List.getElem?_eq_none (by simpa using hl)]
    · rw [List.getElem?_set_ne (Ne.symm hi), List.getElem?_map, List.getElem?_map]
      by_cases hl : i < nfl ci
      · rw [List.getElem?_range hl]
        simp [fld, mset, mput, upd, hi]
      · rw [List.getElem?_eq_none (by simpa using hl)]
        rfl
  · simp [va_up, sE, mset, mput, hq]
def RS (w : Wd) (R : Room) (mi : MI) (ce sl pc : Nat) (lv : List (Nat × Value)) (st : List Value) (M : Mem) (F : Array Value → State → List Frame → State → Prop) : Prop := RJ w R mi ce sl pc lv st 70 (sE M) F
def lift (P : Option Value → Mem → Prop) : Option Value → Nat → Ent → Prop := fun r n es => ∃ M', n = 70 ∧ es = sE M' ∧ P r M'
/-- contracts once the objects are made: of methods that answer an int, nothing, a text -/
def CS (w : Wd) (h : Nat) (mi : MI) (as : List Value) (M : Mem) (P : Option Value → Mem → Prop) : Prop := CO w h mi 0 0 as 70 (sE M) (lift P)
def CSi (w : Wd) (h : Nat) (mi : MI) (as : List Value) (M : Mem) (K : Int32 → Mem → Prop) : Prop := CS w h mi as M (fun r M' => ∃ x, r = some (.int x) ∧ K x M')
def CSv (w : Wd) (h : Nat) (mi : MI) (as : List Value) (M : Mem) (K : Mem → Prop) : Prop := CS w h mi as M (fun r M' => r = none ∧ K M')
def CSr (w : Wd) (h : Nat) (mi : MI) (as : List Value) (M : Mem) (K : Nat → Mem → Prop) : Prop := CS w h mi as M (fun r M' => ∃ k, r = some (.ref k) ∧ K k M')
/-- a walk in a method once the objects are made -/
abbrev RM (w : Wd) (h : Nat) (mi : MI) (pc : Nat) (lv : List (Nat × Value)) (st : List Value) (M : Mem) (P : Option Value → Mem → Prop) : Prop := RS w (rmk h 0 0) mi 0 0 pc lv st M (FM w 0 0 (lift P))
theorem cs_of {w : Wd} {h : Nat} {mi : MI} {as : List Value} {M : Mem} {P : Option Value → Mem → Prop} (hp : plainName mi.1.cls = true) (hl : (lg_sl as).length ≤ mi.2.2.1) (k : RM w h mi 0 (lv_args 0 as) [] M P) : CS w h mi as M P := co_of hp hl k
section STEADY
variable {w : Wd} {R : Room} {mi : MI} {ce sl pc : Nat} {lv lv' : List (Nat × Value)} {st : List Value} {M : Mem} {F : Array Value → State → List Frame → State → Prop}
theorem rs_getI {own : String} {idx ci j k : Nat} (hF : FL own idx ci j) (hr : roff ci j = none) (hj : j < nfl ci) (hc : ci < 12) (ho : mi.1.cls = own) (hd : decode mi.2.1 pc = .ok (.getfield idx, 3)) (hk : (lay k).1 = ci) (kk : RS w R mi ce sl (pc + 3) lv (.int (M k j) :: st) M F) : RS w R mi ce sl pc lv (.ref k :: st) M F :=
  rj_get hF ho hd (lay_o hk hc) (sE_o hk hc) (by rw [List.getElem?_map, List.getElem?_range hj]; simp [fld, hr]) kk
theorem rs_getR {own : String} {idx ci j k o t : Nat} (hF : FL own idx ci j) (hr : roff ci j = some o) (hj : j < nfl ci) (hc : ci < 12) (ho : mi.1.cls = own) (hd : decode mi.2.1 pc = .ok (.getfield idx, 3)) (hk : (lay k).1 = ci) (ht : k + o - 2 = t) (kk : RS w R mi ce sl (pc + 3) lv (.ref t :: st) M F) : RS w R mi ce sl pc lv (.ref k :: st) M F :=
  rj_get hF ho hd (lay_o hk hc) (sE_o hk hc) (by rw [List.getElem?_map, List.getElem?_range hj]; simp [fld, hr, ht]) kk
theorem rs_putI {own : String} {idx ci j k : Nat} {x : Int32} {ty : FieldType} (hF : FL own idx ci j) (hT : FT ci j ty false own) (hr : roff ci j = none) (hj : j < nfl ci) (hc : ci < 12) (ho : mi.1.cls = own) (hd : decode mi.2.1 pc = .ok (.putfield idx, 3)) (hn : narrow ty (.int x) = .int x) (hfit : fits ty (.int x) = true) (hk : (lay k).1 = ci) (kk : ∀ M', M' = mset M k j x → RS w R mi ce sl (pc + 3) lv st M' F) : RS w R mi ce sl pc lv (.int x :: .ref k :: st) M F :=
  rj_put hF hT ho hd hn hfit (lay_o hk hc) (sE_o hk hc) (by simpa using hj) (fun es' e => by rw [e, up_o hk hc hr]; exact kk _ rfl)
theorem rs_iald {k len : Nat} {i : Int32} (hd : decode mi.2.1 pc = .ok (.iaload, 1)) (hk : lay k = (12, len)) (hin : vp_in i len) (kk : RS w R mi ce sl (pc + 1) lv (.int (M k i.toNatClampNeg) :: st) M F) : RS w R mi ce sl pc lv (.int i :: .ref k :: st) M F :=
  rj_iald hd (lay_a hk (by have : i.toNatClampNeg < len := Nat.not_le.mp fun q => hin (Or.inr q)
                           omega)) (sE_a hk) hin kk
theorem rs_iast {k len : Nat} {i x : Int32} (hd : decode mi.2.1 pc = .ok (.iastore, 1)) (hk : lay k = (12, len)) (hin : vp_in i len) (kk : ∀ M', M' = mset M k i.toNatClampNeg x → RS w R mi ce sl (pc + 1) lv st M' F) : RS w R mi ce sl pc lv (.int x :: .int i :: .ref k :: st) M F :=
  rj_iast hd (lay_a hk (by have : i.toNatClampNeg < len := Nat.not_le.mp fun q => hin (Or.inr q)
                           omega)) (sE_a hk) hin (fun es' e => by rw [e, up_a hk]; exact kk _ rfl)
theorem rs_alen {k len : Nat} {v : Int32} (hd : decode mi.2.1 pc = .ok (.arraylength, 1)) (hk : lay k = (12, len)) (hl : 0 < len) (hv : Int32.ofNat len = v) (kk : RS w R mi ce sl (pc + 1) lv (.int v :: st) M F) : RS w R mi ce sl pc lv (.ref k :: st) M F :=
  rj_alen hd (lay_a hk hl) (sE_a hk) hv kk
/-- the row of sheets: cell 40 -/
theorem rs_aald {i : Int32} (hd : decode mi.2.1 pc = .ok (.aaload, 1)) (hin : vp_in i 4) (kk : RS w R mi ce sl (pc + 1) lv (.ref (41 + 2 * i.toNatClampNeg) :: st) M F) : RS w R mi ce sl pc lv (.int i :: .ref 40 :: st) M F := by
  have hlt : i.toNatClampNeg < 4 := Nat.not_le.mp fun q => hin (Or.inr q)
  exact rj_aald (len := 4) (g := fun i => some (40 + 1 + 2 * i)) hd (by omega) rfl hin rfl (by omega) kk
theorem rs_copy {own : String} {idx a b n0 n1 : Nat} {sp dp x : Int32} {rest : List Value} (ho : mi.1.cls = own) (h1 : Cond.methodLink own idx arraycopyName ∈ tG) (h2 : Cond.native arraycopyName ∈ tG) (h3 : Cond.static arraycopyName ∈ tG) (h4 : Cond.initialized "java/lang/System" ∈ tG) (hd : decode mi.2.1 pc = .ok (.invokestatic idx, 3))
    (hea : lay a = (12, n0)) (heb : lay b = (12, n1)) (hn0 : 0 < n0) (hn1 : 0 < n1) (g1 : ¬ sp < 0) (g2 : ¬ dp < 0) (g3 : ¬ x < 0) (g4 : sp.toNatClampNeg + x.toNatClampNeg ≤ n0) (g5 : dp.toNatClampNeg + x.toNatClampNeg ≤ n1) (hR : 1 ≤ R.frames) (hR2 : (rest.map fun v => v.category).sum + (nativeFrameWords "java/lang/System" "arraycopy" 5 + 11) ≤ R.locals)
    (kk : ∀ M', M' = mput M b (va_cpy (M a) (M b) sp.toNatClampNeg dp.toNatClampNeg x.toNatClampNeg) → RS w R mi ce sl (pc + 3) lv rest M' F) : RS w R mi ce sl pc lv (.int x :: .int dp :: .ref b :: .int sp :: .ref a :: rest) M F :=
  rj_copy ho h1 h2 h3 h4 hd (lay_a hea hn0) (lay_a heb hn1) (sE_a hea) (sE_a heb) g1 g2 g3 g4 g5 hR hR2 (fun es' e => by rw [e, up_a heb]; exact kk _ rfl)
theorem rs_callV {own C : String} {T : u_T} {N idx k h : Nat} {mi2 : MI} {As rest : List Value} {ci np : Nat} {P : Option Value → Mem → Prop} (ho : mi.1.cls = own) (hl : Cond.methodLink own idx mi2.1 ∈ tG) (hm : MV mi2 np) (hd : decode mi.2.1 pc = .ok (.invokevirtual idx, 3)) (hk : (lay k).1 = ci) (hc : vwCl[ci]? = some (C, T, N)) (hC : mi2.1.cls = C) (hst : st = As.reverse ++ .ref k :: rest) (hn : As.length = np) (hw : (rest.map fun v => v.category).sum ≤ 8)
    (hR : h + 1 ≤ R.frames ∧ 8 + (mi2.2.2.1 + 11) + 39 * h ≤ R.locals) (hf : ce ≤ R.cells ∧ sl ≤ R.slots) (hco : CS w h mi2 (.ref k :: As) M P) (kk : ∀ r M', P r M' → RS w R mi ce sl (pc + 3) lv (r.toList ++ rest) M' F) : RS w R mi ce sl pc lv st M F := by
  have hci : ci < 12 := (List.getElem?_eq_some_iff.mp hc).1
  exact rj_callV ho hl hm hd (lay_o hk hci) (sE_o hk hci) hc hC hst hn hw hR hf hco (fun r n' es' hq => by obtain ⟨M', rfl, rfl, hP⟩ := hq; exact kk r M' hP)
theorem rs_callS {own : String} {idx h : Nat} {mi2 : MI} {As rest : List Value} {np : Nat} {P : Option Value → Mem → Prop} (ho : mi.1.cls = own) (hl : Cond.methodLink own idx mi2.1 ∈ tG) (hm : MT mi2 np) (hd : decode mi.2.1 pc = .ok (.invokestatic idx, 3)) (hst : st = As.reverse ++ rest) (hn : As.length = np) (hw : (rest.map fun v => v.category).sum ≤ 8)
    (hR : h + 1 ≤ R.frames ∧ 8 + (mi2.2.2.1 + 11) + 39 * h ≤ R.locals) (hf : ce ≤ R.cells ∧ sl ≤ R.slots) (hco : CS w h mi2 As M P) (kk : ∀ r M', P r M' → RS w R mi ce sl (pc + 3) lv (r.toList ++ rest) M' F) : RS w R mi ce sl pc lv st M F :=
  rj_callS ho hl hm hd hst hn hw hR hf hco (fun r n' es' hq => by obtain ⟨M', rfl, rfl, hP⟩ := hq; exact kk r M' hP)
theorem rs_callSN {own host : String} {idx h : Nat} {mi2 : MI} {As rest : List Value} {np : Nat} {P : Option Value → Mem → Prop} (ho : mi.1.cls = own) (hl : Cond.methodLinkNest own idx mi2.1 host ∈ tN) (hm : MT mi2 np) (hd : decode mi.2.1 pc = .ok (.invokestatic idx, 3)) (hst : st = As.reverse ++ rest) (hn : As.length = np) (hw : (rest.map fun v => v.category).sum ≤ 8)
    (hR : h + 1 ≤ R.frames ∧ 8 + (mi2.2.2.1 + 11) + 39 * h ≤ R.locals) (hf : ce ≤ R.cells ∧ sl ≤ R.slots) (hco : CS w h mi2 As M P) (kk : ∀ r M', P r M' → RS w R mi ce sl (pc + 3) lv (r.toList ++ rest) M' F) : RS w R mi ce sl pc lv st M F :=
  rj_callSN ho hl hm hd hst hn hw hR hf hco (fun r n' es' hq => by obtain ⟨M', rfl, rfl, hP⟩ := hq; exact kk r M' hP)
theorem rs_callT {own : String} {idx i h : Nat} {mi2 : MI} {As rest : List Value} {np : Nat} {P : Option Value → Mem → Prop} (hi : i < 28) (ho : mi.1.cls = own) (hl : Cond.methodLink own idx mi2.1 ∈ tG) (hm : MV mi2 np) (hd : decode mi.2.1 pc = .ok (.invokevirtual idx, 3)) (hC : mi2.1.cls = "java/lang/String") (hst : st = As.reverse ++ .ref (1000 + (4 + i)) :: rest) (hn : As.length = np) (hw : (rest.map fun v => v.category).sum ≤ 8)
    (hR : h + 1 ≤ R.frames ∧ 8 + (mi2.2.2.1 + 11) + 39 * h ≤ R.locals) (hf : ce ≤ R.cells ∧ sl ≤ R.slots) (hco : CS w h mi2 (.ref (1000 + (4 + i)) :: As) M P) (kk : ∀ r M', P r M' → RS w R mi ce sl (pc + 3) lv (r.toList ++ rest) M' F) : RS w R mi ce sl pc lv st M F :=
  rj_callT hi ho hl hm hd hC hst hn hw hR hf hco (fun r n' es' hq => by obtain ⟨M', rfl, rfl, hP⟩ := hq; exact kk r M' hP)
end STEADY
section STEADYRET
variable {w : Wd} {h : Nat} {mi : MI} {pc : Nat} {lv : List (Nat × Value)} {M : Mem} {P : Option Value → Mem → Prop}
theorem rm_iret {x : Int32} {ty : FieldType} (hd : decode mi.2.1 pc = .ok (.ireturn, 1)) (hr : mi.2.2.2 = some ty) (hn : narrow ty (.int x) = .int x) (hq : P (some (.int x)) M) : RM w h mi pc lv [.int x] M P := rj_iret hd hr hn (Nat.le_refl _) (Nat.le_refl _) ⟨M, rfl, rfl, hq⟩
theorem rm_vret (hd : decode mi.2.1 pc = .ok (.return_, 1)) (hr : mi.2.2.2 = none) (hq : P none M) : RM w h mi pc lv [] M P := rj_vret hd hr (Nat.le_refl _) (Nat.le_refl _) ⟨M, rfl, rfl, hq⟩
theorem rm_aret {k : Nat} {C : String} (hd : decode mi.2.1 pc = .ok (.areturn, 1)) (hr : mi.2.2.2 = some (.object C)) (hq : P (some (.ref k)) M) : RM w h mi pc lv [.ref k] M P := rj_aret hd hr (Nat.le_refl _) (Nat.le_refl _) ⟨M, rfl, rfl, hq⟩
end STEADYRET

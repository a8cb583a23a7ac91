/-! ===== rules for the printed walks: a walk in a method, heights, names for numbers ===== -/
def b2i (P : Prop) [Decidable P] : Int32 := if P then 1 else 0
theorem b2i_0 {P : Prop} [Decidable P] : b2i P = 0 ↔ ¬ P := by unfold b2i; by_cases h : P <;> simp [h]
theorem b2i_t {P : Prop} [Decidable P] (h : P) : b2i P = 1 := if_pos h
theorem b2i_f {P : Prop} [Decidable P] (h : ¬ P) : b2i P = 0 := if_neg h
def isB (x : Int32) : Prop := x = 0 ∨ x = 1
theorem isB_b2i {P : Prop} [Decidable P] : isB (b2i P) := by unfold b2i isB; by_cases h : P <;> simp [h]
theorem isB_n {x : Int32} (h : isB x) : narrow .boolean (.int x) = .int x := by rcases h with rfl | rfl <;> rfl
theorem isB_f {x : Int32} (h : isB x) : fits .boolean (.int x) = true := by rcases h with rfl | rfl <;> rfl
section RMX
variable {w : Wd} {R : Room} {mi : MI} {ce sl pc : Nat} {lv lv' : List (Nat × Value)} {st : List Value} {M : Mem} {F : Array Value → State → List Frame → State → Prop}
theorem rs_sub (ks : List Nat) (hl : lv_pick lv ks = lv') (kk : RS w R mi ce sl pc lv' st M F) : RS w R mi ce sl pc lv st M F :=
  fun p e s m args below meth c H locs ls f hlc hh hv => kk p e s m args below meth c H locs ls f hlc hh ⟨hv.1, hv.2.1, fun q hq => by
    obtain ⟨y, hy, rfl⟩ := List.mem_map.mp hq
    rw [← hl] at hy
    obtain ⟨k, -, hk⟩ := List.mem_filterMap.mp hy
    exact hv.2.2 _ (List.mem_map.mpr ⟨y, List.mem_of_getElem? hk, rfl⟩)⟩
theorem rs_if_eqB {P : Prop} [Decidable P] {off : Int} {tgt : Nat} (hd : decode mi.2.1 pc = .ok (.ifCond .eq off, 3)) (ht : (pc : Int) + off = (tgt : Int)) (kt : ¬ P → RS w R mi ce sl tgt lv st M F) (kf : P → RS w R mi ce sl (pc + 3) lv st M F) : RS w R mi ce sl pc lv (.int (b2i P) :: st) M F :=
  rj_if_eq hd ht (fun h => kt (b2i_0.mp h)) (fun h => kf (Classical.byContradiction fun q => h (b2i_f q)))
theorem rs_if_neB {P : Prop} [Decidable P] {off : Int} {tgt : Nat} (hd : decode mi.2.1 pc = .ok (.ifCond .ne off, 3)) (ht : (pc : Int) + off = (tgt : Int)) (kt : P → RS w R mi ce sl tgt lv st M F) (kf : ¬ P → RS w R mi ce sl (pc + 3) lv st M F) : RS w R mi ce sl pc lv (.int (b2i P) :: st) M F :=
  rj_if_ne hd ht (fun h => kt (Classical.byContradiction fun q => h (b2i_f q))) (fun h => kf (b2i_0.mp h))
theorem rs_ite_t {c : Prop} [Decidable c] {a b : Int32} (h : c) (k : RS w R mi ce sl pc lv (.int (if c then a else b) :: st) M F) : RS w R mi ce sl pc lv (.int a :: st) M F := by rwa [if_pos h] at k
theorem rs_ite_f {c : Prop} [Decidable c] {a b : Int32} (h : ¬ c) (k : RS w R mi ce sl pc lv (.int (if c then a else b) :: st) M F) : RS w R mi ce sl pc lv (.int b :: st) M F := by rwa [if_neg h] at k
theorem rs_at {x v : Int32} (h : x = v) (k : RS w R mi ce sl pc lv (.int v :: st) M F) : RS w R mi ce sl pc lv (.int x :: st) M F := h ▸ k
theorem rj_iincV {i : Nat} {k : Int} {x c : Int32} (lvf : Int32 → List (Nat × Value)) (hd : decode mi.2.1 pc = .ok (.iinc i k, 3)) (q : Nat) (hq : lv[q]? = some (i, .int x)) (hk : Int32.ofInt k = c) (hn : i < mi.2.2.1) (hc : cat1 lv = true) (hs : ∀ y, lset i (.int y) lv = lvf y) (kk : ∀ y, y = x + c → RS w R mi ce sl (pc + 3) (lvf y) st M F) : RS w R mi ce sl pc lv st M F :=
  rj_iinc hd q hq rfl hn hc (hs _) (kk _ (by rw [hk]))
end RMX
section RMC
variable {w : Wd} {h : Nat} {mi : MI} {pc : Nat} {lv : List (Nat × Value)} {st : List Value} {M : Mem} {P : Option Value → Mem → Prop}
theorem rmR {mi2 : MI} (h20 : mi2.2.2.1 ≤ 20) : h + 1 ≤ (rmk (h + 1) 0 0).frames ∧ 8 + (mi2.2.2.1 + 11) + 39 * h ≤ (rmk (h + 1) 0 0).locals := ⟨Nat.le_refl _, by show 8 + (mi2.2.2.1 + 11) + 39 * h ≤ 39 * (h + 1); omega⟩
theorem rm_callVi {own C : String} {T : u_T} {N idx k : Nat} {mi2 : MI} (As : List Value) {rest : List Value} {ci np : Nat} {K : Int32 → Mem → Prop} (hl : Cond.methodLink own idx mi2.1 ∈ tG) (hm : MV mi2 np) (ho : mi.1.cls = own) (hd : decode mi.2.1 pc = .ok (.invokevirtual idx, 3)) (hk : (lay k).1 = ci) (hc : vwCl[ci]? = some (C, T, N)) (hC : mi2.1.cls = C) (hst : st = As.reverse ++ .ref k :: rest) (hn : As.length = np) (hw : (rest.map fun v => v.category).sum ≤ 8) (h20 : mi2.2.2.1 ≤ 20)
    (hco : CSi w h mi2 (.ref k :: As) M K) (kk : ∀ x M', K x M' → RM w (h + 1) mi (pc + 3) lv (.int x :: rest) M' P) : RM w (h + 1) mi pc lv st M P :=
  rs_callV ho hl hm hd hk hc hC hst hn hw (rmR h20) ⟨Nat.le_refl _, Nat.le_refl _⟩ hco (fun r M' hq => by obtain ⟨x, rfl, hq⟩ := hq; exact kk x M' hq)
theorem rm_callVv {own C : String} {T : u_T} {N idx k : Nat} {mi2 : MI} (As : List Value) {rest : List Value} {ci np : Nat} {K : Mem → Prop} (hl : Cond.methodLink own idx mi2.1 ∈ tG) (hm : MV mi2 np) (ho : mi.1.cls = own) (hd : decode mi.2.1 pc = .ok (.invokevirtual idx, 3)) (hk : (lay k).1 = ci) (hc : vwCl[ci]? = some (C, T, N)) (hC : mi2.1.cls = C) (hst : st = As.reverse ++ .ref k :: rest) (hn : As.length = np) (hw : (rest.map fun v => v.category).sum ≤ 8) (h20 : mi2.2.2.1 ≤ 20)
    (hco : CSv w h mi2 (.ref k :: As) M K) (kk : ∀ M', K M' → RM w (h + 1) mi (pc + 3) lv rest M' P) : RM w (h + 1) mi pc lv st M P :=
  rs_callV ho hl hm hd hk hc hC hst hn hw (rmR h20) ⟨Nat.le_refl _, Nat.le_refl _⟩ hco (fun r M' hq => by obtain ⟨rfl, hq⟩ := hq; exact kk M' hq)
theorem rm_callSi {own : String} {idx : Nat} {mi2 : MI} (As : List Value) {rest : List Value} {np : Nat} {K : Int32 → Mem → Prop} (hl : Cond.methodLink own idx mi2.1 ∈ tG) (hm : MT mi2 np) (ho : mi.1.cls = own) (hd : decode mi.2.1 pc = .ok (.invokestatic idx, 3)) (hst : st = As.reverse ++ rest) (hn : As.length = np) (hw : (rest.map fun v => v.category).sum ≤ 8) (h20 : mi2.2.2.1 ≤ 20)
    (hco : CSi w h mi2 As M K) (kk : ∀ x M', K x M' → RM w (h + 1) mi (pc + 3) lv (.int x :: rest) M' P) : RM w (h + 1) mi pc lv st M P :=
  rs_callS ho hl hm hd hst hn hw (rmR h20) ⟨Nat.le_refl _, Nat.le_refl _⟩ hco (fun r M' hq => by obtain ⟨x, rfl, hq⟩ := hq; exact kk x M' hq)
theorem rm_callSv {own : String} {idx : Nat} {mi2 : MI} (As : List Value) {rest : List Value} {np : Nat} {K : Mem → Prop} (hl : Cond.methodLink own idx mi2.1 ∈ tG) (hm : MT mi2 np) (ho : mi.1.cls = own) (hd : decode mi.2.1 pc = .ok (.invokestatic idx, 3)) (hst : st = As.reverse ++ rest) (hn : As.length = np) (hw : (rest.map fun v => v.category).sum ≤ 8) (h20 : mi2.2.2.1 ≤ 20)
    (hco : CSv w h mi2 As M K) (kk : ∀ M', K M' → RM w (h + 1) mi (pc + 3) lv rest M' P) : RM w (h + 1) mi pc lv st M P :=
  rs_callS ho hl hm hd hst hn hw (rmR h20) ⟨Nat.le_refl _, Nat.le_refl _⟩ hco (fun r M' hq => by obtain ⟨rfl, hq⟩ := hq; exact kk M' hq)
theorem rm_callSr {own : String} {idx : Nat} {mi2 : MI} (As : List Value) {rest : List Value} {np : Nat} {K : Nat → Mem → Prop} (hl : Cond.methodLink own idx mi2.1 ∈ tG) (hm : MT mi2 np) (ho : mi.1.cls = own) (hd : decode mi.2.1 pc = .ok (.invokestatic idx, 3)) (hst : st = As.reverse ++ rest) (hn : As.length = np) (hw : (rest.map fun v => v.category).sum ≤ 8) (h20 : mi2.2.2.1 ≤ 20)
    (hco : CSr w h mi2 As M K) (kk : ∀ x M', K x M' → RM w (h + 1) mi (pc + 3) lv (.ref x :: rest) M' P) : RM w (h + 1) mi pc lv st M P :=
  rs_callS ho hl hm hd hst hn hw (rmR h20) ⟨Nat.le_refl _, Nat.le_refl _⟩ hco (fun r M' hq => by obtain ⟨x, rfl, hq⟩ := hq; exact kk x M' hq)
theorem rm_callSNi {own host : String} {idx : Nat} {mi2 : MI} (As : List Value) {rest : List Value} {np : Nat} {K : Int32 → Mem → Prop} (hl : Cond.methodLinkNest own idx mi2.1 host ∈ tN) (hm : MT mi2 np) (ho : mi.1.cls = own) (hd : decode mi.2.1 pc = .ok (.invokestatic idx, 3)) (hst : st = As.reverse ++ rest) (hn : As.length = np) (hw : (rest.map fun v => v.category).sum ≤ 8) (h20 : mi2.2.2.1 ≤ 20)
    (hco : CSi w h mi2 As M K) (kk : ∀ x M', K x M' → RM w (h + 1) mi (pc + 3) lv (.int x :: rest) M' P) : RM w (h + 1) mi pc lv st M P :=
  rs_callSN ho hl hm hd hst hn hw (rmR h20) ⟨Nat.le_refl _, Nat.le_refl _⟩ hco (fun r M' hq => by obtain ⟨x, rfl, hq⟩ := hq; exact kk x M' hq)
theorem rm_callSNv {own host : String} {idx : Nat} {mi2 : MI} (As : List Value) {rest : List Value} {np : Nat} {K : Mem → Prop} (hl : Cond.methodLinkNest own idx mi2.1 host ∈ tN) (hm : MT mi2 np) (ho : mi.1.cls = own) (hd : decode mi.2.1 pc = .ok (.invokestatic idx, 3)) (hst : st = As.reverse ++ rest) (hn : As.length = np) (hw : (rest.map fun v => v.category).sum ≤ 8) (h20 : mi2.2.2.1 ≤ 20)
    (hco : CSv w h mi2 As M K) (kk : ∀ M', K M' → RM w (h + 1) mi (pc + 3) lv rest M' P) : RM w (h + 1) mi pc lv st M P :=
  rs_callSN ho hl hm hd hst hn hw (rmR h20) ⟨Nat.le_refl _, Nat.le_refl _⟩ hco (fun r M' hq => by obtain ⟨rfl, hq⟩ := hq; exact kk M' hq)
theorem rm_callTi {own : String} {idx i : Nat} {mi2 : MI} (As : List Value) {rest : List Value} {np : Nat} {K : Int32 → Mem → Prop} (hi : i < 28) (hl : Cond.methodLink own idx mi2.1 ∈ tG) (hm : MV mi2 np) (ho : mi.1.cls = own) (hd : decode mi.2.1 pc = .ok (.invokevirtual idx, 3)) (hC : mi2.1.cls = "java/lang/String") (hst : st = As.reverse ++ .ref (1000 + (4 + i)) :: rest) (hn : As.length = np) (hw : (rest.map fun v => v.category).sum ≤ 8) (h20 : mi2.2.2.1 ≤ 20)
    (hco : CSi w h mi2 (.ref (1000 + (4 + i)) :: As) M K) (kk : ∀ x M', K x M' → RM w (h + 1) mi (pc + 3) lv (.int x :: rest) M' P) : RM w (h + 1) mi pc lv st M P :=
  rs_callT hi ho hl hm hd hC hst hn hw (rmR h20) ⟨Nat.le_refl _, Nat.le_refl _⟩ hco (fun r M' hq => by obtain ⟨x, rfl, hq⟩ := hq; exact kk x M' hq)
end RMC
/-- a contract: out of the walk from the method's entry -/
theorem csi_of {w : Wd} {h : Nat} {mi : MI} {as : List Value} {M : Mem} {K : Int32 → Mem → Prop} (hp : plainName mi.1.cls = true) (hl : (lg_sl as).length ≤ mi.2.2.1) (k : RM w h mi 0 (lv_args 0 as) [] M (fun r M' => ∃ x, r = some (.int x) ∧ K x M')) : CSi w h mi as M K := cs_of hp hl k
theorem csv_of {w : Wd} {h : Nat} {mi : MI} {as : List Value} {M : Mem} {K : Mem → Prop} (hp : plainName mi.1.cls = true) (hl : (lg_sl as).length ≤ mi.2.2.1) (k : RM w h mi 0 (lv_args 0 as) [] M (fun r M' => r = none ∧ K M')) : CSv w h mi as M K := cs_of hp hl k
theorem csr_of {w : Wd} {h : Nat} {mi : MI} {as : List Value} {M : Mem} {K : Nat → Mem → Prop} (hp : plainName mi.1.cls = true) (hl : (lg_sl as).length ≤ mi.2.2.1) (k : RM w h mi 0 (lv_args 0 as) [] M (fun r M' => ∃ x, r = some (.ref x) ∧ K x M')) : CSr w h mi as M K := cs_of hp hl k
theorem rs_b1 {w : Wd} {R : Room} {mi : MI} {ce sl pc : Nat} {lv : List (Nat × Value)} {st : List Value} {M : Mem} {F : Array Value → State → List Frame → State → Prop} {c : Prop} [Decidable c] (h : c) (k : RS w R mi ce sl pc lv (.int (b2i c) :: st) M F) : RS w R mi ce sl pc lv (.int 1 :: st) M F := by rwa [b2i_t h] at k
theorem rs_b0 {w : Wd} {R : Room} {mi : MI} {ce sl pc : Nat} {lv : List (Nat × Value)} {st : List Value} {M : Mem} {F : Array Value → State → List Frame → State → Prop} {c : Prop} [Decidable c] (h : ¬ c) (k : RS w R mi ce sl pc lv (.int (b2i c) :: st) M F) : RS w R mi ce sl pc lv (.int 0 :: st) M F := by rwa [b2i_f h] at k

/-! ===== the law ===== -/
def R_law : String := "PaneThreadLaw"
def lw_P (b : Addr) (xs : List Int32) (args : Array Value) (s : State) : Prop := args = #[.ref b] ∧ s.IntsAt b xs ∧ xs.length ≤ 3072 ∧ (Jvm.Cond.and given_1 narrow_1).before args s = true
def lw_Q (_ : Array Value) (s : State) (o : Outcome) (t : State) : Prop := o = .returned (some (.int 1)) ∧ Framed s o t [] 600000 7302250
def lw_Z (below : List Frame) (a : Array Value) (s : State) : State → Prop := fun t => ∃ o, t.status = .running ∧ Ended t below o ∧ lw_Q a s o t
/-- the law's own end, with 1 on the stack, nothing written that was there before, its room as the claim has it -/
theorem lw_ret {p : Program} {l : Launch} {e : Env} {s : State} {m : MethodId} {below : List Frame} {meth : Method} {c : Code} {b : Nat} (hx : p.tables.exec = Jvm.exec) (hb : c.code = code) (hr : meth.sig.returnType = ret) (hlocks : meth.locks = false) {pc : Nat} {H : Heap} {ls : Array Slot} (hdg : decode code pc = .ok (.ireturn, 1)) : W p l e room_1 s m #[Value.ref b] below meth c H [] 600000 7302250 (lw_Z below #[Value.ref b] s) (F0 m pc ls [.int 1]) := by
  intro T hT X
  obtain ⟨fs, hret, hrun, hended, hW, hframe⟩ := X.leave (v := some (.int 1)) (hlocks := hlocks) (fun h => by rw [hr] at h; cases h)
  have hmeth' : T.vm.method? m = some meth := X.method'
  refine ⟨T.setFrames fs, ?_, .returned (some (.int 1)), hrun, hended, rfl, ⟨_, rfl⟩, hW, hframe⟩
  jvm_step X.here [X.here.top, hx, hb, hdg, hmeth', hr, ret, narrow_b1]
  (try refine ⟨rfl, ?_⟩); (try refine ⟨rfl, ?_⟩)
  first | (intro acts; rw [hret _ acts rfl rfl rfl]) | rw [hret _ _ rfl rfl rfl]
  exact Steps.refl _
/-- what holds at the law's entry: the machine, the code, the tables' words (any of lw_tbl by 'hts w (by decide +kernel)'), the script of L ints xs at the cell b, what the Statement gives of the start (any of its parts by flat_of_before) -/
def lw_At (p : Program) (s : State) (m : MethodId) (meth : Method) (c : Code) (b L : Nat) (xs : Nat → Int32) : Prop :=
  p.tables.exec = Jvm.exec ∧ c.code = code ∧ meth.sig.returnType = ret ∧ c.maxLocals = 4 ∧ s.vm.findClass R_law = some m.cls ∧ (∀ w ∈ lw_tbl, w.before #[Value.ref b] s = true) ∧ va_X b L xs s s.heap ∧ b < s.heap.size ∧ meth.locks = false ∧ (Jvm.Cond.and given_1 narrow_1).before #[Value.ref b] s = true
/-- the law's own end, with 1 on the stack, nothing written that was there before, its room as the claim has it -/
theorem lw_retA {p : Program} {l : Launch} {e : Env} {s : State} {m : MethodId} {below : List Frame} {meth : Method} {c : Code} {args : Array Value} (hx : p.tables.exec = Jvm.exec) (hb : c.code = code) (hr : meth.sig.returnType = ret) (hlocks : meth.locks = false) {pc : Nat} {H : Heap} {ls : Array Slot} (hdg : decode code pc = .ok (.ireturn, 1)) : W p l e room_1 s m args below meth c H [] 600000 7302250 (lw_Z below args s) (F0 m pc ls [.int 1]) := by
  intro T hT X
  obtain ⟨fs, hret, hrun, hended, hW, hframe⟩ := X.leave (v := some (.int 1)) (hlocks := hlocks) (fun h => by rw [hr] at h; cases h)
  have hmeth' : T.vm.method? m = some meth := X.method'
  refine ⟨T.setFrames fs, ?_, .returned (some (.int 1)), hrun, hended, rfl, ⟨_, rfl⟩, hW, hframe⟩
  jvm_step X.here [X.here.top, hx, hb, hdg, hmeth', hr, ret, narrow_b1]
  (try refine ⟨rfl, ?_⟩); (try refine ⟨rfl, ?_⟩)
  first | (intro acts; rw [hret _ acts rfl rfl rfl]) | rw [hret _ _ rfl rfl rfl]
  exact Steps.refl _
abbrev kL (nm : String) : MI := (⟨RL, nm, "([I)Z"⟩, cL_law, 4, ret)
/-- the law's end: what is asked of it, if the world's heap is that of the entry -/
def LF (w : Wd) : Array Value → State → List Frame → State → Prop := fun args s below t => s.heap = wH w → lw_Z below args s t
theorem rj_lret {w : Wd} {nm : String} {ce sl n : Nat} {lv : List (Nat × Value)} {es : Ent} (hce : ce ≤ 600000) (hsl : sl ≤ 7302250) : RJ w room_1 (kL nm) ce sl 1545 lv [.int 1] n es (LF w) := by
  intro p e s m args below meth c H locs ls f hl hh hlv
  by_cases hs : s.heap = wH w
  · have g := W.widen hce hsl (va_forget (p := p) (l := wl w) (e := e) (R := room_1) (s := s) (m := m) (args := args) (below := below) (meth := meth) (c := c) (H := H) (locs := locs) (fun q hq => by rw [hs]; exact hl q hq) (lw_retA (l := wl w) (e := e) (args := args) (below := below) (H := H) (ls := ls) f.1 f.2.1 f.2.2.1 f.2.2.2.2.2.1 dL_law_1545))
    intro T hT X
    obtain ⟨t, a, b⟩ := g T hT X
    exact ⟨t, a, fun _ => b⟩
  · intro T hT X
    exact ⟨_, Steps.refl _, fun h => absurd h hs⟩
section LAWR
variable {w : Wd} {nm : String} {ce sl pc : Nat} {lv : List (Nat × Value)} {st : List Value} {M : Mem}
theorem rl_arg {st : List Value} {i k : Nat} {x : Int32} (hd : decode cL_law pc = .ok (.iaload, 1)) (hx : nI i + x = nI (i + k)) (hi : i + k < wL w) (hL : wL w ≤ 3072) (kk : RS w room_1 (kL nm) ce sl (pc + 1) lv (.int (wS w (i + k)) :: st) M (LF w)) : RS w room_1 (kL nm) ce sl pc lv (.int (nI i + x) :: .ref 1000 :: st) M (LF w) := by
  rw [hx]
  refine rj_sld hd (vp_in_nI hi (by omega)) ?_
  rw [nI_clamp (by omega)]
  exact kk
theorem rl_call1 {idx np : Nat} {kc kr : MI} {As : List Value} (hl : Cond.methodLink RL idx kc.1 ∈ tG) (hm : MV kc np) (hd : decode cL_law pc = .ok (.invokevirtual idx, 3)) (hC : kc.1.cls = RX10) (hst : st = As.reverse ++ [.ref 0]) (hn : As.length = np) (h20 : kc.2.2.1 ≤ 21) (hf : ce ≤ 600000 ∧ sl ≤ 7302250) (hp : PAIR w kc kr As M)
    (kk : ∀ x M', CSi w 12 kr (.ref 59 :: As) M' (fun r2 M2 => x = r2 ∧ INV M2) → RS w room_1 (kL nm) ce sl (pc + 3) lv [.int x] M' (LF w)) : RS w room_1 (kL nm) ce sl pc lv st M (LF w) :=
  rs_callV (T := TX10) (N := 11) (k := 0) (ci := 10) (rest := []) rfl hl hm hd rfl rfl hC hst hn (Nat.le_of_ble_eq_true rfl) ⟨Nat.le_of_ble_eq_true rfl, by show 8 + (kc.2.2.1 + 11) + 39 * 12 ≤ 508; omega⟩ hf hp (fun r M' hq => by obtain ⟨x, rfl, hq⟩ := hq; exact kk x M' hq)
theorem rl_call2 {idx np : Nat} {kr : MI} {As : List Value} {x : Int32} (hl : Cond.methodLink RL idx kr.1 ∈ tG) (hm : MV kr np) (hd : decode cL_law pc = .ok (.invokevirtual idx, 3)) (hC : kr.1.cls = RX11) (hst : st = As.reverse ++ [.ref 59, .int x]) (hn : As.length = np) (h20 : kr.2.2.1 ≤ 21) (hf : ce ≤ 600000 ∧ sl ≤ 7302250) (hp : CSi w 12 kr (.ref 59 :: As) M (fun r2 M2 => x = r2 ∧ INV M2))
    (kk : ∀ M', INV M' → RS w room_1 (kL nm) ce sl (pc + 3) lv [.int x, .int x] M' (LF w)) : RS w room_1 (kL nm) ce sl pc lv st M (LF w) :=
  rs_callV (T := TX11) (N := 21) (k := 59) (ci := 11) (rest := [.int x]) rfl hl hm hd rfl rfl hC hst hn (Nat.le_of_ble_eq_true rfl) ⟨Nat.le_of_ble_eq_true rfl, by show 8 + (kr.2.2.1 + 11) + 39 * 12 ≤ 508; omega⟩ hf hp (fun r M' hq => by obtain ⟨y, rfl, rfl, hq⟩ := hq; exact kk M' hq)
end LAWR

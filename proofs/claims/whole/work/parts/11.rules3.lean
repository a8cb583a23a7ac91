/-! ===== calls ===== -/
/-- what the tables say of a method that is called: its code, its class, its parameters -/
def MB (mi : MI) (np : Nat) : Prop := Cond.code mi.1 mi.2.1 mi.2.2.1 mi.2.2.2 ∈ tG ∧ Cond.initialized mi.1.cls ∈ tG ∧ mi.1.cls ≠ "java/lang/invoke/MethodHandle" ∧ mi.1.cls ≠ "java/lang/invoke/VarHandle" ∧ (parseMethodDescriptor mi.1.desc).map (fun d => d.parameters.length) = some np
def MV (mi : MI) (np : Nat) : Prop := MB mi np ∧ Cond.instanceMethod mi.1 ∈ tG ∧ Cond.selects mi.1.cls mi.1 mi.1 ∈ tG
def MT (mi : MI) (np : Nat) : Prop := MB mi np ∧ Cond.static mi.1 ∈ tG
def MC (mi : MI) (np : Nat) : Prop := MB mi np ∧ Cond.instanceMethod mi.1 ∈ tG ∧ mi.1.name = "<init>" ∧ mi.2.2.2 = none
theorem goodC {mi : MI} (h : Cond.code mi.1 mi.2.1 mi.2.2.1 mi.2.2.2 ∈ tG) : GoodIn tG (Cond.code mi.1 mi.2.1 mi.2.2.1 mi.2.2.2 :: tG) := fun x hx => (List.mem_cons.mp hx).elim (fun e => e ▸ tG_good _ h) (fun h => tG_good x h)
theorem st_r (w : Wd) (r : Option Value) (rest : List Value) : (r.map (cv w)).toList ++ rest.map (cv w) = (r.toList ++ rest).map (cv w) := by cases r <;> simp
theorem as_rev (w : Wd) (As : List Value) : (As.map (cv w)).reverse = As.reverse.map (cv w) := by rw [List.map_reverse]
theorem co_blind {w : Wd} {as : List Value} {n : Nat} {es : Ent} : FrameBlind (fun a U => a = (as.map (cv w)).toArray ∧ KS w U ∧ HH w U.heap n es) := fun a U g mk h => ⟨h.1, KS.same (s := U) (U := U.calling g mk a) rfl h.2.1, h.2.2⟩
section RULES3
variable {w : Wd} {R : Room} {mi : MI} {ce sl pc : Nat} {lv lv' : List (Nat × Value)} {st : List Value} {n : Nat} {es : Ent} {F : Array Value → State → List Frame → State → Prop}
theorem run_end {p : Program} {e : Env} {s : State} {m : MethodId} {args : Array Value} {below : List Frame} {meth : Method} {c : Code} {H : Heap} {locs : List Loc} {ls : Array Slot} {mc ms : Nat} {Q : Option Value → Nat → Ent → Prop} {st0 rest : List Value} {a : Array Value}
    (hr : va_Run p (wl w) e R s m args below meth c H locs ce sl mc ms (F0 m pc ls st0) (rest.map (cv w)) (QC w Q a) (wA w)) (f : FX w mi p s m args meth c) (hl : ∀ q ∈ locs, wB w ≤ q.base) (hlv : lv_has ls mi.2.2.1 (lv.map (fun q => (q.1, cv w q.2))))
    (kk : ∀ r n' es', Q r n' es' → RJ w R mi (ce + mc) (sl + ms) (pc + 3) lv (r.toList ++ rest) n' es' F) : W p (wl w) e R s m args below meth c H locs ce sl (F args s below) (F0 m pc ls st0) := by
  intro T hT X
  obtain ⟨v, st₀, t, T', L, h0, X', hL, e1, e2, ⟨r, n', es', hrr, hh', hq⟩, stp⟩ := hr T hT X
  cases hrr
  obtain ⟨t2, a1, b1⟩ := kk r n' es' hq p e s m args below meth c T'.heap (locs ++ L) ls f (fun q hq => (List.mem_append.mp hq).elim (hl q) (hL q)) (by rw [e1]; exact hh') hlv T' rfl X'
  refine ⟨t2, stp t2 ?_, b1⟩
  rw [st_r]
  exact a1
theorem rj_callV {own C : String} {T : u_T} {N idx k h : Nat} {mi2 : MI} {As rest fs : List Value} {ci np mc ms : Nat} {Q : Option Value → Nat → Ent → Prop} (ho : mi.1.cls = own) (hl : Cond.methodLink own idx mi2.1 ∈ tG) (hm : MV mi2 np) (hd : decode mi.2.1 pc = .ok (.invokevirtual idx, 3)) (hk : k < n) (he : es k = .inr (ci, fs)) (hc : vwCl[ci]? = some (C, T, N)) (hC : mi2.1.cls = C) (hst : st = As.reverse ++ .ref k :: rest) (hn : As.length = np) (hw : (rest.map fun v => v.category).sum ≤ 8)
    (hR : h + 1 ≤ R.frames ∧ 8 + (mi2.2.2.1 + 11) + 39 * h ≤ R.locals) (hf : ce + mc ≤ R.cells ∧ sl + ms ≤ R.slots) (hco : CO w h mi2 mc ms (.ref k :: As) n es Q) (kk : ∀ r n' es', Q r n' es' → RJ w R mi (ce + mc) (sl + ms) (pc + 3) lv (r.toList ++ rest) n' es' F) : RJ w R mi ce sl pc lv st n es F := by
  intro p e s m args below meth c H locs ls f hlc hh hlv
  subst hst
  obtain ⟨⟨m1, m2, m3, m4, m5⟩, m6, m7⟩ := hm
  have hts := f.2.2.2.2.2.2.2.1
  have hk1 : k < 1000 := Nat.lt_of_lt_of_le hk hh.1
  have cw : CallW R s args own mi2.1.cls idx mi2.1 mi2.2.1 mi2.2.2.1 mi2.2.2.2 (Cond.code mi2.1 mi2.2.1 mi2.2.2.1 mi2.2.2.2 :: tG) (rmk h mc ms) mc ms np := ⟨callB_of np hts (goodC m1) rfl rfl rfl (hts _ m2) (hts _ hl) ⟨m3, m4, m5⟩ hR, hts _ m6, hts _ m7⟩
  have hP := hh.2.2.2 k hk
  rw [he] at hP
  obtain ⟨r, h1, cell, q1, q2, q3, -⟩ := hP
  have hr : r = (C, T, N) := Option.some.inj (h1.symm.trans hc)
  subst hr
  have hfc := (f.2.2.2.2.2.2.2.2.1.1 ci _ hc).2.1
  have hpre : PreV s H mi2.1.cls (wB w + k) (fun a U => a = ((Value.ref k :: As).map (cv w)).toArray ∧ KS w U ∧ HH w U.heap n es) (As.map (cv w)) := by
    refine ⟨co_blind, ⟨cell, q1, by rw [q3]; rfl, by rw [hC, q2]; exact hfc⟩, fun U hU hW => ⟨?_, KS.warm hW f.2.2.2.2.2.2.2.2, by rw [hU]; exact hh⟩⟩
    rw [List.map_cons, cv_lo w hk1]
  refine run_end (va_runV (g := F0 m pc ls ((As.reverse ++ .ref k :: rest).map (cv w))) (As := As.map (cv w)) (rest := rest.map (cv w)) ⟨f.1, f.2.1, f.2.2.2.1, ho ▸ f.2.2.2.2.1, hts⟩ hco cw hpre rfl (by simpa using hn) hlv.1 ?_ ?_ hd hf) f hlc hlv kk
  · show (As.reverse ++ .ref k :: rest).map (cv w) = _
    rw [List.map_append, List.map_cons, as_rev, cv_lo w hk1]
  · show 2 * 0 + _ ≤ 8
    rw [cv_cats]
    omega
theorem preS {s : State} {H : Heap} {as : List Value} (k : KS w s) (hh : HH w H n es) : PreS s H (fun a U => a = (as.map (cv w)).toArray ∧ KS w U ∧ HH w U.heap n es) (as.map (cv w)) :=
  ⟨co_blind, fun U hU hW => ⟨rfl, KS.warm hW k, by rw [hU]; exact hh⟩⟩
theorem rj_callS {own : String} {idx h : Nat} {mi2 : MI} {As rest : List Value} {np mc ms : Nat} {Q : Option Value → Nat → Ent → Prop} (ho : mi.1.cls = own) (hl : Cond.methodLink own idx mi2.1 ∈ tG) (hm : MT mi2 np) (hd : decode mi.2.1 pc = .ok (.invokestatic idx, 3)) (hst : st = As.reverse ++ rest) (hn : As.length = np) (hw : (rest.map fun v => v.category).sum ≤ 8)
    (hR : h + 1 ≤ R.frames ∧ 8 + (mi2.2.2.1 + 11) + 39 * h ≤ R.locals) (hf : ce + mc ≤ R.cells ∧ sl + ms ≤ R.slots) (hco : CO w h mi2 mc ms As n es Q) (kk : ∀ r n' es', Q r n' es' → RJ w R mi (ce + mc) (sl + ms) (pc + 3) lv (r.toList ++ rest) n' es' F) : RJ w R mi ce sl pc lv st n es F := by
  intro p e s m args below meth c H locs ls f hlc hh hlv
  subst hst
  obtain ⟨⟨m1, m2, m3, m4, m5⟩, m6⟩ := hm
  have hts := f.2.2.2.2.2.2.2.1
  refine run_end (va_runS (g := F0 m pc ls ((As.reverse ++ rest).map (cv w))) (As := As.map (cv w)) (rest := rest.map (cv w)) ⟨f.1, f.2.1, f.2.2.2.1, ho ▸ f.2.2.2.2.1, hts⟩ hco ⟨callB_of np hts (goodC m1) rfl rfl rfl (hts _ m2) (hts _ hl) ⟨m3, m4, m5⟩ hR, hts _ m6⟩ (preS f.2.2.2.2.2.2.2.2 hh) rfl (by simpa using hn) hlv.1 ?_ ?_ hd hf) f hlc hlv kk
  · show (As.reverse ++ rest).map (cv w) = _
    rw [List.map_append, as_rev]
  · show 2 * 0 + _ ≤ 8
    rw [cv_cats]
    omega
theorem rj_callSN {own host : String} {idx h : Nat} {mi2 : MI} {As rest : List Value} {np mc ms : Nat} {Q : Option Value → Nat → Ent → Prop} (ho : mi.1.cls = own) (hl : Cond.methodLinkNest own idx mi2.1 host ∈ tN) (hm : MT mi2 np) (hd : decode mi.2.1 pc = .ok (.invokestatic idx, 3)) (hst : st = As.reverse ++ rest) (hn : As.length = np) (hw : (rest.map fun v => v.category).sum ≤ 8)
    (hR : h + 1 ≤ R.frames ∧ 8 + (mi2.2.2.1 + 11) + 39 * h ≤ R.locals) (hf : ce + mc ≤ R.cells ∧ sl + ms ≤ R.slots) (hco : CO w h mi2 mc ms As n es Q) (kk : ∀ r n' es', Q r n' es' → RJ w R mi (ce + mc) (sl + ms) (pc + 3) lv (r.toList ++ rest) n' es' F) : RJ w R mi ce sl pc lv st n es F := by
  intro p e s m args below meth c H locs ls f hlc hh hlv
  subst hst
  obtain ⟨⟨m1, m2, m3, m4, m5⟩, m6⟩ := hm
  have hts := f.2.2.2.2.2.2.2.1
  have hK := f.2.2.2.2.2.2.2.2
  refine run_end (va_runSN (host := host) (g := F0 m pc ls ((As.reverse ++ rest).map (cv w))) (As := As.map (cv w)) (rest := rest.map (cv w)) ⟨f.1, f.2.1, f.2.2.2.1, ho ▸ f.2.2.2.2.1, hts⟩ hco ⟨va_cnB np hts (goodC m1) rfl rfl rfl (hK.2.1 _ hl) (hts _ m2) ⟨m3, m4, m5⟩ hR, hts _ m6, trivial⟩ (preS f.2.2.2.2.2.2.2.2 hh) rfl (by simpa using hn) hlv.1 ?_ ?_ hd hf) f hlc hlv kk
  · show (As.reverse ++ rest).map (cv w) = _
    rw [List.map_append, as_rev]
  · show 2 * 0 + _ ≤ 8
    rw [cv_cats]
    omega
theorem rj_callI {own : String} {idx h k : Nat} {mi2 : MI} {As rest : List Value} {np mc ms : Nat} {Q : Option Value → Nat → Ent → Prop} (ho : mi.1.cls = own) (hl : Cond.methodLink own idx mi2.1 ∈ tG) (hm : MC mi2 np) (hd : decode mi.2.1 pc = .ok (.invokespecial idx, 3)) (hk : k < 1000) (hst : st = As.reverse ++ .ref k :: rest) (hn : As.length = np) (hw : (rest.map fun v => v.category).sum ≤ 8)
    (hR : h + 1 ≤ R.frames ∧ 8 + (mi2.2.2.1 + 11) + 39 * h ≤ R.locals) (hf : ce + mc ≤ R.cells ∧ sl + ms ≤ R.slots) (hco : CO w h mi2 mc ms (.ref k :: As) n es Q) (kk : ∀ r n' es', Q r n' es' → RJ w R mi (ce + mc) (sl + ms) (pc + 3) lv (r.toList ++ rest) n' es' F) : RJ w R mi ce sl pc lv st n es F := by
  intro p e s m args below meth c H locs ls f hlc hh hlv
  subst hst
  obtain ⟨⟨m1, m2, m3, m4, m5⟩, m6, m7, m8⟩ := hm
  have hts := f.2.2.2.2.2.2.2.1
  have e0 : (Value.ref (wB w + k) :: As.map (cv w)) = ((Value.ref k :: As).map (cv w)) := by rw [List.map_cons, cv_lo w hk]
  have hp := preS (as := Value.ref k :: As) f.2.2.2.2.2.2.2.2 hh
  rw [← e0] at hp
  have hcb := callB_of np hts (goodC m1) rfl (rm := rmk h mc ms) rfl rfl (hts _ m2) (hts _ hl) ⟨m3, m4, m5⟩ hR
  rw [m8] at hcb
  have hco' : Met (wl w) mi2.1 (Cond.code mi2.1 mi2.2.1 mi2.2.2.1 none :: tG) (rmk h mc ms) (fun a U => a = (Value.ref (wB w + k) :: As.map (cv w)).toArray ∧ KS w U ∧ HH w U.heap n es) (QC w Q) mc ms (wA w) := by
    rw [e0, ← m8]; exact hco
  refine run_end (va_runI (g := F0 m pc ls ((As.reverse ++ .ref k :: rest).map (cv w))) (b := wB w + k) (As := As.map (cv w)) (rest := rest.map (cv w)) ⟨f.1, f.2.1, f.2.2.2.1, ho ▸ f.2.2.2.2.1, hts⟩ hco' ⟨hcb, m7, hts _ m6⟩ hp rfl (by simpa using hn) hlv.1 ?_ ?_ hd hf) f hlc hlv kk
  · show (As.reverse ++ .ref k :: rest).map (cv w) = _
    rw [List.map_append, List.map_cons, as_rev, cv_lo w hk]
  · show 2 * 0 + _ ≤ 8
    rw [cv_cats]
    omega
theorem rj_callIN {own host : String} {idx h k : Nat} {mi2 : MI} {As rest : List Value} {np mc ms : Nat} {Q : Option Value → Nat → Ent → Prop} (ho : mi.1.cls = own) (hl : Cond.methodLinkNest own idx mi2.1 host ∈ tN) (hm : MC mi2 np) (hd : decode mi.2.1 pc = .ok (.invokespecial idx, 3)) (hk : k < 1000) (hst : st = As.reverse ++ .ref k :: rest) (hn : As.length = np) (hw : (rest.map fun v => v.category).sum ≤ 8)
    (hR : h + 1 ≤ R.frames ∧ 8 + (mi2.2.2.1 + 11) + 39 * h ≤ R.locals) (hf : ce + mc ≤ R.cells ∧ sl + ms ≤ R.slots) (hco : CO w h mi2 mc ms (.ref k :: As) n es Q) (kk : ∀ r n' es', Q r n' es' → RJ w R mi (ce + mc) (sl + ms) (pc + 3) lv (r.toList ++ rest) n' es' F) : RJ w R mi ce sl pc lv st n es F := by
  intro p e s m args below meth c H locs ls f hlc hh hlv
  subst hst
  obtain ⟨⟨m1, m2, m3, m4, m5⟩, m6, m7, m8⟩ := hm
  have hts := f.2.2.2.2.2.2.2.1
  have hK := f.2.2.2.2.2.2.2.2
  have e0 : (Value.ref (wB w + k) :: As.map (cv w)) = ((Value.ref k :: As).map (cv w)) := by rw [List.map_cons, cv_lo w hk]
  have hp := preS (as := Value.ref k :: As) f.2.2.2.2.2.2.2.2 hh
  rw [← e0] at hp
  have hcb := va_cnB np hts (goodC m1) rfl (rm := rmk h mc ms) rfl rfl (hK.2.1 _ hl) (hts _ m2) ⟨m3, m4, m5⟩ hR
  rw [m8] at hcb
  have hco' : Met (wl w) mi2.1 (Cond.code mi2.1 mi2.2.1 mi2.2.2.1 none :: tG) (rmk h mc ms) (fun a U => a = (Value.ref (wB w + k) :: As.map (cv w)).toArray ∧ KS w U ∧ HH w U.heap n es) (QC w Q) mc ms (wA w) := by
    rw [e0, ← m8]; exact hco
  refine run_end (va_runIN (host := host) (g := F0 m pc ls ((As.reverse ++ .ref k :: rest).map (cv w))) (b := wB w + k) (As := As.map (cv w)) (rest := rest.map (cv w)) ⟨f.1, f.2.1, f.2.2.2.1, ho ▸ f.2.2.2.2.1, hts⟩ hco' ⟨hcb, m7, hts _ m6⟩ hp rfl (by simpa using hn) hlv.1 ?_ ?_ hd hf) f hlc hlv kk
  · show (As.reverse ++ .ref k :: rest).map (cv w) = _
    rw [List.map_append, List.map_cons, as_rev, cv_lo w hk]
  · show 2 * 0 + _ ≤ 8
    rw [cv_cats]
    omega
theorem rj_objInit {own : String} {idx k : Nat} {rest : List Value} (ho : mi.1.cls = own) (hl : Cond.methodLink own idx Lib.objectInit ∈ tG) (h1 : Cond.instanceMethod Lib.objectInit ∈ tG) (h2 : Cond.code Lib.objectInit ⟨#[0xb1]⟩ 1 none ∈ tG) (hd : decode mi.2.1 pc = .ok (.invokespecial idx, 3)) (hk : k < 1000) (hR : 1 ≤ R.frames) (hR2 : (rest.map fun v => v.category).sum + 12 ≤ R.locals) (kk : RJ w R mi ce sl (pc + 3) lv rest n es F) : RJ w R mi ce sl pc lv (.ref k :: rest) n es F := by
  intro p e s m args below meth c H locs ls f hlc hh hlv
  have hts := f.2.2.2.2.2.2.2.1
  show W p (wl w) e R s m args below meth c H locs ce sl (F args s below) (F0 m pc ls (cv w (.ref k) :: rest.map (cv w)))
  rw [cv_lo w hk]
  refine W.objInit f.1 f.2.1 (ho ▸ f.2.2.2.2.1) (hts _ hl) (hts _ h1) (hts _ h2) rfl (hlv.1.trans f.2.2.2.1.symm) rfl hd hR ?_ (kk p e s m args below meth c H locs ls f hlc hh hlv)
  show 2 * 0 + _ + 12 ≤ _
  rw [cv_cats]
  omega
theorem rj_new {own C : String} {T : u_T} {N idx ci : Nat} {fs : List Value} (ho : mi.1.cls = own) (hCL : CL ci C T N) (hfs : ∀ j, j < N → ∀ ty, parseFieldDescriptor (T j).2.2.1 = some ty → fs[j]? = some (defaultValue ty)) (hcv : fs.map (cv w) = fs) (h1 : Cond.classLink own idx C ∈ tG) (h2 : Cond.instantiable C N ∈ tG) (h3 : Cond.initialized C ∈ tG) (hd : decode mi.2.1 pc = .ok (.new idx, 3)) (hn : n < 1000) (hce : ce + 1 ≤ R.cells) (hsl : sl + N ≤ R.slots)
    (kk : ∀ es', es' = va_up es n (.inr (ci, fs)) → RJ w R mi (ce + 1) (sl + N) (pc + 3) lv (.ref n :: st) (n + 1) es' F) : RJ w R mi ce sl pc lv st n es F := by
  intro p e s m args below meth c H locs ls f hlc hh hlv
  obtain ⟨hc, hin, ⟨ty0, hty⟩, hnm⟩ := hCL
  have hts := f.2.2.2.2.2.2.2.1
  have hKn := f.2.2.2.2.2.2.2.2.1.1 ci _ hc
  refine W.newcK f.1 f.2.1 (ho ▸ f.2.2.2.2.1) (hts _ h1) (hts _ h2) (hts _ h3) rfl hd hce hsl hKn.2.1 rfl fun H1 kC hkC e1 z1 o1 => ?_
  have hB := u_born ty0 hts hin hKn hkC e1 hty
  have g := kk _ rfl p e s m args below meth c H1 locs ls f hlc (new_at hh hn z1 o1 ⟨_, hc, by
    show t_OB (wB w + n) ((wD w).1 ci) N ((wD w).2 ci) H1 (vp_V (fs.map (cv w)))
    rw [hcv, ← hh.2.1]
    refine hB.to (fun j hj => ?_)
    have := hfs j hj _ (hty j hj)
    unfold vp_V
    rw [List.getD_eq_getElem?_getD, this]
    rfl⟩) hlv
  have e9 : (Value.ref n :: st).map (cv w) = .ref H.size :: st.map (cv w) := by rw [List.map_cons, cv_lo w hn, hh.2.1]
  rw [e9] at g
  exact g
theorem rj_newa {x : Int32} {N' : Nat} (ha : Cond.arrayClass .int ∈ tG) (hd : decode mi.2.1 pc = .ok (.newarray .int, 2)) (hx : ¬ x < 0) (hN : x.toNatClampNeg = N') (hb : N' * 4 ≤ 536870912) (hn : n < 1000) (hce : ce + 1 ≤ R.cells) (hsl : sl + N' ≤ R.slots)
    (kk : ∀ es', es' = va_up es n (.inl (0, N', .inl (fun _ => 0))) → RJ w R mi (ce + 1) (sl + N') (pc + 2) lv (.ref n :: st) (n + 1) es' F) : RJ w R mi ce sl pc lv (.int x :: st) n es F := by
  intro p e s m args below meth c H locs ls f hlc hh hlv
  have hts := f.2.2.2.2.2.2.2.1
  refine va_newaK (atype := .int) f.1 f.2.1 (hts _ ha) rfl hd rfl hx hN hb hce hsl rfl fun H1 cA e1 z1 o1 hAr hNm => ?_
  have hcA : cA = wI w := Option.some.inj (hNm.symm.trans (iIn f.2.2.2.2.2.2.2.2))
  subst hcA
  have g := kk _ rfl p e s m args below meth c H1 locs ls f hlc (new_at hh hn z1 o1 (by
    show H1[wB w + n]? = some (arrV (wI w) N' (fun j => .int 0))
    rw [← hh.2.1]
    exact e1)) hlv
  have e9 : (Value.ref n :: st).map (cv w) = .ref H.size :: st.map (cv w) := by rw [List.map_cons, cv_lo w hn, hh.2.1]
  rw [e9] at g
  exact g
theorem rj_anew {own : String} {idx : Nat} {x : Int32} {N' : Nat} (ho : mi.1.cls = own) (hcl : Cond.classLink own idx RX6 ∈ tG) (hd : decode mi.2.1 pc = .ok (.anewarray idx, 3)) (hx : ¬ x < 0) (hN : x.toNatClampNeg = N') (hb : N' * 4 ≤ 536870912) (hn : n < 1000) (hce : ce + 1 ≤ R.cells) (hsl : sl + N' ≤ R.slots)
    (kk : ∀ es', es' = va_up es n (.inl (1, N', .inr (.inr (.inr (.inr (fun _ => none)))))) → RJ w R mi (ce + 1) (sl + N') (pc + 3) lv (.ref n :: st) (n + 1) es' F) : RJ w R mi ce sl pc lv (.int x :: st) n es F := by
  intro p e s m args below meth c H locs ls f hlc hh hlv
  have hts := f.2.2.2.2.2.2.2.1
  have hK := f.2.2.2.2.2.2.2.2
  subst hN
  refine W.anew f.1 f.2.1 (ho ▸ f.2.2.2.2.1) (hts _ hcl) (va_AO.use hK.2.2.2.2.2.1) rfl hd rfl hx hb hce hsl fun cA kA comp h1 h2 h3 h4 => ?_
  obtain ⟨kA', comp', q1, q2, q3, q4⟩ := (hK.1.2 1 (wR w, .object RX6) rfl).2
  have hcA : cA = wR w := Option.some.inj (h1.symm.trans q4)
  subst hcA
  have g := kk _ rfl p e s m args below meth c _ locs ls f hlc (new_at hh hn (H1 := H.push { cls := wR w, slots := Array.replicate x.toNatClampNeg .null, vm := .none }) (by simp) (fun q hq => by rw [Array.getElem?_push, if_neg (Nat.ne_of_lt hq)]) (by
    show (H.push { cls := wR w, slots := Array.replicate x.toNatClampNeg .null, vm := .none })[wB w + n]? = some (arrV (wR w) x.toNatClampNeg (fun j => .null))
    rw [← hh.2.1, ← arrV_new]
    simp)) hlv
  have e9 : (Value.ref n :: st).map (cv w) = .ref H.size :: st.map (cv w) := by rw [List.map_cons, cv_lo w hn, hh.2.1]
  rw [e9] at g
  exact g
theorem rj_aast {k len v : Nat} {g : Nat → Option Nat} {i : Int32} {fs : List Value} (hd : decode mi.2.1 pc = .ok (.aastore, 1)) (hk : k < n) (he : es k = .inl (1, len, .inr (.inr (.inr (.inr g))))) (hin : vp_in i len) (hv : v < n) (hev : es v = .inr (6, fs)) (kk : ∀ es', es' = va_up es k (.inl (1, len, .inr (.inr (.inr (.inr (va_up g i.toNatClampNeg (some v))))))) → RJ w R mi ce sl (pc + 1) lv st n es' F) : RJ w R mi ce sl pc lv (.ref v :: .int i :: .ref k :: st) n es F := by
  intro p e s m args below meth c H locs ls f hl hh hlv
  have hK := f.2.2.2.2.2.2.2.2.1
  have hk1 : k < 1000 := Nat.lt_of_lt_of_le hk hh.1
  have hv1 : v < 1000 := Nat.lt_of_lt_of_le hv hh.1
  have hP := hh.2.2.2 k hk
  rw [he] at hP
  have hc : H[wB w + k]? = some (arrV (wR w) len (fun j => va_rf ((g j).map (fun k => wB w + k)))) := hP
  have hPv := hh.2.2.2 v hv
  rw [hev] at hPv
  obtain ⟨r, hr, cellV, g1, g2, g3, -⟩ := hPv
  have hlt : i.toNatClampNeg < len := Nat.not_le.mp fun q => hin (Or.inr q)
  have h0 : ¬ i < 0 := fun q => hin (Or.inl q)
  have hcls := (hK.1 6 r hr).2
  have hr6 : r = (RX6, TX6, 3) := Option.some.inj (hr.symm.trans rfl)
  subst hr6
  obtain ⟨kA, comp, k1, k2, k3, -⟩ := (hK.2 1 (wR w, .object RX6) rfl).2
  have hcomp : comp = (wD w).1 6 := Option.some.inj (k3.symm.trans hcls.1)
  subst hcomp
  obtain ⟨kC, hkC, -⟩ := id hcls.2
  show W p (wl w) e R s m args below meth c H locs ce sl (F args s below) (F0 m pc ls (cv w (.ref v) :: .int i :: cv w (.ref k) :: st.map (cv w)))
  rw [cv_lo w hk1, cv_lo w hv1]
  refine W.aast f.1 f.2.1 hc (fun q h => by cases h) (fun h => by cases h) k1 k2 rfl hkC ⟨h0, by rw [arrV_size]; exact hlt⟩ g1 (fun q h => by rw [g3] at h; cases h) (by rw [g2]; exact hkC) (by rw [g2]; exact va_assign hcls) rfl rfl hd fun H1 e1 z oq => ?_
  refine kk _ rfl p e s m args below meth c H1 _ ls f (fun q hq => ?_) (eup_at hh z oq ?_) hlv
  · rcases List.mem_append.mp hq with h | h
    · exact hl q h
    · rw [List.mem_singleton.mp h]; exact Nat.le_add_right _ _
  · show H1[wB w + k]? = some (arrV (wR w) len (fun j => va_rf ((va_up g i.toNatClampNeg (some v) j).map (fun k => wB w + k))))
    rw [e1, arrV_store]
    congr 2
    funext q
    by_cases hq : q = i.toNatClampNeg
    · simp [updV, va_up, hq, va_rf]
    · simp [updV, va_up, hq]
end RULES3

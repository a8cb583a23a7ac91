/-! ===== the making of the objects: cells in a row from k on ===== -/
abbrev zA (n : Nat) : va_E := .inl (0, n, .inl (fun _ => 0))
abbrev iA (n : Nat) (f : Nat → Int32) : va_E := .inl (0, n, .inl f)
abbrev oE (c : Nat) (fs : List Value) : va_E := .inr (c, fs)
def eL (l : List va_E) : Ent := fun k => l.getD k (zA 0)
theorem eL_at {pre T : List va_E} {k c r : Nat} {x : va_E} (hk : pre.length = k) (hr : k + c = r) (h : T[c]? = some x) : eL (pre ++ T) r = x := by
  subst hr; subst hk
  unfold eL
  rw [List.getD_eq_getElem?_getD, List.getElem?_append_right (by omega), Nat.add_sub_cancel_left, h]
  rfl
theorem eL_set {pre T : List va_E} {k c r : Nat} {x : va_E} (hk : pre.length = k) (hr : k + c = r) (h : c < T.length) : va_up (eL (pre ++ T)) r x = eL (pre ++ T.set c x) := by
  subst hr; subst hk
  funext q
  unfold eL va_up
  by_cases hq : q = pre.length + c
  · subst hq
    rw [if_pos rfl, List.getD_eq_getElem?_getD, List.getElem?_append_right (by omega), Nat.add_sub_cancel_left, List.getElem?_set_self h]
    rfl
  · rw [if_neg hq]
    show (pre ++ T).getD q (zA 0) = _
    rw [List.getD_eq_getElem?_getD, List.getD_eq_getElem?_getD]
    by_cases hl : q < pre.length
    · rw [List.getElem?_append_left hl, List.getElem?_append_left hl]
    · rw [List.getElem?_append_right (by omega), List.getElem?_append_right (by omega), List.getElem?_set_ne (by omega)]
theorem eL_new {pre T : List va_E} {k : Nat} {x : va_E} (hk : pre.length = k) : va_up (eL (pre ++ T)) (k + T.length) x = eL (pre ++ (T ++ [x])) := by
  subst hk
  funext q
  unfold eL va_up
  rw [← List.append_assoc]
  by_cases hq : q = pre.length + T.length
  · subst hq
    rw [if_pos rfl, List.getD_eq_getElem?_getD, List.getElem?_append_right (by simp)]
    simp
  · rw [if_neg hq]
    show (pre ++ T).getD q (zA 0) = _
    rw [List.getD_eq_getElem?_getD, List.getD_eq_getElem?_getD]
    by_cases hl : q < (pre ++ T).length
    · rw [List.getElem?_append_left hl]
    · have hl2 : (pre ++ T).length = pre.length + T.length := by simp
      rw [List.getElem?_eq_none (by omega), List.getElem?_eq_none (by simp; omega)]
/-- arrays that agree as far as they are long -/
theorem arrV_c {c : ClassId} {n : Nat} {f g : Nat → Value} (h : ∀ j, j < n → f j = g j) : arrV c n f = arrV c n g := by
  unfold arrV
  congr 1
  apply Array.ext
  · simp
  · intro i h1 h2
    simp at h1
    simp
    exact h i (by omega)
theorem HH.co {w : Wd} {H : Heap} {n : Nat} {es es' : Ent} (hh : HH w H n es) (h : ∀ q, q < n → es' q = es q ∨ (∃ l f g, es q = iA l f ∧ es' q = iA l g ∧ ∀ j, j < l → f j = g j) ∨ (∃ l f g, es q = .inl (1, l, .inr (.inr (.inr (.inr f)))) ∧ es' q = .inl (1, l, .inr (.inr (.inr (.inr g)))) ∧ ∀ j, j < l → f j = g j)) : HH w H n es' := by
  obtain ⟨h0, h1, h2, h3⟩ := hh
  refine ⟨h0, h1, h2, fun q hq => ?_⟩
  have hP := h3 q hq
  rcases h q hq with e | ⟨l, f, g, e1, e2, e3⟩ | ⟨l, f, g, e1, e2, e3⟩
  · rw [e]; exact hP
  · rw [e1] at hP
    rw [e2]
    have hc : H[wB w + q]? = some (arrV (wI w) l (fun j => .int (f j))) := hP
    show H[wB w + q]? = some (arrV (wI w) l (fun j => .int (g j)))
    rw [hc, arrV_c (fun j hj => by rw [e3 j hj])]
  · rw [e1] at hP
    rw [e2]
    have hc : H[wB w + q]? = some (arrV (wR w) l (fun j => va_rf ((f j).map (fun k => wB w + k)))) := hP
    show H[wB w + q]? = some (arrV (wR w) l (fun j => va_rf ((g j).map (fun k => wB w + k))))
    rw [hc, arrV_c (fun j hj => by rw [e3 j hj])]
section CTR
variable {w : Wd} {R : Room} {mi : MI} {ce sl pc : Nat} {lv lv' : List (Nat × Value)} {st : List Value} {n : Nat} {es es' : Ent} {F : Array Value → State → List Frame → State → Prop} {k : Nat} {pre T T' : List va_E}
theorem rj_co (h : ∀ q, q < n → es' q = es q ∨ (∃ l f g, es q = iA l f ∧ es' q = iA l g ∧ ∀ j, j < l → f j = g j) ∨ (∃ l f g, es q = .inl (1, l, .inr (.inr (.inr (.inr f)))) ∧ es' q = .inl (1, l, .inr (.inr (.inr (.inr g)))) ∧ ∀ j, j < l → f j = g j)) (kk : RJ w R mi ce sl pc lv st n es' F) : RJ w R mi ce sl pc lv st n es F :=
  fun p e s m args below meth c H locs ls f hlc hh hlv => kk p e s m args below meth c H locs ls f hlc (hh.co h) hlv
abbrev RT (w : Wd) (R : Room) (mi : MI) (ce sl pc : Nat) (lv : List (Nat × Value)) (st : List Value) (k : Nat) (pre T : List va_E) (F : Array Value → State → List Frame → State → Prop) : Prop := RJ w R mi ce sl pc lv st (k + T.length) (eL (pre ++ T)) F
theorem rt_newa {x : Int32} {N' r : Nat} (T' : List va_E) (hk : pre.length = k) (hk9 : k < 900) (hl : Nat.ble (900 + T.length) 1000 = true) (hd : decode mi.2.1 pc = .ok (.newarray .int, 2)) (hx : ¬ x < 0) (hN : x.toNatClampNeg = N') (hb : Nat.ble (N' * 4) 536870912 = true) (hce : Nat.ble (ce + 1) R.cells = true) (hsl : Nat.ble (sl + N') R.slots = true) (hr : k + T.length = r) (hT : T ++ [zA N'] = T')
    (kk : RT w R mi (ce + 1) (sl + N') (pc + 2) lv (.ref r :: st) k pre T' F) : RT w R mi ce sl pc lv (.int x :: st) k pre T F := by
  subst hT; subst hr
  refine rj_newa ac_int hd hx hN (Nat.le_of_ble_eq_true hb) (Nat.lt_of_lt_of_le (Nat.add_lt_add_right hk9 _) (Nat.le_of_ble_eq_true hl)) (Nat.le_of_ble_eq_true hce) (Nat.le_of_ble_eq_true hsl) (fun es' e => ?_)
  rw [e, eL_new hk]
  unfold RT at kk
  rw [List.length_append] at kk
  exact kk
theorem rt_anew {own : String} {idx : Nat} {x : Int32} {N' r : Nat} (T' : List va_E) (hk : pre.length = k) (hk9 : k < 900) (hl : Nat.ble (900 + T.length) 1000 = true) (ho : mi.1.cls = own) (hcl : Cond.classLink own idx RX6 ∈ tG) (hd : decode mi.2.1 pc = .ok (.anewarray idx, 3)) (hx : ¬ x < 0) (hN : x.toNatClampNeg = N') (hb : Nat.ble (N' * 4) 536870912 = true) (hce : Nat.ble (ce + 1) R.cells = true) (hsl : Nat.ble (sl + N') R.slots = true) (hr : k + T.length = r) (hT : T ++ [.inl (1, N', .inr (.inr (.inr (.inr (fun _ => none)))))] = T')
    (kk : RT w R mi (ce + 1) (sl + N') (pc + 3) lv (.ref r :: st) k pre T' F) : RT w R mi ce sl pc lv (.int x :: st) k pre T F := by
  subst hT; subst hr
  refine rj_anew ho hcl hd hx hN (Nat.le_of_ble_eq_true hb) (Nat.lt_of_lt_of_le (Nat.add_lt_add_right hk9 _) (Nat.le_of_ble_eq_true hl)) (Nat.le_of_ble_eq_true hce) (Nat.le_of_ble_eq_true hsl) (fun es' e => ?_)
  rw [e, eL_new hk]
  unfold RT at kk
  rw [List.length_append] at kk
  exact kk
theorem rt_new {own C : String} {Tc : u_T} {N idx ci r : Nat} (fs : List Value) (T' : List va_E) (hk : pre.length = k) (hk9 : k < 900) (hl : Nat.ble (900 + T.length) 1000 = true) (ho : mi.1.cls = own) (hCL : CL ci C Tc N) (hfs : ∀ j, j < N → ∀ ty, parseFieldDescriptor (Tc j).2.2.1 = some ty → fs[j]? = some (defaultValue ty)) (hcv : fs.map (cv w) = fs) (h1 : Cond.classLink own idx C ∈ tG) (h2 : Cond.instantiable C N ∈ tG) (h3 : Cond.initialized C ∈ tG) (hd : decode mi.2.1 pc = .ok (.new idx, 3)) (hce : Nat.ble (ce + 1) R.cells = true) (hsl : Nat.ble (sl + N) R.slots = true) (hr : k + T.length = r) (hT : T ++ [oE ci fs] = T')
    (kk : RT w R mi (ce + 1) (sl + N) (pc + 3) lv (.ref r :: st) k pre T' F) : RT w R mi ce sl pc lv st k pre T F := by
  subst hT; subst hr
  refine rj_new ho hCL hfs hcv h1 h2 h3 hd (Nat.lt_of_lt_of_le (Nat.add_lt_add_right hk9 _) (Nat.le_of_ble_eq_true hl)) (Nat.le_of_ble_eq_true hce) (Nat.le_of_ble_eq_true hsl) (fun es' e => ?_)
  rw [e, eL_new hk]
  unfold RT at kk
  rw [List.length_append] at kk
  exact kk
theorem T_lt {c : Nat} {x : va_E} (h : T[c]? = some x) : c < T.length := (List.getElem?_eq_some_iff.mp h).1
theorem rt_get {own : String} {idx ci j c r : Nat} {fs : List Value} {v : Value} (hk : pre.length = k) (hF : FL own idx ci j) (ho : mi.1.cls = own) (hd : decode mi.2.1 pc = .ok (.getfield idx, 3)) (hr : k + c = r) (he : T[c]? = some (oE ci fs)) (hv : fs[j]? = some v) (kk : RT w R mi ce sl (pc + 3) lv (v :: st) k pre T F) : RT w R mi ce sl pc lv (.ref r :: st) k pre T F :=
  rj_get hF ho hd (by have := T_lt he; omega) (eL_at hk hr he) hv kk
theorem rt_putF {own : String} {idx ci j c r : Nat} {fs : List Value} {v : Value} {ty : FieldType} (T' : List va_E) (hk : pre.length = k) (hF : FL own idx ci j) (hTy : FT ci j ty true own) (ho : mi.1.cls = own) (hi : mi.1.name = "<init>") (hd : decode mi.2.1 pc = .ok (.putfield idx, 3)) (hn : narrow ty (cv w v) = cv w v) (hfit : fits ty (cv w v) = true) (hr : k + c = r) (he : T[c]? = some (oE ci fs)) (hj : j < fs.length) (hT : T.set c (oE ci (fs.set j v)) = T') (kk : RT w R mi ce sl (pc + 3) lv st k pre T' F) : RT w R mi ce sl pc lv (v :: .ref r :: st) k pre T F := by
  subst hT
  refine rj_putF hF hTy ho hi hd hn hfit (by have := T_lt he; omega) (eL_at hk hr he) hj (fun es' e => ?_)
  rw [e, eL_set hk hr (T_lt he)]
  unfold RT at kk
  rw [List.length_set] at kk
  exact kk
theorem rt_put {own : String} {idx ci j c r : Nat} {fs : List Value} {v : Value} {ty : FieldType} (T' : List va_E) (hk : pre.length = k) (hF : FL own idx ci j) (hTy : FT ci j ty false own) (ho : mi.1.cls = own) (hd : decode mi.2.1 pc = .ok (.putfield idx, 3)) (hn : narrow ty (cv w v) = cv w v) (hfit : fits ty (cv w v) = true) (hr : k + c = r) (he : T[c]? = some (oE ci fs)) (hj : j < fs.length) (hT : T.set c (oE ci (fs.set j v)) = T') (kk : RT w R mi ce sl (pc + 3) lv st k pre T' F) : RT w R mi ce sl pc lv (v :: .ref r :: st) k pre T F := by
  subst hT
  refine rj_put hF hTy ho hd hn hfit (by have := T_lt he; omega) (eL_at hk hr he) hj (fun es' e => ?_)
  rw [e, eL_set hk hr (T_lt he)]
  unfold RT at kk
  rw [List.length_set] at kk
  exact kk
theorem rt_iast {c len r : Nat} {g : Nat → Int32} {i x : Int32} (T' : List va_E) (hk : pre.length = k) (hd : decode mi.2.1 pc = .ok (.iastore, 1)) (hr : k + c = r) (he : T[c]? = some (iA len g)) (hin : vp_in i len) (hT : T.set c (iA len (upd g i.toNatClampNeg x)) = T') (kk : RT w R mi ce sl (pc + 1) lv st k pre T' F) : RT w R mi ce sl pc lv (.int x :: .int i :: .ref r :: st) k pre T F := by
  subst hT
  refine rj_iast hd (by have := T_lt he; omega) (eL_at hk hr he) hin (fun es' e => ?_)
  rw [e, eL_set hk hr (T_lt he)]
  unfold RT at kk
  rw [List.length_set] at kk
  exact kk
theorem rt_aast {c len r b v : Nat} {g : Nat → Option Nat} {i : Int32} {fs : List Value} (T' : List va_E) (hk : pre.length = k) (hd : decode mi.2.1 pc = .ok (.aastore, 1)) (hr : k + c = r) (he : T[c]? = some (.inl (1, len, .inr (.inr (.inr (.inr g)))))) (hin : vp_in i len) (hv : k + b = v) (hev : T[b]? = some (oE 6 fs)) (hT : T.set c (.inl (1, len, .inr (.inr (.inr (.inr (va_up g i.toNatClampNeg (some v))))))) = T') (kk : RT w R mi ce sl (pc + 1) lv st k pre T' F) : RT w R mi ce sl pc lv (.ref v :: .int i :: .ref r :: st) k pre T F := by
  subst hT
  refine rj_aast hd (by have := T_lt he; omega) (eL_at hk hr he) hin (by have := T_lt hev; omega) (eL_at hk hv hev) (fun es' e => ?_)
  rw [e, eL_set hk hr (T_lt he)]
  unfold RT at kk
  rw [List.length_set] at kk
  exact kk
def ctQ (k : Nat) (pre B : List va_E) : Option Value → Nat → Ent → Prop := fun r n' es' => r = none ∧ n' = k + B.length ∧ es' = eL (pre ++ B)
/-- what a constructor does: its object, the last cell, becomes the row B -/
def CT (w : Wd) (h : Nat) (mi : MI) (mc ms k : Nat) (As : List Value) (o : va_E) (B : List va_E) : Prop := ∀ pre : List va_E, pre.length = k → CO w h mi mc ms (.ref k :: As) (k + 1) (eL (pre ++ [o])) (ctQ k pre B)
theorem rt_callI {own : String} {idx h r : Nat} {mi2 : MI} {As rest : List Value} {np mc ms : Nat} {o : va_E} {B : List va_E} (T0 T' : List va_E) (hk : pre.length = k) (hk9 : k < 900) (hl : Nat.ble (900 + T0.length) 1000 = true) (ho : mi.1.cls = own) (hlk : Cond.methodLink own idx mi2.1 ∈ tG) (hm : MC mi2 np) (hd : decode mi.2.1 pc = .ok (.invokespecial idx, 3)) (hr : k + T0.length = r) (hst : st = As.reverse ++ .ref r :: rest) (hn : As.length = np) (hw : (rest.map fun v => v.category).sum ≤ 8)
    (hR : h + 1 ≤ R.frames ∧ 8 + (mi2.2.2.1 + 11) + 39 * h ≤ R.locals) (hce : Nat.ble (ce + mc) R.cells = true) (hsl : Nat.ble (sl + ms) R.slots = true) (hco : CT w h mi2 mc ms r As o B) (hT0 : T0 ++ [o] = T) (hT : T0 ++ B = T') (kk : RT w R mi (ce + mc) (sl + ms) (pc + 3) lv rest k pre T' F) : RT w R mi ce sl pc lv st k pre T F := by
  subst hT; subst hT0; subst hr
  have hco' := hco (pre ++ T0) (by rw [List.length_append, hk])
  have e1 : k + (T0 ++ [o]).length = k + T0.length + 1 := by simp; omega
  have e2 : pre ++ (T0 ++ [o]) = (pre ++ T0) ++ [o] := by rw [List.append_assoc]
  unfold RT
  rw [e1, e2]
  refine rj_callI ho hlk hm hd (Nat.lt_of_lt_of_le (Nat.add_lt_add_right hk9 _) (Nat.le_of_ble_eq_true hl)) hst hn hw hR ⟨Nat.le_of_ble_eq_true hce, Nat.le_of_ble_eq_true hsl⟩ hco' (fun r n' es' hq => ?_)
  obtain ⟨rfl, rfl, rfl⟩ := hq
  unfold RT at kk
  rw [List.length_append, ← List.append_assoc, ← Nat.add_assoc] at kk
  exact kk
theorem rt_callIN {own host : String} {idx h r : Nat} {mi2 : MI} {As rest : List Value} {np mc ms : Nat} {o : va_E} {B : List va_E} (T0 T' : List va_E) (hk : pre.length = k) (hk9 : k < 900) (hl : Nat.ble (900 + T0.length) 1000 = true) (ho : mi.1.cls = own) (hlk : Cond.methodLinkNest own idx mi2.1 host ∈ tN) (hm : MC mi2 np) (hd : decode mi.2.1 pc = .ok (.invokespecial idx, 3)) (hr : k + T0.length = r) (hst : st = As.reverse ++ .ref r :: rest) (hn : As.length = np) (hw : (rest.map fun v => v.category).sum ≤ 8)
    (hR : h + 1 ≤ R.frames ∧ 8 + (mi2.2.2.1 + 11) + 39 * h ≤ R.locals) (hce : Nat.ble (ce + mc) R.cells = true) (hsl : Nat.ble (sl + ms) R.slots = true) (hco : CT w h mi2 mc ms r As o B) (hT0 : T0 ++ [o] = T) (hT : T0 ++ B = T') (kk : RT w R mi (ce + mc) (sl + ms) (pc + 3) lv rest k pre T' F) : RT w R mi ce sl pc lv st k pre T F := by
  subst hT; subst hT0; subst hr
  have hco' := hco (pre ++ T0) (by rw [List.length_append, hk])
  have e1 : k + (T0 ++ [o]).length = k + T0.length + 1 := by simp; omega
  have e2 : pre ++ (T0 ++ [o]) = (pre ++ T0) ++ [o] := by rw [List.append_assoc]
  unfold RT
  rw [e1, e2]
  refine rj_callIN ho hlk hm hd (Nat.lt_of_lt_of_le (Nat.add_lt_add_right hk9 _) (Nat.le_of_ble_eq_true hl)) hst hn hw hR ⟨Nat.le_of_ble_eq_true hce, Nat.le_of_ble_eq_true hsl⟩ hco' (fun r n' es' hq => ?_)
  obtain ⟨rfl, rfl, rfl⟩ := hq
  unfold RT at kk
  rw [List.length_append, ← List.append_assoc, ← Nat.add_assoc] at kk
  exact kk
theorem ct_of {h mc ms : Nat} {As : List Value} {o : va_E} {B : List va_E} (hp : plainName mi.1.cls = true) (hl : (lg_sl (.ref k :: As)).length ≤ mi.2.2.1) (kk : ∀ pre : List va_E, pre.length = k → RT w (rmk h mc ms) mi 0 0 0 (lv_args 0 (.ref k :: As)) [] k pre [o] (FM w mc ms (ctQ k pre B))) : CT w h mi mc ms k As o B := fun pre hk => co_of hp hl (kk pre hk)
theorem rmS {h mc ms : Nat} {mi2 : MI} (h20 : mi2.2.2.1 ≤ 20) : h + 1 ≤ (rmk (h + 1) mc ms).frames ∧ 8 + (mi2.2.2.1 + 11) + 39 * h ≤ (rmk (h + 1) mc ms).locals := ⟨Nat.le_refl _, by show 8 + (mi2.2.2.1 + 11) + 39 * h ≤ 39 * (h + 1); omega⟩
theorem rmO {h mc ms : Nat} : 0 + 12 ≤ (rmk (h + 1) mc ms).locals := by show 0 + 12 ≤ 39 * (h + 1); omega
/-- a row is filled -/
theorem co_fill {h a la : Nat} {g : Nat → Int32} {v : Int32} (ha : a < n) (ha1 : a < 1000) (he : es a = iA la g) (qa : la < 2147483648) : CO w h kJ7_fill_53178 0 0 [.ref a, .int v] n es (fun r n' es' => r = none ∧ n' = n ∧ es' = va_up es a (iA la (fun _ => v))) := by
  refine co_of (by decide) (Nat.le_of_ble_eq_true rfl) ?_
  have L : ∀ k, k ≤ la → ∀ f : Nat → Int32, (∀ j, j < k → f j = v) → RJ w (rmk h 0 0) kJ7_fill_53178 0 0 5 [(0, .ref a), (1, .int v), (2, .int (nI k)), (3, .int (nI la))] [] n (va_up es a (iA la f)) (FM w 0 0 (fun r n' es' => r = none ∧ n' = n ∧ es' = va_up es a (iA la (fun _ => v)))) := by
    have hup : ∀ f x, va_up (va_up es a (iA la f)) a x = va_up es a x := fun f x => by funext q; unfold va_up; by_cases hq : q = a <;> simp [hq]
    have hat : ∀ f, va_up es a (iA la f) a = iA la f := fun f => by simp [va_up]
    refine up_ind (fun f hf => ?_) (fun k hk ih f hf => ?_)
    · refine rj_iload_n dJ7_fill_53178_5 2 rfl rfl ?_
      refine rj_iload_n dJ7_fill_53178_6 3 rfl rfl ?_
      refine rj_icmp_ge (tgt := 20) dJ7_fill_53178_7 (by decide) (fun hc => ?_) (fun hc => ?_)
      · refine rj_co (es' := va_up es a (iA la (fun _ => v))) (fun q _ => ?_) (rj_vret dJ7_fill_53178_20 rfl (Nat.le_refl _) (Nat.le_refl _) ⟨rfl, rfl, rfl⟩)
        by_cases hq : q = a
        · subst hq
          exact Or.inr (Or.inl ⟨la, f, fun _ => v, by simp [va_up], by simp [va_up], hf⟩)
        · exact Or.inl (by simp [va_up, hq])
      · exact absurd (nI_le (Nat.le_refl la) qa) hc
    · refine rj_iload_n dJ7_fill_53178_5 2 rfl rfl ?_
      refine rj_iload_n dJ7_fill_53178_6 3 rfl rfl ?_
      refine rj_icmp_ge (tgt := 20) dJ7_fill_53178_7 (by decide) (fun hc => ?_) (fun hc => ?_)
      · exact absurd hc (nI_ge hk qa)
      · refine rj_aload_n dJ7_fill_53178_10 0 rfl rfl ?_
        refine rj_iload_n dJ7_fill_53178_11 2 rfl rfl ?_
        refine rj_iload_n dJ7_fill_53178_12 1 rfl rfl ?_
        refine rj_iast dJ7_fill_53178_13 ha (hat f) (vp_in_nI hk qa) (fun es1 e1 => ?_)
        refine rj_iinc (v := nI (k + 1)) (lv' := [(0, .ref a), (1, .int v), (2, .int (nI (k + 1))), (3, .int (nI la))]) dJ7_fill_53178_14 2 rfl (nI_1 k) (by decide) rfl rfl ?_
        refine rj_goto (tgt := 5) dJ7_fill_53178_17 (by decide) ?_
        rw [e1, hup, nI_clamp (by omega)]
        refine ih _ (fun j hj => ?_)
        by_cases hjk : j = k
        · subst hjk; rw [pk_us]
        · rw [pk_un hjk]; exact hf j (by omega)
  have e0 : es = va_up es a (iA la g) := by
    funext q
    unfold va_up
    by_cases hq : q = a
    · subst hq; rw [if_pos rfl, he]
    · rw [if_neg hq]
  refine rj_iconst (v := 0) dJ7_fill_53178_0 (by decide) ?_
  refine rj_istore_n (lv' := [(0, .ref a), (1, .int v), (2, .int 0)]) dJ7_fill_53178_1 rfl (by decide) rfl rfl ?_
  refine rj_aload_n dJ7_fill_53178_2 0 rfl rfl ?_
  refine rj_alen (v := nI la) dJ7_fill_53178_3 ha he rfl ?_
  refine rj_istore_n (lv' := [(0, .ref a), (1, .int v), (2, .int 0), (3, .int (nI la))]) dJ7_fill_53178_4 rfl (by decide) rfl rfl ?_
  have := L 0 (Nat.zero_le _) g (fun j hj => absurd hj (by omega))
  rw [← e0] at this
  exact this
theorem rt_fill {own : String} {idx h c la r : Nat} {g : Nat → Int32} {v : Int32} {rest : List Value} (T' : List va_E) (hk : pre.length = k) (hk9 : r < 1000) (ho : mi.1.cls = own) (hlk : Cond.methodLink own idx yJ7_fill_53178 ∈ tG) (hd : decode mi.2.1 pc = .ok (.invokestatic idx, 3)) (hr : k + c = r) (he : T[c]? = some (iA la g)) (qa : la < 2147483648) (hw : (rest.map fun v => v.category).sum ≤ 8) (hR : h + 1 ≤ R.frames ∧ 8 + (4 + 11) + 39 * h ≤ R.locals) (hce : Nat.ble (ce + 0) R.cells = true) (hsl : Nat.ble (sl + 0) R.slots = true) (hT : T.set c (iA la (fun _ => v)) = T') (kk : RT w R mi (ce + 0) (sl + 0) (pc + 3) lv rest k pre T' F) : RT w R mi ce sl pc lv (.int v :: .ref r :: rest) k pre T F := by
  subst hT
  refine rj_callS (As := [.ref r, .int v]) (rest := rest) ho hlk mtJ7_fill_53178 hd rfl rfl hw hR ⟨Nat.le_of_ble_eq_true hce, Nat.le_of_ble_eq_true hsl⟩ (co_fill (by have := T_lt he; omega) hk9 (eL_at hk hr he) qa) (fun r n' es' hq => ?_)
  obtain ⟨rfl, rfl, rfl⟩ := hq
  rw [eL_set hk hr (T_lt he)]
  unfold RT at kk
  rw [List.length_set] at kk
  exact kk
end CTR

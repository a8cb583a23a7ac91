/-! ===== fields, arrays, calls, returns: by cells ===== -/
/-- class number ci of the world: its name, fields, and that the tables have them -/
def CL (ci : Nat) (C : String) (T : u_T) (N : Nat) : Prop := vwCl[ci]? = some (C, T, N) ∧ (∀ x ∈ u_ws C T N, x ∈ tG) ∧ (∃ ty0 : Nat → FieldType, ∀ k, k < N → parseFieldDescriptor (T k).2.2.1 = some (ty0 k)) ∧ ∀ a, a < N → ∀ b, b < N → a ≠ b → (T a).2.1 ≠ (T b).2.1
/-- a field's link: in class own, at idx, field j of class ci -/
def FL (own : String) (idx ci j : Nat) : Prop := ∃ C T N, CL ci C T N ∧ j < N ∧ Cond.fieldLink own idx (T j).1 (T j).2.1 (T j).2.2.1 ∈ tG
def FT (ci j : Nat) (ty : FieldType) (fin : Bool) (own : String) : Prop := ∀ C T N, vwCl[ci]? = some (C, T, N) → (T j).2.2.2 = fin ∧ parseFieldDescriptor (T j).2.2.1 = some ty ∧ (fin = true → (T j).1 = own)
theorem eup_at {w : Wd} {H H1 : Heap} {n k : Nat} {es : Ent} {x : va_E} (h : HH w H n es) (z : H1.size = H.size) (oq : ∀ q : Nat, q ≠ wB w + k → H1[q]? = H[q]?) (hx : va_at (wD w) vwCl (wB w + k, cvE w x) H1) : HH w H1 n (va_up es k x) := by
  obtain ⟨h0, h1, h2, h3⟩ := h
  refine ⟨h0, z.trans h1, fun q hq => (oq q (by omega)).trans (h2 q hq), fun j hj => ?_⟩
  by_cases hjk : j = k
  · subst hjk
    have e : va_up es j x j = x := by simp [va_up]
    rw [e]
    exact hx
  · have e : va_up es k x j = es j := by simp [va_up, hjk]
    rw [e]
    exact (h3 j hj).kept (oq (wB w + j) (by omega))
theorem new_at {w : Wd} {H H1 : Heap} {n : Nat} {es : Ent} {x : va_E} (h : HH w H n es) (hn : n < 1000) (z : H1.size = H.size + 1) (oq : ∀ q : Nat, q < H.size → H1[q]? = H[q]?) (hx : va_at (wD w) vwCl (wB w + n, cvE w x) H1) : HH w H1 (n + 1) (va_up es n x) := by
  obtain ⟨h0, h1, h2, h3⟩ := h
  refine ⟨by omega, by omega, fun q hq => (oq q (by omega)).trans (h2 q hq), fun j hj => ?_⟩
  by_cases hjk : j = n
  · subst hjk
    have e : va_up es j x j = x := by simp [va_up]
    rw [e]
    exact hx
  · have e : va_up es n x j = es j := by simp [va_up, hjk]
    rw [e]
    exact (h3 j (by omega)).kept (oq (wB w + j) (by omega))
theorem cvV {w : Wd} {fs : List Value} {j : Nat} {v : Value} (h : fs[j]? = some v) : vp_V (fs.map (cv w)) j = cv w v := by
  unfold vp_V
  rw [List.getD_eq_getElem?_getD, List.getElem?_map, h]
  rfl
theorem iI {w : Wd} {s : State} (k : KS w s) : ArrOfT s (wI w) .int := (k.1.2 0 (wI w, .int) rfl).1
theorem iIn {w : Wd} {s : State} (k : KS w s) : s.vm.findClass ("[" ++ (FieldType.int).toString) = some (wI w) := (k.1.2 0 (wI w, .int) rfl).2
theorem iR {w : Wd} {s : State} (k : KS w s) : ArrOfT s (wR w) (.object RX6) := (k.1.2 1 (wR w, .object RX6) rfl).1
section RULES2
variable {w : Wd} {R : Room} {mi : MI} {ce sl pc : Nat} {lv lv' : List (Nat × Value)} {st : List Value} {n : Nat} {es : Ent} {F : Array Value → State → List Frame → State → Prop}
theorem rj_get {own : String} {idx ci j k : Nat} {fs : List Value} {v : Value} (hF : FL own idx ci j) (ho : mi.1.cls = own) (hd : decode mi.2.1 pc = .ok (.getfield idx, 3)) (hk : k < n) (he : es k = .inr (ci, fs)) (hv : fs[j]? = some v) (kk : RJ w R mi ce sl (pc + 3) lv (v :: st) n es F) : RJ w R mi ce sl pc lv (.ref k :: st) n es F := by
  intro p e s m args below meth c H locs ls f hl hh hlv
  obtain ⟨C, T, N, ⟨hc, hin, -, -⟩, hj, hlink⟩ := hF
  have hk1 : k < 1000 := Nat.lt_of_lt_of_le hk hh.1
  have hP := hh.2.2.2 k hk
  rw [he] at hP
  have g := kk p e s m args below meth c H locs ls f hl hh hlv
  show W p (wl w) e R s m args below meth c H locs ce sl (F args s below) (F0 m pc ls (cv w (.ref k) :: st.map (cv w)))
  rw [cv_lo w hk1]
  exact va_get (D := wD w) (cl := vwCl) (ws := [(wB w + k, .inr (ci, fs.map (cv w)))]) f.1 f.2.1 f.2.2.2.2.2.2.2.1 hin (ho ▸ f.2.2.2.2.1) f.2.2.2.2.2.2.2.2.1 (fun i q hq => by
    match i, hq with
    | 0, hq => cases hq; exact hP) 0 rfl hc j hj (f.2.2.2.2.2.2.2.1 _ hlink) (fun _ h9 => h9) (by rw [List.getElem?_map, hv]; rfl) hd g
theorem put_core {own C : String} {T : u_T} {N idx ci j k : Nat} {fs : List Value} {v : Value} {ty : FieldType} {p : Program} {e : Env} {s : State} {m : MethodId} {args : Array Value} {below : List Frame} {meth : Method} {c : Code} {H : Heap} {locs : List Loc} {ls : Array Slot} (f : FX w mi p s m args meth c) (hl : ∀ q ∈ locs, wB w ≤ q.base) (hh : HH w H n es)
    (hCL : CL ci C T N) (hj : j < N) (hlink : Cond.fieldLink own idx (T j).1 (T j).2.1 (T j).2.2.1 ∈ tG) (ho : mi.1.cls = own) (hfin : (T j).2.2.2 = false ∨ ((T j).2.2.2 = true ∧ meth.name = "<init>" ∧ (T j).1 = own)) (hd : parseFieldDescriptor (T j).2.2.1 = some ty) (hn : narrow ty (cv w v) = cv w v) (hfit : fits ty (cv w v) = true) (hk : k < n) (he : es k = .inr (ci, fs)) (hjf : j < fs.length) (hdg : decode mi.2.1 pc = .ok (.putfield idx, 3))
    (kk : ∀ (H1 : Heap) (locs1 : List Loc), (∀ q ∈ locs1, wB w ≤ q.base) → HH w H1 n (va_up es k (.inr (ci, fs.set j v))) → W p (wl w) e R s m args below meth c H1 locs1 ce sl (F args s below) (F0 m (pc + 3) ls (st.map (cv w)))) :
    W p (wl w) e R s m args below meth c H locs ce sl (F args s below) (F0 m pc ls (cv w v :: .ref (wB w + k) :: st.map (cv w))) := by
  obtain ⟨hc, hin, ⟨ty0, hty⟩, hnm⟩ := hCL
  have hts := f.2.2.2.2.2.2.2.1
  have hown : s.vm.findClass own = some m.cls := ho ▸ f.2.2.2.2.1
  have hK := f.2.2.2.2.2.2.2.2.1
  have hap := va_apart (D := wD w) (cl := vwCl) (own := own) hts hin ty0 hty hnm hK hc
  have hP := hh.2.2.2 k hk
  rw [he] at hP
  obtain ⟨r, h1, cell, q1, q2, q3, q4⟩ := hP
  have hr : r = (C, T, N) := Option.some.inj (h1.symm.trans hc)
  subst hr
  obtain ⟨hS, hfc, kC, hkC, hkind⟩ := hK.1 ci _ hc
  obtain ⟨cf, kf, fi, fd, hi, hsl⟩ := hS j hj
  have hlay := hts _ (hin _ (u_in_lay hj))
  have hst := (u_facts hfc hkC (u_lays hts hin hj) hi).1
  have fin : ∀ (H' : Heap), H'[wB w + k]? = some (cell.setSlot fd.slot (cv w v)) → H'.size = H.size → (∀ q : Nat, q ≠ wB w + k → H'[q]? = H[q]?) → W p (wl w) e R s m args below meth c H' (locs ++ [⟨wB w + k, fd.slot⟩]) ce sl (F args s below) (F0 m (pc + 3) ls (st.map (cv w))) := by
    intro H' e1 e2 e3
    refine kk H' _ (fun q hq => ?_) (eup_at hh e2 e3 ?_)
    · rcases List.mem_append.mp hq with h | h
      · exact hl q h
      · rw [List.mem_singleton.mp h]; exact Nat.le_add_right _ _
    · rw [hsl] at e1
      refine ⟨_, hc, t_OB.to (V := updV (vp_V (fs.map (cv w))) j (cv w v)) ⟨_, e1, q2, q3, t_set q4 hap hj (cv w v)⟩ (fun i _ => ?_)⟩
      rw [vp_updV_set (by simpa using hjf)]
      rw [List.map_set]
  rcases hfin with hfin | ⟨hfin, hin2, hdecl⟩
  · unfold u_lay at hlay
    rw [if_neg (by rw [hfin]; decide)] at hlay
    have h6 := u_store hfc hkC hkind hlay hi hd hn hfit
    exact W.putK f.1 f.2.1 (f := fd) ⟨hown, hts _ hlink, ⟨_, _, _, hi⟩, hst⟩ (by rw [q2]; exact h6) q1 q3 (by rw [hsl]; exact k2_hasslot (q4 j hj)) rfl rfl hdg fin
  · unfold u_lay at hlay
    rw [if_pos hfin] at hlay
    have hcf : m.cls = cf := by
      obtain ⟨_, _, c', _, _, _, -, -, hf', -, -, -, hown2, -⟩ := Cond.laysFinal_spec hlay
      have e1 : c' = cf := by have := hi.symm.trans hf'; simp at this; exact this.1.symm
      rw [hdecl] at hown2
      rw [← e1]; exact Option.some.inj (hown.symm.trans hown2)
    have h6 := u_fits hfc hkC hkind (Or.inr hlay) hi hd hn hfit
    exact W.putFinK f.1 f.2.1 hown (hts _ hlink) hi hst hcf hin2 (by rw [q2]; exact h6) q1 q3 (by rw [hsl]; exact k2_hasslot (q4 j hj)) rfl rfl hdg fin
theorem rj_put {own : String} {idx ci j k : Nat} {fs : List Value} {v : Value} {ty : FieldType} (hF : FL own idx ci j) (hT : FT ci j ty false own) (ho : mi.1.cls = own) (hd : decode mi.2.1 pc = .ok (.putfield idx, 3)) (hn : narrow ty (cv w v) = cv w v) (hfit : fits ty (cv w v) = true) (hk : k < n) (he : es k = .inr (ci, fs)) (hj : j < fs.length) (kk : ∀ es', es' = va_up es k (.inr (ci, fs.set j v)) → RJ w R mi ce sl (pc + 3) lv st n es' F) : RJ w R mi ce sl pc lv (v :: .ref k :: st) n es F := by
  intro p e s m args below meth c H locs ls f hl hh hlv
  obtain ⟨C, T, N, hCL, hjN, hlink⟩ := hF
  obtain ⟨t1, t2, -⟩ := hT C T N hCL.1
  have hk1 : k < 1000 := Nat.lt_of_lt_of_le hk hh.1
  show W p (wl w) e R s m args below meth c H locs ce sl (F args s below) (F0 m pc ls (cv w v :: cv w (.ref k) :: st.map (cv w)))
  rw [cv_lo w hk1]
  exact put_core f hl hh hCL hjN hlink ho (Or.inl t1) t2 hn hfit hk he hj hd (fun H1 locs1 hl1 hh1 => kk _ rfl p e s m args below meth c H1 locs1 ls f hl1 hh1 hlv)
theorem rj_putF {own : String} {idx ci j k : Nat} {fs : List Value} {v : Value} {ty : FieldType} (hF : FL own idx ci j) (hT : FT ci j ty true own) (ho : mi.1.cls = own) (hi : mi.1.name = "<init>") (hd : decode mi.2.1 pc = .ok (.putfield idx, 3)) (hn : narrow ty (cv w v) = cv w v) (hfit : fits ty (cv w v) = true) (hk : k < n) (he : es k = .inr (ci, fs)) (hj : j < fs.length) (kk : ∀ es', es' = va_up es k (.inr (ci, fs.set j v)) → RJ w R mi ce sl (pc + 3) lv st n es' F) : RJ w R mi ce sl pc lv (v :: .ref k :: st) n es F := by
  intro p e s m args below meth c H locs ls f hl hh hlv
  obtain ⟨C, T, N, hCL, hjN, hlink⟩ := hF
  obtain ⟨t1, t2, t3⟩ := hT C T N hCL.1
  have hk1 : k < 1000 := Nat.lt_of_lt_of_le hk hh.1
  show W p (wl w) e R s m args below meth c H locs ce sl (F args s below) (F0 m pc ls (cv w v :: cv w (.ref k) :: st.map (cv w)))
  rw [cv_lo w hk1]
  exact put_core f hl hh hCL hjN hlink ho (Or.inr ⟨t1, f.2.2.2.2.2.2.1.trans hi, t3 rfl⟩) t2 hn hfit hk he hj hd (fun H1 locs1 hl1 hh1 => kk _ rfl p e s m args below meth c H1 locs1 ls f hl1 hh1 hlv)
theorem rj_iald {k len : Nat} {g : Nat → Int32} {i : Int32} (hd : decode mi.2.1 pc = .ok (.iaload, 1)) (hk : k < n) (he : es k = .inl (0, len, .inl g)) (hin : vp_in i len) (kk : RJ w R mi ce sl (pc + 1) lv (.int (g i.toNatClampNeg) :: st) n es F) : RJ w R mi ce sl pc lv (.int i :: .ref k :: st) n es F := by
  intro p e s m args below meth c H locs ls f hl hh hlv
  have hk1 : k < 1000 := Nat.lt_of_lt_of_le hk hh.1
  have hP := hh.2.2.2 k hk
  rw [he] at hP
  have hc : H[wB w + k]? = some (arrV (wI w) len (fun j => .int (g j))) := hP
  have hlt : i.toNatClampNeg < len := Nat.not_le.mp fun q => hin (Or.inr q)
  show W p (wl w) e R s m args below meth c H locs ce sl (F args s below) (F0 m pc ls (.int i :: cv w (.ref k) :: st.map (cv w)))
  rw [cv_lo w hk1]
  exact W.iald (v := .int (g i.toNatClampNeg)) f.1 f.2.1 hc (iI f.2.2.2.2.2.2.2.2 len _) (fun q => by cases q) (by rw [arrV_size]; exact hin) (by rw [arrV_read _ _ hlt]) rfl rfl hd (kk p e s m args below meth c H locs ls f hl hh hlv)
theorem rj_iast {k len : Nat} {g : Nat → Int32} {i x : Int32} (hd : decode mi.2.1 pc = .ok (.iastore, 1)) (hk : k < n) (he : es k = .inl (0, len, .inl g)) (hin : vp_in i len) (kk : ∀ es', es' = va_up es k (.inl (0, len, .inl (upd g i.toNatClampNeg x))) → RJ w R mi ce sl (pc + 1) lv st n es' F) : RJ w R mi ce sl pc lv (.int x :: .int i :: .ref k :: st) n es F := by
  intro p e s m args below meth c H locs ls f hl hh hlv
  have hk1 : k < 1000 := Nat.lt_of_lt_of_le hk hh.1
  have hP := hh.2.2.2 k hk
  rw [he] at hP
  have hc : H[wB w + k]? = some (arrV (wI w) len (fun j => .int (g j))) := hP
  show W p (wl w) e R s m args below meth c H locs ce sl (F args s below) (F0 m pc ls (.int x :: .int i :: cv w (.ref k) :: st.map (cv w)))
  rw [cv_lo w hk1]
  refine W.iast f.1 f.2.1 hc (iI f.2.2.2.2.2.2.2.2 len _) (fun q => by cases q) (by rw [arrV_size]; exact hin) rfl rfl hd fun H1 e1 z oq => ?_
  refine kk _ rfl p e s m args below meth c H1 _ ls f (fun q hq => ?_) (eup_at hh z oq ?_) hlv
  · rcases List.mem_append.mp hq with h | h
    · exact hl q h
    · rw [List.mem_singleton.mp h]; exact Nat.le_add_right _ _
  · show H1[wB w + k]? = some (arrV (wI w) len (fun j => .int (upd g i.toNatClampNeg x j)))
    rw [e1, arrV_store]
    congr 2
    funext q
    by_cases hq : q = i.toNatClampNeg <;> simp [updV, upd, hq]
theorem rj_alen {k len : Nat} {g : Nat → Int32} {v : Int32} (hd : decode mi.2.1 pc = .ok (.arraylength, 1)) (hk : k < n) (he : es k = .inl (0, len, .inl g)) (hvv : Int32.ofNat len = v) (kk : RJ w R mi ce sl (pc + 1) lv (.int v :: st) n es F) : RJ w R mi ce sl pc lv (.ref k :: st) n es F := by
  intro p e s m args below meth c H locs ls f hl hh hlv
  have hk1 : k < 1000 := Nat.lt_of_lt_of_le hk hh.1
  have hP := hh.2.2.2 k hk
  rw [he] at hP
  have hc : H[wB w + k]? = some (arrV (wI w) len (fun j => .int (g j))) := hP
  show W p (wl w) e R s m args below meth c H locs ce sl (F args s below) (F0 m pc ls (cv w (.ref k) :: st.map (cv w)))
  rw [cv_lo w hk1]
  exact W.alen (n := v) f.1 f.2.1 hc (iI f.2.2.2.2.2.2.2.2 len _) (by rw [arrV_size]; exact hvv) rfl rfl hd (kk p e s m args below meth c H locs ls f hl hh hlv)
theorem rj_aald {k len : Nat} {g : Nat → Option Nat} {i : Int32} {v : Nat} (hd : decode mi.2.1 pc = .ok (.aaload, 1)) (hk : k < n) (he : es k = .inl (1, len, .inr (.inr (.inr (.inr g))))) (hin : vp_in i len) (hv : g i.toNatClampNeg = some v) (hv1 : v < 1000) (kk : RJ w R mi ce sl (pc + 1) lv (.ref v :: st) n es F) : RJ w R mi ce sl pc lv (.int i :: .ref k :: st) n es F := by
  intro p e s m args below meth c H locs ls f hl hh hlv
  have hk1 : k < 1000 := Nat.lt_of_lt_of_le hk hh.1
  have hP := hh.2.2.2 k hk
  rw [he] at hP
  have hc : H[wB w + k]? = some (arrV (wR w) len (fun j => va_rf ((g j).map (fun k => wB w + k)))) := hP
  have hlt : i.toNatClampNeg < len := Nat.not_le.mp fun q => hin (Or.inr q)
  show W p (wl w) e R s m args below meth c H locs ce sl (F args s below) (F0 m pc ls (.int i :: cv w (.ref k) :: st.map (cv w)))
  rw [cv_lo w hk1]
  have g1 := kk p e s m args below meth c H locs ls f hl hh hlv
  have e9 : (Value.ref v :: st).map (cv w) = .ref (wB w + v) :: st.map (cv w) := by rw [List.map_cons, cv_lo w hv1]
  rw [e9] at g1
  exact W.aald (v := .ref (wB w + v)) (ty := .object RX6) f.1 f.2.1 hc (iR f.2.2.2.2.2.2.2.2 len _) rfl (fun q => by cases q) (by rw [arrV_size]; exact hin) (by rw [arrV_read _ _ hlt, hv]; rfl) rfl rfl hd g1
theorem rj_iret {h mc ms : Nat} {Q : Option Value → Nat → Ent → Prop} {x : Int32} {ty : FieldType} (hd : decode mi.2.1 pc = .ok (.ireturn, 1)) (hr : mi.2.2.2 = some ty) (hn : narrow ty (.int x) = .int x) (hce : ce ≤ mc) (hsl : sl ≤ ms) (hq : Q (some (.int x)) n es) : RJ w (rmk h mc ms) mi ce sl pc lv [.int x] n es (FM w mc ms Q) :=
  fun p e s m args below meth c H locs ls f hl hh hlv => W.widen hce hsl (W.zret (Qc := QC w Q) f.1 f.2.1 (f.2.2.1.trans hr) hn (fun t ht hW => ⟨some (.int x), n, es, rfl, by rw [ht]; exact hh, hq⟩) hl hd f.2.2.2.2.2.1)
theorem rj_vret {h mc ms : Nat} {Q : Option Value → Nat → Ent → Prop} (hd : decode mi.2.1 pc = .ok (.return_, 1)) (hr : mi.2.2.2 = none) (hce : ce ≤ mc) (hsl : sl ≤ ms) (hq : Q none n es) : RJ w (rmk h mc ms) mi ce sl pc lv [] n es (FM w mc ms Q) :=
  fun p e s m args below meth c H locs ls f hl hh hlv => W.widen hce hsl (W.vret (Qc := QC w Q) f.1 f.2.1 (f.2.2.1.trans hr) (fun t ht hW => ⟨none, n, es, rfl, by rw [ht]; exact hh, hq⟩) hl hd f.2.2.2.2.2.1)
theorem rj_aret {h mc ms : Nat} {Q : Option Value → Nat → Ent → Prop} {k : Nat} {C : String} (hd : decode mi.2.1 pc = .ok (.areturn, 1)) (hr : mi.2.2.2 = some (.object C)) (hce : ce ≤ mc) (hsl : sl ≤ ms) (hq : Q (some (.ref k)) n es) : RJ w (rmk h mc ms) mi ce sl pc lv [.ref k] n es (FM w mc ms Q) :=
  fun p e s m args below meth c H locs ls f hl hh hlv => W.widen hce hsl (W.aret (Qc := QC w Q) (v := cv w (.ref k)) f.1 f.2.1 (f.2.2.1.trans hr) (Or.inl ⟨C, rfl⟩) (Or.inr ⟨_, rfl⟩) (fun t ht hW => ⟨some (.ref k), n, es, rfl, by rw [ht]; exact hh, hq⟩) hl hd f.2.2.2.2.2.1)
end RULES2

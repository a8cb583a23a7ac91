/-! ===== what was there before the law began: script, static arrays, texts; arraycopy ===== -/
section RULES4
variable {w : Wd} {R : Room} {mi : MI} {ce sl pc : Nat} {lv lv' : List (Nat × Value)} {st : List Value} {n : Nat} {es : Ent} {F : Array Value → State → List Frame → State → Prop}
theorem cvc (k : Nat) (rest : List Value) : (Value.ref (1000 + k) :: rest).map (cv w) = .ref (wX w k) :: rest.map (cv w) := by rw [List.map_cons, cv_hi]
/-- the script: cell 1000 -/
theorem rj_sld {i : Int32} (hd : decode mi.2.1 pc = .ok (.iaload, 1)) (hin : vp_in i (wL w)) (kk : RJ w R mi ce sl (pc + 1) lv (.int (wS w i.toNatClampNeg) :: st) n es F) : RJ w R mi ce sl pc lv (.int i :: .ref 1000 :: st) n es F := by
  intro p e s m args below meth c H locs ls f hl hh hlv
  obtain ⟨⟨scr, h1, h2, h3, h4, h5⟩, hb⟩ := f.2.2.2.2.2.2.2.2.2.2.1
  have hlt : i.toNatClampNeg < wL w := Nat.not_le.mp fun q => hin (Or.inr q)
  show W p (wl w) e R s m args below meth c H locs ce sl (F args s below) (F0 m pc ls (.int i :: (Value.ref (1000 + 0) :: st).map (cv w)))
  rw [cvc]
  exact W.iald (v := .int (wS w i.toNatClampNeg)) f.1 f.2.1 (by rw [hh.2.2.1 _ hb]; exact h1) h2 h3 (by rw [h4]; exact hin) (h5 _ hlt) rfl rfl hd (kk p e s m args below meth c H locs ls f hl hh hlv)
theorem rj_slen (hd : decode mi.2.1 pc = .ok (.arraylength, 1)) (kk : RJ w R mi ce sl (pc + 1) lv (.int (Int32.ofNat (wL w)) :: st) n es F) : RJ w R mi ce sl pc lv (.ref 1000 :: st) n es F := by
  intro p e s m args below meth c H locs ls f hl hh hlv
  obtain ⟨⟨scr, h1, h2, h3, h4, h5⟩, hb⟩ := f.2.2.2.2.2.2.2.2.2.2.1
  show W p (wl w) e R s m args below meth c H locs ce sl (F args s below) (F0 m pc ls ((Value.ref (1000 + 0) :: st).map (cv w)))
  rw [cvc]
  exact W.alen (n := Int32.ofNat (wL w)) f.1 f.2.1 (by rw [hh.2.2.1 _ hb]; exact h1) h2 (by rw [h4] <;> rfl) rfl rfl hd (kk p e s m args below meth c H locs ls f hl hh hlv)
theorem gets_core {own C nm ds : String} {v : Value} {idx : Nat} {p : Program} {e : Env} {s : State} {m : MethodId} {args : Array Value} {below : List Frame} {meth : Method} {c : Code} {H : Heap} {locs : List Loc} {ls : Array Slot} (f : FX w mi p s m args meth c) (hh : HH w H n es) (hZ : va_Z C nm ds (cv w v) (wA w) s (wH w)) (ho : mi.1.cls = own)
    (hlink : (Cond.fieldLink own idx C nm ds).before args s = true) (hd : decode mi.2.1 pc = .ok (.getstatic idx, 3)) (kk : W p (wl w) e R s m args below meth c H locs ce sl (F args s below) (F0 m (pc + 3) ls ((v :: st).map (cv w)))) : W p (wl w) e R s m args below meth c H locs ce sl (F args s below) (F0 m pc ls (st.map (cv w))) := by
  obtain ⟨cf, kf, fi, fd, a, cell, h1, h2, h3, h4, h5, h6, h7, h8⟩ := hZ.kept hh.old
  exact W.gets f.1 f.2.1 (ho ▸ f.2.2.2.2.1) hlink h1 h2 h3 h4 h5 (fun e => by rw [e] at h6; cases h6) h7 rfl hd kk
/-- PaneThread.ABOVE: cell 1001 -/
theorem rj_getsA {own : String} {idx : Nat} (ho : mi.1.cls = own) (hlink : Cond.fieldLink own idx RX10 "ABOVE" "[I" ∈ tG) (hd : decode mi.2.1 pc = .ok (.getstatic idx, 3)) (kk : RJ w R mi ce sl (pc + 3) lv (.ref 1001 :: st) n es F) : RJ w R mi ce sl pc lv st n es F :=
  fun p e s m args below meth c H locs ls f hl hh hlv => gets_core (v := .ref (1000 + 1)) f hh (by rw [cv_hi]; exact f.2.2.2.2.2.2.2.2.2.2.2.1.1.1) ho (f.2.2.2.2.2.2.2.1 _ hlink) hd (kk p e s m args below meth c H locs ls f hl hh hlv)
theorem rj_getsC {own : String} {idx : Nat} (ho : mi.1.cls = own) (hlink : Cond.fieldLink own idx RJ0 "COMPACT_STRINGS" "Z" ∈ tG) (hd : decode mi.2.1 pc = .ok (.getstatic idx, 3)) (kk : RJ w R mi ce sl (pc + 3) lv (.int 1 :: st) n es F) : RJ w R mi ce sl pc lv st n es F :=
  fun p e s m args below meth c H locs ls f hl hh hlv => gets_core (v := .int 1) f hh f.2.2.2.2.2.2.2.2.2.2.2.1.2.2.2.1 ho (f.2.2.2.2.2.2.2.1 _ hlink) hd (kk p e s m args below meth c H locs ls f hl hh hlv)
theorem rj_getsF {own : String} {idx : Nat} (ho : mi.1.cls = own) (hlink : Cond.fieldLink own idx RJ3 "SIOOBE_FORMATTER" "Ljava/util/function/BiFunction;" ∈ tG) (hd : decode mi.2.1 pc = .ok (.getstatic idx, 3)) (kk : RJ w R mi ce sl (pc + 3) lv (wV w :: st) n es F) : RJ w R mi ce sl pc lv st n es F :=
  fun p e s m args below meth c H locs ls f hl hh hlv => gets_core (v := wV w) f hh f.2.2.2.2.2.2.2.2.2.2.2.1.2.2.2.2 ho (f.2.2.2.2.2.2.2.1 _ hlink) hd (kk p e s m args below meth c H locs ls f hl hh hlv)
theorem getsN_core {own C nm ds host : String} {v : Value} {idx : Nat} {p : Program} {e : Env} {s : State} {m : MethodId} {args : Array Value} {below : List Frame} {meth : Method} {c : Code} {H : Heap} {locs : List Loc} {ls : Array Slot} (f : FX w mi p s m args meth c) (hh : HH w H n es) (hZ : va_Z C nm ds (cv w v) (wA w) s (wH w)) (ho : mi.1.cls = own)
    (hlink : Cond.fieldLinkNest own idx C nm ds host ∈ tN) (hd : decode mi.2.1 pc = .ok (.getstatic idx, 3)) (kk : W p (wl w) e R s m args below meth c H locs ce sl (F args s below) (F0 m (pc + 3) ls ((v :: st).map (cv w)))) : W p (wl w) e R s m args below meth c H locs ce sl (F args s below) (F0 m pc ls (st.map (cv w))) := by
  obtain ⟨cf, kf, fi, fd, a, cell, h1, h2, h3, h4, h5, h6, h7, h8⟩ := hZ.kept hh.old
  exact va_WgetsN f.1 f.2.1 (ho ▸ f.2.2.2.2.1) (va_Nw.use rfl (f.2.2.2.2.2.2.2.2.2.1 _ hlink)) h1 h2 h3 h4 h5 (fun e => by rw [e] at h6; cases h6) h7 rfl hd kk
theorem rj_getsL {own host : String} {idx : Nat} (ho : mi.1.cls = own) (hlink : Cond.fieldLinkNest own idx RX10 "LEAST_OF_DEED" "[I" host ∈ tN) (hd : decode mi.2.1 pc = .ok (.getstatic idx, 3)) (kk : RJ w R mi ce sl (pc + 3) lv (.ref 1002 :: st) n es F) : RJ w R mi ce sl pc lv st n es F :=
  fun p e s m args below meth c H locs ls f hl hh hlv => getsN_core (v := .ref (1000 + 2)) f hh (by rw [cv_hi]; exact f.2.2.2.2.2.2.2.2.2.2.2.1.2.1.1) ho hlink hd (kk p e s m args below meth c H locs ls f hl hh hlv)
theorem rj_getsM {own host : String} {idx : Nat} (ho : mi.1.cls = own) (hlink : Cond.fieldLinkNest own idx RX10 "MOST_OF_DEED" "[I" host ∈ tN) (hd : decode mi.2.1 pc = .ok (.getstatic idx, 3)) (kk : RJ w R mi ce sl (pc + 3) lv (.ref 1003 :: st) n es F) : RJ w R mi ce sl pc lv st n es F :=
  fun p e s m args below meth c H locs ls f hl hh hlv => getsN_core (v := .ref (1000 + 3)) f hh (by rw [cv_hi]; exact f.2.2.2.2.2.2.2.2.2.2.2.1.2.2.1.1) ho hlink hd (kk p e s m args below meth c H locs ls f hl hh hlv)
theorem tald_core {q N : Nat} {g : Nat → Int32} {i : Int32} {p : Program} {e : Env} {s : State} {m : MethodId} {args : Array Value} {below : List Frame} {meth : Method} {c : Code} {H : Heap} {locs : List Loc} {ls : Array Slot} (f : FX w mi p s m args meth c) (hh : HH w H n es) (hT : va_T .int (wX w q) N (fun j => .int (g j)) (wA w) s (wH w))
    (hd : decode mi.2.1 pc = .ok (.iaload, 1)) (hin : vp_in i N) (kk : W p (wl w) e R s m args below meth c H locs ce sl (F args s below) (F0 m (pc + 1) ls (.int (g i.toNatClampNeg) :: st.map (cv w)))) : W p (wl w) e R s m args below meth c H locs ce sl (F args s below) (F0 m pc ls ((.int i :: .ref (1000 + q) :: st).map (cv w))) := by
  obtain ⟨cell, h1, h2, h3, h4, h5, h6, h7⟩ := hT.kept hh.old
  have hlt : i.toNatClampNeg < N := Nat.not_le.mp fun q => hin (Or.inr q)
  have hin' : ¬ (i < 0 ∨ cell.slots.size ≤ i.toNatClampNeg) := by
    intro q
    rcases q with q | q
    · exact hin (Or.inl q)
    · omega
  show W p (wl w) e R s m args below meth c H locs ce sl (F args s below) (F0 m pc ls (.int i :: (Value.ref (1000 + q) :: st).map (cv w)))
  rw [cvc]
  exact W.iald (v := .int (g i.toNatClampNeg)) f.1 f.2.1 h1 h2 h3 hin' (h6 _ hlt) rfl rfl hd kk
theorem rj_taldA {i : Int32} (hd : decode mi.2.1 pc = .ok (.iaload, 1)) (hin : vp_in i 8) (kk : RJ w R mi ce sl (pc + 1) lv (.int (tabA i.toNatClampNeg) :: st) n es F) : RJ w R mi ce sl pc lv (.int i :: .ref 1001 :: st) n es F :=
  fun p e s m args below meth c H locs ls f hl hh hlv => tald_core (q := 1) f hh f.2.2.2.2.2.2.2.2.2.2.2.1.1.2 hd hin (kk p e s m args below meth c H locs ls f hl hh hlv)
theorem rj_taldL {i : Int32} (hd : decode mi.2.1 pc = .ok (.iaload, 1)) (hin : vp_in i 13) (kk : RJ w R mi ce sl (pc + 1) lv (.int (tabL i.toNatClampNeg) :: st) n es F) : RJ w R mi ce sl pc lv (.int i :: .ref 1002 :: st) n es F :=
  fun p e s m args below meth c H locs ls f hl hh hlv => tald_core (q := 2) f hh f.2.2.2.2.2.2.2.2.2.2.2.1.2.1.2 hd hin (kk p e s m args below meth c H locs ls f hl hh hlv)
theorem rj_taldM {i : Int32} (hd : decode mi.2.1 pc = .ok (.iaload, 1)) (hin : vp_in i 13) (kk : RJ w R mi ce sl (pc + 1) lv (.int (tabM i.toNatClampNeg) :: st) n es F) : RJ w R mi ce sl pc lv (.int i :: .ref 1003 :: st) n es F :=
  fun p e s m args below meth c H locs ls f hl hh hlv => tald_core (q := 3) f hh f.2.2.2.2.2.2.2.2.2.2.2.1.2.2.1.2 hd hin (kk p e s m args below meth c H locs ls f hl hh hlv)
/-- text i: cell 1004 + i, its bytes 1032 + i -/
theorem rj_ldcS {own : String} {idx i : Nat} (hi : i < 28) (ho : mi.1.cls = own) (h1 : strO i = own) (h2 : strK i = idx) (hd : decode mi.2.1 pc = .ok (.ldc idx, 2)) (kk : RJ w R mi ce sl (pc + 2) lv (.ref (1000 + (4 + i)) :: st) n es F) : RJ w R mi ce sl pc lv st n es F := by
  intro p e s m args below meth c H locs ls f hl hh hlv
  have g := kk p e s m args below meth c H locs ls f hl hh hlv
  rw [cvc] at g
  subst h1; subst h2
  exact va_ldcS f.1 f.2.1 (ho ▸ f.2.2.2.2.1) (f.2.2.2.2.2.2.2.2.2.2.2.2.1 i hi).1 hd g
theorem rj_sval {i idx : Nat} (hi : i < 28) (ho : mi.1.cls = RJ0) (hl : Cond.fieldLink RJ0 idx RJ0 "value" "[B" ∈ tG) (hd : decode mi.2.1 pc = .ok (.getfield idx, 3)) (kk : RJ w R mi ce sl (pc + 3) lv (.ref (1000 + (32 + i)) :: st) n es F) : RJ w R mi ce sl pc lv (.ref (1000 + (4 + i)) :: st) n es F := by
  intro p e s m args below meth c H locs ls f hlc hh hlv
  have g := kk p e s m args below meth c H locs ls f hlc hh hlv
  rw [cvc] at g ⊢
  obtain ⟨cf, k, fi, fd, cell, h1, h2, h3, h4, h5, h6⟩ := (f.2.2.2.2.2.2.2.2.2.2.2.2.1 i hi).2.2.2.1.kept hh.old
  exact W.getf f.1 f.2.1 (ho ▸ f.2.2.2.2.1) (f.2.2.2.2.2.2.2.1 _ hl) h1 h2 h3 h4 (v := .ref (wX w (32 + i))) h5 rfl rfl hd g
theorem rj_scod {i idx : Nat} (hi : i < 28) (ho : mi.1.cls = RJ0) (hl : Cond.fieldLink RJ0 idx RJ0 "coder" "B" ∈ tG) (hd : decode mi.2.1 pc = .ok (.getfield idx, 3)) (kk : RJ w R mi ce sl (pc + 3) lv (.int 0 :: st) n es F) : RJ w R mi ce sl pc lv (.ref (1000 + (4 + i)) :: st) n es F := by
  intro p e s m args below meth c H locs ls f hlc hh hlv
  have g := kk p e s m args below meth c H locs ls f hlc hh hlv
  rw [cvc]
  obtain ⟨cf, k, fi, fd, cell, h1, h2, h3, h4, h5, h6⟩ := (f.2.2.2.2.2.2.2.2.2.2.2.2.1 i hi).2.2.1.kept hh.old
  exact W.getf f.1 f.2.1 (ho ▸ f.2.2.2.2.1) (f.2.2.2.2.2.2.2.1 _ hl) h1 h2 h3 h4 (v := .int 0) h5 rfl rfl hd g
theorem rj_balen {i : Nat} {v : Int32} (hi : i < 28) (hv : Int32.ofNat (strB i).length = v) (hd : decode mi.2.1 pc = .ok (.arraylength, 1)) (kk : RJ w R mi ce sl (pc + 1) lv (.int v :: st) n es F) : RJ w R mi ce sl pc lv (.ref (1000 + (32 + i)) :: st) n es F := by
  intro p e s m args below meth c H locs ls f hlc hh hlv
  have g := kk p e s m args below meth c H locs ls f hlc hh hlv
  rw [cvc]
  obtain ⟨cell, h1, h2, h3, h4, h5, h6, h7⟩ := (f.2.2.2.2.2.2.2.2.2.2.2.2.1 i hi).2.2.2.2.kept hh.old
  exact W.alen (n := v) f.1 f.2.1 h1 h2 (h5.trans hv) rfl rfl hd g
theorem rj_bald {i : Nat} {j : Int32} (hi : i < 28) (hin : vp_in j (strB i).length) (hd : decode mi.2.1 pc = .ok (.baload, 1)) (kk : RJ w R mi ce sl (pc + 1) lv (.int ((strB i).getD j.toNatClampNeg 0) :: st) n es F) : RJ w R mi ce sl pc lv (.int j :: .ref (1000 + (32 + i)) :: st) n es F := by
  intro p e s m args below meth c H locs ls f hlc hh hlv
  have g := kk p e s m args below meth c H locs ls f hlc hh hlv
  show W p (wl w) e R s m args below meth c H locs ce sl (F args s below) (F0 m pc ls (.int j :: (Value.ref (1000 + (32 + i)) :: st).map (cv w)))
  rw [cvc]
  obtain ⟨cell, h1, h2, h3, h4, h5, h6, h7⟩ := (f.2.2.2.2.2.2.2.2.2.2.2.2.1 i hi).2.2.2.2.kept hh.old
  have hlt : j.toNatClampNeg < (strB i).length := Nat.not_le.mp fun q => hin (Or.inr q)
  have hin' : ¬ (j < 0 ∨ cell.slots.size ≤ j.toNatClampNeg) := by
    intro q
    rcases q with q | q
    · exact hin (Or.inl q)
    · omega
  exact W.bald (v := .int ((strB i).getD j.toNatClampNeg 0)) f.1 f.2.1 h1 h2 h3 hin' (h6 _ hlt) rfl rfl hd g
/-- a method of a text -/
theorem rj_callT {own : String} {idx i h : Nat} {mi2 : MI} {As rest : List Value} {np mc ms : Nat} {Q : Option Value → Nat → Ent → Prop} (hi : i < 28) (ho : mi.1.cls = own) (hl : Cond.methodLink own idx mi2.1 ∈ tG) (hm : MV mi2 np) (hd : decode mi.2.1 pc = .ok (.invokevirtual idx, 3)) (hC : mi2.1.cls = "java/lang/String") (hst : st = As.reverse ++ .ref (1000 + (4 + i)) :: rest) (hn : As.length = np) (hw : (rest.map fun v => v.category).sum ≤ 8)
    (hR : h + 1 ≤ R.frames ∧ 8 + (mi2.2.2.1 + 11) + 39 * h ≤ R.locals) (hf : ce + mc ≤ R.cells ∧ sl + ms ≤ R.slots) (hco : CO w h mi2 mc ms (.ref (1000 + (4 + i)) :: As) n es Q) (kk : ∀ r n' es', Q r n' es' → RJ w R mi (ce + mc) (sl + ms) (pc + 3) lv (r.toList ++ rest) n' es' F) : RJ w R mi ce sl pc lv st n es F := by
  intro p e s m args below meth c H locs ls f hlc hh hlv
  subst hst
  obtain ⟨⟨m1, m2, m3, m4, m5⟩, m6, m7⟩ := hm
  have hts := f.2.2.2.2.2.2.2.1
  have cw : CallW R s args own mi2.1.cls idx mi2.1 mi2.2.1 mi2.2.2.1 mi2.2.2.2 (Cond.code mi2.1 mi2.2.1 mi2.2.2.1 mi2.2.2.2 :: tG) (rmk h mc ms) mc ms np := ⟨callB_of np hts (goodC m1) rfl rfl rfl (hts _ m2) (hts _ hl) ⟨m3, m4, m5⟩ hR, hts _ m6, hts _ m7⟩
  obtain ⟨cell, q1, q2, q3, -⟩ := (f.2.2.2.2.2.2.2.2.2.2.2.2.1 i hi).2.1.kept hh.old
  have hpre : PreV s H mi2.1.cls (wX w (4 + i)) (fun a U => a = ((Value.ref (1000 + (4 + i)) :: As).map (cv w)).toArray ∧ KS w U ∧ HH w U.heap n es) (As.map (cv w)) := by
    refine ⟨co_blind, ⟨cell, q1, q2, by rw [hC]; exact q3⟩, fun U hU hW => ⟨?_, KS.warm hW f.2.2.2.2.2.2.2.2, by rw [hU]; exact hh⟩⟩
    rw [cvc]
  refine run_end (va_runV (g := F0 m pc ls ((As.reverse ++ .ref (1000 + (4 + i)) :: rest).map (cv w))) (As := As.map (cv w)) (rest := rest.map (cv w)) ⟨f.1, f.2.1, f.2.2.2.1, ho ▸ f.2.2.2.2.1, hts⟩ hco cw hpre rfl (by simpa using hn) hlv.1 ?_ ?_ hd hf) f hlc hlv kk
  · show (As.reverse ++ .ref (1000 + (4 + i)) :: rest).map (cv w) = _
    rw [List.map_append, cvc, as_rev]
  · show 2 * 0 + _ ≤ 8
    rw [cv_cats]
    omega
theorem rj_copy {own : String} {idx a b n0 n1 : Nat} {f0 f1 : Nat → Int32} {sp dp x : Int32} {rest : List Value} (ho : mi.1.cls = own) (h1 : Cond.methodLink own idx arraycopyName ∈ tG) (h2 : Cond.native arraycopyName ∈ tG) (h3 : Cond.static arraycopyName ∈ tG) (h4 : Cond.initialized "java/lang/System" ∈ tG) (hd : decode mi.2.1 pc = .ok (.invokestatic idx, 3))
    (ha : a < n) (hb : b < n) (hea : es a = .inl (0, n0, .inl f0)) (heb : es b = .inl (0, n1, .inl f1)) (g1 : ¬ sp < 0) (g2 : ¬ dp < 0) (g3 : ¬ x < 0) (g4 : sp.toNatClampNeg + x.toNatClampNeg ≤ n0) (g5 : dp.toNatClampNeg + x.toNatClampNeg ≤ n1) (hR : 1 ≤ R.frames) (hR2 : (rest.map fun v => v.category).sum + (nativeFrameWords "java/lang/System" "arraycopy" 5 + 11) ≤ R.locals)
    (kk : ∀ es', es' = va_up es b (.inl (0, n1, .inl (va_cpy f0 f1 sp.toNatClampNeg dp.toNatClampNeg x.toNatClampNeg))) → RJ w R mi ce sl (pc + 3) lv rest n es' F) : RJ w R mi ce sl pc lv (.int x :: .int dp :: .ref b :: .int sp :: .ref a :: rest) n es F := by
  intro p e s m args below meth c H locs ls f hl hh hlv
  have hts := f.2.2.2.2.2.2.2.1
  have ha1 : a < 1000 := Nat.lt_of_lt_of_le ha hh.1
  have hb1 : b < 1000 := Nat.lt_of_lt_of_le hb hh.1
  have hPa := hh.2.2.2 a ha
  rw [hea] at hPa
  have hca : H[wB w + a]? = some (arrV (wI w) n0 (fun j => .int (f0 j))) := hPa
  have hPb := hh.2.2.2 b hb
  rw [heb] at hPb
  have hcb : H[wB w + b]? = some (arrV (wI w) n1 (fun j => .int (f1 j))) := hPb
  have nn : ∀ z : Int32, ¬ z < 0 → z.toInt = (z.toNatClampNeg : Int) := by
    intro z hz
    have hz0 : (0 : Int) ≤ z.toInt := by
      have := Int32.not_lt.mp hz
      simpa using Int32.le_iff_toInt_le.mp this
    show z.toInt = ((z.toInt.toNat : Nat) : Int)
    omega
  have hK := f.2.2.2.2.2.2.2.2
  obtain ⟨-, k0, hk0, cm0, hkk0⟩ := iI hK n0 (fun j => .int (f0 j))
  obtain ⟨-, k1, hk1, cm1, hkk1⟩ := iI hK n1 (fun j => .int (f1 j))
  show W p (wl w) e R s m args below meth c H locs ce sl (F args s below) (F0 m pc ls (.int x :: .int dp :: cv w (.ref b) :: .int sp :: cv w (.ref a) :: rest.map (cv w)))
  rw [cv_lo w ha1, cv_lo w hb1]
  intro T hT X
  obtain ⟨vm', X', step⟩ := X.arraycopy f.1 (ho ▸ f.2.2.2.2.1) (hts _ h1) (hts _ h2) (hts _ h3) (hts _ h4) (src := wB w + a) (dst := wB w + b) (cs := arrV (wI w) n0 (fun j => .int (f0 j))) (cd := arrV (wI w) n1 (fun j => .int (f1 j))) (srcPos := sp) (destPos := dp) (n := x) (by rw [hT]; exact hca) (by rw [hT]; exact hcb)
    (fun _ h => by cases h) (fun _ h => by cases h) (fun h => by cases h) (fun h => by cases h) hk0 hk1 hkk0 hkk1 (by simp) g1 g2 g3
    (by rw [nn sp g1, nn x g3, arrV_size]; omega)
    (by rw [nn dp g2, nn x g3, arrV_size]; omega)
    (fun vm₁ _ i hi => by
      have e : (arrV (wI w) n0 (fun j => .int (f0 j))).slots.getD (sp.toNatClampNeg + i) .null = .int (f0 (sp.toNatClampNeg + i)) := by
        rw [Array.getD_eq_getD_getElem?, arrV_read _ _ (by omega)]
        rfl
      refine ⟨?_, ?_⟩
      · rw [e]; rfl
      · rw [e]; exact trivial)
    (g := F0 m pc ls (.int x :: .int dp :: .ref (wB w + b) :: .int sp :: .ref (wB w + a) :: rest.map (cv w))) rfl (by rw [f.2.2.2.1]; exact hlv.1) (rest := rest.map (cv w)) rfl (by rw [f.2.1]; exact hd) hR (by show 2 * 0 + _ + _ ≤ _; rw [cv_cats]; omega)
  have e1 : copied (arrV (wI w) n0 (fun j => .int (f0 j))) (arrV (wI w) n1 (fun j => .int (f1 j))) sp dp x = arrV (wI w) n1 (fun j => .int (va_cpy f0 f1 sp.toNatClampNeg dp.toNatClampNeg x.toNatClampNeg j)) := va_copied (fun z => .int z) (wI w) (wI w) f0 f1 g4
  rw [e1] at X' step
  have hlt : wB w + b < H.size := (Array.getElem?_eq_some_iff.mp hcb).1
  have hheap : ((T.setVm vm').setCell (wB w + b) (arrV (wI w) n1 (fun j => .int (va_cpy f0 f1 sp.toNatClampNeg dp.toNatClampNeg x.toNatClampNeg j)))).heap = H.setIfInBounds (wB w + b) (arrV (wI w) n1 (fun j => .int (va_cpy f0 f1 sp.toNatClampNeg dp.toNatClampNeg x.toNatClampNeg j))) := by rw [← hT]; rfl
  have oq : ∀ q : Nat, q ≠ wB w + b → (H.setIfInBounds (wB w + b) (arrV (wI w) n1 (fun j => .int (va_cpy f0 f1 sp.toNatClampNeg dp.toNatClampNeg x.toNatClampNeg j))))[q]? = H[q]? := fun q hq => by simp [Array.getElem?_setIfInBounds, Ne.symm hq]
  obtain ⟨t, a1, b1⟩ := kk _ rfl p e s m args below meth c _ _ ls f (fun q hq => by
      rcases List.mem_append.mp hq with h | h
      · exact hl q h
      · obtain ⟨z, -, hz⟩ := List.mem_map.mp h
        rw [← hz]
        exact Nat.le_add_right _ _) (eup_at hh (by simp) oq (show (H.setIfInBounds (wB w + b) _)[wB w + b]? = some _ by simp [Array.getElem?_setIfInBounds, hlt]; rfl)) hlv _ hheap X'
  exact ⟨t, step t a1, b1⟩
end RULES4

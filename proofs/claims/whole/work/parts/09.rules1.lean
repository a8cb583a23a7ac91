/-! ===== one rule an instruction ===== -/
def lset (i : Nat) (v : Value) : List (Nat × Value) → List (Nat × Value)
  | [] => [(i, v)]
  | q :: t => if q.1 = i then (i, v) :: t.filter (fun q => !(q.1 == i)) else q :: lset i v t
theorem lset_mem {i : Nat} {v : Value} : ∀ {lv : List (Nat × Value)} {x : Nat × Value}, x ∈ lset i v lv → x = (i, v) ∨ (x ∈ lv ∧ x.1 ≠ i)
  | [], x, h => Or.inl (List.mem_singleton.mp h)
  | q :: t, x, h => by
    unfold lset at h
    by_cases hq : q.1 = i
    · rw [if_pos hq] at h
      rcases List.mem_cons.mp h with h | h
      · exact Or.inl h
      · obtain ⟨h1, h2⟩ := List.mem_filter.mp h
        exact Or.inr ⟨List.mem_cons_of_mem _ h1, by simpa using h2⟩
    · rw [if_neg hq] at h
      rcases List.mem_cons.mp h with h | h
      · subst h; exact Or.inr ⟨List.mem_cons_self, hq⟩
      · rcases lset_mem h with h | h
        · exact Or.inl h
        · exact Or.inr ⟨List.mem_cons_of_mem _ h.1, h.2⟩
def cat1 (lv : List (Nat × Value)) : Bool := lv.all (fun q => q.2.category == 1)
theorem lset_has {w : Wd} {ls : Array Slot} {N i : Nat} {v : Value} {lv lv' : List (Nat × Value)} (hc : cat1 lv = true) (hl : lset i v lv = lv')
    (h : lv_has ls N ((i, cv w v) :: (lv.map (fun q => (q.1, cv w q.2))).filter (fun q => !(q.1 == i) && !(q.1 + 1 == i && q.2.category == 2)))) : lv_has ls N (lv'.map (fun q => (q.1, cv w q.2))) := by
  subst hl
  refine ⟨h.1, h.2.1, fun x hx => ?_⟩
  obtain ⟨y, hy, rfl⟩ := List.mem_map.mp hx
  refine h.2.2 _ ?_
  rcases lset_mem hy with rfl | ⟨h1, h2⟩
  · exact List.mem_cons_self
  · refine List.mem_cons_of_mem _ (List.mem_filter.mpr ⟨List.mem_map.mpr ⟨y, h1, rfl⟩, ?_⟩)
    have h3 := List.all_eq_true.mp hc y h1
    simp only [beq_iff_eq] at h3
    simp [cv_cat, h2, h3]
section RULES
variable {w : Wd} {R : Room} {mi : MI} {ce sl pc : Nat} {lv lv' : List (Nat × Value)} {st : List Value} {n : Nat} {es : Ent} {F : Array Value → State → List Frame → State → Prop}
theorem lv_get {ls : Array Slot} {N : Nat} (h : lv_has ls N (lv.map (fun q => (q.1, cv w q.2)))) {q i : Nat} {v : Value} (hq : lv[q]? = some (i, v)) : ls[i]? = some (.val (cv w v)) :=
  lv_at h q (by rw [List.getElem?_map, hq]; rfl)
theorem rj_eq {pc' : Nat} (h : pc = pc') (kk : RJ w R mi ce sl pc' lv st n es F) : RJ w R mi ce sl pc lv st n es F := h ▸ kk
theorem rj_top {x : Int32} (kk : ∀ y : Int32, y = x → RJ w R mi ce sl pc lv (.int y :: st) n es F) : RJ w R mi ce sl pc lv (.int x :: st) n es F := kk x rfl

theorem rj_iconst {k : Int} {v : Int32} (hd : decode mi.2.1 pc = .ok (.iconst k, 1)) (hc : Int32.ofInt k = v) (kk : RJ w R mi ce sl (pc + 1) lv (.int v :: st) n es F) : RJ w R mi ce sl pc lv (st) n es F :=
  fun p e s m args below meth c H locs ls f hl hh hv => lv_iconst f.1 f.2.1 hd hc (kk p e s m args below meth c H locs ls f hl hh hv)
theorem rj_bipush {k : Int} {v : Int32} (hd : decode mi.2.1 pc = .ok (.bipush k, 2)) (hc : (Int8.ofInt k).toInt32 = v) (kk : RJ w R mi ce sl (pc + 2) lv (.int v :: st) n es F) : RJ w R mi ce sl pc lv (st) n es F :=
  fun p e s m args below meth c H locs ls f hl hh hv => lv_bipush f.1 f.2.1 hd hc (kk p e s m args below meth c H locs ls f hl hh hv)
theorem rj_sipush {k : Int} {v : Int32} (hd : decode mi.2.1 pc = .ok (.sipush k, 3)) (hc : (Int16.ofInt k).toInt32 = v) (kk : RJ w R mi ce sl (pc + 3) lv (.int v :: st) n es F) : RJ w R mi ce sl pc lv (st) n es F :=
  fun p e s m args below meth c H locs ls f hl hh hv => lv_sipush f.1 f.2.1 hd hc (kk p e s m args below meth c H locs ls f hl hh hv)
theorem rj_lconst {k : Fin 2} {v : Int64} (hd : decode mi.2.1 pc = .ok (.lconst k, 1)) (hc : Int64.ofNat (k : Nat) = v) (kk : RJ w R mi ce sl (pc + 1) lv (.long v :: st) n es F) : RJ w R mi ce sl pc lv (st) n es F :=
  fun p e s m args below meth c H locs ls f hl hh hv => lv_lconst f.1 f.2.1 hd hc (kk p e s m args below meth c H locs ls f hl hh hv)
theorem rj_iload_n {k : Fin 4} {i : Nat} {x : Int32} (hd : decode mi.2.1 pc = .ok (.iload_n k, 1)) (q : Nat) (hi : (k : Nat) = i) (hq : lv[q]? = some (i, .int x)) (kk : RJ w R mi ce sl (pc + 1) lv (.int x :: st) n es F) : RJ w R mi ce sl pc lv (st) n es F :=
  fun p e s m args below meth c H locs ls f hl hh hv => lv_iload_n f.1 f.2.1 hd hi (lv_get hv hq) (kk p e s m args below meth c H locs ls f hl hh hv)
theorem rj_iload {i : Nat} {x : Int32} (hd : decode mi.2.1 pc = .ok (.iload i, 2)) (q : Nat) (hq : lv[q]? = some (i, .int x)) (kk : RJ w R mi ce sl (pc + 2) lv (.int x :: st) n es F) : RJ w R mi ce sl pc lv (st) n es F :=
  fun p e s m args below meth c H locs ls f hl hh hv => lv_iload f.1 f.2.1 hd (lv_get hv hq) (kk p e s m args below meth c H locs ls f hl hh hv)
theorem rj_lload_n {k : Fin 4} {i : Nat} {x : Int64} (hd : decode mi.2.1 pc = .ok (.lload_n k, 1)) (q : Nat) (hi : (k : Nat) = i) (hq : lv[q]? = some (i, .long x)) (kk : RJ w R mi ce sl (pc + 1) lv (.long x :: st) n es F) : RJ w R mi ce sl pc lv (st) n es F :=
  fun p e s m args below meth c H locs ls f hl hh hv => lv_lload_n f.1 f.2.1 hd hi (lv_get hv hq) (kk p e s m args below meth c H locs ls f hl hh hv)
theorem rj_lload {i : Nat} {x : Int64} (hd : decode mi.2.1 pc = .ok (.lload i, 2)) (q : Nat) (hq : lv[q]? = some (i, .long x)) (kk : RJ w R mi ce sl (pc + 2) lv (.long x :: st) n es F) : RJ w R mi ce sl pc lv (st) n es F :=
  fun p e s m args below meth c H locs ls f hl hh hv => lv_lload f.1 f.2.1 hd (lv_get hv hq) (kk p e s m args below meth c H locs ls f hl hh hv)
theorem rj_aload_n {k : Fin 4} {i : Nat} {x : Nat} (hd : decode mi.2.1 pc = .ok (.aload_n k, 1)) (q : Nat) (hi : (k : Nat) = i) (hq : lv[q]? = some (i, .ref x)) (kk : RJ w R mi ce sl (pc + 1) lv (.ref x :: st) n es F) : RJ w R mi ce sl pc lv (st) n es F :=
  fun p e s m args below meth c H locs ls f hl hh hv => lv_aload_n f.1 f.2.1 hd hi (lv_get hv hq) (kk p e s m args below meth c H locs ls f hl hh hv)
theorem rj_aload {i : Nat} {x : Nat} (hd : decode mi.2.1 pc = .ok (.aload i, 2)) (q : Nat) (hq : lv[q]? = some (i, .ref x)) (kk : RJ w R mi ce sl (pc + 2) lv (.ref x :: st) n es F) : RJ w R mi ce sl pc lv (st) n es F :=
  fun p e s m args below meth c H locs ls f hl hh hv => lv_aload f.1 f.2.1 hd (lv_get hv hq) (kk p e s m args below meth c H locs ls f hl hh hv)
theorem rj_istore_n {k : Fin 4} {i : Nat} {x : Int32} (hd : decode mi.2.1 pc = .ok (.istore_n k, 1)) (hi : (k : Nat) = i) (hn : i < mi.2.2.1) (hc : cat1 lv = true) (hs : lset i (.int x) lv = lv') (kk : RJ w R mi ce sl (pc + 1) lv' (st) n es F) : RJ w R mi ce sl pc lv (.int x :: st) n es F :=
  fun p e s m args below meth c H locs ls f hl hh hv => lv_istore_n f.1 f.2.1 hd hi hv hn rfl (fun ls1 h1 => kk p e s m args below meth c H locs ls1 f hl hh (lset_has hc hs h1))
theorem rj_istore {i : Nat} {x : Int32} (hd : decode mi.2.1 pc = .ok (.istore i, 2)) (hn : i < mi.2.2.1) (hc : cat1 lv = true) (hs : lset i (.int x) lv = lv') (kk : RJ w R mi ce sl (pc + 2) lv' (st) n es F) : RJ w R mi ce sl pc lv (.int x :: st) n es F :=
  fun p e s m args below meth c H locs ls f hl hh hv => lv_istore f.1 f.2.1 hd hv hn rfl (fun ls1 h1 => kk p e s m args below meth c H locs ls1 f hl hh (lset_has hc hs h1))
theorem rj_astore_n {k : Fin 4} {i : Nat} {x : Nat} (hd : decode mi.2.1 pc = .ok (.astore_n k, 1)) (hi : (k : Nat) = i) (hn : i < mi.2.2.1) (hc : cat1 lv = true) (hs : lset i (.ref x) lv = lv') (kk : RJ w R mi ce sl (pc + 1) lv' (st) n es F) : RJ w R mi ce sl pc lv (.ref x :: st) n es F :=
  fun p e s m args below meth c H locs ls f hl hh hv => lv_astore_n f.1 f.2.1 hd hi hv hn rfl (fun ls1 h1 => kk p e s m args below meth c H locs ls1 f hl hh (lset_has hc hs h1))
theorem rj_astore {i : Nat} {x : Nat} (hd : decode mi.2.1 pc = .ok (.astore i, 2)) (hn : i < mi.2.2.1) (hc : cat1 lv = true) (hs : lset i (.ref x) lv = lv') (kk : RJ w R mi ce sl (pc + 2) lv' (st) n es F) : RJ w R mi ce sl pc lv (.ref x :: st) n es F :=
  fun p e s m args below meth c H locs ls f hl hh hv => lv_astore f.1 f.2.1 hd hv hn rfl (fun ls1 h1 => kk p e s m args below meth c H locs ls1 f hl hh (lset_has hc hs h1))
theorem rj_iinc {i : Nat} {k : Int} {x v : Int32} (hd : decode mi.2.1 pc = .ok (.iinc i k, 3)) (q : Nat) (hq : lv[q]? = some (i, .int x)) (hx : x + Int32.ofInt k = v) (hn : i < mi.2.2.1) (hc : cat1 lv = true) (hs : lset i (.int v) lv = lv') (kk : RJ w R mi ce sl (pc + 3) lv' (st) n es F) : RJ w R mi ce sl pc lv (st) n es F :=
  fun p e s m args below meth c H locs ls f hl hh hv => lv_iinc f.1 f.2.1 hd hv (by rw [List.getElem?_map, hq]; rfl) hx hn rfl (fun ls1 h1 => kk p e s m args below meth c H locs ls1 f hl hh (lset_has hc hs h1))
theorem rj_iadd {x y : Int32} (hd : decode mi.2.1 pc = .ok (.iadd, 1))  (kk : RJ w R mi ce sl (pc + 1) lv (.int (x + y) :: st) n es F) : RJ w R mi ce sl pc lv (.int y :: .int x :: st) n es F :=
  fun p e s m args below meth c H locs ls f hl hh hv => lv_iadd f.1 f.2.1 hd (kk p e s m args below meth c H locs ls f hl hh hv)
theorem rj_isub {x y : Int32} (hd : decode mi.2.1 pc = .ok (.isub, 1))  (kk : RJ w R mi ce sl (pc + 1) lv (.int (x - y) :: st) n es F) : RJ w R mi ce sl pc lv (.int y :: .int x :: st) n es F :=
  fun p e s m args below meth c H locs ls f hl hh hv => lv_isub f.1 f.2.1 hd (kk p e s m args below meth c H locs ls f hl hh hv)
theorem rj_imul {x y : Int32} (hd : decode mi.2.1 pc = .ok (.imul, 1))  (kk : RJ w R mi ce sl (pc + 1) lv (.int (x * y) :: st) n es F) : RJ w R mi ce sl pc lv (.int y :: .int x :: st) n es F :=
  fun p e s m args below meth c H locs ls f hl hh hv => lv_imul f.1 f.2.1 hd (kk p e s m args below meth c H locs ls f hl hh hv)
theorem rj_iand {x y : Int32} (hd : decode mi.2.1 pc = .ok (.iand, 1))  (kk : RJ w R mi ce sl (pc + 1) lv (.int (x &&& y) :: st) n es F) : RJ w R mi ce sl pc lv (.int y :: .int x :: st) n es F :=
  fun p e s m args below meth c H locs ls f hl hh hv => lv_iand f.1 f.2.1 hd (kk p e s m args below meth c H locs ls f hl hh hv)
theorem rj_ior {x y : Int32} (hd : decode mi.2.1 pc = .ok (.ior, 1))  (kk : RJ w R mi ce sl (pc + 1) lv (.int (x ||| y) :: st) n es F) : RJ w R mi ce sl pc lv (.int y :: .int x :: st) n es F :=
  fun p e s m args below meth c H locs ls f hl hh hv => lv_ior f.1 f.2.1 hd (kk p e s m args below meth c H locs ls f hl hh hv)
theorem rj_ixor {x y : Int32} (hd : decode mi.2.1 pc = .ok (.ixor, 1))  (kk : RJ w R mi ce sl (pc + 1) lv (.int (x ^^^ y) :: st) n es F) : RJ w R mi ce sl pc lv (.int y :: .int x :: st) n es F :=
  fun p e s m args below meth c H locs ls f hl hh hv => lv_ixor f.1 f.2.1 hd (kk p e s m args below meth c H locs ls f hl hh hv)
theorem rj_ishl {x y : Int32} (hd : decode mi.2.1 pc = .ok (.ishl, 1))  (kk : RJ w R mi ce sl (pc + 1) lv (.int (x <<< (y &&& 31)) :: st) n es F) : RJ w R mi ce sl pc lv (.int y :: .int x :: st) n es F :=
  fun p e s m args below meth c H locs ls f hl hh hv => lv_ishl f.1 f.2.1 hd (kk p e s m args below meth c H locs ls f hl hh hv)
theorem rj_ishr {x y : Int32} (hd : decode mi.2.1 pc = .ok (.ishr, 1))  (kk : RJ w R mi ce sl (pc + 1) lv (.int (x >>> (y &&& 31)) :: st) n es F) : RJ w R mi ce sl pc lv (.int y :: .int x :: st) n es F :=
  fun p e s m args below meth c H locs ls f hl hh hv => lv_ishr f.1 f.2.1 hd (kk p e s m args below meth c H locs ls f hl hh hv)
theorem rj_iushr {x y : Int32} (hd : decode mi.2.1 pc = .ok (.iushr, 1))  (kk : RJ w R mi ce sl (pc + 1) lv (.int ((x.toUInt32 >>> (y.toUInt32 &&& Int32.toUInt32 31)).toInt32) :: st) n es F) : RJ w R mi ce sl pc lv (.int y :: .int x :: st) n es F :=
  fun p e s m args below meth c H locs ls f hl hh hv => lv_iushr f.1 f.2.1 hd rfl (kk p e s m args below meth c H locs ls f hl hh hv)
theorem rj_idiv {x y : Int32} (hd : decode mi.2.1 pc = .ok (.idiv, 1)) (h0 : ¬ y = 0) (kk : RJ w R mi ce sl (pc + 1) lv (.int (x / y) :: st) n es F) : RJ w R mi ce sl pc lv (.int y :: .int x :: st) n es F :=
  fun p e s m args below meth c H locs ls f hl hh hv => lv_idiv f.1 f.2.1 hd h0 (kk p e s m args below meth c H locs ls f hl hh hv)
theorem rj_irem {x y : Int32} (hd : decode mi.2.1 pc = .ok (.irem, 1)) (h0 : ¬ y = 0) (kk : RJ w R mi ce sl (pc + 1) lv (.int (x - x / y * y) :: st) n es F) : RJ w R mi ce sl pc lv (.int y :: .int x :: st) n es F :=
  fun p e s m args below meth c H locs ls f hl hh hv => lv_irem f.1 f.2.1 hd h0 (kk p e s m args below meth c H locs ls f hl hh hv)
theorem rj_ineg {x : Int32} (hd : decode mi.2.1 pc = .ok (.ineg, 1))  (kk : RJ w R mi ce sl (pc + 1) lv (.int (-x) :: st) n es F) : RJ w R mi ce sl pc lv (.int x :: st) n es F :=
  fun p e s m args below meth c H locs ls f hl hh hv => lv_ineg f.1 f.2.1 hd (kk p e s m args below meth c H locs ls f hl hh hv)
theorem rj_i2l {x : Int32} (hd : decode mi.2.1 pc = .ok (.i2l, 1))  (kk : RJ w R mi ce sl (pc + 1) lv (.long x.toInt64 :: st) n es F) : RJ w R mi ce sl pc lv (.int x :: st) n es F :=
  fun p e s m args below meth c H locs ls f hl hh hv => lv_i2l f.1 f.2.1 hd rfl (kk p e s m args below meth c H locs ls f hl hh hv)
theorem rj_i2b {x : Int32} (hd : decode mi.2.1 pc = .ok (.i2b, 1))  (kk : RJ w R mi ce sl (pc + 1) lv (.int x.toInt8.toInt32 :: st) n es F) : RJ w R mi ce sl pc lv (.int x :: st) n es F :=
  fun p e s m args below meth c H locs ls f hl hh hv => lv_i2b f.1 f.2.1 hd rfl (kk p e s m args below meth c H locs ls f hl hh hv)
theorem rj_i2s {x : Int32} (hd : decode mi.2.1 pc = .ok (.i2s, 1))  (kk : RJ w R mi ce sl (pc + 1) lv (.int x.toInt16.toInt32 :: st) n es F) : RJ w R mi ce sl pc lv (.int x :: st) n es F :=
  fun p e s m args below meth c H locs ls f hl hh hv => lv_i2s f.1 f.2.1 hd rfl (kk p e s m args below meth c H locs ls f hl hh hv)
theorem rj_i2c {x : Int32} (hd : decode mi.2.1 pc = .ok (.i2c, 1))  (kk : RJ w R mi ce sl (pc + 1) lv (.int (x.toUInt32 % 65536).toInt32 :: st) n es F) : RJ w R mi ce sl pc lv (.int x :: st) n es F :=
  fun p e s m args below meth c H locs ls f hl hh hv => lv_i2c f.1 f.2.1 hd rfl (kk p e s m args below meth c H locs ls f hl hh hv)
theorem rj_lcmp {x y : Int64} (hd : decode mi.2.1 pc = .ok (.lcmp, 1))  (kk : RJ w R mi ce sl (pc + 1) lv (.int (lg_cmp x y) :: st) n es F) : RJ w R mi ce sl pc lv (.long y :: .long x :: st) n es F :=
  fun p e s m args below meth c H locs ls f hl hh hv => W.lcmp f.1 f.2.1 hd (kk p e s m args below meth c H locs ls f hl hh hv)
theorem rj_dup {a : Value} (hd : decode mi.2.1 pc = .ok (.dup, 1)) (ha : a.category = 1) (kk : RJ w R mi ce sl (pc + 1) lv (a :: a :: st) n es F) : RJ w R mi ce sl pc lv (a :: st) n es F :=
  fun p e s m args below meth c H locs ls f hl hh hv => lv_dup f.1 f.2.1 hd (by rw [cv_cat]; exact ha) (kk p e s m args below meth c H locs ls f hl hh hv)
theorem rj_pop {a : Value} (hd : decode mi.2.1 pc = .ok (.pop, 1)) (ha : a.category = 1) (kk : RJ w R mi ce sl (pc + 1) lv (st) n es F) : RJ w R mi ce sl pc lv (a :: st) n es F :=
  fun p e s m args below meth c H locs ls f hl hh hv => lv_pop f.1 f.2.1 hd (by rw [cv_cat]; exact ha) (kk p e s m args below meth c H locs ls f hl hh hv)
theorem rj_dup2 {a b : Value} (hd : decode mi.2.1 pc = .ok (.dup2, 1)) (ha : a.category = 1) (hb : b.category = 1) (kk : RJ w R mi ce sl (pc + 1) lv (a :: b :: a :: b :: st) n es F) : RJ w R mi ce sl pc lv (a :: b :: st) n es F :=
  fun p e s m args below meth c H locs ls f hl hh hv => lv_dup2_11 f.1 f.2.1 hd (by rw [cv_cat]; exact ha) (by rw [cv_cat]; exact hb) (kk p e s m args below meth c H locs ls f hl hh hv)
theorem rj_dup_x1 {a b : Value} (hd : decode mi.2.1 pc = .ok (.dup_x1, 1)) (ha : a.category = 1) (hb : b.category = 1) (kk : RJ w R mi ce sl (pc + 1) lv (a :: b :: a :: st) n es F) : RJ w R mi ce sl pc lv (a :: b :: st) n es F :=
  fun p e s m args below meth c H locs ls f hl hh hv => lv_dup_x1 f.1 f.2.1 hd (by rw [cv_cat]; exact ha) (by rw [cv_cat]; exact hb) (kk p e s m args below meth c H locs ls f hl hh hv)
theorem rj_dup_x2 {a b d : Value} (hd : decode mi.2.1 pc = .ok (.dup_x2, 1)) (ha : a.category = 1) (hb : b.category = 1) (hd2 : d.category = 1) (kk : RJ w R mi ce sl (pc + 1) lv (a :: b :: d :: a :: st) n es F) : RJ w R mi ce sl pc lv (a :: b :: d :: st) n es F :=
  fun p e s m args below meth c H locs ls f hl hh hv => lv_dup_x2 f.1 f.2.1 hd (by rw [cv_cat]; exact ha) (by rw [cv_cat]; exact hb) (by rw [cv_cat]; exact hd2) (kk p e s m args below meth c H locs ls f hl hh hv)
theorem rj_if_eq {x : Int32} {off : Int} {tgt : Nat} (hd : decode mi.2.1 pc = .ok (.ifCond .eq off, 3)) (ht : (pc : Int) + off = (tgt : Int)) (kt : x = 0 → RJ w R mi ce sl tgt lv st n es F) (kf : ¬ (x = 0) → RJ w R mi ce sl (pc + 3) lv st n es F) : RJ w R mi ce sl pc lv (.int x :: st) n es F :=
  fun p e s m args below meth c H locs ls f hl hh hv => lv_if_eq f.1 f.2.1 hd ht (fun h => kt h p e s m args below meth c H locs ls f hl hh hv) (fun h => kf h p e s m args below meth c H locs ls f hl hh hv)
theorem rj_if_ne {x : Int32} {off : Int} {tgt : Nat} (hd : decode mi.2.1 pc = .ok (.ifCond .ne off, 3)) (ht : (pc : Int) + off = (tgt : Int)) (kt : ¬ x = 0 → RJ w R mi ce sl tgt lv st n es F) (kf : x = 0 → RJ w R mi ce sl (pc + 3) lv st n es F) : RJ w R mi ce sl pc lv (.int x :: st) n es F :=
  fun p e s m args below meth c H locs ls f hl hh hv => lv_if_ne f.1 f.2.1 hd ht (fun h => kt h p e s m args below meth c H locs ls f hl hh hv) (fun h => kf h p e s m args below meth c H locs ls f hl hh hv)
theorem rj_if_lt {x : Int32} {off : Int} {tgt : Nat} (hd : decode mi.2.1 pc = .ok (.ifCond .lt off, 3)) (ht : (pc : Int) + off = (tgt : Int)) (kt : x < 0 → RJ w R mi ce sl tgt lv st n es F) (kf : ¬ (x < 0) → RJ w R mi ce sl (pc + 3) lv st n es F) : RJ w R mi ce sl pc lv (.int x :: st) n es F :=
  fun p e s m args below meth c H locs ls f hl hh hv => lv_if_lt f.1 f.2.1 hd ht (fun h => kt h p e s m args below meth c H locs ls f hl hh hv) (fun h => kf h p e s m args below meth c H locs ls f hl hh hv)
theorem rj_if_ge {x : Int32} {off : Int} {tgt : Nat} (hd : decode mi.2.1 pc = .ok (.ifCond .ge off, 3)) (ht : (pc : Int) + off = (tgt : Int)) (kt : 0 ≤ x → RJ w R mi ce sl tgt lv st n es F) (kf : ¬ (0 ≤ x) → RJ w R mi ce sl (pc + 3) lv st n es F) : RJ w R mi ce sl pc lv (.int x :: st) n es F :=
  fun p e s m args below meth c H locs ls f hl hh hv => lv_if_ge f.1 f.2.1 hd ht (fun h => kt h p e s m args below meth c H locs ls f hl hh hv) (fun h => kf h p e s m args below meth c H locs ls f hl hh hv)
theorem rj_if_gt {x : Int32} {off : Int} {tgt : Nat} (hd : decode mi.2.1 pc = .ok (.ifCond .gt off, 3)) (ht : (pc : Int) + off = (tgt : Int)) (kt : 0 < x → RJ w R mi ce sl tgt lv st n es F) (kf : ¬ (0 < x) → RJ w R mi ce sl (pc + 3) lv st n es F) : RJ w R mi ce sl pc lv (.int x :: st) n es F :=
  fun p e s m args below meth c H locs ls f hl hh hv => lv_if_gt f.1 f.2.1 hd ht (fun h => kt h p e s m args below meth c H locs ls f hl hh hv) (fun h => kf h p e s m args below meth c H locs ls f hl hh hv)
theorem rj_if_le {x : Int32} {off : Int} {tgt : Nat} (hd : decode mi.2.1 pc = .ok (.ifCond .le off, 3)) (ht : (pc : Int) + off = (tgt : Int)) (kt : x ≤ 0 → RJ w R mi ce sl tgt lv st n es F) (kf : ¬ (x ≤ 0) → RJ w R mi ce sl (pc + 3) lv st n es F) : RJ w R mi ce sl pc lv (.int x :: st) n es F :=
  fun p e s m args below meth c H locs ls f hl hh hv => lv_if_le f.1 f.2.1 hd ht (fun h => kt h p e s m args below meth c H locs ls f hl hh hv) (fun h => kf h p e s m args below meth c H locs ls f hl hh hv)
theorem rj_icmp_eq {x y : Int32} {off : Int} {tgt : Nat} (hd : decode mi.2.1 pc = .ok (.if_icmp .eq off, 3)) (ht : (pc : Int) + off = (tgt : Int)) (kt : x = y → RJ w R mi ce sl tgt lv st n es F) (kf : ¬ (x = y) → RJ w R mi ce sl (pc + 3) lv st n es F) : RJ w R mi ce sl pc lv (.int y :: .int x :: st) n es F :=
  fun p e s m args below meth c H locs ls f hl hh hv => lv_icmp_eq f.1 f.2.1 hd ht (fun h => kt h p e s m args below meth c H locs ls f hl hh hv) (fun h => kf h p e s m args below meth c H locs ls f hl hh hv)
theorem rj_icmp_ne {x y : Int32} {off : Int} {tgt : Nat} (hd : decode mi.2.1 pc = .ok (.if_icmp .ne off, 3)) (ht : (pc : Int) + off = (tgt : Int)) (kt : ¬ x = y → RJ w R mi ce sl tgt lv st n es F) (kf : x = y → RJ w R mi ce sl (pc + 3) lv st n es F) : RJ w R mi ce sl pc lv (.int y :: .int x :: st) n es F :=
  fun p e s m args below meth c H locs ls f hl hh hv => lv_icmp_ne f.1 f.2.1 hd ht (fun h => kt h p e s m args below meth c H locs ls f hl hh hv) (fun h => kf h p e s m args below meth c H locs ls f hl hh hv)
theorem rj_icmp_lt {x y : Int32} {off : Int} {tgt : Nat} (hd : decode mi.2.1 pc = .ok (.if_icmp .lt off, 3)) (ht : (pc : Int) + off = (tgt : Int)) (kt : x < y → RJ w R mi ce sl tgt lv st n es F) (kf : ¬ (x < y) → RJ w R mi ce sl (pc + 3) lv st n es F) : RJ w R mi ce sl pc lv (.int y :: .int x :: st) n es F :=
  fun p e s m args below meth c H locs ls f hl hh hv => lv_icmp_lt f.1 f.2.1 hd ht (fun h => kt h p e s m args below meth c H locs ls f hl hh hv) (fun h => kf h p e s m args below meth c H locs ls f hl hh hv)
theorem rj_icmp_ge {x y : Int32} {off : Int} {tgt : Nat} (hd : decode mi.2.1 pc = .ok (.if_icmp .ge off, 3)) (ht : (pc : Int) + off = (tgt : Int)) (kt : y ≤ x → RJ w R mi ce sl tgt lv st n es F) (kf : ¬ (y ≤ x) → RJ w R mi ce sl (pc + 3) lv st n es F) : RJ w R mi ce sl pc lv (.int y :: .int x :: st) n es F :=
  fun p e s m args below meth c H locs ls f hl hh hv => lv_icmp_ge f.1 f.2.1 hd ht (fun h => kt h p e s m args below meth c H locs ls f hl hh hv) (fun h => kf h p e s m args below meth c H locs ls f hl hh hv)
theorem rj_icmp_gt {x y : Int32} {off : Int} {tgt : Nat} (hd : decode mi.2.1 pc = .ok (.if_icmp .gt off, 3)) (ht : (pc : Int) + off = (tgt : Int)) (kt : y < x → RJ w R mi ce sl tgt lv st n es F) (kf : ¬ (y < x) → RJ w R mi ce sl (pc + 3) lv st n es F) : RJ w R mi ce sl pc lv (.int y :: .int x :: st) n es F :=
  fun p e s m args below meth c H locs ls f hl hh hv => lv_icmp_gt f.1 f.2.1 hd ht (fun h => kt h p e s m args below meth c H locs ls f hl hh hv) (fun h => kf h p e s m args below meth c H locs ls f hl hh hv)
theorem rj_icmp_le {x y : Int32} {off : Int} {tgt : Nat} (hd : decode mi.2.1 pc = .ok (.if_icmp .le off, 3)) (ht : (pc : Int) + off = (tgt : Int)) (kt : x ≤ y → RJ w R mi ce sl tgt lv st n es F) (kf : ¬ (x ≤ y) → RJ w R mi ce sl (pc + 3) lv st n es F) : RJ w R mi ce sl pc lv (.int y :: .int x :: st) n es F :=
  fun p e s m args below meth c H locs ls f hl hh hv => lv_icmp_le f.1 f.2.1 hd ht (fun h => kt h p e s m args below meth c H locs ls f hl hh hv) (fun h => kf h p e s m args below meth c H locs ls f hl hh hv)
theorem rj_goto {off : Int} {tgt : Nat} (hd : decode mi.2.1 pc = .ok (.goto off, 3)) (ht : (pc : Int) + off = (tgt : Int)) (kk : RJ w R mi ce sl tgt lv st n es F) : RJ w R mi ce sl pc lv st n es F :=
  fun p e s m args below meth c H locs ls f hl hh hv => lv_goto f.1 f.2.1 hd ht (kk p e s m args below meth c H locs ls f hl hh hv)
theorem rj_tableOut {dflt lo hi : Int} {offs : Array Int} {len : Nat} {x : Int32} {tgt : Nat} (hd : decode mi.2.1 pc = .ok (.tableswitch dflt lo hi offs, len)) (h : x.toInt < lo ∨ hi < x.toInt) (ht : (pc : Int) + dflt = (tgt : Int)) (kk : RJ w R mi ce sl tgt lv st n es F) : RJ w R mi ce sl pc lv (.int x :: st) n es F :=
  fun p e s m args below meth c H locs ls f hl hh hv => lv_tableOut f.1 f.2.1 hd h ht (kk p e s m args below meth c H locs ls f hl hh hv)
theorem rj_tableIn {dflt lo hi : Int} {offs : Array Int} {len : Nat} {x : Int32} {off : Int} {tgt : Nat} (hd : decode mi.2.1 pc = .ok (.tableswitch dflt lo hi offs, len)) (h1 : ¬ x.toInt < lo) (h2 : ¬ hi < x.toInt) (ho : offs[(x.toInt - lo).toNat]? = some off) (ht : (pc : Int) + off = (tgt : Int)) (kk : RJ w R mi ce sl tgt lv st n es F) : RJ w R mi ce sl pc lv (.int x :: st) n es F :=
  fun p e s m args below meth c H locs ls f hl hh hv => lv_tableIn f.1 f.2.1 hd h1 h2 ho ht (kk p e s m args below meth c H locs ls f hl hh hv)
theorem rj_lookup {dflt : Int} {ps : Array (Int × Int)} {len : Nat} {x : Int32} {off : Int} {tgt : Nat} (hd : decode mi.2.1 pc = .ok (.lookupswitch dflt ps, len)) (hp : (ps.toList.zip (ps.toList.drop 1)).all (fun (a, next) => a.1 < next.1) = true) (ho : Op.lookupswitch.offset ps.toList dflt x.toInt = off) (ht : (pc : Int) + off = (tgt : Int)) (kk : RJ w R mi ce sl tgt lv st n es F) : RJ w R mi ce sl pc lv (.int x :: st) n es F :=
  fun p e s m args below meth c H locs ls f hl hh hv => lv_lookup f.1 f.2.1 hd hp ho ht (kk p e s m args below meth c H locs ls f hl hh hv)
theorem rj_ldc {own : String} {idx : Nat} {v : Int32} (ho : mi.1.cls = own) (hk : Cond.constant own idx v ∈ tG) (hd : decode mi.2.1 pc = .ok (.ldc idx, 2)) (kk : RJ w R mi ce sl (pc + 2) lv (.int v :: st) n es F) : RJ w R mi ce sl pc lv st n es F :=
  fun p e s m args below meth c H locs ls f hl hh hv => lv_ldc f.1 f.2.1 (ho ▸ f.2.2.2.2.1) (f.2.2.2.2.2.2.2.1 _ hk) hd (kk p e s m args below meth c H locs ls f hl hh hv)
theorem rj_ldcw {own : String} {idx : Nat} {v : Int32} (ho : mi.1.cls = own) (hk : Cond.constant own idx v ∈ tG) (hd : decode mi.2.1 pc = .ok (.ldc_w idx, 3)) (kk : RJ w R mi ce sl (pc + 3) lv (.int v :: st) n es F) : RJ w R mi ce sl pc lv st n es F :=
  fun p e s m args below meth c H locs ls f hl hh hv => lv_ldcw f.1 f.2.1 (ho ▸ f.2.2.2.2.1) (f.2.2.2.2.2.2.2.1 _ hk) hd (kk p e s m args below meth c H locs ls f hl hh hv)
theorem rj_ldc2 {own : String} {idx : Nat} {v : Int64} (ho : mi.1.cls = own) (hk : Cond.constantLong own idx v ∈ tG) (hd : decode mi.2.1 pc = .ok (.ldc2_w idx, 3)) (kk : RJ w R mi ce sl (pc + 3) lv (.long v :: st) n es F) : RJ w R mi ce sl pc lv st n es F :=
  fun p e s m args below meth c H locs ls f hl hh hv => lv_ldc2 f.1 f.2.1 (ho ▸ f.2.2.2.2.1) (f.2.2.2.2.2.2.2.1 _ hk) hd (kk p e s m args below meth c H locs ls f hl hh hv)
end RULES

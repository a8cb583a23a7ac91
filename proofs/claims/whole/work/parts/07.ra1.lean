/-! ===== the world of this claim: cells by small numbers; what the machine's heap holds of them ===== -/
abbrev Mem : Type := Nat → Nat → Int32
abbrev Ent : Type := Nat → va_E
/-- launch; the heap at the law's entry; the classes' numbers and slots; the classes of int[] and Sheet[]; where that stands which was there before; the script; the static formatter -/
abbrev Wd : Type := Launch × Heap × va_G × (ClassId × ClassId) × (Nat → Nat) × (Nat × (Nat → Int32)) × Value
abbrev wl (w : Wd) : Launch := w.1
abbrev wH (w : Wd) : Heap := w.2.1
abbrev wD (w : Wd) : va_G := w.2.2.1
abbrev wI (w : Wd) : ClassId := w.2.2.2.1.1
abbrev wR (w : Wd) : ClassId := w.2.2.2.1.2
abbrev wX (w : Wd) : Nat → Nat := w.2.2.2.2.1
abbrev wL (w : Wd) : Nat := w.2.2.2.2.2.1.1
abbrev wS (w : Wd) : Nat → Int32 := w.2.2.2.2.2.1.2
abbrev wV (w : Wd) : Value := w.2.2.2.2.2.2
def wB (w : Wd) : Nat := (wH w).size
def wA (w : Wd) : Nat → Prop := fun q => wB w ≤ q
/-- a value by numbers of cells, as the machine has it -/
def cv (w : Wd) : Value → Value
  | .ref k => .ref (if k < 1000 then wB w + k else wX w (k - 1000))
  | .int x => .int x
  | .long x => .long x
  | .float x => .float x
  | .double x => .double x
  | .null => .null
  | .retAddr x => .retAddr x
theorem cv_int (w : Wd) (x : Int32) : cv w (.int x) = .int x := rfl
theorem cv_long (w : Wd) (x : Int64) : cv w (.long x) = .long x := rfl
theorem cv_lo (w : Wd) {k : Nat} (h : k < 1000) : cv w (.ref k) = .ref (wB w + k) := by simp [cv, h]
theorem cv_hi (w : Wd) (k : Nat) : cv w (.ref (1000 + k)) = .ref (wX w k) := by
  have h : ¬ 1000 + k < 1000 := by omega
  simp [cv, h]
theorem cv_cat (w : Wd) (v : Value) : (cv w v).category = v.category := by cases v <;> rfl
theorem cv_cats (w : Wd) (l : List Value) : ((l.map (cv w)).map fun v => v.category).sum = (l.map fun v => v.category).sum := by
  rw [List.map_map]
  congr 1
  apply List.map_congr_left
  intro v _
  exact cv_cat w v
def cvA (w : Wd) : vp_A → vp_A
  | (n, .inr (.inr (.inr (.inr f)))) => (n, .inr (.inr (.inr (.inr (fun i => (f i).map (fun k => wB w + k))))))
  | (n, .inl f) => (n, .inl f)
  | x => x
def cvE (w : Wd) : va_E → va_E
  | .inl (c, x) => .inl (if c = 0 then wI w else wR w, cvA w x)
  | .inr (ci, fs) => .inr (ci, fs.map (cv w))
def HH (w : Wd) (H : Heap) (n : Nat) (es : Ent) : Prop := n ≤ 1000 ∧ H.size = wB w + n ∧ (∀ q : Nat, q < wB w → H[q]? = (wH w)[q]?) ∧ ∀ k, k < n → va_at (wD w) vwCl (wB w + k, cvE w (es k)) H
/-- the tables' words that any method may be given -/
def tG : List Cond := lw_tbl.filter goodWord
theorem tG_of {x : Cond} (i : Nat) (h : lw_tbl[i]? = some x) (hg : goodWord x = true) : x ∈ tG := List.mem_filter.mpr ⟨List.mem_of_getElem? h, hg⟩
theorem tG_good : GoodIn tG tG := fun x hx => ⟨hx, good_of_word (List.mem_filter.mp hx).2⟩
/-- words on private members of nest mates -/
def isNest : Cond → Bool
  | .fieldLinkNest _ _ _ _ _ _ => true
  | .methodLinkNest _ _ _ _ => true
  | _ => false
def tN : List Cond := lw_tbl.filter isNest
theorem tN_of {x : Cond} (i : Nat) (h : lw_tbl[i]? = some x) (hg : isNest x = true) : x ∈ tN := List.mem_filter.mpr ⟨List.mem_of_getElem? h, hg⟩
theorem tN_warm {x : Cond} (hx : isNest x = true) {s U : State} (hW : s.WarmedH U.vm) (h : va_Nw x s) : va_Nw x U := by
  cases x <;> first | exact va_Nw.warmF hW h | exact va_Nw.warmM hW h | (exact absurd hx (by decide)) | (simp [isNest] at hx)
theorem tN_same {x : Cond} (hx : isNest x = true) {s U : State} (hW : s.vm = U.vm) (h : va_Nw x s) : va_Nw x U := by
  cases x <;> first | exact va_Nw.same rfl hW h | (exact absurd hx (by decide)) | (simp [isNest] at hx)
theorem tN_on {x : Cond} (hx : isNest x = true) : x.onTables = true := by
  cases x <;> first | rfl | (exact absurd hx (by decide)) | (simp [isNest] at hx)

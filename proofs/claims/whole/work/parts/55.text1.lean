/-! ===== texts: tokens by the place where they start ===== -/
/-- the first place from p on (before n) that is not between lo and hi -/
def scF (lo hi : Int32) (f : Nat → Int32) : Nat → Nat → Nat
  | 0, p => p
  | m + 1, p => if lo ≤ f p ∧ f p ≤ hi then scF lo hi f m (p + 1) else p
def sc (lo hi : Int32) (f : Nat → Int32) (n p : Nat) : Nat := scF lo hi f (n - p) p
theorem sc_end {lo hi : Int32} {f : Nat → Int32} {n p : Nat} (h : n ≤ p) : sc lo hi f n p = p := by
  unfold sc; rw [show n - p = 0 by omega]; rfl
theorem sc_in {lo hi : Int32} {f : Nat → Int32} {n p : Nat} (h : p < n) (hb : lo ≤ f p ∧ f p ≤ hi) : sc lo hi f n p = sc lo hi f n (p + 1) := by
  unfold sc; rw [show n - p = (n - (p + 1)) + 1 by omega, scF, if_pos hb]
theorem sc_out {lo hi : Int32} {f : Nat → Int32} {n p : Nat} (hb : ¬ (lo ≤ f p ∧ f p ≤ hi)) : sc lo hi f n p = p := by
  unfold sc
  cases n - p with
  | zero => rfl
  | succ m => rw [scF, if_neg hb]
theorem scF_le {lo hi : Int32} {f : Nat → Int32} : ∀ m p, p ≤ scF lo hi f m p ∧ scF lo hi f m p ≤ p + m := by
  intro m
  induction m with
  | zero => intro p; exact ⟨Nat.le_refl _, Nat.le_refl _⟩
  | succ m ih =>
    intro p
    rw [scF]
    split
    · have := ih (p + 1); omega
    · omega
theorem sc_le {lo hi : Int32} {f : Nat → Int32} {n p : Nat} (h : p ≤ n) : p ≤ sc lo hi f n p ∧ sc lo hi f n p ≤ n := by
  have := scF_le (lo := lo) (hi := hi) (f := f) (n - p) p
  unfold sc; omega
/-- a number's value from p on, as the reference reckons it -/
def vlF (f : Nat → Int32) : Nat → Nat → Int32 → Int32
  | 0, _, v => v
  | m + 1, p, v => if (48 : Int32) ≤ f p ∧ f p ≤ 57 then vlF f m (p + 1) (if v ≤ 999 then 10 * v + f p - 48 else v) else v
def vl (f : Nat → Int32) (n p : Nat) (v : Int32) : Int32 := vlF f (n - p) p v
theorem vl_end {f : Nat → Int32} {n p : Nat} {v : Int32} (h : n ≤ p) : vl f n p v = v := by
  unfold vl; rw [show n - p = 0 by omega]; rfl
theorem vl_in {f : Nat → Int32} {n p : Nat} {v : Int32} (h : p < n) (hb : (48 : Int32) ≤ f p ∧ f p ≤ 57) : vl f n p v = vl f n (p + 1) (if v ≤ 999 then 10 * v + f p - 48 else v) := by
  unfold vl; rw [show n - p = (n - (p + 1)) + 1 by omega, vlF, if_pos hb]
theorem vl_out {f : Nat → Int32} {n p : Nat} {v : Int32} (hb : ¬ ((48 : Int32) ≤ f p ∧ f p ≤ 57)) : vl f n p v = v := by
  unfold vl
  cases n - p with
  | zero => rfl
  | succ m => rw [vlF, if_neg hb]
def cap (v : Int32) : Int32 := if v < 1000 then v else 1000
theorem cap_step {v d : Int32} (h0 : 0 ≤ v) (h1 : 48 ≤ d) (h2 : d ≤ 57) : (if cap v * 10 + d - 48 < 1000 then cap v * 10 + d - 48 else (1000 : Int32)) = cap (if v ≤ 999 then 10 * v + d - 48 else v) := by
  unfold cap
  by_cases h : v ≤ 999
  · have h3 : v < 1000 := by grind
    rw [if_pos h, if_pos h3, show v * 10 = 10 * v by grind]
  · have h3 : ¬ v < 1000 := by grind
    rw [if_neg h, if_neg h3]
    have h4 : ¬ (1000 : Int32) * 10 + d - 48 < 1000 := by grind
    rw [if_neg h4]
theorem step_pos {v d : Int32} (h0 : 0 ≤ v) (h1 : 48 ≤ d) (h2 : d ≤ 57) : 0 ≤ (if v ≤ 999 then 10 * v + d - 48 else v) := by
  split
  · grind
  · exact h0
theorem cap_in {v lo hi : Int32} (h : hi ≤ 999) : (lo ≤ cap v ∧ cap v ≤ hi) ↔ (lo ≤ v ∧ v ≤ hi) := by
  unfold cap
  by_cases q : v < 1000
  · rw [if_pos q]
  · rw [if_neg q]
    constructor
    · intro z; exfalso; have := z.2; grind
    · intro z; exfalso; have := z.2; grind
theorem cap_eq {v hi : Int32} (h : hi ≤ 999) (hv : v ≤ hi) : cap v = v := by
  unfold cap
  rw [if_pos (by grind)]
/-- the type of the token that starts at s: 0 end, 1 word, 2 number, 3 semicolon, 4 minus, 5 none -/
def tyT (f : Nat → Int32) (n s : Nat) : Int32 := if n ≤ s then 0 else if (97 : Int32) ≤ f s ∧ f s ≤ 122 then 1 else if (48 : Int32) ≤ f s ∧ f s ≤ 57 then 2 else if f s = 59 then 3 else if f s = 45 then 4 else 5
def enT (f : Nat → Int32) (n s : Nat) : Nat := if tyT f n s = 1 then sc 97 122 f n s else if tyT f n s = 2 then sc 48 57 f n s else if tyT f n s = 0 then s else s + 1
def skT (f : Nat → Int32) (n p : Nat) : Nat := sc 32 32 f n p
def tkN (f : Nat → Int32) (n s : Nat) : Nat := skT f n (enT f n s)
theorem tyT_lt {f : Nat → Int32} {n s : Nat} (h : ¬ tyT f n s = 0) : s < n := by
  rcases Nat.lt_or_ge s n with q | q
  · exact q
  · exact absurd (show tyT f n s = 0 by unfold tyT; rw [if_pos q]) h
theorem tyT_0 {f : Nat → Int32} {n s : Nat} (hs : s ≤ n) : tyT f n s = 0 ↔ s = n := by
  unfold tyT
  constructor
  · intro h
    by_cases q : n ≤ s
    · omega
    · rw [if_neg q] at h
      split at h
      · exact absurd h (by decide)
      · split at h
        · exact absurd h (by decide)
        · split at h
          · exact absurd h (by decide)
          · split at h <;> exact absurd h (by decide)
  · intro h; rw [if_pos (by omega)]
theorem enT_le {f : Nat → Int32} {n s : Nat} (h : s ≤ n) : s ≤ enT f n s ∧ enT f n s ≤ n := by
  unfold enT
  split
  · exact sc_le h
  · split
    · exact sc_le h
    · split
      · omega
      · rename_i q; have := tyT_lt q; omega
theorem skT_le {f : Nat → Int32} {n p : Nat} (h : p ≤ n) : p ≤ skT f n p ∧ skT f n p ≤ n := sc_le h
theorem tkN_le {f : Nat → Int32} {n s : Nat} (h : s ≤ n) : tkN f n s ≤ n := (skT_le (enT_le h).2).2
/-- the text on the tapes; the token that was read last -/
def TC (f : Nat → Int32) (n : Nat) (M : Mem) : Prop := n ≤ 100 ∧ M 37 1 = nI n ∧ ∀ j, j < n → M 38 j = f j
def TR (f : Nat → Int32) (n : Nat) (M : Mem) : Prop := n ≤ 100 ∧ M 59 6 = nI n ∧ ∀ j, j < n → M 63 j = f j
def cTok (f : Nat → Int32) (n s : Nat) (M : Mem) : Prop := s ≤ n ∧ M 39 1 = tyT f n s ∧ M 39 2 = nI s ∧ M 39 3 = nI (enT f n s) ∧ (tyT f n s = 2 → M 39 4 = cap (vl f n s 0))
def soT (f : Nat → Int32) (n s : Nat) : Int32 := if tyT f n s = 0 then 0 else if tyT f n s = 1 then 1 else if tyT f n s = 2 then 2 else 3
def rTok (f : Nat → Int32) (n s : Nat) (M : Mem) : Prop := s ≤ n ∧ M 59 7 = soT f n s ∧ M 59 8 = nI s ∧ M 59 9 = nI (enT f n s) ∧ (tyT f n s = 2 → M 59 10 = vl f n s 0)
theorem TC.same {f : Nat → Int32} {n : Nat} {M M' : Mem} (T : TC f n M) (e : ∀ q, q ≠ 39 → M' q = M q) : TC f n M' := by
  unfold TC; rw [e 37 (by decide), e 38 (by decide)]; exact T
/-- words -/
def isWd (f : Nat → Int32) (s e i : Nat) : Prop := e - s = (strB i).length ∧ ∀ k, k < (strB i).length → f (s + k) = (strB i).getD k 0
theorem isWd_one {f : Nat → Int32} {s e d d' : Nat} (hd : d < 13) (hd' : d' < 13) (h : isWd f s e d) (h' : isWd f s e d') : d = d' := by
  have T : ∀ d, d < 13 → ∀ d', d' < 13 → d = d' ∨ (strB d).length ≠ (strB d').length ∨ ∃ k, k < (strB d).length ∧ (strB d).getD k 0 ≠ (strB d').getD k 0 := by decide +kernel
  rcases T d hd d' hd' with q | q | ⟨k, hk, q⟩
  · exact q
  · exact absurd (h.1.symm.trans h'.1) q
  · have hl : (strB d).length = (strB d').length := h.1.symm.trans h'.1
    exact absurd ((h.2 k hk).symm.trans (h'.2 k (by omega))) q
theorem strB_sm : ∀ i, i < 28 → (strB i).length < 9 ∧ ∀ k, k < (strB i).length → (((strB i).getD k 0 &&& 255).toUInt32 % 65536).toInt32 = (strB i).getD k 0 ∧ narrow .char (.int ((strB i).getD k 0)) = .int ((strB i).getD k 0) := by decide +kernel
theorem co_ofK {w : Wd} {h : Nat} {mi : MI} {mc ms : Nat} {as : List Value} {n : Nat} {es : Ent} {Q : Option Value → Nat → Ent → Prop} (hp : plainName mi.1.cls = true) (hl : (wV w).category = 1 → (lg_sl as).length ≤ mi.2.2.1)
    (k : RJ w (rmk h mc ms) mi 0 0 0 (lv_args 0 as) [] n es (FM w mc ms Q)) : CO w h mi mc ms as n es Q := by
  refine Met.ofW (cc := mi.2.1) (maxL := mi.2.2.1) (ret := mi.2.2.2) hp rfl ?_
  intro p e s m args below meth c s₁ B hml hv
  obtain ⟨rfl, hK, hH⟩ := hv
  have hl := hl hK.2.2.2.2.2.2
  have hts := atoms_spec (ws := Cond.code mi.1 mi.2.1 mi.2.2.1 mi.2.2.2 :: tG) B.pre
  have hown : s.vm.findClass mi.1.cls = some m.cls := findClass_of_methodNamed B.named
  have hl' : (lg_sl (as.map (cv w))).length ≤ mi.2.2.1 := by rw [lg_sl_cv]; exact hl
  have hlv := lv_entry (as.map (cv w)) (n := mi.2.2.1) hl'
  rw [lg_entry_eq]
  rw [lv_args_cv] at hlv
  exact k p e s m (as.map (cv w)).toArray below meth c s.heap [] _ ⟨B.exec, B.bytes, B.returns, hml, hown, B.notSynchronized, (name_of_methodNamed B.named B.method).1, fun x hx => hts x (List.mem_cons_of_mem _ hx), hK⟩ (fun q h => by cases h) hH hlv
theorem csi_ofK {w : Wd} {h : Nat} {mi : MI} {as : List Value} {M : Mem} {K : Int32 → Mem → Prop} (hp : plainName mi.1.cls = true) (hl : (wV w).category = 1 → (lg_sl as).length ≤ mi.2.2.1) (k : RM w h mi 0 (lv_args 0 as) [] M (fun r M' => ∃ x, r = some (.int x) ∧ K x M')) : CSi w h mi as M K := co_ofK hp hl k
theorem lg3 {v : Value} {a b : Int32} (hc : v.category = 1) : (lg_sl [.int a, .int b, v]).length ≤ 3 := by
  have h1 : (Value.int a).category = 1 := rfl
  have h2 : (Value.int b).category = 1 := rfl
  simp [lg_sl, hc, h1, h2]
section TX0
variable {w : Wd} {h : Nat} {M : Mem} {K : Int32 → Mem → Prop} {Kv : Mem → Prop}
theorem uJ0_length (hh : 1 ≤ h) {i : Nat} (hi : i < 28) (hK : K (nI (strB i).length) M) : CSi w h kJ0_length_8abf5 [.ref (1000 + (4 + i))] M K := by
  obtain ⟨h, rfl⟩ : ∃ k, h = k + 1 := ⟨h - 1, by omega⟩
  refine csi_of (by decide) (Nat.le_of_ble_eq_true rfl) (vJ0_length_8abf5_0 i hi M _ ?_)
  refine csi_of (by decide) (Nat.le_of_ble_eq_true rfl) (vJ0_coder_7d493_0 i hi M _ ⟨rfl, _, rfl, _, rfl, ?_⟩)
  have e : (Int32.ofNat (strB i).length) >>> (b2i ((1 : Int32) = 0) &&& 31) = nI (strB i).length := by
    have T : ∀ i, i < 28 → (Int32.ofNat (strB i).length) >>> (b2i ((1 : Int32) = 0) &&& 31) = nI (strB i).length := by decide +kernel
    exact T i hi
  rw [e]; exact hK
theorem uJ0_charAt (hh : 4 ≤ h) {i k : Nat} (hi : i < 28) (hk : k < (strB i).length) (hK : K ((strB i).getD k 0) M) : CSi w h kJ0_charAt_5068e [.ref (1000 + (4 + i)), .int (nI k)] M K := by
  obtain ⟨h, rfl⟩ : ∃ k, h = k + 4 := ⟨h - 4, by omega⟩
  have S := strB_sm i hi
  have hkb : k < 2147483648 := by omega
  refine csi_of (by decide) (Nat.le_of_ble_eq_true rfl) (vJ0_charAt_5068e_0 i (nI k) hi M _ ?_)
  refine csi_of (by decide) (Nat.le_of_ble_eq_true rfl) (vJ0_isLatin1_aae02_0 i hi M _ ⟨fun q => absurd q (by decide), fun _ => ⟨_, rfl, ⟨fun q => absurd q (by decide), fun _ => ?_⟩⟩⟩)
  refine csi_of (by decide) (Nat.le_of_ble_eq_true rfl) (vJ1_charAt_3b067_0 i (nI k) hi M _ ?_)
  refine csv_of (by decide) (Nat.le_of_ble_eq_true rfl) (vJ0_checkIndex_df160_0 (nI k) _ M _ ?_)
  refine csi_ofK (by decide) (fun hc => lg3 hc) (vJ3_checkIndex_8e157_0 (nI k) _ _ M _ ⟨fun q => absurd q (nI_pos (by omega)), fun _ => ⟨fun _ => ?_, fun q => absurd (nI_lt hk (by omega)) q⟩⟩)
  refine ⟨_, rfl, rfl, vp_in_nI hk (by omega), ?_⟩
  rw [nI_clamp (by omega), (S.2 k hk).1]
  exact ⟨(S.2 k hk).2, _, rfl, (S.2 k hk).2, _, rfl, hK⟩
end TX0

theorem mmin_c : Cond.code Lib.Math.min.name Lib.Math.min.code 2 (some .int) ∈ tG := tG_of 541 (by decide +kernel) rfl
theorem mmin_s : Cond.static Lib.Math.min.name ∈ tG := tG_of 540 (by decide +kernel) rfl
theorem mmax_c : Cond.code Lib.Math.max.name Lib.Math.max.code 2 (some .int) ∈ tG := tG_of 548 (by decide +kernel) rfl
theorem mmax_s : Cond.static Lib.Math.max.name ∈ tG := tG_of 547 (by decide +kernel) rfl
theorem mabs_c : Cond.code Lib.Math.abs.name Lib.Math.abs.code 1 (some .int) ∈ tG := tG_of 527 (by decide +kernel) rfl
theorem mabs_s : Cond.static Lib.Math.abs.name ∈ tG := tG_of 526 (by decide +kernel) rfl
theorem math_i : Cond.initialized "java/lang/Math" ∈ tG := tG_of 70 (by decide +kernel) rfl
section MATH
variable {w : Wd} {h : Nat} {mi : MI} {pc : Nat} {lv : List (Nat × Value)} {rest : List Value} {M : Mem} {P : Option Value → Mem → Prop}
theorem rm_mmin {own : String} {idx : Nat} {x y : Int32} (hl : Cond.methodLink own idx Lib.Math.min.name ∈ tG) (ho : mi.1.cls = own) (hd : decode mi.2.1 pc = .ok (.invokestatic idx, 3)) (hw : (rest.map fun v => v.category).sum ≤ 8) (kk : RM w (h + 1) mi (pc + 3) lv (.int (if y < x then y else x) :: rest) M P) : RM w (h + 1) mi pc lv (.int y :: .int x :: rest) M P :=
  fun p e s m args below meth c H locs ls f hlc hh hlv => va_mmin f.1 f.2.1 (f.2.2.2.1.trans hlv.1.symm) (ho ▸ f.2.2.2.2.1) (f.2.2.2.2.2.2.2.1 _ hl) (f.2.2.2.2.2.2.2.1 _ mmin_s) (f.2.2.2.2.2.2.2.1 _ math_i) (f.2.2.2.2.2.2.2.1 _ mmin_c) (Nat.le_add_left _ _) (by rw [cv_cats]; show _ ≤ 39 * (h + 1); omega) (Nat.le_refl _) (Nat.le_refl _) hd (kk p e s m args below meth c H locs ls f hlc hh hlv)
theorem rm_mmax {own : String} {idx : Nat} {x y : Int32} (hl : Cond.methodLink own idx Lib.Math.max.name ∈ tG) (ho : mi.1.cls = own) (hd : decode mi.2.1 pc = .ok (.invokestatic idx, 3)) (hw : (rest.map fun v => v.category).sum ≤ 8) (kk : RM w (h + 1) mi (pc + 3) lv (.int (if x < y then y else x) :: rest) M P) : RM w (h + 1) mi pc lv (.int y :: .int x :: rest) M P :=
  fun p e s m args below meth c H locs ls f hlc hh hlv => va_mmax f.1 f.2.1 (f.2.2.2.1.trans hlv.1.symm) (ho ▸ f.2.2.2.2.1) (f.2.2.2.2.2.2.2.1 _ hl) (f.2.2.2.2.2.2.2.1 _ mmax_s) (f.2.2.2.2.2.2.2.1 _ math_i) (f.2.2.2.2.2.2.2.1 _ mmax_c) (Nat.le_add_left _ _) (by rw [cv_cats]; show _ ≤ 39 * (h + 1); omega) (Nat.le_refl _) (Nat.le_refl _) hd (kk p e s m args below meth c H locs ls f hlc hh hlv)
theorem rm_mabs {own : String} {idx : Nat} {x : Int32} (hl : Cond.methodLink own idx Lib.Math.abs.name ∈ tG) (ho : mi.1.cls = own) (hd : decode mi.2.1 pc = .ok (.invokestatic idx, 3)) (hw : (rest.map fun v => v.category).sum ≤ 8) (kk : RM w (h + 1) mi (pc + 3) lv (.int (if 0 ≤ x then x else 0 - x) :: rest) M P) : RM w (h + 1) mi pc lv (.int x :: rest) M P :=
  fun p e s m args below meth c H locs ls f hlc hh hlv => va_mabs f.1 f.2.1 (f.2.2.2.1.trans hlv.1.symm) (ho ▸ f.2.2.2.2.1) (f.2.2.2.2.2.2.2.1 _ hl) (f.2.2.2.2.2.2.2.1 _ mabs_s) (f.2.2.2.2.2.2.2.1 _ math_i) (f.2.2.2.2.2.2.2.1 _ mabs_c) (Nat.le_add_left _ _) (by rw [cv_cats]; show _ ≤ 39 * (h + 1); omega) (Nat.le_refl _) (Nat.le_refl _) hd (kk p e s m args below meth c H locs ls f hlc hh hlv)
end MATH

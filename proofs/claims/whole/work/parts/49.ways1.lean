/-! ===== ways: holds as numbers, cells below ===== -/
/-- the cell below c on side k; 0 if there is none -/
def nbl (c k : Nat) : Nat := if k = 0 then c + 12 else if k = 1 then (if c % 12 = 0 then 0 else c + 11) else (if c % 12 = 11 then 0 else c + 13)
theorem nbl_bd {c k : Nat} (hc : c < 180) (hn : nbl c k ≠ 0) : nbl c k < 192 ∧ (nbl c k) / 12 = c / 12 + 1 := by
  unfold nbl at hn ⊢
  split
  · omega
  · split
    · split
      · rename_i h1 h2 h3; rw [if_neg h1, if_pos h2, if_pos h3] at hn; exact absurd rfl hn
      · omega
    · split
      · rename_i h1 h2 h3; rw [if_neg h1, if_neg h2, if_pos h3] at hn; exact absurd rfl hn
      · omega
theorem bel_nI {c k : Nat} (hc : c < 180) (hk : k < 3) : bel (nI c) (nI k) = if nbl c k = 0 then -1 else nI (nbl c k) := by
  have : k = 0 ∨ k = 1 ∨ k = 2 := by omega
  rcases this with rfl | rfl | rfl
  · show nI c + 12 = if c + 12 = 0 then -1 else nI (c + 12)
    rw [if_neg (by omega)]; exact nI_add c 12
  · show (if md12 (nI c) ≤ 0 then -1 else nI c + 12 - 1) = if (if c % 12 = 0 then 0 else c + 11) = 0 then -1 else nI (if c % 12 = 0 then 0 else c + 11)
    rw [md_nI (by omega)]
    by_cases h : c % 12 = 0
    · rw [h, if_pos (by decide), if_pos rfl, if_pos rfl]
    · rw [if_neg (nI_nle (by omega) (by omega)), if_neg h, if_neg (by omega), show nI c + 12 = nI (c + 11 + 1) from nI_add c 12, nI_pred]
  · show (if 11 ≤ md12 (nI c) then -1 else nI c + 12 + 1) = if (if c % 12 = 11 then 0 else c + 13) = 0 then -1 else nI (if c % 12 = 11 then 0 else c + 13)
    rw [md_nI (by omega)]
    by_cases h : c % 12 = 11
    · rw [h, if_pos (by decide), if_pos rfl, if_pos rfl]
    · rw [if_neg (show ¬ (11 : Int32) ≤ nI (c % 12) from nI_ge (b := 11) (by omega) (by decide)), if_neg h, if_neg (by omega), show nI c + 12 = nI (c + 12) from nI_add c 12, nI_1]
theorem belC_nI {c k : Nat} (hc : c < 180) (hk : k < 3) : belC (nI c) (nI k) = if nbl c k = 0 then -2 else nI (nbl c k) := by
  unfold belC
  rw [bel_nI hc hk]
  by_cases h : nbl c k = 0
  · rw [if_pos h, if_pos h, if_pos (by decide)]
  · have := (nbl_bd hc h).1
    rw [if_neg h, if_neg h, if_neg (nI_pos (by omega))]
/-- the hold of a cell is a number up to 27 -/
theorem hold_N {f : Nat → Int32} (ok : okF f) {c : Nat} (hc : c < 192) : ∃ n : Nat, n ≤ 27 ∧ hold (dtF f) (wtF f) (nI c) = nI n := by
  obtain ⟨M, cc⟩ := ok
  have a := cc.d c hc
  have b := cc.w c hc
  obtain ⟨x, hx, ex⟩ := nI_of2 (n := 9) rfl (Int32.not_lt.mpr a.2.1) a.2.2
  obtain ⟨y, hy, ey⟩ := nI_of2 (n := 99) rfl (Int32.not_lt.mpr b.2.1) b.2.2
  unfold hold dtF wtF
  rw [n18, n210, nI_clamp (by omega), nI_clamp (by omega), ex, ey, show nI y / 10 = nI (y / 10) from pk_div (d := 10) (by omega) (by decide) (by decide), show 3 * nI x = nI (3 * x) from pk_mul 3 x]
  rcases Nat.lt_or_ge (3 * x) (y / 10) with z | z
  · rw [if_neg (Int32.not_le.mpr (pk_sneg (by omega) z))]
    exact ⟨0, by omega, rfl⟩
  · rw [pk_sub z, if_pos (nI_pos' (by omega))]
    exact ⟨3 * x - y / 10, by omega, rfl⟩

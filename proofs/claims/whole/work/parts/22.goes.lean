/-! ===== where a drop goes: the reference's own words, as functions of numbers ===== -/
def md12 (c : Int32) : Int32 := c - c / 12 * 12
theorem md_nI {k : Nat} (h : k < 2147483648) : md12 (nI k) = nI (k % 12) := pk_rem (d := 12) h (by decide) (by decide)
theorem md12_bd {c : Int32} (h : 0 ≤ c) : 0 ≤ md12 c ∧ md12 c ≤ 11 := by
  obtain ⟨k, hk, rfl⟩ := nI_of (Int32.not_lt.mpr h)
  rw [md_nI hk]
  have h1 : k % 12 < 12 := Nat.mod_lt _ (by decide)
  exact ⟨nI_pos' (by omega), nI_le (b := 11) (by omega) (by decide)⟩
def hold (dt wt : Int32 → Int32) (c : Int32) : Int32 := if 0 ≤ 3 * dt c - wt c / 10 then 3 * dt c - wt c / 10 else 0
def canG (dt wt : Int32 → Int32) (ln wa c : Int32) : Prop := ¬ (wa + ln < hold dt wt c)
def bel (c k : Int32) : Int32 := if k = 0 then c + 12 else if k = 1 then (if md12 c ≤ 0 then -1 else c + 12 - 1) else (if 11 ≤ md12 c then -1 else c + 12 + 1)
theorem g_11 {x : Int32} (h1 : 1 ≤ x) (h2 : x < 180) : 12 ≤ x + 12 - 1 ∧ x + 12 - 1 ≤ 191 ∧ x < x + 12 - 1 := by grind
theorem g_12 {x : Int32} (h1 : 0 ≤ x) (h2 : x < 180) : 12 ≤ x + 12 ∧ x + 12 ≤ 191 ∧ x < x + 12 := by grind
theorem g_13 {x : Int32} (h1 : 0 ≤ x) (h2 : x ≤ 178) : 12 ≤ x + 12 + 1 ∧ x + 12 + 1 ≤ 191 ∧ x < x + 12 + 1 := by grind
theorem g_m1 {x : Int32} (h1 : 1 ≤ x) (h2 : x < 192) : 0 ≤ x - 1 ∧ x - 1 ≤ 191 := by grind
theorem g_p1 {x : Int32} (h1 : 0 ≤ x) (h2 : x ≤ 190) : 0 ≤ x + 1 ∧ x + 1 ≤ 191 := by grind
theorem md_pos {q : Nat} (hc : ¬ md12 (nI q) ≤ 0) (hq : q < 2147483648) : 1 ≤ nI q := by
  have : 0 < q := by
    rcases Nat.eq_zero_or_pos q with z | z
    · subst z; exact absurd (by decide) hc
    · exact z
  exact nI_le (a := 1) this hq
theorem bel_bd {c k : Int32} (h0 : 0 ≤ c) (h1 : c < 180) : bel c k = -1 ∨ (12 ≤ bel c k ∧ bel c k ≤ 191 ∧ c < bel c k) := by
  obtain ⟨q, hq, rfl⟩ := nI_of3 (m := 180) (N := 180) rfl h0 h1
  have hm := md_nI (k := q) (by omega)
  unfold bel
  by_cases hk0 : k = 0
  · rw [if_pos hk0]; right; exact g_12 h0 h1
  · rw [if_neg hk0]
    by_cases hk1 : k = 1
    · rw [if_pos hk1]
      by_cases hc : md12 (nI q) ≤ 0
      · rw [if_pos hc]; exact Or.inl rfl
      · rw [if_neg hc]; right; exact g_11 (md_pos hc (by omega)) h1
    · rw [if_neg hk1]
      by_cases hc : 11 ≤ md12 (nI q)
      · rw [if_pos hc]; exact Or.inl rfl
      · rw [if_neg hc]; right
        have h3 : q % 12 < 11 := by
          rcases Nat.lt_or_ge (q % 12) 11 with z | z
          · exact z
          · exact absurd (by rw [hm]; exact nI_le (a := 11) z (by omega)) hc
        have h4 : q ≤ 178 := by omega
        have h5 : nI q ≤ 178 := nI_le (b := 178) h4 (by decide)
        exact g_13 h0 h5
def sstep (dt wt : Int32 → Int32) (ln wa c best k : Int32) : Int32 := if bel c k < 0 ∨ wa + ln < hold dt wt (bel c k) then best else if best = c ∨ hold dt wt (bel c k) < hold dt wt best then bel c k else best
def softest3 (dt wt : Int32 → Int32) (ln wa c : Int32) : Int32 := sstep dt wt ln wa c (sstep dt wt ln wa c (sstep dt wt ln wa c c 0) 1) 2
def wstep (dt wt : Int32 → Int32) (ln wa c best k : Int32) : Int32 := if bel c k < 0 ∨ wa + ln < hold dt wt (bel c k) ∨ wt (bel c k) = 0 then best else if best = c ∨ wt best < wt (bel c k) then bel c k else best
def wettest3 (dt wt : Int32 → Int32) (ln wa c : Int32) : Int32 := wstep dt wt ln wa c (wstep dt wt ln wa c (wstep dt wt ln wa c c 0) 1) 2
def swung3 (dt wt : Int32 → Int32) (ln wa c sp : Int32) : Int32 := if bel c (if sp - sp / 2 * 2 = 0 then 1 else 2) < 0 ∨ wa + ln < hold dt wt (bel c (if sp - sp / 2 * 2 = 0 then 1 else 2)) then softest3 dt wt ln wa c else bel c (if sp - sp / 2 * 2 = 0 then 1 else 2)
def sideC (c : Int32) : Int32 := if md12 c - md12 c / 2 * 2 = 0 then (if md12 c ≤ 0 then -1 else c - 1) else (if 11 ≤ md12 c then -1 else c + 1)
def aside3 (dt wt : Int32 → Int32) (ln wa c : Int32) : Int32 := if sideC c < 0 ∨ wa + ln < hold dt wt (sideC c) then c else sideC c
def gt (dt wt : Int32 → Int32) (ln kd c wa sp : Int32) : Int32 :=
  if ¬ c < 180 then -1
  else if kd = 2 then (if wa + ln < hold dt wt (c + 12) then c else c + 12)
  else if kd = 3 then (if wa + ln < hold dt wt (c + 12) then aside3 dt wt ln wa c else c + 12)
  else if kd = 4 then swung3 dt wt ln wa c sp
  else if kd = 5 then (if sp - sp / 3 * 3 = 2 then softest3 dt wt ln wa c else swung3 dt wt ln wa c sp)
  else if kd = 6 then (if wa + ln < hold dt wt (c + 12) then softest3 dt wt ln wa c else c + 12)
  else if kd = 7 then (if wettest3 dt wt ln wa c = c then softest3 dt wt ln wa c else wettest3 dt wt ln wa c)
  else softest3 dt wt ln wa c
def okc (c x : Int32) : Prop := x = c ∨ (0 ≤ x ∧ x ≤ 191)
theorem sstep_bd {dt wt : Int32 → Int32} {ln wa c best k : Int32} (h0 : 0 ≤ c) (h1 : c < 180) (hb : 0 ≤ best ∧ best ≤ 191) : 0 ≤ sstep dt wt ln wa c best k ∧ sstep dt wt ln wa c best k ≤ 191 := by
  unfold sstep
  have hq := bel_bd (k := k) h0 h1
  generalize bel c k = b at hq
  by_cases h : b < 0 ∨ wa + ln < hold dt wt b
  · rw [if_pos h]; exact hb
  · rw [if_neg h]
    split
    · rcases hq with hq | hq
      · exact absurd (Or.inl (by rw [hq]; decide)) h
      · exact ⟨by grind, hq.2.1⟩
    · exact hb
theorem softest3_bd {dt wt : Int32 → Int32} {ln wa c : Int32} (h0 : 0 ≤ c) (h1 : c < 180) : 0 ≤ softest3 dt wt ln wa c ∧ softest3 dt wt ln wa c ≤ 191 :=
  sstep_bd h0 h1 (sstep_bd h0 h1 (sstep_bd h0 h1 ⟨h0, by grind⟩))
theorem wstep_bd {dt wt : Int32 → Int32} {ln wa c best k : Int32} (h0 : 0 ≤ c) (h1 : c < 180) (hb : 0 ≤ best ∧ best ≤ 191) : 0 ≤ wstep dt wt ln wa c best k ∧ wstep dt wt ln wa c best k ≤ 191 := by
  unfold wstep
  have hq := bel_bd (k := k) h0 h1
  generalize bel c k = b at hq
  by_cases h : b < 0 ∨ wa + ln < hold dt wt b ∨ wt b = 0
  · rw [if_pos h]; exact hb
  · rw [if_neg h]
    split
    · rcases hq with hq | hq
      · exact absurd (Or.inl (by rw [hq]; decide)) h
      · exact ⟨by grind, hq.2.1⟩
    · exact hb
theorem wettest3_bd {dt wt : Int32 → Int32} {ln wa c : Int32} (h0 : 0 ≤ c) (h1 : c < 180) : 0 ≤ wettest3 dt wt ln wa c ∧ wettest3 dt wt ln wa c ≤ 191 :=
  wstep_bd h0 h1 (wstep_bd h0 h1 (wstep_bd h0 h1 ⟨h0, by grind⟩))
theorem sideC_bd {c : Int32} (h0 : 0 ≤ c) (h1 : c < 192) : sideC c = -1 ∨ (0 ≤ sideC c ∧ sideC c ≤ 191) := by
  obtain ⟨q, hq, rfl⟩ := nI_of3 (m := 192) (N := 192) rfl h0 h1
  have hm := md_nI (k := q) (by omega)
  unfold sideC
  generalize hx : md12 (nI q) - md12 (nI q) / 2 * 2 = x
  by_cases hk : x = 0
  · rw [if_pos hk]
    by_cases hc : md12 (nI q) ≤ 0
    · rw [if_pos hc]; exact Or.inl rfl
    · rw [if_neg hc]; right
      exact g_m1 (md_pos hc (by omega)) h1
  · rw [if_neg hk]
    by_cases hc : 11 ≤ md12 (nI q)
    · rw [if_pos hc]; exact Or.inl rfl
    · rw [if_neg hc]; right
      have h3 : q % 12 < 11 := by
        rcases Nat.lt_or_ge (q % 12) 11 with z | z
        · exact z
        · exact absurd (by rw [hm]; exact nI_le (a := 11) z (by omega)) hc
      have h5 : nI q ≤ 190 := nI_le (b := 190) (by omega) (by decide)
      exact g_p1 h0 h5
theorem gt_bd {dt wt : Int32 → Int32} {ln kd c wa sp : Int32} (h0 : 0 ≤ c) (h1 : c < 192) : gt dt wt ln kd c wa sp = -1 ∨ (0 ≤ gt dt wt ln kd c wa sp ∧ gt dt wt ln kd c wa sp ≤ 191) := by
  unfold gt
  by_cases h : ¬ c < 180
  · rw [if_pos h]; exact Or.inl rfl
  · rw [if_neg h]
    have hc : c < 180 := Classical.not_not.mp h
    have hs := softest3_bd (dt := dt) (wt := wt) (ln := ln) (wa := wa) h0 hc
    have hw := wettest3_bd (dt := dt) (wt := wt) (ln := ln) (wa := wa) h0 hc
    have hsd := sideC_bd h0 h1
    have hsw : 0 ≤ swung3 dt wt ln wa c sp ∧ swung3 dt wt ln wa c sp ≤ 191 := by
      unfold swung3
      have hq := bel_bd (k := if sp - sp / 2 * 2 = 0 then 1 else 2) h0 hc
      generalize bel c (if sp - sp / 2 * 2 = 0 then 1 else 2) = b at hq
      split
      · exact hs
      · rename_i hn
        rcases hq with hq | hq
        · exact absurd (Or.inl (by rw [hq]; decide)) hn
        · exact ⟨by grind, hq.2.1⟩
    have has : 0 ≤ aside3 dt wt ln wa c ∧ aside3 dt wt ln wa c ≤ 191 := by
      unfold aside3
      generalize sideC c = b at hsd
      split
      · exact ⟨h0, by grind⟩
      · rename_i hn
        rcases hsd with hq | hq
        · exact absurd (Or.inl (by rw [hq]; decide)) hn
        · exact hq
    have h12 : 0 ≤ c + 12 ∧ c + 12 ≤ 191 := by grind
    have hcc : 0 ≤ c ∧ c ≤ 191 := by grind
    right
    generalize softest3 dt wt ln wa c = sf at hs ⊢
    generalize wettest3 dt wt ln wa c = wf at hw ⊢
    generalize swung3 dt wt ln wa c sp = sw at hsw ⊢
    generalize aside3 dt wt ln wa c = sa at has ⊢
    generalize hold dt wt (c + 12) = hd
    generalize c + 12 = c12 at h12 ⊢
    generalize sp - sp / 3 * 3 = s3
    repeat' split
    all_goals assumption

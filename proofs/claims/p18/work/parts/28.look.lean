-- p18: sums and counts of a look
def jm_s (P : Nat → Bool) (g : Nat → Int64) : Nat → Int64
  | 0 => 0
  | n + 1 => if P n = true then jm_s P g n + g n else jm_s P g n
theorem jm_st {P : Nat → Bool} {g : Nat → Int64} {n : Nat} (h : P n = true) : jm_s P g (n + 1) = jm_s P g n + g n := if_pos h
theorem jm_sf {P : Nat → Bool} {g : Nat → Int64} {n : Nat} (h : ¬ P n = true) : jm_s P g (n + 1) = jm_s P g n := if_neg h
theorem jm_sc {P : Nat → Bool} {g g' : Nat → Int64} : ∀ n, (∀ i, i < n → P i = true → g i = g' i) → jm_s P g n = jm_s P g' n := by
  intro n
  induction n with
  | zero => intro _; rfl
  | succ n ih =>
    intro h
    have e := ih (fun i hi => h i (by omega))
    by_cases p : P n = true
    · rw [jm_st p, jm_st p, e, h n (by omega) p]
    · rw [jm_sf p, jm_sf p, e]
theorem jm_sa {P A B : Nat → Bool} {g : Nat → Int64} : ∀ n, (∀ i, i < n → (P i = true ↔ (A i = true ∨ B i = true)) ∧ ¬ (A i = true ∧ B i = true)) → jm_s P g n = jm_s A g n + jm_s B g n := by
  intro n
  induction n with
  | zero => intro _; rfl
  | succ n ih =>
    intro h
    have e := ih (fun i hi => h i (by omega))
    obtain ⟨h1, h2⟩ := h n (by omega)
    by_cases a : A n = true
    · have b : ¬ B n = true := fun b => h2 ⟨a, b⟩
      rw [jm_st (h1.mpr (.inl a)), jm_st a, jm_sf b, e]
      generalize jm_s A g n = x
      generalize jm_s B g n = y
      generalize g n = z
      grind
    · by_cases b : B n = true
      · rw [jm_st (h1.mpr (.inr b)), jm_st b, jm_sf a, e]
        generalize jm_s A g n = x
        generalize jm_s B g n = y
        generalize g n = z
        grind
      · have p : ¬ P n = true := fun p => (h1.mp p).elim a b
        rw [jm_sf p, jm_sf a, jm_sf b, e]
theorem jc_e {P : Nat → Bool} : ∀ n, 0 < jc_n P n → ∃ t, t < n ∧ P t = true := by
  intro n
  induction n with
  | zero => intro h; exact absurd h (Nat.lt_irrefl 0)
  | succ n ih =>
    intro h
    cases p : P n with
    | true => exact ⟨n, by omega, p⟩
    | false =>
      rw [jc_sf p] at h
      obtain ⟨t, ht, hp⟩ := ih h
      exact ⟨t, by omega, hp⟩
/-- RUNNING, and not the sub-make target -/
def jq_rn (st lv : Nat → Int32) (t : Nat) : Bool := decide (st t = 1) && !decide (lv t = 2)
theorem jq_rs {st lv : Nat → Int32} : ∀ n, jc_n (jq_rn st lv) n ≤ jc_n (ja_r st lv false) n + jc_n (ja_r st lv true) n ∧ ((∃ s, s < n ∧ st s = 1 ∧ lv s = 2) → jc_n (jq_rn st lv) n + 1 ≤ jc_n (ja_r st lv false) n + jc_n (ja_r st lv true) n) := by
  intro n
  induction n with
  | zero => exact ⟨Nat.le_refl _, fun ⟨s, hs, _⟩ => by omega⟩
  | succ n ih =>
    by_cases h1 : st n = 1
    · by_cases h2 : lv n = 2
      · have a : jq_rn st lv n = false := by unfold jq_rn; rw [decide_eq_true h2, Bool.not_true, Bool.and_false]
        have b : ja_r st lv false n = true := by
          unfold ja_r
          rw [decide_eq_true h1, decide_eq_false (by rw [h2]; decide)]
          rfl
        have c := Nat.le_of_lt_succ (Nat.lt_succ_of_le (jc_mo (P := ja_r st lv true) (Q := ja_r st lv true) n (fun _ _ z => z)))
        rw [jc_sf a, jc_st b, jc_s (ja_r st lv true)]
        exact ⟨by omega, fun _ => by omega⟩
      · have a : jq_rn st lv n = true := by unfold jq_rn; rw [decide_eq_true h1, decide_eq_false h2]; rfl
        by_cases h3 : lv n = 1
        · have b : ja_r st lv true n = true := by unfold ja_r; rw [decide_eq_true h1, decide_eq_true h3]; rfl
          rw [jc_st a, jc_st b, jc_s (ja_r st lv false)]
          refine ⟨by omega, fun ⟨s, hs, z1, z2⟩ => ?_⟩
          have hs' : s < n := by
            rcases Nat.lt_or_ge s n with y | y
            · exact y
            · have e : s = n := by omega
              subst e
              exact absurd z2 h2
          have := ih.2 ⟨s, hs', z1, z2⟩
          omega
        · have b : ja_r st lv false n = true := by unfold ja_r; rw [decide_eq_true h1, decide_eq_false h3]; rfl
          rw [jc_st a, jc_st b, jc_s (ja_r st lv true)]
          refine ⟨by omega, fun ⟨s, hs, z1, z2⟩ => ?_⟩
          have hs' : s < n := by
            rcases Nat.lt_or_ge s n with y | y
            · exact y
            · have e : s = n := by omega
              subst e
              exact absurd z2 h2
          have := ih.2 ⟨s, hs', z1, z2⟩
          omega
    · have a : jq_rn st lv n = false := by unfold jq_rn; rw [decide_eq_false h1, Bool.false_and]
      rw [jc_sf a, jc_sf (ja_r_n h1), jc_sf (ja_r_n h1)]
      refine ⟨ih.1, fun ⟨s, hs, z1, z2⟩ => ih.2 ⟨s, ?_, z1, z2⟩⟩
      rcases Nat.lt_or_ge s n with y | y
      · exact y
      · have e : s = n := by omega
        subst e
        exact absurd z1 h1
theorem jq_rb {N Lm : Nat} {sub clk : Int32} {lv sp0 fa np op ex sa0 st sp sa : Nat → Int32} (h1 : 1 ≤ Lm) (h2 : ∀ s, s < N → sub = nI s → lv s = 2) (V : jq_V N Lm sub clk lv sp0 fa np op ex sa0 st sp sa) : jc_n (jq_rn st lv) N ≤ Lm := by
  have T := V.2.1
  unfold jq_T at T
  have q := jq_rs (st := st) (lv := lv) N
  rcases Nat.eq_zero_or_pos (jc_n (ja_r st lv true) N) with z | z
  · have := q.1
    omega
  · obtain ⟨t, ht, y⟩ := jc_e N z
    unfold ja_r at y
    rw [Bool.and_eq_true, decide_eq_true_eq] at y
    have hl : lv t = 1 := by
      by_cases w : lv t = 1
      · exact w
      · rw [decide_eq_false w] at y
        exact absurd y.2 (by decide)
    obtain ⟨s, hs, e, w⟩ := (V.1.2.1 t ht y.1).2.2.2 hl
    have := q.2 ⟨s, hs, w, h2 s hs e⟩
    omega
-- the masks and sums of start times
def jq_g (sa : Nat → Int32) (t : Nat) : Int64 := (nI t + 1).toInt64 * (sa t).toInt64
def jq_P (sa : Nat → Int32) (t : Nat) : Bool := decide (0 ≤ sa t)
def jq_Q (sa0 sa : Nat → Int32) (t : Nat) : Bool := !jq_P sa0 t && jq_P sa t
theorem jq_Pt {sa : Nat → Int32} {t : Nat} : jq_P sa t = true ↔ 0 ≤ sa t := by unfold jq_P; rw [decide_eq_true_eq]
theorem jq_Qt {sa0 sa : Nat → Int32} {t : Nat} : jq_Q sa0 sa t = true ↔ (¬ 0 ≤ sa0 t ∧ 0 ≤ sa t) := by
  unfold jq_Q
  rw [Bool.and_eq_true, jq_Pt, Bool.not_eq_true', ← Bool.not_eq_true, jq_Pt]
theorem jq_n1 : ¬ (0 : Int32) ≤ -1 := by decide
/-- what a look sees of one target's start time -/
theorem jq_see {N Lm : Nat} {sub clk : Int32} {lv sp0 fa np op ex sa0 st sp sa : Nat → Int32} {t : Nat} (V : jq_V N Lm sub clk lv sp0 fa np op ex sa0 st sp sa) (ht : t < N) : (0 ≤ sa0 t → sa t = sa0 t) ∧ (¬ 0 ≤ sa0 t → 0 ≤ sa t → sa t = clk) := by
  rcases V.2.2.2.2 t ht with c | c
  · exact ⟨fun _ => c, fun h1 h2 => absurd (by rw [← c]; exact h2) h1⟩
  · exact ⟨fun h => absurd (by rw [← c.1]; exact h) jq_n1, fun _ _ => c.2⟩
theorem jq_PQ {N Lm : Nat} {sub clk : Int32} {lv sp0 fa np op ex sa0 st sp sa : Nat → Int32} {t : Nat} (V : jq_V N Lm sub clk lv sp0 fa np op ex sa0 st sp sa) (ht : t < N) : (jq_P sa t = true ↔ (jq_P sa0 t = true ∨ jq_Q sa0 sa t = true)) ∧ ¬ (jq_P sa0 t = true ∧ jq_Q sa0 sa t = true) := by
  rw [jq_Pt, jq_Pt, jq_Qt]
  have q := jq_see V ht
  refine ⟨⟨fun h => ?_, fun h => ?_⟩, fun h => h.2.1 h.1⟩
  · by_cases z : 0 ≤ sa0 t
    · exact .inl z
    · exact .inr ⟨z, h⟩
  · rcases h with h | h
    · rw [q.1 h]; exact h
    · exact h.2
theorem jq_sum {N Lm : Nat} {sub clk : Int32} {lv sp0 fa np op ex sa0 st sp sa : Nat → Int32} (V : jq_V N Lm sub clk lv sp0 fa np op ex sa0 st sp sa) : jm_s (jq_P sa0) (jq_g sa) N = jm_s (jq_P sa0) (jq_g sa0) N ∧ jm_s (jq_P sa) (jq_g sa) N = jm_s (jq_P sa0) (jq_g sa0) N + jm_s (jq_Q sa0 sa) (jq_g sa) N := by
  have e : jm_s (jq_P sa0) (jq_g sa) N = jm_s (jq_P sa0) (jq_g sa0) N := jm_sc N (fun i hi h => by
    unfold jq_g
    rw [(jq_see V hi).1 (jq_Pt.mp h)])
  exact ⟨e, by rw [← e]; exact jm_sa N (fun i hi => jq_PQ V hi)⟩

-- p18: no circle of prerequisites, by ranks; the passes that reckon what is expected end
def jq_K (N : Nat) (E : Nat → Nat → Prop) : Prop := ∃ (rk : Nat → Nat) (M : Nat), (∀ t, t < N → rk t < M) ∧ ∀ t p, t < N → p < N → E t p → rk p < rk t
theorem jq_K0 (N : Nat) (E : Nat → Nat → Prop) (h : ∀ t p, t < N → p < N → ¬ E t p) : jq_K N E := ⟨fun _ => 0, 1, fun _ _ => Nat.zero_lt_one, fun t p ht hp e => absurd e (h t p ht hp)⟩
theorem jq_Kw {N : Nat} {E E' : Nat → Nat → Prop} (h : jq_K N E) (w : ∀ t p, t < N → p < N → E' t p → E t p) : jq_K N E' := by
  obtain ⟨rk, M, a, b⟩ := h
  exact ⟨rk, M, a, fun t p ht hp e => b t p ht hp (w t p ht hp e)⟩
theorem jq_Ka {N : Nat} {E E' : Nat → Nat → Prop} {a b : Nat} {S : Nat → Bool} (h : jq_K N E) (cl : jr_cl E N (fun q => S q = true)) (hb : S b = true) (ha : ¬ S a = true) (w : ∀ t p, t < N → p < N → E' t p → E t p ∨ (t = a ∧ p = b)) (hbN : b < N) : jq_K N E' := by
  obtain ⟨rk, M, h1, h2⟩ := h
  refine ⟨fun q => if S q = true then rk q else rk q + M, M + M, fun t ht => ?_, fun t p ht hp e => ?_⟩
  · have := h1 t ht
    show (if S t = true then rk t else rk t + M) < M + M
    by_cases z : S t = true
    · rw [if_pos z]; omega
    · rw [if_neg z]; omega
  · show (if S p = true then rk p else rk p + M) < (if S t = true then rk t else rk t + M)
    rcases w t p ht hp e with z | ⟨z1, z2⟩
    · have h3 := h2 t p ht hp z
      by_cases y : S t = true
      · rw [if_pos y, if_pos (cl t p ht hp y z)]
        exact h3
      · rw [if_neg y]
        by_cases x : S p = true
        · rw [if_pos x]; omega
        · rw [if_neg x]; omega
    · subst z1 z2
      have h3 := h1 p hbN
      rw [if_pos hb, if_neg ha]
      omega
/-- what the reckoning waits for -/
def jq_X (N : Nat) (sub : Int32) (lv np op : Nat → Int32) (t p : Nat) : Prop := ja_E np op t p ∨ (lv t = 1 ∧ ∃ s, s < N ∧ sub = nI s ∧ ja_E np op s p) ∨ (nI t = sub ∧ lv p = 1)
theorem jq_KX {N : Nat} {sub : Int32} {lv np op : Nat → Int32} (hN : N ≤ 32) (hl : ∀ t p, t < N → p < N → ja_E np op t p → (lv t = 1 ↔ lv p = 1)) (hs : ∀ s, s < N → sub = nI s → ¬ lv s = 1) (h : jq_K N (ja_E np op)) : jq_K N (jq_X N sub lv np op) := by
  obtain ⟨rk, M, h1, h2⟩ := h
  have up : ∀ p t, rk p < rk t → (2 * M) * rk p + 2 * M ≤ (2 * M) * rk t := fun p t z => by
    have := Nat.mul_le_mul_left (2 * M) (Nat.succ_le_of_lt z)
    rw [Nat.mul_succ] at this
    exact this
  have bd : ∀ t, t < N → (2 * M) * rk t + 2 * M ≤ (2 * M) * M := fun t ht => by
    have := Nat.mul_le_mul_left (2 * M) (Nat.succ_le_of_lt (h1 t ht))
    rw [Nat.mul_succ] at this
    exact this
  by_cases ex : ∃ s, s < N ∧ sub = nI s
  · obtain ⟨s, hsN, es⟩ := ex
    have un : ∀ s', s' < N → sub = nI s' → s' = s := fun s' h e => (nI_eq (by omega) (by omega)).mp (e.symm.trans es)
    have bs := bd s hsN
    refine ⟨fun t => if lv t = 1 then (2 * M) * rk s + M + rk t else (2 * M) * rk t + 2 * M, (2 * M) * M + 2 * M, fun t ht => ?_, fun t p ht hp e => ?_⟩
    · show (if lv t = 1 then (2 * M) * rk s + M + rk t else (2 * M) * rk t + 2 * M) < (2 * M) * M + 2 * M
      have b1 := bd t ht
      have b2 := h1 t ht
      split <;> omega
    · show (if lv p = 1 then (2 * M) * rk s + M + rk p else (2 * M) * rk p + 2 * M) < (if lv t = 1 then (2 * M) * rk s + M + rk t else (2 * M) * rk t + 2 * M)
      have b2 := h1 t ht
      have b3 := h1 p hp
      rcases e with e | ⟨l1, s', hs', e', e⟩ | ⟨e, l2⟩
      · have r := h2 t p ht hp e
        have u := up p t r
        by_cases y : lv t = 1
        · rw [if_pos y, if_pos ((hl t p ht hp e).mp y)]
          omega
        · rw [if_neg y, if_neg (fun z => y ((hl t p ht hp e).mpr z))]
          omega
      · have es' := un s' hs' e'
        subst es'
        have r := h2 s' p hs' hp e
        have u := up p s' r
        have np' : ¬ lv p = 1 := fun z => hs s' hs' e' ((hl s' p hs' hp e).mpr z)
        rw [if_pos l1, if_neg np']
        omega
      · have et := un t ht e.symm
        subst et
        rw [if_pos l2, if_neg (hs t ht es)]
        omega
  · refine ⟨rk, M, h1, fun t p ht hp e => ?_⟩
    rcases e with e | ⟨_, s', hs', e', _⟩ | ⟨e, _⟩
    · exact h2 t p ht hp e
    · exact absurd ⟨s', hs', e'⟩ ex
    · exact absurd ⟨t, ht, e.symm⟩ ex
theorem jq_min {N : Nat} (rk : Nat → Nat) (U : Nat → Prop) (h : ∃ t, t < N ∧ U t) : ∃ t, t < N ∧ U t ∧ ∀ p, p < N → rk p < rk t → ¬ U p := by
  obtain ⟨t, ht, hu⟩ := h
  suffices H : ∀ n t, t < N → U t → rk t ≤ n → ∃ t, t < N ∧ U t ∧ ∀ p, p < N → rk p < rk t → ¬ U p from H (rk t) t ht hu (Nat.le_refl _)
  intro n
  induction n with
  | zero => exact fun t ht hu hn => ⟨t, ht, hu, fun p hp hr => by omega⟩
  | succ n ih =>
    intro t ht hu hn
    by_cases z : ∃ p, p < N ∧ rk p < rk t ∧ U p
    · obtain ⟨p, hp, hr, hup⟩ := z
      exact ih p hp hup (by omega)
    · exact ⟨t, ht, hu, fun p hp hr y => z ⟨p, hp, hr, y⟩⟩
theorem jq_pass {N r : Nat} {E : Nat → Nat → Prop} {D0 D1 : Nat → Bool} (K : jq_K N E) (h : (∀ t, t < N → D0 t = true) ∨ r ≤ jc_n D0 N) (mo : ∀ t, t < N → D0 t = true → D1 t = true) (sp : ∀ t, t < N → (∀ p, p < N → E t p → D0 p = true) → D1 t = true) : (∀ t, t < N → D1 t = true) ∨ r + 1 ≤ jc_n D1 N := by
  by_cases all : ∀ t, t < N → D0 t = true
  · exact .inl (fun t ht => mo t ht (all t ht))
  · right
    obtain ⟨rk, M, h1, h2⟩ := K
    obtain ⟨t0, z⟩ := Classical.not_forall.mp all
    obtain ⟨ht0, z⟩ := Classical.not_imp.mp z
    obtain ⟨t, ht, hu, hm⟩ := jq_min (N := N) rk (fun q => ¬ D0 q = true) ⟨t0, ht0, z⟩
    have d1 := sp t ht (fun p hp e => Classical.byContradiction (fun y => hm p hp (h2 t p ht hp e) y))
    have d0 : D0 t = false := by
      cases y : D0 t with
      | false => rfl
      | true => exact absurd y hu
    have := jc_lt N ht mo d0 d1
    rcases h with h | h
    · exact absurd h all
    · omega
theorem jq_all {N r : Nat} {D : Nat → Bool} (h : (∀ t, t < N → D t = true) ∨ r ≤ jc_n D N) (hr : N < r) : ∀ t, t < N → D t = true := by
  rcases h with h | h
  · exact h
  · have := jc_le D N
    omega

-- pure rows: bits, counts, reachability, scans
theorem jb_1 : ∀ i, i < 32 → 0 < i → bt 1 i = false := by decide +kernel
theorem jb_10 : bt 1 0 = true := by decide +kernel
theorem jb_has (m : Int32) (l : Nat) (hl : l < 32) : ((m.toUInt32 >>> ((nI l).toUInt32 &&& Int32.toUInt32 31)).toInt32 &&& 1) = 0 ↔ bt m l = false := by
  constructor
  · intro h
    have e := b_and ((m.toUInt32 >>> ((nI l).toUInt32 &&& Int32.toUInt32 31)).toInt32) 1 0
    rw [h, b_0, b_ushr l hl, jb_10, Bool.and_true, Nat.add_zero] at e
    exact e.symm
  · intro h
    apply b_ext
    intro i hi
    rw [b_and, b_ushr l hl, b_0]
    rcases Nat.eq_zero_or_pos i with h0 | h0
    · subst h0
      rw [Nat.add_zero, h]
      rfl
    · rw [jb_1 i hi h0, Bool.and_false]
theorem jb_sh : ∀ l, l < 32 → ∀ i, i < 32 → bt ((1 : Int32) <<< (nI l &&& 31)) i = decide (i = l) := by decide +kernel
theorem jb_or1 (m : Int32) {l i : Nat} (hl : l < 32) (hi : i < 32) : bt (m ||| ((1 : Int32) <<< (nI l &&& 31))) i = (bt m i || decide (i = l)) := by
  rw [b_or, jb_sh l hl i hi]
theorem jb_z {x : Int32} : x = 0 ↔ ∀ i, i < 32 → bt x i = false := by
  constructor
  · intro h i _
    rw [h, b_0]
  · intro h
    apply b_ext
    intro i hi
    rw [h i hi, b_0]
theorem jb_lt {x : Int32} {i : Nat} (h : bt x i = true) : i < 32 := by
  rcases Nat.lt_or_ge i 32 with h' | h'
  · exact h'
  · rw [b_big h'] at h
    exact absurd h (by decide)
-- counts
def jc_n (P : Nat → Bool) : Nat → Nat
  | 0 => 0
  | n + 1 => jc_n P n + (if P n = true then 1 else 0)
theorem jc_s (P : Nat → Bool) (n : Nat) : jc_n P (n + 1) = jc_n P n + (if P n = true then 1 else 0) := rfl
theorem jc_st {P : Nat → Bool} {n : Nat} (h : P n = true) : jc_n P (n + 1) = jc_n P n + 1 := by rw [jc_s, if_pos h]
theorem jc_sf {P : Nat → Bool} {n : Nat} (h : P n = false) : jc_n P (n + 1) = jc_n P n := by
  rw [jc_s, if_neg (by rw [h]; decide)]
  rfl
theorem jc_le (P : Nat → Bool) : ∀ n, jc_n P n ≤ n := by
  intro n
  induction n with
  | zero => exact Nat.le_refl _
  | succ n ih =>
    rw [jc_s]
    split <;> omega
theorem jc_cg {P Q : Nat → Bool} : ∀ n, (∀ i, i < n → P i = Q i) → jc_n P n = jc_n Q n := by
  intro n
  induction n with
  | zero => intro _; rfl
  | succ n ih =>
    intro h
    rw [jc_s, jc_s, ih (fun i hi => h i (by omega)), h n (by omega)]
theorem jc_mo {P Q : Nat → Bool} : ∀ n, (∀ i, i < n → P i = true → Q i = true) → jc_n P n ≤ jc_n Q n := by
  intro n
  induction n with
  | zero => intro _; exact Nat.le_refl _
  | succ n ih =>
    intro h
    have h1 := ih (fun i hi => h i (by omega))
    have h2 := h n (by omega)
    rw [jc_s, jc_s]
    by_cases hp : P n = true
    · rw [if_pos hp, if_pos (h2 hp)]
      omega
    · rw [if_neg hp]
      omega
theorem jc_up {P Q : Nat → Bool} {t : Nat} : ∀ n, t < n → (∀ i, i < n → i ≠ t → P i = Q i) → P t = false → Q t = true → jc_n Q n = jc_n P n + 1 := by
  intro n
  induction n with
  | zero => intro h; omega
  | succ n ih =>
    intro ht h hp hq
    by_cases e : t = n
    · subst e
      rw [jc_st hq, jc_sf hp, jc_cg t (fun i hi => h i (by omega) (by omega))]
    · rw [jc_s, jc_s, ih (by omega) (fun i hi hn => h i (by omega) hn) hp hq, h n (by omega) (by omega)]
      omega
theorem jc_lt {P Q : Nat → Bool} {t : Nat} : ∀ n, t < n → (∀ i, i < n → P i = true → Q i = true) → P t = false → Q t = true → jc_n P n + 1 ≤ jc_n Q n := by
  intro n
  induction n with
  | zero => intro h; omega
  | succ n ih =>
    intro ht h hp hq
    by_cases e : t = n
    · subst e
      have := jc_mo t (fun i hi => h i (by omega))
      rw [jc_st hq, jc_sf hp]
      omega
    · have h1 := ih (by omega) (fun i hi => h i (by omega)) hp hq
      have h2 := h n (by omega)
      rw [jc_s, jc_s]
      by_cases hpn : P n = true
      · rw [if_pos hpn, if_pos (h2 hpn)]
        omega
      · rw [if_neg hpn]
        omega
theorem jc_1 {P : Nat → Bool} {t : Nat} : ∀ n, t < n → P t = true → 1 ≤ jc_n P n := by
  intro n
  induction n with
  | zero => intro h; omega
  | succ n ih =>
    intro ht h
    by_cases e : t = n
    · subst e
      rw [jc_st h]
      omega
    · have h1 := ih (by omega) h
      rw [jc_s]
      omega
-- reachability: sets by Bool, derived one from another
def jr_cl (E : Nat → Nat → Prop) (N : Nat) (C : Nat → Prop) : Prop := ∀ t p, t < N → p < N → C t → E t p → C p
def jr_d (E : Nat → Nat → Prop) (N : Nat) (S T : Nat → Bool) : Prop := (∀ q, S q = true → T q = true) ∧ ∀ C : Nat → Prop, (∀ q, S q = true → C q) → jr_cl E N C → ∀ q, T q = true → C q
theorem jr_rf {E : Nat → Nat → Prop} {N : Nat} {S : Nat → Bool} : jr_d E N S S := ⟨fun _ h => h, fun _ h _ => h⟩
theorem jr_tr {E : Nat → Nat → Prop} {N : Nat} {S T U : Nat → Bool} (a : jr_d E N S T) (b : jr_d E N T U) : jr_d E N S U :=
  ⟨fun q h => b.1 q (a.1 q h), fun C h hc => b.2 C (a.2 C h hc) hc⟩
/-- what t's row adds -/
theorem jr_ad {E : Nat → Nat → Prop} {N : Nat} {S M M' : Nat → Bool} {t : Nat} (h : jr_d E N S M) (ht : t < N) (hm : M t = true) (hu : ∀ q, M q = true → M' q = true) (hn : ∀ q, M' q = true → M q = true ∨ (q < N ∧ E t q)) : jr_d E N S M' :=
  ⟨fun q z => hu q (h.1 q z), fun C hC hc q z => (hn q z).elim (fun z => h.2 C hC hc q z) (fun z => hc t q ht z.1 (h.2 C hC hc t hm) z.2)⟩
def jr_P (E : Nat → Nat → Prop) (N : Nat) (A : Nat → Bool) (r : Nat) (S : Nat → Bool) : Prop := jr_d E N A S ∧ (jr_cl E N (fun q => S q = true) ∨ r + 1 ≤ jc_n S N)
theorem jr_0 {E : Nat → Nat → Prop} {N : Nat} {A : Nat → Bool} {a : Nat} (ha : a < N) (h : A a = true) : jr_P E N A 0 A := ⟨jr_rf, Or.inr (jc_1 N ha h)⟩
theorem jr_sm {E : Nat → Nat → Prop} {N : Nat} {S T : Nat → Bool} (hr : ∀ t p, t < N → p < N → S t = true → E t p → T p = true) (h : ∀ q, q < N → T q = true → S q = true) : jr_cl E N (fun q => T q = true) :=
  fun t p ht hp z e => hr t p ht hp (h t ht z) e
theorem jr_step {E : Nat → Nat → Prop} {N r : Nat} {A S T : Nat → Bool} (h : jr_P E N A r S) (d : jr_d E N S T) (hr : ∀ t p, t < N → p < N → S t = true → E t p → T p = true) : jr_P E N A (r + 1) T := by
  refine ⟨jr_tr h.1 d, ?_⟩
  by_cases e : ∀ q, q < N → T q = true → S q = true
  · exact Or.inl (jr_sm hr e)
  · right
    obtain ⟨q, hq⟩ := Classical.not_forall.mp e
    obtain ⟨hqN, hq⟩ := Classical.not_imp.mp hq
    obtain ⟨hT, hS⟩ := Classical.not_imp.mp hq
    have hSf : S q = false := by
      cases z : S q with
      | false => rfl
      | true => exact absurd z hS
    have h2 := jc_lt N hqN (fun i _ => d.1 i) hSf hT
    rcases h.2 with c | c
    · exact absurd (d.2 _ (fun _ z => z) c q hT) hS
    · omega
theorem jr_end {E : Nat → Nat → Prop} {N r : Nat} {A S : Nat → Bool} (h : jr_P E N A r S) (hr : N ≤ r) : jr_cl E N (fun q => S q = true) := by
  rcases h.2 with c | c
  · exact c
  · have := jc_le S N
    omega
theorem jr_uq {E : Nat → Nat → Prop} {N : Nat} {A S T : Nat → Bool} (hS : jr_d E N A S) (cS : jr_cl E N (fun q => S q = true)) (hT : jr_d E N A T) (cT : jr_cl E N (fun q => T q = true)) (q : Nat) : S q = true ↔ T q = true :=
  ⟨fun z => hS.2 _ hT.1 cT q z, fun z => hT.2 _ hS.1 cS q z⟩
-- scans
theorem js_ex (W : Nat → Nat → Prop) (C : Nat → Prop) (N : Nat) (A B : Prop)
    (hx : B → ∀ n, W (n + 1) N) (ht : A → ∀ n i, i < N → C i → W (n + 1) i) (hf : ∀ n i, i < N → ¬ C i → W n (i + 1) → W (n + 1) i)
    (h1 : (∃ i, i < N ∧ C i) → A) (h0 : (¬ ∃ i, i < N ∧ C i) → B) : ∃ n, W n 0 := by
  suffices H : ∀ d i, i + d = N → (∀ j, j < i → ¬ C j) → W (d + 1) i from ⟨N + 1, H N 0 (by omega) (fun j hj => by omega)⟩
  intro d
  induction d with
  | zero =>
    intro i hi hn
    have e : i = N := by omega
    subst e
    exact hx (h0 (fun ⟨j, hj, hc⟩ => hn j hj hc)) 0
  | succ d ih =>
    intro i hi hn
    by_cases hc : C i
    · exact ht (h1 ⟨i, by omega, hc⟩) _ i (by omega) hc
    · refine hf _ i (by omega) hc (ih (i + 1) (by omega) ?_)
      intro j hj
      by_cases e : j = i
      · subst e
        exact hc
      · exact hn j (by omega)
theorem js_ct (W : Nat → Nat → Nat → Prop) (P : Nat → Bool) (N : Nat)
    (hx : ∀ n, W (n + 1) N (jc_n P N)) (ht : ∀ n i c, i < N → c ≤ i → P i = true → W n (i + 1) (c + 1) → W (n + 1) i c) (hf : ∀ n i c, i < N → c ≤ i → P i = false → W n (i + 1) c → W (n + 1) i c) : ∃ n, W n 0 0 := by
  suffices H : ∀ d i, i + d = N → W (d + 1) i (jc_n P i) from ⟨N + 1, H N 0 (by omega)⟩
  intro d
  induction d with
  | zero =>
    intro i hi
    have e : i = N := by omega
    subst e
    exact hx 0
  | succ d ih =>
    intro i hi
    have z := ih (i + 1) (by omega)
    cases hp : P i with
    | true =>
      rw [jc_st hp] at z
      exact ht _ i _ (by omega) (jc_le P i) hp z
    | false =>
      rw [jc_sf hp] at z
      exact hf _ i _ (by omega) (jc_le P i) hp z

section
-- rows of kit/rows, pasted
theorem pk_us {f : Nat → Int32} {k : Nat} {x : Int32} : upd f k x k = x := if_pos rfl
theorem pk_un {f : Nat → Int32} {k j : Nat} {x : Int32} (h : j ≠ k) : upd f k x j = f j := if_neg h
theorem pk_sub {a b : Nat} (h : b ≤ a) : nI a - nI b = nI (a - b) := by
  obtain ⟨c, rfl⟩ : ∃ c, a = c + b := ⟨a - b, by omega⟩
  rw [← nI_add, Int32.add_sub_cancel, Nat.add_sub_cancel]
theorem pk_m1 (n : Nat) : nI (n + 1) + (-1) = nI n := by
  rw [← nI_1, Int32.add_assoc, show (1 : Int32) + (-1) = 0 from rfl, Int32.add_zero]
theorem pk_mul (a b : Nat) : nI a * nI b = nI (a * b) := (Int32.ofNat_mul a b).symm
theorem pk_ix (x : Int32) {n : Nat} (hn : n < 2 ^ 31) : x < 0 ∨ nI n ≤ x ∨ ∃ j : Nat, j < n ∧ x = nI j := by
  by_cases h : x < 0
  · exact Or.inl h
  · obtain ⟨j, hj, rfl⟩ := nI_of h
    by_cases h2 : j < n
    · exact Or.inr (Or.inr ⟨j, h2, rfl⟩)
    · exact Or.inr (Or.inl (nI_le (by omega) hj))
theorem pk_le {x y : Int32} {A B : Prop} (a b : Nat) (f : a ≤ b → A) (g : b < a → B) (hx : x = nI a := by rfl) (hy : y = nI b := by rfl) (ha : a < 2 ^ 31 := by omega) (hb : b < 2 ^ 31 := by omega) : (x ≤ y → A) ∧ (¬ x ≤ y → B) := by
  subst hx hy
  rw [nI_leI ha hb]
  exact ⟨f, fun z => g (by omega)⟩
theorem pk_lt {x y : Int32} {A B : Prop} (a b : Nat) (f : a < b → A) (g : b ≤ a → B) (hx : x = nI a := by rfl) (hy : y = nI b := by rfl) (ha : a < 2 ^ 31 := by omega) (hb : b < 2 ^ 31 := by omega) : (x < y → A) ∧ (¬ x < y → B) := by
  subst hx hy
  rw [nI_ltI ha hb]
  exact ⟨f, fun z => g (by omega)⟩
theorem pk_eq {x y : Int32} {A B : Prop} (a b : Nat) (f : a = b → A) (g : a ≠ b → B) (hx : x = nI a := by rfl) (hy : y = nI b := by rfl) (ha : a < 2 ^ 31 := by omega) (hb : b < 2 ^ 31 := by omega) : (x = y → A) ∧ (¬ x = y → B) := by
  subst hx hy
  rw [nI_eq ha hb]
  exact ⟨f, g⟩
theorem pk_in {x : Int32} (n N : Nat) (h : n < N) (hx : x = nI n := by rfl) (hN : N < 2 ^ 31 := by omega) : vp_in x N := by
  subst hx
  exact vp_in_nI h hN
theorem pk_cl {x : Int32} (n : Nat) (hx : x = nI n := by rfl) (h : n < 2 ^ 31 := by omega) : x.toNatClampNeg = n := by
  subst hx
  exact nI_clamp h
def bt (x : Int32) (i : Nat) : Bool := x.toBitVec.getLsbD i
theorem b_ext {x y : Int32} (h : ∀ i, i < 32 → bt x i = bt y i) : x = y := Int32.toBitVec_inj.mp (BitVec.eq_of_getLsbD_eq (fun i hi => h i hi))
theorem b_or (x y : Int32) (i : Nat) : bt (x ||| y) i = (bt x i || bt y i) := by unfold bt; rw [Int32.toBitVec_or, BitVec.getLsbD_or]
theorem b_and (x y : Int32) (i : Nat) : bt (x &&& y) i = (bt x i && bt y i) := by unfold bt; rw [Int32.toBitVec_and, BitVec.getLsbD_and]
theorem b_big {x : Int32} {i : Nat} (h : 32 ≤ i) : bt x i = false := BitVec.getLsbD_of_ge _ _ h
theorem b_0 (i : Nat) : bt 0 i = false := BitVec.getLsbD_zero
theorem s_l : ∀ n, n < 32 → ((nI n &&& 31).toBitVec.smod 32).toNat = n := by decide +kernel
theorem s_u : ∀ n, n < 32 → (((nI n).toUInt32 &&& Int32.toUInt32 31).toBitVec % 32).toNat = n := by decide +kernel
theorem b_shl (n : Nat) (hn : n < 32) (x : Int32) {i : Nat} (hi : i < 32) : bt (x <<< (nI n &&& 31)) i = (decide (n ≤ i) && bt x (i - n)) := by
  unfold bt
  rw [Int32.toBitVec_shiftLeft]
  show (x.toBitVec <<< ((nI n &&& 31).toBitVec.smod 32).toNat).getLsbD i = _
  rw [s_l n hn, BitVec.getLsbD_shiftLeft]
  rcases Nat.lt_or_ge i n with h | h
  · simp [h, Nat.not_le.mpr h]
  · simp [hi, h, Nat.not_lt.mpr h]
theorem b_ushr (n : Nat) (hn : n < 32) (x : Int32) (i : Nat) : bt ((x.toUInt32 >>> ((nI n).toUInt32 &&& Int32.toUInt32 31)).toInt32) i = bt x (n + i) := by
  show (x.toUInt32 >>> ((nI n).toUInt32 &&& Int32.toUInt32 31)).toBitVec.getLsbD i = x.toUInt32.toBitVec.getLsbD (n + i)
  rw [UInt32.toBitVec_shiftRight]
  show (x.toUInt32.toBitVec >>> (((nI n).toUInt32 &&& Int32.toUInt32 31).toBitVec % 32).toNat).getLsbD i = _
  rw [s_u n hn, BitVec.getLsbD_ushiftRight]
end
section
-- pure rows: bits, counts, reachability, scans
theorem jb_1 : ∀ i, i < 32 → 0 < i → bt 1 i = false := by decide +kernel
theorem jb_10 : bt 1 0 = true := by decide +kernel
theorem jb_has (m : Int32) (l : Nat) (hl : l < 32) : ((m.toUInt32 >>> ((nI l).toUInt32 &&& Int32.toUInt32 31)).toInt32 &&& 1) = 0 ↔ bt m l = false := by
  constructor
  · intro h
    have e := b_and ((m.toUInt32 >>> ((nI l).toUInt32 &&& Int32.toUInt32 31)).toInt32) 1 0
    rw [h, b_0, b_ushr l hl, jb_10, Bool.and_true, Nat.add_zero] at e
    exact e.symm
  · intro h
    apply b_ext
    intro i hi
    rw [b_and, b_ushr l hl, b_0]
    rcases Nat.eq_zero_or_pos i with h0 | h0
    · subst h0
      rw [Nat.add_zero, h]
      rfl
    · rw [jb_1 i hi h0, Bool.and_false]
theorem jb_sh : ∀ l, l < 32 → ∀ i, i < 32 → bt ((1 : Int32) <<< (nI l &&& 31)) i = decide (i = l) := by decide +kernel
theorem jb_or1 (m : Int32) {l i : Nat} (hl : l < 32) (hi : i < 32) : bt (m ||| ((1 : Int32) <<< (nI l &&& 31))) i = (bt m i || decide (i = l)) := by
  rw [b_or, jb_sh l hl i hi]
theorem jb_z {x : Int32} : x = 0 ↔ ∀ i, i < 32 → bt x i = false := by
  constructor
  · intro h i _
    rw [h, b_0]
  · intro h
    apply b_ext
    intro i hi
    rw [h i hi, b_0]
theorem jb_lt {x : Int32} {i : Nat} (h : bt x i = true) : i < 32 := by
  rcases Nat.lt_or_ge i 32 with h' | h'
  · exact h'
  · rw [b_big h'] at h
    exact absurd h (by decide)
-- counts
def jc_n (P : Nat → Bool) : Nat → Nat
  | 0 => 0
  | n + 1 => jc_n P n + (if P n = true then 1 else 0)
theorem jc_s (P : Nat → Bool) (n : Nat) : jc_n P (n + 1) = jc_n P n + (if P n = true then 1 else 0) := rfl
theorem jc_st {P : Nat → Bool} {n : Nat} (h : P n = true) : jc_n P (n + 1) = jc_n P n + 1 := by rw [jc_s, if_pos h]
theorem jc_sf {P : Nat → Bool} {n : Nat} (h : P n = false) : jc_n P (n + 1) = jc_n P n := by
  rw [jc_s, if_neg (by rw [h]; decide)]
  rfl
theorem jc_le (P : Nat → Bool) : ∀ n, jc_n P n ≤ n := by
  intro n
  induction n with
  | zero => exact Nat.le_refl _
  | succ n ih =>
    rw [jc_s]
    split <;> omega
theorem jc_cg {P Q : Nat → Bool} : ∀ n, (∀ i, i < n → P i = Q i) → jc_n P n = jc_n Q n := by
  intro n
  induction n with
  | zero => intro _; rfl
  | succ n ih =>
    intro h
    rw [jc_s, jc_s, ih (fun i hi => h i (by omega)), h n (by omega)]
theorem jc_mo {P Q : Nat → Bool} : ∀ n, (∀ i, i < n → P i = true → Q i = true) → jc_n P n ≤ jc_n Q n := by
  intro n
  induction n with
  | zero => intro _; exact Nat.le_refl _
  | succ n ih =>
    intro h
    have h1 := ih (fun i hi => h i (by omega))
    have h2 := h n (by omega)
    rw [jc_s, jc_s]
    by_cases hp : P n = true
    · rw [if_pos hp, if_pos (h2 hp)]
      omega
    · rw [if_neg hp]
      omega
theorem jc_up {P Q : Nat → Bool} {t : Nat} : ∀ n, t < n → (∀ i, i < n → i ≠ t → P i = Q i) → P t = false → Q t = true → jc_n Q n = jc_n P n + 1 := by
  intro n
  induction n with
  | zero => intro h; omega
  | succ n ih =>
    intro ht h hp hq
    by_cases e : t = n
    · subst e
      rw [jc_st hq, jc_sf hp, jc_cg t (fun i hi => h i (by omega) (by omega))]
    · rw [jc_s, jc_s, ih (by omega) (fun i hi hn => h i (by omega) hn) hp hq, h n (by omega) (by omega)]
      omega
theorem jc_lt {P Q : Nat → Bool} {t : Nat} : ∀ n, t < n → (∀ i, i < n → P i = true → Q i = true) → P t = false → Q t = true → jc_n P n + 1 ≤ jc_n Q n := by
  intro n
  induction n with
  | zero => intro h; omega
  | succ n ih =>
    intro ht h hp hq
    by_cases e : t = n
    · subst e
      have := jc_mo t (fun i hi => h i (by omega))
      rw [jc_st hq, jc_sf hp]
      omega
    · have h1 := ih (by omega) (fun i hi => h i (by omega)) hp hq
      have h2 := h n (by omega)
      rw [jc_s, jc_s]
      by_cases hpn : P n = true
      · rw [if_pos hpn, if_pos (h2 hpn)]
        omega
      · rw [if_neg hpn]
        omega
theorem jc_1 {P : Nat → Bool} {t : Nat} : ∀ n, t < n → P t = true → 1 ≤ jc_n P n := by
  intro n
  induction n with
  | zero => intro h; omega
  | succ n ih =>
    intro ht h
    by_cases e : t = n
    · subst e
      rw [jc_st h]
      omega
    · have h1 := ih (by omega) h
      rw [jc_s]
      omega
-- reachability: sets by Bool, derived one from another
def jr_cl (E : Nat → Nat → Prop) (N : Nat) (C : Nat → Prop) : Prop := ∀ t p, t < N → p < N → C t → E t p → C p
def jr_d (E : Nat → Nat → Prop) (N : Nat) (S T : Nat → Bool) : Prop := (∀ q, S q = true → T q = true) ∧ ∀ C : Nat → Prop, (∀ q, S q = true → C q) → jr_cl E N C → ∀ q, T q = true → C q
theorem jr_rf {E : Nat → Nat → Prop} {N : Nat} {S : Nat → Bool} : jr_d E N S S := ⟨fun _ h => h, fun _ h _ => h⟩
theorem jr_tr {E : Nat → Nat → Prop} {N : Nat} {S T U : Nat → Bool} (a : jr_d E N S T) (b : jr_d E N T U) : jr_d E N S U :=
  ⟨fun q h => b.1 q (a.1 q h), fun C h hc => b.2 C (a.2 C h hc) hc⟩
/-- what t's row adds -/
theorem jr_ad {E : Nat → Nat → Prop} {N : Nat} {S M M' : Nat → Bool} {t : Nat} (h : jr_d E N S M) (ht : t < N) (hm : M t = true) (hu : ∀ q, M q = true → M' q = true) (hn : ∀ q, M' q = true → M q = true ∨ (q < N ∧ E t q)) : jr_d E N S M' :=
  ⟨fun q z => hu q (h.1 q z), fun C hC hc q z => (hn q z).elim (fun z => h.2 C hC hc q z) (fun z => hc t q ht z.1 (h.2 C hC hc t hm) z.2)⟩
def jr_P (E : Nat → Nat → Prop) (N : Nat) (A : Nat → Bool) (r : Nat) (S : Nat → Bool) : Prop := jr_d E N A S ∧ (jr_cl E N (fun q => S q = true) ∨ r + 1 ≤ jc_n S N)
theorem jr_0 {E : Nat → Nat → Prop} {N : Nat} {A : Nat → Bool} {a : Nat} (ha : a < N) (h : A a = true) : jr_P E N A 0 A := ⟨jr_rf, Or.inr (jc_1 N ha h)⟩
theorem jr_sm {E : Nat → Nat → Prop} {N : Nat} {S T : Nat → Bool} (hr : ∀ t p, t < N → p < N → S t = true → E t p → T p = true) (h : ∀ q, q < N → T q = true → S q = true) : jr_cl E N (fun q => T q = true) :=
  fun t p ht hp z e => hr t p ht hp (h t ht z) e
theorem jr_step {E : Nat → Nat → Prop} {N r : Nat} {A S T : Nat → Bool} (h : jr_P E N A r S) (d : jr_d E N S T) (hr : ∀ t p, t < N → p < N → S t = true → E t p → T p = true) : jr_P E N A (r + 1) T := by
  refine ⟨jr_tr h.1 d, ?_⟩
  by_cases e : ∀ q, q < N → T q = true → S q = true
  · exact Or.inl (jr_sm hr e)
  · right
    obtain ⟨q, hq⟩ := Classical.not_forall.mp e
    obtain ⟨hqN, hq⟩ := Classical.not_imp.mp hq
    obtain ⟨hT, hS⟩ := Classical.not_imp.mp hq
    have hSf : S q = false := by
      cases z : S q with
      | false => rfl
      | true => exact absurd z hS
    have h2 := jc_lt N hqN (fun i _ => d.1 i) hSf hT
    rcases h.2 with c | c
    · exact absurd (d.2 _ (fun _ z => z) c q hT) hS
    · omega
theorem jr_end {E : Nat → Nat → Prop} {N r : Nat} {A S : Nat → Bool} (h : jr_P E N A r S) (hr : N ≤ r) : jr_cl E N (fun q => S q = true) := by
  rcases h.2 with c | c
  · exact c
  · have := jc_le S N
    omega
theorem jr_uq {E : Nat → Nat → Prop} {N : Nat} {A S T : Nat → Bool} (hS : jr_d E N A S) (cS : jr_cl E N (fun q => S q = true)) (hT : jr_d E N A T) (cT : jr_cl E N (fun q => T q = true)) (q : Nat) : S q = true ↔ T q = true :=
  ⟨fun z => hS.2 _ hT.1 cT q z, fun z => hT.2 _ hS.1 cS q z⟩
-- scans
theorem js_ex (W : Nat → Nat → Prop) (C : Nat → Prop) (N : Nat) (A B : Prop)
    (hx : B → ∀ n, W (n + 1) N) (ht : A → ∀ n i, i < N → C i → W (n + 1) i) (hf : ∀ n i, i < N → ¬ C i → W n (i + 1) → W (n + 1) i)
    (h1 : (∃ i, i < N ∧ C i) → A) (h0 : (¬ ∃ i, i < N ∧ C i) → B) : ∃ n, W n 0 := by
  suffices H : ∀ d i, i + d = N → (∀ j, j < i → ¬ C j) → W (d + 1) i from ⟨N + 1, H N 0 (by omega) (fun j hj => by omega)⟩
  intro d
  induction d with
  | zero =>
    intro i hi hn
    have e : i = N := by omega
    subst e
    exact hx (h0 (fun ⟨j, hj, hc⟩ => hn j hj hc)) 0
  | succ d ih =>
    intro i hi hn
    by_cases hc : C i
    · exact ht (h1 ⟨i, by omega, hc⟩) _ i (by omega) hc
    · refine hf _ i (by omega) hc (ih (i + 1) (by omega) ?_)
      intro j hj
      by_cases e : j = i
      · subst e
        exact hc
      · exact hn j (by omega)
theorem js_ct (W : Nat → Nat → Nat → Prop) (P : Nat → Bool) (N : Nat)
    (hx : ∀ n, W (n + 1) N (jc_n P N)) (ht : ∀ n i c, i < N → c ≤ i → P i = true → W n (i + 1) (c + 1) → W (n + 1) i c) (hf : ∀ n i c, i < N → c ≤ i → P i = false → W n (i + 1) c → W (n + 1) i c) : ∃ n, W n 0 0 := by
  suffices H : ∀ d i, i + d = N → W (d + 1) i (jc_n P i) from ⟨N + 1, H N 0 (by omega)⟩
  intro d
  induction d with
  | zero =>
    intro i hi
    have e : i = N := by omega
    subst e
    exact hx 0
  | succ d ih =>
    intro i hi
    have z := ih (i + 1) (by omega)
    cases hp : P i with
    | true =>
      rw [jc_st hp] at z
      exact ht _ i _ (by omega) (jc_le P i) hp z
    | false =>
      rw [jc_sf hp] at z
      exact hf _ i _ (by omega) (jc_le P i) hp z
end
section
-- the two states by one list of contents; the relation
def ja_r (st lv : Nat → Int32) (b : Bool) (t : Nat) : Bool := decide (st t = 1) && (decide (lv t = 1) == b)
theorem ja_r_n {st lv : Nat → Int32} {b : Bool} {t : Nat} (h : ¬ st t = 1) : ja_r st lv b t = false := by
  unfold ja_r
  rw [decide_eq_false h, Bool.false_and]
theorem ja_r_u {st lv : Nat → Int32} {b : Bool} {t i : Nat} {s : Int32} (h : i ≠ t) : ja_r (upd st t s) lv b i = ja_r st lv b i := by
  unfold ja_r
  rw [pk_un h]
theorem ja_r_s {st lv : Nat → Int32} {t : Nat} (h : st t = 1) : ja_r st lv (decide (lv t = 1)) t = true := by
  unfold ja_r
  rw [decide_eq_true h, Bool.true_and, beq_self_eq_true]
theorem ja_r_o {st lv : Nat → Int32} {t : Nat} : ja_r st lv (!decide (lv t = 1)) t = false := by
  unfold ja_r
  cases decide (lv t = 1) <;> simp
theorem ja_us {st : Nat → Int32} {t : Nat} {s : Int32} (h : ¬ s = 1) : ¬ upd st t s t = 1 := by rw [pk_us]; exact h
/-- a step between statuses that aren't RUNNING keeps the counts -/
theorem ja_cs {st lv : Nat → Int32} {b : Bool} {t : Nat} {s : Int32} {N : Nat} (h : ¬ st t = 1) (hs : ¬ s = 1) : jc_n (ja_r (upd st t s) lv b) N = jc_n (ja_r st lv b) N := by
  apply jc_cg
  intro i _
  by_cases e : i = t
  · subst e
    rw [ja_r_n (ja_us hs), ja_r_n h]
  · exact ja_r_u e
theorem ja_cb {st lv : Nat → Int32} {t N : Nat} (ht : t < N) (h : ¬ st t = 1) : jc_n (ja_r (upd st t 1) lv (decide (lv t = 1))) N = jc_n (ja_r st lv (decide (lv t = 1))) N + 1 :=
  jc_up N ht (fun _ _ e => (ja_r_u e).symm) (ja_r_n h) (ja_r_s pk_us)
theorem ja_cbo {st lv : Nat → Int32} {t N : Nat} : jc_n (ja_r (upd st t 1) lv (!decide (lv t = 1))) N = jc_n (ja_r st lv (!decide (lv t = 1))) N := by
  apply jc_cg
  intro i _
  by_cases e : i = t
  · subst e
    rw [ja_r_o, ja_r_o]
  · exact ja_r_u e
theorem ja_ce {st lv : Nat → Int32} {t N : Nat} {s : Int32} (ht : t < N) (h : st t = 1) (hs : ¬ s = 1) : jc_n (ja_r st lv (decide (lv t = 1))) N = jc_n (ja_r (upd st t s) lv (decide (lv t = 1))) N + 1 :=
  jc_up N ht (fun _ _ e => ja_r_u e) (ja_r_n (ja_us hs)) (ja_r_s h)
theorem ja_ceo {st lv : Nat → Int32} {t N : Nat} {s : Int32} : jc_n (ja_r st lv (!decide (lv t = 1))) N = jc_n (ja_r (upd st t s) lv (!decide (lv t = 1))) N := by
  apply jc_cg
  intro i _
  by_cases e : i = t
  · subst e
    rw [ja_r_o, ja_r_o]
  · exact (ja_r_u e).symm
-- the edges
def ja_E (np op : Nat → Int32) (t p : Nat) : Prop := bt (np t ||| op t) p = true
def ja_k (np op : Nat → Int32) (t p : Nat) : Int32 := if bt (np t) p = true then 1 else if bt (op t) p = true then 2 else 0
theorem ja_k0 {np op : Nat → Int32} {t p : Nat} : ja_k np op t p = 0 ↔ bt (np t ||| op t) p = false := by
  unfold ja_k
  rw [b_or]
  cases bt (np t) p <;> cases bt (op t) p <;> decide
theorem ja_kn {np op : Nat → Int32} {t p : Nat} : ¬ ja_k np op t p = 0 ↔ ja_E np op t p := by
  rw [ja_k0]
  unfold ja_E
  cases bt (np t ||| op t) p <;> decide
theorem ja_k1 {np op : Nat → Int32} {t p : Nat} : ja_k np op t p = 1 ↔ bt (np t) p = true := by
  unfold ja_k
  cases bt (np t) p <;> cases bt (op t) p <;> decide
def ja_K (N : Nat) (np op kd : Nat → Int32) : Prop := (∀ t p, t < 32 → p < 32 → kd (t * 32 + p) = ja_k np op t p) ∧ (∀ t p, t < 32 → ja_E np op t p → p < N)
theorem ja_K0 (N : Nat) : ja_K N (fun _ => 0) (fun _ => 0) (fun _ => 0) := by
  have e : ∀ p, bt ((0 : Int32) ||| 0) p = false := fun p => by rw [b_or, b_0]; rfl
  refine ⟨fun t p _ _ => (ja_k0.mpr (e p)).symm, fun t p _ h => ?_⟩
  have h' : bt ((0 : Int32) ||| 0) p = true := h
  rw [e p] at h'
  exact absurd h' (by decide)
theorem ja_ix {t p t' p' : Nat} (hp : p < 32) (hp' : p' < 32) (h : t' * 32 + p' = t * 32 + p) : t' = t ∧ p' = p := by omega
theorem ja_Kn {N : Nat} {np op kd : Nat → Int32} {t p : Nat} (hN : N ≤ 32) (K : ja_K N np op kd) (ht : t < N) (hp : p < N) : ja_K N (upd np t (np t ||| ((1 : Int32) <<< (nI p &&& 31)))) op (upd kd (t * 32 + p) 1) := by
  refine ⟨fun t' p' ht' hp' => ?_, fun t' p' ht' h => ?_⟩
  · by_cases e : t' = t
    · subst e
      by_cases e2 : p' = p
      · subst e2
        rw [pk_us]
        refine (ja_k1.mpr ?_).symm
        rw [pk_us, jb_or1 _ (by omega) (by omega), decide_eq_true rfl, Bool.or_true]
      · rw [pk_un (by omega), K.1 t' p' ht' hp']
        unfold ja_k
        rw [pk_us, jb_or1 _ (by omega) (by omega), decide_eq_false e2, Bool.or_false]
    · rw [pk_un (fun z => e (ja_ix (by omega) hp' z).1), K.1 t' p' ht' hp']
      unfold ja_k
      rw [pk_un e]
  · unfold ja_E at h
    by_cases e : t' = t
    · subst e
      have hb := jb_lt h
      rw [pk_us, b_or, jb_or1 _ (by omega) hb] at h
      by_cases e2 : p' = p
      · omega
      · rw [decide_eq_false e2, Bool.or_false, ← b_or] at h
        exact K.2 t' p' ht' h
    · rw [pk_un e] at h
      exact K.2 t' p' ht' h
theorem ja_Ko {N : Nat} {np op kd : Nat → Int32} {t p : Nat} (hN : N ≤ 32) (K : ja_K N np op kd) (ht : t < N) (hp : p < N) (hz : bt (np t ||| op t) p = false) : ja_K N np (upd op t (op t ||| ((1 : Int32) <<< (nI p &&& 31)))) (upd kd (t * 32 + p) 2) := by
  have hz1 : bt (np t) p = false := by
    rw [b_or] at hz
    cases h : bt (np t) p with
    | false => rfl
    | true => rw [h] at hz; exact absurd hz (by simp)
  refine ⟨fun t' p' ht' hp' => ?_, fun t' p' ht' h => ?_⟩
  · by_cases e : t' = t
    · subst e
      by_cases e2 : p' = p
      · subst e2
        rw [pk_us]
        unfold ja_k
        rw [pk_us, jb_or1 _ (by omega) (by omega), decide_eq_true rfl, Bool.or_true, hz1]
        rfl
      · rw [pk_un (by omega), K.1 t' p' ht' hp']
        unfold ja_k
        rw [pk_us, jb_or1 _ (by omega) (by omega), decide_eq_false e2, Bool.or_false]
    · rw [pk_un (fun z => e (ja_ix (by omega) hp' z).1), K.1 t' p' ht' hp']
      unfold ja_k
      rw [pk_un e]
  · unfold ja_E at h
    by_cases e : t' = t
    · subst e
      have hb := jb_lt h
      rw [pk_us, b_or, jb_or1 _ (by omega) hb] at h
      by_cases e2 : p' = p
      · omega
      · rw [decide_eq_false e2, Bool.or_false, ← b_or] at h
        exact K.2 t' p' ht' h
    · rw [pk_un e] at h
      exact K.2 t' p' ht' h
-- the ticks that are left: alike but at the sub-make target
def ja_L (sub : Int32) (re lf : Nat → Int32) : Prop := ∀ i, i < 32 → ¬ nI i = sub → re i = lf i
theorem ja_Lu {sub : Int32} {re lf : Nat → Int32} {t : Nat} {x : Int32} (h : ja_L sub re lf) : ja_L sub (upd re t x) (upd lf t x) := by
  intro i hi hn
  by_cases e : i = t
  · subst e
    rw [pk_us, pk_us]
  · rw [pk_un e, pk_un e]
    exact h i hi hn
theorem ja_Lx {sub : Int32} {re lf : Nat → Int32} {t : Nat} {x : Int32} (h : ja_L sub re lf) (ht : nI t = sub) : ja_L sub (upd re t x) lf := by
  intro i hi hn
  by_cases e : i = t
  · subst e
    exact absurd ht hn
  · rw [pk_un e]
    exact h i hi hn
def ja_S (N : Nat) (sub : Int32) : Prop := sub = -1 ∨ ∃ s, s < N ∧ sub = nI s
def ja_B (x : Int32) : Prop := x = 0 ∨ x = 1
theorem ja_B0 : ja_B 0 := Or.inl rfl
theorem ja_B1 : ja_B 1 := Or.inr rfl
theorem ja_Bn {x : Int32} (h : ja_B x) : narrow .boolean (.int x) = .int x := by
  rcases h with h | h <;> subst h <;> rfl
theorem ja_Bf {x : Int32} (h : ja_B x) : fits .boolean (.int x) = true := by
  rcases h with h | h <;> subst h <;> rfl
theorem ja_Bv {x : Int32} (h : ja_B x) : vp_nar .boolean x = x := by
  rcases h with h | h <;> subst h <;> rfl
theorem ja_B1' {x : Int32} (h : ja_B x) (hn : ¬ x = 0) : x = 1 := h.resolve_left hn
/-- one list of contents -/
def ja_I (N : Nat) (keep sub clk sta ff : Int32) (fa np op st re lf kd : Nat → Int32) : Prop :=
  1 ≤ N ∧ N ≤ 32 ∧ (sta = 0 → clk = 0 ∧ ∀ i, ¬ st i = 1) ∧ ja_B keep ∧ ja_B sta ∧ ja_B ff ∧ ja_S N sub ∧ (∀ i, ja_B (fa i)) ∧ ja_K N np op kd ∧ ja_L sub re lf
theorem ja_c0 {st lv lv' : Nat → Int32} {b : Bool} {N : Nat} (h : ∀ i, ¬ st i = 1) : jc_n (ja_r st lv b) N = jc_n (ja_r st lv' b) N :=
  jc_cg N (fun i _ => (ja_r_n (h i)).trans (ja_r_n (h i)).symm)
end
section
-- what the class asks of a state, as propositions; one target's step in SETTLE
def ja_si (N : Nat) (sub : Int32) (st : Nat → Int32) (w : Int32) : Prop := ∃ s, s < N ∧ sub = nI s ∧ st s = w
def ja_bad (st : Nat → Int32) (p : Nat) : Prop := st p = 4 ∨ st p = 5
def ja_und (st : Nat → Int32) (p : Nat) : Prop := st p = 0 ∨ st p = 1
def ja_hb (N : Nat) (np op st : Nat → Int32) (t : Nat) : Prop := ∃ p, p < N ∧ ja_E np op t p ∧ ja_bad st p
def ja_hu (N : Nat) (np op st : Nat → Int32) (t : Nat) : Prop := ∃ p, p < N ∧ ja_E np op t p ∧ ja_und st p
def ja_sl (N : Nat) (sub : Int32) (sp np : Nat → Int32) (t : Nat) : Prop := nI t = sub ∨ sp t = 0 ∨ ∃ p, p < N ∧ bt (np t) p = true ∧ sp t < sp p
def ja_fr (lim : Int32) (a b : Nat) : Int32 := lim - 1 - nI (a - 1) - nI (b - 1)
def ja_my (N : Nat) (lim : Int32) (lv st : Nat → Int32) (t : Nat) : Prop := jc_n (ja_r st lv (decide (lv t = 1))) N = 0 ∨ 0 < ja_fr lim (jc_n (ja_r st lv false) N) (jc_n (ja_r st lv true) N)
def ja_sp (keep ff : Int32) : Prop := keep = 0 ∧ ¬ ff = 0
/-- the level lets t be looked at further: rules 1 and 2 don't apply -/
def ja_lo (N : Nat) (sub : Int32) (lv st : Nat → Int32) (t : Nat) : Prop := lv t = 1 → ¬ ja_si N sub st 5 ∧ ja_si N sub st 1
/-- the status that t gets (0: it stays WAITING) -/
def ja_D (N : Nat) (lim keep sub ff : Int32) (lv sp np op st : Nat → Int32) (t : Nat) (w : Int32) : Prop :=
  (lv t = 1 ∧ ja_si N sub st 5 ∧ w = 5) ∨
  (lv t = 1 ∧ ¬ ja_si N sub st 5 ∧ ¬ ja_si N sub st 1 ∧ w = 0) ∨
  (ja_lo N sub lv st t ∧ ja_hb N np op st t ∧ w = 5) ∨
  (ja_lo N sub lv st t ∧ ¬ ja_hb N np op st t ∧ ja_hu N np op st t ∧ w = 0) ∨
  (ja_lo N sub lv st t ∧ ¬ ja_hb N np op st t ∧ ¬ ja_hu N np op st t ∧ ja_sp keep ff ∧ w = 0) ∨
  (ja_lo N sub lv st t ∧ ¬ ja_hb N np op st t ∧ ¬ ja_hu N np op st t ∧ ¬ ja_sp keep ff ∧ ¬ ja_sl N sub sp np t ∧ w = 3) ∨
  (ja_lo N sub lv st t ∧ ¬ ja_hb N np op st t ∧ ¬ ja_hu N np op st t ∧ ¬ ja_sp keep ff ∧ ja_sl N sub sp np t ∧ ja_my N lim lv st t ∧ w = 1) ∨
  (ja_lo N sub lv st t ∧ ¬ ja_hb N np op st t ∧ ¬ ja_hu N np op st t ∧ ¬ ja_sp keep ff ∧ ja_sl N sub sp np t ∧ ¬ ja_my N lim lv st t ∧ w = 0)
theorem ja_Dex (N : Nat) (lim keep sub ff : Int32) (lv sp np op st : Nat → Int32) (t : Nat) : ∃ w, ja_D N lim keep sub ff lv sp np op st t w := by
  by_cases h : ja_lo N sub lv st t
  · by_cases hb : ja_hb N np op st t
    · exact ⟨5, .inr (.inr (.inl ⟨h, hb, rfl⟩))⟩
    · by_cases hu : ja_hu N np op st t
      · exact ⟨0, .inr (.inr (.inr (.inl ⟨h, hb, hu, rfl⟩)))⟩
      · by_cases hs : ja_sp keep ff
        · exact ⟨0, .inr (.inr (.inr (.inr (.inl ⟨h, hb, hu, hs, rfl⟩))))⟩
        · by_cases hl : ja_sl N sub sp np t
          · by_cases hm : ja_my N lim lv st t
            · exact ⟨1, .inr (.inr (.inr (.inr (.inr (.inr (.inl ⟨h, hb, hu, hs, hl, hm, rfl⟩))))))⟩
            · exact ⟨0, .inr (.inr (.inr (.inr (.inr (.inr (.inr ⟨h, hb, hu, hs, hl, hm, rfl⟩))))))⟩
          · exact ⟨3, .inr (.inr (.inr (.inr (.inr (.inl ⟨h, hb, hu, hs, hl, rfl⟩)))))⟩
  · have h1 : lv t = 1 := Classical.byContradiction (fun z => h (fun y => absurd y z))
    by_cases h5 : ja_si N sub st 5
    · exact ⟨5, .inl ⟨h1, h5, rfl⟩⟩
    · exact ⟨0, .inr (.inl ⟨h1, h5, fun z => h (fun _ => ⟨h5, z⟩), rfl⟩)⟩
theorem ja_Dw {N : Nat} {lim keep sub ff : Int32} {lv sp np op st : Nat → Int32} {t : Nat} {w : Int32} (h : ja_D N lim keep sub ff lv sp np op st t w) : w = 0 ∨ w = 1 ∨ w = 3 ∨ w = 5 := by
  rcases h with h | h | h | h | h | h | h | h
  · exact .inr (.inr (.inr h.2.2))
  · exact .inl h.2.2.2
  · exact .inr (.inr (.inr h.2.2))
  · exact .inl h.2.2.2
  · exact .inl h.2.2.2.2
  · exact .inr (.inr (.inl h.2.2.2.2.2))
  · exact .inr (.inl h.2.2.2.2.2.2)
  · exact .inl h.2.2.2.2.2.2
theorem ja_u0 {f : Nat → Int32} {t : Nat} {x : Int32} (h : f t = x) : upd f t x = f := by
  funext i
  by_cases e : i = t
  · subst e
    rw [pk_us, h]
  · exact pk_un e
-- what the step makes of the arrays
def ja_sa (w clk : Int32) (sa : Nat → Int32) (t : Nat) : Nat → Int32 := if w = 1 then upd sa t clk else sa
def ja_fi (w clk : Int32) (fi : Nat → Int32) (t : Nat) : Nat → Int32 := if w = 0 ∨ w = 1 then fi else upd fi t clk
def ja_re (w : Int32) (du re : Nat → Int32) (t : Nat) : Nat → Int32 := if w = 1 then upd re t (du t) else re
def ja_lf (w sub : Int32) (du lf : Nat → Int32) (t : Nat) : Nat → Int32 := if w = 1 ∧ ¬ nI t = sub then upd lf t (du t) else lf
theorem ja_Ls {w sub : Int32} {du re lf : Nat → Int32} {t : Nat} (h : ja_L sub re lf) : ja_L sub (ja_re w du re t) (ja_lf w sub du lf t) := by
  unfold ja_re ja_lf
  by_cases hw : w = 1
  · by_cases hs : nI t = sub
    · rw [if_pos hw, if_neg (fun z => z.2 hs)]
      exact ja_Lx h hs
    · rw [if_pos hw, if_pos ⟨hw, hs⟩]
      exact ja_Lu h
  · rw [if_neg hw, if_neg (fun z => hw z.1)]
    exact h
theorem ja_i1 : ¬ (1 : Int32) = 0 := by decide
theorem ja_sub_in {N : Nat} {sub : Int32} (h : ja_S N sub) (hN : N ≤ 32) : (sub = -1 ∧ (∀ i, i < 32 → ¬ nI i = sub) ∧ ∀ st w, ¬ ja_si N sub st w) ∨ ∃ s, s < N ∧ sub = nI s ∧ ¬ sub = -1 ∧ ∀ st w, ja_si N sub st w ↔ st s = w := by
  have hm : ∀ i, i < 32 → ¬ nI i = -1 := by decide +kernel
  rcases h with h | ⟨s, hs, h⟩
  · left
    subst h
    exact ⟨rfl, hm, fun st w ⟨s, hs, e, _⟩ => hm s (by omega) e.symm⟩
  · right
    subst h
    refine ⟨s, hs, rfl, hm s (by omega), fun st w => ⟨fun ⟨s', hs', e, z⟩ => ?_, fun z => ⟨s, hs, rfl, z⟩⟩⟩
    rw [nI_eq (by omega) (by omega)] at e
    subst e
    exact z
-- the step's status, read off each path
theorem ja_D1 {N : Nat} {lim keep sub ff : Int32} {lv sp np op st : Nat → Int32} {t : Nat} {w : Int32} (h : ja_D N lim keep sub ff lv sp np op st t w) (a : lv t = 1) (b : ja_si N sub st 5) : w = 5 := by
  rcases h with h | h | h | h | h | h | h | h
  · exact h.2.2
  · exact absurd b h.2.1
  · exact absurd b (h.1 a).1
  · exact absurd b (h.1 a).1
  · exact absurd b (h.1 a).1
  · exact absurd b (h.1 a).1
  · exact absurd b (h.1 a).1
  · exact absurd b (h.1 a).1
theorem ja_D2 {N : Nat} {lim keep sub ff : Int32} {lv sp np op st : Nat → Int32} {t : Nat} {w : Int32} (h : ja_D N lim keep sub ff lv sp np op st t w) (a : lv t = 1) (b : ¬ ja_si N sub st 5) (c : ¬ ja_si N sub st 1) : w = 0 := by
  rcases h with h | h | h | h | h | h | h | h
  · exact absurd h.2.1 b
  · exact h.2.2.2
  · exact absurd (h.1 a).2 c
  · exact absurd (h.1 a).2 c
  · exact absurd (h.1 a).2 c
  · exact absurd (h.1 a).2 c
  · exact absurd (h.1 a).2 c
  · exact absurd (h.1 a).2 c
/-- where rules 1 and 2 don't apply -/
theorem ja_Dlo {N : Nat} {lim keep sub ff : Int32} {lv sp np op st : Nat → Int32} {t : Nat} {w : Int32} (h : ja_D N lim keep sub ff lv sp np op st t w) (l : ja_lo N sub lv st t) :
    (ja_hb N np op st t → w = 5) ∧ (¬ ja_hb N np op st t → (ja_hu N np op st t → w = 0) ∧ (¬ ja_hu N np op st t → (ja_sp keep ff → w = 0) ∧ (¬ ja_sp keep ff → (¬ ja_sl N sub sp np t → w = 3) ∧ (ja_sl N sub sp np t → (ja_my N lim lv st t → w = 1) ∧ (¬ ja_my N lim lv st t → w = 0))))) := by
  rcases h with h | h | h | h | h | h | h | h
  · exact absurd h.2.1 (l h.1).1
  · exact absurd (l h.1).2 h.2.2.1
  · exact ⟨fun _ => h.2.2, fun z => absurd h.2.1 z⟩
  · exact ⟨fun z => absurd z h.2.1, fun _ => ⟨fun _ => h.2.2.2, fun z => absurd h.2.2.1 z⟩⟩
  · exact ⟨fun z => absurd z h.2.1, fun _ => ⟨fun z => absurd z h.2.2.1, fun _ => ⟨fun _ => h.2.2.2.2, fun z => absurd h.2.2.2.1 z⟩⟩⟩
  · exact ⟨fun z => absurd z h.2.1, fun _ => ⟨fun z => absurd z h.2.2.1, fun _ => ⟨fun z => absurd z h.2.2.2.1, fun _ => ⟨fun _ => h.2.2.2.2.2, fun z => absurd z h.2.2.2.2.1⟩⟩⟩⟩
  · exact ⟨fun z => absurd z h.2.1, fun _ => ⟨fun z => absurd z h.2.2.1, fun _ => ⟨fun z => absurd z h.2.2.2.1, fun _ => ⟨fun z => absurd h.2.2.2.2.1 z, fun _ => ⟨fun _ => h.2.2.2.2.2.2, fun z => absurd h.2.2.2.2.2.1 z⟩⟩⟩⟩⟩
  · exact ⟨fun z => absurd z h.2.1, fun _ => ⟨fun z => absurd z h.2.2.1, fun _ => ⟨fun z => absurd z h.2.2.2.1, fun _ => ⟨fun z => absurd h.2.2.2.2.1 z, fun _ => ⟨fun z => absurd z h.2.2.2.2.2.1, fun _ => h.2.2.2.2.2.2⟩⟩⟩⟩⟩
theorem ja_sa1 {clk : Int32} {sa : Nat → Int32} {t : Nat} : ja_sa 1 clk sa t = upd sa t clk := if_pos rfl
theorem ja_sa0 {w clk : Int32} {sa : Nat → Int32} {t : Nat} (h : ¬ w = 1) : ja_sa w clk sa t = sa := if_neg h
theorem ja_re1 {du re : Nat → Int32} {t : Nat} : ja_re 1 du re t = upd re t (du t) := if_pos rfl
theorem ja_re0 {w : Int32} {du re : Nat → Int32} {t : Nat} (h : ¬ w = 1) : ja_re w du re t = re := if_neg h
theorem ja_lf1 {sub : Int32} {du lf : Nat → Int32} {t : Nat} (h : ¬ nI t = sub) : ja_lf 1 sub du lf t = upd lf t (du t) := if_pos ⟨rfl, h⟩
theorem ja_lfs {w sub : Int32} {du lf : Nat → Int32} {t : Nat} (h : nI t = sub) : ja_lf w sub du lf t = lf := if_neg (fun z => z.2 h)
theorem ja_lf0 {w sub : Int32} {du lf : Nat → Int32} {t : Nat} (h : ¬ w = 1) : ja_lf w sub du lf t = lf := if_neg (fun z => h z.1)
theorem ja_fi0 {w clk : Int32} {fi : Nat → Int32} {t : Nat} (h : w = 0 ∨ w = 1) : ja_fi w clk fi t = fi := if_pos h
theorem ja_fi1 {w clk : Int32} {fi : Nat → Int32} {t : Nat} (h : ¬ (w = 0 ∨ w = 1)) : ja_fi w clk fi t = upd fi t clk := if_neg h
end
section
-- states
abbrev ja_T (N : Nat) (lim keep sub clk sta ff rt rs : Int32) (lv sp du fa np op st sa fi re : Nat → Int32) : SX := (nI N, lim, keep, sub, clk, sta, ff, rt, rs, lv, sp, du, fa, np, op, st, sa, fi, re)
abbrev ja_X (N : Nat) (lim keep sub clk sta ff : Int32) (lv sp du fa np op st sa fi re : Nat → Int32) : SX := ja_T N lim keep sub clk sta ff (nI (jc_n (ja_r st lv false) N)) (nI (jc_n (ja_r st lv true) N)) lv sp du fa np op st sa fi re
abbrev ja_Y (N : Nat) (lim keep sub clk sta ff : Int32) (lv sp du fa st sa fi lf kd rc : Nat → Int32) : SY := (nI N, lim, keep, sta, ff, clk, sub, lv, sp, du, fa, st, sa, fi, lf, kd, rc)
-- the class's readers
variable {N : Nat} {lim keep sub clk sta ff rt rs : Int32} {lv sp du fa np op st sa fi re : Nat → Int32} {post : Int32 → Prop}
theorem jx_hasBit {m : Int32} {l : Nat} (hl : l < 32) (h1 : bt m l = true → post 1) (h0 : ¬ bt m l = true → post 0) : wpX_hasBit post m (nI l) := by
  refine br_c (fun h => ?_) (fun h => ?_)
  · exact h0 (by rw [(jb_has m l hl).mp h]; decide)
  · refine h1 ?_
    cases e : bt m l with
    | true => rfl
    | false => exact absurd ((jb_has m l hl).mpr e) h
theorem jx_isTarget_t {j : Nat} (hN : N ≤ 32) (hj : j < N) (hp : post 1) : wpX_isTarget post (ja_T N lim keep sub clk sta ff rt rs lv sp du fa np op st sa fi re) (nI j) :=
  br_f (nI_pos (by omega)) (br_f (nI_ge hj (by omega)) (hp))
theorem jx_isTarget_f {v : Int32} (h : v < 0 ∨ nI N ≤ v) (hp : post 0) : wpX_isTarget post (ja_T N lim keep sub clk sta ff rt rs lv sp du fa np op st sa fi re) v := by
  by_cases h0 : v < 0
  · exact br_t h0 (hp)
  · exact br_f h0 (br_t (h.resolve_left h0) (hp))
theorem jx_open_t {j : Nat} (hN : N ≤ 32) (hs : sta = 0) (hj : j < N) (hp : post 1) : wpX_isOpenForSetup post (ja_T N lim keep sub clk sta ff rt rs lv sp du fa np op st sa fi re) (nI j) :=
  br_t hs (jx_isTarget_t hN hj (br_f ja_i1 (hp)))
theorem jx_open_f {v : Int32} (h : ¬ sta = 0 ∨ v < 0 ∨ nI N ≤ v) (hp : post 0) : wpX_isOpenForSetup post (ja_T N lim keep sub clk sta ff rt rs lv sp du fa np op st sa fi re) v := by
  by_cases hs : sta = 0
  · exact br_t hs (jx_isTarget_f (h.resolve_left (fun z => z hs)) (br_t rfl (hp)))
  · exact br_f hs (hp)
theorem jx_isSub {t : Nat} (ht : t < 32) (h1 : lv t = 1 → post 1) (h0 : ¬ lv t = 1 → post 0) : wpX_isSub post (ja_T N lim keep sub clk sta ff rt rs lv sp du fa np op st sa fi re) (nI t) := by
  refine ⟨vp_in_nI ht (by omega), ?_⟩
  rw [nI_clamp (by omega)]
  exact br_c (fun h => (h1 h)) (fun h => (h0 h))
theorem jx_isDone {t : Nat} (ht : t < 32) (h1 : ¬ ja_und st t → post 1) (h0 : ja_und st t → post 0) : wpX_isDone post (ja_T N lim keep sub clk sta ff rt rs lv sp du fa np op st sa fi re) (nI t) := by
  refine ⟨vp_in_nI ht (by omega), ?_⟩
  rw [nI_clamp (by omega)]
  exact br_c (fun h => (h0 (.inl h))) (fun h => ⟨vp_in_nI ht (by omega), br_c (fun h' => (h0 (.inr h'))) (fun h' => (h1 (fun z => z.elim h h')))⟩)
theorem jx_isBad {t : Nat} (ht : t < 32) (h1 : ja_bad st t → post 1) (h0 : ¬ ja_bad st t → post 0) : wpX_isBad post (ja_T N lim keep sub clk sta ff rt rs lv sp du fa np op st sa fi re) (nI t) := by
  refine ⟨vp_in_nI ht (by omega), ?_⟩
  rw [nI_clamp (by omega)]
  exact br_c (fun h => (h1 (.inl h))) (fun h => ⟨vp_in_nI ht (by omega), br_c (fun h' => (h1 (.inr h'))) (fun h' => (h0 (fun z => z.elim h h')))⟩)
theorem jx_isSubmakeIn {w : Int32} (hN : N ≤ 32) (hS : ja_S N sub) (h1 : ja_si N sub st w → post 1) (h0 : ¬ ja_si N sub st w → post 0) : wpX_isSubmakeIn post (ja_T N lim keep sub clk sta ff rt rs lv sp du fa np op st sa fi re) w := by
  rcases ja_sub_in hS hN with ⟨e, _, hn⟩ | ⟨s, hs, e, hm, hi⟩
  · exact br_t e (h0 (hn st w))
  · refine br_f hm ?_
    subst e
    refine ⟨vp_in_nI (by omega) (by omega), ?_⟩
    rw [nI_clamp (by omega)]
    exact br_c (fun h => (h1 ((hi st w).mpr h))) (fun h => (h0 (fun z => h ((hi st w).mp z))))
theorem jx_prereqsOf {t : Nat} (ht : t < 32) (hp : post (np t ||| op t)) : wpX_prereqsOf post (ja_T N lim keep sub clk sta ff rt rs lv sp du fa np op st sa fi re) (nI t) := by
  refine ⟨vp_in_nI ht (by omega), vp_in_nI ht (by omega), ?_⟩
  rw [nI_clamp (by omega)]
  exact hp
theorem jx_isPrereq {t p : Nat} (ht : t < 32) (hp : p < 32) (h1 : ja_E np op t p → post 1) (h0 : ¬ ja_E np op t p → post 0) : wpX_isPrereq post (ja_T N lim keep sub clk sta ff rt rs lv sp du fa np op st sa fi re) (nI t) (nI p) := by
  unfold wpX_isPrereq
  dsimp only
  refine jx_prereqsOf ht ?_
  exact jx_hasBit hp (fun h => ⟨rfl, h1 h⟩) (fun h => ⟨rfl, h0 h⟩)
theorem jx_isPrereqOfAny {p : Nat} (hN : N ≤ 32) (hp : p < 32) (h1 : (∃ t, t < N ∧ ja_E np op t p) → post 1) (h0 : (¬ ∃ t, t < N ∧ ja_E np op t p) → post 0) : wpX_isPrereqOfAny post (ja_T N lim keep sub clk sta ff rt rs lv sp du fa np op st sa fi re) (nI p) := by
  refine js_ex (fun n i => wX_isPrereqOfAny_2 post (nI p) (nI N) lim keep sub clk sta ff rt rs lv sp du fa np op st sa fi re n (nI i)) (fun t => ja_E np op t p) N (post 1) (post 0) ?_ ?_ ?_ h1 h0
  · intro hp n
    exact br_t (nI_le (Nat.le_refl _) (by omega)) hp
  · intro hq n i hi hc
    exact br_f (nI_ge hi (by omega)) (jx_isPrereq (by omega) hp (fun _ => br_f ja_i1 hq) (fun z => absurd hc z))
  · intro n i hi hc hw
    exact br_f (nI_ge hi (by omega)) (jx_isPrereq (by omega) hp (fun z => absurd z hc) (fun _ => br_t rfl (nm_r (nI_1 i) hw)))
theorem jx_isSubBuildOver (hN : N ≤ 32) (hS : ja_S N sub) (h1 : ja_si N sub st 1 ∧ (¬ ∃ t, t < N ∧ lv t = 1 ∧ ja_und st t) → post 1) (h0 : ¬ (ja_si N sub st 1 ∧ ¬ ∃ t, t < N ∧ lv t = 1 ∧ ja_und st t) → post 0) : wpX_isSubBuildOver post (ja_T N lim keep sub clk sta ff rt rs lv sp du fa np op st sa fi re) := by
  unfold wpX_isSubBuildOver
  dsimp only
  refine jx_isSubmakeIn hN hS (fun hs => br_f ja_i1 ?_) (fun hs => br_t rfl (h0 (fun z => hs z.1)))
  refine js_ex (fun n i => wX_isSubBuildOver_12 post (nI N) lim keep sub clk sta ff rt rs lv sp du fa np op st sa fi re n (nI i)) (fun t => lv t = 1 ∧ ja_und st t) N (post 0) (post 1) ?_ ?_ ?_ (fun h => h0 (fun z => z.2 h)) (fun h => h1 ⟨hs, h⟩)
  · intro hp n
    exact br_t (nI_le (Nat.le_refl _) (by omega)) hp
  · intro hq n i hi hc
    exact br_f (nI_ge hi (by omega)) (jx_isSub (by omega) (fun _ => br_f ja_i1 (jx_isDone (by omega) (fun z => absurd hc.2 z) (fun _ => br_t rfl hq))) (fun z => absurd hc.1 z))
  · intro n i hi hc hw
    exact br_f (nI_ge hi (by omega)) (jx_isSub (by omega) (fun hl => br_f ja_i1 (jx_isDone (by omega) (fun _ => br_f ja_i1 (nm_r (nI_1 i) hw)) (fun z => absurd ⟨hl, z⟩ hc))) (fun _ => br_t rfl (nm_r (nI_1 i) hw)))
theorem jx_hasBadSub (hN : N ≤ 32) (h1 : (∃ t, t < N ∧ lv t = 1 ∧ ja_bad st t) → post 1) (h0 : (¬ ∃ t, t < N ∧ lv t = 1 ∧ ja_bad st t) → post 0) : wpX_hasBadSub post (ja_T N lim keep sub clk sta ff rt rs lv sp du fa np op st sa fi re) := by
  refine js_ex (fun n i => wX_hasBadSub_2 post (nI N) lim keep sub clk sta ff rt rs lv sp du fa np op st sa fi re n (nI i)) (fun t => lv t = 1 ∧ ja_bad st t) N (post 1) (post 0) ?_ ?_ ?_ h1 h0
  · intro hp n
    exact br_t (nI_le (Nat.le_refl _) (by omega)) hp
  · intro hq n i hi hc
    exact br_f (nI_ge hi (by omega)) (jx_isSub (by omega) (fun _ => br_f ja_i1 (jx_isBad (by omega) (fun _ => br_f ja_i1 hq) (fun z => absurd hc.2 z))) (fun z => absurd hc.1 z))
  · intro n i hi hc hw
    exact br_f (nI_ge hi (by omega)) (jx_isSub (by omega) (fun hl => br_f ja_i1 (jx_isBad (by omega) (fun z => absurd ⟨hl, z⟩ hc) (fun _ => br_t rfl (nm_r (nI_1 i) hw)))) (fun _ => br_t rfl (nm_r (nI_1 i) hw)))
theorem jx_isStopping (h1 : ja_sp keep ff → post 1) (h0 : ¬ ja_sp keep ff → post 0) : wpX_isStopping post (ja_T N lim keep sub clk sta ff rt rs lv sp du fa np op st sa fi re) :=
  br_c (fun hk => br_c (fun hf => (h0 (fun z => z.2 hf))) (fun hf => (h1 ⟨hk, hf⟩))) (fun hk => (h0 (fun z => hk z.1)))
theorem jx_hasBadPrereq {t : Nat} (hN : N ≤ 32) (ht : t < 32) (h1 : ja_hb N np op st t → post 1) (h0 : ¬ ja_hb N np op st t → post 0) : wpX_hasBadPrereq post (ja_T N lim keep sub clk sta ff rt rs lv sp du fa np op st sa fi re) (nI t) := by
  unfold wpX_hasBadPrereq
  dsimp only
  refine jx_prereqsOf ht ?_
  refine js_ex (fun n i => wX_hasBadPrereq_8 post (np t ||| op t) (nI N) lim keep sub clk sta ff rt rs lv sp du fa np op st sa fi re n (nI i)) (fun p => ja_E np op t p ∧ ja_bad st p) N (post 1) (post 0) ?_ ?_ ?_ h1 h0
  · intro hp n
    exact br_t (nI_le (Nat.le_refl _) (by omega)) hp
  · intro hq n i hi hc
    exact br_f (nI_ge hi (by omega)) (jx_hasBit (by omega) (fun _ => br_f ja_i1 (jx_isBad (by omega) (fun _ => br_f ja_i1 hq) (fun z => absurd hc.2 z))) (fun z => absurd hc.1 z))
  · intro n i hi hc hw
    exact br_f (nI_ge hi (by omega)) (jx_hasBit (by omega) (fun hl => br_f ja_i1 (jx_isBad (by omega) (fun z => absurd ⟨hl, z⟩ hc) (fun _ => br_t rfl (nm_r (nI_1 i) hw)))) (fun _ => br_t rfl (nm_r (nI_1 i) hw)))
theorem jx_hasUndonePrereq {t : Nat} (hN : N ≤ 32) (ht : t < 32) (h1 : ja_hu N np op st t → post 1) (h0 : ¬ ja_hu N np op st t → post 0) : wpX_hasUndonePrereq post (ja_T N lim keep sub clk sta ff rt rs lv sp du fa np op st sa fi re) (nI t) := by
  unfold wpX_hasUndonePrereq
  dsimp only
  refine jx_prereqsOf ht ?_
  refine js_ex (fun n i => wX_hasUndonePrereq_8 post (np t ||| op t) (nI N) lim keep sub clk sta ff rt rs lv sp du fa np op st sa fi re n (nI i)) (fun p => ja_E np op t p ∧ ja_und st p) N (post 1) (post 0) ?_ ?_ ?_ h1 h0
  · intro hp n
    exact br_t (nI_le (Nat.le_refl _) (by omega)) hp
  · intro hq n i hi hc
    exact br_f (nI_ge hi (by omega)) (jx_hasBit (by omega) (fun _ => br_f ja_i1 (jx_isDone (by omega) (fun z => absurd hc.2 z) (fun _ => br_t rfl hq))) (fun z => absurd hc.1 z))
  · intro n i hi hc hw
    exact br_f (nI_ge hi (by omega)) (jx_hasBit (by omega) (fun hl => br_f ja_i1 (jx_isDone (by omega) (fun _ => br_f ja_i1 (nm_r (nI_1 i) hw)) (fun z => absurd ⟨hl, z⟩ hc))) (fun _ => br_t rfl (nm_r (nI_1 i) hw)))
theorem jx_isStale {t : Nat} (hN : N ≤ 32) (ht : t < 32) (h1 : ja_sl N sub sp np t → post 1) (h0 : ¬ ja_sl N sub sp np t → post 0) : wpX_isStale post (ja_T N lim keep sub clk sta ff rt rs lv sp du fa np op st sa fi re) (nI t) := by
  have ct : (nI t).toNatClampNeg = t := nI_clamp (by omega)
  refine br_c (fun e => h1 (.inl e)) (fun e => ⟨vp_in_nI ht (by omega), ?_⟩)
  rw [ct]
  refine br_c (fun z => h1 (.inr (.inl z))) (fun z => ?_)
  refine js_ex (fun n i => wX_isStale_21 post (nI t) (nI N) lim keep sub clk sta ff rt rs lv sp du fa np op st sa fi re n (nI i)) (fun p => bt (np t) p = true ∧ sp t < sp p) N (post 1) (post 0) ?_ ?_ ?_ (fun h => h1 (.inr (.inr h))) (fun h => h0 (fun y => y.elim e (fun y => y.elim z h)))
  · intro hp n
    exact br_t (nI_le (Nat.le_refl _) (by omega)) hp
  · intro hq n i hi hc
    refine br_f (nI_ge hi (by omega)) ⟨vp_in_nI ht (by omega), ?_⟩
    rw [ct]
    have ci : (nI i).toNatClampNeg = i := nI_clamp (by omega)
    refine jx_hasBit (by omega) (fun _ => br_f ja_i1 ⟨vp_in_nI (by omega) (by omega), vp_in_nI ht (by omega), ?_⟩) (fun z => absurd hc.1 z)
    rw [ci]
    exact br_f (Int32.not_le.mpr hc.2) hq
  · intro n i hi hc hw
    refine br_f (nI_ge hi (by omega)) ⟨vp_in_nI ht (by omega), ?_⟩
    rw [ct]
    have ci : (nI i).toNatClampNeg = i := nI_clamp (by omega)
    refine jx_hasBit (by omega) (fun hl => br_f ja_i1 ⟨vp_in_nI (by omega) (by omega), vp_in_nI ht (by omega), ?_⟩) (fun _ => br_t rfl (nm_r (nI_1 i) hw))
    rw [ci]
    exact br_t (Int32.not_lt.mp (fun y => hc ⟨hl, y⟩)) (nm_r (nI_1 i) hw)
theorem jx_tokensFree {a b : Nat} (ha : a ≤ 32) (hb : b ≤ 32) (h : post (ja_fr lim a b)) : wpX_tokensFree post (ja_T N lim keep sub clk sta ff (nI a) (nI b) lv sp du fa np op st sa fi re) := by
  have e : ∀ c, 1 < c → nI c - 1 = nI (c - 1) := fun c hc => by
    obtain ⟨d, rfl⟩ : ∃ d, c = d + 1 := ⟨c - 1, by omega⟩
    exact nI_pred d
  have e0 : ∀ c, c ≤ 1 → nI (c - 1) = 0 := fun c hc => by
    rw [show c - 1 = 0 by omega]
    rfl
  unfold ja_fr at h
  refine pk_le a 1 (fun h1 => ?_) (fun h1 => ?_)
  · refine pk_le b 1 (fun h2 => ?_) (fun h2 => ?_)
    · rw [e0 a h1, e0 b h2] at h
      exact h
    · rw [e0 a h1, ← e b h2] at h
      exact h
  · refine pk_le b 1 (fun h2 => ?_) (fun h2 => ?_)
    · rw [← e a h1, e0 b h2] at h
      exact h
    · rw [← e a h1, ← e b h2] at h
      exact h
theorem jx_mayStart {t : Nat} (hN : N ≤ 32) (ht : t < 32) (h1 : ja_my N lim lv st t → post 1) (h0 : ¬ ja_my N lim lv st t → post 0) : wpX_mayStart post (ja_X N lim keep sub clk sta ff lv sp du fa np op st sa fi re) (nI t) := by
  have ha := Nat.le_trans (jc_le (ja_r st lv false) N) hN
  have hb := Nat.le_trans (jc_le (ja_r st lv true) N) hN
  unfold wpX_mayStart
  dsimp only
  refine jx_isSub ht (fun hl => br_f ja_i1 ?_) (fun hl => br_t rfl ?_)
  · have hd : decide (lv t = 1) = true := decide_eq_true hl
    refine pk_eq (jc_n (ja_r st lv true) N) 0 (fun hz => (h1 (.inl (by rw [hd]; exact hz)))) (fun hz => ?_)
    refine jx_tokensFree ha hb ?_
    refine br_c (fun z => (h0 ?_)) (fun z => (h1 (.inr (Int32.not_le.mp z))))
    intro y
    rcases y with y | y
    · rw [hd] at y
      exact hz y
    · exact Int32.not_lt.mpr z y
  · have hd : decide (lv t = 1) = false := decide_eq_false hl
    refine pk_eq (jc_n (ja_r st lv false) N) 0 (fun hz => (h1 (.inl (by rw [hd]; exact hz)))) (fun hz => ?_)
    refine jx_tokensFree ha hb ?_
    refine br_c (fun z => (h0 ?_)) (fun z => (h1 (.inr (Int32.not_le.mp z))))
    intro y
    rcases y with y | y
    · rw [hd] at y
      exact hz y
    · exact Int32.not_lt.mpr z y
theorem jx_isQuiet (hN : N ≤ 32) (h1 : ¬ sta = 0 ∧ (¬ ∃ t, t < N ∧ ja_und st t) → post 1) (h0 : ¬ (¬ sta = 0 ∧ ¬ ∃ t, t < N ∧ ja_und st t) → post 0) : wpX_isQuiet post (ja_T N lim keep sub clk sta ff rt rs lv sp du fa np op st sa fi re) := by
  refine br_c (fun hs => h0 (fun z => z.1 hs)) (fun hs => ?_)
  refine js_ex (fun n i => wX_isQuiet_11 post (nI N) lim keep sub clk sta ff rt rs lv sp du fa np op st sa fi re n (nI i)) (fun t => ja_und st t) N (post 0) (post 1) ?_ ?_ ?_ (fun h => h0 (fun z => z.2 h)) (fun h => h1 ⟨hs, h⟩)
  · intro hp n
    exact br_t (nI_le (Nat.le_refl _) (by omega)) hp
  · intro hq n i hi hc
    exact br_f (nI_ge hi (by omega)) (jx_isDone (by omega) (fun z => absurd hc z) (fun _ => br_t rfl hq))
  · intro n i hi hc hw
    exact br_f (nI_ge hi (by omega)) (jx_isDone (by omega) (fun _ => br_f ja_i1 (nm_r (nI_1 i) hw)) (fun z => absurd z hc))
end
section
-- the class's stores
variable {N : Nat} {lim keep sub clk sta ff rt rs : Int32} {lv sp du fa np op st sa fi re : Nat → Int32} {post : SX → Prop}
theorem jx_finishT {t : Nat} {s : Int32} (ht : t < 32) (h : post (ja_T N lim keep sub clk sta ff rt rs lv sp du fa np op (upd st t s) sa (upd fi t clk) re)) : wpX_finish post (ja_T N lim keep sub clk sta ff rt rs lv sp du fa np op st sa fi re) (nI t) s := by
  refine ⟨vp_in_nI ht (by omega), nm_r (by rw [nI_clamp (by omega)]) ⟨vp_in_nI ht (by omega), nm_r (by rw [nI_clamp (by omega)]) ?_⟩⟩
  exact h
theorem jx_finish {t : Nat} {s : Int32} (ht : t < 32) (h0 : ¬ st t = 1) (hs : ¬ s = 1) (h : post (ja_X N lim keep sub clk sta ff lv sp du fa np op (upd st t s) sa (upd fi t clk) re)) : wpX_finish post (ja_X N lim keep sub clk sta ff lv sp du fa np op st sa fi re) (nI t) s := by
  have e : ∀ b, jc_n (ja_r (upd st t s) lv b) N = jc_n (ja_r st lv b) N := fun b => ja_cs h0 hs
  have h' : post (ja_T N lim keep sub clk sta ff (nI (jc_n (ja_r (upd st t s) lv false) N)) (nI (jc_n (ja_r (upd st t s) lv true) N)) lv sp du fa np op (upd st t s) sa (upd fi t clk) re) := h
  rw [e, e] at h'
  exact jx_finishT ht h'
theorem jx_beginRun {t : Nat} (hN : N ≤ 32) (ht : t < N) (h0 : ¬ st t = 1) (h : post (ja_X N lim keep sub clk sta ff lv sp du fa np op (upd st t 1) (upd sa t clk) fi (upd re t (du t)))) : wpX_beginRun post (ja_X N lim keep sub clk sta ff lv sp du fa np op st sa fi re) (nI t) := by
  have i : vp_in (nI t) 32 := vp_in_nI (by omega) (by omega)
  have c : (nI t).toNatClampNeg = t := nI_clamp (by omega)
  have a := ja_cb (lv := lv) ht h0
  have b := ja_cbo (st := st) (lv := lv) (t := t) (N := N)
  have h' : post (ja_T N lim keep sub clk sta ff (nI (jc_n (ja_r (upd st t 1) lv false) N)) (nI (jc_n (ja_r (upd st t 1) lv true) N)) lv sp du fa np op (upd st t 1) (upd sa t clk) fi (upd re t (du t))) := h
  refine ⟨i, nm_r (by rw [c]) ⟨i, nm_r (by rw [c]) ⟨i, i, nm_r (by rw [c]) ?_⟩⟩⟩
  refine jx_isSub (by omega) (fun hl => br_f ja_i1 ?_) (fun hl => br_t rfl ?_)
  · rw [decide_eq_true hl] at a b
    rw [a, show (false = !true) from rfl, b] at h'
    exact nm_r (nI_1 _) h'
  · rw [decide_eq_false hl] at a b
    rw [a, show (true = !false) from rfl, b] at h'
    exact nm_r (nI_1 _) h'
theorem jx_endRun {t : Nat} {b : Int32} (hN : N ≤ 32) (ht : t < N) (hr : st t = 1) (h1 : ¬ b = 0 → post (ja_X N lim keep sub clk sta 1 lv sp du fa np op (upd st t 4) sa (upd fi t clk) re)) (h0 : b = 0 → post (ja_X N lim keep sub clk sta ff lv (upd sp t (1000000 + clk)) du fa np op (upd st t 2) sa (upd fi t clk) re)) : wpX_endRun post (ja_X N lim keep sub clk sta ff lv sp du fa np op st sa fi re) (nI t) b := by
  have i : vp_in (nI t) 32 := vp_in_nI (by omega) (by omega)
  have c : (nI t).toNatClampNeg = t := nI_clamp (by omega)
  -- the tail, for counters that are those of the new statuses
  have tail : ∀ r0 r1 : Int32, (∀ s : Int32, ¬ s = 1 → r0 = nI (jc_n (ja_r (upd st t s) lv false) N) ∧ r1 = nI (jc_n (ja_r (upd st t s) lv true) N)) →
      (¬ b = 0 → post (ja_T N lim keep sub clk sta 1 r0 r1 lv sp du fa np op (upd st t 4) sa (upd fi t clk) re)) ∧ (b = 0 → post (ja_T N lim keep sub clk sta ff r0 r1 lv (upd sp t (1000000 + clk)) du fa np op (upd st t 2) sa (upd fi t clk) re)) := by
    intro r0 r1 hr
    refine ⟨fun z => ?_, fun z => ?_⟩
    · rw [(hr 4 (by decide)).1, (hr 4 (by decide)).2]
      exact h1 z
    · rw [(hr 2 (by decide)).1, (hr 2 (by decide)).2]
      exact h0 z
  unfold wpX_endRun
  dsimp only
  refine jx_isSub (by omega) (fun hl => br_f ja_i1 ?_) (fun hl => br_t rfl ?_)
  · have q := tail (nI (jc_n (ja_r st lv false) N)) (nI (jc_n (ja_r st lv true) N) - 1) (fun s hs => by
      have a := ja_ce (lv := lv) ht hr hs
      have b := ja_ceo (st := st) (lv := lv) (t := t) (N := N) (s := s)
      rw [decide_eq_true hl] at a b
      exact ⟨congrArg nI b, by rw [a]; exact nI_pred _⟩)
    refine nm_e ?_
    refine br_c (fun z => ?_) (fun z => ?_)
    · exact ⟨i, nm_r (by rw [c]) (jx_finishT (by omega) (q.2 z))⟩
    · exact jx_finishT (by omega) (q.1 z)
  · have q := tail (nI (jc_n (ja_r st lv false) N) - 1) (nI (jc_n (ja_r st lv true) N)) (fun s hs => by
      have a := ja_ce (lv := lv) ht hr hs
      have b := ja_ceo (st := st) (lv := lv) (t := t) (N := N) (s := s)
      rw [decide_eq_false hl] at a b
      exact ⟨by rw [a]; exact nI_pred _, congrArg nI b⟩)
    refine nm_e ?_
    refine br_c (fun z => ?_) (fun z => ?_)
    · exact ⟨i, nm_r (by rw [c]) (jx_finishT (by omega) (q.2 z))⟩
    · exact jx_finishT (by omega) (q.1 z)
end
section
-- the class's isReachable: the mask becomes the least closed set
variable {N : Nat} {lim keep sub clk sta ff rt rs : Int32} {lv sp du fa np op st sa fi re : Nat → Int32}
def jx_Ri (N : Nat) (np op : Nat → Int32) (M0 : Int32) (i : Nat) (m : Int32) : Prop := jr_d (ja_E np op) N (bt M0) (bt m) ∧ ∀ t p, t < i → p < N → bt M0 t = true → ja_E np op t p → bt m p = true
theorem jx_Ri_y {M0 m : Int32} {i : Nat} (hN : N ≤ 32) (hE : ∀ t p, t < 32 → ja_E np op t p → p < N) (hi : i < N) (h : jx_Ri N np op M0 i m) (hb : bt m i = true) : jx_Ri N np op M0 (i + 1) (m ||| (np i ||| op i)) := by
  have hu : ∀ q, bt m q = true → bt (m ||| (np i ||| op i)) q = true := fun q z => by rw [b_or, z, Bool.true_or]
  refine ⟨jr_ad h.1 hi hb hu (fun q z => ?_), fun t p ht hp z e => ?_⟩
  · rw [b_or] at z
    cases y : bt m q with
    | true => exact .inl rfl
    | false =>
      rw [y, Bool.false_or] at z
      exact .inr ⟨hE i q (by omega) z, z⟩
  · by_cases e' : t = i
    · subst e'
      have e2 : bt (np t ||| op t) p = true := e
      rw [b_or, e2, Bool.or_true]
    · exact hu p (h.2 t p (by omega) hp z e)
theorem jx_Ri_n {M0 m : Int32} {i : Nat} (h : jx_Ri N np op M0 i m) (hb : ¬ bt m i = true) : jx_Ri N np op M0 (i + 1) m :=
  ⟨h.1, fun t p ht hp z e => by
    by_cases e' : t = i
    · subst e'
      exact absurd (h.1.1 t z) hb
    · exact h.2 t p (by omega) hp z e⟩
theorem jx_reach_i (x2 x4 : Int32) (hN : N ≤ 32) (hE : ∀ t p, t < 32 → ja_E np op t p → p < N) (M0 : Int32) : ∀ d i, i + d = N → ∀ m, jx_Ri N np op M0 i m → ∃ m', jx_Ri N np op M0 N m' ∧ ∀ (post : Int32 → Prop) J f, wX_isReachable_19 post J x2 x4 (nI N) lim keep sub clk sta ff rt rs lv sp du fa np op st sa fi re f m' (nI N) → wX_isReachable_19 post J x2 x4 (nI N) lim keep sub clk sta ff rt rs lv sp du fa np op st sa fi re (f + d) m (nI i) := by
  intro d
  induction d with
  | zero =>
    intro i hi m h
    have e : i = N := by omega
    subst e
    exact ⟨m, h, fun _ J f z => z⟩
  | succ d ih =>
    intro i hi m h
    by_cases hb : bt m i = true
    · obtain ⟨m', h1, h2⟩ := ih (i + 1) (by omega) _ (jx_Ri_y hN hE (by omega) h hb)
      refine ⟨m', h1, fun post J f z => br_f (nI_ge (by omega) (by omega)) (jx_hasBit (by omega) (fun _ => br_f ja_i1 (jx_prereqsOf (by omega) (nm_e (nm_r (nI_1 i) (h2 post J f z))))) (fun y => absurd hb y))⟩
    · obtain ⟨m', h1, h2⟩ := ih (i + 1) (by omega) _ (jx_Ri_n h hb)
      refine ⟨m', h1, fun post J f z => br_f (nI_ge (by omega) (by omega)) (jx_hasBit (by omega) (fun y => absurd y hb) (fun _ => br_t rfl (nm_r (nI_1 i) (h2 post J f z))))⟩
theorem jx_reach_o (x2 : Int32) (hN : N ≤ 32) (hE : ∀ t p, t < 32 → ja_E np op t p → p < N) (A : Nat → Bool) : ∀ e r, r + e = N → ∀ m, jr_P (ja_E np op) N A r (bt m) → ∃ m', jr_P (ja_E np op) N A N (bt m') ∧ ∀ (post : Int32 → Prop) f, wX_isReachable_7 post x2 (nI N) lim keep sub clk sta ff rt rs lv sp du fa np op st sa fi re f m' (nI N) → wX_isReachable_7 post x2 (nI N) lim keep sub clk sta ff rt rs lv sp du fa np op st sa fi re (f + e) m (nI r) := by
  intro e
  induction e with
  | zero =>
    intro r hr m h
    have e : r = N := by omega
    subst e
    exact ⟨m, h, fun _ f z => z⟩
  | succ e ih =>
    intro r hr m h
    obtain ⟨m1, h1, h2⟩ := jx_reach_i (lim := lim) (keep := keep) (sub := sub) (clk := clk) (sta := sta) (ff := ff) (rt := rt) (rs := rs) (lv := lv) (sp := sp) (du := du) (fa := fa) (st := st) (sa := sa) (fi := fi) (re := re) x2 (nI r) hN hE m N 0 (by omega) m ⟨jr_rf, fun t p ht => by omega⟩
    obtain ⟨m2, h3, h4⟩ := ih (r + 1) (by omega) m1 (jr_step h h1.1 h1.2)
    refine ⟨m2, h3, fun post f z => br_f (nI_ge (by omega) (by omega)) ⟨1 + N, h2 post _ 1 (br_t (nI_le (Nat.le_refl _) (by omega)) (nm_r (nI_1 r) (h4 post f z)))⟩⟩
theorem jx_isReachable {a b : Nat} (hN : N ≤ 32) (hE : ∀ t p, t < 32 → ja_E np op t p → p < N) (ha : a < N) (hb : b < N) : ∃ S : Nat → Bool, jr_d (ja_E np op) N (fun q => decide (q = a)) S ∧ jr_cl (ja_E np op) N (fun q => S q = true) ∧ ∀ post : Int32 → Prop, (S b = true → post 1) → (¬ S b = true → post 0) → wpX_isReachable post (ja_T N lim keep sub clk sta ff rt rs lv sp du fa np op st sa fi re) (nI a) (nI b) := by
  have e : ∀ q, bt ((1 : Int32) <<< (nI a &&& 31)) q = decide (q = a) := fun q => by
    rcases Nat.lt_or_ge q 32 with h | h
    · exact jb_sh a (by omega) q h
    · rw [b_big h, decide_eq_false (by omega)]
  obtain ⟨m, h1, h2⟩ := jx_reach_o (lim := lim) (keep := keep) (sub := sub) (clk := clk) (sta := sta) (ff := ff) (rt := rt) (rs := rs) (lv := lv) (sp := sp) (du := du) (fa := fa) (st := st) (sa := sa) (fi := fi) (re := re) (nI b) hN hE (fun q => decide (q = a)) N 0 (by omega) ((1 : Int32) <<< (nI a &&& 31)) (by
    have z := jr_0 (E := ja_E np op) ha (show bt ((1 : Int32) <<< (nI a &&& 31)) a = true by rw [e]; exact decide_eq_true rfl)
    rw [show (fun q => decide (q = a)) = bt ((1 : Int32) <<< (nI a &&& 31)) from funext (fun q => (e q).symm)]
    exact z)
  refine ⟨bt m, h1.1, jr_end h1 (Nat.le_refl _), fun post p1 p0 => ?_⟩
  refine nm_e ⟨1 + N, h2 post 1 (br_t (nI_le (Nat.le_refl _) (by omega)) ?_)⟩
  exact jx_hasBit (by omega) (fun z => ⟨rfl, p1 z⟩) (fun z => ⟨rfl, p0 z⟩)
end
section
-- the reference's readers
variable {N : Nat} {lim keep sub clk sta ff : Int32} {lv sp du fa np op st sa fi lf kd rc : Nat → Int32} {post : Int32 → Prop}
theorem jy_ix (t p : Nat) : nI t * 32 + nI p = nI (t * 32 + p) := by
  rw [show (32 : Int32) = nI 32 from rfl, pk_mul, nI_add]
theorem jy_in_t {j : Nat} (hN : N ≤ 32) (hj : j < N) (hp : post 1) : wpY_in post (ja_Y N lim keep sub clk sta ff lv sp du fa st sa fi lf kd rc) (nI j) :=
  br_f (nI_pos (by omega)) (br_f (nI_ge hj (by omega)) (hp))
theorem jy_in_f {v : Int32} (h : v < 0 ∨ nI N ≤ v) (hp : post 0) : wpY_in post (ja_Y N lim keep sub clk sta ff lv sp du fa st sa fi lf kd rc) v := by
  by_cases h0 : v < 0
  · exact br_t h0 (hp)
  · exact br_f h0 (br_t (h.resolve_left h0) (hp))
theorem jy_isSub {t : Nat} (ht : t < 32) (h1 : lv t = 1 → post 1) (h0 : ¬ lv t = 1 → post 0) : wpY_isSub post (ja_Y N lim keep sub clk sta ff lv sp du fa st sa fi lf kd rc) (nI t) := by
  refine ⟨vp_in_nI ht (by omega), ?_⟩
  rw [nI_clamp (by omega)]
  exact br_c (fun h => (h1 h)) (fun h => (h0 h))
theorem jy_running (b : Bool) (hN : N ≤ 32) (y : Int32) (hy : y = if b = true then 1 else 0) (hp : post (nI (jc_n (ja_r st lv b) N))) : wpY_running post (ja_Y N lim keep sub clk sta ff lv sp du fa st sa fi lf kd rc) y := by
  refine js_ct (fun n i c => wY_running_4 post y (nI N) lim keep sta ff clk sub lv sp du fa st sa fi lf kd rc n (nI c) (nI i)) (ja_r st lv b) N ?_ ?_ ?_
  · intro n
    exact br_t (nI_le (Nat.le_refl _) (by omega)) hp
  · intro n i c hi hc hq hw
    refine br_f (nI_ge hi (by omega)) ⟨vp_in_nI (by omega) (by omega), ?_⟩
    rw [nI_clamp (by omega)]
    unfold ja_r at hq
    rw [Bool.and_eq_true, decide_eq_true_eq] at hq
    refine br_t hq.1 (jy_isSub (by omega) (fun hl => ?_) (fun hl => ?_))
    · rw [decide_eq_true hl] at hq
      refine br_t ?_ (nm_r (nI_1 c) (nm_r (nI_1 i) hw))
      rw [hy]
      cases b with
      | true => rfl
      | false => exact absurd hq.2 (by decide)
    · rw [decide_eq_false hl] at hq
      refine br_t ?_ (nm_r (nI_1 c) (nm_r (nI_1 i) hw))
      rw [hy]
      cases b with
      | false => rfl
      | true => exact absurd hq.2 (by decide)
  · intro n i c hi hc hq hw
    refine br_f (nI_ge hi (by omega)) ⟨vp_in_nI (by omega) (by omega), ?_⟩
    rw [nI_clamp (by omega)]
    unfold ja_r at hq
    by_cases h1 : st i = 1
    · rw [decide_eq_true h1, Bool.true_and] at hq
      refine br_t h1 (jy_isSub (by omega) (fun hl => ?_) (fun hl => ?_))
      · rw [decide_eq_true hl] at hq
        refine br_f ?_ (nm_r (nI_1 i) hw)
        rw [hy]
        cases b with
        | true => exact absurd hq (by decide)
        | false => decide
      · rw [decide_eq_false hl] at hq
        refine br_f ?_ (nm_r (nI_1 i) hw)
        rw [hy]
        cases b with
        | false => exact absurd hq (by decide)
        | true => decide
    · exact br_f h1 (nm_r (nI_1 i) hw)
theorem jy_free (hN : N ≤ 32) (h : post (ja_fr lim (jc_n (ja_r st lv false) N) (jc_n (ja_r st lv true) N))) : wpY_free post (ja_Y N lim keep sub clk sta ff lv sp du fa st sa fi lf kd rc) := by
  have ha := Nat.le_trans (jc_le (ja_r st lv false) N) hN
  have hb := Nat.le_trans (jc_le (ja_r st lv true) N) hN
  have e : ∀ c, 1 < c → nI c - 1 = nI (c - 1) := fun c hc => by
    obtain ⟨d, rfl⟩ : ∃ d, c = d + 1 := ⟨c - 1, by omega⟩
    exact nI_pred d
  have e0 : ∀ c, c ≤ 1 → nI (c - 1) = 0 := fun c hc => by
    rw [show c - 1 = 0 by omega]
    rfl
  unfold wpY_free
  dsimp only
  refine jy_running false hN 0 rfl ?_
  refine jy_running true hN 1 rfl ?_
  unfold ja_fr at h
  generalize jc_n (ja_r st lv false) N = a at *
  generalize jc_n (ja_r st lv true) N = b at *
  refine pk_le a 1 (fun h1 => ?_) (fun h1 => ?_)
  · refine pk_le b 1 (fun h2 => ?_) (fun h2 => ?_)
    · rw [e0 a h1, e0 b h2] at h
      exact h
    · rw [e0 a h1, ← e b h2] at h
      exact h
  · refine pk_le b 1 (fun h2 => ?_) (fun h2 => ?_)
    · rw [← e a h1, e0 b h2] at h
      exact h
    · rw [← e a h1, ← e b h2] at h
      exact h
theorem jy_mayStart {t : Nat} (hN : N ≤ 32) (ht : t < 32) (hS : ja_S N sub) (hl : lv t = 1 → ja_si N sub st 1) (h1 : ja_my N lim lv st t → post 1) (h0 : ¬ ja_my N lim lv st t → post 0) : wpY_mayStart post (ja_Y N lim keep sub clk sta ff lv sp du fa st sa fi lf kd rc) (nI t) := by
  have ha := Nat.le_trans (jc_le (ja_r st lv false) N) hN
  have hb := Nat.le_trans (jc_le (ja_r st lv true) N) hN
  unfold wpY_mayStart
  dsimp only
  refine jy_isSub ht (fun hs => br_f ja_i1 ?_) (fun hs => br_t rfl ?_)
  · obtain ⟨s, hsN, e, hst⟩ := hl hs
    subst e
    have hd : decide (lv t = 1) = true := decide_eq_true hs
    refine br_f (nI_pos (by omega)) ⟨vp_in_nI (by omega) (by omega), ?_⟩
    rw [nI_clamp (by omega)]
    refine br_t hst ?_
    refine jy_running true hN 1 rfl ?_
    refine pk_eq (jc_n (ja_r st lv true) N) 0 (fun hz => (h1 (.inl (by rw [hd]; exact hz)))) (fun hz => ?_)
    refine jy_free hN ?_
    refine br_c (fun z => (h0 ?_)) (fun z => (h1 (.inr (Int32.not_le.mp z))))
    intro y
    rcases y with y | y
    · rw [hd] at y
      exact hz y
    · exact Int32.not_lt.mpr z y
  · have hd : decide (lv t = 1) = false := decide_eq_false hs
    refine jy_running false hN 0 rfl ?_
    refine pk_eq (jc_n (ja_r st lv false) N) 0 (fun hz => (h1 (.inl (by rw [hd]; exact hz)))) (fun hz => ?_)
    refine jy_free hN ?_
    refine br_c (fun z => (h0 ?_)) (fun z => (h1 (.inr (Int32.not_le.mp z))))
    intro y
    rcases y with y | y
    · rw [hd] at y
      exact hz y
    · exact Int32.not_lt.mpr z y
theorem jy_stale {t : Nat} (hN : N ≤ 32) (ht : t < 32) (K : ja_K N np op kd) (h1 : ja_sl N sub sp np t → post 1) (h0 : ¬ ja_sl N sub sp np t → post 0) : wpY_stale post (ja_Y N lim keep sub clk sta ff lv sp du fa st sa fi lf kd rc) (nI t) := by
  have ct : (nI t).toNatClampNeg = t := nI_clamp (by omega)
  refine br_c (fun e => h1 (.inl e)) (fun e => ⟨vp_in_nI ht (by omega), ?_⟩)
  rw [ct]
  refine br_c (fun z => h1 (.inr (.inl z))) (fun z => ?_)
  refine js_ex (fun n i => wY_stale_21 post (nI t) (nI N) lim keep sta ff clk sub lv sp du fa st sa fi lf kd rc n (nI i)) (fun p => bt (np t) p = true ∧ sp t < sp p) N (post 1) (post 0) ?_ ?_ ?_ (fun h => h1 (.inr (.inr h))) (fun h => h0 (fun y => y.elim e (fun y => y.elim z h)))
  · intro hp n
    exact br_t (nI_le (Nat.le_refl _) (by omega)) hp
  · intro hq n i hi hc
    refine br_f (nI_ge hi (by omega)) ?_
    have ci : (nI i).toNatClampNeg = i := nI_clamp (by omega)
    have cx : (nI (t * 32 + i)).toNatClampNeg = t * 32 + i := nI_clamp (by omega)
    rw [jy_ix]
    refine ⟨vp_in_nI (by omega) (by omega), ?_⟩
    rw [cx, K.1 t i ht (by omega), ct, ci]
    refine br_t (ja_k1.mpr hc.1) ⟨vp_in_nI (by omega) (by omega), vp_in_nI ht (by omega), ?_⟩
    exact br_f (Int32.not_le.mpr hc.2) hq
  · intro n i hi hc hw
    refine br_f (nI_ge hi (by omega)) ?_
    have ci : (nI i).toNatClampNeg = i := nI_clamp (by omega)
    have cx : (nI (t * 32 + i)).toNatClampNeg = t * 32 + i := nI_clamp (by omega)
    rw [jy_ix]
    refine ⟨vp_in_nI (by omega) (by omega), ?_⟩
    rw [cx, K.1 t i ht (by omega), ct, ci]
    refine br_c (fun hl => ⟨vp_in_nI (by omega) (by omega), vp_in_nI ht (by omega), ?_⟩) (fun _ => nm_r (nI_1 i) hw)
    exact br_t (Int32.not_lt.mp (fun y => hc ⟨ja_k1.mp hl, y⟩)) (nm_r (nI_1 i) hw)
theorem jy_prereqIn {t : Nat} {a b : Int32} (hN : N ≤ 32) (ht : t < 32) (K : ja_K N np op kd) (h1 : (∃ p, p < N ∧ ja_E np op t p ∧ (st p = a ∨ st p = b)) → post 1) (h0 : (¬ ∃ p, p < N ∧ ja_E np op t p ∧ (st p = a ∨ st p = b)) → post 0) : wpY_prereqIn post (ja_Y N lim keep sub clk sta ff lv sp du fa st sa fi lf kd rc) (nI t) a b := by
  refine js_ex (fun n i => wY_prereqIn_3 post (nI t) a b (nI N) lim keep sta ff clk sub lv sp du fa st sa fi lf kd rc n (nI i)) (fun p => ja_E np op t p ∧ (st p = a ∨ st p = b)) N (post 1) (post 0) ?_ ?_ ?_ h1 h0
  · intro hp n
    exact br_t (nI_le (Nat.le_refl _) (by omega)) hp
  · intro hq n i hi hc
    refine br_f (nI_ge hi (by omega)) ?_
    have ci : (nI i).toNatClampNeg = i := nI_clamp (by omega)
    have cx : (nI (t * 32 + i)).toNatClampNeg = t * 32 + i := nI_clamp (by omega)
    rw [jy_ix]
    refine ⟨vp_in_nI (by omega) (by omega), ?_⟩
    rw [cx, K.1 t i ht (by omega), ci]
    refine br_f (ja_kn.mpr hc.1) ⟨vp_in_nI (by omega) (by omega), ?_⟩
    refine br_c (fun _ => hq) (fun hn => ⟨vp_in_nI (by omega) (by omega), ?_⟩)
    exact br_t (hc.2.resolve_left hn) hq
  · intro n i hi hc hw
    refine br_f (nI_ge hi (by omega)) ?_
    have ci : (nI i).toNatClampNeg = i := nI_clamp (by omega)
    have cx : (nI (t * 32 + i)).toNatClampNeg = t * 32 + i := nI_clamp (by omega)
    rw [jy_ix]
    refine ⟨vp_in_nI (by omega) (by omega), ?_⟩
    rw [cx, K.1 t i ht (by omega), ci]
    refine br_c (fun _ => nm_r (nI_1 i) hw) (fun hk => ⟨vp_in_nI (by omega) (by omega), ?_⟩)
    refine br_f (fun z => hc ⟨ja_kn.mp hk, .inl z⟩) ⟨vp_in_nI (by omega) (by omega), ?_⟩
    exact br_f (fun z => hc ⟨ja_kn.mp hk, .inr z⟩) (nm_r (nI_1 i) hw)
theorem jy_isQuiet (hN : N ≤ 32) (h1 : ¬ sta = 0 ∧ (¬ ∃ t, t < N ∧ ja_und st t) → post 1) (h0 : ¬ (¬ sta = 0 ∧ ¬ ∃ t, t < N ∧ ja_und st t) → post 0) : wpY_isQuiet post (ja_Y N lim keep sub clk sta ff lv sp du fa st sa fi lf kd rc) := by
  refine br_c (fun hs => h0 (fun z => z.1 hs)) (fun hs => ?_)
  refine js_ex (fun n i => wY_isQuiet_11 post (nI N) lim keep sta ff clk sub lv sp du fa st sa fi lf kd rc n (nI i)) (fun t => ja_und st t) N (post 0) (post 1) ?_ ?_ ?_ (fun h => h0 (fun z => z.2 h)) (fun h => h1 ⟨hs, h⟩)
  · intro hp n
    exact br_t (nI_le (Nat.le_refl _) (by omega)) hp
  · intro hq n i hi hc
    refine br_f (nI_ge hi (by omega)) ⟨vp_in_nI (by omega) (by omega), ?_⟩
    rw [nI_clamp (by omega)]
    refine br_c (fun _ => hq) (fun hn => ⟨vp_in_nI (by omega) (by omega), ?_⟩)
    exact br_t (hc.resolve_left hn) hq
  · intro n i hi hc hw
    refine br_f (nI_ge hi (by omega)) ⟨vp_in_nI (by omega) (by omega), ?_⟩
    rw [nI_clamp (by omega)]
    refine br_f (fun z => hc (.inl z)) ⟨vp_in_nI (by omega) (by omega), ?_⟩
    exact br_f (fun z => hc (.inr z)) (nm_r (nI_1 i) hw)
end
section
-- the reference's reachable: its scratch array becomes the least closed set
variable {N : Nat} {lim keep sub clk sta ff : Int32} {lv sp du fa np op st sa fi lf kd rc : Nat → Int32}
def jy_set (rc : Nat → Int32) (q : Nat) : Bool := decide (q < 32) && decide (¬ rc q = 0)
theorem jy_set_i {rc : Nat → Int32} {q : Nat} : jy_set rc q = true ↔ q < 32 ∧ ¬ rc q = 0 := by
  unfold jy_set
  rw [Bool.and_eq_true, decide_eq_true_eq, decide_eq_true_eq]
/-- what one spread of x makes -/
def jy_Sp (N : Nat) (np op : Nat → Int32) (x i : Nat) (ch : Int32) (rc : Nat → Int32) (ch' : Int32) (rc' : Nat → Int32) : Prop :=
  ja_B ch' ∧ (ch' = 0 → ch = 0 ∧ rc' = rc) ∧ (∀ q, ja_B (rc q) → ja_B (rc' q)) ∧ (∀ q, ¬ rc q = 0 → ¬ rc' q = 0) ∧ (∀ q, ¬ rc' q = 0 → ¬ rc q = 0 ∨ (q < N ∧ ja_E np op x q)) ∧ (∀ q, i ≤ q → q < N → ja_E np op x q → ¬ rc' q = 0)
theorem jy_Sp_k {x i : Nat} {ch ch' : Int32} {rc rc' : Nat → Int32} (h : jy_Sp N np op x (i + 1) ch rc ch' rc') (hi : ja_E np op x i → ¬ rc i = 0) : jy_Sp N np op x i ch rc ch' rc' := by
  obtain ⟨a, b, c, d, e, g⟩ := h
  refine ⟨a, b, c, d, e, fun q h1 h2 h3 => ?_⟩
  by_cases z : q = i
  · subst z
    exact d q (hi h3)
  · exact g q (by omega) h2 h3
theorem jy_Sp_s {x i : Nat} {ch ch' : Int32} {rc rc' : Nat → Int32} (hi : i < N) (hE : ja_E np op x i) (h : jy_Sp N np op x (i + 1) 1 (upd rc i 1) ch' rc') : jy_Sp N np op x i ch rc ch' rc' := by
  obtain ⟨a, b, c, d, e, g⟩ := h
  have u : ∀ q, ¬ rc q = 0 → ¬ upd rc i 1 q = 0 := fun q z => by
    by_cases y : q = i
    · subst y
      rw [pk_us]
      decide
    · rw [pk_un y]
      exact z
  refine ⟨a, fun z => absurd (b z).1 (by decide), fun q z => c q ?_, fun q z => d q (u q z), fun q z => ?_, fun q h1 h2 h3 => ?_⟩
  · by_cases y : q = i
    · subst y
      rw [pk_us]
      exact ja_B1
    · rw [pk_un y]
      exact z
  · rcases e q z with y | y
    · by_cases w : q = i
      · subst w
        exact .inr ⟨hi, hE⟩
      · rw [pk_un w] at y
        exact .inl y
    · exact .inr y
  · by_cases z : q = i
    · subst z
      exact d q (by rw [pk_us]; decide)
    · exact g q (by omega) h2 h3
theorem jy_spread_l {x : Nat} (hN : N ≤ 32) (hx : x < 32) (K : ja_K N np op kd) : ∀ d i, i + d = N → ∀ ch rc, ja_B ch → ∃ ch' rc', jy_Sp N np op x i ch rc ch' rc' ∧ ∀ (post : Int32 → SY → Prop) f, wY_spread_4 post (nI x) (nI N) lim keep sta ff clk sub f ch' (nI N) lv sp du fa st sa fi lf kd rc' → wY_spread_4 post (nI x) (nI N) lim keep sta ff clk sub (f + d) ch (nI i) lv sp du fa st sa fi lf kd rc := by
  intro d
  induction d with
  | zero =>
    intro i hi ch rc hB
    have e : i = N := by omega
    subst e
    exact ⟨ch, rc, ⟨hB, fun z => ⟨z, rfl⟩, fun _ z => z, fun _ z => z, fun _ z => .inl z, fun q h1 h2 => by omega⟩, fun _ f z => z⟩
  | succ d ih =>
    intro i hi ch rc hB
    by_cases hE : ja_E np op x i
    · by_cases hr : rc i = 0
      · obtain ⟨ch', rc', h1, h2⟩ := ih (i + 1) (by omega) 1 (upd rc i 1) ja_B1
        refine ⟨ch', rc', jy_Sp_s (by omega) hE h1, fun post f z => br_f (nI_ge (by omega) (by omega)) ?_⟩
        rw [jy_ix]
        refine ⟨vp_in_nI (by omega) (by omega), ?_⟩
        rw [nI_clamp (by omega), K.1 x i hx (by omega)]
        refine br_f (ja_kn.mpr hE) ⟨vp_in_nI (by omega) (by omega), ?_⟩
        rw [nI_clamp (by omega)]
        exact br_t hr ⟨vp_in_nI (by omega) (by omega), nm_r (by rw [ja_Bv ja_B1]) (nm_r (nI_1 i) (h2 post f z))⟩
      · obtain ⟨ch', rc', h1, h2⟩ := ih (i + 1) (by omega) ch rc hB
        refine ⟨ch', rc', jy_Sp_k h1 (fun _ => hr), fun post f z => br_f (nI_ge (by omega) (by omega)) ?_⟩
        rw [jy_ix]
        refine ⟨vp_in_nI (by omega) (by omega), ?_⟩
        rw [nI_clamp (by omega), K.1 x i hx (by omega)]
        refine br_f (ja_kn.mpr hE) ⟨vp_in_nI (by omega) (by omega), ?_⟩
        rw [nI_clamp (by omega)]
        exact br_f hr (nm_r (nI_1 i) (h2 post f z))
    · obtain ⟨ch', rc', h1, h2⟩ := ih (i + 1) (by omega) ch rc hB
      refine ⟨ch', rc', jy_Sp_k h1 (fun z => absurd z hE), fun post f z => br_f (nI_ge (by omega) (by omega)) ?_⟩
      rw [jy_ix]
      refine ⟨vp_in_nI (by omega) (by omega), ?_⟩
      rw [nI_clamp (by omega), K.1 x i hx (by omega)]
      exact br_t (Classical.byContradiction (fun y => hE (ja_kn.mp y))) (nm_r (nI_1 i) (h2 post f z))
theorem jy_spread {x : Nat} (hN : N ≤ 32) (hx : x < 32) (K : ja_K N np op kd) : ∃ ch rc', jy_Sp N np op x 0 0 rc ch rc' ∧ ∀ post : Int32 → SY → Prop, post ch (ja_Y N lim keep sub clk sta ff lv sp du fa st sa fi lf kd rc') → wpY_spread post (ja_Y N lim keep sub clk sta ff lv sp du fa st sa fi lf kd rc) (nI x) := by
  obtain ⟨ch, rc', h1, h2⟩ := jy_spread_l (lim := lim) (keep := keep) (sub := sub) (clk := clk) (sta := sta) (ff := ff) (lv := lv) (sp := sp) (du := du) (fa := fa) (st := st) (sa := sa) (fi := fi) (lf := lf) hN hx K N 0 (by omega) 0 rc ja_B0
  refine ⟨ch, rc', h1, fun post hp => ⟨1 + N, h2 post 1 (br_t (nI_le (Nat.le_refl _) (by omega)) ⟨ja_Bn h1.1, hp⟩)⟩⟩
/-- a pass of reachable, up to x = i -/
def jy_Ri (N : Nat) (np op rc0 : Nat → Int32) (i : Nat) (ch : Int32) (rc : Nat → Int32) : Prop :=
  jr_d (ja_E np op) N (jy_set rc0) (jy_set rc) ∧ (∀ t p, t < i → p < N → jy_set rc0 t = true → ja_E np op t p → jy_set rc p = true) ∧ (ch = 0 → rc = rc0) ∧ ja_B ch ∧ ∀ q, q < 32 → ja_B (rc q)
theorem jy_Ri_s {rc0 : Nat → Int32} {i : Nat} {ch c : Int32} {rc rc' : Nat → Int32} (hN : N ≤ 32) (hi : i < N) (h : jy_Ri N np op rc0 i ch rc) (hr : ¬ rc i = 0) (s : jy_Sp N np op i 0 0 rc c rc') : jy_Ri N np op rc0 (i + 1) (if c = 0 then ch else 1) rc' := by
  obtain ⟨a, b, c1, c2, c3⟩ := h
  obtain ⟨s1, s2, s3, s4, s5, s6⟩ := s
  have hu : ∀ q, jy_set rc q = true → jy_set rc' q = true := fun q z => by
    rw [jy_set_i] at z ⊢
    exact ⟨z.1, s4 q z.2⟩
  refine ⟨jr_ad a hi (jy_set_i.mpr ⟨by omega, hr⟩) hu (fun q z => ?_), fun t p ht hp z e => ?_, fun z => ?_, ?_, fun q hq => s3 q (c3 q hq)⟩
  · rw [jy_set_i] at z
    rcases s5 q z.2 with y | y
    · exact .inl (jy_set_i.mpr ⟨z.1, y⟩)
    · exact .inr y
  · by_cases e' : t = i
    · subst e'
      exact jy_set_i.mpr ⟨by omega, s6 p (Nat.zero_le _) hp e⟩
    · exact hu p (b t p (by omega) hp z e)
  · by_cases y : c = 0
    · rw [if_pos y] at z
      rw [(s2 y).2, c1 z]
    · rw [if_neg y] at z
      exact absurd z (by decide)
  · by_cases y : c = 0
    · rw [if_pos y]
      exact c2
    · rw [if_neg y]
      exact ja_B1
theorem jy_Ri_n {rc0 : Nat → Int32} {i : Nat} {ch : Int32} {rc : Nat → Int32} (h : jy_Ri N np op rc0 i ch rc) (hr : rc i = 0) : jy_Ri N np op rc0 (i + 1) ch rc := by
  obtain ⟨a, b, c1, c2, c3⟩ := h
  refine ⟨a, fun t p ht hp z e => ?_, c1, c2, c3⟩
  by_cases e' : t = i
  · subst e'
    exact absurd hr (jy_set_i.mp (a.1 t z)).2
  · exact b t p (by omega) hp z e
theorem jy_reach_x {rc0 : Nat → Int32} {x2 x3 : Int32} (hN : N ≤ 32) (K : ja_K N np op kd) : ∀ d i, i + d = N → ∀ ch rc, jy_Ri N np op rc0 i ch rc → ∃ ch' rc', jy_Ri N np op rc0 N ch' rc' ∧ ∀ (post : Int32 → SY → Prop) J f, wY_reachable_44 post J x2 x3 f ch' (nI N) (nI N) lim keep sta ff clk sub lv sp du fa st sa fi lf kd rc' → wY_reachable_44 post J x2 x3 (f + d) ch (nI i) (nI N) lim keep sta ff clk sub lv sp du fa st sa fi lf kd rc := by
  intro d
  induction d with
  | zero =>
    intro i hi ch rc h
    have e : i = N := by omega
    subst e
    exact ⟨ch, rc, h, fun _ J f z => z⟩
  | succ d ih =>
    intro i hi ch rc h
    by_cases hr : rc i = 0
    · obtain ⟨ch', rc', h1, h2⟩ := ih (i + 1) (by omega) ch rc (jy_Ri_n h hr)
      refine ⟨ch', rc', h1, fun post J f z => br_f (nI_ge (by omega) (by omega)) ⟨vp_in_nI (by omega) (by omega), ?_⟩⟩
      rw [nI_clamp (by omega)]
      exact br_t hr (nm_r (nI_1 i) (h2 post J f z))
    · obtain ⟨c, rc1, s1, s2⟩ := jy_spread (rc := rc) (lim := lim) (keep := keep) (sub := sub) (clk := clk) (sta := sta) (ff := ff) (lv := lv) (sp := sp) (du := du) (fa := fa) (st := st) (sa := sa) (fi := fi) (lf := lf) (x := i) hN (by omega) K
      obtain ⟨ch', rc', h1, h2⟩ := ih (i + 1) (by omega) _ rc1 (jy_Ri_s hN (by omega) h hr s1)
      refine ⟨ch', rc', h1, fun post J f z => br_f (nI_ge (by omega) (by omega)) ⟨vp_in_nI (by omega) (by omega), ?_⟩⟩
      rw [nI_clamp (by omega)]
      refine br_f hr (s2 _ ?_)
      have z' := h2 post J f z
      by_cases y : c = 0
      · rw [if_pos y] at z'
        exact br_t y (nm_r (nI_1 i) z')
      · rw [if_neg y] at z'
        exact br_f y (nm_r (nI_1 i) z')
theorem jy_reach_p {x2 : Nat} (hN : N ≤ 32) (hx : x2 < N) (K : ja_K N np op kd) (A : Nat → Bool) : ∀ e r, r + e = N + 1 → ∀ rc, jr_P (ja_E np op) N A r (jy_set rc) → (∀ q, q < 32 → ja_B (rc q)) → ∃ rc', jr_d (ja_E np op) N A (jy_set rc') ∧ jr_cl (ja_E np op) N (fun q => jy_set rc' q = true) ∧ (∀ q, q < 32 → ja_B (rc' q)) ∧ ∀ post : Int32 → SY → Prop, post (rc' x2) (ja_Y N lim keep sub clk sta ff lv sp du fa st sa fi lf kd rc') → wY_reachable_30 post (nI x2) (e + 1) (nI r) (nI N) lim keep sta ff clk sub lv sp du fa st sa fi lf kd rc := by
  intro e
  induction e with
  | zero =>
    intro r hr rc h hB
    have e : r = N + 1 := by omega
    subst e
    refine ⟨rc, h.1, jr_end h (by omega), hB, fun post hp => br_t (nI_lt (by omega) (by omega)) ⟨vp_in_nI (by omega) (by omega), ?_⟩⟩
    rw [nI_clamp (by omega)]
    exact ⟨ja_Bn (hB x2 (by omega)), hp⟩
  | succ e ih =>
    intro r hr rc h hB
    obtain ⟨ch, rc1, h1, h2⟩ := jy_reach_x (rc0 := rc) (x2 := nI x2) (x3 := nI r) (lim := lim) (keep := keep) (sub := sub) (clk := clk) (sta := sta) (ff := ff) (lv := lv) (sp := sp) (du := du) (fa := fa) (st := st) (sa := sa) (fi := fi) (lf := lf) hN K N 0 (by omega) 0 rc ⟨jr_rf, fun t p ht => by omega, fun _ => rfl, ja_B0, hB⟩
    by_cases hc : ch = 0
    · have er := h1.2.2.1 hc
      subst er
      refine ⟨rc1, h.1, jr_sm h1.2.1 (fun _ _ z => z), hB, fun post hp => br_f (nI_nlt (by omega) (by omega)) ⟨1 + N, h2 post _ 1 (br_t (nI_le (Nat.le_refl _) (by omega)) (br_t hc ⟨vp_in_nI (by omega) (by omega), ?_⟩))⟩⟩
      rw [nI_clamp (by omega)]
      exact ⟨ja_Bn (hB x2 (by omega)), hp⟩
    · obtain ⟨rc2, h3, h4, h6, h5⟩ := ih (r + 1) (by omega) rc1 (jr_step h h1.1 h1.2.1) h1.2.2.2.2
      exact ⟨rc2, h3, h4, h6, fun post hp => br_f (nI_nlt (by omega) (by omega)) ⟨1 + N, h2 post _ 1 (br_t (nI_le (Nat.le_refl _) (by omega)) (br_f hc (nm_r (nI_1 r) (h5 post hp))))⟩⟩
theorem jy_reach_c {x1 x2 : Int32} : ∀ d i, i + d = 32 → ∀ rc, (∀ q, q < i → rc q = 0) → ∃ rc', (∀ q, q < 32 → rc' q = 0) ∧ ∀ (post : Int32 → SY → Prop) f, wY_reachable_2 post x1 x2 (nI N) lim keep sta ff clk sub f (nI 32) lv sp du fa st sa fi lf kd rc' → wY_reachable_2 post x1 x2 (nI N) lim keep sta ff clk sub (f + d) (nI i) lv sp du fa st sa fi lf kd rc := by
  intro d
  induction d with
  | zero =>
    intro i hi rc h
    have e : i = 32 := by omega
    subst e
    exact ⟨rc, h, fun _ f z => z⟩
  | succ d ih =>
    intro i hi rc h
    obtain ⟨rc', h1, h2⟩ := ih (i + 1) (by omega) (upd rc i 0) (fun q hq => by
      by_cases e : q = i
      · subst e
        exact pk_us
      · rw [pk_un e]
        exact h q (by omega))
    refine ⟨rc', h1, fun post f z => br_f (nI_ge (b := 32) (by omega) (by omega)) ⟨vp_in_nI (by omega) (by omega), nm_r (by rw [nI_clamp (by omega), ja_Bv ja_B0]) (nm_r (nI_1 i) (h2 post f z))⟩⟩
theorem jy_reachable {a b : Nat} (hN : N ≤ 32) (K : ja_K N np op kd) (ha : a < N) (hb : b < N) : ∃ rc', jr_d (ja_E np op) N (fun q => decide (q = a)) (jy_set rc') ∧ jr_cl (ja_E np op) N (fun q => jy_set rc' q = true) ∧ ∀ post : Int32 → SY → Prop, (jy_set rc' b = true → post 1 (ja_Y N lim keep sub clk sta ff lv sp du fa st sa fi lf kd rc')) → (¬ jy_set rc' b = true → post 0 (ja_Y N lim keep sub clk sta ff lv sp du fa st sa fi lf kd rc')) → wpY_reachable post (ja_Y N lim keep sub clk sta ff lv sp du fa st sa fi lf kd rc) (nI a) (nI b) := by
  obtain ⟨rc0, c1, c2⟩ := jy_reach_c (x1 := nI a) (x2 := nI b) (N := N) (lim := lim) (keep := keep) (sub := sub) (clk := clk) (sta := sta) (ff := ff) (lv := lv) (sp := sp) (du := du) (fa := fa) (st := st) (sa := sa) (fi := fi) (lf := lf) (kd := kd) 32 0 rfl rc (fun q hq => by omega)
  have hB : ∀ q, q < 32 → ja_B (upd rc0 a 1 q) := fun q hq => by
    by_cases e : q = a
    · subst e
      rw [pk_us]
      exact ja_B1
    · rw [pk_un e, c1 q hq]
      exact ja_B0
  have hset : ∀ q, jy_set (upd rc0 a 1) q = decide (q = a) := fun q => by
    unfold jy_set
    by_cases e : q = a
    · subst e
      rw [pk_us, decide_eq_true (show q < 32 by omega), decide_eq_true (show q = q from rfl)]
      rfl
    · rw [pk_un e, decide_eq_false e]
      by_cases h : q < 32
      · rw [c1 q h]
        simp
      · rw [decide_eq_false h, Bool.false_and]
  have hP : jr_P (ja_E np op) N (fun q => decide (q = a)) 0 (jy_set (upd rc0 a 1)) := by
    rw [show jy_set (upd rc0 a 1) = (fun q => decide (q = a)) from funext hset]
    exact jr_0 ha (decide_eq_true rfl)
  obtain ⟨rc2, d1, d2, d3, d4⟩ := jy_reach_p (lim := lim) (keep := keep) (sub := sub) (clk := clk) (sta := sta) (ff := ff) (lv := lv) (sp := sp) (du := du) (fa := fa) (st := st) (sa := sa) (fi := fi) (lf := lf) hN hb K (fun q => decide (q = a)) (N + 1) 0 (by omega) (upd rc0 a 1) hP hB
  refine ⟨rc2, d1, d2, fun post p1 p0 => ⟨1 + 32, c2 post 1 (br_t (nI_le (Nat.le_refl _) (by omega)) ⟨vp_in_nI (by omega) (by omega), nm_r (by rw [nI_clamp (by omega), ja_Bv ja_B1]) ⟨N + 2, d4 post ?_⟩⟩)⟩⟩
  rcases d3 b (by omega) with e | e
  · rw [e]
    exact p0 (fun z => (jy_set_i.mp z).2 e)
  · rw [e]
    exact p1 (jy_set_i.mpr ⟨by omega, by rw [e]; decide⟩)
end
section
-- the reference's finish and rule
variable {N : Nat} {lim keep sub clk sta ff : Int32} {lv sp du fa np op st sa fi lf kd rc : Nat → Int32}
theorem jy_finish {post : SY → Prop} {t : Nat} {s c : Int32} (ht : t < 32) (h : post (ja_Y N lim keep sub clk sta ff lv sp du fa (upd st t s) sa (upd fi t c) lf kd rc)) : wpY_finish post (ja_Y N lim keep sub clk sta ff lv sp du fa st sa fi lf kd rc) (nI t) s c := by
  refine ⟨vp_in_nI ht (by omega), nm_r (by rw [nI_clamp (by omega)]) ⟨vp_in_nI ht (by omega), nm_r (by rw [nI_clamp (by omega)]) ?_⟩⟩
  exact h
end
section
-- one target's step on both sides
variable {N : Nat} {lim keep sub clk sta ff : Int32} {lv sp du fa np op st sa fi re lf kd rc : Nat → Int32}
theorem jx_settleTarget {post : SX → Prop} {t : Nat} {w : Int32} (hN : N ≤ 32) (ht : t < N) (hS : ja_S N sub) (h0 : st t = 0) (hD : ja_D N lim keep sub ff lv sp np op st t w) (h : post (ja_X N lim keep sub clk sta ff lv sp du fa np op (upd st t w) (ja_sa w clk sa t) (ja_fi w clk fi t) (ja_re w du re t))) : wpX_settleTarget post (ja_X N lim keep sub clk sta ff lv sp du fa np op st sa fi re) (nI t) := by
  have ht' : t < 32 := by omega
  have hn : ¬ st t = 1 := by rw [h0]; decide
  have e0 : w = 0 → post (ja_X N lim keep sub clk sta ff lv sp du fa np op st sa fi re) := fun e => by
    subst e
    rw [ja_u0 h0, ja_sa0 (by decide), ja_fi0 (.inl rfl), ja_re0 (by decide)] at h
    exact h
  have e5 : w = 5 → post (ja_X N lim keep sub clk sta ff lv sp du fa np op (upd st t 5) sa (upd fi t clk) re) := fun e => by
    subst e
    rw [ja_sa0 (by decide), ja_fi1 (by decide), ja_re0 (by decide)] at h
    exact h
  have e3 : w = 3 → post (ja_X N lim keep sub clk sta ff lv sp du fa np op (upd st t 3) sa (upd fi t clk) re) := fun e => by
    subst e
    rw [ja_sa0 (by decide), ja_fi1 (by decide), ja_re0 (by decide)] at h
    exact h
  have e1 : w = 1 → post (ja_X N lim keep sub clk sta ff lv sp du fa np op (upd st t 1) (upd sa t clk) fi (upd re t (du t))) := fun e => by
    subst e
    rw [ja_sa1, ja_fi0 (.inr rfl), ja_re1] at h
    exact h
  have l3 : ja_lo N sub lv st t → wX_settleTarget_40 post (nI t) (nI N) lim keep sub clk sta ff (nI (jc_n (ja_r st lv false) N)) (nI (jc_n (ja_r st lv true) N)) lv sp du fa np op st sa fi re := fun l => by
    have q := ja_Dlo hD l
    refine jx_hasBadPrereq hN ht' (fun hb => br_f ja_i1 (jx_finish ht' hn (by decide) (e5 (q.1 hb)))) (fun hb => br_t rfl ?_)
    have q := q.2 hb
    refine jx_hasUndonePrereq hN ht' (fun hu => br_f ja_i1 (e0 (q.1 hu))) (fun hu => br_t rfl ?_)
    have q := q.2 hu
    refine jx_isStopping (fun hs => br_f ja_i1 (e0 (q.1 hs))) (fun hs => br_t rfl ?_)
    have q := q.2 hs
    refine jx_isStale hN ht' (fun hl => br_f ja_i1 ?_) (fun hl => br_t rfl (jx_finish ht' hn (by decide) (e3 (q.1 hl))))
    have q := q.2 hl
    exact jx_mayStart hN ht' (fun hm => br_f ja_i1 (jx_beginRun hN ht hn (e1 (q.1 hm)))) (fun hm => br_t rfl (e0 (q.2 hm)))
  have l2 : (lv t = 1 → ¬ ja_si N sub st 5) → wX_settleTarget_23 post (nI t) (nI N) lim keep sub clk sta ff (nI (jc_n (ja_r st lv false) N)) (nI (jc_n (ja_r st lv true) N)) lv sp du fa np op st sa fi re := fun l => by
    refine jx_isSub ht' (fun hl => br_f ja_i1 ?_) (fun hl => br_t rfl (l3 (fun z => absurd z hl)))
    exact jx_isSubmakeIn hN hS (fun h1 => br_f ja_i1 (l3 (fun _ => ⟨l hl, h1⟩))) (fun h1 => br_t rfl (e0 (ja_D2 hD hl (l hl) h1)))
  unfold wpX_settleTarget
  dsimp only
  refine jx_isSub ht' (fun hl => br_f ja_i1 ?_) (fun hl => br_t rfl (l2 (fun z => absurd z hl)))
  exact jx_isSubmakeIn hN hS (fun h5 => br_f ja_i1 (jx_finish ht' hn (by decide) (e5 (ja_D1 hD hl h5)))) (fun h5 => br_t rfl (l2 (fun _ => h5)))
theorem jy_rule {post : Int32 → SY → Prop} {t : Nat} {w : Int32} (hN : N ≤ 32) (ht : t < N) (hS : ja_S N sub) (K : ja_K N np op kd) (h0 : st t = 0) (hD : ja_D N lim keep sub ff lv sp np op st t w) (h : post (if w = 0 then 0 else 1) (ja_Y N lim keep sub clk sta ff lv sp du fa (upd st t w) (ja_sa w clk sa t) (ja_fi w clk fi t) (ja_lf w sub du lf t) kd rc)) : wpY_rule post (ja_Y N lim keep sub clk sta ff lv sp du fa st sa fi lf kd rc) (nI t) clk := by
  have ht' : t < 32 := by omega
  have e0 : w = 0 → post 0 (ja_Y N lim keep sub clk sta ff lv sp du fa st sa fi lf kd rc) := fun e => by
    subst e
    rw [ja_u0 h0, ja_sa0 (by decide), ja_fi0 (.inl rfl), ja_lf0 (by decide)] at h
    exact h
  have e5 : w = 5 → post 1 (ja_Y N lim keep sub clk sta ff lv sp du fa (upd st t 5) sa (upd fi t clk) lf kd rc) := fun e => by
    subst e
    rw [ja_sa0 (by decide), ja_fi1 (by decide), ja_lf0 (by decide)] at h
    exact h
  have e3 : w = 3 → post 1 (ja_Y N lim keep sub clk sta ff lv sp du fa (upd st t 3) sa (upd fi t clk) lf kd rc) := fun e => by
    subst e
    rw [ja_sa0 (by decide), ja_fi1 (by decide), ja_lf0 (by decide)] at h
    exact h
  have hi : vp_in (nI t) 32 := vp_in_nI ht' (by omega)
  have hc : (nI t).toNatClampNeg = t := nI_clamp (by omega)
  have l3 : ja_lo N sub lv st t → wY_rule_59 post (nI t) clk (nI N) lim keep sta ff clk sub lv sp du fa st sa fi lf kd rc := fun l => by
    have q := ja_Dlo hD l
    refine jy_prereqIn hN ht' K (fun hb => br_f ja_i1 (jy_finish ht' (e5 (q.1 hb)))) (fun hb => br_t rfl ?_)
    have q := q.2 hb
    refine jy_prereqIn hN ht' K (fun hu => br_f ja_i1 (e0 (q.1 hu))) (fun hu => br_t rfl ?_)
    have q := q.2 hu
    have stp : ¬ ja_sp keep ff → wY_rule_106 post (nI t) clk (nI N) lim keep sta ff clk sub lv sp du fa st sa fi lf kd rc := fun hs => by
      have q := q.2 hs
      refine jy_stale hN ht' K (fun hl => br_f ja_i1 ?_) (fun hl => br_t rfl (jy_finish ht' (e3 (q.1 hl))))
      have q := q.2 hl
      refine jy_mayStart hN ht' hS (fun z => (l z).2) (fun hm => br_f ja_i1 ?_) (fun hm => br_t rfl (e0 (q.2 hm)))
      have e := q.1 hm
      subst e
      rw [ja_sa1, ja_fi0 (.inr rfl)] at h
      refine ⟨hi, nm_r (by rw [hc]) ⟨hi, nm_r (by rw [hc]) ?_⟩⟩
      by_cases hs : nI t = sub
      · rw [ja_lfs hs] at h
        exact br_t hs h
      · rw [ja_lf1 hs] at h
        exact br_f hs ⟨hi, hi, nm_r (by rw [hc]) h⟩
    refine br_c (fun hk => br_c (fun hf => stp (fun z => z.2 hf)) (fun hf => e0 (q.1 ⟨hk, hf⟩))) (fun hk => stp (fun z => hk z.1))
  unfold wpY_rule
  dsimp only
  refine jy_isSub ht' (fun hl => br_f ja_i1 ?_) (fun hl => br_t rfl (l3 (fun z => absurd z hl)))
  rcases ja_sub_in hS hN with ⟨e, _, hnn⟩ | ⟨s, hs, e, hm, hii⟩
  · have hneg : sub < 0 := by rw [e]; decide
    exact br_t hneg (br_t hneg (e0 (ja_D2 hD hl (hnn st 5) (hnn st 1))))
  · subst e
    have hpos : ¬ nI s < 0 := nI_pos (by omega)
    have his : vp_in (nI s) 32 := vp_in_nI (by omega) (by omega)
    refine br_f hpos ⟨his, ?_⟩
    rw [nI_clamp (show s < 2 ^ 31 by omega)]
    refine br_c (fun h5 => jy_finish ht' (e5 (ja_D1 hD hl ((hii st 5).mpr h5)))) (fun h5 => br_f hpos ⟨his, ?_⟩)
    rw [nI_clamp (show s < 2 ^ 31 by omega)]
    have h5' : ¬ ja_si N (nI s) st 5 := fun z => h5 ((hii st 5).mp z)
    exact br_c (fun h1 => l3 (fun _ => ⟨h5', (hii st 1).mpr h1⟩)) (fun h1 => e0 (ja_D2 hD hl h5' (fun z => h1 ((hii st 1).mp z))))
-- the passes
theorem js_w0 {w : Int32} {st : Nat → Int32} {t : Nat} : (upd st t w t = 0) = (w = 0) := by rw [pk_us]
theorem js_in {x2 : Int32} (hN : N ≤ 32) (hS : ja_S N sub) (K : ja_K N np op kd) : ∀ d i, i + d = N → ∀ (b : Int32) (st sa fi re lf : Nat → Int32), ja_B b → ja_L sub re lf → ∃ b' st' sa' fi' re' lf', ja_B b' ∧ ja_L sub re' lf' ∧ (∀ (post : SX → Prop) J f, wX_settle_20 post J x2 f b' (nI N) (nI N) lim keep sub clk sta ff (nI (jc_n (ja_r st' lv false) N)) (nI (jc_n (ja_r st' lv true) N)) lv sp du fa np op st' sa' fi' re' → wX_settle_20 post J x2 (f + d) b (nI i) (nI N) lim keep sub clk sta ff (nI (jc_n (ja_r st lv false) N)) (nI (jc_n (ja_r st lv true) N)) lv sp du fa np op st sa fi re) ∧ (∀ (post : SY → Prop) J f, wY_settle_22 post J clk x2 f b' (nI N) (nI N) lim keep sta ff clk sub lv sp du fa st' sa' fi' lf' kd rc → wY_settle_22 post J clk x2 (f + d) b (nI i) (nI N) lim keep sta ff clk sub lv sp du fa st sa fi lf kd rc) := by
  intro d
  induction d with
  | zero =>
    intro i hi b st sa fi re lf hB hL
    have e : i = N := by omega
    subst e
    exact ⟨b, st, sa, fi, re, lf, hB, hL, fun _ J f z => z, fun _ J f z => z⟩
  | succ d ih =>
    intro i hi b st sa fi re lf hB hL
    have hin : vp_in (nI i) 32 := vp_in_nI (by omega) (by omega)
    have hcl : (nI i).toNatClampNeg = i := nI_clamp (by omega)
    have hge : ¬ nI N ≤ nI i := nI_ge (by omega) (by omega)
    by_cases h0 : st i = 0
    · obtain ⟨w, hD⟩ := ja_Dex N lim keep sub ff lv sp np op st i
      obtain ⟨b', st', sa', fi', re', lf', g1, g2, g3, g4⟩ := ih (i + 1) (by omega) (if w = 0 then b else 1) (upd st i w) (ja_sa w clk sa i) (ja_fi w clk fi i) (ja_re w du re i) (ja_lf w sub du lf i) (by
        by_cases hw : w = 0
        · rw [if_pos hw]; exact hB
        · rw [if_neg hw]; exact ja_B1) (ja_Ls hL)
      refine ⟨b', st', sa', fi', re', lf', g1, g2, fun post J f z => ?_, fun post J f z => ?_⟩
      · have z' := g3 post J f z
        refine br_f hge ⟨hin, ?_⟩
        rw [hcl]
        refine br_t h0 (jx_settleTarget hN (by omega) hS h0 hD ⟨hin, ?_⟩)
        rw [pk_us]
        by_cases hw : w = 0
        · rw [if_pos hw] at z'
          refine br_t hw (nm_r ?_ (nm_r (nI_1 i) z'))
          rcases hB with hb | hb <;> subst hb <;> rfl
        · rw [if_neg hw] at z'
          refine br_f hw (nm_r ?_ (nm_r (nI_1 i) z'))
          rcases hB with hb | hb <;> subst hb <;> rfl
      · have z' := g4 post J f z
        refine br_f hge ⟨hin, ?_⟩
        rw [hcl]
        refine br_t h0 (jy_rule hN (by omega) hS K h0 hD ?_)
        by_cases hw : w = 0
        · rw [if_pos hw] at z' ⊢
          exact br_t rfl (nm_r (nI_1 i) z')
        · rw [if_neg hw] at z' ⊢
          exact br_f ja_i1 (nm_r (nI_1 i) z')
    · obtain ⟨b', st', sa', fi', re', lf', g1, g2, g3, g4⟩ := ih (i + 1) (by omega) b st sa fi re lf hB hL
      refine ⟨b', st', sa', fi', re', lf', g1, g2, fun post J f z => ?_, fun post J f z => ?_⟩
      · refine br_f hge ⟨hin, ?_⟩
        rw [hcl]
        exact br_f h0 (nm_r (nI_1 i) (g3 post J f z))
      · refine br_f hge ⟨hin, ?_⟩
        rw [hcl]
        exact br_f h0 (nm_r (nI_1 i) (g4 post J f z))
end
section
-- settle
variable {N : Nat} {lim keep sub clk sta ff : Int32} {lv sp du fa np op st sa fi re lf kd rc : Nat → Int32}
theorem js_ps (hN : N ≤ 32) (hS : ja_S N sub) (K : ja_K N np op kd) : ∀ e r, r + e = N + 1 → ∀ (st sa fi re lf : Nat → Int32), ja_L sub re lf → ∃ st' sa' fi' re' lf', ja_L sub re' lf' ∧ (∀ post : SX → Prop, wX_settle_71 post (nI N) lim keep sub clk sta ff (nI (jc_n (ja_r st' lv false) N)) (nI (jc_n (ja_r st' lv true) N)) lv sp du fa np op st' sa' fi' re' → wX_settle_4 post (e + 1) 1 (nI r) (nI N) lim keep sub clk sta ff (nI (jc_n (ja_r st lv false) N)) (nI (jc_n (ja_r st lv true) N)) lv sp du fa np op st sa fi re) ∧ (∀ post : SY → Prop, wY_settle_72 post clk (nI N) lim keep sta ff clk sub lv sp du fa st' sa' fi' lf' kd rc → wY_settle_7 post clk (e + 1) (nI r) (nI N) lim keep sta ff clk sub lv sp du fa st sa fi lf kd rc) := by
  intro e
  induction e with
  | zero =>
    intro r hr st sa fi re lf hL
    have e : r = N + 1 := by omega
    subst e
    exact ⟨st, sa, fi, re, lf, hL, fun post z => br_f ja_i1 (br_t (nI_lt (by omega) (by omega)) z), fun post z => br_t (by rw [nI_1]; exact nI_le (Nat.le_refl _) (by omega)) z⟩
  | succ e ih =>
    intro r hr st sa fi re lf hL
    obtain ⟨b, st1, sa1, fi1, re1, lf1, g1, g2, g3, g4⟩ := js_in (x2 := nI r) (lim := lim) (keep := keep) (sta := sta) (ff := ff) (clk := clk) (lv := lv) (sp := sp) (du := du) (fa := fa) (rc := rc) hN hS K N 0 (by omega) 0 st sa fi re lf ja_B0 hL
    have hx : ¬ nI N < nI r := nI_nlt (by omega) (by omega)
    have hy : ¬ nI N + 1 ≤ nI r := by rw [nI_1]; exact nI_ge (by omega) (by omega)
    have hl : nI N ≤ nI N := nI_le (Nat.le_refl _) (by omega)
    by_cases hb : b = 0
    · refine ⟨st1, sa1, fi1, re1, lf1, g2, fun post z => ?_, fun post z => ?_⟩
      · exact br_f ja_i1 (br_f hx ⟨1 + N, g3 post _ 1 (br_t hl (nm_r (nI_1 r) (br_t hb z)))⟩)
      · exact br_f hy ⟨1 + N, g4 post _ 1 (br_t hl (br_t hb z))⟩
    · have hb1 : b = 1 := ja_B1' g1 hb
      obtain ⟨st2, sa2, fi2, re2, lf2, k1, k2, k3⟩ := ih (r + 1) (by omega) st1 sa1 fi1 re1 lf1 g2
      subst hb1
      refine ⟨st2, sa2, fi2, re2, lf2, k1, fun post z => ?_, fun post z => ?_⟩
      · exact br_f ja_i1 (br_f hx ⟨1 + N, g3 post _ 1 (br_t hl (nm_r (nI_1 r) (k2 post z)))⟩)
      · exact br_f hy ⟨1 + N, g4 post _ 1 (br_t hl (br_f ja_i1 (nm_r (nI_1 r) (k3 post z))))⟩
/-- the loops that skip what waits: a (subs alone) -/
theorem js_ka (hN : N ≤ 32) : ∀ d i, i + d = N → ∀ (st fi : Nat → Int32), ∃ st' fi', (∀ (post : SX → Prop) f, wX_skipWaiting_2 post 1 f (nI N) (nI N) lim keep sub clk sta ff (nI (jc_n (ja_r st' lv false) N)) (nI (jc_n (ja_r st' lv true) N)) lv sp du fa np op st' sa fi' re → wX_skipWaiting_2 post 1 (f + d) (nI i) (nI N) lim keep sub clk sta ff (nI (jc_n (ja_r st lv false) N)) (nI (jc_n (ja_r st lv true) N)) lv sp du fa np op st sa fi re) ∧ (∀ (post : SY → Prop) f, wY_settle_116 post clk f (nI N) (nI N) lim keep sta ff clk sub lv sp du fa st' sa fi' lf kd rc → wY_settle_116 post clk (f + d) (nI i) (nI N) lim keep sta ff clk sub lv sp du fa st sa fi lf kd rc) := by
  intro d
  induction d with
  | zero =>
    intro i hi st fi
    have e : i = N := by omega
    subst e
    exact ⟨st, fi, fun _ f z => z, fun _ f z => z⟩
  | succ d ih =>
    intro i hi st fi
    have hin : vp_in (nI i) 32 := vp_in_nI (by omega) (by omega)
    have hcl : (nI i).toNatClampNeg = i := nI_clamp (by omega)
    have hge : ¬ nI N ≤ nI i := nI_ge (by omega) (by omega)
    have hi' : i < 32 := by omega
    by_cases h0 : st i = 0
    · by_cases hl : lv i = 1
      · obtain ⟨st', fi', g3, g4⟩ := ih (i + 1) (by omega) (upd st i 5) (upd fi i clk)
        refine ⟨st', fi', fun post f z => ?_, fun post f z => ?_⟩
        · refine br_f hge ⟨hin, ?_⟩
          rw [hcl]
          exact br_t h0 (jx_isSub hi' (fun _ => br_f ja_i1 (jx_finish hi' (by rw [h0]; decide) (by decide) (nm_r (nI_1 i) (g3 post f z)))) (fun y => absurd hl y))
        · refine br_f hge (jy_isSub hi' (fun _ => br_f ja_i1 ⟨hin, ?_⟩) (fun y => absurd hl y))
          rw [hcl]
          exact br_t h0 (jy_finish hi' (nm_r (nI_1 i) (g4 post f z)))
      · obtain ⟨st', fi', g3, g4⟩ := ih (i + 1) (by omega) st fi
        refine ⟨st', fi', fun post f z => ?_, fun post f z => ?_⟩
        · refine br_f hge ⟨hin, ?_⟩
          rw [hcl]
          exact br_t h0 (jx_isSub hi' (fun y => absurd y hl) (fun _ => br_t rfl (br_f ja_i1 (nm_r (nI_1 i) (g3 post f z)))))
        · exact br_f hge (jy_isSub hi' (fun y => absurd y hl) (fun _ => br_t rfl (nm_r (nI_1 i) (g4 post f z))))
    · obtain ⟨st', fi', g3, g4⟩ := ih (i + 1) (by omega) st fi
      refine ⟨st', fi', fun post f z => ?_, fun post f z => ?_⟩
      · refine br_f hge ⟨hin, ?_⟩
        rw [hcl]
        exact br_f h0 (nm_r (nI_1 i) (g3 post f z))
      · refine br_f hge (jy_isSub hi' (fun _ => br_f ja_i1 ⟨hin, ?_⟩) (fun _ => br_t rfl (nm_r (nI_1 i) (g4 post f z))))
        rw [hcl]
        exact br_f h0 (nm_r (nI_1 i) (g4 post f z))
/-- b (all) -/
theorem js_kb (hN : N ≤ 32) : ∀ d i, i + d = N → ∀ (st fi : Nat → Int32), ∃ st' fi', (∀ (post : SX → Prop) f, wX_skipWaiting_2 post 0 f (nI N) (nI N) lim keep sub clk sta ff (nI (jc_n (ja_r st' lv false) N)) (nI (jc_n (ja_r st' lv true) N)) lv sp du fa np op st' sa fi' re → wX_skipWaiting_2 post 0 (f + d) (nI i) (nI N) lim keep sub clk sta ff (nI (jc_n (ja_r st lv false) N)) (nI (jc_n (ja_r st lv true) N)) lv sp du fa np op st sa fi re) ∧ (∀ (post : SY → Prop) f, wY_settle_170 post clk f (nI N) (nI N) lim keep sta ff clk sub lv sp du fa st' sa fi' lf kd rc → wY_settle_170 post clk (f + d) (nI i) (nI N) lim keep sta ff clk sub lv sp du fa st sa fi lf kd rc) := by
  intro d
  induction d with
  | zero =>
    intro i hi st fi
    have e : i = N := by omega
    subst e
    exact ⟨st, fi, fun _ f z => z, fun _ f z => z⟩
  | succ d ih =>
    intro i hi st fi
    have hin : vp_in (nI i) 32 := vp_in_nI (by omega) (by omega)
    have hcl : (nI i).toNatClampNeg = i := nI_clamp (by omega)
    have hge : ¬ nI N ≤ nI i := nI_ge (by omega) (by omega)
    have hi' : i < 32 := by omega
    by_cases h0 : st i = 0
    · obtain ⟨st', fi', g3, g4⟩ := ih (i + 1) (by omega) (upd st i 5) (upd fi i clk)
      refine ⟨st', fi', fun post f z => ?_, fun post f z => ?_⟩
      · refine br_f hge ⟨hin, ?_⟩
        rw [hcl]
        refine br_t h0 (jx_isSub hi' (fun _ => br_f ja_i1 ?_) (fun _ => br_t rfl (br_t rfl ?_)))
        · exact jx_finish hi' (by rw [h0]; decide) (by decide) (nm_r (nI_1 i) (g3 post f z))
        · exact jx_finish hi' (by rw [h0]; decide) (by decide) (nm_r (nI_1 i) (g3 post f z))
      · refine br_f hge ⟨hin, ?_⟩
        rw [hcl]
        exact br_t h0 (jy_finish hi' (nm_r (nI_1 i) (g4 post f z)))
    · obtain ⟨st', fi', g3, g4⟩ := ih (i + 1) (by omega) st fi
      refine ⟨st', fi', fun post f z => ?_, fun post f z => ?_⟩
      · refine br_f hge ⟨hin, ?_⟩
        rw [hcl]
        exact br_f h0 (nm_r (nI_1 i) (g3 post f z))
      · refine br_f hge ⟨hin, ?_⟩
        rw [hcl]
        exact br_f h0 (nm_r (nI_1 i) (g4 post f z))
/-- what is asked behind the sub-build's part: step b -/
theorem js_b (hN : N ≤ 32) (st fi : Nat → Int32) : ∃ st' fi', (∀ post : SX → Prop, post (ja_X N lim keep sub clk sta ff lv sp du fa np op st' sa fi' re) → wX_skipWhatCannotRun_20 post (nI N) lim keep sub clk sta ff (nI (jc_n (ja_r st lv false) N)) (nI (jc_n (ja_r st lv true) N)) lv sp du fa np op st sa fi re) ∧ (∀ post : SY → Prop, post (ja_Y N lim keep sub clk sta ff lv sp du fa st' sa fi' lf kd rc) → wY_settle_154 post clk (nI N) lim keep sta ff clk sub lv sp du fa st sa fi lf kd rc) := by
  have ha := Nat.le_trans (jc_le (ja_r st lv false) N) hN
  have hb := Nat.le_trans (jc_le (ja_r st lv true) N) hN
  have hl : nI N ≤ nI N := nI_le (Nat.le_refl _) (by omega)
  by_cases h : jc_n (ja_r st lv false) N = 0 ∧ jc_n (ja_r st lv true) N = 0
  · obtain ⟨st', fi', g3, g4⟩ := js_kb (lim := lim) (keep := keep) (sub := sub) (sta := sta) (ff := ff) (clk := clk) (lv := lv) (sp := sp) (du := du) (fa := fa) (np := np) (op := op) (sa := sa) (re := re) (lf := lf) (kd := kd) (rc := rc) hN N 0 (by omega) st fi
    refine ⟨st', fi', fun post z => ?_, fun post z => ?_⟩
    · exact br_t (by rw [h.1]; rfl) (br_t (by rw [h.2]; rfl) ⟨1 + N, g3 _ 1 (br_t hl z)⟩)
    · unfold wY_settle_154
      refine jy_running true hN 1 rfl ?_
      refine jy_running false hN 0 rfl ?_
      exact br_t (by rw [h.1, h.2]; rfl) ⟨1 + N, g4 post 1 (br_t hl z)⟩
  · refine ⟨st, fi, fun post z => ?_, fun post z => ?_⟩
    · exact pk_eq (jc_n (ja_r st lv false) N) 0 (fun h1 => pk_eq (jc_n (ja_r st lv true) N) 0 (fun h2 => absurd ⟨h1, h2⟩ h) (fun _ => z)) (fun _ => z)
    · unfold wY_settle_154
      refine jy_running true hN 1 rfl ?_
      refine jy_running false hN 0 rfl ?_
      refine br_f ?_ z
      rw [nI_add]
      exact nI_ne0 (by omega) (by omega)
/-- step a, then b -/
theorem js_a (hN : N ≤ 32) (hS : ja_S N sub) (hk : keep = 0) (hf : ¬ ff = 0) (st fi : Nat → Int32) : ∃ st' fi', (∀ post : SX → Prop, post (ja_X N lim keep sub clk sta ff lv sp du fa np op st' sa fi' re) → wpX_skipWhatCannotRun post (ja_X N lim keep sub clk sta ff lv sp du fa np op st sa fi re)) ∧ (∀ post : SY → Prop, post (ja_Y N lim keep sub clk sta ff lv sp du fa st' sa fi' lf kd rc) → wY_settle_72 post clk (nI N) lim keep sta ff clk sub lv sp du fa st sa fi lf kd rc) := by
  have hb := Nat.le_trans (jc_le (ja_r st lv true) N) hN
  have hl : nI N ≤ nI N := nI_le (Nat.le_refl _) (by omega)
  by_cases h : ja_si N sub st 1 ∧ jc_n (ja_r st lv true) N = 0
  · obtain ⟨st1, fi1, g3, g4⟩ := js_ka (lim := lim) (keep := keep) (sub := sub) (sta := sta) (ff := ff) (clk := clk) (lv := lv) (sp := sp) (du := du) (fa := fa) (np := np) (op := op) (sa := sa) (re := re) (lf := lf) (kd := kd) (rc := rc) hN N 0 (by omega) st fi
    obtain ⟨st2, fi2, k3, k4⟩ := js_b (lim := lim) (keep := keep) (sub := sub) (sta := sta) (ff := ff) (clk := clk) (lv := lv) (sp := sp) (du := du) (fa := fa) (np := np) (op := op) (sa := sa) (re := re) (lf := lf) (kd := kd) (rc := rc) hN st1 fi1
    refine ⟨st2, fi2, fun post z => ?_, fun post z => ?_⟩
    · unfold wpX_skipWhatCannotRun
      dsimp only
      refine jx_isSubmakeIn hN hS (fun _ => br_f ja_i1 ?_) (fun y => absurd h.1 y)
      exact br_t (by rw [h.2]; rfl) ⟨1 + N, g3 _ 1 (br_t hl (k3 post z))⟩
    · obtain ⟨⟨s, hs, e, hst⟩, h2⟩ := h
      subst e
      refine br_t hk (br_f hf (br_f (nI_pos (by omega)) ⟨vp_in_nI (by omega) (by omega), ?_⟩))
      rw [nI_clamp (show s < 2 ^ 31 by omega)]
      refine br_t hst (jy_running true hN 1 rfl ?_)
      exact br_t (by rw [h2]; rfl) ⟨1 + N, g4 post 1 (br_t hl (k4 post z))⟩
  · obtain ⟨st2, fi2, k3, k4⟩ := js_b (lim := lim) (keep := keep) (sub := sub) (sta := sta) (ff := ff) (clk := clk) (lv := lv) (sp := sp) (du := du) (fa := fa) (np := np) (op := op) (sa := sa) (re := re) (lf := lf) (kd := kd) (rc := rc) hN st fi
    refine ⟨st2, fi2, fun post z => ?_, fun post z => ?_⟩
    · unfold wpX_skipWhatCannotRun
      dsimp only
      refine jx_isSubmakeIn hN hS (fun h1 => br_f ja_i1 ?_) (fun y => br_t rfl (k3 post z))
      exact br_f (fun y => h ⟨h1, by
        rw [← nI_0, nI_eq (by omega) (by omega)] at y
        exact y⟩) (k3 post z)
    · refine br_t hk (br_f hf ?_)
      rcases ja_sub_in hS hN with ⟨e, _, hn⟩ | ⟨s, hs, e, hm, hi⟩
      · exact br_t (by rw [e]; decide) (k4 post z)
      · subst e
        refine br_f (nI_pos (by omega)) ⟨vp_in_nI (by omega) (by omega), ?_⟩
        rw [nI_clamp (show s < 2 ^ 31 by omega)]
        refine br_c (fun h1 => jy_running true hN 1 rfl ?_) (fun _ => k4 post z)
        exact br_f (fun y => h ⟨(hi st 1).mpr h1, by
          rw [← nI_0, nI_eq (by omega) (by omega)] at y
          exact y⟩) (k4 post z)
theorem js_tl (hN : N ≤ 32) (hS : ja_S N sub) (st fi : Nat → Int32) : ∃ st' fi', (∀ post : SX → Prop, post (ja_X N lim keep sub clk sta ff lv sp du fa np op st' sa fi' re) → wX_settle_71 post (nI N) lim keep sub clk sta ff (nI (jc_n (ja_r st lv false) N)) (nI (jc_n (ja_r st lv true) N)) lv sp du fa np op st sa fi re) ∧ (∀ post : SY → Prop, post (ja_Y N lim keep sub clk sta ff lv sp du fa st' sa fi' lf kd rc) → wY_settle_72 post clk (nI N) lim keep sta ff clk sub lv sp du fa st sa fi lf kd rc) := by
  by_cases h : ja_sp keep ff
  · obtain ⟨st1, fi1, g3, g4⟩ := js_a (lim := lim) (keep := keep) (sub := sub) (sta := sta) (ff := ff) (clk := clk) (lv := lv) (sp := sp) (du := du) (fa := fa) (np := np) (op := op) (sa := sa) (re := re) (lf := lf) (kd := kd) (rc := rc) hN hS h.1 h.2 st fi
    refine ⟨st1, fi1, fun post z => ?_, g4⟩
    unfold wX_settle_71
    refine jx_isStopping (fun _ => br_f ja_i1 ?_) (fun y => absurd h y)
    exact g3 _ z
  · refine ⟨st, fi, fun post z => ?_, fun post z => ?_⟩
    · unfold wX_settle_71
      exact jx_isStopping (fun y => absurd y h) (fun _ => br_t rfl z)
    · exact br_c (fun hk => br_c (fun hf => z) (fun hf => absurd ⟨hk, hf⟩ h)) (fun hk => z)
theorem js_settle (hN : N ≤ 32) (hS : ja_S N sub) (K : ja_K N np op kd) (hL : ja_L sub re lf) : ∃ st' sa' fi' re' lf', ja_L sub re' lf' ∧ (∀ post : SX → Prop, post (ja_X N lim keep sub clk sta ff lv sp du fa np op st' sa' fi' re') → wpX_settle post (ja_X N lim keep sub clk sta ff lv sp du fa np op st sa fi re)) ∧ (∀ post : SY → Prop, post (ja_Y N lim keep sub clk sta ff lv sp du fa st' sa' fi' lf' kd rc) → wpY_settle post (ja_Y N lim keep sub clk sta ff lv sp du fa st sa fi lf kd rc)) := by
  obtain ⟨st1, sa1, fi1, re1, lf1, g1, g2, g3⟩ := js_ps (lim := lim) (keep := keep) (sub := sub) (sta := sta) (ff := ff) (clk := clk) (lv := lv) (sp := sp) (du := du) (fa := fa) (rc := rc) hN hS K (N + 1) 0 (by omega) st sa fi re lf hL
  obtain ⟨st2, fi2, k3, k4⟩ := js_tl (lim := lim) (keep := keep) (sub := sub) (sta := sta) (ff := ff) (clk := clk) (lv := lv) (sp := sp) (du := du) (fa := fa) (np := np) (op := op) (sa := sa1) (re := re1) (lf := lf1) (kd := kd) (rc := rc) hN hS st1 fi1
  exact ⟨st2, sa1, fi2, re1, lf1, g1, fun post z => ⟨N + 1 + 1, g2 post (k3 post z)⟩, fun post z => ⟨N + 1 + 1, g3 post (k4 post z)⟩⟩
end
section
-- the relation
def i_Rel (k : Nat) (u : SX) (v : SY) : Prop :=
  ∃ (N : Nat) (lim keep sub clk sta ff : Int32) (lv sp du fa np op st sa fi re lf kd rc : Nat → Int32), u = (ja_X N lim keep sub clk sta ff lv sp du fa np op st sa fi re) ∧ v = (ja_Y N lim keep sub clk sta ff lv sp du fa st sa fi lf kd rc) ∧ ja_I N keep sub clk sta ff fa np op st re lf kd
theorem i_up {k : Nat} {u : SX} {v : SY} (h : i_Rel k u v) : i_Rel (k + 4) u v := h
theorem ja_mk {k N : Nat} {lim keep sub clk sta ff : Int32} {lv sp du fa np op st sa fi re lf kd rc : Nat → Int32} (h : ja_I N keep sub clk sta ff fa np op st re lf kd) : i_Rel k (ja_X N lim keep sub clk sta ff lv sp du fa np op st sa fi re) (ja_Y N lim keep sub clk sta ff lv sp du fa st sa fi lf kd rc) :=
  ⟨N, lim, keep, sub, clk, sta, ff, lv, sp, du, fa, np, op, st, sa, fi, re, lf, kd, rc, rfl, rfl, h⟩
theorem ja_mkT {k N : Nat} {lim keep sub clk sta ff rt rs : Int32} {lv sp du fa np op st sa fi re lf kd rc : Nat → Int32} (h : ja_I N keep sub clk sta ff fa np op st re lf kd) (e0 : rt = nI (jc_n (ja_r st lv false) N)) (e1 : rs = nI (jc_n (ja_r st lv true) N)) : i_Rel k (ja_T N lim keep sub clk sta ff rt rs lv sp du fa np op st sa fi re) (ja_Y N lim keep sub clk sta ff lv sp du fa st sa fi lf kd rc) := by
  subst e0 e1
  exact ja_mk h
theorem ja_tg (N : Nat) (hN : N ≤ 32) (v : Int32) : (v < 0 ∨ nI N ≤ v) ∨ ∃ j, j < N ∧ v = nI j := by
  rcases pk_ix v (n := N) (by omega) with h | h | h
  · exact .inl (.inl h)
  · exact .inl (.inr h)
  · exact .inr h
end
section
-- a tick's commands, on both sides
variable {N : Nat} {lim keep sub clk sta ff : Int32} {lv sp du fa np op st sa fi re lf kd rc : Nat → Int32}
theorem jt_adv (hN : N ≤ 32) : ∀ d i, i + d = N → ∀ (c ff : Int32) (sp st fi re lf : Nat → Int32), ja_B ff → ja_L sub re lf → ∃ c' ff' sp' st' fi' re' lf', ja_B ff' ∧ ja_L sub re' lf' ∧ (∀ (post : Int32 → SX → Prop) f, wX_advanceCommands_4 post f c' (nI N) (nI N) lim keep sub clk sta ff' (nI (jc_n (ja_r st' lv false) N)) (nI (jc_n (ja_r st' lv true) N)) lv sp' du fa np op st' sa fi' re' → wX_advanceCommands_4 post (f + d) c (nI i) (nI N) lim keep sub clk sta ff (nI (jc_n (ja_r st lv false) N)) (nI (jc_n (ja_r st lv true) N)) lv sp du fa np op st sa fi re) ∧ (∀ (post : Int32 → SY → Prop) f, wY_tick_35 post clk f c' (nI N) (nI N) lim keep sta ff' clk sub lv sp' du fa st' sa fi' lf' kd rc → wY_tick_35 post clk (f + d) c (nI i) (nI N) lim keep sta ff clk sub lv sp du fa st sa fi lf kd rc) := by
  intro d
  induction d with
  | zero =>
    intro i hi c ff sp st fi re lf hB hL
    have e : i = N := by omega
    subst e
    exact ⟨c, ff, sp, st, fi, re, lf, hB, hL, fun _ f z => z, fun _ f z => z⟩
  | succ d ih =>
    intro i hi c ff sp st fi re lf hB hL
    have hin : vp_in (nI i) 32 := vp_in_nI (by omega) (by omega)
    have hcl : (nI i).toNatClampNeg = i := nI_clamp (by omega)
    have hge : ¬ nI N ≤ nI i := nI_ge (by omega) (by omega)
    by_cases hs : nI i = sub
    · obtain ⟨c', ff', sp', st', fi', re', lf', g1, g2, g3, g4⟩ := ih (i + 1) (by omega) c ff sp st fi re lf hB hL
      refine ⟨c', ff', sp', st', fi', re', lf', g1, g2, fun post f z => ?_, fun post f z => ?_⟩
      · exact br_f hge (br_t hs (nm_r (nI_1 i) (g3 post f z)))
      · refine br_f hge ⟨hin, ?_⟩
        exact br_c (fun _ => br_t hs (nm_r (nI_1 i) (g4 post f z))) (fun _ => nm_r (nI_1 i) (g4 post f z))
    · by_cases h1 : st i = 1
      · have e : re i = lf i := hL i (by omega) hs
        by_cases hz : lf i - 1 = 0
        · by_cases hf : fa i = 0
          · obtain ⟨c', ff', sp', st', fi', re', lf', g1, g2, g3, g4⟩ := ih (i + 1) (by omega) (c + 1) ff (upd sp i (1000000 + clk)) (upd st i 2) (upd fi i clk) (upd re i (lf i - 1)) (upd lf i (lf i - 1)) hB (ja_Lu hL)
            refine ⟨c', ff', sp', st', fi', re', lf', g1, g2, fun post f z => ?_, fun post f z => ?_⟩
            · refine br_f hge (br_f hs ⟨hin, ?_⟩)
              rw [hcl]
              refine br_t h1 ⟨hin, hin, nm_r (by rw [e]) ⟨hin, ?_⟩⟩
              rw [pk_us]
              refine br_t hz ⟨hin, jx_endRun hN (by omega) h1 (fun y => absurd hf y) (fun _ => ?_)⟩
              exact nm_e (nm_r (nI_1 i) (g3 post f z))
            · refine br_f hge ⟨hin, ?_⟩
              rw [hcl]
              refine br_t h1 (br_f hs ⟨hin, hin, nm_e ⟨hin, ?_⟩⟩)
              rw [pk_us]
              refine br_t hz (nm_e ⟨hin, br_t hf (jy_finish (by omega) ⟨hin, ?_⟩)⟩)
              exact nm_e (nm_r (nI_1 i) (g4 post f z))
          · obtain ⟨c', ff', sp', st', fi', re', lf', g1, g2, g3, g4⟩ := ih (i + 1) (by omega) (c + 1) 1 sp (upd st i 4) (upd fi i clk) (upd re i (lf i - 1)) (upd lf i (lf i - 1)) ja_B1 (ja_Lu hL)
            refine ⟨c', ff', sp', st', fi', re', lf', g1, g2, fun post f z => ?_, fun post f z => ?_⟩
            · refine br_f hge (br_f hs ⟨hin, ?_⟩)
              rw [hcl]
              refine br_t h1 ⟨hin, hin, nm_r (by rw [e]) ⟨hin, ?_⟩⟩
              rw [pk_us]
              refine br_t hz ⟨hin, jx_endRun hN (by omega) h1 (fun _ => ?_) (fun y => absurd y hf)⟩
              exact nm_e (nm_r (nI_1 i) (g3 post f z))
            · refine br_f hge ⟨hin, ?_⟩
              rw [hcl]
              refine br_t h1 (br_f hs ⟨hin, hin, nm_e ⟨hin, ?_⟩⟩)
              rw [pk_us]
              refine br_t hz (nm_e ⟨hin, br_f hf (jy_finish (by omega) ?_)⟩)
              exact nm_r (nI_1 i) (g4 post f z)
        · obtain ⟨c', ff', sp', st', fi', re', lf', g1, g2, g3, g4⟩ := ih (i + 1) (by omega) c ff sp st fi (upd re i (lf i - 1)) (upd lf i (lf i - 1)) hB (ja_Lu hL)
          refine ⟨c', ff', sp', st', fi', re', lf', g1, g2, fun post f z => ?_, fun post f z => ?_⟩
          · refine br_f hge (br_f hs ⟨hin, ?_⟩)
            rw [hcl]
            refine br_t h1 ⟨hin, hin, nm_r (by rw [e]) ⟨hin, ?_⟩⟩
            rw [pk_us]
            exact br_f hz (nm_r (nI_1 i) (g3 post f z))
          · refine br_f hge ⟨hin, ?_⟩
            rw [hcl]
            refine br_t h1 (br_f hs ⟨hin, hin, nm_e ⟨hin, ?_⟩⟩)
            rw [pk_us]
            exact br_f hz (nm_r (nI_1 i) (g4 post f z))
      · obtain ⟨c', ff', sp', st', fi', re', lf', g1, g2, g3, g4⟩ := ih (i + 1) (by omega) c ff sp st fi re lf hB hL
        refine ⟨c', ff', sp', st', fi', re', lf', g1, g2, fun post f z => ?_, fun post f z => ?_⟩
        · refine br_f hge (br_f hs ⟨hin, ?_⟩)
          rw [hcl]
          exact br_f h1 (nm_r (nI_1 i) (g3 post f z))
        · refine br_f hge ⟨hin, ?_⟩
          rw [hcl]
          exact br_f h1 (nm_r (nI_1 i) (g4 post f z))
theorem jt_ex {N i : Nat} {P : Nat → Prop} (hi : i < N) : (∃ t, i ≤ t ∧ t < N ∧ P t) ↔ (P i ∨ ∃ t, i + 1 ≤ t ∧ t < N ∧ P t) := by
  constructor
  · intro ⟨t, h1, h2, h3⟩
    by_cases e : t = i
    · subst e
      exact .inl h3
    · exact .inr ⟨t, by omega, h2, h3⟩
  · intro h
    rcases h with h | ⟨t, h1, h2, h3⟩
    · exact ⟨i, Nat.le_refl _, hi, h⟩
    · exact ⟨t, by omega, h2, h3⟩
/-- the reference's look at the sub-build: all done? one bad? -/
theorem jt_fl {x1 x2 : Int32} (hN : N ≤ 32) : ∀ d i, i + d = N → ∀ a b : Int32, ∃ a' b' : Int32, (a' = 0 ↔ (a = 0 ∨ ∃ t, i ≤ t ∧ t < N ∧ lv t = 1 ∧ ja_und st t)) ∧ (b' = 0 ↔ (b = 0 ∧ ¬ ∃ t, i ≤ t ∧ t < N ∧ lv t = 1 ∧ ja_bad st t)) ∧ ∀ (post : Int32 → SY → Prop) f, wY_tick_165 post x1 x2 (nI N) lim keep sta ff clk sub lv sp du fa st sa fi lf kd rc f a' b' (nI N) → wY_tick_165 post x1 x2 (nI N) lim keep sta ff clk sub lv sp du fa st sa fi lf kd rc (f + d) a b (nI i) := by
  intro d
  induction d with
  | zero =>
    intro i hi a b
    have e : i = N := by omega
    subst e
    exact ⟨a, b, ⟨.inl, fun h => h.elim id (fun ⟨t, h1, h2, _⟩ => by omega)⟩, ⟨fun h => ⟨h, fun ⟨t, h1, h2, _⟩ => by omega⟩, fun h => h.1⟩, fun _ f z => z⟩
  | succ d ih =>
    intro i hi a b
    have hiN : i < N := by omega
    have hin : vp_in (nI i) 32 := vp_in_nI (by omega) (by omega)
    have hcl : (nI i).toNatClampNeg = i := nI_clamp (by omega)
    have hge : ¬ nI N ≤ nI i := nI_ge (by omega) (by omega)
    have xa := jt_ex (N := N) (i := i) (P := fun t => lv t = 1 ∧ ja_und st t) hiN
    have xb := jt_ex (N := N) (i := i) (P := fun t => lv t = 1 ∧ ja_bad st t) hiN
    by_cases hl : lv i = 1
    · -- the two flags behind i
      have g : ∀ a1 b1 : Int32, (a1 = 0 ↔ (a = 0 ∨ ja_und st i)) → (b1 = 0 ↔ (b = 0 ∧ ¬ ja_bad st i)) → (∀ (post : Int32 → SY → Prop) (n : Nat), wY_tick_165 post x1 x2 (nI N) lim keep sta ff clk sub lv sp du fa st sa fi lf kd rc n a1 b1 (nI (i + 1)) → wY_tick_165 post x1 x2 (nI N) lim keep sta ff clk sub lv sp du fa st sa fi lf kd rc (n + 1) a b (nI i)) → ∃ a' b' : Int32, (a' = 0 ↔ (a = 0 ∨ ∃ t, i ≤ t ∧ t < N ∧ lv t = 1 ∧ ja_und st t)) ∧ (b' = 0 ↔ (b = 0 ∧ ¬ ∃ t, i ≤ t ∧ t < N ∧ lv t = 1 ∧ ja_bad st t)) ∧ ∀ (post : Int32 → SY → Prop) f, wY_tick_165 post x1 x2 (nI N) lim keep sta ff clk sub lv sp du fa st sa fi lf kd rc f a' b' (nI N) → wY_tick_165 post x1 x2 (nI N) lim keep sta ff clk sub lv sp du fa st sa fi lf kd rc (f + (d + 1)) a b (nI i) := by
        intro a1 b1 h1 h2 hw
        obtain ⟨a', b', k1, k2, k3⟩ := ih (i + 1) (by omega) a1 b1
        refine ⟨a', b', ?_, ?_, fun post f z => hw post (f + d) (k3 post f z)⟩
        · rw [k1, h1, xa]
          constructor
          · intro y
            rcases y with (y | y) | y
            · exact .inl y
            · exact .inr (.inl ⟨hl, y⟩)
            · exact .inr (.inr y)
          · intro y
            rcases y with y | y | y
            · exact .inl (.inl y)
            · exact .inl (.inr y.2)
            · exact .inr y
        · rw [k2, h2, xb]
          constructor
          · intro y
            exact ⟨y.1.1, fun w => w.elim (fun w => y.1.2 w.2) y.2⟩
          · intro y
            exact ⟨⟨y.1, fun w => y.2 (.inl ⟨hl, w⟩)⟩, fun w => y.2 (.inr w)⟩
      by_cases h0 : st i = 0
      · refine g 0 b ⟨fun _ => .inr (.inl h0), fun _ => rfl⟩ ⟨fun y => ⟨y, fun w => by rcases w with w | w <;> rw [h0] at w <;> exact absurd w (by decide)⟩, fun y => y.1⟩ (fun post n z => br_f hge (jy_isSub (by omega) (fun _ => br_f ja_i1 ⟨hin, ?_⟩) (fun y => absurd hl y)))
        rw [hcl]
        refine br_t h0 ⟨hin, ?_⟩
        rw [hcl]
        refine br_f (by rw [h0]; decide) ⟨hin, ?_⟩
        exact br_f (by rw [h0]; decide) (nm_r (nI_1 i) z)
      · by_cases h1 : st i = 1
        · refine g 0 b ⟨fun _ => .inr (.inr h1), fun _ => rfl⟩ ⟨fun y => ⟨y, fun w => by rcases w with w | w <;> rw [h1] at w <;> exact absurd w (by decide)⟩, fun y => y.1⟩ (fun post n z => br_f hge (jy_isSub (by omega) (fun _ => br_f ja_i1 ⟨hin, ?_⟩) (fun y => absurd hl y)))
          rw [hcl]
          refine br_f h0 ⟨hin, br_t h1 ⟨hin, ?_⟩⟩
          rw [hcl]
          refine br_f (by rw [h1]; decide) ⟨hin, ?_⟩
          exact br_f (by rw [h1]; decide) (nm_r (nI_1 i) z)
        · have nu : ¬ ja_und st i := fun y => y.elim h0 h1
          by_cases h4 : st i = 4
          · refine g a 1 ⟨.inl, fun y => y.elim id (fun w => absurd w nu)⟩ ⟨fun y => absurd y (by decide), fun y => absurd (.inl h4) y.2⟩ (fun post n z => br_f hge (jy_isSub (by omega) (fun _ => br_f ja_i1 ⟨hin, ?_⟩) (fun y => absurd hl y)))
            rw [hcl]
            refine br_f h0 ⟨hin, br_f h1 ⟨hin, ?_⟩⟩
            rw [hcl]
            exact br_t h4 (nm_r (nI_1 i) z)
          · by_cases h5 : st i = 5
            · refine g a 1 ⟨.inl, fun y => y.elim id (fun w => absurd w nu)⟩ ⟨fun y => absurd y (by decide), fun y => absurd (.inr h5) y.2⟩ (fun post n z => br_f hge (jy_isSub (by omega) (fun _ => br_f ja_i1 ⟨hin, ?_⟩) (fun y => absurd hl y)))
              rw [hcl]
              refine br_f h0 ⟨hin, br_f h1 ⟨hin, ?_⟩⟩
              rw [hcl]
              refine br_f h4 ⟨hin, ?_⟩
              exact br_t h5 (nm_r (nI_1 i) z)
            · refine g a b ⟨.inl, fun y => y.elim id (fun w => absurd w nu)⟩ ⟨fun y => ⟨y, fun w => w.elim h4 h5⟩, fun y => y.1⟩ (fun post n z => br_f hge (jy_isSub (by omega) (fun _ => br_f ja_i1 ⟨hin, ?_⟩) (fun y => absurd hl y)))
              rw [hcl]
              refine br_f h0 ⟨hin, br_f h1 ⟨hin, ?_⟩⟩
              rw [hcl]
              refine br_f h4 ⟨hin, ?_⟩
              exact br_f h5 (nm_r (nI_1 i) z)
    · obtain ⟨a', b', k1, k2, k3⟩ := ih (i + 1) (by omega) a b
      refine ⟨a', b', ?_, ?_, fun post f z => br_f hge (jy_isSub (by omega) (fun y => absurd y hl) (fun _ => br_t rfl (nm_r (nI_1 i) (k3 post f z))))⟩
      · rw [k1, xa]
        exact ⟨fun y => y.elim .inl (fun y => .inr (.inr y)), fun y => y.elim .inl (fun y => y.elim (fun w => absurd w.1 hl) .inr)⟩
      · rw [k2, xb]
        exact ⟨fun y => ⟨y.1, fun w => w.elim (fun w => hl w.1) y.2⟩, fun y => ⟨y.1, fun w => y.2 (.inr w)⟩⟩
end
section
-- the constructors
theorem ja_01 : ¬ (0 : Int32) = 1 := by decide
def jz_f (x : Int32) (i : Nat) : Nat → Int32 := fun j => if j < i then x else 0
theorem jz_0 (x : Int32) : jz_f x 0 = fun _ => 0 := by
  funext j
  exact if_neg (by omega)
theorem jz_s (x : Int32) (i : Nat) : upd (jz_f x i) i x = jz_f x (i + 1) := by
  funext j
  unfold jz_f
  by_cases e : j = i
  · subst e
    rw [pk_us, if_pos (by omega)]
  · rw [pk_un e]
    by_cases h : j < i
    · rw [if_pos h, if_pos (by omega)]
    · rw [if_neg h, if_neg (by omega)]
theorem jz_u (i : Nat) : upd (fun _ => 0) i 0 = fun _ => 0 := ja_u0 rfl
theorem jz_X {r1 r2 kp : Int32} (post : SX → Prop) : ∀ d i, i + d = 32 → ∀ f, wX_init_152 post r1 r2 kp (-1) 0 0 0 0 0 f (nI 32) (fun _ => 0) (fun _ => 0) (jz_f 1 32) (fun _ => 0) (fun _ => 0) (fun _ => 0) (fun _ => 0) (jz_f (-1) 32) (jz_f (-1) 32) (fun _ => 0) → wX_init_152 post r1 r2 kp (-1) 0 0 0 0 0 (f + d) (nI i) (fun _ => 0) (fun _ => 0) (jz_f 1 i) (fun _ => 0) (fun _ => 0) (fun _ => 0) (fun _ => 0) (jz_f (-1) i) (jz_f (-1) i) (fun _ => 0) := by
  intro d
  induction d with
  | zero =>
    intro i hi f z
    have e : i = 32 := by omega
    subst e
    exact z
  | succ d ih =>
    intro i hi f z
    have hin : vp_in (nI i) 32 := vp_in_nI (by omega) (by omega)
    have hcl : (nI i).toNatClampNeg = i := nI_clamp (by omega)
    refine br_f (nI_ge (b := 32) (by omega) (by omega)) ⟨hin, nm_r (by rw [hcl, jz_u]) ⟨hin, nm_r (by rw [hcl, jz_s]) ⟨hin, nm_r (by rw [hcl, jz_u]) ⟨hin, nm_r (by rw [hcl, jz_s]) ⟨hin, nm_r (by rw [hcl, jz_s]) (nm_r (nI_1 i) ?_)⟩⟩⟩⟩⟩
    exact ih (i + 1) (by omega) f z
theorem jz_Y {r1 r2 kp : Int32} (post : SY → Prop) : ∀ d i, i + d = 32 → ∀ f, wY_init_165 post r1 r2 kp 0 0 0 (-1) f (nI 32) (fun _ => 0) (fun _ => 0) (jz_f 1 32) (fun _ => 0) (fun _ => 0) (jz_f (-1) 32) (jz_f (-1) 32) (fun _ => 0) (fun _ => 0) (fun _ => 0) → wY_init_165 post r1 r2 kp 0 0 0 (-1) (f + d) (nI i) (fun _ => 0) (fun _ => 0) (jz_f 1 i) (fun _ => 0) (fun _ => 0) (jz_f (-1) i) (jz_f (-1) i) (fun _ => 0) (fun _ => 0) (fun _ => 0) := by
  intro d
  induction d with
  | zero =>
    intro i hi f z
    have e : i = 32 := by omega
    subst e
    exact z
  | succ d ih =>
    intro i hi f z
    have hin : vp_in (nI i) 32 := vp_in_nI (by omega) (by omega)
    have hcl : (nI i).toNatClampNeg = i := nI_clamp (by omega)
    refine br_f (nI_ge (b := 32) (by omega) (by omega)) ⟨hin, nm_r (by rw [hcl, jz_s]) ⟨hin, nm_r (by rw [hcl, jz_s]) ⟨hin, nm_r (by rw [hcl, jz_s]) (nm_r (nI_1 i) ?_)⟩⟩⟩
    exact ih (i + 1) (by omega) f z
theorem jz_cl (lo hi x : Int32) : ∃ r : Int32, (r = lo ∨ r = hi ∨ (r = x ∧ lo ≤ x ∧ x ≤ hi)) ∧ ∀ Q : Int32 → Prop, Q r → ((lo ≤ x → ((x ≤ hi → Q x) ∧ (¬ x ≤ hi → Q hi))) ∧ (¬ lo ≤ x → Q lo)) := by
  by_cases h : lo ≤ x
  · by_cases h2 : x ≤ hi
    · exact ⟨x, .inr (.inr ⟨rfl, h, h2⟩), fun Q q => br_t h (br_t h2 q)⟩
    · exact ⟨hi, .inr (.inl rfl), fun Q q => br_t h (br_f h2 q)⟩
  · exact ⟨lo, .inl rfl, fun Q q => br_f h q⟩
theorem jz_N {x r : Int32} (h : r = 1 ∨ r = 32 ∨ (r = x ∧ 1 ≤ x ∧ x ≤ 32)) : ∃ N, 1 ≤ N ∧ N ≤ 32 ∧ r = nI N := by
  rcases h with h | h | ⟨h, h1, h2⟩
  · exact ⟨1, by omega, by omega, h⟩
  · exact ⟨32, by omega, by omega, h⟩
  · subst h
    have h0 : ¬ r < 0 := Int32.not_lt.mpr (Int32.le_trans (by decide) h1)
    obtain ⟨j, hj, e⟩ := nI_of h0
    subst e
    have a : nI 1 ≤ nI j := h1
    have b : nI j ≤ nI 32 := h2
    rw [nI_leI (by omega) (by omega)] at a
    rw [nI_leI (by omega) (by omega)] at b
    exact ⟨j, a, b, rfl⟩
theorem jz_k (x : Int32) : ∃ kp : Int32, ja_B kp ∧ (∀ Q : Int32 → Prop, Q kp → ((x ≤ 0 → Q 0) ∧ (¬ x ≤ 0 → Q 1))) ∧ (∀ Q : Int32 → Prop, Q kp → ((0 ≤ x → ((x ≤ 1 → Q x) ∧ (¬ x ≤ 1 → Q 1))) ∧ (¬ 0 ≤ x → Q 0))) := by
  have t0 : (0 : Int32).toInt = 0 := by decide
  have t1 : (1 : Int32).toInt = 1 := by decide
  by_cases h : x ≤ 0
  · refine ⟨0, ja_B0, fun Q q => br_t h q, fun Q q => br_c (fun h2 => ?_) (fun _ => q)⟩
    have e : x = 0 := Int32.le_antisymm h h2
    subst e
    exact br_t (by decide) q
  · refine ⟨1, ja_B1, fun Q q => br_f h q, fun Q q => br_c (fun h2 => br_c (fun h3 => ?_) (fun _ => q)) (fun h2 => ?_)⟩
    · have e : x = 1 := by
        apply Int32.toInt_inj.mp
        rw [Int32.le_iff_toInt_le] at h h2 h3
        omega
      subst e
      exact q
    · rw [Int32.le_iff_toInt_le] at h h2
      omega
theorem i_vc0 (k0 : Int32) (k1 : Int32) (k2 : Int32) : wpX_init (fun u => wpY_init (fun v => i_Rel 3 u v) k0 k1 k2) k0 k1 k2 := by
  obtain ⟨r1, h1, q1⟩ := jz_cl 1 32 k0
  obtain ⟨r2, h2, q2⟩ := jz_cl 1 8 k1
  obtain ⟨kp, hk, q3, q4⟩ := jz_k k2
  obtain ⟨N, hN1, hN, e⟩ := jz_N h1
  subst e
  have hr : i_Rel 3 (ja_T N r2 kp (-1) 0 0 0 0 0 (fun _ => 0) (fun _ => 0) (jz_f 1 32) (fun _ => 0) (fun _ => 0) (fun _ => 0) (fun _ => 0) (jz_f (-1) 32) (jz_f (-1) 32) (fun _ => 0)) (ja_Y N r2 kp (-1) 0 0 0 (fun _ => 0) (fun _ => 0) (jz_f 1 32) (fun _ => 0) (fun _ => 0) (jz_f (-1) 32) (jz_f (-1) 32) (fun _ => 0) (fun _ => 0) (fun _ => 0)) := by
    have c : ∀ b, jc_n (ja_r (fun _ => 0) (fun _ => 0) b) N = 0 := fun b => by
      have z : ∀ n, jc_n (fun _ => false) n = 0 := fun n => by
        induction n with
        | zero => rfl
        | succ n ih => rw [jc_sf rfl, ih]
      rw [← z N]
      exact jc_cg N (fun i _ => ja_r_n ja_01)
    refine ja_mkT ⟨hN1, hN, fun _ => ⟨rfl, fun _ => ja_01⟩, hk, ja_B0, ja_B0, .inl rfl, fun _ => ja_B0, ja_K0 N, fun _ _ _ => rfl⟩ ?_ ?_
    · rw [c]
      rfl
    · rw [c]
      rfl
  have hx : nI 32 ≤ nI 32 := nI_le (Nat.le_refl _) (by omega)
  have yy : wpY_init (fun v => i_Rel 3 (ja_T N r2 kp (-1) 0 0 0 0 0 (fun _ => 0) (fun _ => 0) (jz_f 1 32) (fun _ => 0) (fun _ => 0) (fun _ => 0) (fun _ => 0) (jz_f (-1) 32) (jz_f (-1) 32) (fun _ => 0)) v) k0 k1 k2 := by
    have lp : ∃ n165 : Nat, wY_init_165 (fun v => i_Rel 3 (ja_T N r2 kp (-1) 0 0 0 0 0 (fun _ => 0) (fun _ => 0) (jz_f 1 32) (fun _ => 0) (fun _ => 0) (fun _ => 0) (fun _ => 0) (jz_f (-1) 32) (jz_f (-1) 32) (fun _ => 0)) v) (nI N) r2 kp 0 0 0 (-1) n165 0 (fun _ => 0) (fun _ => 0) (fun _ => 0) (fun _ => 0) (fun _ => 0) (fun _ => 0) (fun _ => 0) (fun _ => 0) (fun _ => 0) (fun _ => 0) := by
      have z := jz_Y (r1 := nI N) (r2 := r2) (kp := kp) (fun v => i_Rel 3 (ja_T N r2 kp (-1) 0 0 0 0 0 (fun _ => 0) (fun _ => 0) (jz_f 1 32) (fun _ => 0) (fun _ => 0) (fun _ => 0) (fun _ => 0) (jz_f (-1) 32) (jz_f (-1) 32) (fun _ => 0)) v) 32 0 rfl 1 (br_t hx hr)
      rw [jz_0, jz_0] at z
      exact ⟨_, z⟩
    refine q1 (fun r => wY_init_112 (fun v => i_Rel 3 (ja_T N r2 kp (-1) 0 0 0 0 0 (fun _ => 0) (fun _ => 0) (jz_f 1 32) (fun _ => 0) (fun _ => 0) (fun _ => 0) (fun _ => 0) (jz_f (-1) 32) (jz_f (-1) 32) (fun _ => 0)) v) k1 k2 r 0 0 0 0 0 0 (-1) (fun _ => 0) (fun _ => 0) (fun _ => 0) (fun _ => 0) (fun _ => 0) (fun _ => 0) (fun _ => 0) (fun _ => 0) (fun _ => 0) (fun _ => 0)) ?_
    refine q2 (fun r => wY_init_137 (fun v => i_Rel 3 (ja_T N r2 kp (-1) 0 0 0 0 0 (fun _ => 0) (fun _ => 0) (jz_f 1 32) (fun _ => 0) (fun _ => 0) (fun _ => 0) (fun _ => 0) (jz_f (-1) 32) (jz_f (-1) 32) (fun _ => 0)) v) k2 r (nI N) 0 0 0 0 0 (-1) (fun _ => 0) (fun _ => 0) (fun _ => 0) (fun _ => 0) (fun _ => 0) (fun _ => 0) (fun _ => 0) (fun _ => 0) (fun _ => 0) (fun _ => 0)) ?_
    exact q4 (fun r => ∃ n165 : Nat, wY_init_165 (fun v => i_Rel 3 (ja_T N r2 kp (-1) 0 0 0 0 0 (fun _ => 0) (fun _ => 0) (jz_f 1 32) (fun _ => 0) (fun _ => 0) (fun _ => 0) (fun _ => 0) (jz_f (-1) 32) (jz_f (-1) 32) (fun _ => 0)) v) (nI N) r2 r 0 0 0 (-1) n165 0 (fun _ => 0) (fun _ => 0) (fun _ => 0) (fun _ => 0) (fun _ => 0) (fun _ => 0) (fun _ => 0) (fun _ => 0) (fun _ => 0) (fun _ => 0)) lp
  have lpx : ∃ n152 : Nat, wX_init_152 (fun u => wpY_init (fun v => i_Rel 3 u v) k0 k1 k2) (nI N) r2 kp (-1) 0 0 0 0 0 n152 0 (fun _ => 0) (fun _ => 0) (fun _ => 0) (fun _ => 0) (fun _ => 0) (fun _ => 0) (fun _ => 0) (fun _ => 0) (fun _ => 0) (fun _ => 0) := by
    have z := jz_X (r1 := nI N) (r2 := r2) (kp := kp) (fun u => wpY_init (fun v => i_Rel 3 u v) k0 k1 k2) 32 0 rfl 1 (br_t hx yy)
    rw [jz_0, jz_0] at z
    exact ⟨_, z⟩
  refine q1 (fun r => wpX_clamp (fun r2 => (k2 ≤ 0 → ∃ n152 : Nat, wX_init_152 (fun u => wpY_init (fun v => i_Rel 3 u v) k0 k1 k2) r r2 0 (-1) 0 0 0 0 0 n152 0 (fun _ => 0) (fun _ => 0) (fun _ => 0) (fun _ => 0) (fun _ => 0) (fun _ => 0) (fun _ => 0) (fun _ => 0) (fun _ => 0) (fun _ => 0)) ∧ (¬ k2 ≤ 0 → ∃ n152 : Nat, wX_init_152 (fun u => wpY_init (fun v => i_Rel 3 u v) k0 k1 k2) r r2 1 (-1) 0 0 0 0 0 n152 0 (fun _ => 0) (fun _ => 0) (fun _ => 0) (fun _ => 0) (fun _ => 0) (fun _ => 0) (fun _ => 0) (fun _ => 0) (fun _ => 0) (fun _ => 0))) k1 1 8) ?_
  refine q2 (fun r2 => (k2 ≤ 0 → ∃ n152 : Nat, wX_init_152 (fun u => wpY_init (fun v => i_Rel 3 u v) k0 k1 k2) (nI N) r2 0 (-1) 0 0 0 0 0 n152 0 (fun _ => 0) (fun _ => 0) (fun _ => 0) (fun _ => 0) (fun _ => 0) (fun _ => 0) (fun _ => 0) (fun _ => 0) (fun _ => 0) (fun _ => 0)) ∧ (¬ k2 ≤ 0 → ∃ n152 : Nat, wX_init_152 (fun u => wpY_init (fun v => i_Rel 3 u v) k0 k1 k2) (nI N) r2 1 (-1) 0 0 0 0 0 n152 0 (fun _ => 0) (fun _ => 0) (fun _ => 0) (fun _ => 0) (fun _ => 0) (fun _ => 0) (fun _ => 0) (fun _ => 0) (fun _ => 0) (fun _ => 0))) ?_
  exact q3 (fun r => ∃ n152 : Nat, wX_init_152 (fun u => wpY_init (fun v => i_Rel 3 u v) k0 k1 k2) (nI N) r2 r (-1) 0 0 0 0 0 n152 0 (fun _ => 0) (fun _ => 0) (fun _ => 0) (fun _ => 0) (fun _ => 0) (fun _ => 0) (fun _ => 0) (fun _ => 0) (fun _ => 0) (fun _ => 0)) lpx
end
section
-- the setup calls
variable {N : Nat} {lim keep sub clk sta ff rt rs : Int32} {lv sp du fa np op st sa fi re lf kd rc : Nat → Int32} {post : Int32 → Prop}
def jv_b (lv : Nat → Int32) (t : Nat) : Int32 := if lv t = 1 then 1 else 0
theorem jv_X {t : Nat} (ht : t < 32) (hp : post (jv_b lv t)) : wpX_isSub post (ja_T N lim keep sub clk sta ff rt rs lv sp du fa np op st sa fi re) (nI t) :=
  jx_isSub ht (fun h => by unfold jv_b at hp; rw [if_pos h] at hp; exact hp) (fun h => by unfold jv_b at hp; rw [if_neg h] at hp; exact hp)
theorem jv_Y {t : Nat} (ht : t < 32) (hp : post (jv_b lv t)) : wpY_isSub post (ja_Y N lim keep sub clk sta ff lv sp du fa st sa fi lf kd rc) (nI t) :=
  jy_isSub ht (fun h => by unfold jv_b at hp; rw [if_pos h] at hp; exact hp) (fun h => by unfold jv_b at hp; rw [if_neg h] at hp; exact hp)
theorem i_vc_addPrereq {k : Nat} {u : SX} {v : SY} (I : i_Rel k u v) (hk : k + 4 ≤ 2051) (v1 : Int32) (v2 : Int32) (v3 : Int32) : wpX_addPrereq (fun r u' => wpY_addPrereq (fun r' v' => r' = r ∧ i_Rel (k + 4) u' v') v v1 v2 (lw_bz v3)) u v1 v2 (lw_bz v3) := by
  obtain ⟨N, lim, keep, sub, clk, sta, ff, lv, sp, du, fa, np, op, st, sa, fi, re, lf, kd, rc, rfl, rfl, I⟩ := I
  have J := I
  obtain ⟨hN1, hN, h0, hke, hst, hff, hS, hfa, K, hL⟩ := I
  unfold wpX_addPrereq
  dsimp only
  by_cases hs : sta = 0
  · rcases ja_tg N hN v1 with h1 | ⟨t, ht, rfl⟩
    · exact jx_open_f (.inr h1) (br_t rfl (br_t hs (jy_in_f h1 (br_t rfl ⟨rfl, ja_mk J⟩))))
    · refine jx_open_t hN hs ht (br_f ja_i1 ?_)
      rcases ja_tg N hN v2 with h2 | ⟨p, hp, rfl⟩
      · exact jx_isTarget_f h2 (br_t rfl (br_t hs (jy_in_t hN ht (br_f ja_i1 (jy_in_f h2 (br_t rfl ⟨rfl, ja_mk J⟩))))))
      · refine jx_isTarget_t hN hp (br_f ja_i1 ?_)
        by_cases e : nI t = nI p
        · exact br_t e (br_t hs (jy_in_t hN ht (br_f ja_i1 (jy_in_t hN hp (br_f ja_i1 (br_t e ⟨rfl, ja_mk J⟩))))))
        · refine br_f e (jv_X (by omega) (jv_X (by omega) ?_))
          by_cases el : jv_b lv t = jv_b lv p
          · have hin : vp_in (nI (t * 32 + p)) 1024 := vp_in_nI (by omega) (by omega)
            have cx : (nI (t * 32 + p)).toNatClampNeg = t * 32 + p := nI_clamp (by omega)
            have hit : vp_in (nI t) 32 := vp_in_nI (by omega) (by omega)
            have ct : (nI t).toNatClampNeg = t := nI_clamp (by omega)
            refine br_t el (jx_isPrereq (by omega) (by omega) (fun hE => br_f ja_i1 ?_) (fun hE => br_t rfl ?_))
            · refine br_t hs (jy_in_t hN ht (br_f ja_i1 (jy_in_t hN hp (br_f ja_i1 (br_f e (jv_Y (by omega) (jv_Y (by omega) (br_t el ?_))))))))
              rw [jy_ix]
              refine ⟨hin, ?_⟩
              rw [cx, K.1 t p (by omega) (by omega)]
              exact br_f (ja_kn.mpr hE) ⟨rfl, ja_mk J⟩
            · have hz : bt (np t ||| op t) p = false := by
                cases y : bt (np t ||| op t) p with
                | false => rfl
                | true => exact absurd y hE
              obtain ⟨S, d1, d2, d3⟩ := jx_isReachable (lim := lim) (keep := keep) (sub := sub) (clk := clk) (sta := sta) (ff := ff) (rt := nI (jc_n (ja_r st lv false) N)) (rs := nI (jc_n (ja_r st lv true) N)) (lv := lv) (sp := sp) (du := du) (fa := fa) (st := st) (sa := sa) (fi := fi) (re := re) hN K.2 hp ht
              obtain ⟨rc', e1, e2, e3⟩ := jy_reachable (rc := rc) (lim := lim) (keep := keep) (sub := sub) (clk := clk) (sta := sta) (ff := ff) (lv := lv) (sp := sp) (du := du) (fa := fa) (st := st) (sa := sa) (fi := fi) (lf := lf) hN K hp ht
              have uq := jr_uq d1 d2 e1 e2 t
              -- the reference, up to reachable
              have yy : ∀ (P : Int32 → SY → Prop), (jy_set rc' t = true → P 0 (ja_Y N lim keep sub clk sta ff lv sp du fa st sa fi lf kd rc')) → (¬ jy_set rc' t = true → (lw_bz v3 = 0 → P 1 (ja_Y N lim keep sub clk sta ff lv sp du fa st sa fi lf (upd kd (t * 32 + p) 1) rc')) ∧ (¬ lw_bz v3 = 0 → P 1 (ja_Y N lim keep sub clk sta ff lv sp du fa st sa fi lf (upd kd (t * 32 + p) 2) rc'))) → wpY_addPrereq P (ja_Y N lim keep sub clk sta ff lv sp du fa st sa fi lf kd rc) (nI t) (nI p) (lw_bz v3) := by
                intro P p1 p0
                refine br_t hs (jy_in_t hN ht (br_f ja_i1 (jy_in_t hN hp (br_f ja_i1 (br_f e (jv_Y (by omega) (jv_Y (by omega) (br_t el ?_))))))))
                rw [jy_ix]
                refine ⟨hin, ?_⟩
                rw [cx, K.1 t p (by omega) (by omega)]
                refine br_t (ja_k0.mpr hz) (e3 _ (fun y => br_f ja_i1 (p1 y)) (fun y => br_t rfl ?_))
                exact br_c (fun z => ⟨hin, nm_e ((p0 y).1 z)⟩) (fun z => ⟨hin, nm_e ((p0 y).2 z)⟩)
              refine d3 _ (fun y => br_f ja_i1 (yy _ (fun _ => ⟨rfl, ja_mk J⟩) (fun w => absurd (uq.mp y) w))) (fun y => br_t rfl ?_)
              have ny : ¬ jy_set rc' t = true := fun w => y (uq.mpr w)
              refine br_c (fun z => ⟨hit, hit, nm_r (by rw [ct]) (yy _ (fun w => absurd w ny) (fun _ => ⟨fun _ => ⟨rfl, ?_⟩, fun w => absurd z w⟩))⟩) (fun z => ⟨hit, hit, nm_r (by rw [ct]) (yy _ (fun w => absurd w ny) (fun _ => ⟨fun w => absurd w z, fun _ => ⟨rfl, ?_⟩⟩))⟩)
              · exact ja_mk ⟨hN1, hN, h0, hke, hst, hff, hS, hfa, ja_Kn hN K ht hp, hL⟩
              · exact ja_mk ⟨hN1, hN, h0, hke, hst, hff, hS, hfa, ja_Ko hN K ht hp hz, hL⟩
          · exact br_f el (br_t hs (jy_in_t hN ht (br_f ja_i1 (jy_in_t hN hp (br_f ja_i1 (br_f e (jv_Y (by omega) (jv_Y (by omega) (br_f el ⟨rfl, ja_mk J⟩)))))))))
  · exact jx_open_f (.inl hs) (br_t rfl (br_f hs ⟨rfl, ja_mk J⟩))
theorem i_vc_setTime {k : Nat} {u : SX} {v : SY} (I : i_Rel k u v) (hk : k + 4 ≤ 2051) (v1 : Int32) (v2 : Int32) : wpX_setTime (fun r u' => wpY_setTime (fun r' v' => r' = r ∧ i_Rel (k + 4) u' v') v v1 v2) u v1 v2 := by
  obtain ⟨N, lim, keep, sub, clk, sta, ff, lv, sp, du, fa, np, op, st, sa, fi, re, lf, kd, rc, rfl, rfl, I⟩ := I
  have J := I
  obtain ⟨hN1, hN, h0, hke, hst, hff, hS, hfa, K, hL⟩ := I
  unfold wpX_setTime
  dsimp only
  by_cases hs : sta = 0
  · rcases ja_tg N hN v1 with h1 | ⟨t, ht, rfl⟩
    · exact jx_open_f (.inr h1) (br_t rfl (br_t hs (jy_in_f h1 (br_t rfl ⟨rfl, ja_mk J⟩))))
    · refine jx_open_t hN hs ht (br_f ja_i1 ?_)
      have hit : vp_in (nI t) 32 := vp_in_nI (by omega) (by omega)
      refine br_c (fun a => br_t hs (jy_in_t hN ht (br_f ja_i1 (br_t a ⟨rfl, ja_mk J⟩)))) (fun a => br_c (fun b => ⟨hit, nm_e ?_⟩) (fun b => br_t hs (jy_in_t hN ht (br_f ja_i1 (br_f a (br_f b ⟨rfl, ja_mk J⟩))))))
      exact br_t hs (jy_in_t hN ht (br_f ja_i1 (br_f a (br_t b ⟨hit, nm_e ⟨rfl, ja_mk J⟩⟩))))
  · exact jx_open_f (.inl hs) (br_t rfl (br_f hs ⟨rfl, ja_mk J⟩))
theorem i_vc_setCommand {k : Nat} {u : SX} {v : SY} (I : i_Rel k u v) (hk : k + 4 ≤ 2051) (v1 : Int32) (v2 : Int32) (v3 : Int32) : wpX_setCommand (fun r u' => wpY_setCommand (fun r' v' => r' = r ∧ i_Rel (k + 4) u' v') v v1 v2 (lw_bz v3)) u v1 v2 (lw_bz v3) := by
  obtain ⟨N, lim, keep, sub, clk, sta, ff, lv, sp, du, fa, np, op, st, sa, fi, re, lf, kd, rc, rfl, rfl, I⟩ := I
  have J := I
  obtain ⟨hN1, hN, h0, hke, hst, hff, hS, hfa, K, hL⟩ := I
  unfold wpX_setCommand
  dsimp only
  by_cases hs : sta = 0
  · rcases ja_tg N hN v1 with h1 | ⟨t, ht, rfl⟩
    · exact jx_open_f (.inr h1) (br_t rfl (br_t hs (jy_in_f h1 (br_t rfl ⟨rfl, ja_mk J⟩))))
    · refine jx_open_t hN hs ht (br_f ja_i1 ?_)
      have hit : vp_in (nI t) 32 := vp_in_nI (by omega) (by omega)
      refine br_c (fun a => br_t hs (jy_in_t hN ht (br_f ja_i1 (br_t a ⟨rfl, ja_mk J⟩)))) (fun a => br_c (fun b => ⟨hit, nm_e ⟨hit, nm_e ?_⟩⟩) (fun b => br_t hs (jy_in_t hN ht (br_f ja_i1 (br_f a (br_f b ⟨rfl, ja_mk J⟩))))))
      refine br_t hs (jy_in_t hN ht (br_f ja_i1 (br_f a (br_t b ⟨hit, nm_e ⟨hit, nm_e ⟨rfl, ja_mk ?_⟩⟩⟩))))
      refine ⟨hN1, hN, h0, hke, hst, hff, hS, fun i => ?_, K, hL⟩
      rw [ja_Bv (lw_bz_01 v3), nI_clamp (by omega)]
      by_cases e : i = t
      · subst e
        rw [pk_us]
        exact lw_bz_01 v3
      · rw [pk_un e]
        exact hfa i
  · exact jx_open_f (.inl hs) (br_t rfl (br_f hs ⟨rfl, ja_mk J⟩))
theorem i_vc_setSubmake {k : Nat} {u : SX} {v : SY} (I : i_Rel k u v) (hk : k + 4 ≤ 2051) (v1 : Int32) : wpX_setSubmake (fun r u' => wpY_setSubmake (fun r' v' => r' = r ∧ i_Rel (k + 4) u' v') v v1) u v1 := by
  obtain ⟨N, lim, keep, sub, clk, sta, ff, lv, sp, du, fa, np, op, st, sa, fi, re, lf, kd, rc, rfl, rfl, I⟩ := I
  have J := I
  obtain ⟨hN1, hN, h0, hke, hst, hff, hS, hfa, K, hL⟩ := I
  unfold wpX_setSubmake
  dsimp only
  by_cases hs : sta = 0
  · rcases ja_tg N hN v1 with h1 | ⟨t, ht, rfl⟩
    · exact jx_open_f (.inr h1) (br_t rfl (br_t hs (jy_in_f h1 (br_t rfl ⟨rfl, ja_mk J⟩))))
    · refine jx_open_t hN hs ht (br_f ja_i1 ?_)
      have hit : vp_in (nI t) 32 := vp_in_nI (by omega) (by omega)
      rcases ja_sub_in hS hN with ⟨e, hno, _⟩ | ⟨s, hsN, e, hm, _⟩
      · refine br_t e ⟨hit, nm_e (br_t hs (jy_in_t hN ht (br_f ja_i1 (br_t (by rw [e]; decide) ⟨hit, nm_e ⟨rfl, ja_mkT ?_ ?_ ?_⟩⟩))))⟩
        · exact ⟨hN1, hN, h0, hke, hst, hff, .inr ⟨t, ht, rfl⟩, hfa, K, fun i hi _ => hL i hi (hno i hi)⟩
        · rw [ja_c0 (h0 hs).2]
        · rw [ja_c0 (h0 hs).2]
      · exact br_f hm (br_t hs (jy_in_t hN ht (br_f ja_i1 (br_f (by rw [e]; exact nI_pos (by omega)) ⟨rfl, ja_mk J⟩))))
  · exact jx_open_f (.inl hs) (br_t rfl (br_f hs ⟨rfl, ja_mk J⟩))
theorem i_vc_setSub {k : Nat} {u : SX} {v : SY} (I : i_Rel k u v) (hk : k + 4 ≤ 2051) (v1 : Int32) : wpX_setSub (fun r u' => wpY_setSub (fun r' v' => r' = r ∧ i_Rel (k + 4) u' v') v v1) u v1 := by
  obtain ⟨N, lim, keep, sub, clk, sta, ff, lv, sp, du, fa, np, op, st, sa, fi, re, lf, kd, rc, rfl, rfl, I⟩ := I
  have J := I
  obtain ⟨hN1, hN, h0, hke, hst, hff, hS, hfa, K, hL⟩ := I
  unfold wpX_setSub
  dsimp only
  by_cases hs : sta = 0
  · rcases ja_tg N hN v1 with h1 | ⟨t, ht, rfl⟩
    · exact jx_open_f (.inr h1) (br_t rfl (br_t hs (jy_in_f h1 (br_t rfl ⟨rfl, ja_mk J⟩))))
    · refine jx_open_t hN hs ht (br_f ja_i1 ?_)
      have hit : vp_in (nI t) 32 := vp_in_nI (by omega) (by omega)
      have ct : (nI t).toNatClampNeg = t := nI_clamp (by omega)
      rcases ja_sub_in hS hN with ⟨e, _, _⟩ | ⟨s, hsN, e, hm, _⟩
      · exact br_t e (br_t hs (jy_in_t hN ht (br_f ja_i1 (br_t (by rw [e]; decide) ⟨rfl, ja_mk J⟩))))
      · have hneg : ¬ sub < 0 := by rw [e]; exact nI_pos (by omega)
        refine br_f hm ⟨hit, ?_⟩
        rw [ct]
        -- the reference's two loops
        have yy : ∀ (P : Int32 → SY → Prop), lv t = 0 → (((∃ p, p < N ∧ ja_E np op t p) ∨ ∃ x, x < N ∧ ja_E np op x t) → P 0 (ja_Y N lim keep sub clk sta ff lv sp du fa st sa fi lf kd rc)) → (¬ ((∃ p, p < N ∧ ja_E np op t p) ∨ ∃ x, x < N ∧ ja_E np op x t) → P 1 (ja_Y N lim keep sub clk sta ff (upd lv t 1) sp du fa st sa fi lf kd rc)) → wpY_setSub P (ja_Y N lim keep sub clk sta ff lv sp du fa st sa fi lf kd rc) (nI t) := by
          intro P hl p0 p1
          refine br_t hs (jy_in_t hN ht (br_f ja_i1 (br_f hneg ⟨hit, ?_⟩)))
          rw [ct]
          refine br_t hl ?_
          refine js_ex (fun n i => wY_setSub_35 P (nI t) (nI N) lim keep sta ff clk sub lv sp du fa st sa fi lf kd rc n (nI i)) (fun p => ja_E np op t p) N (P 0 (ja_Y N lim keep sub clk sta ff lv sp du fa st sa fi lf kd rc)) (∃ n67 : Nat, wY_setSub_67 P (nI t) (nI N) lim keep sta ff clk sub lv sp du fa st sa fi lf kd rc n67 0) ?_ ?_ ?_ (fun z => p0 (.inl z)) (fun z => ?_)
          · intro q n
            exact br_t (nI_le (Nat.le_refl _) (by omega)) q
          · intro q n i hi hc
            have cx : (nI (t * 32 + i)).toNatClampNeg = t * 32 + i := nI_clamp (by omega)
            refine br_f (nI_ge hi (by omega)) ?_
            rw [jy_ix]
            refine ⟨vp_in_nI (by omega) (by omega), ?_⟩
            rw [cx, K.1 t i (by omega) (by omega)]
            exact br_f (ja_kn.mpr hc) q
          · intro n i hi hc hw
            have cx : (nI (t * 32 + i)).toNatClampNeg = t * 32 + i := nI_clamp (by omega)
            refine br_f (nI_ge hi (by omega)) ?_
            rw [jy_ix]
            refine ⟨vp_in_nI (by omega) (by omega), ?_⟩
            rw [cx, K.1 t i (by omega) (by omega)]
            exact br_t (Classical.byContradiction (fun y => hc (ja_kn.mp y))) (nm_r (nI_1 i) hw)
          · refine js_ex (fun n i => wY_setSub_67 P (nI t) (nI N) lim keep sta ff clk sub lv sp du fa st sa fi lf kd rc n (nI i)) (fun x => ja_E np op x t) N (P 0 (ja_Y N lim keep sub clk sta ff lv sp du fa st sa fi lf kd rc)) (P 1 (ja_Y N lim keep sub clk sta ff (upd lv t 1) sp du fa st sa fi lf kd rc)) ?_ ?_ ?_ (fun w => p0 (.inr w)) (fun w => p1 (fun y => y.elim z w))
            · intro q n
              exact br_t (nI_le (Nat.le_refl _) (by omega)) ⟨hit, nm_r (by rw [ct]) q⟩
            · intro q n i hi hc
              have cx : (nI (i * 32 + t)).toNatClampNeg = i * 32 + t := nI_clamp (by omega)
              refine br_f (nI_ge hi (by omega)) ?_
              rw [jy_ix]
              refine ⟨vp_in_nI (by omega) (by omega), ?_⟩
              rw [cx, K.1 i t (by omega) (by omega)]
              exact br_f (ja_kn.mpr hc) q
            · intro n i hi hc hw
              have cx : (nI (i * 32 + t)).toNatClampNeg = i * 32 + t := nI_clamp (by omega)
              refine br_f (nI_ge hi (by omega)) ?_
              rw [jy_ix]
              refine ⟨vp_in_nI (by omega) (by omega), ?_⟩
              rw [cx, K.1 i t (by omega) (by omega)]
              exact br_t (Classical.byContradiction (fun y => hc (ja_kn.mp y))) (nm_r (nI_1 i) hw)
        refine br_c (fun hl => ?_) (fun hl => ?_)
        · refine jx_prereqsOf (by omega) ?_
          by_cases hz : np t ||| op t = 0
          · have nrow : ¬ ∃ p, p < N ∧ ja_E np op t p := fun ⟨p, hp, z⟩ => by
              unfold ja_E at z
              rw [hz, b_0] at z
              exact absurd z (by decide)
            refine br_t hz (jx_isPrereqOfAny hN (by omega) (fun w => br_f ja_i1 (yy _ hl (fun _ => ⟨rfl, ja_mk J⟩) (fun y => absurd (.inr w) y))) (fun w => br_t rfl ⟨hit, nm_e (yy _ hl (fun y => absurd y (fun y => y.elim nrow w)) (fun _ => ⟨rfl, ja_mkT ?_ ?_ ?_⟩))⟩))
            · exact J
            · rw [ja_c0 (h0 hs).2]
            · rw [ja_c0 (h0 hs).2]
          · refine br_f hz (yy _ hl (fun _ => ⟨rfl, ja_mk J⟩) (fun y => ?_))
            exfalso
            apply hz
            rw [jb_z]
            intro i hi
            cases z : bt (np t ||| op t) i with
            | false => rfl
            | true => exact absurd (.inl ⟨i, K.2 t i (by omega) z, z⟩) y
        · refine br_t hs (jy_in_t hN ht (br_f ja_i1 (br_f hneg ⟨hit, ?_⟩)))
          rw [ct]
          exact br_f hl ⟨rfl, ja_mk J⟩
  · exact jx_open_f (.inl hs) (br_t rfl (br_f hs ⟨rfl, ja_mk J⟩))
end
section
-- start and tick
theorem i_vc_start {k : Nat} {u : SX} {v : SY} (I : i_Rel k u v) (hk : k + 4 ≤ 2051) : wpX_start (fun r u' => wpY_start (fun r' v' => r' = r ∧ i_Rel (k + 4) u' v') v) u := by
  obtain ⟨N, lim, keep, sub, clk, sta, ff, lv, sp, du, fa, np, op, st, sa, fi, re, lf, kd, rc, rfl, rfl, I⟩ := I
  have J := I
  obtain ⟨hN1, hN, h0, hke, hst, hff, hS, hfa, K, hL⟩ := I
  by_cases hs : sta = 0
  · obtain ⟨hc, _⟩ := h0 hs
    subst hc
    obtain ⟨st', sa', fi', re', lf', g1, g2, g3⟩ := js_settle (lim := lim) (keep := keep) (sub := sub) (sta := 1) (ff := ff) (clk := 0) (lv := lv) (sp := sp) (du := du) (fa := fa) (st := st) (sa := sa) (fi := fi) (rc := rc) hN hS K hL
    refine br_t hs (g2 _ (br_t hs (g3 _ ⟨rfl, ja_mk ?_⟩)))
    exact ⟨hN1, hN, fun z => absurd z (by decide), hke, ja_B1, hff, hS, hfa, K, g1⟩
  · exact br_f hs (br_f hs ⟨rfl, ja_mk J⟩)
theorem i_vc_tick {k : Nat} {u : SX} {v : SY} (I : i_Rel k u v) (hk : k + 4 ≤ 2051) : wpX_tick (fun r u' => wpY_tick (fun r' v' => r' = r ∧ i_Rel (k + 4) u' v') v) u := by
  obtain ⟨N, lim, keep, sub, clk, sta, ff, lv, sp, du, fa, np, op, st, sa, fi, re, lf, kd, rc, rfl, rfl, I⟩ := I
  have J := I
  obtain ⟨hN1, hN, h0, hke, hst, hff, hS, hfa, K, hL⟩ := I
  by_cases hs : sta = 0
  · exact br_t hs (br_t hs ⟨rfl, ja_mk J⟩)
  · refine br_f hs ?_
    by_cases hq : ¬ sta = 0 ∧ ¬ ∃ t, t < N ∧ ja_und st t
    · exact jx_isQuiet hN (fun _ => br_f ja_i1 (br_f hs (jy_isQuiet hN (fun _ => br_f ja_i1 ⟨rfl, ja_mk J⟩) (fun y => absurd hq y)))) (fun y => absurd hq y)
    · refine jx_isQuiet hN (fun y => absurd y hq) (fun _ => br_t rfl (nm_e ?_))
      have hl : nI N ≤ nI N := nI_le (Nat.le_refl _) (by omega)
      obtain ⟨c, ff1, sp1, st1, fi1, re1, lf1, a1, a2, a3, a4⟩ := jt_adv (lim := lim) (keep := keep) (sub := sub) (sta := sta) (clk := clk + 1) (lv := lv) (du := du) (fa := fa) (np := np) (op := op) (sa := sa) (kd := kd) (rc := rc) hN N 0 (by omega) 0 ff sp st fi re lf hff hL
      -- the reference, up to its look at the sub-build
      have yy : ∀ (P : Int32 → SY → Prop), wY_tick_35 P (clk + 1) 1 c (nI N) (nI N) lim keep sta ff1 (clk + 1) sub lv sp1 du fa st1 sa fi1 lf1 kd rc → wpY_tick P (ja_Y N lim keep sub clk sta ff lv sp du fa st sa fi lf kd rc) := fun P z =>
        br_f hs (jy_isQuiet hN (fun y => absurd y hq) (fun _ => br_t rfl (nm_e ⟨1 + N, a4 P 1 z⟩)))
      refine ⟨1 + N, a3 _ 1 (br_t hl ?_)⟩
      have sg : ∀ {ff' : Int32} {st' re' lf' : Nat → Int32}, ja_B ff' → ja_L sub re' lf' → ja_I N keep sub (clk + 1) sta ff' fa np op st' re' lf' kd := fun b l => ⟨hN1, hN, fun z => absurd z hs, hke, hst, b, hS, hfa, K, l⟩
      by_cases ho : ja_si N sub st1 1 ∧ ¬ ∃ t, t < N ∧ lv t = 1 ∧ ja_und st1 t
      · obtain ⟨⟨s, hsN, es, hst1⟩, hd⟩ := ho
        have ho : ja_si N sub st1 1 ∧ ¬ ∃ t, t < N ∧ lv t = 1 ∧ ja_und st1 t := ⟨⟨s, hsN, es, hst1⟩, hd⟩
        have his : vp_in (nI s) 32 := vp_in_nI (by omega) (by omega)
        have cs : (nI s).toNatClampNeg = s := nI_clamp (by omega)
        obtain ⟨fa', fb', f1, f2, f3⟩ := jt_fl (x1 := clk + 1) (x2 := c) (lim := lim) (keep := keep) (sub := sub) (sta := sta) (ff := ff1) (clk := clk + 1) (lv := lv) (sp := sp1) (du := du) (fa := fa) (st := st1) (sa := sa) (fi := fi1) (lf := lf1) (kd := kd) (rc := rc) hN N 0 (by omega) 1 0
        have na : ¬ fa' = 0 := fun z => (f1.mp z).elim (fun y => absurd y (by decide)) (fun ⟨t, _, ht, w⟩ => hd ⟨t, ht, w⟩)
        by_cases hb : ∃ t, t < N ∧ lv t = 1 ∧ ja_bad st1 t
        · have nb : ¬ fb' = 0 := fun z => (f2.mp z).2 (by
            obtain ⟨t, ht, w⟩ := hb
            exact ⟨t, Nat.zero_le _, ht, w⟩)
          obtain ⟨st', sa', fi', re', lf', g1, g2, g3⟩ := js_settle (lim := lim) (keep := keep) (sub := sub) (sta := sta) (ff := 1) (clk := clk + 1) (lv := lv) (sp := sp1) (du := du) (fa := fa) (st := upd st1 s 4) (sa := sa) (fi := upd fi1 s (clk + 1)) (rc := rc) hN hS K a2
          subst es
          refine jx_isSubBuildOver hN hS (fun _ => br_f ja_i1 ?_) (fun y => absurd ho y)
          refine jx_hasBadSub hN (fun _ => ?_) (fun y => absurd hb y)
          refine jx_endRun hN hsN hst1 (fun _ => nm_e (g2 _ ?_)) (fun y => absurd y (by decide))
          refine yy _ (br_t hl (br_f (nI_pos (by omega)) ⟨his, ?_⟩))
          rw [cs]
          refine br_t hst1 ⟨1 + N, f3 _ 1 (br_t hl (br_f na (nm_e (br_f nb (jy_finish (by omega) (g3 _ ⟨rfl, ja_mk (sg ja_B1 g1)⟩))))))⟩
        · have nb : fb' = 0 := f2.mpr ⟨rfl, fun ⟨t, _, ht, w⟩ => hb ⟨t, ht, w⟩⟩
          obtain ⟨st', sa', fi', re', lf', g1, g2, g3⟩ := js_settle (lim := lim) (keep := keep) (sub := sub) (sta := sta) (ff := ff1) (clk := clk + 1) (lv := lv) (sp := upd sp1 s (1000000 + (clk + 1))) (du := du) (fa := fa) (st := upd st1 s 2) (sa := sa) (fi := upd fi1 s (clk + 1)) (rc := rc) hN hS K a2
          subst es
          refine jx_isSubBuildOver hN hS (fun _ => br_f ja_i1 ?_) (fun y => absurd ho y)
          refine jx_hasBadSub hN (fun y => absurd y hb) (fun _ => ?_)
          refine jx_endRun hN hsN hst1 (fun y => absurd rfl y) (fun _ => nm_e (g2 _ ?_))
          refine yy _ (br_t hl (br_f (nI_pos (by omega)) ⟨his, ?_⟩))
          rw [cs]
          refine br_t hst1 ⟨1 + N, f3 _ 1 (br_t hl (br_f na (nm_e (br_t nb (jy_finish (by omega) ⟨his, nm_r (by rw [cs]) (g3 _ ⟨rfl, ja_mk (sg a1 g1)⟩)⟩)))))⟩
      · obtain ⟨st', sa', fi', re', lf', g1, g2, g3⟩ := js_settle (lim := lim) (keep := keep) (sub := sub) (sta := sta) (ff := ff1) (clk := clk + 1) (lv := lv) (sp := sp1) (du := du) (fa := fa) (st := st1) (sa := sa) (fi := fi1) (rc := rc) hN hS K a2
        refine jx_isSubBuildOver hN hS (fun y => absurd y ho) (fun _ => br_t rfl (g2 _ ?_))
        refine yy _ (br_t hl ?_)
        rcases ja_sub_in hS hN with ⟨e, _, _⟩ | ⟨s, hsN, es, hm, hi⟩
        · exact br_t (by rw [e]; decide) (g3 _ ⟨rfl, ja_mk (sg a1 g1)⟩)
        · have his : vp_in (nI s) 32 := vp_in_nI (by omega) (by omega)
          have cs : (nI s).toNatClampNeg = s := nI_clamp (by omega)
          obtain ⟨fa', fb', f1, f2, f3⟩ := jt_fl (x1 := clk + 1) (x2 := c) (lim := lim) (keep := keep) (sub := sub) (sta := sta) (ff := ff1) (clk := clk + 1) (lv := lv) (sp := sp1) (du := du) (fa := fa) (st := st1) (sa := sa) (fi := fi1) (lf := lf1) (kd := kd) (rc := rc) hN N 0 (by omega) 1 0
          subst es
          refine br_f (nI_pos (by omega)) ⟨his, ?_⟩
          rw [cs]
          refine br_c (fun h1 => ⟨1 + N, f3 _ 1 (br_t hl (br_t ?_ (g3 _ ⟨rfl, ja_mk (sg a1 g1)⟩)))⟩) (fun _ => g3 _ ⟨rfl, ja_mk (sg a1 g1)⟩)
          rw [f1]
          right
          have hx : ∃ t, t < N ∧ lv t = 1 ∧ ja_und st1 t := Classical.byContradiction (fun y => ho ⟨(hi st1 1).mpr h1, y⟩)
          obtain ⟨t, ht, w⟩ := hx
          exact ⟨t, Nat.zero_le _, ht, w⟩
end
section
-- the calls that only read
theorem i_vc_status {k : Nat} {u : SX} {v : SY} (I : i_Rel k u v) (hk : k + 4 ≤ 2051) (v1 : Int32) : wpX_status (fun r => wpY_status (fun r' => r' = r ∧ i_Rel (k + 4) u v) v v1) u v1 := by
  obtain ⟨N, lim, keep, sub, clk, sta, ff, lv, sp, du, fa, np, op, st, sa, fi, re, lf, kd, rc, rfl, rfl, I⟩ := I
  have J := I
  obtain ⟨hN1, hN, h0, hke, hst, hff, hS, hfa, K, hL⟩ := I
  unfold wpX_status wpY_status
  dsimp only
  rcases ja_tg N hN v1 with h1 | ⟨t, ht, rfl⟩
  · exact jx_isTarget_f h1 (br_t rfl (jy_in_f h1 (br_t rfl ⟨rfl, ja_mk J⟩)))
  · have hit : vp_in (nI t) 32 := vp_in_nI (by omega) (by omega)
    exact jx_isTarget_t hN ht (br_f ja_i1 ⟨hit, jy_in_t hN ht (br_f ja_i1 ⟨hit, rfl, ja_mk J⟩)⟩)
theorem i_vc_timeOf {k : Nat} {u : SX} {v : SY} (I : i_Rel k u v) (hk : k + 4 ≤ 2051) (v1 : Int32) : wpX_timeOf (fun r => wpY_timeOf (fun r' => r' = r ∧ i_Rel (k + 4) u v) v v1) u v1 := by
  obtain ⟨N, lim, keep, sub, clk, sta, ff, lv, sp, du, fa, np, op, st, sa, fi, re, lf, kd, rc, rfl, rfl, I⟩ := I
  have J := I
  obtain ⟨hN1, hN, h0, hke, hst, hff, hS, hfa, K, hL⟩ := I
  unfold wpX_timeOf wpY_timeOf
  dsimp only
  rcases ja_tg N hN v1 with h1 | ⟨t, ht, rfl⟩
  · exact jx_isTarget_f h1 (br_t rfl (jy_in_f h1 (br_t rfl ⟨rfl, ja_mk J⟩)))
  · have hit : vp_in (nI t) 32 := vp_in_nI (by omega) (by omega)
    exact jx_isTarget_t hN ht (br_f ja_i1 ⟨hit, jy_in_t hN ht (br_f ja_i1 ⟨hit, rfl, ja_mk J⟩)⟩)
theorem i_vc_startedAt {k : Nat} {u : SX} {v : SY} (I : i_Rel k u v) (hk : k + 4 ≤ 2051) (v1 : Int32) : wpX_startedAt (fun r => wpY_startedAt (fun r' => r' = r ∧ i_Rel (k + 4) u v) v v1) u v1 := by
  obtain ⟨N, lim, keep, sub, clk, sta, ff, lv, sp, du, fa, np, op, st, sa, fi, re, lf, kd, rc, rfl, rfl, I⟩ := I
  have J := I
  obtain ⟨hN1, hN, h0, hke, hst, hff, hS, hfa, K, hL⟩ := I
  unfold wpX_startedAt wpY_startedAt
  dsimp only
  rcases ja_tg N hN v1 with h1 | ⟨t, ht, rfl⟩
  · exact jx_isTarget_f h1 (br_t rfl (jy_in_f h1 (br_t rfl ⟨rfl, ja_mk J⟩)))
  · have hit : vp_in (nI t) 32 := vp_in_nI (by omega) (by omega)
    exact jx_isTarget_t hN ht (br_f ja_i1 ⟨hit, jy_in_t hN ht (br_f ja_i1 ⟨hit, rfl, ja_mk J⟩)⟩)
theorem i_vc_finishedAt {k : Nat} {u : SX} {v : SY} (I : i_Rel k u v) (hk : k + 4 ≤ 2051) (v1 : Int32) : wpX_finishedAt (fun r => wpY_finishedAt (fun r' => r' = r ∧ i_Rel (k + 4) u v) v v1) u v1 := by
  obtain ⟨N, lim, keep, sub, clk, sta, ff, lv, sp, du, fa, np, op, st, sa, fi, re, lf, kd, rc, rfl, rfl, I⟩ := I
  have J := I
  obtain ⟨hN1, hN, h0, hke, hst, hff, hS, hfa, K, hL⟩ := I
  unfold wpX_finishedAt wpY_finishedAt
  dsimp only
  rcases ja_tg N hN v1 with h1 | ⟨t, ht, rfl⟩
  · exact jx_isTarget_f h1 (br_t rfl (jy_in_f h1 (br_t rfl ⟨rfl, ja_mk J⟩)))
  · have hit : vp_in (nI t) 32 := vp_in_nI (by omega) (by omega)
    exact jx_isTarget_t hN ht (br_f ja_i1 ⟨hit, jy_in_t hN ht (br_f ja_i1 ⟨hit, rfl, ja_mk J⟩)⟩)
theorem i_vc_level {k : Nat} {u : SX} {v : SY} (I : i_Rel k u v) (hk : k + 4 ≤ 2051) (v1 : Int32) : wpX_level (fun r => wpY_level (fun r' => r' = r ∧ i_Rel (k + 4) u v) v v1) u v1 := by
  obtain ⟨N, lim, keep, sub, clk, sta, ff, lv, sp, du, fa, np, op, st, sa, fi, re, lf, kd, rc, rfl, rfl, I⟩ := I
  have J := I
  obtain ⟨hN1, hN, h0, hke, hst, hff, hS, hfa, K, hL⟩ := I
  unfold wpX_level wpY_level
  dsimp only
  rcases ja_tg N hN v1 with h1 | ⟨t, ht, rfl⟩
  · exact jx_isTarget_f h1 (br_t rfl (jy_in_f h1 (br_t rfl ⟨rfl, ja_mk J⟩)))
  · have hit : vp_in (nI t) 32 := vp_in_nI (by omega) (by omega)
    exact jx_isTarget_t hN ht (br_f ja_i1 ⟨hit, jy_in_t hN ht (br_f ja_i1 ⟨hit, rfl, ja_mk J⟩)⟩)
theorem i_vc_commandOf {k : Nat} {u : SX} {v : SY} (I : i_Rel k u v) (hk : k + 4 ≤ 2051) (v1 : Int32) : wpX_commandOf (fun r => wpY_commandOf (fun r' => r' = r ∧ i_Rel (k + 4) u v) v v1) u v1 := by
  obtain ⟨N, lim, keep, sub, clk, sta, ff, lv, sp, du, fa, np, op, st, sa, fi, re, lf, kd, rc, rfl, rfl, I⟩ := I
  have J := I
  obtain ⟨hN1, hN, h0, hke, hst, hff, hS, hfa, K, hL⟩ := I
  unfold wpX_commandOf wpY_commandOf
  dsimp only
  rcases ja_tg N hN v1 with h1 | ⟨t, ht, rfl⟩
  · exact jx_isTarget_f h1 (br_t rfl (jy_in_f h1 (br_t rfl ⟨rfl, ja_mk J⟩)))
  · have hit : vp_in (nI t) 32 := vp_in_nI (by omega) (by omega)
    refine jx_isTarget_t hN ht (br_f ja_i1 ⟨hit, br_c (fun h => ⟨hit, ?_⟩) (fun h => ⟨hit, ?_⟩)⟩)
    · exact jy_in_t hN ht (br_f ja_i1 ⟨hit, hit, br_t h ⟨Int32.add_zero _, ja_mk J⟩⟩)
    · exact jy_in_t hN ht (br_f ja_i1 ⟨hit, hit, br_f h ⟨rfl, ja_mk J⟩⟩)
theorem i_vc_prereqKind {k : Nat} {u : SX} {v : SY} (I : i_Rel k u v) (hk : k + 4 ≤ 2051) (v1 : Int32) (v2 : Int32) : wpX_prereqKind (fun r => wpY_prereqKind (fun r' => r' = r ∧ i_Rel (k + 4) u v) v v1 v2) u v1 v2 := by
  obtain ⟨N, lim, keep, sub, clk, sta, ff, lv, sp, du, fa, np, op, st, sa, fi, re, lf, kd, rc, rfl, rfl, I⟩ := I
  have J := I
  obtain ⟨hN1, hN, h0, hke, hst, hff, hS, hfa, K, hL⟩ := I
  unfold wpX_prereqKind wpY_prereqKind
  dsimp only
  rcases ja_tg N hN v1 with h1 | ⟨t, ht, rfl⟩
  · exact jx_isTarget_f h1 (br_t rfl (jy_in_f h1 (br_t rfl ⟨rfl, ja_mk J⟩)))
  · refine jx_isTarget_t hN ht (br_f ja_i1 ?_)
    rcases ja_tg N hN v2 with h2 | ⟨p, hp, rfl⟩
    · exact jx_isTarget_f h2 (br_t rfl (jy_in_t hN ht (br_f ja_i1 (jy_in_f h2 (br_t rfl ⟨rfl, ja_mk J⟩)))))
    · have hit : vp_in (nI t) 32 := vp_in_nI (by omega) (by omega)
      have ct : (nI t).toNatClampNeg = t := nI_clamp (by omega)
      have cx : (nI (t * 32 + p)).toNatClampNeg = t * 32 + p := nI_clamp (by omega)
      have yy : ∀ r : Int32, ja_k np op t p = r → wpY_prereqKind (fun r' => r' = r ∧ i_Rel (k + 4) (ja_X N lim keep sub clk sta ff lv sp du fa np op st sa fi re) (ja_Y N lim keep sub clk sta ff lv sp du fa st sa fi lf kd rc)) (ja_Y N lim keep sub clk sta ff lv sp du fa st sa fi lf kd rc) (nI t) (nI p) := fun r e => by
        unfold wpY_prereqKind
        dsimp only
        refine jy_in_t hN ht (br_f ja_i1 (jy_in_t hN hp (br_f ja_i1 ?_)))
        rw [jy_ix]
        refine ⟨vp_in_nI (by omega) (by omega), ?_⟩
        rw [cx, K.1 t p (by omega) (by omega)]
        exact ⟨e, ja_mk J⟩
      refine jx_isTarget_t hN hp (br_f ja_i1 ⟨hit, ?_⟩)
      rw [ct]
      refine jx_hasBit (by omega) (fun h => br_f ja_i1 (yy 1 (ja_k1.mpr h))) (fun h => br_t rfl ⟨hit, ?_⟩)
      refine jx_hasBit (by omega) (fun h' => br_f ja_i1 (yy 2 ?_)) (fun h' => br_t rfl (yy 0 ?_))
      · unfold ja_k
        rw [if_neg h, if_pos h']
      · unfold ja_k
        rw [if_neg h, if_neg h']
theorem i_vc_tokensFree {k : Nat} {u : SX} {v : SY} (I : i_Rel k u v) (hk : k + 4 ≤ 2051) : wpX_tokensFree (fun r => wpY_tokensFree (fun r' => r' = r ∧ i_Rel (k + 4) u v) v) u := by
  obtain ⟨N, lim, keep, sub, clk, sta, ff, lv, sp, du, fa, np, op, st, sa, fi, re, lf, kd, rc, rfl, rfl, I⟩ := I
  have J := I
  obtain ⟨hN1, hN, h0, hke, hst, hff, hS, hfa, K, hL⟩ := I
  refine jx_tokensFree (Nat.le_trans (jc_le _ N) hN) (Nat.le_trans (jc_le _ N) hN) ?_
  unfold wpY_tokensFree
  dsimp only
  exact jy_free hN ⟨rfl, ja_mk J⟩
theorem i_vc_isQuiet {k : Nat} {u : SX} {v : SY} (I : i_Rel k u v) (hk : k + 4 ≤ 2051) : wpX_isQuiet (fun r => wpY_isQuiet (fun r' => r' = r ∧ i_Rel (k + 4) u v) v) u := by
  obtain ⟨N, lim, keep, sub, clk, sta, ff, lv, sp, du, fa, np, op, st, sa, fi, re, lf, kd, rc, rfl, rfl, I⟩ := I
  have J := I
  obtain ⟨hN1, hN, h0, hke, hst, hff, hS, hfa, K, hL⟩ := I
  by_cases hq : ¬ sta = 0 ∧ ¬ ∃ t, t < N ∧ ja_und st t
  · exact jx_isQuiet hN (fun _ => jy_isQuiet hN (fun _ => ⟨rfl, ja_mk J⟩) (fun y => absurd hq y)) (fun y => absurd hq y)
  · exact jx_isQuiet hN (fun y => absurd y hq) (fun _ => jy_isQuiet hN (fun y => absurd y hq) (fun _ => ⟨rfl, ja_mk J⟩))
end

section
-- rows of kit/laws, pasted
def bt (x : Int32) (i : Nat) : Bool := x.toBitVec.getLsbD i
theorem b_ext {x y : Int32} (h : ∀ i, i < 32 → bt x i = bt y i) : x = y := Int32.toBitVec_inj.mp (BitVec.eq_of_getLsbD_eq (fun i hi => h i hi))
theorem b_or (x y : Int32) (i : Nat) : bt (x ||| y) i = (bt x i || bt y i) := by unfold bt; rw [Int32.toBitVec_or, BitVec.getLsbD_or]
theorem b_and (x y : Int32) (i : Nat) : bt (x &&& y) i = (bt x i && bt y i) := by unfold bt; rw [Int32.toBitVec_and, BitVec.getLsbD_and]
theorem b_big {x : Int32} {i : Nat} (h : 32 ≤ i) : bt x i = false := BitVec.getLsbD_of_ge _ _ h
theorem b_0 (i : Nat) : bt 0 i = false := BitVec.getLsbD_zero
theorem s_l : ∀ n, n < 32 → ((nI n &&& 31).toBitVec.smod 32).toNat = n := by decide +kernel
theorem s_u : ∀ n, n < 32 → (((nI n).toUInt32 &&& Int32.toUInt32 31).toBitVec % 32).toNat = n := by decide +kernel
theorem b_shl (n : Nat) (hn : n < 32) (x : Int32) {i : Nat} (hi : i < 32) : bt (x <<< (nI n &&& 31)) i = (decide (n ≤ i) && bt x (i - n)) := by
  unfold bt
  rw [Int32.toBitVec_shiftLeft]
  show (x.toBitVec <<< ((nI n &&& 31).toBitVec.smod 32).toNat).getLsbD i = _
  rw [s_l n hn, BitVec.getLsbD_shiftLeft]
  rcases Nat.lt_or_ge i n with h | h
  · simp [h, Nat.not_le.mpr h]
  · simp [hi, h, Nat.not_lt.mpr h]
theorem b_ushr (n : Nat) (hn : n < 32) (x : Int32) (i : Nat) : bt ((x.toUInt32 >>> ((nI n).toUInt32 &&& Int32.toUInt32 31)).toInt32) i = bt x (n + i) := by
  show (x.toUInt32 >>> ((nI n).toUInt32 &&& Int32.toUInt32 31)).toBitVec.getLsbD i = x.toUInt32.toBitVec.getLsbD (n + i)
  rw [UInt32.toBitVec_shiftRight]
  show (x.toUInt32.toBitVec >>> (((nI n).toUInt32 &&& Int32.toUInt32 31).toBitVec % 32).toNat).getLsbD i = _
  rw [s_u n hn, BitVec.getLsbD_ushiftRight]
theorem ts_nf {x : Bool} (h : ¬ x = false) : x = true := by cases x <;> first | rfl | exact absurd rfl h
theorem ts_nt {x : Bool} (h : ¬ x = true) : x = false := by cases x <;> first | rfl | exact absurd rfl h
theorem ts_bit {w : Int64} {s : UInt64} {j : Nat} (hj : j < 64) (hs : s.toNat = j) : ((w.toUInt64 >>> s).toInt64 &&& 1) = 0 ↔ w.toBitVec.getLsbD j = false := by
  have e : (w.toUInt64 >>> s).toInt64.toBitVec = w.toBitVec >>> j := by
    apply BitVec.eq_of_toNat_eq
    show (w.toUInt64 >>> s).toNat = _
    rw [UInt64.toNat_shiftRight, hs, Nat.mod_eq_of_lt hj, BitVec.toNat_ushiftRight]
    rfl
  rw [← Int64.toBitVec_inj, Int64.toBitVec_and, e]
  show w.toBitVec >>> j &&& 1#64 = 0#64 ↔ _
  constructor
  · intro h
    have t := congrArg (fun x => x.getLsbD 0) h
    simpa using t
  · intro h
    apply BitVec.eq_of_getLsbD_eq
    intro i hi
    cases i with
    | zero => simp [h]
    | succ i => simp
end
section
-- pure rows: bits, counts, reachability, scans
theorem jb_1 : ∀ i, i < 32 → 0 < i → bt 1 i = false := by decide +kernel
theorem jb_10 : bt 1 0 = true := by decide +kernel
theorem jb_has (m : Int32) (l : Nat) (hl : l < 32) : ((m.toUInt32 >>> ((nI l).toUInt32 &&& Int32.toUInt32 31)).toInt32 &&& 1) = 0 ↔ bt m l = false := by
  constructor
  · intro h
    have e := b_and ((m.toUInt32 >>> ((nI l).toUInt32 &&& Int32.toUInt32 31)).toInt32) 1 0
    rw [h, b_0, b_ushr l hl, jb_10, Bool.and_true, Nat.add_zero] at e
    exact e.symm
  · intro h
    apply b_ext
    intro i hi
    rw [b_and, b_ushr l hl, b_0]
    rcases Nat.eq_zero_or_pos i with h0 | h0
    · subst h0
      rw [Nat.add_zero, h]
      rfl
    · rw [jb_1 i hi h0, Bool.and_false]
theorem jb_sh : ∀ l, l < 32 → ∀ i, i < 32 → bt ((1 : Int32) <<< (nI l &&& 31)) i = decide (i = l) := by decide +kernel
theorem jb_or1 (m : Int32) {l i : Nat} (hl : l < 32) (hi : i < 32) : bt (m ||| ((1 : Int32) <<< (nI l &&& 31))) i = (bt m i || decide (i = l)) := by
  rw [b_or, jb_sh l hl i hi]
theorem jb_z {x : Int32} : x = 0 ↔ ∀ i, i < 32 → bt x i = false := by
  constructor
  · intro h i _
    rw [h, b_0]
  · intro h
    apply b_ext
    intro i hi
    rw [h i hi, b_0]
theorem jb_lt {x : Int32} {i : Nat} (h : bt x i = true) : i < 32 := by
  rcases Nat.lt_or_ge i 32 with h' | h'
  · exact h'
  · rw [b_big h'] at h
    exact absurd h (by decide)
-- counts
def jc_n (P : Nat → Bool) : Nat → Nat
  | 0 => 0
  | n + 1 => jc_n P n + (if P n = true then 1 else 0)
theorem jc_s (P : Nat → Bool) (n : Nat) : jc_n P (n + 1) = jc_n P n + (if P n = true then 1 else 0) := rfl
theorem jc_st {P : Nat → Bool} {n : Nat} (h : P n = true) : jc_n P (n + 1) = jc_n P n + 1 := by rw [jc_s, if_pos h]
theorem jc_sf {P : Nat → Bool} {n : Nat} (h : P n = false) : jc_n P (n + 1) = jc_n P n := by
  rw [jc_s, if_neg (by rw [h]; decide)]
  rfl
theorem jc_le (P : Nat → Bool) : ∀ n, jc_n P n ≤ n := by
  intro n
  induction n with
  | zero => exact Nat.le_refl _
  | succ n ih =>
    rw [jc_s]
    split <;> omega
theorem jc_cg {P Q : Nat → Bool} : ∀ n, (∀ i, i < n → P i = Q i) → jc_n P n = jc_n Q n := by
  intro n
  induction n with
  | zero => intro _; rfl
  | succ n ih =>
    intro h
    rw [jc_s, jc_s, ih (fun i hi => h i (by omega)), h n (by omega)]
theorem jc_mo {P Q : Nat → Bool} : ∀ n, (∀ i, i < n → P i = true → Q i = true) → jc_n P n ≤ jc_n Q n := by
  intro n
  induction n with
  | zero => intro _; exact Nat.le_refl _
  | succ n ih =>
    intro h
    have h1 := ih (fun i hi => h i (by omega))
    have h2 := h n (by omega)
    rw [jc_s, jc_s]
    by_cases hp : P n = true
    · rw [if_pos hp, if_pos (h2 hp)]
      omega
    · rw [if_neg hp]
      omega
theorem jc_up {P Q : Nat → Bool} {t : Nat} : ∀ n, t < n → (∀ i, i < n → i ≠ t → P i = Q i) → P t = false → Q t = true → jc_n Q n = jc_n P n + 1 := by
  intro n
  induction n with
  | zero => intro h; omega
  | succ n ih =>
    intro ht h hp hq
    by_cases e : t = n
    · subst e
      rw [jc_st hq, jc_sf hp, jc_cg t (fun i hi => h i (by omega) (by omega))]
    · rw [jc_s, jc_s, ih (by omega) (fun i hi hn => h i (by omega) hn) hp hq, h n (by omega) (by omega)]
      omega
theorem jc_lt {P Q : Nat → Bool} {t : Nat} : ∀ n, t < n → (∀ i, i < n → P i = true → Q i = true) → P t = false → Q t = true → jc_n P n + 1 ≤ jc_n Q n := by
  intro n
  induction n with
  | zero => intro h; omega
  | succ n ih =>
    intro ht h hp hq
    by_cases e : t = n
    · subst e
      have := jc_mo t (fun i hi => h i (by omega))
      rw [jc_st hq, jc_sf hp]
      omega
    · have h1 := ih (by omega) (fun i hi => h i (by omega)) hp hq
      have h2 := h n (by omega)
      rw [jc_s, jc_s]
      by_cases hpn : P n = true
      · rw [if_pos hpn, if_pos (h2 hpn)]
        omega
      · rw [if_neg hpn]
        omega
theorem jc_1 {P : Nat → Bool} {t : Nat} : ∀ n, t < n → P t = true → 1 ≤ jc_n P n := by
  intro n
  induction n with
  | zero => intro h; omega
  | succ n ih =>
    intro ht h
    by_cases e : t = n
    · subst e
      rw [jc_st h]
      omega
    · have h1 := ih (by omega) h
      rw [jc_s]
      omega
-- reachability: sets by Bool, derived one from another
def jr_cl (E : Nat → Nat → Prop) (N : Nat) (C : Nat → Prop) : Prop := ∀ t p, t < N → p < N → C t → E t p → C p
def jr_d (E : Nat → Nat → Prop) (N : Nat) (S T : Nat → Bool) : Prop := (∀ q, S q = true → T q = true) ∧ ∀ C : Nat → Prop, (∀ q, S q = true → C q) → jr_cl E N C → ∀ q, T q = true → C q
theorem jr_rf {E : Nat → Nat → Prop} {N : Nat} {S : Nat → Bool} : jr_d E N S S := ⟨fun _ h => h, fun _ h _ => h⟩
theorem jr_tr {E : Nat → Nat → Prop} {N : Nat} {S T U : Nat → Bool} (a : jr_d E N S T) (b : jr_d E N T U) : jr_d E N S U :=
  ⟨fun q h => b.1 q (a.1 q h), fun C h hc => b.2 C (a.2 C h hc) hc⟩
/-- what t's row adds -/
theorem jr_ad {E : Nat → Nat → Prop} {N : Nat} {S M M' : Nat → Bool} {t : Nat} (h : jr_d E N S M) (ht : t < N) (hm : M t = true) (hu : ∀ q, M q = true → M' q = true) (hn : ∀ q, M' q = true → M q = true ∨ (q < N ∧ E t q)) : jr_d E N S M' :=
  ⟨fun q z => hu q (h.1 q z), fun C hC hc q z => (hn q z).elim (fun z => h.2 C hC hc q z) (fun z => hc t q ht z.1 (h.2 C hC hc t hm) z.2)⟩
def jr_P (E : Nat → Nat → Prop) (N : Nat) (A : Nat → Bool) (r : Nat) (S : Nat → Bool) : Prop := jr_d E N A S ∧ (jr_cl E N (fun q => S q = true) ∨ r + 1 ≤ jc_n S N)
theorem jr_0 {E : Nat → Nat → Prop} {N : Nat} {A : Nat → Bool} {a : Nat} (ha : a < N) (h : A a = true) : jr_P E N A 0 A := ⟨jr_rf, Or.inr (jc_1 N ha h)⟩
theorem jr_sm {E : Nat → Nat → Prop} {N : Nat} {S T : Nat → Bool} (hr : ∀ t p, t < N → p < N → S t = true → E t p → T p = true) (h : ∀ q, q < N → T q = true → S q = true) : jr_cl E N (fun q => T q = true) :=
  fun t p ht hp z e => hr t p ht hp (h t ht z) e
theorem jr_step {E : Nat → Nat → Prop} {N r : Nat} {A S T : Nat → Bool} (h : jr_P E N A r S) (d : jr_d E N S T) (hr : ∀ t p, t < N → p < N → S t = true → E t p → T p = true) : jr_P E N A (r + 1) T := by
  refine ⟨jr_tr h.1 d, ?_⟩
  by_cases e : ∀ q, q < N → T q = true → S q = true
  · exact Or.inl (jr_sm hr e)
  · right
    obtain ⟨q, hq⟩ := Classical.not_forall.mp e
    obtain ⟨hqN, hq⟩ := Classical.not_imp.mp hq
    obtain ⟨hT, hS⟩ := Classical.not_imp.mp hq
    have hSf : S q = false := by
      cases z : S q with
      | false => rfl
      | true => exact absurd z hS
    have h2 := jc_lt N hqN (fun i _ => d.1 i) hSf hT
    rcases h.2 with c | c
    · exact absurd (d.2 _ (fun _ z => z) c q hT) hS
    · omega
theorem jr_end {E : Nat → Nat → Prop} {N r : Nat} {A S : Nat → Bool} (h : jr_P E N A r S) (hr : N ≤ r) : jr_cl E N (fun q => S q = true) := by
  rcases h.2 with c | c
  · exact c
  · have := jc_le S N
    omega
theorem jr_uq {E : Nat → Nat → Prop} {N : Nat} {A S T : Nat → Bool} (hS : jr_d E N A S) (cS : jr_cl E N (fun q => S q = true)) (hT : jr_d E N A T) (cT : jr_cl E N (fun q => T q = true)) (q : Nat) : S q = true ↔ T q = true :=
  ⟨fun z => hS.2 _ hT.1 cT q z, fun z => hT.2 _ hS.1 cS q z⟩
-- scans
theorem js_ex (W : Nat → Nat → Prop) (C : Nat → Prop) (N : Nat) (A B : Prop)
    (hx : B → ∀ n, W (n + 1) N) (ht : A → ∀ n i, i < N → C i → W (n + 1) i) (hf : ∀ n i, i < N → ¬ C i → W n (i + 1) → W (n + 1) i)
    (h1 : (∃ i, i < N ∧ C i) → A) (h0 : (¬ ∃ i, i < N ∧ C i) → B) : ∃ n, W n 0 := by
  suffices H : ∀ d i, i + d = N → (∀ j, j < i → ¬ C j) → W (d + 1) i from ⟨N + 1, H N 0 (by omega) (fun j hj => by omega)⟩
  intro d
  induction d with
  | zero =>
    intro i hi hn
    have e : i = N := by omega
    subst e
    exact hx (h0 (fun ⟨j, hj, hc⟩ => hn j hj hc)) 0
  | succ d ih =>
    intro i hi hn
    by_cases hc : C i
    · exact ht (h1 ⟨i, by omega, hc⟩) _ i (by omega) hc
    · refine hf _ i (by omega) hc (ih (i + 1) (by omega) ?_)
      intro j hj
      by_cases e : j = i
      · subst e
        exact hc
      · exact hn j (by omega)
theorem js_ct (W : Nat → Nat → Nat → Prop) (P : Nat → Bool) (N : Nat)
    (hx : ∀ n, W (n + 1) N (jc_n P N)) (ht : ∀ n i c, i < N → c ≤ i → P i = true → W n (i + 1) (c + 1) → W (n + 1) i c) (hf : ∀ n i c, i < N → c ≤ i → P i = false → W n (i + 1) c → W (n + 1) i c) : ∃ n, W n 0 0 := by
  suffices H : ∀ d i, i + d = N → W (d + 1) i (jc_n P i) from ⟨N + 1, H N 0 (by omega)⟩
  intro d
  induction d with
  | zero =>
    intro i hi
    have e : i = N := by omega
    subst e
    exact hx 0
  | succ d ih =>
    intro i hi
    have z := ih (i + 1) (by omega)
    cases hp : P i with
    | true =>
      rw [jc_st hp] at z
      exact ht _ i _ (by omega) (jc_le P i) hp z
    | false =>
      rw [jc_sf hp] at z
      exact hf _ i _ (by omega) (jc_le P i) hp z
end
section
-- the two states by one list of contents; the relation
def ja_r (st lv : Nat → Int32) (b : Bool) (t : Nat) : Bool := decide (st t = 1) && (decide (lv t = 1) == b)
theorem ja_r_n {st lv : Nat → Int32} {b : Bool} {t : Nat} (h : ¬ st t = 1) : ja_r st lv b t = false := by
  unfold ja_r
  rw [decide_eq_false h, Bool.false_and]
theorem ja_r_u {st lv : Nat → Int32} {b : Bool} {t i : Nat} {s : Int32} (h : i ≠ t) : ja_r (upd st t s) lv b i = ja_r st lv b i := by
  unfold ja_r
  rw [pk_un h]
theorem ja_r_s {st lv : Nat → Int32} {t : Nat} (h : st t = 1) : ja_r st lv (decide (lv t = 1)) t = true := by
  unfold ja_r
  rw [decide_eq_true h, Bool.true_and, beq_self_eq_true]
theorem ja_r_o {st lv : Nat → Int32} {t : Nat} : ja_r st lv (!decide (lv t = 1)) t = false := by
  unfold ja_r
  cases decide (lv t = 1) <;> simp
theorem ja_us {st : Nat → Int32} {t : Nat} {s : Int32} (h : ¬ s = 1) : ¬ upd st t s t = 1 := by rw [pk_us]; exact h
/-- a step between statuses that aren't RUNNING keeps the counts -/
theorem ja_cs {st lv : Nat → Int32} {b : Bool} {t : Nat} {s : Int32} {N : Nat} (h : ¬ st t = 1) (hs : ¬ s = 1) : jc_n (ja_r (upd st t s) lv b) N = jc_n (ja_r st lv b) N := by
  apply jc_cg
  intro i _
  by_cases e : i = t
  · subst e
    rw [ja_r_n (ja_us hs), ja_r_n h]
  · exact ja_r_u e
theorem ja_cb {st lv : Nat → Int32} {t N : Nat} (ht : t < N) (h : ¬ st t = 1) : jc_n (ja_r (upd st t 1) lv (decide (lv t = 1))) N = jc_n (ja_r st lv (decide (lv t = 1))) N + 1 :=
  jc_up N ht (fun _ _ e => (ja_r_u e).symm) (ja_r_n h) (ja_r_s pk_us)
theorem ja_cbo {st lv : Nat → Int32} {t N : Nat} : jc_n (ja_r (upd st t 1) lv (!decide (lv t = 1))) N = jc_n (ja_r st lv (!decide (lv t = 1))) N := by
  apply jc_cg
  intro i _
  by_cases e : i = t
  · subst e
    rw [ja_r_o, ja_r_o]
  · exact ja_r_u e
theorem ja_ce {st lv : Nat → Int32} {t N : Nat} {s : Int32} (ht : t < N) (h : st t = 1) (hs : ¬ s = 1) : jc_n (ja_r st lv (decide (lv t = 1))) N = jc_n (ja_r (upd st t s) lv (decide (lv t = 1))) N + 1 :=
  jc_up N ht (fun _ _ e => ja_r_u e) (ja_r_n (ja_us hs)) (ja_r_s h)
theorem ja_ceo {st lv : Nat → Int32} {t N : Nat} {s : Int32} : jc_n (ja_r st lv (!decide (lv t = 1))) N = jc_n (ja_r (upd st t s) lv (!decide (lv t = 1))) N := by
  apply jc_cg
  intro i _
  by_cases e : i = t
  · subst e
    rw [ja_r_o, ja_r_o]
  · exact (ja_r_u e).symm
-- the edges
def ja_E (np op : Nat → Int32) (t p : Nat) : Prop := bt (np t ||| op t) p = true
def ja_k (np op : Nat → Int32) (t p : Nat) : Int32 := if bt (np t) p = true then 1 else if bt (op t) p = true then 2 else 0
theorem ja_k0 {np op : Nat → Int32} {t p : Nat} : ja_k np op t p = 0 ↔ bt (np t ||| op t) p = false := by
  unfold ja_k
  rw [b_or]
  cases bt (np t) p <;> cases bt (op t) p <;> decide
theorem ja_kn {np op : Nat → Int32} {t p : Nat} : ¬ ja_k np op t p = 0 ↔ ja_E np op t p := by
  rw [ja_k0]
  unfold ja_E
  cases bt (np t ||| op t) p <;> decide
theorem ja_k1 {np op : Nat → Int32} {t p : Nat} : ja_k np op t p = 1 ↔ bt (np t) p = true := by
  unfold ja_k
  cases bt (np t) p <;> cases bt (op t) p <;> decide
def ja_K (N : Nat) (np op kd : Nat → Int32) : Prop := (∀ t p, t < 32 → p < 32 → kd (t * 32 + p) = ja_k np op t p) ∧ (∀ t p, t < 32 → ja_E np op t p → p < N)
theorem ja_K0 (N : Nat) : ja_K N (fun _ => 0) (fun _ => 0) (fun _ => 0) := by
  have e : ∀ p, bt ((0 : Int32) ||| 0) p = false := fun p => by rw [b_or, b_0]; rfl
  refine ⟨fun t p _ _ => (ja_k0.mpr (e p)).symm, fun t p _ h => ?_⟩
  have h' : bt ((0 : Int32) ||| 0) p = true := h
  rw [e p] at h'
  exact absurd h' (by decide)
theorem ja_ix {t p t' p' : Nat} (hp : p < 32) (hp' : p' < 32) (h : t' * 32 + p' = t * 32 + p) : t' = t ∧ p' = p := by omega
theorem ja_Kn {N : Nat} {np op kd : Nat → Int32} {t p : Nat} (hN : N ≤ 32) (K : ja_K N np op kd) (ht : t < N) (hp : p < N) : ja_K N (upd np t (np t ||| ((1 : Int32) <<< (nI p &&& 31)))) op (upd kd (t * 32 + p) 1) := by
  refine ⟨fun t' p' ht' hp' => ?_, fun t' p' ht' h => ?_⟩
  · by_cases e : t' = t
    · subst e
      by_cases e2 : p' = p
      · subst e2
        rw [pk_us]
        refine (ja_k1.mpr ?_).symm
        rw [pk_us, jb_or1 _ (by omega) (by omega), decide_eq_true rfl, Bool.or_true]
      · rw [pk_un (by omega), K.1 t' p' ht' hp']
        unfold ja_k
        rw [pk_us, jb_or1 _ (by omega) (by omega), decide_eq_false e2, Bool.or_false]
    · rw [pk_un (fun z => e (ja_ix (by omega) hp' z).1), K.1 t' p' ht' hp']
      unfold ja_k
      rw [pk_un e]
  · unfold ja_E at h
    by_cases e : t' = t
    · subst e
      have hb := jb_lt h
      rw [pk_us, b_or, jb_or1 _ (by omega) hb] at h
      by_cases e2 : p' = p
      · omega
      · rw [decide_eq_false e2, Bool.or_false, ← b_or] at h
        exact K.2 t' p' ht' h
    · rw [pk_un e] at h
      exact K.2 t' p' ht' h
theorem ja_Ko {N : Nat} {np op kd : Nat → Int32} {t p : Nat} (hN : N ≤ 32) (K : ja_K N np op kd) (ht : t < N) (hp : p < N) (hz : bt (np t ||| op t) p = false) : ja_K N np (upd op t (op t ||| ((1 : Int32) <<< (nI p &&& 31)))) (upd kd (t * 32 + p) 2) := by
  have hz1 : bt (np t) p = false := by
    rw [b_or] at hz
    cases h : bt (np t) p with
    | false => rfl
    | true => rw [h] at hz; exact absurd hz (by simp)
  refine ⟨fun t' p' ht' hp' => ?_, fun t' p' ht' h => ?_⟩
  · by_cases e : t' = t
    · subst e
      by_cases e2 : p' = p
      · subst e2
        rw [pk_us]
        unfold ja_k
        rw [pk_us, jb_or1 _ (by omega) (by omega), decide_eq_true rfl, Bool.or_true, hz1]
        rfl
      · rw [pk_un (by omega), K.1 t' p' ht' hp']
        unfold ja_k
        rw [pk_us, jb_or1 _ (by omega) (by omega), decide_eq_false e2, Bool.or_false]
    · rw [pk_un (fun z => e (ja_ix (by omega) hp' z).1), K.1 t' p' ht' hp']
      unfold ja_k
      rw [pk_un e]
  · unfold ja_E at h
    by_cases e : t' = t
    · subst e
      have hb := jb_lt h
      rw [pk_us, b_or, jb_or1 _ (by omega) hb] at h
      by_cases e2 : p' = p
      · omega
      · rw [decide_eq_false e2, Bool.or_false, ← b_or] at h
        exact K.2 t' p' ht' h
    · rw [pk_un e] at h
      exact K.2 t' p' ht' h
-- the ticks that are left: alike but at the sub-make target
def ja_L (sub : Int32) (re lf : Nat → Int32) : Prop := ∀ i, i < 32 → ¬ nI i = sub → re i = lf i
theorem ja_Lu {sub : Int32} {re lf : Nat → Int32} {t : Nat} {x : Int32} (h : ja_L sub re lf) : ja_L sub (upd re t x) (upd lf t x) := by
  intro i hi hn
  by_cases e : i = t
  · subst e
    rw [pk_us, pk_us]
  · rw [pk_un e, pk_un e]
    exact h i hi hn
theorem ja_Lx {sub : Int32} {re lf : Nat → Int32} {t : Nat} {x : Int32} (h : ja_L sub re lf) (ht : nI t = sub) : ja_L sub (upd re t x) lf := by
  intro i hi hn
  by_cases e : i = t
  · subst e
    exact absurd ht hn
  · rw [pk_un e]
    exact h i hi hn
def ja_S (N : Nat) (sub : Int32) : Prop := sub = -1 ∨ ∃ s, s < N ∧ sub = nI s
def ja_B (x : Int32) : Prop := x = 0 ∨ x = 1
theorem ja_B0 : ja_B 0 := Or.inl rfl
theorem ja_B1 : ja_B 1 := Or.inr rfl
theorem ja_Bn {x : Int32} (h : ja_B x) : narrow .boolean (.int x) = .int x := by
  rcases h with h | h <;> subst h <;> rfl
theorem ja_Bf {x : Int32} (h : ja_B x) : fits .boolean (.int x) = true := by
  rcases h with h | h <;> subst h <;> rfl
theorem ja_Bv {x : Int32} (h : ja_B x) : vp_nar .boolean x = x := by
  rcases h with h | h <;> subst h <;> rfl
theorem ja_B1' {x : Int32} (h : ja_B x) (hn : ¬ x = 0) : x = 1 := h.resolve_left hn
/-- one list of contents -/
def ja_I (N : Nat) (keep sub clk sta ff : Int32) (fa np op st re lf kd : Nat → Int32) : Prop :=
  1 ≤ N ∧ N ≤ 32 ∧ (sta = 0 → clk = 0 ∧ ∀ i, ¬ st i = 1) ∧ ja_B keep ∧ ja_B sta ∧ ja_B ff ∧ ja_S N sub ∧ (∀ i, ja_B (fa i)) ∧ ja_K N np op kd ∧ ja_L sub re lf
theorem ja_c0 {st lv lv' : Nat → Int32} {b : Bool} {N : Nat} (h : ∀ i, ¬ st i = 1) : jc_n (ja_r st lv b) N = jc_n (ja_r st lv' b) N :=
  jc_cg N (fun i _ => (ja_r_n (h i)).trans (ja_r_n (h i)).symm)
end
section
-- what the class asks of a state, as propositions; one target's step in SETTLE
def ja_si (N : Nat) (sub : Int32) (st : Nat → Int32) (w : Int32) : Prop := ∃ s, s < N ∧ sub = nI s ∧ st s = w
def ja_bad (st : Nat → Int32) (p : Nat) : Prop := st p = 4 ∨ st p = 5
def ja_und (st : Nat → Int32) (p : Nat) : Prop := st p = 0 ∨ st p = 1
def ja_hb (N : Nat) (np op st : Nat → Int32) (t : Nat) : Prop := ∃ p, p < N ∧ ja_E np op t p ∧ ja_bad st p
def ja_hu (N : Nat) (np op st : Nat → Int32) (t : Nat) : Prop := ∃ p, p < N ∧ ja_E np op t p ∧ ja_und st p
def ja_sl (N : Nat) (sub : Int32) (sp np : Nat → Int32) (t : Nat) : Prop := nI t = sub ∨ sp t = 0 ∨ ∃ p, p < N ∧ bt (np t) p = true ∧ sp t < sp p
def ja_fr (lim : Int32) (a b : Nat) : Int32 := lim - 1 - nI (a - 1) - nI (b - 1)
def ja_my (N : Nat) (lim : Int32) (lv st : Nat → Int32) (t : Nat) : Prop := jc_n (ja_r st lv (decide (lv t = 1))) N = 0 ∨ 0 < ja_fr lim (jc_n (ja_r st lv false) N) (jc_n (ja_r st lv true) N)
def ja_sp (keep ff : Int32) : Prop := keep = 0 ∧ ¬ ff = 0
/-- the level lets t be looked at further: rules 1 and 2 don't apply -/
def ja_lo (N : Nat) (sub : Int32) (lv st : Nat → Int32) (t : Nat) : Prop := lv t = 1 → ¬ ja_si N sub st 5 ∧ ja_si N sub st 1
/-- the status that t gets (0: it stays WAITING) -/
def ja_D (N : Nat) (lim keep sub ff : Int32) (lv sp np op st : Nat → Int32) (t : Nat) (w : Int32) : Prop :=
  (lv t = 1 ∧ ja_si N sub st 5 ∧ w = 5) ∨
  (lv t = 1 ∧ ¬ ja_si N sub st 5 ∧ ¬ ja_si N sub st 1 ∧ w = 0) ∨
  (ja_lo N sub lv st t ∧ ja_hb N np op st t ∧ w = 5) ∨
  (ja_lo N sub lv st t ∧ ¬ ja_hb N np op st t ∧ ja_hu N np op st t ∧ w = 0) ∨
  (ja_lo N sub lv st t ∧ ¬ ja_hb N np op st t ∧ ¬ ja_hu N np op st t ∧ ja_sp keep ff ∧ w = 0) ∨
  (ja_lo N sub lv st t ∧ ¬ ja_hb N np op st t ∧ ¬ ja_hu N np op st t ∧ ¬ ja_sp keep ff ∧ ¬ ja_sl N sub sp np t ∧ w = 3) ∨
  (ja_lo N sub lv st t ∧ ¬ ja_hb N np op st t ∧ ¬ ja_hu N np op st t ∧ ¬ ja_sp keep ff ∧ ja_sl N sub sp np t ∧ ja_my N lim lv st t ∧ w = 1) ∨
  (ja_lo N sub lv st t ∧ ¬ ja_hb N np op st t ∧ ¬ ja_hu N np op st t ∧ ¬ ja_sp keep ff ∧ ja_sl N sub sp np t ∧ ¬ ja_my N lim lv st t ∧ w = 0)
theorem ja_Dex (N : Nat) (lim keep sub ff : Int32) (lv sp np op st : Nat → Int32) (t : Nat) : ∃ w, ja_D N lim keep sub ff lv sp np op st t w := by
  by_cases h : ja_lo N sub lv st t
  · by_cases hb : ja_hb N np op st t
    · exact ⟨5, .inr (.inr (.inl ⟨h, hb, rfl⟩))⟩
    · by_cases hu : ja_hu N np op st t
      · exact ⟨0, .inr (.inr (.inr (.inl ⟨h, hb, hu, rfl⟩)))⟩
      · by_cases hs : ja_sp keep ff
        · exact ⟨0, .inr (.inr (.inr (.inr (.inl ⟨h, hb, hu, hs, rfl⟩))))⟩
        · by_cases hl : ja_sl N sub sp np t
          · by_cases hm : ja_my N lim lv st t
            · exact ⟨1, .inr (.inr (.inr (.inr (.inr (.inr (.inl ⟨h, hb, hu, hs, hl, hm, rfl⟩))))))⟩
            · exact ⟨0, .inr (.inr (.inr (.inr (.inr (.inr (.inr ⟨h, hb, hu, hs, hl, hm, rfl⟩))))))⟩
          · exact ⟨3, .inr (.inr (.inr (.inr (.inr (.inl ⟨h, hb, hu, hs, hl, rfl⟩)))))⟩
  · have h1 : lv t = 1 := Classical.byContradiction (fun z => h (fun y => absurd y z))
    by_cases h5 : ja_si N sub st 5
    · exact ⟨5, .inl ⟨h1, h5, rfl⟩⟩
    · exact ⟨0, .inr (.inl ⟨h1, h5, fun z => h (fun _ => ⟨h5, z⟩), rfl⟩)⟩
theorem ja_Dw {N : Nat} {lim keep sub ff : Int32} {lv sp np op st : Nat → Int32} {t : Nat} {w : Int32} (h : ja_D N lim keep sub ff lv sp np op st t w) : w = 0 ∨ w = 1 ∨ w = 3 ∨ w = 5 := by
  rcases h with h | h | h | h | h | h | h | h
  · exact .inr (.inr (.inr h.2.2))
  · exact .inl h.2.2.2
  · exact .inr (.inr (.inr h.2.2))
  · exact .inl h.2.2.2
  · exact .inl h.2.2.2.2
  · exact .inr (.inr (.inl h.2.2.2.2.2))
  · exact .inr (.inl h.2.2.2.2.2.2)
  · exact .inl h.2.2.2.2.2.2
theorem ja_u0 {f : Nat → Int32} {t : Nat} {x : Int32} (h : f t = x) : upd f t x = f := by
  funext i
  by_cases e : i = t
  · subst e
    rw [pk_us, h]
  · exact pk_un e
-- what the step makes of the arrays
def ja_sa (w clk : Int32) (sa : Nat → Int32) (t : Nat) : Nat → Int32 := if w = 1 then upd sa t clk else sa
def ja_fi (w clk : Int32) (fi : Nat → Int32) (t : Nat) : Nat → Int32 := if w = 0 ∨ w = 1 then fi else upd fi t clk
def ja_re (w : Int32) (du re : Nat → Int32) (t : Nat) : Nat → Int32 := if w = 1 then upd re t (du t) else re
def ja_lf (w sub : Int32) (du lf : Nat → Int32) (t : Nat) : Nat → Int32 := if w = 1 ∧ ¬ nI t = sub then upd lf t (du t) else lf
theorem ja_Ls {w sub : Int32} {du re lf : Nat → Int32} {t : Nat} (h : ja_L sub re lf) : ja_L sub (ja_re w du re t) (ja_lf w sub du lf t) := by
  unfold ja_re ja_lf
  by_cases hw : w = 1
  · by_cases hs : nI t = sub
    · rw [if_pos hw, if_neg (fun z => z.2 hs)]
      exact ja_Lx h hs
    · rw [if_pos hw, if_pos ⟨hw, hs⟩]
      exact ja_Lu h
  · rw [if_neg hw, if_neg (fun z => hw z.1)]
    exact h
theorem ja_i1 : ¬ (1 : Int32) = 0 := by decide
theorem ja_sub_in {N : Nat} {sub : Int32} (h : ja_S N sub) (hN : N ≤ 32) : (sub = -1 ∧ (∀ i, i < 32 → ¬ nI i = sub) ∧ ∀ st w, ¬ ja_si N sub st w) ∨ ∃ s, s < N ∧ sub = nI s ∧ ¬ sub = -1 ∧ ∀ st w, ja_si N sub st w ↔ st s = w := by
  have hm : ∀ i, i < 32 → ¬ nI i = -1 := by decide +kernel
  rcases h with h | ⟨s, hs, h⟩
  · left
    subst h
    exact ⟨rfl, hm, fun st w ⟨s, hs, e, _⟩ => hm s (by omega) e.symm⟩
  · right
    subst h
    refine ⟨s, hs, rfl, hm s (by omega), fun st w => ⟨fun ⟨s', hs', e, z⟩ => ?_, fun z => ⟨s, hs, rfl, z⟩⟩⟩
    rw [nI_eq (by omega) (by omega)] at e
    subst e
    exact z
-- the step's status, read off each path
theorem ja_D1 {N : Nat} {lim keep sub ff : Int32} {lv sp np op st : Nat → Int32} {t : Nat} {w : Int32} (h : ja_D N lim keep sub ff lv sp np op st t w) (a : lv t = 1) (b : ja_si N sub st 5) : w = 5 := by
  rcases h with h | h | h | h | h | h | h | h
  · exact h.2.2
  · exact absurd b h.2.1
  · exact absurd b (h.1 a).1
  · exact absurd b (h.1 a).1
  · exact absurd b (h.1 a).1
  · exact absurd b (h.1 a).1
  · exact absurd b (h.1 a).1
  · exact absurd b (h.1 a).1
theorem ja_D2 {N : Nat} {lim keep sub ff : Int32} {lv sp np op st : Nat → Int32} {t : Nat} {w : Int32} (h : ja_D N lim keep sub ff lv sp np op st t w) (a : lv t = 1) (b : ¬ ja_si N sub st 5) (c : ¬ ja_si N sub st 1) : w = 0 := by
  rcases h with h | h | h | h | h | h | h | h
  · exact absurd h.2.1 b
  · exact h.2.2.2
  · exact absurd (h.1 a).2 c
  · exact absurd (h.1 a).2 c
  · exact absurd (h.1 a).2 c
  · exact absurd (h.1 a).2 c
  · exact absurd (h.1 a).2 c
  · exact absurd (h.1 a).2 c
/-- where rules 1 and 2 don't apply -/
theorem ja_Dlo {N : Nat} {lim keep sub ff : Int32} {lv sp np op st : Nat → Int32} {t : Nat} {w : Int32} (h : ja_D N lim keep sub ff lv sp np op st t w) (l : ja_lo N sub lv st t) :
    (ja_hb N np op st t → w = 5) ∧ (¬ ja_hb N np op st t → (ja_hu N np op st t → w = 0) ∧ (¬ ja_hu N np op st t → (ja_sp keep ff → w = 0) ∧ (¬ ja_sp keep ff → (¬ ja_sl N sub sp np t → w = 3) ∧ (ja_sl N sub sp np t → (ja_my N lim lv st t → w = 1) ∧ (¬ ja_my N lim lv st t → w = 0))))) := by
  rcases h with h | h | h | h | h | h | h | h
  · exact absurd h.2.1 (l h.1).1
  · exact absurd (l h.1).2 h.2.2.1
  · exact ⟨fun _ => h.2.2, fun z => absurd h.2.1 z⟩
  · exact ⟨fun z => absurd z h.2.1, fun _ => ⟨fun _ => h.2.2.2, fun z => absurd h.2.2.1 z⟩⟩
  · exact ⟨fun z => absurd z h.2.1, fun _ => ⟨fun z => absurd z h.2.2.1, fun _ => ⟨fun _ => h.2.2.2.2, fun z => absurd h.2.2.2.1 z⟩⟩⟩
  · exact ⟨fun z => absurd z h.2.1, fun _ => ⟨fun z => absurd z h.2.2.1, fun _ => ⟨fun z => absurd z h.2.2.2.1, fun _ => ⟨fun _ => h.2.2.2.2.2, fun z => absurd z h.2.2.2.2.1⟩⟩⟩⟩
  · exact ⟨fun z => absurd z h.2.1, fun _ => ⟨fun z => absurd z h.2.2.1, fun _ => ⟨fun z => absurd z h.2.2.2.1, fun _ => ⟨fun z => absurd h.2.2.2.2.1 z, fun _ => ⟨fun _ => h.2.2.2.2.2.2, fun z => absurd h.2.2.2.2.2.1 z⟩⟩⟩⟩⟩
  · exact ⟨fun z => absurd z h.2.1, fun _ => ⟨fun z => absurd z h.2.2.1, fun _ => ⟨fun z => absurd z h.2.2.2.1, fun _ => ⟨fun z => absurd h.2.2.2.2.1 z, fun _ => ⟨fun z => absurd z h.2.2.2.2.2.1, fun _ => h.2.2.2.2.2.2⟩⟩⟩⟩⟩
theorem ja_sa1 {clk : Int32} {sa : Nat → Int32} {t : Nat} : ja_sa 1 clk sa t = upd sa t clk := if_pos rfl
theorem ja_sa0 {w clk : Int32} {sa : Nat → Int32} {t : Nat} (h : ¬ w = 1) : ja_sa w clk sa t = sa := if_neg h
theorem ja_re1 {du re : Nat → Int32} {t : Nat} : ja_re 1 du re t = upd re t (du t) := if_pos rfl
theorem ja_re0 {w : Int32} {du re : Nat → Int32} {t : Nat} (h : ¬ w = 1) : ja_re w du re t = re := if_neg h
theorem ja_lf1 {sub : Int32} {du lf : Nat → Int32} {t : Nat} (h : ¬ nI t = sub) : ja_lf 1 sub du lf t = upd lf t (du t) := if_pos ⟨rfl, h⟩
theorem ja_lfs {w sub : Int32} {du lf : Nat → Int32} {t : Nat} (h : nI t = sub) : ja_lf w sub du lf t = lf := if_neg (fun z => z.2 h)
theorem ja_lf0 {w sub : Int32} {du lf : Nat → Int32} {t : Nat} (h : ¬ w = 1) : ja_lf w sub du lf t = lf := if_neg (fun z => h z.1)
theorem ja_fi0 {w clk : Int32} {fi : Nat → Int32} {t : Nat} (h : w = 0 ∨ w = 1) : ja_fi w clk fi t = fi := if_pos h
theorem ja_fi1 {w clk : Int32} {fi : Nat → Int32} {t : Nat} (h : ¬ (w = 0 ∨ w = 1)) : ja_fi w clk fi t = upd fi t clk := if_neg h
end
section
-- states
abbrev ja_T (N : Nat) (lim keep sub clk sta ff rt rs : Int32) (lv sp du fa np op st sa fi re : Nat → Int32) : St2 := (nI N, lim, keep, sub, clk, sta, ff, rt, rs, lv, sp, du, fa, np, op, st, sa, fi, re)
abbrev ja_X (N : Nat) (lim keep sub clk sta ff : Int32) (lv sp du fa np op st sa fi re : Nat → Int32) : St2 := ja_T N lim keep sub clk sta ff (nI (jc_n (ja_r st lv false) N)) (nI (jc_n (ja_r st lv true) N)) lv sp du fa np op st sa fi re
-- the class's readers
variable {N : Nat} {lim keep sub clk sta ff rt rs : Int32} {lv sp du fa np op st sa fi re : Nat → Int32} {post : Int32 → Prop}
theorem jx_hasBit {m : Int32} {l : Nat} (hl : l < 32) (h1 : bt m l = true → post 1) (h0 : ¬ bt m l = true → post 0) : wpX_hasBit post () m (nI l) := by
  refine br_c (fun h => ?_) (fun h => ?_)
  · exact h0 (by rw [(jb_has m l hl).mp h]; decide)
  · refine h1 ?_
    cases e : bt m l with
    | true => rfl
    | false => exact absurd ((jb_has m l hl).mpr e) h
theorem jx_isTarget_t {j : Nat} (hN : N ≤ 32) (hj : j < N) (hp : post 1) : wpX_isTarget post (ja_T N lim keep sub clk sta ff rt rs lv sp du fa np op st sa fi re) (nI j) :=
  br_f (nI_pos (by omega)) (br_f (nI_ge hj (by omega)) (hp))
theorem jx_isTarget_f {v : Int32} (h : v < 0 ∨ nI N ≤ v) (hp : post 0) : wpX_isTarget post (ja_T N lim keep sub clk sta ff rt rs lv sp du fa np op st sa fi re) v := by
  by_cases h0 : v < 0
  · exact br_t h0 (hp)
  · exact br_f h0 (br_t (h.resolve_left h0) (hp))
theorem jx_open_t {j : Nat} (hN : N ≤ 32) (hs : sta = 0) (hj : j < N) (hp : post 1) : wpX_isOpenForSetup post (ja_T N lim keep sub clk sta ff rt rs lv sp du fa np op st sa fi re) (nI j) :=
  br_t hs (jx_isTarget_t hN hj (br_f ja_i1 (hp)))
theorem jx_open_f {v : Int32} (h : ¬ sta = 0 ∨ v < 0 ∨ nI N ≤ v) (hp : post 0) : wpX_isOpenForSetup post (ja_T N lim keep sub clk sta ff rt rs lv sp du fa np op st sa fi re) v := by
  by_cases hs : sta = 0
  · exact br_t hs (jx_isTarget_f (h.resolve_left (fun z => z hs)) (br_t rfl (hp)))
  · exact br_f hs (hp)
theorem jx_isSub {t : Nat} (ht : t < 32) (h1 : lv t = 1 → post 1) (h0 : ¬ lv t = 1 → post 0) : wpX_isSub post (ja_T N lim keep sub clk sta ff rt rs lv sp du fa np op st sa fi re) (nI t) := by
  refine ⟨vp_in_nI ht (by omega), ?_⟩
  rw [nI_clamp (by omega)]
  exact br_c (fun h => (h1 h)) (fun h => (h0 h))
theorem jx_isDone {t : Nat} (ht : t < 32) (h1 : ¬ ja_und st t → post 1) (h0 : ja_und st t → post 0) : wpX_isDone post (ja_T N lim keep sub clk sta ff rt rs lv sp du fa np op st sa fi re) (nI t) := by
  refine ⟨vp_in_nI ht (by omega), ?_⟩
  rw [nI_clamp (by omega)]
  exact br_c (fun h => (h0 (.inl h))) (fun h => ⟨vp_in_nI ht (by omega), br_c (fun h' => (h0 (.inr h'))) (fun h' => (h1 (fun z => z.elim h h')))⟩)
theorem jx_isBad {t : Nat} (ht : t < 32) (h1 : ja_bad st t → post 1) (h0 : ¬ ja_bad st t → post 0) : wpX_isBad post (ja_T N lim keep sub clk sta ff rt rs lv sp du fa np op st sa fi re) (nI t) := by
  refine ⟨vp_in_nI ht (by omega), ?_⟩
  rw [nI_clamp (by omega)]
  exact br_c (fun h => (h1 (.inl h))) (fun h => ⟨vp_in_nI ht (by omega), br_c (fun h' => (h1 (.inr h'))) (fun h' => (h0 (fun z => z.elim h h')))⟩)
theorem jx_isSubmakeIn {w : Int32} (hN : N ≤ 32) (hS : ja_S N sub) (h1 : ja_si N sub st w → post 1) (h0 : ¬ ja_si N sub st w → post 0) : wpX_isSubmakeIn post (ja_T N lim keep sub clk sta ff rt rs lv sp du fa np op st sa fi re) w := by
  rcases ja_sub_in hS hN with ⟨e, _, hn⟩ | ⟨s, hs, e, hm, hi⟩
  · exact br_t e (h0 (hn st w))
  · refine br_f hm ?_
    subst e
    refine ⟨vp_in_nI (by omega) (by omega), ?_⟩
    rw [nI_clamp (by omega)]
    exact br_c (fun h => (h1 ((hi st w).mpr h))) (fun h => (h0 (fun z => h ((hi st w).mp z))))
theorem jx_prereqsOf {t : Nat} (ht : t < 32) (hp : post (np t ||| op t)) : wpX_prereqsOf post (ja_T N lim keep sub clk sta ff rt rs lv sp du fa np op st sa fi re) (nI t) := by
  refine ⟨vp_in_nI ht (by omega), vp_in_nI ht (by omega), ?_⟩
  rw [nI_clamp (by omega)]
  exact hp
theorem jx_isPrereq {t p : Nat} (ht : t < 32) (hp : p < 32) (h1 : ja_E np op t p → post 1) (h0 : ¬ ja_E np op t p → post 0) : wpX_isPrereq post (ja_T N lim keep sub clk sta ff rt rs lv sp du fa np op st sa fi re) (nI t) (nI p) := by
  unfold wpX_isPrereq
  dsimp only
  refine jx_prereqsOf ht ?_
  exact jx_hasBit hp (fun h => ⟨rfl, h1 h⟩) (fun h => ⟨rfl, h0 h⟩)
theorem jx_isPrereqOfAny {p : Nat} (hN : N ≤ 32) (hp : p < 32) (h1 : (∃ t, t < N ∧ ja_E np op t p) → post 1) (h0 : (¬ ∃ t, t < N ∧ ja_E np op t p) → post 0) : wpX_isPrereqOfAny post (ja_T N lim keep sub clk sta ff rt rs lv sp du fa np op st sa fi re) (nI p) := by
  refine js_ex (fun n i => wX_isPrereqOfAny_2 post (nI p) (nI N) lim keep sub clk sta ff rt rs lv sp du fa np op st sa fi re n (nI i)) (fun t => ja_E np op t p) N (post 1) (post 0) ?_ ?_ ?_ h1 h0
  · intro hp n
    exact br_t (nI_le (Nat.le_refl _) (by omega)) hp
  · intro hq n i hi hc
    exact br_f (nI_ge hi (by omega)) (jx_isPrereq (by omega) hp (fun _ => br_f ja_i1 hq) (fun z => absurd hc z))
  · intro n i hi hc hw
    exact br_f (nI_ge hi (by omega)) (jx_isPrereq (by omega) hp (fun z => absurd z hc) (fun _ => br_t rfl (nm_r (nI_1 i) hw)))
theorem jx_isSubBuildOver (hN : N ≤ 32) (hS : ja_S N sub) (h1 : ja_si N sub st 1 ∧ (¬ ∃ t, t < N ∧ lv t = 1 ∧ ja_und st t) → post 1) (h0 : ¬ (ja_si N sub st 1 ∧ ¬ ∃ t, t < N ∧ lv t = 1 ∧ ja_und st t) → post 0) : wpX_isSubBuildOver post (ja_T N lim keep sub clk sta ff rt rs lv sp du fa np op st sa fi re) := by
  unfold wpX_isSubBuildOver
  dsimp only
  refine jx_isSubmakeIn hN hS (fun hs => br_f ja_i1 ?_) (fun hs => br_t rfl (h0 (fun z => hs z.1)))
  refine js_ex (fun n i => wX_isSubBuildOver_12 post (nI N) lim keep sub clk sta ff rt rs lv sp du fa np op st sa fi re n (nI i)) (fun t => lv t = 1 ∧ ja_und st t) N (post 0) (post 1) ?_ ?_ ?_ (fun h => h0 (fun z => z.2 h)) (fun h => h1 ⟨hs, h⟩)
  · intro hp n
    exact br_t (nI_le (Nat.le_refl _) (by omega)) hp
  · intro hq n i hi hc
    exact br_f (nI_ge hi (by omega)) (jx_isSub (by omega) (fun _ => br_f ja_i1 (jx_isDone (by omega) (fun z => absurd hc.2 z) (fun _ => br_t rfl hq))) (fun z => absurd hc.1 z))
  · intro n i hi hc hw
    exact br_f (nI_ge hi (by omega)) (jx_isSub (by omega) (fun hl => br_f ja_i1 (jx_isDone (by omega) (fun _ => br_f ja_i1 (nm_r (nI_1 i) hw)) (fun z => absurd ⟨hl, z⟩ hc))) (fun _ => br_t rfl (nm_r (nI_1 i) hw)))
theorem jx_hasBadSub (hN : N ≤ 32) (h1 : (∃ t, t < N ∧ lv t = 1 ∧ ja_bad st t) → post 1) (h0 : (¬ ∃ t, t < N ∧ lv t = 1 ∧ ja_bad st t) → post 0) : wpX_hasBadSub post (ja_T N lim keep sub clk sta ff rt rs lv sp du fa np op st sa fi re) := by
  refine js_ex (fun n i => wX_hasBadSub_2 post (nI N) lim keep sub clk sta ff rt rs lv sp du fa np op st sa fi re n (nI i)) (fun t => lv t = 1 ∧ ja_bad st t) N (post 1) (post 0) ?_ ?_ ?_ h1 h0
  · intro hp n
    exact br_t (nI_le (Nat.le_refl _) (by omega)) hp
  · intro hq n i hi hc
    exact br_f (nI_ge hi (by omega)) (jx_isSub (by omega) (fun _ => br_f ja_i1 (jx_isBad (by omega) (fun _ => br_f ja_i1 hq) (fun z => absurd hc.2 z))) (fun z => absurd hc.1 z))
  · intro n i hi hc hw
    exact br_f (nI_ge hi (by omega)) (jx_isSub (by omega) (fun hl => br_f ja_i1 (jx_isBad (by omega) (fun z => absurd ⟨hl, z⟩ hc) (fun _ => br_t rfl (nm_r (nI_1 i) hw)))) (fun _ => br_t rfl (nm_r (nI_1 i) hw)))
theorem jx_isStopping (h1 : ja_sp keep ff → post 1) (h0 : ¬ ja_sp keep ff → post 0) : wpX_isStopping post (ja_T N lim keep sub clk sta ff rt rs lv sp du fa np op st sa fi re) :=
  br_c (fun hk => br_c (fun hf => (h0 (fun z => z.2 hf))) (fun hf => (h1 ⟨hk, hf⟩))) (fun hk => (h0 (fun z => hk z.1)))
theorem jx_hasBadPrereq {t : Nat} (hN : N ≤ 32) (ht : t < 32) (h1 : ja_hb N np op st t → post 1) (h0 : ¬ ja_hb N np op st t → post 0) : wpX_hasBadPrereq post (ja_T N lim keep sub clk sta ff rt rs lv sp du fa np op st sa fi re) (nI t) := by
  unfold wpX_hasBadPrereq
  dsimp only
  refine jx_prereqsOf ht ?_
  refine js_ex (fun n i => wX_hasBadPrereq_8 post (np t ||| op t) (nI N) lim keep sub clk sta ff rt rs lv sp du fa np op st sa fi re n (nI i)) (fun p => ja_E np op t p ∧ ja_bad st p) N (post 1) (post 0) ?_ ?_ ?_ h1 h0
  · intro hp n
    exact br_t (nI_le (Nat.le_refl _) (by omega)) hp
  · intro hq n i hi hc
    exact br_f (nI_ge hi (by omega)) (jx_hasBit (by omega) (fun _ => br_f ja_i1 (jx_isBad (by omega) (fun _ => br_f ja_i1 hq) (fun z => absurd hc.2 z))) (fun z => absurd hc.1 z))
  · intro n i hi hc hw
    exact br_f (nI_ge hi (by omega)) (jx_hasBit (by omega) (fun hl => br_f ja_i1 (jx_isBad (by omega) (fun z => absurd ⟨hl, z⟩ hc) (fun _ => br_t rfl (nm_r (nI_1 i) hw)))) (fun _ => br_t rfl (nm_r (nI_1 i) hw)))
theorem jx_hasUndonePrereq {t : Nat} (hN : N ≤ 32) (ht : t < 32) (h1 : ja_hu N np op st t → post 1) (h0 : ¬ ja_hu N np op st t → post 0) : wpX_hasUndonePrereq post (ja_T N lim keep sub clk sta ff rt rs lv sp du fa np op st sa fi re) (nI t) := by
  unfold wpX_hasUndonePrereq
  dsimp only
  refine jx_prereqsOf ht ?_
  refine js_ex (fun n i => wX_hasUndonePrereq_8 post (np t ||| op t) (nI N) lim keep sub clk sta ff rt rs lv sp du fa np op st sa fi re n (nI i)) (fun p => ja_E np op t p ∧ ja_und st p) N (post 1) (post 0) ?_ ?_ ?_ h1 h0
  · intro hp n
    exact br_t (nI_le (Nat.le_refl _) (by omega)) hp
  · intro hq n i hi hc
    exact br_f (nI_ge hi (by omega)) (jx_hasBit (by omega) (fun _ => br_f ja_i1 (jx_isDone (by omega) (fun z => absurd hc.2 z) (fun _ => br_t rfl hq))) (fun z => absurd hc.1 z))
  · intro n i hi hc hw
    exact br_f (nI_ge hi (by omega)) (jx_hasBit (by omega) (fun hl => br_f ja_i1 (jx_isDone (by omega) (fun _ => br_f ja_i1 (nm_r (nI_1 i) hw)) (fun z => absurd ⟨hl, z⟩ hc))) (fun _ => br_t rfl (nm_r (nI_1 i) hw)))
theorem jx_isStale {t : Nat} (hN : N ≤ 32) (ht : t < 32) (h1 : ja_sl N sub sp np t → post 1) (h0 : ¬ ja_sl N sub sp np t → post 0) : wpX_isStale post (ja_T N lim keep sub clk sta ff rt rs lv sp du fa np op st sa fi re) (nI t) := by
  have ct : (nI t).toNatClampNeg = t := nI_clamp (by omega)
  refine br_c (fun e => h1 (.inl e)) (fun e => ⟨vp_in_nI ht (by omega), ?_⟩)
  rw [ct]
  refine br_c (fun z => h1 (.inr (.inl z))) (fun z => ?_)
  refine js_ex (fun n i => wX_isStale_21 post (nI t) (nI N) lim keep sub clk sta ff rt rs lv sp du fa np op st sa fi re n (nI i)) (fun p => bt (np t) p = true ∧ sp t < sp p) N (post 1) (post 0) ?_ ?_ ?_ (fun h => h1 (.inr (.inr h))) (fun h => h0 (fun y => y.elim e (fun y => y.elim z h)))
  · intro hp n
    exact br_t (nI_le (Nat.le_refl _) (by omega)) hp
  · intro hq n i hi hc
    refine br_f (nI_ge hi (by omega)) ⟨vp_in_nI ht (by omega), ?_⟩
    rw [ct]
    have ci : (nI i).toNatClampNeg = i := nI_clamp (by omega)
    refine jx_hasBit (by omega) (fun _ => br_f ja_i1 ⟨vp_in_nI (by omega) (by omega), vp_in_nI ht (by omega), ?_⟩) (fun z => absurd hc.1 z)
    rw [ci]
    exact br_f (Int32.not_le.mpr hc.2) hq
  · intro n i hi hc hw
    refine br_f (nI_ge hi (by omega)) ⟨vp_in_nI ht (by omega), ?_⟩
    rw [ct]
    have ci : (nI i).toNatClampNeg = i := nI_clamp (by omega)
    refine jx_hasBit (by omega) (fun hl => br_f ja_i1 ⟨vp_in_nI (by omega) (by omega), vp_in_nI ht (by omega), ?_⟩) (fun _ => br_t rfl (nm_r (nI_1 i) hw))
    rw [ci]
    exact br_t (Int32.not_lt.mp (fun y => hc ⟨hl, y⟩)) (nm_r (nI_1 i) hw)
theorem jx_tokensFree {a b : Nat} (ha : a ≤ 32) (hb : b ≤ 32) (h : post (ja_fr lim a b)) : wpX_tokensFree post (ja_T N lim keep sub clk sta ff (nI a) (nI b) lv sp du fa np op st sa fi re) := by
  have e : ∀ c, 1 < c → nI c - 1 = nI (c - 1) := fun c hc => by
    obtain ⟨d, rfl⟩ : ∃ d, c = d + 1 := ⟨c - 1, by omega⟩
    exact nI_pred d
  have e0 : ∀ c, c ≤ 1 → nI (c - 1) = 0 := fun c hc => by
    rw [show c - 1 = 0 by omega]
    rfl
  unfold ja_fr at h
  refine pk_le a 1 (fun h1 => ?_) (fun h1 => ?_)
  · refine pk_le b 1 (fun h2 => ?_) (fun h2 => ?_)
    · rw [e0 a h1, e0 b h2] at h
      exact h
    · rw [e0 a h1, ← e b h2] at h
      exact h
  · refine pk_le b 1 (fun h2 => ?_) (fun h2 => ?_)
    · rw [← e a h1, e0 b h2] at h
      exact h
    · rw [← e a h1, ← e b h2] at h
      exact h
theorem jx_mayStart {t : Nat} (hN : N ≤ 32) (ht : t < 32) (h1 : ja_my N lim lv st t → post 1) (h0 : ¬ ja_my N lim lv st t → post 0) : wpX_mayStart post (ja_X N lim keep sub clk sta ff lv sp du fa np op st sa fi re) (nI t) := by
  have ha := Nat.le_trans (jc_le (ja_r st lv false) N) hN
  have hb := Nat.le_trans (jc_le (ja_r st lv true) N) hN
  unfold wpX_mayStart
  dsimp only
  refine jx_isSub ht (fun hl => br_f ja_i1 ?_) (fun hl => br_t rfl ?_)
  · have hd : decide (lv t = 1) = true := decide_eq_true hl
    refine pk_eq (jc_n (ja_r st lv true) N) 0 (fun hz => (h1 (.inl (by rw [hd]; exact hz)))) (fun hz => ?_)
    refine jx_tokensFree ha hb ?_
    refine br_c (fun z => (h0 ?_)) (fun z => (h1 (.inr (Int32.not_le.mp z))))
    intro y
    rcases y with y | y
    · rw [hd] at y
      exact hz y
    · exact Int32.not_lt.mpr z y
  · have hd : decide (lv t = 1) = false := decide_eq_false hl
    refine pk_eq (jc_n (ja_r st lv false) N) 0 (fun hz => (h1 (.inl (by rw [hd]; exact hz)))) (fun hz => ?_)
    refine jx_tokensFree ha hb ?_
    refine br_c (fun z => (h0 ?_)) (fun z => (h1 (.inr (Int32.not_le.mp z))))
    intro y
    rcases y with y | y
    · rw [hd] at y
      exact hz y
    · exact Int32.not_lt.mpr z y
theorem jx_isQuiet (hN : N ≤ 32) (h1 : ¬ sta = 0 ∧ (¬ ∃ t, t < N ∧ ja_und st t) → post 1) (h0 : ¬ (¬ sta = 0 ∧ ¬ ∃ t, t < N ∧ ja_und st t) → post 0) : wpX_isQuiet post (ja_T N lim keep sub clk sta ff rt rs lv sp du fa np op st sa fi re) := by
  refine br_c (fun hs => h0 (fun z => z.1 hs)) (fun hs => ?_)
  refine js_ex (fun n i => wX_isQuiet_11 post (nI N) lim keep sub clk sta ff rt rs lv sp du fa np op st sa fi re n (nI i)) (fun t => ja_und st t) N (post 0) (post 1) ?_ ?_ ?_ (fun h => h0 (fun z => z.2 h)) (fun h => h1 ⟨hs, h⟩)
  · intro hp n
    exact br_t (nI_le (Nat.le_refl _) (by omega)) hp
  · intro hq n i hi hc
    exact br_f (nI_ge hi (by omega)) (jx_isDone (by omega) (fun z => absurd hc z) (fun _ => br_t rfl hq))
  · intro n i hi hc hw
    exact br_f (nI_ge hi (by omega)) (jx_isDone (by omega) (fun _ => br_f ja_i1 (nm_r (nI_1 i) hw)) (fun z => absurd z hc))
end
section
-- the class's stores
variable {N : Nat} {lim keep sub clk sta ff rt rs : Int32} {lv sp du fa np op st sa fi re : Nat → Int32} {post : St2 → Prop}
theorem jx_finishT {t : Nat} {s : Int32} (ht : t < 32) (h : post (ja_T N lim keep sub clk sta ff rt rs lv sp du fa np op (upd st t s) sa (upd fi t clk) re)) : wpX_finish post (ja_T N lim keep sub clk sta ff rt rs lv sp du fa np op st sa fi re) (nI t) s := by
  refine ⟨vp_in_nI ht (by omega), nm_r (by rw [nI_clamp (by omega)]) ⟨vp_in_nI ht (by omega), nm_r (by rw [nI_clamp (by omega)]) ?_⟩⟩
  exact h
theorem jx_finish {t : Nat} {s : Int32} (ht : t < 32) (h0 : ¬ st t = 1) (hs : ¬ s = 1) (h : post (ja_X N lim keep sub clk sta ff lv sp du fa np op (upd st t s) sa (upd fi t clk) re)) : wpX_finish post (ja_X N lim keep sub clk sta ff lv sp du fa np op st sa fi re) (nI t) s := by
  have e : ∀ b, jc_n (ja_r (upd st t s) lv b) N = jc_n (ja_r st lv b) N := fun b => ja_cs h0 hs
  have h' : post (ja_T N lim keep sub clk sta ff (nI (jc_n (ja_r (upd st t s) lv false) N)) (nI (jc_n (ja_r (upd st t s) lv true) N)) lv sp du fa np op (upd st t s) sa (upd fi t clk) re) := h
  rw [e, e] at h'
  exact jx_finishT ht h'
theorem jx_beginRun {t : Nat} (hN : N ≤ 32) (ht : t < N) (h0 : ¬ st t = 1) (h : post (ja_X N lim keep sub clk sta ff lv sp du fa np op (upd st t 1) (upd sa t clk) fi (upd re t (du t)))) : wpX_beginRun post (ja_X N lim keep sub clk sta ff lv sp du fa np op st sa fi re) (nI t) := by
  have i : vp_in (nI t) 32 := vp_in_nI (by omega) (by omega)
  have c : (nI t).toNatClampNeg = t := nI_clamp (by omega)
  have a := ja_cb (lv := lv) ht h0
  have b := ja_cbo (st := st) (lv := lv) (t := t) (N := N)
  have h' : post (ja_T N lim keep sub clk sta ff (nI (jc_n (ja_r (upd st t 1) lv false) N)) (nI (jc_n (ja_r (upd st t 1) lv true) N)) lv sp du fa np op (upd st t 1) (upd sa t clk) fi (upd re t (du t))) := h
  refine ⟨i, nm_r (by rw [c]) ⟨i, nm_r (by rw [c]) ⟨i, i, nm_r (by rw [c]) ?_⟩⟩⟩
  refine jx_isSub (by omega) (fun hl => br_f ja_i1 ?_) (fun hl => br_t rfl ?_)
  · rw [decide_eq_true hl] at a b
    rw [a, show (false = !true) from rfl, b] at h'
    exact nm_r (nI_1 _) h'
  · rw [decide_eq_false hl] at a b
    rw [a, show (true = !false) from rfl, b] at h'
    exact nm_r (nI_1 _) h'
theorem jx_endRun {t : Nat} {b : Int32} (hN : N ≤ 32) (ht : t < N) (hr : st t = 1) (h1 : ¬ b = 0 → post (ja_X N lim keep sub clk sta 1 lv sp du fa np op (upd st t 4) sa (upd fi t clk) re)) (h0 : b = 0 → post (ja_X N lim keep sub clk sta ff lv (upd sp t (1000000 + clk)) du fa np op (upd st t 2) sa (upd fi t clk) re)) : wpX_endRun post (ja_X N lim keep sub clk sta ff lv sp du fa np op st sa fi re) (nI t) b := by
  have i : vp_in (nI t) 32 := vp_in_nI (by omega) (by omega)
  have c : (nI t).toNatClampNeg = t := nI_clamp (by omega)
  -- the tail, for counters that are those of the new statuses
  have tail : ∀ r0 r1 : Int32, (∀ s : Int32, ¬ s = 1 → r0 = nI (jc_n (ja_r (upd st t s) lv false) N) ∧ r1 = nI (jc_n (ja_r (upd st t s) lv true) N)) →
      (¬ b = 0 → post (ja_T N lim keep sub clk sta 1 r0 r1 lv sp du fa np op (upd st t 4) sa (upd fi t clk) re)) ∧ (b = 0 → post (ja_T N lim keep sub clk sta ff r0 r1 lv (upd sp t (1000000 + clk)) du fa np op (upd st t 2) sa (upd fi t clk) re)) := by
    intro r0 r1 hr
    refine ⟨fun z => ?_, fun z => ?_⟩
    · rw [(hr 4 (by decide)).1, (hr 4 (by decide)).2]
      exact h1 z
    · rw [(hr 2 (by decide)).1, (hr 2 (by decide)).2]
      exact h0 z
  unfold wpX_endRun
  dsimp only
  refine jx_isSub (by omega) (fun hl => br_f ja_i1 ?_) (fun hl => br_t rfl ?_)
  · have q := tail (nI (jc_n (ja_r st lv false) N)) (nI (jc_n (ja_r st lv true) N) - 1) (fun s hs => by
      have a := ja_ce (lv := lv) ht hr hs
      have b := ja_ceo (st := st) (lv := lv) (t := t) (N := N) (s := s)
      rw [decide_eq_true hl] at a b
      exact ⟨congrArg nI b, by rw [a]; exact nI_pred _⟩)
    refine nm_e ?_
    refine br_c (fun z => ?_) (fun z => ?_)
    · exact ⟨i, nm_r (by rw [c]) (jx_finishT (by omega) (q.2 z))⟩
    · exact jx_finishT (by omega) (q.1 z)
  · have q := tail (nI (jc_n (ja_r st lv false) N) - 1) (nI (jc_n (ja_r st lv true) N)) (fun s hs => by
      have a := ja_ce (lv := lv) ht hr hs
      have b := ja_ceo (st := st) (lv := lv) (t := t) (N := N) (s := s)
      rw [decide_eq_false hl] at a b
      exact ⟨by rw [a]; exact nI_pred _, congrArg nI b⟩)
    refine nm_e ?_
    refine br_c (fun z => ?_) (fun z => ?_)
    · exact ⟨i, nm_r (by rw [c]) (jx_finishT (by omega) (q.2 z))⟩
    · exact jx_finishT (by omega) (q.1 z)
end
section
-- the class's isReachable: the mask becomes the least closed set
variable {N : Nat} {lim keep sub clk sta ff rt rs : Int32} {lv sp du fa np op st sa fi re : Nat → Int32}
def jx_Ri (N : Nat) (np op : Nat → Int32) (M0 : Int32) (i : Nat) (m : Int32) : Prop := jr_d (ja_E np op) N (bt M0) (bt m) ∧ ∀ t p, t < i → p < N → bt M0 t = true → ja_E np op t p → bt m p = true
theorem jx_Ri_y {M0 m : Int32} {i : Nat} (hN : N ≤ 32) (hE : ∀ t p, t < 32 → ja_E np op t p → p < N) (hi : i < N) (h : jx_Ri N np op M0 i m) (hb : bt m i = true) : jx_Ri N np op M0 (i + 1) (m ||| (np i ||| op i)) := by
  have hu : ∀ q, bt m q = true → bt (m ||| (np i ||| op i)) q = true := fun q z => by rw [b_or, z, Bool.true_or]
  refine ⟨jr_ad h.1 hi hb hu (fun q z => ?_), fun t p ht hp z e => ?_⟩
  · rw [b_or] at z
    cases y : bt m q with
    | true => exact .inl rfl
    | false =>
      rw [y, Bool.false_or] at z
      exact .inr ⟨hE i q (by omega) z, z⟩
  · by_cases e' : t = i
    · subst e'
      have e2 : bt (np t ||| op t) p = true := e
      rw [b_or, e2, Bool.or_true]
    · exact hu p (h.2 t p (by omega) hp z e)
theorem jx_Ri_n {M0 m : Int32} {i : Nat} (h : jx_Ri N np op M0 i m) (hb : ¬ bt m i = true) : jx_Ri N np op M0 (i + 1) m :=
  ⟨h.1, fun t p ht hp z e => by
    by_cases e' : t = i
    · subst e'
      exact absurd (h.1.1 t z) hb
    · exact h.2 t p (by omega) hp z e⟩
theorem jx_reach_i (x2 x4 : Int32) (hN : N ≤ 32) (hE : ∀ t p, t < 32 → ja_E np op t p → p < N) (M0 : Int32) : ∀ d i, i + d = N → ∀ m, jx_Ri N np op M0 i m → ∃ m', jx_Ri N np op M0 N m' ∧ ∀ (post : Int32 → Prop) J f, wX_isReachable_19 post J x2 x4 (nI N) lim keep sub clk sta ff rt rs lv sp du fa np op st sa fi re f m' (nI N) → wX_isReachable_19 post J x2 x4 (nI N) lim keep sub clk sta ff rt rs lv sp du fa np op st sa fi re (f + d) m (nI i) := by
  intro d
  induction d with
  | zero =>
    intro i hi m h
    have e : i = N := by omega
    subst e
    exact ⟨m, h, fun _ J f z => z⟩
  | succ d ih =>
    intro i hi m h
    by_cases hb : bt m i = true
    · obtain ⟨m', h1, h2⟩ := ih (i + 1) (by omega) _ (jx_Ri_y hN hE (by omega) h hb)
      refine ⟨m', h1, fun post J f z => br_f (nI_ge (by omega) (by omega)) (jx_hasBit (by omega) (fun _ => br_f ja_i1 (jx_prereqsOf (by omega) (nm_e (nm_r (nI_1 i) (h2 post J f z))))) (fun y => absurd hb y))⟩
    · obtain ⟨m', h1, h2⟩ := ih (i + 1) (by omega) _ (jx_Ri_n h hb)
      refine ⟨m', h1, fun post J f z => br_f (nI_ge (by omega) (by omega)) (jx_hasBit (by omega) (fun y => absurd y hb) (fun _ => br_t rfl (nm_r (nI_1 i) (h2 post J f z))))⟩
theorem jx_reach_o (x2 : Int32) (hN : N ≤ 32) (hE : ∀ t p, t < 32 → ja_E np op t p → p < N) (A : Nat → Bool) : ∀ e r, r + e = N → ∀ m, jr_P (ja_E np op) N A r (bt m) → ∃ m', jr_P (ja_E np op) N A N (bt m') ∧ ∀ (post : Int32 → Prop) f, wX_isReachable_7 post x2 (nI N) lim keep sub clk sta ff rt rs lv sp du fa np op st sa fi re f m' (nI N) → wX_isReachable_7 post x2 (nI N) lim keep sub clk sta ff rt rs lv sp du fa np op st sa fi re (f + e) m (nI r) := by
  intro e
  induction e with
  | zero =>
    intro r hr m h
    have e : r = N := by omega
    subst e
    exact ⟨m, h, fun _ f z => z⟩
  | succ e ih =>
    intro r hr m h
    obtain ⟨m1, h1, h2⟩ := jx_reach_i (lim := lim) (keep := keep) (sub := sub) (clk := clk) (sta := sta) (ff := ff) (rt := rt) (rs := rs) (lv := lv) (sp := sp) (du := du) (fa := fa) (st := st) (sa := sa) (fi := fi) (re := re) x2 (nI r) hN hE m N 0 (by omega) m ⟨jr_rf, fun t p ht => by omega⟩
    obtain ⟨m2, h3, h4⟩ := ih (r + 1) (by omega) m1 (jr_step h h1.1 h1.2)
    refine ⟨m2, h3, fun post f z => br_f (nI_ge (by omega) (by omega)) ⟨1 + N, h2 post _ 1 (br_t (nI_le (Nat.le_refl _) (by omega)) (nm_r (nI_1 r) (h4 post f z)))⟩⟩
theorem jx_isReachable {a b : Nat} (hN : N ≤ 32) (hE : ∀ t p, t < 32 → ja_E np op t p → p < N) (ha : a < N) (hb : b < N) : ∃ S : Nat → Bool, jr_d (ja_E np op) N (fun q => decide (q = a)) S ∧ jr_cl (ja_E np op) N (fun q => S q = true) ∧ ∀ post : Int32 → Prop, (S b = true → post 1) → (¬ S b = true → post 0) → wpX_isReachable post (ja_T N lim keep sub clk sta ff rt rs lv sp du fa np op st sa fi re) (nI a) (nI b) := by
  have e : ∀ q, bt ((1 : Int32) <<< (nI a &&& 31)) q = decide (q = a) := fun q => by
    rcases Nat.lt_or_ge q 32 with h | h
    · exact jb_sh a (by omega) q h
    · rw [b_big h, decide_eq_false (by omega)]
  obtain ⟨m, h1, h2⟩ := jx_reach_o (lim := lim) (keep := keep) (sub := sub) (clk := clk) (sta := sta) (ff := ff) (rt := rt) (rs := rs) (lv := lv) (sp := sp) (du := du) (fa := fa) (st := st) (sa := sa) (fi := fi) (re := re) (nI b) hN hE (fun q => decide (q = a)) N 0 (by omega) ((1 : Int32) <<< (nI a &&& 31)) (by
    have z := jr_0 (E := ja_E np op) ha (show bt ((1 : Int32) <<< (nI a &&& 31)) a = true by rw [e]; exact decide_eq_true rfl)
    rw [show (fun q => decide (q = a)) = bt ((1 : Int32) <<< (nI a &&& 31)) from funext (fun q => (e q).symm)]
    exact z)
  refine ⟨bt m, h1.1, jr_end h1 (Nat.le_refl _), fun post p1 p0 => ?_⟩
  refine nm_e ⟨1 + N, h2 post 1 (br_t (nI_le (Nat.le_refl _) (by omega)) ?_)⟩
  exact jx_hasBit (by omega) (fun z => ⟨rfl, p1 z⟩) (fun z => ⟨rfl, p0 z⟩)
end
section
-- one target's step
variable {N : Nat} {lim keep sub clk sta ff : Int32} {lv sp du fa np op st sa fi re : Nat → Int32}
theorem jx_settleTarget {post : St2 → Prop} {t : Nat} {w : Int32} (hN : N ≤ 32) (ht : t < N) (hS : ja_S N sub) (h0 : st t = 0) (hD : ja_D N lim keep sub ff lv sp np op st t w) (h : post (ja_X N lim keep sub clk sta ff lv sp du fa np op (upd st t w) (ja_sa w clk sa t) (ja_fi w clk fi t) (ja_re w du re t))) : wpX_settleTarget post (ja_X N lim keep sub clk sta ff lv sp du fa np op st sa fi re) (nI t) := by
  have ht' : t < 32 := by omega
  have hn : ¬ st t = 1 := by rw [h0]; decide
  have e0 : w = 0 → post (ja_X N lim keep sub clk sta ff lv sp du fa np op st sa fi re) := fun e => by
    subst e
    rw [ja_u0 h0, ja_sa0 (by decide), ja_fi0 (.inl rfl), ja_re0 (by decide)] at h
    exact h
  have e5 : w = 5 → post (ja_X N lim keep sub clk sta ff lv sp du fa np op (upd st t 5) sa (upd fi t clk) re) := fun e => by
    subst e
    rw [ja_sa0 (by decide), ja_fi1 (by decide), ja_re0 (by decide)] at h
    exact h
  have e3 : w = 3 → post (ja_X N lim keep sub clk sta ff lv sp du fa np op (upd st t 3) sa (upd fi t clk) re) := fun e => by
    subst e
    rw [ja_sa0 (by decide), ja_fi1 (by decide), ja_re0 (by decide)] at h
    exact h
  have e1 : w = 1 → post (ja_X N lim keep sub clk sta ff lv sp du fa np op (upd st t 1) (upd sa t clk) fi (upd re t (du t))) := fun e => by
    subst e
    rw [ja_sa1, ja_fi0 (.inr rfl), ja_re1] at h
    exact h
  have l3 : ja_lo N sub lv st t → wX_settleTarget_40 post (nI t) (nI N) lim keep sub clk sta ff (nI (jc_n (ja_r st lv false) N)) (nI (jc_n (ja_r st lv true) N)) lv sp du fa np op st sa fi re := fun l => by
    have q := ja_Dlo hD l
    refine jx_hasBadPrereq hN ht' (fun hb => br_f ja_i1 (jx_finish ht' hn (by decide) (e5 (q.1 hb)))) (fun hb => br_t rfl ?_)
    have q := q.2 hb
    refine jx_hasUndonePrereq hN ht' (fun hu => br_f ja_i1 (e0 (q.1 hu))) (fun hu => br_t rfl ?_)
    have q := q.2 hu
    refine jx_isStopping (fun hs => br_f ja_i1 (e0 (q.1 hs))) (fun hs => br_t rfl ?_)
    have q := q.2 hs
    refine jx_isStale hN ht' (fun hl => br_f ja_i1 ?_) (fun hl => br_t rfl (jx_finish ht' hn (by decide) (e3 (q.1 hl))))
    have q := q.2 hl
    exact jx_mayStart hN ht' (fun hm => br_f ja_i1 (jx_beginRun hN ht hn (e1 (q.1 hm)))) (fun hm => br_t rfl (e0 (q.2 hm)))
  have l2 : (lv t = 1 → ¬ ja_si N sub st 5) → wX_settleTarget_23 post (nI t) (nI N) lim keep sub clk sta ff (nI (jc_n (ja_r st lv false) N)) (nI (jc_n (ja_r st lv true) N)) lv sp du fa np op st sa fi re := fun l => by
    refine jx_isSub ht' (fun hl => br_f ja_i1 ?_) (fun hl => br_t rfl (l3 (fun z => absurd z hl)))
    exact jx_isSubmakeIn hN hS (fun h1 => br_f ja_i1 (l3 (fun _ => ⟨l hl, h1⟩))) (fun h1 => br_t rfl (e0 (ja_D2 hD hl (l hl) h1)))
  unfold wpX_settleTarget
  dsimp only
  refine jx_isSub ht' (fun hl => br_f ja_i1 ?_) (fun hl => br_t rfl (l2 (fun z => absurd z hl)))
  exact jx_isSubmakeIn hN hS (fun h5 => br_f ja_i1 (jx_finish ht' hn (by decide) (e5 (ja_D1 hD hl h5)))) (fun h5 => br_t rfl (l2 (fun _ => h5)))
end
section
-- p18: what is expected of each target, and what the run keeps
def jq_bd (ex : Nat → Int32) (q : Nat) : Prop := ex q = 4 ∨ ex q = 5
/-- t is to be skipped -/
def jq_A (N : Nat) (sub : Int32) (lv np op ex : Nat → Int32) (t : Nat) : Prop :=
  (lv t = 1 ∧ ∃ s, s < N ∧ sub = nI s ∧ ∃ q, q < N ∧ ja_E np op s q ∧ jq_bd ex q) ∨ ∃ p, p < N ∧ ja_E np op t p ∧ jq_bd ex p
/-- t is fresh -/
def jq_F (N : Nat) (sp np ex : Nat → Int32) (t : Nat) : Prop := ¬ sp t = 0 ∧ ¬ ∃ p, p < N ∧ bt (np t) p = true ∧ (ex p = 2 ∨ sp t < sp p)
/-- what is expected, target by target -/
def jq_L (N : Nat) (sub : Int32) (lv sp fa np op ex : Nat → Int32) (t : Nat) : Prop :=
  (jq_A N sub lv np op ex t → ex t = 5) ∧ (¬ jq_A N sub lv np op ex t →
    (nI t = sub → ((∃ u, u < N ∧ lv u = 1 ∧ jq_bd ex u) → ex t = 4) ∧ ((¬ ∃ u, u < N ∧ lv u = 1 ∧ jq_bd ex u) → ex t = 2)) ∧
    (¬ nI t = sub → (jq_F N sp np ex t → ex t = 3) ∧ (¬ jq_F N sp np ex t → (¬ fa t = 0 → ex t = 4) ∧ (fa t = 0 → ex t = 2))))
/-- the run: sp0 the stamps at the start, sp now -/
def jq_R (N : Nat) (sub : Int32) (lv sp0 fa np op ex st sp : Nat → Int32) : Prop :=
  (∀ t, t < N → st t = 0 ∨ st t = 1 ∨ (st t = ex t ∧ ¬ st t = 0 ∧ ¬ st t = 1)) ∧
  (∀ t, t < N → st t = 1 → ¬ jq_A N sub lv np op ex t ∧ (∀ p, p < N → ja_E np op t p → st p = 2 ∨ st p = 3) ∧ (¬ nI t = sub → ¬ jq_F N sp0 np ex t) ∧ (lv t = 1 → ja_si N sub st 1)) ∧
  (∀ t, t < N → (st t = 2 → 7 < sp t) ∧ (¬ st t = 2 → sp t = sp0 t))
/-- what the start of the run has -/
def jq_G (N : Nat) (sub : Int32) (lv sp0 np op : Nat → Int32) : Prop :=
  N ≤ 32 ∧ (∀ t, t < N → sp0 t ≤ 7) ∧ (∀ s, s < N → sub = nI s → ¬ lv s = 1) ∧ (∀ t p, t < 32 → ja_E np op t p → p < N)
theorem jq_nb {N : Nat} {sub : Int32} {lv sp0 fa np op ex st sp : Nat → Int32} (R : jq_R N sub lv sp0 fa np op ex st sp) {p : Nat} (hp : p < N) (h : ja_bad st p) : jq_bd ex p := by
  rcases R.1 p hp with z | z | z
  · rcases h with h | h <;> rw [z] at h <;> exact absurd h (by decide)
  · rcases h with h | h <;> rw [z] at h <;> exact absurd h (by decide)
  · rcases h with h | h
    · exact .inl (z.1.symm.trans h)
    · exact .inr (z.1.symm.trans h)
theorem jq_bn {N : Nat} {sub : Int32} {lv sp0 fa np op ex st sp : Nat → Int32} (R : jq_R N sub lv sp0 fa np op ex st sp) {p : Nat} (hp : p < N) (hd : ¬ ja_und st p) (h : jq_bd ex p) : ja_bad st p := by
  rcases R.1 p hp with z | z | z
  · exact absurd (.inl z) hd
  · exact absurd (.inr z) hd
  · rcases h with h | h
    · exact .inl (z.1.trans h)
    · exact .inr (z.1.trans h)
/-- done and not bad: REMADE or UPTODATE, where what is expected is one of the four -/
theorem jq_ok {N : Nat} {sub : Int32} {lv sp fa np op ex : Nat → Int32} {t : Nat} (L : jq_L N sub lv sp fa np op ex t) : ex t = 2 ∨ ex t = 3 ∨ ex t = 4 ∨ ex t = 5 := by
  by_cases a : jq_A N sub lv np op ex t
  · exact .inr (.inr (.inr (L.1 a)))
  · have L := L.2 a
    by_cases s : nI t = sub
    · by_cases u : ∃ u, u < N ∧ lv u = 1 ∧ jq_bd ex u
      · exact .inr (.inr (.inl ((L.1 s).1 u)))
      · exact .inl ((L.1 s).2 u)
    · have L := L.2 s
      by_cases f : jq_F N sp np ex t
      · exact .inr (.inl (L.1 f))
      · by_cases z : fa t = 0
        · exact .inl ((L.2 f).2 z)
        · exact .inr (.inr (.inl ((L.2 f).1 z)))
theorem jq_gd {N : Nat} {sub : Int32} {lv sp0 fa np op ex st sp : Nat → Int32} (L : ∀ t, t < N → jq_L N sub lv sp0 fa np op ex t) (R : jq_R N sub lv sp0 fa np op ex st sp) {p : Nat} (hp : p < N) (hd : ¬ ja_und st p) (hb : ¬ ja_bad st p) : st p = 2 ∨ st p = 3 := by
  rcases R.1 p hp with z | z | z
  · exact absurd (.inl z) hd
  · exact absurd (.inr z) hd
  · rcases jq_ok (L p hp) with h | h | h | h
    · exact .inl (z.1.trans h)
    · exact .inr (z.1.trans h)
    · exact absurd (.inl (z.1.trans h)) hb
    · exact absurd (.inr (z.1.trans h)) hb
/-- a target that may be looked at, with no bad and no undone prerequisite, isn't to be skipped -/
theorem jq_nA {N : Nat} {sub : Int32} {lv sp0 fa np op ex st sp : Nat → Int32} (hN : N ≤ 32) (R : jq_R N sub lv sp0 fa np op ex st sp) {t : Nat} (l : ja_lo N sub lv st t) (hb : ¬ ja_hb N np op st t) (hu : ¬ ja_hu N np op st t) : ¬ jq_A N sub lv np op ex t := by
  intro a
  rcases a with ⟨h1, s, hs, e, q, hq, hE, hbq⟩ | ⟨p, hp, hE, hbp⟩
  · obtain ⟨s', hs', e', z⟩ := (l h1).2
    have y : s = s' := (nI_eq (by omega) (by omega)).mp (e.symm.trans e')
    subst y
    exact (R.2.1 s hs z).1 (.inr ⟨q, hq, hE, hbq⟩)
  · exact hb ⟨p, hp, hE, jq_bn R hp (fun y => hu ⟨p, hp, hE, y⟩) hbp⟩
/-- no staleness now: fresh by what is expected; and the other way round -/
theorem jq_fr {N : Nat} {sub : Int32} {lv sp0 fa np op ex st sp : Nat → Int32} (G : jq_G N sub lv sp0 np op) (L : ∀ t, t < N → jq_L N sub lv sp0 fa np op ex t) (R : jq_R N sub lv sp0 fa np op ex st sp) {t : Nat} (ht : t < N) (h0 : st t = 0) (hb : ¬ ja_hb N np op st t) (hu : ¬ ja_hu N np op st t) (hs : ¬ nI t = sub) : ¬ ja_sl N sub sp np t ↔ jq_F N sp0 np ex t := by
  have e0 : sp t = sp0 t := (R.2.2 t ht).2 (by rw [h0]; decide)
  have hE : ∀ p, bt (np t) p = true → ja_E np op t p := fun p z => by
    unfold ja_E
    rw [b_or, z, Bool.true_or]
  have hst : ∀ p, p < N → bt (np t) p = true → st p = 2 ∨ st p = 3 := fun p hp z => jq_gd L R hp (fun y => hu ⟨p, hp, hE p z, y⟩) (fun y => hb ⟨p, hp, hE p z, y⟩)
  have key : ∀ p, p < N → bt (np t) p = true → (sp t < sp p ↔ (ex p = 2 ∨ sp0 t < sp0 p)) := fun p hp z => by
    rcases R.1 p hp with y | y | y
    · rcases hst p hp z with x | x <;> rw [y] at x <;> exact absurd x (by decide)
    · rcases hst p hp z with x | x <;> rw [y] at x <;> exact absurd x (by decide)
    · rcases hst p hp z with x | x
      · refine ⟨fun _ => .inl (y.1.symm.trans x), fun _ => ?_⟩
        rw [e0]
        exact Int32.lt_of_le_of_lt (G.2.1 t ht) ((R.2.2 p hp).1 x)
      · have e1 : sp p = sp0 p := (R.2.2 p hp).2 (by rw [x]; decide)
        rw [e0, e1]
        refine ⟨.inr, fun w => w.elim (fun w => ?_) id⟩
        rw [y.1, w] at x
        exact absurd x (by decide)
  constructor
  · intro h
    refine ⟨fun z => h (.inr (.inl (e0.trans z))), fun ⟨p, hp, z, w⟩ => h (.inr (.inr ⟨p, hp, z, (key p hp z).mpr w⟩))⟩
  · intro h z
    rcases z with z | z | ⟨p, hp, z, w⟩
    · exact hs z
    · exact h.1 (e0.symm.trans z)
    · exact h.2 ⟨p, hp, z, (key p hp z).mp w⟩
theorem jq_stp {N : Nat} {lim keep sub ff : Int32} {lv sp0 fa np op ex st sp : Nat → Int32} {t : Nat} {w : Int32} (G : jq_G N sub lv sp0 np op) (L : ∀ t, t < N → jq_L N sub lv sp0 fa np op ex t) (R : jq_R N sub lv sp0 fa np op ex st sp) (ht : t < N) (h0 : st t = 0) (D : ja_D N lim keep sub ff lv sp np op st t w) : jq_R N sub lv sp0 fa np op ex (upd st t w) sp := by
  have hN := G.1
  -- what a step to w asks for
  have main : ∀ w : Int32, ¬ w = 2 → (w = 1 ∨ (w = ex t ∧ ¬ w = 0 ∧ ¬ w = 1)) → (w = 1 → ¬ jq_A N sub lv np op ex t ∧ (∀ p, p < N → ja_E np op t p → st p = 2 ∨ st p = 3) ∧ (¬ nI t = sub → ¬ jq_F N sp0 np ex t) ∧ (lv t = 1 → ja_si N sub st 1)) → jq_R N sub lv sp0 fa np op ex (upd st t w) sp := by
    intro w h2 hw h1
    have ne : ∀ p, ¬ st p = 0 → p ≠ t := fun p z y => z (by rw [y]; exact h0)
    have n23 : ∀ p, st p = 2 ∨ st p = 3 → ¬ st p = 0 := fun p z y => by
      rcases z with z | z <;> rw [y] at z <;> exact absurd z (by decide)
    have lift : ∀ x, ¬ jq_A N sub lv np op ex x ∧ (∀ p, p < N → ja_E np op x p → st p = 2 ∨ st p = 3) ∧ (¬ nI x = sub → ¬ jq_F N sp0 np ex x) ∧ (lv x = 1 → ja_si N sub st 1) → ¬ jq_A N sub lv np op ex x ∧ (∀ p, p < N → ja_E np op x p → upd st t w p = 2 ∨ upd st t w p = 3) ∧ (¬ nI x = sub → ¬ jq_F N sp0 np ex x) ∧ (lv x = 1 → ja_si N sub (upd st t w) 1) := by
      intro x ⟨a, b, c, d⟩
      refine ⟨a, fun p hp hE => ?_, c, fun z => ?_⟩
      · rw [pk_un (ne p (n23 p (b p hp hE)))]
        exact b p hp hE
      · obtain ⟨s, hs, e, y⟩ := d z
        exact ⟨s, hs, e, by rw [pk_un (ne s (by rw [y]; decide))]; exact y⟩
    refine ⟨fun x hx => ?_, fun x hx z => ?_, fun x hx => ?_⟩
    · by_cases y : x = t
      · subst y
        rw [pk_us]
        exact hw.elim (fun z => .inr (.inl z)) (fun z => .inr (.inr z))
      · rw [pk_un y]
        exact R.1 x hx
    · by_cases y : x = t
      · subst y
        rw [pk_us] at z
        exact lift x (h1 z)
      · rw [pk_un y] at z
        exact lift x (R.2.1 x hx z)
    · by_cases y : x = t
      · subst y
        rw [pk_us]
        exact ⟨fun z => absurd z h2, fun _ => (R.2.2 x hx).2 (by rw [h0]; decide)⟩
      · rw [pk_un y]
        exact R.2.2 x hx
  have keep0 : w = 0 → jq_R N sub lv sp0 fa np op ex (upd st t w) sp := fun e => by
    rw [e, ja_u0 h0]
    exact R
  rcases D with d | d | d | d | d | d | d | d
  · obtain ⟨h1, ⟨s, hs, e, z⟩, hw⟩ := d
    subst hw
    have es : ex s = 5 := by
      rcases R.1 s hs with y | y | y
      · rw [y] at z; exact absurd z (by decide)
      · rw [y] at z; exact absurd z (by decide)
      · exact y.1.symm.trans z
    have As : jq_A N sub lv np op ex s := Classical.byContradiction (fun na => by
      have q := ((L s hs).2 na).1 e.symm
      by_cases u : ∃ u, u < N ∧ lv u = 1 ∧ jq_bd ex u
      · rw [q.1 u] at es; exact absurd es (by decide)
      · rw [q.2 u] at es; exact absurd es (by decide))
    have At : jq_A N sub lv np op ex t := by
      rcases As with y | ⟨p, hp, hE, hb⟩
      · exact absurd y.1 (G.2.2.1 s hs e)
      · exact .inl ⟨h1, s, hs, e, p, hp, hE, hb⟩
    exact main 5 (by decide) (.inr ⟨((L t ht).1 At).symm, by decide, by decide⟩) (fun z => absurd z (by decide))
  · exact keep0 d.2.2.2
  · obtain ⟨l, ⟨p, hp, hE, hb⟩, hw⟩ := d
    subst hw
    have At : jq_A N sub lv np op ex t := .inr ⟨p, hp, hE, jq_nb R hp hb⟩
    exact main 5 (by decide) (.inr ⟨((L t ht).1 At).symm, by decide, by decide⟩) (fun z => absurd z (by decide))
  · exact keep0 d.2.2.2
  · exact keep0 d.2.2.2.2
  · obtain ⟨l, hb, hu, hp, hsl', hw⟩ := d
    subst hw
    have hs : ¬ nI t = sub := fun z => hsl' (.inl z)
    have q := ((L t ht).2 (jq_nA hN R l hb hu)).2 hs
    exact main 3 (by decide) (.inr ⟨(q.1 ((jq_fr G L R ht h0 hb hu hs).mp hsl')).symm, by decide, by decide⟩) (fun z => absurd z (by decide))
  · obtain ⟨l, hb, hu, hp, hsl', hm, hw⟩ := d
    subst hw
    refine main 1 (by decide) (.inl rfl) (fun _ => ⟨jq_nA hN R l hb hu, fun p hp hE => jq_gd L R hp (fun y => hu ⟨p, hp, hE, y⟩) (fun y => hb ⟨p, hp, hE, y⟩), fun hs z => ?_, fun z => (l z).2⟩)
    exact (jq_fr G L R ht h0 hb hu hs).mpr z hsl'
  · exact keep0 d.2.2.2.2.2.2
/-- a command ends -/
theorem jq_fin {N : Nat} {sub : Int32} {lv sp0 fa np op ex st sp sp' : Nat → Int32} {t : Nat} {w : Int32} (R : jq_R N sub lv sp0 fa np op ex st sp) (ht : t < N) (h1 : st t = 1) (hw : w = ex t) (h24 : w = 2 ∨ w = 4) (hns : nI t = sub → ∀ y, y < N → lv y = 1 → ¬ st y = 1) (hsp : ∀ i, i ≠ t → sp' i = sp i) (h2 : w = 2 → 7 < sp' t) (h4 : ¬ w = 2 → sp' t = sp t) : jq_R N sub lv sp0 fa np op ex (upd st t w) sp' := by
  have ne : ∀ p, ¬ st p = 1 → p ≠ t := fun p z y => z (by rw [y]; exact h1)
  have n23 : ∀ p, st p = 2 ∨ st p = 3 → ¬ st p = 1 := fun p z y => by
    rcases z with z | z <;> rw [y] at z <;> exact absurd z (by decide)
  have w1 : ¬ w = 1 := fun y => by rcases h24 with z | z <;> rw [y] at z <;> exact absurd z (by decide)
  have w0 : ¬ w = 0 := fun y => by rcases h24 with z | z <;> rw [y] at z <;> exact absurd z (by decide)
  refine ⟨fun x hx => ?_, fun x hx z => ?_, fun x hx => ?_⟩
  · by_cases y : x = t
    · subst y
      rw [pk_us]
      exact .inr (.inr ⟨hw, w0, w1⟩)
    · rw [pk_un y]
      exact R.1 x hx
  · by_cases y : x = t
    · subst y
      rw [pk_us] at z
      exact absurd z w1
    · rw [pk_un y] at z
      obtain ⟨a, b, c, d⟩ := R.2.1 x hx z
      refine ⟨a, fun p hp hE => ?_, c, fun hl => ?_⟩
      · rw [pk_un (ne p (n23 p (b p hp hE)))]
        exact b p hp hE
      · obtain ⟨s, hs, e, v⟩ := d hl
        by_cases q : s = t
        · subst q
          exact absurd z (hns e.symm x hx hl)
        · exact ⟨s, hs, e, by rw [pk_un q]; exact v⟩
  · by_cases y : x = t
    · subst y
      rw [pk_us]
      exact ⟨h2, fun z => (h4 z).trans ((R.2.2 x hx).2 (by rw [h1]; decide))⟩
    · rw [pk_un y, hsp x y]
      exact R.2.2 x hx
theorem jq_exc {N : Nat} {sub : Int32} {lv sp0 fa np op ex st sp : Nat → Int32} {t : Nat} (L : ∀ t, t < N → jq_L N sub lv sp0 fa np op ex t) (R : jq_R N sub lv sp0 fa np op ex st sp) (ht : t < N) (h1 : st t = 1) (hs : ¬ nI t = sub) : (¬ fa t = 0 → ex t = 4) ∧ (fa t = 0 → ex t = 2) := by
  obtain ⟨a, _, c, _⟩ := R.2.1 t ht h1
  exact (((L t ht).2 a).2 hs).2 (c hs)
theorem jq_exs {N : Nat} {sub : Int32} {lv sp0 fa np op ex st sp : Nat → Int32} {t : Nat} (L : ∀ t, t < N → jq_L N sub lv sp0 fa np op ex t) (R : jq_R N sub lv sp0 fa np op ex st sp) (ht : t < N) (h1 : st t = 1) (hs : nI t = sub) (hd : ¬ ∃ u, u < N ∧ lv u = 1 ∧ ja_und st u) : ((∃ u, u < N ∧ lv u = 1 ∧ ja_bad st u) → ex t = 4) ∧ ((¬ ∃ u, u < N ∧ lv u = 1 ∧ ja_bad st u) → ex t = 2) := by
  obtain ⟨a, _, _, _⟩ := R.2.1 t ht h1
  have q := ((L t ht).2 a).1 hs
  refine ⟨fun ⟨u, hu, hl, hb⟩ => q.1 ⟨u, hu, hl, jq_nb R hu hb⟩, fun h => q.2 (fun ⟨u, hu, hl, hb⟩ => h ⟨u, hu, hl, jq_bn R hu (fun z => hd ⟨u, hu, hl, z⟩) hb⟩)⟩
-- tokens
/-- a RUNNING at the top, b in the sub-build, Lm tokens -/
def jq_T (Lm a b : Nat) : Prop := (a - 1) + (b - 1) + 1 ≤ Lm
theorem jq_fr0 {Lm a b : Nat} (h : jq_T Lm a b) : ja_fr (nI Lm) a b = nI (Lm - 1 - (a - 1) - (b - 1)) := by
  unfold jq_T at h
  unfold ja_fr
  rw [show (1 : Int32) = nI 1 from rfl, pk_sub (by omega), pk_sub (by omega), pk_sub (by omega)]
theorem jq_Tb {Lm a b : Nat} (hL : Lm ≤ 8) (h : jq_T Lm a b) (hm : a = 0 ∨ 0 < ja_fr (nI Lm) a b) : jq_T Lm (a + 1) b := by
  rcases hm with z | z
  · unfold jq_T at h ⊢
    omega
  · rw [jq_fr0 h, ← nI_0, nI_ltI (by omega) (by omega)] at z
    unfold jq_T at h ⊢
    omega
theorem jq_Tc {Lm a b : Nat} (hL : Lm ≤ 8) (h : jq_T Lm a b) (hm : b = 0 ∨ 0 < ja_fr (nI Lm) a b) : jq_T Lm a (b + 1) := by
  rcases hm with z | z
  · unfold jq_T at h ⊢
    omega
  · rw [jq_fr0 h, ← nI_0, nI_ltI (by omega) (by omega)] at z
    unfold jq_T at h ⊢
    omega
theorem jq_Tm {Lm a b a' b' : Nat} (h : jq_T Lm a b) (ha : a' ≤ a) (hb : b' ≤ b) : jq_T Lm a' b' := by
  unfold jq_T at h ⊢
  omega
end
section
-- p18: no circle of prerequisites, by ranks; the passes that reckon what is expected end
def jq_K (N : Nat) (E : Nat → Nat → Prop) : Prop := ∃ (rk : Nat → Nat) (M : Nat), (∀ t, t < N → rk t < M) ∧ ∀ t p, t < N → p < N → E t p → rk p < rk t
theorem jq_K0 (N : Nat) (E : Nat → Nat → Prop) (h : ∀ t p, t < N → p < N → ¬ E t p) : jq_K N E := ⟨fun _ => 0, 1, fun _ _ => Nat.zero_lt_one, fun t p ht hp e => absurd e (h t p ht hp)⟩
theorem jq_Kw {N : Nat} {E E' : Nat → Nat → Prop} (h : jq_K N E) (w : ∀ t p, t < N → p < N → E' t p → E t p) : jq_K N E' := by
  obtain ⟨rk, M, a, b⟩ := h
  exact ⟨rk, M, a, fun t p ht hp e => b t p ht hp (w t p ht hp e)⟩
theorem jq_Ka {N : Nat} {E E' : Nat → Nat → Prop} {a b : Nat} {S : Nat → Bool} (h : jq_K N E) (cl : jr_cl E N (fun q => S q = true)) (hb : S b = true) (ha : ¬ S a = true) (w : ∀ t p, t < N → p < N → E' t p → E t p ∨ (t = a ∧ p = b)) (hbN : b < N) : jq_K N E' := by
  obtain ⟨rk, M, h1, h2⟩ := h
  refine ⟨fun q => if S q = true then rk q else rk q + M, M + M, fun t ht => ?_, fun t p ht hp e => ?_⟩
  · have := h1 t ht
    show (if S t = true then rk t else rk t + M) < M + M
    by_cases z : S t = true
    · rw [if_pos z]; omega
    · rw [if_neg z]; omega
  · show (if S p = true then rk p else rk p + M) < (if S t = true then rk t else rk t + M)
    rcases w t p ht hp e with z | ⟨z1, z2⟩
    · have h3 := h2 t p ht hp z
      by_cases y : S t = true
      · rw [if_pos y, if_pos (cl t p ht hp y z)]
        exact h3
      · rw [if_neg y]
        by_cases x : S p = true
        · rw [if_pos x]; omega
        · rw [if_neg x]; omega
    · subst z1 z2
      have h3 := h1 p hbN
      rw [if_pos hb, if_neg ha]
      omega
/-- what the reckoning waits for -/
def jq_X (N : Nat) (sub : Int32) (lv np op : Nat → Int32) (t p : Nat) : Prop := ja_E np op t p ∨ (lv t = 1 ∧ ∃ s, s < N ∧ sub = nI s ∧ ja_E np op s p) ∨ (nI t = sub ∧ lv p = 1)
theorem jq_KX {N : Nat} {sub : Int32} {lv np op : Nat → Int32} (hN : N ≤ 32) (hl : ∀ t p, t < N → p < N → ja_E np op t p → (lv t = 1 ↔ lv p = 1)) (hs : ∀ s, s < N → sub = nI s → ¬ lv s = 1) (h : jq_K N (ja_E np op)) : jq_K N (jq_X N sub lv np op) := by
  obtain ⟨rk, M, h1, h2⟩ := h
  have up : ∀ p t, rk p < rk t → (2 * M) * rk p + 2 * M ≤ (2 * M) * rk t := fun p t z => by
    have := Nat.mul_le_mul_left (2 * M) (Nat.succ_le_of_lt z)
    rw [Nat.mul_succ] at this
    exact this
  have bd : ∀ t, t < N → (2 * M) * rk t + 2 * M ≤ (2 * M) * M := fun t ht => by
    have := Nat.mul_le_mul_left (2 * M) (Nat.succ_le_of_lt (h1 t ht))
    rw [Nat.mul_succ] at this
    exact this
  by_cases ex : ∃ s, s < N ∧ sub = nI s
  · obtain ⟨s, hsN, es⟩ := ex
    have un : ∀ s', s' < N → sub = nI s' → s' = s := fun s' h e => (nI_eq (by omega) (by omega)).mp (e.symm.trans es)
    have bs := bd s hsN
    refine ⟨fun t => if lv t = 1 then (2 * M) * rk s + M + rk t else (2 * M) * rk t + 2 * M, (2 * M) * M + 2 * M, fun t ht => ?_, fun t p ht hp e => ?_⟩
    · show (if lv t = 1 then (2 * M) * rk s + M + rk t else (2 * M) * rk t + 2 * M) < (2 * M) * M + 2 * M
      have b1 := bd t ht
      have b2 := h1 t ht
      split <;> omega
    · show (if lv p = 1 then (2 * M) * rk s + M + rk p else (2 * M) * rk p + 2 * M) < (if lv t = 1 then (2 * M) * rk s + M + rk t else (2 * M) * rk t + 2 * M)
      have b2 := h1 t ht
      have b3 := h1 p hp
      rcases e with e | ⟨l1, s', hs', e', e⟩ | ⟨e, l2⟩
      · have r := h2 t p ht hp e
        have u := up p t r
        by_cases y : lv t = 1
        · rw [if_pos y, if_pos ((hl t p ht hp e).mp y)]
          omega
        · rw [if_neg y, if_neg (fun z => y ((hl t p ht hp e).mpr z))]
          omega
      · have es' := un s' hs' e'
        subst es'
        have r := h2 s' p hs' hp e
        have u := up p s' r
        have np' : ¬ lv p = 1 := fun z => hs s' hs' e' ((hl s' p hs' hp e).mpr z)
        rw [if_pos l1, if_neg np']
        omega
      · have et := un t ht e.symm
        subst et
        rw [if_pos l2, if_neg (hs t ht es)]
        omega
  · refine ⟨rk, M, h1, fun t p ht hp e => ?_⟩
    rcases e with e | ⟨_, s', hs', e', _⟩ | ⟨e, _⟩
    · exact h2 t p ht hp e
    · exact absurd ⟨s', hs', e'⟩ ex
    · exact absurd ⟨t, ht, e.symm⟩ ex
theorem jq_min {N : Nat} (rk : Nat → Nat) (U : Nat → Prop) (h : ∃ t, t < N ∧ U t) : ∃ t, t < N ∧ U t ∧ ∀ p, p < N → rk p < rk t → ¬ U p := by
  obtain ⟨t, ht, hu⟩ := h
  suffices H : ∀ n t, t < N → U t → rk t ≤ n → ∃ t, t < N ∧ U t ∧ ∀ p, p < N → rk p < rk t → ¬ U p from H (rk t) t ht hu (Nat.le_refl _)
  intro n
  induction n with
  | zero => exact fun t ht hu hn => ⟨t, ht, hu, fun p hp hr => by omega⟩
  | succ n ih =>
    intro t ht hu hn
    by_cases z : ∃ p, p < N ∧ rk p < rk t ∧ U p
    · obtain ⟨p, hp, hr, hup⟩ := z
      exact ih p hp hup (by omega)
    · exact ⟨t, ht, hu, fun p hp hr y => z ⟨p, hp, hr, y⟩⟩
theorem jq_pass {N r : Nat} {E : Nat → Nat → Prop} {D0 D1 : Nat → Bool} (K : jq_K N E) (h : (∀ t, t < N → D0 t = true) ∨ r ≤ jc_n D0 N) (mo : ∀ t, t < N → D0 t = true → D1 t = true) (sp : ∀ t, t < N → (∀ p, p < N → E t p → D0 p = true) → D1 t = true) : (∀ t, t < N → D1 t = true) ∨ r + 1 ≤ jc_n D1 N := by
  by_cases all : ∀ t, t < N → D0 t = true
  · exact .inl (fun t ht => mo t ht (all t ht))
  · right
    obtain ⟨rk, M, h1, h2⟩ := K
    obtain ⟨t0, z⟩ := Classical.not_forall.mp all
    obtain ⟨ht0, z⟩ := Classical.not_imp.mp z
    obtain ⟨t, ht, hu, hm⟩ := jq_min (N := N) rk (fun q => ¬ D0 q = true) ⟨t0, ht0, z⟩
    have d1 := sp t ht (fun p hp e => Classical.byContradiction (fun y => hm p hp (h2 t p ht hp e) y))
    have d0 : D0 t = false := by
      cases y : D0 t with
      | false => rfl
      | true => exact absurd y hu
    have := jc_lt N ht mo d0 d1
    rcases h with h | h
    · exact absurd h all
    · omega
theorem jq_all {N r : Nat} {D : Nat → Bool} (h : (∀ t, t < N → D t = true) ∨ r ≤ jc_n D N) (hr : N < r) : ∀ t, t < N → D t = true := by
  rcases h with h | h
  · exact h
  · have := jc_le D N
    omega
end
section
-- p18: all that the run keeps; clk the clock now, sa0 the start times when the last look was taken
def jq_V (N Lm : Nat) (sub clk : Int32) (lv sp0 fa np op ex sa0 st sp sa : Nat → Int32) : Prop :=
  jq_R N sub lv sp0 fa np op ex st sp ∧ jq_T Lm (jc_n (ja_r st lv false) N) (jc_n (ja_r st lv true) N) ∧
  (∀ t, t < N → st t = 0 → sa t = -1) ∧
  (∀ t, t < N → 0 ≤ sa t → ∀ p, p < N → ja_E np op t p → st p = 2 ∨ st p = 3) ∧
  (∀ t, t < N → sa t = sa0 t ∨ (sa0 t = -1 ∧ sa t = clk))
theorem jq_Vs {N Lm : Nat} {keep sub clk ff w : Int32} {lv sp0 fa np op ex sa0 st sp sa : Nat → Int32} {t : Nat} (hLm : Lm ≤ 8) (G : jq_G N sub lv sp0 np op) (L : ∀ t, t < N → jq_L N sub lv sp0 fa np op ex t) (V : jq_V N Lm sub clk lv sp0 fa np op ex sa0 st sp sa) (ht : t < N) (h0 : st t = 0) (D : ja_D N (nI Lm) keep sub ff lv sp np op st t w) : jq_V N Lm sub clk lv sp0 fa np op ex sa0 (upd st t w) sp (ja_sa w clk sa t) := by
  obtain ⟨R, T, A1, B, C⟩ := V
  have R' := jq_stp G L R ht h0 D
  have h1 : ¬ st t = 1 := by rw [h0]; decide
  have ne : ∀ p, st p = 2 ∨ st p = 3 → p ≠ t := fun p z y => by
    rw [y, h0] at z
    exact absurd z (by decide)
  by_cases hw : w = 1
  · subst hw
    have hm : ja_my N (nI Lm) lv st t := by
      rcases D with d | d | d | d | d | d | d | d
      · exact absurd d.2.2 (by decide)
      · exact absurd d.2.2.2 (by decide)
      · exact absurd d.2.2 (by decide)
      · exact absurd d.2.2.2 (by decide)
      · exact absurd d.2.2.2.2 (by decide)
      · exact absurd d.2.2.2.2.2 (by decide)
      · exact d.2.2.2.2.2.1
      · exact absurd d.2.2.2.2.2.2 (by decide)
    rw [ja_sa1]
    refine ⟨R', ?_, fun x hx z => ?_, fun x hx z p hp hE => ?_, fun x hx => ?_⟩
    · have a := ja_cb (lv := lv) ht h1
      have b := ja_cbo (st := st) (lv := lv) (t := t) (N := N)
      by_cases hl : lv t = 1
      · unfold ja_my at hm
        rw [decide_eq_true hl] at a b hm
        have b' : jc_n (ja_r (upd st t 1) lv false) N = jc_n (ja_r st lv false) N := b
        rw [a, b']
        exact jq_Tc hLm T hm
      · unfold ja_my at hm
        rw [decide_eq_false hl] at a b hm
        have b' : jc_n (ja_r (upd st t 1) lv true) N = jc_n (ja_r st lv true) N := b
        rw [a, b']
        exact jq_Tb hLm T hm
    · by_cases y : x = t
      · subst y
        rw [pk_us] at z
        exact absurd z (by decide)
      · rw [pk_un y] at z ⊢
        exact A1 x hx z
    · by_cases y : x = t
      · subst y
        exact (R'.2.1 x hx pk_us).2.1 p hp hE
      · rw [pk_un y] at z
        have q := B x hx z p hp hE
        rw [pk_un (ne p q)]
        exact q
    · by_cases y : x = t
      · subst y
        right
        rw [pk_us]
        have q := A1 x hx h0
        rcases C x hx with c | c
        · exact ⟨by rw [← c]; exact q, rfl⟩
        · exact ⟨c.1, rfl⟩
      · rw [pk_un y]
        exact C x hx
  · rw [ja_sa0 hw]
    refine ⟨R', ?_, fun x hx z => ?_, fun x hx z p hp hE => ?_, C⟩
    · rw [ja_cs h1 hw, ja_cs h1 hw]
      exact T
    · by_cases y : x = t
      · subst y
        exact A1 x hx h0
      · rw [pk_un y] at z
        exact A1 x hx z
    · have q := B x hx z p hp hE
      rw [pk_un (ne p q)]
      exact q
theorem jq_Vf {N Lm : Nat} {sub clk w : Int32} {lv sp0 fa np op ex sa0 st sp sp' sa : Nat → Int32} {t : Nat} (V : jq_V N Lm sub clk lv sp0 fa np op ex sa0 st sp sa) (ht : t < N) (h1 : st t = 1) (hw : w = ex t) (h24 : w = 2 ∨ w = 4) (hns : nI t = sub → ∀ y, y < N → lv y = 1 → ¬ st y = 1) (hsp : ∀ i, i ≠ t → sp' i = sp i) (h2 : w = 2 → 7 < sp' t) (h4 : ¬ w = 2 → sp' t = sp t) : jq_V N Lm sub clk lv sp0 fa np op ex sa0 (upd st t w) sp' sa := by
  obtain ⟨R, T, A1, B, C⟩ := V
  have w1 : ¬ w = 1 := fun y => by rcases h24 with z | z <;> rw [y] at z <;> exact absurd z (by decide)
  have w0 : ¬ w = 0 := fun y => by rcases h24 with z | z <;> rw [y] at z <;> exact absurd z (by decide)
  refine ⟨jq_fin R ht h1 hw h24 hns hsp h2 h4, ?_, fun x hx z => ?_, fun x hx z p hp hE => ?_, C⟩
  · have a := ja_ce (lv := lv) ht h1 w1
    have b := ja_ceo (st := st) (lv := lv) (t := t) (N := N) (s := w)
    refine jq_Tm T ?_ ?_
    · by_cases hl : lv t = 1
      · rw [decide_eq_true hl] at b
        have b' : jc_n (ja_r st lv false) N = jc_n (ja_r (upd st t w) lv false) N := b
        omega
      · rw [decide_eq_false hl] at a
        omega
    · by_cases hl : lv t = 1
      · rw [decide_eq_true hl] at a
        omega
      · rw [decide_eq_false hl] at b
        have b' : jc_n (ja_r st lv true) N = jc_n (ja_r (upd st t w) lv true) N := b
        omega
  · by_cases y : x = t
    · subst y
      rw [pk_us] at z
      exact absurd z w0
    · rw [pk_un y] at z
      exact A1 x hx z
  · have q := B x hx z p hp hE
    have ne : p ≠ t := fun y => by
      rw [y, h1] at q
      exact absurd q (by decide)
    rw [pk_un ne]
    exact q
/-- a new look: the start times are taken as they are -/
theorem jq_Vn {N Lm : Nat} {sub clk clk' : Int32} {lv sp0 fa np op ex sa0 st sp sa : Nat → Int32} (V : jq_V N Lm sub clk lv sp0 fa np op ex sa0 st sp sa) : jq_V N Lm sub clk' lv sp0 fa np op ex sa st sp sa :=
  ⟨V.1, V.2.1, V.2.2.1, V.2.2.2.1, fun _ _ => .inl rfl⟩
end
section
-- p18: settle and tick keep what the run keeps
variable {N Lm : Nat} {sub clk sta ff : Int32} {lv sp0 sp du fa np op st sa fi re ex sa0 : Nat → Int32}
theorem jp_in {x2 : Int32} (hLm : Lm ≤ 8) (hS : ja_S N sub) (G : jq_G N sub lv sp0 np op) (L : ∀ t, t < N → jq_L N sub lv sp0 fa np op ex t) : ∀ d i, i + d = N → ∀ (b : Int32) (st sa fi re : Nat → Int32), ja_B b → jq_V N Lm sub clk lv sp0 fa np op ex sa0 st sp sa → ∃ b' st' sa' fi' re', ja_B b' ∧ jq_V N Lm sub clk lv sp0 fa np op ex sa0 st' sp sa' ∧ (∀ (post : St2 → Prop) J f, wX_settle_20 post J x2 f b' (nI N) (nI N) (nI Lm) 1 sub clk sta ff (nI (jc_n (ja_r st' lv false) N)) (nI (jc_n (ja_r st' lv true) N)) lv sp du fa np op st' sa' fi' re' → wX_settle_20 post J x2 (f + d) b (nI i) (nI N) (nI Lm) 1 sub clk sta ff (nI (jc_n (ja_r st lv false) N)) (nI (jc_n (ja_r st lv true) N)) lv sp du fa np op st sa fi re) := by
  have hN := G.1
  intro d
  induction d with
  | zero =>
    intro i hi b st sa fi re hB V
    have e : i = N := by omega
    subst e
    exact ⟨b, st, sa, fi, re, hB, V, fun _ J f z => z⟩
  | succ d ih =>
    intro i hi b st sa fi re hB V
    have hin : vp_in (nI i) 32 := vp_in_nI (by omega) (by omega)
    have hcl : (nI i).toNatClampNeg = i := nI_clamp (by omega)
    have hge : ¬ nI N ≤ nI i := nI_ge (by omega) (by omega)
    by_cases h0 : st i = 0
    · obtain ⟨w, hD⟩ := ja_Dex N (nI Lm) 1 sub ff lv sp np op st i
      obtain ⟨b', st', sa', fi', re', g1, g2, g3⟩ := ih (i + 1) (by omega) (if w = 0 then b else 1) (upd st i w) (ja_sa w clk sa i) (ja_fi w clk fi i) (ja_re w du re i) (by
        by_cases hw : w = 0
        · rw [if_pos hw]; exact hB
        · rw [if_neg hw]; exact ja_B1) (jq_Vs hLm G L V (by omega) h0 hD)
      refine ⟨b', st', sa', fi', re', g1, g2, fun post J f z => ?_⟩
      have z' := g3 post J f z
      refine br_f hge ⟨hin, ?_⟩
      rw [hcl]
      refine br_t h0 (jx_settleTarget hN (by omega) hS h0 hD ⟨hin, ?_⟩)
      rw [pk_us]
      by_cases hw : w = 0
      · rw [if_pos hw] at z'
        refine br_t hw (nm_r ?_ (nm_r (nI_1 i) z'))
        rcases hB with hb | hb <;> subst hb <;> rfl
      · rw [if_neg hw] at z'
        refine br_f hw (nm_r ?_ (nm_r (nI_1 i) z'))
        rcases hB with hb | hb <;> subst hb <;> rfl
    · obtain ⟨b', st', sa', fi', re', g1, g2, g3⟩ := ih (i + 1) (by omega) b st sa fi re hB V
      refine ⟨b', st', sa', fi', re', g1, g2, fun post J f z => ?_⟩
      refine br_f hge ⟨hin, ?_⟩
      rw [hcl]
      exact br_f h0 (nm_r (nI_1 i) (g3 post J f z))
theorem jp_ps (hLm : Lm ≤ 8) (hS : ja_S N sub) (G : jq_G N sub lv sp0 np op) (L : ∀ t, t < N → jq_L N sub lv sp0 fa np op ex t) : ∀ e r, r + e = N + 1 → ∀ (st sa fi re : Nat → Int32), jq_V N Lm sub clk lv sp0 fa np op ex sa0 st sp sa → ∃ st' sa' fi' re', jq_V N Lm sub clk lv sp0 fa np op ex sa0 st' sp sa' ∧ (∀ post : St2 → Prop, wX_settle_71 post (nI N) (nI Lm) 1 sub clk sta ff (nI (jc_n (ja_r st' lv false) N)) (nI (jc_n (ja_r st' lv true) N)) lv sp du fa np op st' sa' fi' re' → wX_settle_4 post (e + 1) 1 (nI r) (nI N) (nI Lm) 1 sub clk sta ff (nI (jc_n (ja_r st lv false) N)) (nI (jc_n (ja_r st lv true) N)) lv sp du fa np op st sa fi re) := by
  have hN := G.1
  intro e
  induction e with
  | zero =>
    intro r hr st sa fi re V
    have e : r = N + 1 := by omega
    subst e
    exact ⟨st, sa, fi, re, V, fun post z => br_f ja_i1 (br_t (nI_lt (by omega) (by omega)) z)⟩
  | succ e ih =>
    intro r hr st sa fi re V
    obtain ⟨b, st1, sa1, fi1, re1, g1, g2, g3⟩ := jp_in (x2 := nI r) (sta := sta) (ff := ff) (clk := clk) (lv := lv) (sp := sp) (du := du) (fa := fa) hLm hS G L N 0 (by omega) 0 st sa fi re ja_B0 V
    have hx : ¬ nI N < nI r := nI_nlt (by omega) (by omega)
    have hl : nI N ≤ nI N := nI_le (Nat.le_refl _) (by omega)
    by_cases hb : b = 0
    · refine ⟨st1, sa1, fi1, re1, g2, fun post z => ?_⟩
      exact br_f ja_i1 (br_f hx ⟨1 + N, g3 post _ 1 (br_t hl (nm_r (nI_1 r) (br_t hb z)))⟩)
    · have hb1 : b = 1 := ja_B1' g1 hb
      obtain ⟨st2, sa2, fi2, re2, k1, k2⟩ := ih (r + 1) (by omega) st1 sa1 fi1 re1 g2
      subst hb1
      refine ⟨st2, sa2, fi2, re2, k1, fun post z => ?_⟩
      exact br_f ja_i1 (br_f hx ⟨1 + N, g3 post _ 1 (br_t hl (nm_r (nI_1 r) (k2 post z)))⟩)
theorem jp_settle (hLm : Lm ≤ 8) (hS : ja_S N sub) (G : jq_G N sub lv sp0 np op) (L : ∀ t, t < N → jq_L N sub lv sp0 fa np op ex t) (V : jq_V N Lm sub clk lv sp0 fa np op ex sa0 st sp sa) : ∃ st' sa' fi' re', jq_V N Lm sub clk lv sp0 fa np op ex sa0 st' sp sa' ∧ (∀ post : St2 → Prop, post (ja_X N (nI Lm) 1 sub clk sta ff lv sp du fa np op st' sa' fi' re') → wpX_settle post (ja_X N (nI Lm) 1 sub clk sta ff lv sp du fa np op st sa fi re)) := by
  obtain ⟨st1, sa1, fi1, re1, g1, g2⟩ := jp_ps (sta := sta) (ff := ff) (clk := clk) (lv := lv) (sp := sp) (du := du) (fa := fa) hLm hS G L (N + 1) 0 (by omega) st sa fi re V
  refine ⟨st1, sa1, fi1, re1, g1, fun post z => ⟨N + 1 + 1, g2 post ?_⟩⟩
  unfold wX_settle_71
  exact jx_isStopping (fun y => absurd y.1 (by decide)) (fun _ => br_t rfl z)
theorem jp_7 {c : Nat} (h : c ≤ 1000) : (7 : Int32) < 1000000 + nI c := by
  rw [show (1000000 : Int32) = nI 1000000 from rfl, nI_add, show (7 : Int32) = nI 7 from rfl]
  exact nI_lt (by omega) (by omega)
theorem jp_adv {cl : Nat} (hcl' : cl ≤ 1000) (G : jq_G N sub lv sp0 np op) (L : ∀ t, t < N → jq_L N sub lv sp0 fa np op ex t) : ∀ d i, i + d = N → ∀ (m : Nat) (ff : Int32) (sp st fi re : Nat → Int32), jq_V N Lm sub (nI cl) lv sp0 fa np op ex sa0 st sp sa → ∃ m' ff' sp' st' fi' re', m' ≤ m + d ∧ jq_V N Lm sub (nI cl) lv sp0 fa np op ex sa0 st' sp' sa ∧ (∀ (post : Int32 → St2 → Prop) f, wX_advanceCommands_4 post f (nI m') (nI N) (nI N) (nI Lm) 1 sub (nI cl) sta ff' (nI (jc_n (ja_r st' lv false) N)) (nI (jc_n (ja_r st' lv true) N)) lv sp' du fa np op st' sa fi' re' → wX_advanceCommands_4 post (f + d) (nI m) (nI i) (nI N) (nI Lm) 1 sub (nI cl) sta ff (nI (jc_n (ja_r st lv false) N)) (nI (jc_n (ja_r st lv true) N)) lv sp du fa np op st sa fi re) := by
  have hN := G.1
  intro d
  induction d with
  | zero =>
    intro i hi m ff sp st fi re V
    have e : i = N := by omega
    subst e
    exact ⟨m, ff, sp, st, fi, re, by omega, V, fun _ f z => z⟩
  | succ d ih =>
    intro i hi m ff sp st fi re V
    have hin : vp_in (nI i) 32 := vp_in_nI (by omega) (by omega)
    have hcl : (nI i).toNatClampNeg = i := nI_clamp (by omega)
    have hge : ¬ nI N ≤ nI i := nI_ge (by omega) (by omega)
    have hiN : i < N := by omega
    by_cases hs : nI i = sub
    · obtain ⟨m', ff', sp', st', fi', re', g0, g1, g3⟩ := ih (i + 1) (by omega) m ff sp st fi re V
      refine ⟨m', ff', sp', st', fi', re', by omega, g1, fun post f z => ?_⟩
      exact br_f hge (br_t hs (nm_r (nI_1 i) (g3 post f z)))
    · by_cases h1 : st i = 1
      · have q := jq_exc L V.1 hiN h1 hs
        by_cases hz : re i - 1 = 0
        · by_cases hf : fa i = 0
          · obtain ⟨m', ff', sp', st', fi', re', g0, g1, g3⟩ := ih (i + 1) (by omega) (m + 1) ff (upd sp i (1000000 + nI cl)) (upd st i 2) (upd fi i (nI cl)) (upd re i (re i - 1)) (jq_Vf V hiN h1 (q.2 hf).symm (.inl rfl) (fun y => absurd y hs) (fun x hx => pk_un hx) (fun _ => by rw [pk_us]; exact jp_7 hcl') (fun y => absurd rfl y))
            refine ⟨m', ff', sp', st', fi', re', by omega, g1, fun post f z => ?_⟩
            refine br_f hge (br_f hs ⟨hin, ?_⟩)
            rw [hcl]
            refine br_t h1 ⟨hin, hin, nm_e ⟨hin, ?_⟩⟩
            rw [pk_us]
            refine br_t hz ⟨hin, jx_endRun hN (by omega) h1 (fun y => absurd hf y) (fun _ => ?_)⟩
            exact nm_r (nI_1 m) (nm_r (nI_1 i) (g3 post f z))
          · obtain ⟨m', ff', sp', st', fi', re', g0, g1, g3⟩ := ih (i + 1) (by omega) (m + 1) 1 sp (upd st i 4) (upd fi i (nI cl)) (upd re i (re i - 1)) (jq_Vf V hiN h1 (q.1 hf).symm (.inr rfl) (fun y => absurd y hs) (fun x hx => rfl) (fun y => absurd y (by decide)) (fun _ => rfl))
            refine ⟨m', ff', sp', st', fi', re', by omega, g1, fun post f z => ?_⟩
            refine br_f hge (br_f hs ⟨hin, ?_⟩)
            rw [hcl]
            refine br_t h1 ⟨hin, hin, nm_e ⟨hin, ?_⟩⟩
            rw [pk_us]
            refine br_t hz ⟨hin, jx_endRun hN (by omega) h1 (fun _ => ?_) (fun y => absurd y hf)⟩
            exact nm_r (nI_1 m) (nm_r (nI_1 i) (g3 post f z))
        · obtain ⟨m', ff', sp', st', fi', re', g0, g1, g3⟩ := ih (i + 1) (by omega) m ff sp st fi (upd re i (re i - 1)) V
          refine ⟨m', ff', sp', st', fi', re', by omega, g1, fun post f z => ?_⟩
          refine br_f hge (br_f hs ⟨hin, ?_⟩)
          rw [hcl]
          refine br_t h1 ⟨hin, hin, nm_e ⟨hin, ?_⟩⟩
          rw [pk_us]
          exact br_f hz (nm_r (nI_1 i) (g3 post f z))
      · obtain ⟨m', ff', sp', st', fi', re', g0, g1, g3⟩ := ih (i + 1) (by omega) m ff sp st fi re V
        refine ⟨m', ff', sp', st', fi', re', by omega, g1, fun post f z => ?_⟩
        refine br_f hge (br_f hs ⟨hin, ?_⟩)
        rw [hcl]
        exact br_f h1 (nm_r (nI_1 i) (g3 post f z))
theorem jp_tick {cl : Nat} (hcl : cl + 1 ≤ 1000) (hLm : Lm ≤ 8) (hS : ja_S N sub) (G : jq_G N sub lv sp0 np op) (L : ∀ t, t < N → jq_L N sub lv sp0 fa np op ex t) (hs : ¬ sta = 0) (hq : ∃ t, t < N ∧ ja_und st t) (V : jq_V N Lm sub (nI cl) lv sp0 fa np op ex sa0 st sp sa) : ∃ m ff' sp' st' sa' fi' re', m ≤ 1000 ∧ jq_V N Lm sub (nI (cl + 1)) lv sp0 fa np op ex sa st' sp' sa' ∧ (∀ post : Int32 → St2 → Prop, post (nI m) (ja_X N (nI Lm) 1 sub (nI (cl + 1)) sta ff' lv sp' du fa np op st' sa' fi' re') → wpX_tick post (ja_X N (nI Lm) 1 sub (nI cl) sta ff lv sp du fa np op st sa fi re)) := by
  have hN := G.1
  have hl : nI N ≤ nI N := nI_le (Nat.le_refl _) (by omega)
  obtain ⟨m, ff1, sp1, st1, fi1, re1, a0, a1, a3⟩ := jp_adv (sta := sta) (du := du) (sa := sa) hcl G L N 0 (by omega) 0 ff sp st fi re (jq_Vn V)
  have xx : ∀ post : Int32 → St2 → Prop, wX_advanceCommands_4 (fun r_24 u => match u with | (b1, b2, b3, b4, b5, b6, b7, b8, b9, c1, c2, c3, c4, c5, c6, c7, c8, c9, c10) => (wpX_isSubBuildOver (fun r_44 => (((r_44 = 0 → (wX_tick_55 post r_24 b1 b2 b3 b4 b5 b6 b7 b8 b9 c1 c2 c3 c4 c5 c6 c7 c8 c9 c10)) ∧ (¬ r_44 = 0 → (wpX_hasBadSub (fun r_85 => (wpX_endRun (fun u => match u with | (d1, d2, d3, d4, d5, d6, d7, d8, d9, e1, e2, e3, e4, e5, e6, e7, e8, e9, e10) => (∀ x1_125 : Int32, x1_125 = r_24 + 1 → (wX_tick_55 post x1_125 d1 d2 d3 d4 d5 d6 d7 d8 d9 e1 e2 e3 e4 e5 e6 e7 e8 e9 e10))) (b1, b2, b3, b4, b5, b6, b7, b8, b9, c1, c2, c3, c4, c5, c6, c7, c8, c9, c10) b4 r_85)) (b1, b2, b3, b4, b5, b6, b7, b8, b9, c1, c2, c3, c4, c5, c6, c7, c8, c9, c10)))))) (b1, b2, b3, b4, b5, b6, b7, b8, b9, c1, c2, c3, c4, c5, c6, c7, c8, c9, c10))) 1 (nI m) (nI N) (nI N) (nI Lm) 1 sub (nI (cl + 1)) sta ff1 (nI (jc_n (ja_r st1 lv false) N)) (nI (jc_n (ja_r st1 lv true) N)) lv sp1 du fa np op st1 sa fi1 re1 → wpX_tick post (ja_X N (nI Lm) 1 sub (nI cl) sta ff lv sp du fa np op st sa fi re) := by
    intro post z
    refine br_f hs ?_
    refine jx_isQuiet hN (fun y => absurd hq y.2) (fun _ => br_t rfl (nm_r (nI_1 cl) ⟨1 + N, ?_⟩))
    exact a3 _ 1 z
  by_cases ho : ja_si N sub st1 1 ∧ ¬ ∃ t, t < N ∧ lv t = 1 ∧ ja_und st1 t
  · obtain ⟨⟨s, hsN, es, hst1⟩, hd⟩ := ho
    have ho : ja_si N sub st1 1 ∧ ¬ ∃ t, t < N ∧ lv t = 1 ∧ ja_und st1 t := ⟨⟨s, hsN, es, hst1⟩, hd⟩
    have q := jq_exs L a1.1 hsN hst1 es.symm hd
    have hns : nI s = sub → ∀ y, y < N → lv y = 1 → ¬ st1 y = 1 := fun _ y hy hl z => hd ⟨y, hy, hl, .inr z⟩
    by_cases hb : ∃ t, t < N ∧ lv t = 1 ∧ ja_bad st1 t
    · have V1 := jq_Vf (sp' := sp1) a1 hsN hst1 (q.1 hb).symm (.inr rfl) hns (fun _ _ => rfl) (fun y => absurd y (by decide)) (fun _ => rfl)
      obtain ⟨st', sa', fi', re', g1, g2⟩ := jp_settle (sta := sta) (ff := 1) (du := du) (fi := upd fi1 s (nI (cl + 1))) (re := re1) hLm hS G L V1
      refine ⟨m + 1, 1, sp1, st', sa', fi', re', by omega, g1, fun post z => xx post (br_t hl ?_)⟩
      subst es
      refine jx_isSubBuildOver hN hS (fun _ => br_f ja_i1 ?_) (fun y => absurd ho y)
      refine jx_hasBadSub hN (fun _ => ?_) (fun y => absurd hb y)
      exact jx_endRun hN hsN hst1 (fun _ => nm_r (nI_1 m) (g2 _ z)) (fun y => absurd y (by decide))
    · have V1 := jq_Vf (sp' := upd sp1 s (1000000 + nI (cl + 1))) a1 hsN hst1 (q.2 hb).symm (.inl rfl) hns (fun _ hx => pk_un hx) (fun _ => by rw [pk_us]; exact jp_7 hcl) (fun y => absurd rfl y)
      obtain ⟨st', sa', fi', re', g1, g2⟩ := jp_settle (sta := sta) (ff := ff1) (du := du) (fi := upd fi1 s (nI (cl + 1))) (re := re1) hLm hS G L V1
      refine ⟨m + 1, ff1, _, st', sa', fi', re', by omega, g1, fun post z => xx post (br_t hl ?_)⟩
      subst es
      refine jx_isSubBuildOver hN hS (fun _ => br_f ja_i1 ?_) (fun y => absurd ho y)
      refine jx_hasBadSub hN (fun y => absurd y hb) (fun _ => ?_)
      exact jx_endRun hN hsN hst1 (fun y => absurd rfl y) (fun _ => nm_r (nI_1 m) (g2 _ z))
  · obtain ⟨st', sa', fi', re', g1, g2⟩ := jp_settle (sta := sta) (ff := ff1) (du := du) (fi := fi1) (re := re1) hLm hS G L a1
    refine ⟨m, ff1, sp1, st', sa', fi', re', by omega, g1, fun post z => xx post (br_t hl ?_)⟩
    exact jx_isSubBuildOver hN hS (fun y => absurd y ho) (fun _ => br_t rfl (g2 _ z))
end
section
-- p18: what the setup keeps
def jq_U (N : Nat) (sub : Int32) (lv sp fa np op : Nat → Int32) : Prop :=
  ja_S N sub ∧ (∀ i, ja_B (fa i)) ∧ (∀ t p, t < 32 → ja_E np op t p → p < N) ∧ jq_K N (ja_E np op) ∧
  (∀ t p, t < N → p < N → ja_E np op t p → (lv t = 1 ↔ lv p = 1)) ∧ (∀ t, t < N → sp t ≤ 7) ∧
  (∀ t, t < N → (lv t = 2 ↔ sub = nI t)) ∧ (∀ t, t < N → lv t = 1 → ∃ s, s < N ∧ sub = nI s)
theorem jq_UG {N : Nat} {sub : Int32} {lv sp fa np op : Nat → Int32} (hN : N ≤ 32) (U : jq_U N sub lv sp fa np op) : jq_G N sub lv sp np op :=
  ⟨hN, U.2.2.2.2.2.1, fun s hs e z => absurd (((U.2.2.2.2.2.2.1 s hs).mpr e).symm.trans z) (by decide), U.2.2.1⟩
theorem jq_Ee {np op : Nat → Int32} {t p x : Nat} {q : Nat} (ht : t < 32) (hp : p < 32) (h : ja_E (upd np t (np t ||| ((1 : Int32) <<< (nI p &&& 31)))) op x q) : ja_E np op x q ∨ (x = t ∧ q = p) := by
  unfold ja_E at h ⊢
  by_cases e : x = t
  · subst e
    have hb := jb_lt h
    rw [pk_us, b_or, jb_or1 _ hp hb] at h
    by_cases e2 : q = p
    · exact .inr ⟨rfl, e2⟩
    · rw [decide_eq_false e2, Bool.or_false, ← b_or] at h
      exact .inl h
  · rw [pk_un e] at h
    exact .inl h
theorem jq_Eo {np op : Nat → Int32} {t p x : Nat} {q : Nat} (ht : t < 32) (hp : p < 32) (h : ja_E np (upd op t (op t ||| ((1 : Int32) <<< (nI p &&& 31)))) x q) : ja_E np op x q ∨ (x = t ∧ q = p) := by
  unfold ja_E at h ⊢
  by_cases e : x = t
  · subst e
    have hb := jb_lt h
    rw [pk_us, b_or, jb_or1 _ hp hb] at h
    by_cases e2 : q = p
    · exact .inr ⟨rfl, e2⟩
    · rw [decide_eq_false e2, Bool.or_false, ← b_or] at h
      exact .inl h
  · rw [pk_un e] at h
    exact .inl h
/-- a new edge keeps it -/
theorem jq_Ua {N t p : Nat} {sub : Int32} {lv sp fa np op np' op' : Nat → Int32} {S : Nat → Bool} (hN : N ≤ 32) (U : jq_U N sub lv sp fa np op) (ht : t < N) (hp : p < N) (hl : lv t = 1 ↔ lv p = 1) (cl : jr_cl (ja_E np op) N (fun q => S q = true)) (hb : S p = true) (ha : ¬ S t = true) (w : ∀ x q, ja_E np' op' x q → ja_E np op x q ∨ (x = t ∧ q = p)) : jq_U N sub lv sp fa np' op' := by
  obtain ⟨u1, u2, u3, u4, u5, u6, u7, u8⟩ := U
  refine ⟨u1, u2, fun x q hx z => ?_, jq_Ka u4 cl hb ha (fun x q _ _ z => w x q z) hp, fun x q hx hq z => ?_, u6, u7, u8⟩
  · rcases w x q z with y | y
    · exact u3 x q hx y
    · rw [y.2]; exact hp
  · rcases w x q z with y | y
    · exact u5 x q hx hq y
    · rw [y.1, y.2]; exact hl
def jv_b (lv : Nat → Int32) (t : Nat) : Int32 := if lv t = 1 then 1 else 0
theorem jv_e {lv : Nat → Int32} {t p : Nat} (h : jv_b lv t = jv_b lv p) : lv t = 1 ↔ lv p = 1 := by
  unfold jv_b at h
  by_cases a : lv t = 1
  · by_cases b : lv p = 1
    · exact ⟨fun _ => b, fun _ => a⟩
    · rw [if_pos a, if_neg b] at h
      exact absurd h (by decide)
  · by_cases b : lv p = 1
    · rw [if_neg a, if_pos b] at h
      exact absurd h (by decide)
    · exact ⟨fun z => absurd z a, fun z => absurd z b⟩
variable {N : Nat} {lim keep sub clk ff rt rs : Int32} {lv sp du fa np op st sa fi re : Nat → Int32}
theorem jv_X {sta : Int32} {post : Int32 → Prop} {t : Nat} (ht : t < 32) (hp : post (jv_b lv t)) : wpX_isSub post (ja_T N lim keep sub clk sta ff rt rs lv sp du fa np op st sa fi re) (nI t) :=
  jx_isSub ht (fun h => by unfold jv_b at hp; rw [if_pos h] at hp; exact hp) (fun h => by unfold jv_b at hp; rw [if_neg h] at hp; exact hp)
theorem jp_add {t p : Nat} {b : Int32} (hN : N ≤ 32) (U : jq_U N sub lv sp fa np op) (ht : t < N) (hp : p < N) : ∃ r np' op', jq_U N sub lv sp fa np' op' ∧ ∀ post : Int32 → St2 → Prop, post r (ja_T N lim keep sub clk 0 ff rt rs lv sp du fa np' op' st sa fi re) → wpX_addPrereq post (ja_T N lim keep sub clk 0 ff rt rs lv sp du fa np op st sa fi re) (nI t) (nI p) b := by
  by_cases e : nI t = nI p
  · refine ⟨0, np, op, U, fun post z => ?_⟩
    unfold wpX_addPrereq
    dsimp only
    refine jx_open_t hN rfl ht (br_f ja_i1 ?_)
    refine jx_isTarget_t hN hp (br_f ja_i1 ?_)
    exact br_t e z
  · by_cases el : jv_b lv t = jv_b lv p
    · by_cases hE : ja_E np op t p
      · refine ⟨0, np, op, U, fun post z => ?_⟩
        unfold wpX_addPrereq
        dsimp only
        refine jx_open_t hN rfl ht (br_f ja_i1 ?_)
        refine jx_isTarget_t hN hp (br_f ja_i1 ?_)
        refine br_f e (jv_X (by omega) (jv_X (by omega) ?_))
        exact br_t el (jx_isPrereq (by omega) (by omega) (fun _ => br_f ja_i1 z) (fun y => absurd hE y))
      · obtain ⟨S, d1, d2, d3⟩ := jx_isReachable (lim := lim) (keep := keep) (sub := sub) (clk := clk) (sta := 0) (ff := ff) (rt := rt) (rs := rs) (lv := lv) (sp := sp) (du := du) (fa := fa) (st := st) (sa := sa) (fi := fi) (re := re) hN U.2.2.1 hp ht
        have hit : vp_in (nI t) 32 := vp_in_nI (by omega) (by omega)
        have ct : (nI t).toNatClampNeg = t := nI_clamp (by omega)
        have walk : ∀ post : Int32 → St2 → Prop, (S t = true → post 0 (ja_T N lim keep sub clk 0 ff rt rs lv sp du fa np op st sa fi re)) → (¬ S t = true → (b = 0 → post 1 (ja_T N lim keep sub clk 0 ff rt rs lv sp du fa (upd np t (np t ||| ((1 : Int32) <<< (nI p &&& 31)))) op st sa fi re)) ∧ (¬ b = 0 → post 1 (ja_T N lim keep sub clk 0 ff rt rs lv sp du fa np (upd op t (op t ||| ((1 : Int32) <<< (nI p &&& 31)))) st sa fi re))) → wpX_addPrereq post (ja_T N lim keep sub clk 0 ff rt rs lv sp du fa np op st sa fi re) (nI t) (nI p) b := by
          intro post p0 p1
          unfold wpX_addPrereq
          dsimp only
          refine jx_open_t hN rfl ht (br_f ja_i1 ?_)
          refine jx_isTarget_t hN hp (br_f ja_i1 ?_)
          refine br_f e (jv_X (by omega) (jv_X (by omega) ?_))
          refine br_t el (jx_isPrereq (by omega) (by omega) (fun y => absurd y hE) (fun _ => br_t rfl ?_))
          refine d3 _ (fun y => br_f ja_i1 (p0 y)) (fun y => br_t rfl ?_)
          exact br_c (fun z => ⟨hit, hit, nm_r (by rw [ct]) ((p1 y).1 z)⟩) (fun z => ⟨hit, hit, nm_r (by rw [ct]) ((p1 y).2 z)⟩)
        by_cases hr : S t = true
        · exact ⟨0, np, op, U, fun post z => walk post (fun _ => z) (fun y => absurd hr y)⟩
        · have hSp : S p = true := d1.1 p (decide_eq_true rfl)
          by_cases hb : b = 0
          · exact ⟨1, _, op, jq_Ua hN U ht hp (jv_e el) d2 hSp hr (fun x q z => jq_Ee (by omega) (by omega) z), fun post z => walk post (fun y => absurd y hr) (fun _ => ⟨fun _ => z, fun y => absurd hb y⟩)⟩
          · exact ⟨1, np, _, jq_Ua hN U ht hp (jv_e el) d2 hSp hr (fun x q z => jq_Eo (by omega) (by omega) z), fun post z => walk post (fun y => absurd y hr) (fun _ => ⟨fun y => absurd y hb, fun _ => z⟩)⟩
    · refine ⟨0, np, op, U, fun post z => ?_⟩
      unfold wpX_addPrereq
      dsimp only
      refine jx_open_t hN rfl ht (br_f ja_i1 ?_)
      refine jx_isTarget_t hN hp (br_f ja_i1 ?_)
      refine br_f e (jv_X (by omega) (jv_X (by omega) ?_))
      exact br_f el z
theorem jp_time {t x : Nat} (hN : N ≤ 32) (U : jq_U N sub lv sp fa np op) (ht : t < N) (hx : x ≤ 7) : ∃ r sp', jq_U N sub lv sp' fa np op ∧ ∀ post : Int32 → St2 → Prop, post r (ja_T N lim keep sub clk 0 ff rt rs lv sp' du fa np op st sa fi re) → wpX_setTime post (ja_T N lim keep sub clk 0 ff rt rs lv sp du fa np op st sa fi re) (nI t) (nI x) := by
  have hit : vp_in (nI t) 32 := vp_in_nI (by omega) (by omega)
  have ct : (nI t).toNatClampNeg = t := nI_clamp (by omega)
  obtain ⟨u1, u2, u3, u4, u5, u6, u7, u8⟩ := U
  refine ⟨1, upd sp t (nI x), ⟨u1, u2, u3, u4, u5, fun y hy => ?_, u7, u8⟩, fun post z => ?_⟩
  · by_cases e : y = t
    · subst e
      rw [pk_us]
      exact nI_le (b := 7) hx (by omega)
    · rw [pk_un e]
      exact u6 y hy
  · unfold wpX_setTime
    dsimp only
    refine jx_open_t hN rfl ht (br_f ja_i1 ?_)
    exact br_f (nI_pos (by omega)) (br_t (nI_le (b := 1000000) (by omega) (by omega)) ⟨hit, nm_r (by rw [ct]) z⟩)
theorem jp_cmd {t x : Nat} {b : Int32} (hN : N ≤ 32) (U : jq_U N sub lv sp fa np op) (ht : t < N) (hx : 1 ≤ x) (hx2 : x ≤ 15) (hb : ja_B b) : ∃ r, jq_U N sub lv sp (upd fa t b) np op ∧ ∀ post : Int32 → St2 → Prop, post r (ja_T N lim keep sub clk 0 ff rt rs lv sp (upd du t (nI x)) (upd fa t b) np op st sa fi re) → wpX_setCommand post (ja_T N lim keep sub clk 0 ff rt rs lv sp du fa np op st sa fi re) (nI t) (nI x) b := by
  have hit : vp_in (nI t) 32 := vp_in_nI (by omega) (by omega)
  have ct : (nI t).toNatClampNeg = t := nI_clamp (by omega)
  obtain ⟨u1, u2, u3, u4, u5, u6, u7, u8⟩ := U
  refine ⟨1, ⟨u1, fun y => ?_, u3, u4, u5, u6, u7, u8⟩, fun post z => ?_⟩
  · by_cases e : y = t
    · subst e
      rw [pk_us]
      exact hb
    · rw [pk_un e]
      exact u2 y
  · unfold wpX_setCommand
    dsimp only
    refine jx_open_t hN rfl ht (br_f ja_i1 ?_)
    exact br_f (nI_nlt (b := 1) hx (by omega)) (br_t (nI_le (b := 15) (by omega) (by omega)) ⟨hit, nm_r (by rw [ct]) ⟨hit, nm_r (by rw [ct, ja_Bv hb]) z⟩⟩)
theorem jp_smk {t : Nat} (hN : N ≤ 32) (U : jq_U N sub lv sp fa np op) (ht : t < N) : ∃ r sub' lv', jq_U N sub' lv' sp fa np op ∧ ∀ post : Int32 → St2 → Prop, post r (ja_T N lim keep sub' clk 0 ff rt rs lv' sp du fa np op st sa fi re) → wpX_setSubmake post (ja_T N lim keep sub clk 0 ff rt rs lv sp du fa np op st sa fi re) (nI t) := by
  have hit : vp_in (nI t) 32 := vp_in_nI (by omega) (by omega)
  have ct : (nI t).toNatClampNeg = t := nI_clamp (by omega)
  have U' := U
  obtain ⟨u1, u2, u3, u4, u5, u6, u7, u8⟩ := U
  rcases ja_sub_in u1 hN with ⟨e, hno, _⟩ | ⟨s, hsN, e, hm, _⟩
  · have n1 : ∀ x, x < N → ¬ lv x = 1 := fun x hx z => by
      obtain ⟨s, hs, e'⟩ := u8 x hx z
      exact hno s (by omega) e'.symm
    have n2 : ∀ x, x < N → ¬ lv x = 2 := fun x hx z => hno x (by omega) ((u7 x hx).mp z).symm
    have n1' : ∀ x, x < N → ¬ upd lv t 2 x = 1 := fun x hx => by
      by_cases y : x = t
      · subst y
        rw [pk_us]
        decide
      · rw [pk_un y]
        exact n1 x hx
    refine ⟨1, nI t, upd lv t 2, ⟨.inr ⟨t, ht, rfl⟩, u2, u3, u4, fun x q hx hq _ => ⟨fun z => absurd z (n1' x hx), fun z => absurd z (n1' q hq)⟩, u6, fun x hx => ?_, fun x hx z => absurd z (n1' x hx)⟩, fun post z => ?_⟩
    · by_cases y : x = t
      · subst y
        rw [pk_us]
        exact ⟨fun _ => rfl, fun _ => rfl⟩
      · rw [pk_un y, nI_eq (by omega) (by omega)]
        exact ⟨fun z => absurd z (n2 x hx), fun z => absurd z.symm y⟩
    · unfold wpX_setSubmake
      dsimp only
      refine jx_open_t hN rfl ht (br_f ja_i1 ?_)
      exact br_t e ⟨hit, nm_r (by rw [ct]) z⟩
  · refine ⟨0, sub, lv, U', fun post z => ?_⟩
    unfold wpX_setSubmake
    dsimp only
    refine jx_open_t hN rfl ht (br_f ja_i1 ?_)
    exact br_f hm z
theorem jp_sub {t : Nat} (hN : N ≤ 32) (U : jq_U N sub lv sp fa np op) (ht : t < N) : ∃ r lv', jq_U N sub lv' sp fa np op ∧ ∀ post : Int32 → St2 → Prop, post r (ja_T N lim keep sub clk 0 ff rt rs lv' sp du fa np op st sa fi re) → wpX_setSub post (ja_T N lim keep sub clk 0 ff rt rs lv sp du fa np op st sa fi re) (nI t) := by
  have hit : vp_in (nI t) 32 := vp_in_nI (by omega) (by omega)
  have ct : (nI t).toNatClampNeg = t := nI_clamp (by omega)
  have U' := U
  obtain ⟨u1, u2, u3, u4, u5, u6, u7, u8⟩ := U
  rcases ja_sub_in u1 hN with ⟨e, hno, _⟩ | ⟨s, hsN, e, hm, _⟩
  · refine ⟨0, lv, U', fun post z => ?_⟩
    unfold wpX_setSub
    dsimp only
    refine jx_open_t hN rfl ht (br_f ja_i1 ?_)
    exact br_t e z
  · by_cases h0 : lv t = 0
    · by_cases hz : np t ||| op t = 0
      · by_cases hc : ∃ x, x < N ∧ ja_E np op x t
        · refine ⟨0, lv, U', fun post z => ?_⟩
          unfold wpX_setSub
          dsimp only
          refine jx_open_t hN rfl ht (br_f ja_i1 ?_)
          refine br_f hm ⟨hit, ?_⟩
          rw [ct]
          refine br_t h0 (jx_prereqsOf (by omega) ?_)
          exact br_t hz (jx_isPrereqOfAny hN (by omega) (fun _ => br_f ja_i1 z) (fun y => absurd hc y))
        · have ne : ∀ x q, x < N → q < N → ja_E np op x q → x ≠ t ∧ q ≠ t := fun x q hx hq z => by
            refine ⟨fun y => ?_, fun y => ?_⟩
            · subst y
              unfold ja_E at z
              rw [hz, b_0] at z
              exact absurd z (by decide)
            · subst y
              exact hc ⟨x, hx, z⟩
          refine ⟨1, upd lv t 1, ⟨u1, u2, u3, u4, fun x q hx hq z => ?_, u6, fun x hx => ?_, fun x hx _ => ⟨s, hsN, e⟩⟩, fun post z => ?_⟩
          · rw [pk_un (ne x q hx hq z).1, pk_un (ne x q hx hq z).2]
            exact u5 x q hx hq z
          · by_cases y : x = t
            · subst y
              rw [pk_us]
              refine ⟨fun z => absurd z (by decide), fun z => ?_⟩
              rw [(u7 x hx).mpr z] at h0
              exact absurd h0 (by decide)
            · rw [pk_un y]
              exact u7 x hx
          · unfold wpX_setSub
            dsimp only
            refine jx_open_t hN rfl ht (br_f ja_i1 ?_)
            refine br_f hm ⟨hit, ?_⟩
            rw [ct]
            refine br_t h0 (jx_prereqsOf (by omega) ?_)
            exact br_t hz (jx_isPrereqOfAny hN (by omega) (fun y => absurd y hc) (fun _ => br_t rfl ⟨hit, nm_e z⟩))
      · refine ⟨0, lv, U', fun post z => ?_⟩
        unfold wpX_setSub
        dsimp only
        refine jx_open_t hN rfl ht (br_f ja_i1 ?_)
        refine br_f hm ⟨hit, ?_⟩
        rw [ct]
        refine br_t h0 (jx_prereqsOf (by omega) ?_)
        exact br_f hz z
    · refine ⟨0, lv, U', fun post z => ?_⟩
      unfold wpX_setSub
      dsimp only
      refine jx_open_t hN rfl ht (br_f ja_i1 ?_)
      refine br_f hm ⟨hit, ?_⟩
      rw [ct]
      exact br_f h0 z
end
section
-- p18: the law's long masks
def jm_b (x : Int64) (i : Nat) : Bool := x.toBitVec.getLsbD i
theorem jm_or (x y : Int64) (i : Nat) : jm_b (x ||| y) i = (jm_b x i || jm_b y i) := by
  unfold jm_b
  rw [Int64.toBitVec_or, BitVec.getLsbD_or]
theorem jm_an (x y : Int64) (i : Nat) : jm_b (x &&& y) i = (jm_b x i && jm_b y i) := by
  unfold jm_b
  rw [Int64.toBitVec_and, BitVec.getLsbD_and]
theorem jm_0 (i : Nat) : jm_b 0 i = false := BitVec.getLsbD_zero
theorem jm_sh : ∀ t, t < 16 → ∀ i, i < 64 → jm_b ((1 : Int64) <<< ((nI t).toInt64 &&& 63)) i = decide (i = t) := by decide +kernel
theorem jm_o1 (m : Int64) {t i : Nat} (ht : t < 16) (hi : i < 64) : jm_b (m ||| ((1 : Int64) <<< ((nI t).toInt64 &&& 63))) i = (jm_b m i || decide (i = t)) := by
  rw [jm_or, jm_sh t ht i hi]
theorem jm_a1 (m : Int64) {t : Nat} (ht : t < 16) : (m &&& ((1 : Int64) <<< ((nI t).toInt64 &&& 63))) = 0 ↔ jm_b m t = false := by
  constructor
  · intro h
    have e := jm_an m ((1 : Int64) <<< ((nI t).toInt64 &&& 63)) t
    rw [h, jm_0, jm_sh t ht t (by omega), decide_eq_true rfl, Bool.and_true] at e
    exact e.symm
  · intro h
    apply Int64.toBitVec_inj.mp
    apply BitVec.eq_of_getLsbD_eq
    intro i hi
    have e := jm_an m ((1 : Int64) <<< ((nI t).toInt64 &&& 63)) i
    rw [jm_sh t ht i hi] at e
    have z := jm_0 i
    unfold jm_b at e z
    rw [e, z]
    by_cases y : i = t
    · subst y
      unfold jm_b at h
      rw [h, Bool.false_and]
    · rw [decide_eq_false y, Bool.and_false]
theorem jm_cu : ∀ k, k < 64 → ((nI k).toInt64.toUInt64 &&& Int64.toUInt64 63).toNat = k := by decide +kernel
theorem jm_bit {post : Int32 → Prop} {m : Int64} {t : Nat} (ht : t < 64) (h1 : jm_b m t = true → post 1) (h0 : ¬ jm_b m t = true → post 0) : wpL_bit post () m (nI t) := by
  have q := ts_bit (w := m) ht (jm_cu t ht)
  refine br_c (fun h => ?_) (fun h => ?_)
  · refine h0 ?_
    have e : jm_b m t = false := q.mp h
    rw [e]
    decide
  · refine h1 ?_
    cases e : jm_b m t with
    | true => rfl
    | false => exact absurd (q.mpr e) h
/-- the five masks: done, and by what is expected -/
def jm_M (N : Nat) (Dn : Nat → Bool) (ex : Nat → Int32) (d r f s u : Int64) : Prop := ∀ t, t < N → jm_b d t = Dn t ∧ jm_b r t = (Dn t && decide (ex t = 2)) ∧ jm_b f t = (Dn t && decide (ex t = 4)) ∧ jm_b s t = (Dn t && decide (ex t = 5)) ∧ jm_b u t = (Dn t && decide (ex t = 3))
theorem jm_k {x : Bool} {a b : Int32} {e : Bool} (h : ¬ a = b) : x = (x || (e && decide (a = b))) := by rw [decide_eq_false h, Bool.and_false, Bool.or_false]
theorem jm_y {x : Bool} {a : Int32} {e : Bool} : (x || e) = (x || (e && decide (a = a))) := by rw [decide_eq_true rfl, Bool.and_true]
theorem jm_ad {N t : Nat} {Dn : Nat → Bool} {ex : Nat → Int32} {d r f s u d' r' f' s' u' : Int64} (w : Int32) (h : jm_M N Dn ex d r f s u) (hd : Dn t = false)
    (kd : ∀ i, i < N → jm_b d' i = (jm_b d i || decide (i = t)))
    (kr : ∀ i, i < N → jm_b r' i = (jm_b r i || (decide (i = t) && decide (w = 2))))
    (kf : ∀ i, i < N → jm_b f' i = (jm_b f i || (decide (i = t) && decide (w = 4))))
    (ks : ∀ i, i < N → jm_b s' i = (jm_b s i || (decide (i = t) && decide (w = 5))))
    (ku : ∀ i, i < N → jm_b u' i = (jm_b u i || (decide (i = t) && decide (w = 3)))) : jm_M N (fun i => Dn i || decide (i = t)) (upd ex t w) d' r' f' s' u' := by
  intro i hi
  obtain ⟨a, b, c, e, g⟩ := h i hi
  rw [kd i hi, kr i hi, kf i hi, ks i hi, ku i hi, a, b, c, e, g]
  show _ = (Dn i || decide (i = t)) ∧ _ = ((Dn i || decide (i = t)) && _) ∧ _ = ((Dn i || decide (i = t)) && _) ∧ _ = ((Dn i || decide (i = t)) && _) ∧ _ = ((Dn i || decide (i = t)) && _)
  by_cases y : i = t
  · subst y
    rw [pk_us, hd, decide_eq_true (show i = i from rfl)]
    simp
  · rw [pk_un y, decide_eq_false y]
    simp
-- what is done when: what it waits for is done, and its own row holds
def jm_J (N : Nat) (sub : Int32) (lv sp fa np op : Nat → Int32) (Dn : Nat → Bool) (ex : Nat → Int32) : Prop := ∀ t, t < N → Dn t = true → (∀ p, p < N → jq_X N sub lv np op t p → Dn p = true) ∧ jq_L N sub lv sp fa np op ex t
theorem jq_Ac {N t : Nat} {sub : Int32} {lv np op ex ex' : Nat → Int32} (h : ∀ p, p < N → jq_X N sub lv np op t p → ex p = ex' p) (a : jq_A N sub lv np op ex t) : jq_A N sub lv np op ex' t := by
  have bd : ∀ p, p < N → jq_X N sub lv np op t p → jq_bd ex p → jq_bd ex' p := fun p hp hx z => by
    unfold jq_bd at z ⊢
    rw [← h p hp hx]
    exact z
  rcases a with ⟨l, s, hs, e, q, hq, hE, hb⟩ | ⟨p, hp, hE, hb⟩
  · exact .inl ⟨l, s, hs, e, q, hq, hE, bd q hq (.inr (.inl ⟨l, s, hs, e, hE⟩)) hb⟩
  · exact .inr ⟨p, hp, hE, bd p hp (.inl hE) hb⟩
theorem jq_En {np op : Nat → Int32} {t p : Nat} (h : bt (np t) p = true) : ja_E np op t p := by
  unfold ja_E
  rw [b_or, h, Bool.true_or]
theorem jq_Fc {N t : Nat} {sub : Int32} {lv sp np op ex ex' : Nat → Int32} (h : ∀ p, p < N → jq_X N sub lv np op t p → ex p = ex' p) (a : jq_F N sp np ex t) : jq_F N sp np ex' t :=
  ⟨a.1, fun ⟨p, hp, hb, z⟩ => a.2 ⟨p, hp, hb, z.elim (fun z => .inl ((h p hp (.inl (jq_En hb))).trans z)) .inr⟩⟩
theorem jq_Lc {N t : Nat} {sub : Int32} {lv sp fa np op ex ex' : Nat → Int32} (h : ∀ p, p < N → jq_X N sub lv np op t p → ex p = ex' p) (ht : ex t = ex' t) (L : jq_L N sub lv sp fa np op ex t) : jq_L N sub lv sp fa np op ex' t := by
  have h' : ∀ p, p < N → jq_X N sub lv np op t p → ex' p = ex p := fun p hp hx => (h p hp hx).symm
  refine ⟨fun a => ht.symm.trans (L.1 (jq_Ac h' a)), fun na => ?_⟩
  have M := L.2 (fun a => na (jq_Ac h a))
  refine ⟨fun hs => ⟨fun ⟨u, hu, hl, hb⟩ => ht.symm.trans ((M.1 hs).1 ⟨u, hu, hl, ?_⟩), fun nu => ht.symm.trans ((M.1 hs).2 (fun ⟨u, hu, hl, hb⟩ => nu ⟨u, hu, hl, ?_⟩))⟩, fun hs => ⟨fun f => ht.symm.trans ((M.2 hs).1 (jq_Fc h' f)), fun nf => ?_⟩⟩
  · unfold jq_bd at hb ⊢
    rw [h u hu (.inr (.inr ⟨hs, hl⟩))]
    exact hb
  · unfold jq_bd at hb ⊢
    rw [← h u hu (.inr (.inr ⟨hs, hl⟩))]
    exact hb
  · have M := (M.2 hs).2 (fun f => nf (jq_Fc h f))
    exact ⟨fun z => ht.symm.trans (M.1 z), fun z => ht.symm.trans (M.2 z)⟩
/-- t is done now, by w -/
theorem jm_Ja {N t : Nat} {sub : Int32} {lv sp fa np op : Nat → Int32} {Dn : Nat → Bool} {ex : Nat → Int32} {w : Int32} (J : jm_J N sub lv sp fa np op Dn ex) (hd : Dn t = false) (hx : ∀ p, p < N → jq_X N sub lv np op t p → Dn p = true) (L : jq_L N sub lv sp fa np op (upd ex t w) t) : jm_J N sub lv sp fa np op (fun i => Dn i || decide (i = t)) (upd ex t w) := by
  have up : ∀ p, Dn p = true → (Dn p || decide (p = t)) = true := fun p z => by rw [z, Bool.true_or]
  intro x hxN z
  by_cases y : x = t
  · subst y
    exact ⟨fun p hp hX => up p (hx p hp hX), L⟩
  · have z' : Dn x = true := by
      have z2 : (Dn x || decide (x = t)) = true := z
      rw [decide_eq_false y, Bool.or_false] at z2
      exact z2
    obtain ⟨a, b⟩ := J x hxN z'
    refine ⟨fun p hp hX => up p (a p hp hX), jq_Lc (fun p hp hX => ?_) (pk_un y).symm b⟩
    have ne : p ≠ t := fun e => by
      have := a p hp hX
      rw [e, hd] at this
      exact absurd this (by decide)
    exact (pk_un ne).symm
end
section
-- p18: the calls that only read
variable {N : Nat} {lim keep sub clk sta ff rt rs : Int32} {lv sp du fa np op st sa fi re : Nat → Int32}
theorem jx_status {post : Int32 → Prop} {t : Nat} (hN : N ≤ 32) (ht : t < N) (h : post (st t)) : wpX_status post (ja_T N lim keep sub clk sta ff rt rs lv sp du fa np op st sa fi re) (nI t) := by
  have ct : (nI t).toNatClampNeg = t := nI_clamp (by omega)
  unfold wpX_status
  dsimp only
  refine jx_isTarget_t hN ht (br_f ja_i1 ⟨vp_in_nI (by omega) (by omega), ?_⟩)
  rw [ct]
  exact h
theorem jx_timeOf {post : Int32 → Prop} {t : Nat} (hN : N ≤ 32) (ht : t < N) (h : post (sp t)) : wpX_timeOf post (ja_T N lim keep sub clk sta ff rt rs lv sp du fa np op st sa fi re) (nI t) := by
  have ct : (nI t).toNatClampNeg = t := nI_clamp (by omega)
  unfold wpX_timeOf
  dsimp only
  refine jx_isTarget_t hN ht (br_f ja_i1 ⟨vp_in_nI (by omega) (by omega), ?_⟩)
  rw [ct]
  exact h
theorem jx_startedAt {post : Int32 → Prop} {t : Nat} (hN : N ≤ 32) (ht : t < N) (h : post (sa t)) : wpX_startedAt post (ja_T N lim keep sub clk sta ff rt rs lv sp du fa np op st sa fi re) (nI t) := by
  have ct : (nI t).toNatClampNeg = t := nI_clamp (by omega)
  unfold wpX_startedAt
  dsimp only
  refine jx_isTarget_t hN ht (br_f ja_i1 ⟨vp_in_nI (by omega) (by omega), ?_⟩)
  rw [ct]
  exact h
theorem jx_level {post : Int32 → Prop} {t : Nat} (hN : N ≤ 32) (ht : t < N) (h : post (lv t)) : wpX_level post (ja_T N lim keep sub clk sta ff rt rs lv sp du fa np op st sa fi re) (nI t) := by
  have ct : (nI t).toNatClampNeg = t := nI_clamp (by omega)
  unfold wpX_level
  dsimp only
  refine jx_isTarget_t hN ht (br_f ja_i1 ⟨vp_in_nI (by omega) (by omega), ?_⟩)
  rw [ct]
  exact h
theorem jx_commandOf {post : Int32 → Prop} {t : Nat} (hN : N ≤ 32) (ht : t < N) (h0 : fa t = 0 → post (du t)) (h1 : ¬ fa t = 0 → post (du t + 16)) : wpX_commandOf post (ja_T N lim keep sub clk sta ff rt rs lv sp du fa np op st sa fi re) (nI t) := by
  have ct : (nI t).toNatClampNeg = t := nI_clamp (by omega)
  have hi : vp_in (nI t) 32 := vp_in_nI (by omega) (by omega)
  unfold wpX_commandOf
  dsimp only
  refine jx_isTarget_t hN ht (br_f ja_i1 ⟨hi, ?_⟩)
  rw [ct]
  exact br_c (fun z => ⟨hi, h0 z⟩) (fun z => ⟨hi, h1 z⟩)
theorem jx_prereqKind {post : Int32 → Prop} {t p : Nat} (hN : N ≤ 32) (ht : t < N) (hp : p < N) (h : post (ja_k np op t p)) : wpX_prereqKind post (ja_T N lim keep sub clk sta ff rt rs lv sp du fa np op st sa fi re) (nI t) (nI p) := by
  have ct : (nI t).toNatClampNeg = t := nI_clamp (by omega)
  have hi : vp_in (nI t) 32 := vp_in_nI (by omega) (by omega)
  unfold wpX_prereqKind
  dsimp only
  refine jx_isTarget_t hN ht (br_f ja_i1 ?_)
  refine jx_isTarget_t hN hp (br_f ja_i1 ⟨hi, ?_⟩)
  rw [ct]
  unfold ja_k at h
  refine jx_hasBit (by omega) (fun y => br_f ja_i1 ?_) (fun y => br_t rfl ⟨hi, ?_⟩)
  · rw [if_pos y] at h
    exact h
  · rw [if_neg y] at h
    refine jx_hasBit (by omega) (fun w => br_f ja_i1 ?_) (fun w => br_t rfl ?_)
    · rw [if_pos w] at h
      exact h
    · rw [if_neg w] at h
      exact h
-- flags gathered by a loop
theorem jl_ex {N i : Nat} {P : Nat → Prop} (hi : i < N) : (∃ t, i ≤ t ∧ t < N ∧ P t) ↔ (P i ∨ ∃ t, i + 1 ≤ t ∧ t < N ∧ P t) := by
  constructor
  · intro ⟨t, h1, h2, h3⟩
    by_cases e : t = i
    · subst e
      exact .inl h3
    · exact .inr ⟨t, by omega, h2, h3⟩
  · intro h
    rcases h with h | ⟨t, h1, h2, h3⟩
    · exact ⟨i, Nat.le_refl _, hi, h⟩
    · exact ⟨t, by omega, h2, h3⟩
theorem jl_o {N i : Nat} {P : Nat → Prop} {a a1 a' : Prop} (hi : i < N) (h1 : a1 ↔ (a ∨ P i)) (h2 : a' ↔ (a1 ∨ ∃ t, i + 1 ≤ t ∧ t < N ∧ P t)) : a' ↔ (a ∨ ∃ t, i ≤ t ∧ t < N ∧ P t) := by
  rw [h2, h1, jl_ex hi, or_assoc]
theorem jl_a {N i : Nat} {P : Nat → Prop} {b b1 b' : Prop} (hi : i < N) (h1 : b1 ↔ (b ∧ ¬ P i)) (h2 : b' ↔ (b1 ∧ ¬ ∃ t, i + 1 ≤ t ∧ t < N ∧ P t)) : b' ↔ (b ∧ ¬ ∃ t, i ≤ t ∧ t < N ∧ P t) := by
  rw [h2, h1, jl_ex hi, not_or, and_assoc]
theorem jl_o0 {N : Nat} {P : Nat → Prop} {a : Prop} : a ↔ (a ∨ ∃ t, N ≤ t ∧ t < N ∧ P t) := ⟨.inl, fun h => h.elim id (fun ⟨t, h1, h2, _⟩ => by omega)⟩
theorem jl_a0 {N : Nat} {P : Nat → Prop} {b : Prop} : b ↔ (b ∧ ¬ ∃ t, N ≤ t ∧ t < N ∧ P t) := ⟨fun h => ⟨h, fun ⟨t, h1, h2, _⟩ => by omega⟩, fun h => h.1⟩
theorem jl_no {a P : Prop} (h : ¬ P) : a ↔ (a ∨ P) := ⟨.inl, fun z => z.elim id (fun z => absurd z h)⟩
theorem jl_na {b P : Prop} (h : ¬ P) : b ↔ (b ∧ ¬ P) := ⟨fun z => ⟨z, h⟩, fun z => z.1⟩
theorem jl_yo {a P : Prop} (h : P) : (0 : Int32) = 0 ↔ (a ∨ P) := ⟨fun _ => .inr h, fun _ => rfl⟩
theorem jl_ya {b P : Prop} (h : P) : (1 : Int32) = 0 ↔ (b ∧ ¬ P) := ⟨fun z => absurd z (by decide), fun z => absurd h z.2⟩
abbrev jl_T : Type := Int64 → Int64 → Int64 → Int64 → Int64 → Int32 → Prop
variable {post : Int32 → Prop} {L : Nat} {xs : Nat → Int32} {x2 x5 x16 x21 x22 : Int32} {md mr mf ms mu : Int64} {kc ks : Nat} {Dn : Nat → Bool} {ex : Nat → Int32}
theorem jl_bd {i : Nat} (hM : jm_M N Dn ex md mr mf ms mu) (hi : i < N) : jm_b (mf ||| ms) i = true ↔ (Dn i = true ∧ jq_bd ex i) := by
  obtain ⟨_, _, c, e, _⟩ := hM i hi
  rw [jm_or, c, e]
  unfold jq_bd
  cases Dn i
  · simp
  · simp
theorem jl_418 {t i : Nat} {a b c : Int32} (hN : N ≤ 16) (hM : jm_M N Dn ex md mr mf ms mu) (ht : t < N) (hi : i < N) : ∃ c1 : Int32, (c1 = 0 ↔ (c = 0 ∧ ¬ (bt (np t) i = true ∧ ((Dn i = true ∧ ex i = 2) ∨ sp t < sp i)))) ∧ ∀ (J316 J325 : jl_T) (J362 : Int32 → Int32 → Int32 → Int32 → Prop), J362 a b c1 (nI (i + 1)) → wL_law_418 post L xs J316 J325 J362 (nI N) x2 x5 md mr mf ms mu x16 (nI t) a b c x21 x22 (nI i) (ja_k np op t i) kc ks (nI N) lim keep sub clk sta ff rt rs lv sp du fa np op st sa fi re := by
  obtain ⟨_, hr, _, _, _⟩ := hM i hi
  by_cases hk : bt (np t) i = true
  · have hk1 : ja_k np op t i = 1 := ja_k1.mpr hk
    by_cases h2 : Dn i = true ∧ ex i = 2
    · have hb : jm_b mr i = true := by rw [hr, h2.1, h2.2]; rfl
      exact ⟨1, jl_ya ⟨hk, .inl h2⟩, fun _ _ J z => br_t hk1 (jm_bit (by omega) (fun _ => br_f ja_i1 (nm_r (nI_1 i) z)) (fun y => absurd hb y))⟩
    · have hb : ¬ jm_b mr i = true := by
        rw [hr, Bool.and_eq_true, decide_eq_true_eq]
        exact h2
      by_cases h3 : sp t < sp i
      · exact ⟨1, jl_ya ⟨hk, .inr h3⟩, fun _ _ J z => br_t hk1 (jm_bit (by omega) (fun y => absurd y hb) (fun _ => br_t rfl (jx_timeOf (by omega) hi (jx_timeOf (by omega) ht (br_f (Int32.not_le.mpr h3) (nm_r (nI_1 i) z))))))⟩
      · exact ⟨c, jl_na (fun y => y.2.elim h2 h3), fun _ _ J z => br_t hk1 (jm_bit (by omega) (fun y => absurd y hb) (fun _ => br_t rfl (jx_timeOf (by omega) hi (jx_timeOf (by omega) ht (br_t (Int32.not_lt.mp h3) (nm_r (nI_1 i) z))))))⟩
  · exact ⟨c, jl_na (fun y => hk y.1), fun _ _ J z => br_f (fun y => hk (ja_k1.mp y)) (nm_r (nI_1 i) z)⟩
theorem jl_362 {t : Nat} (hN : N ≤ 16) (hM : jm_M N Dn ex md mr mf ms mu) (ht : t < N) : ∀ d i, i + d = N → ∀ a b c : Int32, ∃ a' b' c' : Int32, (a' = 0 ↔ (a = 0 ∨ ∃ p, i ≤ p ∧ p < N ∧ ja_E np op t p ∧ ¬ Dn p = true)) ∧ (b' = 0 ↔ (b = 0 ∧ ¬ ∃ p, i ≤ p ∧ p < N ∧ ja_E np op t p ∧ Dn p = true ∧ jq_bd ex p)) ∧ (c' = 0 ↔ (c = 0 ∧ ¬ ∃ p, i ≤ p ∧ p < N ∧ bt (np t) p = true ∧ ((Dn p = true ∧ ex p = 2) ∨ sp t < sp p))) ∧ ∀ (J316 J325 : jl_T) f, wL_law_362 post L xs J316 J325 (nI N) x2 x5 md mr mf ms mu x16 (nI t) x21 x22 kc ks (nI N) lim keep sub clk sta ff rt rs lv sp du fa np op st sa fi re f a' b' c' (nI N) → wL_law_362 post L xs J316 J325 (nI N) x2 x5 md mr mf ms mu x16 (nI t) x21 x22 kc ks (nI N) lim keep sub clk sta ff rt rs lv sp du fa np op st sa fi re (f + d) a b c (nI i) := by
  intro d
  induction d with
  | zero =>
    intro i hi a b c
    have e : i = N := by omega
    subst e
    exact ⟨a, b, c, jl_o0, jl_a0, jl_a0, fun _ _ f z => z⟩
  | succ d ih =>
    intro i hi a b c
    have hiN : i < N := by omega
    have hge : ¬ nI N ≤ nI i := nI_ge (by omega) (by omega)
    -- one round gives a1 b1 c1
    have one : ∃ a1 b1 c1 : Int32, (a1 = 0 ↔ (a = 0 ∨ (ja_E np op t i ∧ ¬ Dn i = true))) ∧ (b1 = 0 ↔ (b = 0 ∧ ¬ (ja_E np op t i ∧ Dn i = true ∧ jq_bd ex i))) ∧ (c1 = 0 ↔ (c = 0 ∧ ¬ (bt (np t) i = true ∧ ((Dn i = true ∧ ex i = 2) ∨ sp t < sp i)))) ∧ ∀ (J316 J325 : jl_T) n, wL_law_362 post L xs J316 J325 (nI N) x2 x5 md mr mf ms mu x16 (nI t) x21 x22 kc ks (nI N) lim keep sub clk sta ff rt rs lv sp du fa np op st sa fi re n a1 b1 c1 (nI (i + 1)) → wL_law_362 post L xs J316 J325 (nI N) x2 x5 md mr mf ms mu x16 (nI t) x21 x22 kc ks (nI N) lim keep sub clk sta ff rt rs lv sp du fa np op st sa fi re (n + 1) a b c (nI i) := by
      obtain ⟨hdn, _, _, _, _⟩ := hM i hiN
      by_cases hE : ja_E np op t i
      · have hk : ¬ ja_k np op t i = 0 := ja_kn.mpr hE
        by_cases hD : Dn i = true
        · have hb : jm_b md i = true := by rw [hdn]; exact hD
          by_cases hB : jq_bd ex i
          · obtain ⟨c1, q1, q2⟩ := jl_418 (post := post) (L := L) (xs := xs) (x2 := x2) (x5 := x5) (x16 := x16) (x21 := x21) (x22 := x22) (kc := kc) (ks := ks) (lim := lim) (keep := keep) (sub := sub) (clk := clk) (sta := sta) (ff := ff) (rt := rt) (rs := rs) (lv := lv) (sp := sp) (du := du) (fa := fa) (np := np) (op := op) (st := st) (sa := sa) (fi := fi) (re := re) (a := a) (b := 1) (c := c) hN hM ht hiN
            exact ⟨a, 1, c1, jl_no (fun y => y.2 hD), jl_ya ⟨hE, hD, hB⟩, q1, fun _ _ n z => br_f hge (jx_prereqKind (by omega) ht hiN (br_f hk (jm_bit (by omega) (fun _ => br_f ja_i1 (jm_bit (by omega) (fun _ => br_f ja_i1 (q2 _ _ _ z)) (fun y => absurd ((jl_bd hM hiN).mpr ⟨hD, hB⟩) y))) (fun y => absurd hb y))))⟩
          · obtain ⟨c1, q1, q2⟩ := jl_418 (post := post) (L := L) (xs := xs) (x2 := x2) (x5 := x5) (x16 := x16) (x21 := x21) (x22 := x22) (kc := kc) (ks := ks) (lim := lim) (keep := keep) (sub := sub) (clk := clk) (sta := sta) (ff := ff) (rt := rt) (rs := rs) (lv := lv) (sp := sp) (du := du) (fa := fa) (np := np) (op := op) (st := st) (sa := sa) (fi := fi) (re := re) (a := a) (b := b) (c := c) hN hM ht hiN
            exact ⟨a, b, c1, jl_no (fun y => y.2 hD), jl_na (fun y => hB y.2.2), q1, fun _ _ n z => br_f hge (jx_prereqKind (by omega) ht hiN (br_f hk (jm_bit (by omega) (fun _ => br_f ja_i1 (jm_bit (by omega) (fun y => absurd ((jl_bd hM hiN).mp y).2 hB) (fun _ => br_t rfl (q2 _ _ _ z)))) (fun y => absurd hb y))))⟩
        · have hb : ¬ jm_b md i = true := by rw [hdn]; exact hD
          obtain ⟨c1, q1, q2⟩ := jl_418 (post := post) (L := L) (xs := xs) (x2 := x2) (x5 := x5) (x16 := x16) (x21 := x21) (x22 := x22) (kc := kc) (ks := ks) (lim := lim) (keep := keep) (sub := sub) (clk := clk) (sta := sta) (ff := ff) (rt := rt) (rs := rs) (lv := lv) (sp := sp) (du := du) (fa := fa) (np := np) (op := op) (st := st) (sa := sa) (fi := fi) (re := re) (a := 0) (b := b) (c := c) hN hM ht hiN
          exact ⟨0, b, c1, jl_yo ⟨hE, hD⟩, jl_na (fun y => hD y.2.1), q1, fun _ _ n z => br_f hge (jx_prereqKind (by omega) ht hiN (br_f hk (jm_bit (by omega) (fun y => absurd y hb) (fun _ => br_t rfl (q2 _ _ _ z)))))⟩
      · have hk : ja_k np op t i = 0 := Classical.byContradiction (fun y => hE (ja_kn.mp y))
        exact ⟨a, b, c, jl_no (fun y => hE y.1), jl_na (fun y => hE y.1), jl_na (fun y => hE (jq_En y.1)), fun _ _ n z => br_f hge (jx_prereqKind (by omega) ht hiN (br_t hk (nm_r (nI_1 i) z)))⟩
    obtain ⟨a1, b1, c1, o1, o2, o3, o4⟩ := one
    obtain ⟨a', b', c', k1, k2, k3, k4⟩ := ih (i + 1) (by omega) a1 b1 c1
    exact ⟨a', b', c', jl_o hiN o1 k1, jl_a hiN o2 k2, jl_a hiN o3 k3, fun J J' f z => o4 J J' (f + d) (k4 J J' f z)⟩
/-- the sub-make target's prerequisites -/
theorem jl_476 {s : Nat} {x17 x19 x20 : Int32} (hN : N ≤ 16) (hM : jm_M N Dn ex md mr mf ms mu) (hs : s < N) : ∀ d i, i + d = N → ∀ a b : Int32, ∃ a' b' : Int32, (a' = 0 ↔ (a = 0 ∨ ∃ p, i ≤ p ∧ p < N ∧ ja_E np op s p ∧ ¬ Dn p = true)) ∧ (b' = 0 ↔ (b = 0 ∧ ¬ ∃ p, i ≤ p ∧ p < N ∧ ja_E np op s p ∧ Dn p = true ∧ jq_bd ex p)) ∧ ∀ (J316 J325 : jl_T) f, wL_law_476 post L xs J316 J325 (nI N) x2 (nI s) md mr mf ms mu x16 x17 x19 x20 x22 kc ks (nI N) lim keep sub clk sta ff rt rs lv sp du fa np op st sa fi re f a' b' (nI N) → wL_law_476 post L xs J316 J325 (nI N) x2 (nI s) md mr mf ms mu x16 x17 x19 x20 x22 kc ks (nI N) lim keep sub clk sta ff rt rs lv sp du fa np op st sa fi re (f + d) a b (nI i) := by
  intro d
  induction d with
  | zero =>
    intro i hi a b
    have e : i = N := by omega
    subst e
    exact ⟨a, b, jl_o0, jl_a0, fun _ _ f z => z⟩
  | succ d ih =>
    intro i hi a b
    have hiN : i < N := by omega
    have hge : ¬ nI N ≤ nI i := nI_ge (by omega) (by omega)
    have one : ∃ a1 b1 : Int32, (a1 = 0 ↔ (a = 0 ∨ (ja_E np op s i ∧ ¬ Dn i = true))) ∧ (b1 = 0 ↔ (b = 0 ∧ ¬ (ja_E np op s i ∧ Dn i = true ∧ jq_bd ex i))) ∧ ∀ (J316 J325 : jl_T) n, wL_law_476 post L xs J316 J325 (nI N) x2 (nI s) md mr mf ms mu x16 x17 x19 x20 x22 kc ks (nI N) lim keep sub clk sta ff rt rs lv sp du fa np op st sa fi re n a1 b1 (nI (i + 1)) → wL_law_476 post L xs J316 J325 (nI N) x2 (nI s) md mr mf ms mu x16 x17 x19 x20 x22 kc ks (nI N) lim keep sub clk sta ff rt rs lv sp du fa np op st sa fi re (n + 1) a b (nI i) := by
      obtain ⟨hdn, _, _, _, _⟩ := hM i hiN
      by_cases hE : ja_E np op s i
      · have hk : ¬ ja_k np op s i = 0 := ja_kn.mpr hE
        by_cases hD : Dn i = true
        · have hb : jm_b md i = true := by rw [hdn]; exact hD
          by_cases hB : jq_bd ex i
          · exact ⟨a, 1, jl_no (fun y => y.2 hD), jl_ya ⟨hE, hD, hB⟩, fun _ _ n z => br_f hge (jx_prereqKind (by omega) hs hiN (br_f hk (jm_bit (by omega) (fun _ => br_f ja_i1 (jm_bit (by omega) (fun _ => br_f ja_i1 (nm_r (nI_1 i) z)) (fun y => absurd ((jl_bd hM hiN).mpr ⟨hD, hB⟩) y))) (fun y => absurd hb y))))⟩
          · exact ⟨a, b, jl_no (fun y => y.2 hD), jl_na (fun y => hB y.2.2), fun _ _ n z => br_f hge (jx_prereqKind (by omega) hs hiN (br_f hk (jm_bit (by omega) (fun _ => br_f ja_i1 (jm_bit (by omega) (fun y => absurd ((jl_bd hM hiN).mp y).2 hB) (fun _ => br_t rfl (nm_r (nI_1 i) z)))) (fun y => absurd hb y))))⟩
        · have hb : ¬ jm_b md i = true := by rw [hdn]; exact hD
          exact ⟨0, b, jl_yo ⟨hE, hD⟩, jl_na (fun y => hD y.2.1), fun _ _ n z => br_f hge (jx_prereqKind (by omega) hs hiN (br_f hk (jm_bit (by omega) (fun y => absurd y hb) (fun _ => br_t rfl (nm_r (nI_1 i) z)))))⟩
      · have hk : ja_k np op s i = 0 := Classical.byContradiction (fun y => hE (ja_kn.mp y))
        exact ⟨a, b, jl_no (fun y => hE y.1), jl_na (fun y => hE y.1), fun _ _ n z => br_f hge (jx_prereqKind (by omega) hs hiN (br_t hk (nm_r (nI_1 i) z)))⟩
    obtain ⟨a1, b1, o1, o2, o4⟩ := one
    obtain ⟨a', b', k1, k2, k4⟩ := ih (i + 1) (by omega) a1 b1
    exact ⟨a', b', jl_o hiN o1 k1, jl_a hiN o2 k2, fun J J' f z => o4 J J' (f + d) (k4 J J' f z)⟩
/-- the sub targets -/
theorem jl_544 {x17 x19 x20 : Int32} (hN : N ≤ 16) (hM : jm_M N Dn ex md mr mf ms mu) : ∀ d i, i + d = N → ∀ a b : Int32, ∃ a' b' : Int32, (a' = 0 ↔ (a = 0 ∨ ∃ p, i ≤ p ∧ p < N ∧ lv p = 1 ∧ ¬ Dn p = true)) ∧ (b' = 0 ↔ (b = 0 ∧ ¬ ∃ p, i ≤ p ∧ p < N ∧ lv p = 1 ∧ Dn p = true ∧ jq_bd ex p)) ∧ ∀ (J316 J325 : jl_T) f, wL_law_544 post L xs J316 J325 (nI N) x2 x5 md mr mf ms mu x16 x17 x19 x20 x21 kc ks (nI N) lim keep sub clk sta ff rt rs lv sp du fa np op st sa fi re f a' b' (nI N) → wL_law_544 post L xs J316 J325 (nI N) x2 x5 md mr mf ms mu x16 x17 x19 x20 x21 kc ks (nI N) lim keep sub clk sta ff rt rs lv sp du fa np op st sa fi re (f + d) a b (nI i) := by
  intro d
  induction d with
  | zero =>
    intro i hi a b
    have e : i = N := by omega
    subst e
    exact ⟨a, b, jl_o0, jl_a0, fun _ _ f z => z⟩
  | succ d ih =>
    intro i hi a b
    have hiN : i < N := by omega
    have hge : ¬ nI N ≤ nI i := nI_ge (by omega) (by omega)
    have one : ∃ a1 b1 : Int32, (a1 = 0 ↔ (a = 0 ∨ (lv i = 1 ∧ ¬ Dn i = true))) ∧ (b1 = 0 ↔ (b = 0 ∧ ¬ (lv i = 1 ∧ Dn i = true ∧ jq_bd ex i))) ∧ ∀ (J316 J325 : jl_T) n, wL_law_544 post L xs J316 J325 (nI N) x2 x5 md mr mf ms mu x16 x17 x19 x20 x21 kc ks (nI N) lim keep sub clk sta ff rt rs lv sp du fa np op st sa fi re n a1 b1 (nI (i + 1)) → wL_law_544 post L xs J316 J325 (nI N) x2 x5 md mr mf ms mu x16 x17 x19 x20 x21 kc ks (nI N) lim keep sub clk sta ff rt rs lv sp du fa np op st sa fi re (n + 1) a b (nI i) := by
      obtain ⟨hdn, _, _, _, _⟩ := hM i hiN
      by_cases hE : lv i = 1
      · by_cases hD : Dn i = true
        · have hb : jm_b md i = true := by rw [hdn]; exact hD
          by_cases hB : jq_bd ex i
          · exact ⟨a, 1, jl_no (fun y => y.2 hD), jl_ya ⟨hE, hD, hB⟩, fun _ _ n z => br_f hge (jx_level (by omega) hiN (br_t hE (jm_bit (by omega) (fun _ => br_f ja_i1 (jm_bit (by omega) (fun _ => br_f ja_i1 (nm_r (nI_1 i) z)) (fun y => absurd ((jl_bd hM hiN).mpr ⟨hD, hB⟩) y))) (fun y => absurd hb y))))⟩
          · exact ⟨a, b, jl_no (fun y => y.2 hD), jl_na (fun y => hB y.2.2), fun _ _ n z => br_f hge (jx_level (by omega) hiN (br_t hE (jm_bit (by omega) (fun _ => br_f ja_i1 (jm_bit (by omega) (fun y => absurd ((jl_bd hM hiN).mp y).2 hB) (fun _ => br_t rfl (nm_r (nI_1 i) z)))) (fun y => absurd hb y))))⟩
        · have hb : ¬ jm_b md i = true := by rw [hdn]; exact hD
          exact ⟨0, b, jl_yo ⟨hE, hD⟩, jl_na (fun y => hD y.2.1), fun _ _ n z => br_f hge (jx_level (by omega) hiN (br_t hE (jm_bit (by omega) (fun y => absurd y hb) (fun _ => br_t rfl (nm_r (nI_1 i) z)))))⟩
      · exact ⟨a, b, jl_no (fun y => hE y.1), jl_na (fun y => hE y.1), fun _ _ n z => br_f hge (jx_level (by omega) hiN (br_f hE (nm_r (nI_1 i) z)))⟩
    obtain ⟨a1, b1, o1, o2, o4⟩ := one
    obtain ⟨a', b', k1, k2, k4⟩ := ih (i + 1) (by omega) a1 b1
    exact ⟨a', b', jl_o hiN o1 k1, jl_a hiN o2 k2, fun J J' f z => o4 J J' (f + d) (k4 J J' f z)⟩
end
section
-- p18: one target in the reckoning, a pass, all passes
variable {N : Nat} {lim keep sub clk sta ff rt rs : Int32} {lv sp du fa np op st sa fi re : Nat → Int32} {post : Int32 → Prop} {L : Nat} {xs : Nat → Int32} {x2 x16 : Int32} {kc ks : Nat}
theorem jl_534 {md mr mf ms mu : Int64} {Dn : Nat → Bool} {ex : Nat → Int32} {t : Nat} {a b c e : Int32} (hN : N ≤ 16) (hM : jm_M N Dn ex md mr mf ms mu) : ∃ a' g : Int32, (a' = 0 ↔ (a = 0 ∨ (nI t = sub ∧ ∃ p, 0 ≤ p ∧ p < N ∧ lv p = 1 ∧ ¬ Dn p = true))) ∧ (g = 0 ↔ ¬ (nI t = sub ∧ ∃ p, 0 ≤ p ∧ p < N ∧ lv p = 1 ∧ Dn p = true ∧ jq_bd ex p)) ∧ ∀ J316 J325 : jl_T, wL_law_601 post L xs J316 J325 (nI N) x2 sub md mr mf ms mu x16 (nI t) a' b c e g kc ks (nI N) lim keep sub clk sta ff rt rs lv sp du fa np op st sa fi re → wL_law_534 post L xs J316 J325 (nI N) x2 sub md mr mf ms mu x16 (nI t) a b c e 0 kc ks (nI N) lim keep sub clk sta ff rt rs lv sp du fa np op st sa fi re := by
  by_cases hs : nI t = sub
  · obtain ⟨a', g, q1, q2, q3⟩ := jl_544 (post := post) (L := L) (xs := xs) (x2 := x2) (x5 := sub) (x16 := x16) (x17 := nI t) (x19 := b) (x20 := c) (x21 := e) (kc := kc) (ks := ks) (lim := lim) (keep := keep) (sub := sub) (clk := clk) (sta := sta) (ff := ff) (rt := rt) (rs := rs) (lv := lv) (sp := sp) (du := du) (fa := fa) (np := np) (op := op) (st := st) (sa := sa) (fi := fi) (re := re) hN hM N 0 (by omega) a 0
    refine ⟨a', g, q1.trans ⟨fun h => h.elim .inl (fun h => .inr ⟨hs, h⟩), fun h => h.elim .inl (fun h => .inr h.2)⟩, q2.trans ⟨fun h y => h.2 y.2, fun h => ⟨rfl, fun y => h ⟨hs, y⟩⟩⟩, fun J J' z => br_t hs ⟨1 + N, q3 J J' 1 (br_t (nI_le (Nat.le_refl _) (by omega)) z)⟩⟩
  · exact ⟨a, 0, jl_no (fun y => hs y.1), ⟨fun _ y => hs y.1, fun _ => rfl⟩, fun J J' z => br_f hs z⟩
theorem jl_mid {md mr mf ms mu : Int64} {Dn : Nat → Bool} {ex : Nat → Int32} {t : Nat} {a b c : Int32} (hN : N ≤ 16) (hM : jm_M N Dn ex md mr mf ms mu) (hS : ja_S N sub) (ht : t < N) : ∃ a' e : Int32, (a' = 0 ↔ (a = 0 ∨ (lv t = 1 ∧ ∃ s, s < N ∧ sub = nI s ∧ ∃ p, 0 ≤ p ∧ p < N ∧ ja_E np op s p ∧ ¬ Dn p = true))) ∧ (e = 0 ↔ ¬ (lv t = 1 ∧ ∃ s, s < N ∧ sub = nI s ∧ ∃ p, 0 ≤ p ∧ p < N ∧ ja_E np op s p ∧ Dn p = true ∧ jq_bd ex p)) ∧ ∀ J316 J325 : jl_T, wL_law_534 post L xs J316 J325 (nI N) x2 sub md mr mf ms mu x16 (nI t) a' b c e 0 kc ks (nI N) lim keep sub clk sta ff rt rs lv sp du fa np op st sa fi re → wL_law_362 post L xs J316 J325 (nI N) x2 sub md mr mf ms mu x16 (nI t) 0 0 kc ks (nI N) lim keep sub clk sta ff rt rs lv sp du fa np op st sa fi re 1 a b c (nI N) := by
  have hl : nI N ≤ nI N := nI_le (Nat.le_refl _) (by omega)
  by_cases h1 : lv t = 1
  · rcases ja_sub_in hS (by omega) with ⟨e, hno, _⟩ | ⟨s, hsN, e, hm, _⟩
    · have no : ∀ s, s < N → ¬ sub = nI s := fun s hs y => hno s (by omega) y.symm
      exact ⟨a, 0, jl_no (fun ⟨_, s, hs, y, _⟩ => no s hs y), ⟨fun _ ⟨_, s, hs, y, _⟩ => no s hs y, fun _ => rfl⟩, fun J J' z => br_t hl (jx_level (by omega) ht (br_t h1 (br_t (by rw [e]; decide) z)))⟩
    · have un : ∀ s', s' < N → sub = nI s' → s' = s := fun s' h y => (nI_eq (by omega) (by omega)).mp (y.symm.trans e)
      subst e
      obtain ⟨a', b', q1, q2, q3⟩ := jl_476 (post := post) (L := L) (xs := xs) (x2 := x2) (x16 := x16) (x17 := nI t) (x19 := b) (x20 := c) (x22 := 0) (kc := kc) (ks := ks) (lim := lim) (keep := keep) (sub := nI s) (clk := clk) (sta := sta) (ff := ff) (rt := rt) (rs := rs) (lv := lv) (sp := sp) (du := du) (fa := fa) (np := np) (op := op) (st := st) (sa := sa) (fi := fi) (re := re) hN hM hsN N 0 (by omega) a 0
      refine ⟨a', b', q1.trans ⟨fun h => h.elim .inl (fun h => .inr ⟨h1, s, hsN, rfl, h⟩), fun h => h.elim .inl (fun ⟨_, s', hs', y, w1⟩ => .inr ?_)⟩, q2.trans ⟨fun h ⟨_, s', hs', y, w⟩ => h.2 ?_, fun h => ⟨rfl, fun y => h ⟨h1, s, hsN, rfl, y⟩⟩⟩, fun J J' z => br_t hl (jx_level (by omega) ht (br_t h1 (br_f (nI_pos (by omega)) ⟨1 + N, q3 J J' 1 (br_t hl z)⟩)))⟩
      · have := un s' hs' y
        subst this
        exact w1
      · have := un s' hs' y
        subst this
        exact w
  · exact ⟨a, 0, jl_no (fun y => h1 y.1), ⟨fun _ y => h1 y.1, fun _ => rfl⟩, fun J J' z => br_t hl (jx_level (by omega) ht (br_f h1 z))⟩
/-- all five flags of t -/
theorem jl_body {md mr mf ms mu : Int64} {Dn : Nat → Bool} {ex : Nat → Int32} {t : Nat} (hN : N ≤ 16) (hM : jm_M N Dn ex md mr mf ms mu) (hS : ja_S N sub) (ht : t < N) : ∃ a b c e g : Int32, (a = 0 ↔ ∃ p, p < N ∧ jq_X N sub lv np op t p ∧ ¬ Dn p = true) ∧ (b = 0 ↔ ¬ ∃ p, p < N ∧ ja_E np op t p ∧ Dn p = true ∧ jq_bd ex p) ∧ (c = 0 ↔ ¬ ∃ p, p < N ∧ bt (np t) p = true ∧ ((Dn p = true ∧ ex p = 2) ∨ sp t < sp p)) ∧ (e = 0 ↔ ¬ (lv t = 1 ∧ ∃ s, s < N ∧ sub = nI s ∧ ∃ p, p < N ∧ ja_E np op s p ∧ Dn p = true ∧ jq_bd ex p)) ∧ (g = 0 ↔ ¬ (nI t = sub ∧ ∃ p, p < N ∧ lv p = 1 ∧ Dn p = true ∧ jq_bd ex p)) ∧ ∀ J316 J325 : jl_T, wL_law_601 post L xs J316 J325 (nI N) x2 sub md mr mf ms mu x16 (nI t) a b c e g kc ks (nI N) lim keep sub clk sta ff rt rs lv sp du fa np op st sa fi re → ∃ n, wL_law_362 post L xs J316 J325 (nI N) x2 sub md mr mf ms mu x16 (nI t) 0 0 kc ks (nI N) lim keep sub clk sta ff rt rs lv sp du fa np op st sa fi re n 1 0 0 0 := by
  obtain ⟨a1, b, c, p1, p2, p3, p4⟩ := jl_362 (post := post) (L := L) (xs := xs) (x2 := x2) (x5 := sub) (x16 := x16) (x21 := 0) (x22 := 0) (kc := kc) (ks := ks) (lim := lim) (keep := keep) (sub := sub) (clk := clk) (sta := sta) (ff := ff) (rt := rt) (rs := rs) (lv := lv) (sp := sp) (du := du) (fa := fa) (np := np) (op := op) (st := st) (sa := sa) (fi := fi) (re := re) hN hM ht N 0 (by omega) 1 0 0
  obtain ⟨a2, e, q1, q2, q3⟩ := jl_mid (post := post) (L := L) (xs := xs) (x2 := x2) (x16 := x16) (kc := kc) (ks := ks) (lim := lim) (keep := keep) (sub := sub) (clk := clk) (sta := sta) (ff := ff) (rt := rt) (rs := rs) (lv := lv) (sp := sp) (du := du) (fa := fa) (np := np) (op := op) (st := st) (sa := sa) (fi := fi) (re := re) (a := a1) (b := b) (c := c) hN hM hS ht
  obtain ⟨a3, g, r1, r2, r3⟩ := jl_534 (post := post) (L := L) (xs := xs) (x2 := x2) (x16 := x16) (kc := kc) (ks := ks) (lim := lim) (keep := keep) (sub := sub) (clk := clk) (sta := sta) (ff := ff) (rt := rt) (rs := rs) (lv := lv) (sp := sp) (du := du) (fa := fa) (np := np) (op := op) (st := st) (sa := sa) (fi := fi) (re := re) (t := t) (a := a2) (b := b) (c := c) (e := e) hN hM
  refine ⟨a3, b, c, e, g, ?_, ?_, ?_, ?_, ?_, fun J J' z => ⟨1 + N, p4 J J' 1 (q3 J J' (r3 J J' z))⟩⟩
  · rw [r1, q1, p1]
    constructor
    · intro h
      rcases h with ((h | ⟨p, _, hp, hE, hd⟩) | ⟨hl, s, hs, es, p, _, hp, hE, hd⟩) | ⟨es, p, _, hp, hl, hd⟩
      · exact absurd h (by decide)
      · exact ⟨p, hp, .inl hE, hd⟩
      · exact ⟨p, hp, .inr (.inl ⟨hl, s, hs, es, hE⟩), hd⟩
      · exact ⟨p, hp, .inr (.inr ⟨es, hl⟩), hd⟩
    · intro ⟨p, hp, hX, hd⟩
      rcases hX with hE | ⟨hl, s, hs, es, hE⟩ | ⟨es, hl⟩
      · exact .inl (.inl (.inr ⟨p, Nat.zero_le _, hp, hE, hd⟩))
      · exact .inl (.inr ⟨hl, s, hs, es, p, Nat.zero_le _, hp, hE, hd⟩)
      · exact .inr ⟨es, p, Nat.zero_le _, hp, hl, hd⟩
  · rw [p2]
    exact ⟨fun h ⟨p, hp, w⟩ => h.2 ⟨p, Nat.zero_le _, hp, w⟩, fun h => ⟨rfl, fun ⟨p, _, hp, w⟩ => h ⟨p, hp, w⟩⟩⟩
  · rw [p3]
    exact ⟨fun h ⟨p, hp, w⟩ => h.2 ⟨p, Nat.zero_le _, hp, w⟩, fun h => ⟨rfl, fun ⟨p, _, hp, w⟩ => h ⟨p, hp, w⟩⟩⟩
  · rw [q2]
    exact ⟨fun h ⟨hl, s, hs, es, p, hp, w⟩ => h ⟨hl, s, hs, es, p, Nat.zero_le _, hp, w⟩, fun h ⟨hl, s, hs, es, p, _, hp, w⟩ => h ⟨hl, s, hs, es, p, hp, w⟩⟩
  · rw [r2]
    exact ⟨fun h ⟨es, p, hp, w⟩ => h ⟨es, p, Nat.zero_le _, hp, w⟩, fun h ⟨es, p, _, hp, w⟩ => h ⟨es, p, hp, w⟩⟩
/-- a target that is ready gets what is expected of it -/
theorem jl_601 {md mr mf ms mu : Int64} {Dn : Nat → Bool} {ex : Nat → Int32} {t : Nat} {a b c e g : Int32} (hN : N ≤ 16) (hM : jm_M N Dn ex md mr mf ms mu) (ht : t < N) (hd : Dn t = false) (hdu : ∃ k, k ≤ 15 ∧ du t = nI k) (ha : ¬ a = 0) (hx : ∀ p, p < N → jq_X N sub lv np op t p → Dn p = true) (hb : b = 0 ↔ ¬ ∃ p, p < N ∧ ja_E np op t p ∧ Dn p = true ∧ jq_bd ex p) (hc : c = 0 ↔ ¬ ∃ p, p < N ∧ bt (np t) p = true ∧ ((Dn p = true ∧ ex p = 2) ∨ sp t < sp p)) (he : e = 0 ↔ ¬ (lv t = 1 ∧ ∃ s, s < N ∧ sub = nI s ∧ ∃ p, p < N ∧ ja_E np op s p ∧ Dn p = true ∧ jq_bd ex p)) (hg : g = 0 ↔ ¬ (nI t = sub ∧ ∃ p, p < N ∧ lv p = 1 ∧ Dn p = true ∧ jq_bd ex p)) : ∃ (w : Int32) (md' mr' mf' ms' mu' : Int64), jm_M N (fun i => Dn i || decide (i = t)) (upd ex t w) md' mr' mf' ms' mu' ∧ jq_L N sub lv sp fa np op (upd ex t w) t ∧ ∀ J316 J325 : jl_T, J325 md' mr' mf' ms' mu' (nI (t + 1)) → wL_law_601 post L xs J316 J325 (nI N) x2 sub md mr mf ms mu x16 (nI t) a b c e g kc ks (nI N) lim keep sub clk sta ff rt rs lv sp du fa np op st sa fi re := by
  have o1 : ∀ (m : Int64) (i : Nat), i < N → jm_b (m ||| ((1 : Int64) <<< ((nI t).toInt64 &&& 63))) i = (jm_b m i || decide (i = t)) := fun m i hi => jm_o1 m (by omega) (by omega)
  have ne : ∀ p, Dn p = true → p ≠ t := fun p z y => by
    rw [y, hd] at z
    exact absurd z (by decide)
  have eqx : ∀ (w : Int32) p, p < N → jq_X N sub lv np op t p → ex p = upd ex t w p := fun w p hp hX => (pk_un (ne p (hx p hp hX))).symm
  have eqx' : ∀ (w : Int32) p, p < N → jq_X N sub lv np op t p → upd ex t w p = ex p := fun w p hp hX => pk_un (ne p (hx p hp hX))
  -- to be skipped: just where a flag says so
  have hA : jq_A N sub lv np op ex t ↔ (¬ e = 0 ∨ ¬ b = 0) := by
    rw [he, hb]
    constructor
    · intro h
      rcases h with ⟨hl, s, hs, es, q, hq, hE, hbd⟩ | ⟨p, hp, hE, hbd⟩
      · exact .inl (fun y => y ⟨hl, s, hs, es, q, hq, hE, hx q hq (.inr (.inl ⟨hl, s, hs, es, hE⟩)), hbd⟩)
      · exact .inr (fun y => y ⟨p, hp, hE, hx p hp (.inl hE), hbd⟩)
    · intro h
      rcases h with h | h
      · obtain ⟨hl, s, hs, es, q, hq, hE, _, hbd⟩ := Classical.not_not.mp h
        exact .inl ⟨hl, s, hs, es, q, hq, hE, hbd⟩
      · obtain ⟨p, hp, hE, _, hbd⟩ := Classical.not_not.mp h
        exact .inr ⟨p, hp, hE, hbd⟩
  have skip : (¬ e = 0 ∨ ¬ b = 0) → jm_M N (fun i => Dn i || decide (i = t)) (upd ex t 5) (md ||| ((1 : Int64) <<< ((nI t).toInt64 &&& 63))) mr mf (ms ||| ((1 : Int64) <<< ((nI t).toInt64 &&& 63))) mu ∧ jq_L N sub lv sp fa np op (upd ex t 5) t := fun h =>
    ⟨jm_ad 5 hM hd (o1 md) (fun i _ => jm_k (by decide)) (fun i _ => jm_k (by decide)) (fun i hi => (o1 ms i hi).trans jm_y) (fun i _ => jm_k (by decide)),
     fun _ => pk_us, fun na => absurd (jq_Ac (eqx 5) (hA.mpr h)) na⟩
  by_cases he0 : e = 0
  · by_cases hb0 : b = 0
    · have nA : ∀ w, ¬ jq_A N sub lv np op (upd ex t w) t := fun w y => (hA.mp (jq_Ac (eqx' w) y)).elim (fun z => z he0) (fun z => z hb0)
      by_cases hs : nI t = sub
      · have hu : ∀ w, (∃ u, u < N ∧ lv u = 1 ∧ jq_bd (upd ex t w) u) ↔ ¬ g = 0 := fun w => by
          rw [hg]
          constructor
          · intro ⟨u, hu, hl, hbd⟩ y
            have hX : jq_X N sub lv np op t u := .inr (.inr ⟨hs, hl⟩)
            unfold jq_bd at hbd
            rw [eqx' w u hu hX] at hbd
            exact y ⟨hs, u, hu, hl, hx u hu hX, hbd⟩
          · intro h
            obtain ⟨_, u, hu, hl, hdu', hbd⟩ := Classical.not_not.mp h
            have hX : jq_X N sub lv np op t u := .inr (.inr ⟨hs, hl⟩)
            refine ⟨u, hu, hl, ?_⟩
            unfold jq_bd
            rw [eqx' w u hu hX]
            exact hbd
        by_cases hg0 : g = 0
        · refine ⟨2, _, _, _, _, _, jm_ad 2 hM hd (o1 md) (fun i hi => (o1 mr i hi).trans jm_y) (fun i _ => jm_k (by decide)) (fun i _ => jm_k (by decide)) (fun i _ => jm_k (by decide)), ⟨fun y => absurd y (nA 2), fun _ => ⟨fun _ => ⟨fun y => absurd hg0 ((hu 2).mp y), fun _ => pk_us⟩, fun y => absurd hs y⟩⟩, fun J J' z => br_f ha (nm_e (nm_e (br_t he0 (br_t hb0 (br_t hs (br_t hg0 (nm_e (nm_r (nI_1 t) z))))))))⟩
        · refine ⟨4, _, _, _, _, _, jm_ad 4 hM hd (o1 md) (fun i _ => jm_k (by decide)) (fun i hi => (o1 mf i hi).trans jm_y) (fun i _ => jm_k (by decide)) (fun i _ => jm_k (by decide)), ⟨fun y => absurd y (nA 4), fun _ => ⟨fun _ => ⟨fun _ => pk_us, fun y => absurd ((hu 4).mpr hg0) y⟩, fun y => absurd hs y⟩⟩, fun J J' z => br_f ha (nm_e (nm_e (br_t he0 (br_t hb0 (br_t hs (br_f hg0 (nm_e (nm_r (nI_1 t) z))))))))⟩
      · have hF : ∀ w, jq_F N sp np (upd ex t w) t ↔ (¬ sp t = 0 ∧ c = 0) := fun w => by
          rw [hc]
          constructor
          · intro ⟨h1, h2⟩
            refine ⟨h1, fun ⟨p, hp, hbt, y⟩ => h2 ⟨p, hp, hbt, ?_⟩⟩
            have hX : jq_X N sub lv np op t p := .inl (jq_En hbt)
            rw [eqx' w p hp hX]
            exact y.elim (fun y => .inl y.2) .inr
          · intro ⟨h1, h2⟩
            refine ⟨h1, fun ⟨p, hp, hbt, y⟩ => h2 ⟨p, hp, hbt, ?_⟩⟩
            have hX : jq_X N sub lv np op t p := .inl (jq_En hbt)
            rw [eqx' w p hp hX] at y
            exact y.elim (fun y => .inl ⟨hx p hp hX, y⟩) .inr
        by_cases hf : ¬ sp t = 0 ∧ c = 0
        · refine ⟨3, _, _, _, _, _, jm_ad 3 hM hd (o1 md) (fun i _ => jm_k (by decide)) (fun i _ => jm_k (by decide)) (fun i _ => jm_k (by decide)) (fun i hi => (o1 mu i hi).trans jm_y), ⟨fun y => absurd y (nA 3), fun _ => ⟨fun y => absurd y hs, fun _ => ⟨fun _ => pk_us, fun y => absurd ((hF 3).mpr hf) y⟩⟩⟩, fun J J' z => br_f ha (nm_e (nm_e (br_t he0 (br_t hb0 (br_f hs (jx_timeOf (by omega) ht (br_f hf.1 (br_t hf.2 (nm_e (nm_r (nI_1 t) z))))))))))⟩
        · obtain ⟨k, hk, ek⟩ := hdu
          -- the command decides
          have cmd : ∀ J316 J325 : jl_T, wL_law_698 post L xs J316 J325 (nI N) x2 sub (md ||| ((1 : Int64) <<< ((nI t).toInt64 &&& 63))) mr mf ms mu x16 (nI t) ((1 : Int64) <<< ((nI t).toInt64 &&& 63)) kc ks (nI N) lim keep sub clk sta ff rt rs lv sp du fa np op st sa fi re → wL_law_601 post L xs J316 J325 (nI N) x2 sub md mr mf ms mu x16 (nI t) a b c e g kc ks (nI N) lim keep sub clk sta ff rt rs lv sp du fa np op st sa fi re := fun J J' z => by
            refine br_f ha (nm_e (nm_e (br_t he0 (br_t hb0 (br_f hs (jx_timeOf (by omega) ht ?_))))))
            exact br_c (fun _ => z) (fun h1 => br_f (fun h2 => hf ⟨h1, h2⟩) z)
          by_cases h0 : fa t = 0
          · refine ⟨2, _, _, _, _, _, jm_ad 2 hM hd (o1 md) (fun i hi => (o1 mr i hi).trans jm_y) (fun i _ => jm_k (by decide)) (fun i _ => jm_k (by decide)) (fun i _ => jm_k (by decide)), ⟨fun y => absurd y (nA 2), fun _ => ⟨fun y => absurd y hs, fun _ => ⟨fun y => absurd ((hF 2).mp y) hf, fun _ => ⟨fun y => absurd h0 y, fun _ => pk_us⟩⟩⟩⟩, fun J J' z => cmd J J' ?_⟩
            unfold wL_law_698
            refine jx_commandOf (by omega) ht (fun _ => ?_) (fun y => absurd h0 y)
            rw [ek]
            exact br_t (nI_lt (b := 16) (by omega) (by omega)) (nm_e (nm_r (nI_1 t) z))
          · refine ⟨4, _, _, _, _, _, jm_ad 4 hM hd (o1 md) (fun i _ => jm_k (by decide)) (fun i hi => (o1 mf i hi).trans jm_y) (fun i _ => jm_k (by decide)) (fun i _ => jm_k (by decide)), ⟨fun y => absurd y (nA 4), fun _ => ⟨fun y => absurd y hs, fun _ => ⟨fun y => absurd ((hF 4).mp y) hf, fun _ => ⟨fun _ => pk_us, fun y => absurd y h0⟩⟩⟩⟩, fun J J' z => cmd J J' ?_⟩
            unfold wL_law_698
            refine jx_commandOf (by omega) ht (fun y => absurd y h0) (fun _ => ?_)
            rw [ek, show (16 : Int32) = nI 16 from rfl, nI_add]
            exact br_f (nI_nlt (b := 16) (by omega) (by omega)) (nm_e (nm_r (nI_1 t) z))
    · exact ⟨5, _, _, _, _, _, (skip (.inr hb0)).1, (skip (.inr hb0)).2, fun J J' z => br_f ha (nm_e (nm_e (br_t he0 (br_f hb0 (nm_e (nm_r (nI_1 t) z))))))⟩
  · exact ⟨5, _, _, _, _, _, (skip (.inl he0)).1, (skip (.inl he0)).2, fun J J' z => br_f ha (nm_e (nm_e (br_f he0 (nm_e (nm_r (nI_1 t) z)))))⟩
/-- a pass -/
theorem jl_325 (hN : N ≤ 16) (hS : ja_S N sub) (hdu : ∀ t, t < N → ∃ k, k ≤ 15 ∧ du t = nI k) : ∀ d i, i + d = N → ∀ (md mr mf ms mu : Int64) (Dn : Nat → Bool) (ex : Nat → Int32), jm_M N Dn ex md mr mf ms mu → jm_J N sub lv sp fa np op Dn ex → ∃ (md' mr' mf' ms' mu' : Int64) (Dn' : Nat → Bool) (ex' : Nat → Int32), jm_M N Dn' ex' md' mr' mf' ms' mu' ∧ jm_J N sub lv sp fa np op Dn' ex' ∧ (∀ t, t < N → Dn t = true → Dn' t = true) ∧ (∀ t, i ≤ t → t < N → (∀ p, p < N → jq_X N sub lv np op t p → Dn p = true) → Dn' t = true) ∧ ∀ (J316 : jl_T) f, wL_law_325 post L xs J316 (nI N) x2 sub x16 kc ks (nI N) lim keep sub clk sta ff rt rs lv sp du fa np op st sa fi re f md' mr' mf' ms' mu' (nI N) → wL_law_325 post L xs J316 (nI N) x2 sub x16 kc ks (nI N) lim keep sub clk sta ff rt rs lv sp du fa np op st sa fi re (f + d) md mr mf ms mu (nI i) := by
  intro d
  induction d with
  | zero =>
    intro i hi md mr mf ms mu Dn ex hM hJ
    have e : i = N := by omega
    subst e
    exact ⟨md, mr, mf, ms, mu, Dn, ex, hM, hJ, fun _ _ z => z, fun t h1 h2 => by omega, fun _ f z => z⟩
  | succ d ih =>
    intro i hi md mr mf ms mu Dn ex hM hJ
    have hiN : i < N := by omega
    have hge : ¬ nI N ≤ nI i := nI_ge (by omega) (by omega)
    have hbit := (hM i hiN).1
    by_cases hD : Dn i = true
    · obtain ⟨md', mr', mf', ms', mu', Dn', ex', k1, k2, k3, k4, k5⟩ := ih (i + 1) (by omega) md mr mf ms mu Dn ex hM hJ
      refine ⟨md', mr', mf', ms', mu', Dn', ex', k1, k2, k3, fun t h1 h2 h3 => ?_, fun J f z => br_f hge (jm_bit (by omega) (fun _ => br_f ja_i1 (nm_r (nI_1 i) (k5 J f z))) (fun y => absurd (hbit.trans hD) y))⟩
      by_cases y : t = i
      · subst y
        exact k3 t h2 hD
      · exact k4 t (by omega) h2 h3
    · have hDf : Dn i = false := by
        cases y : Dn i with
        | false => rfl
        | true => exact absurd y hD
      have hnb : ¬ jm_b md i = true := fun y => hD (hbit.symm.trans y)
      obtain ⟨a, b, c, e, g, f1, f2, f3, f4, f5, f6⟩ := jl_body (post := post) (L := L) (xs := xs) (x2 := x2) (x16 := x16) (kc := kc) (ks := ks) (lim := lim) (keep := keep) (sub := sub) (clk := clk) (sta := sta) (ff := ff) (rt := rt) (rs := rs) (lv := lv) (sp := sp) (du := du) (fa := fa) (np := np) (op := op) (st := st) (sa := sa) (fi := fi) (re := re) hN hM hS hiN
      by_cases ha : a = 0
      · obtain ⟨md', mr', mf', ms', mu', Dn', ex', k1, k2, k3, k4, k5⟩ := ih (i + 1) (by omega) md mr mf ms mu Dn ex hM hJ
        refine ⟨md', mr', mf', ms', mu', Dn', ex', k1, k2, k3, fun t h1 h2 h3 => ?_, fun J f z => br_f hge (jm_bit (by omega) (fun y => absurd y hnb) (fun _ => br_t rfl (f6 _ _ (br_t ha (nm_r (nI_1 i) (k5 J f z))))))⟩
        by_cases y : t = i
        · subst y
          obtain ⟨p, hp, hX, hd⟩ := f1.mp ha
          exact absurd (h3 p hp hX) hd
        · exact k4 t (by omega) h2 h3
      · have hx : ∀ p, p < N → jq_X N sub lv np op i p → Dn p = true := fun p hp hX => Classical.byContradiction (fun y => ha (f1.mpr ⟨p, hp, hX, y⟩))
        obtain ⟨w, md1, mr1, mf1, ms1, mu1, g1, g2, g3⟩ := jl_601 (post := post) (L := L) (xs := xs) (x2 := x2) (x16 := x16) (kc := kc) (ks := ks) (lim := lim) (keep := keep) (sub := sub) (clk := clk) (sta := sta) (ff := ff) (rt := rt) (rs := rs) (lv := lv) (sp := sp) (du := du) (fa := fa) (np := np) (op := op) (st := st) (sa := sa) (fi := fi) (re := re) hN hM hiN hDf (hdu i hiN) ha hx f2 f3 f4 f5
        obtain ⟨md', mr', mf', ms', mu', Dn', ex', k1, k2, k3, k4, k5⟩ := ih (i + 1) (by omega) md1 mr1 mf1 ms1 mu1 _ _ g1 (jm_Ja hJ hDf hx g2)
        have up : ∀ p, Dn p = true → (Dn p || decide (p = i)) = true := fun p z => by rw [z, Bool.true_or]
        refine ⟨md', mr', mf', ms', mu', Dn', ex', k1, k2, fun t ht z => k3 t ht (up t z), fun t h1 h2 h3 => ?_, fun J f z => br_f hge (jm_bit (by omega) (fun y => absurd y hnb) (fun _ => br_t rfl (f6 _ _ (g3 _ _ (k5 J f z)))))⟩
        by_cases y : t = i
        · subst y
          exact k3 t h2 (by rw [decide_eq_true (show t = t from rfl), Bool.or_true])
        · exact k4 t (by omega) h2 (fun p hp hX => up p (h3 p hp hX))
/-- all passes; H: what comes behind them -/
theorem jl_316 (hN : N ≤ 16) (hS : ja_S N sub) (hdu : ∀ t, t < N → ∃ k, k ≤ 15 ∧ du t = nI k) (K : jq_K N (jq_X N sub lv np op)) (H : ∀ (md mr mf ms mu : Int64) (Dn : Nat → Bool) (ex : Nat → Int32), jm_M N Dn ex md mr mf ms mu → (∀ t, t < N → Dn t = true) → (∀ t, t < N → jq_L N sub lv sp fa np op ex t) → wpX_start (fun _ u => match u with | (b1, b2, b3, b4, b5, b6, b7, b8, b9, c1, c2, c3, c4, c5, c6, c7, c8, c9, c10) => ∃ fu755 : Nat, wL_law_755 post L xs (nI N) x2 mr mf ms mu kc ks fu755 0 0 0 0 b1 b2 b3 b4 b5 b6 b7 b8 b9 c1 c2 c3 c4 c5 c6 c7 c8 c9 c10) (ja_T N lim keep sub clk sta ff rt rs lv sp du fa np op st sa fi re)) : ∀ e r, r + e = N + 1 → ∀ (md mr mf ms mu : Int64) (Dn : Nat → Bool) (ex : Nat → Int32), jm_M N Dn ex md mr mf ms mu → jm_J N sub lv sp fa np op Dn ex → ((∀ t, t < N → Dn t = true) ∨ r ≤ jc_n Dn N) → wL_law_316 post L xs (nI N) x2 sub kc ks (nI N) lim keep sub clk sta ff rt rs lv sp du fa np op st sa fi re (e + 1) md mr mf ms mu (nI r) := by
  intro e
  induction e with
  | zero =>
    intro r hr md mr mf ms mu Dn ex hM hJ hP
    have e : r = N + 1 := by omega
    subst e
    have all := jq_all hP (by omega)
    exact br_t (nI_lt (by omega) (by omega)) (H md mr mf ms mu Dn ex hM all (fun t ht => (hJ t ht (all t ht)).2))
  | succ e ih =>
    intro r hr md mr mf ms mu Dn ex hM hJ hP
    obtain ⟨md', mr', mf', ms', mu', Dn', ex', k1, k2, k3, k4, k5⟩ := jl_325 (post := post) (L := L) (xs := xs) (x2 := x2) (x16 := nI r) (kc := kc) (ks := ks) (lim := lim) (keep := keep) (sub := sub) (clk := clk) (sta := sta) (ff := ff) (rt := rt) (rs := rs) (lv := lv) (sp := sp) (du := du) (fa := fa) (np := np) (op := op) (st := st) (sa := sa) (fi := fi) (re := re) hN hS hdu N 0 (by omega) md mr mf ms mu Dn ex hM hJ
    have hP' := jq_pass K hP k3 (fun t ht h => k4 t (Nat.zero_le _) ht h)
    refine br_f (nI_nlt (by omega) (by omega)) ⟨1 + N, k5 _ 1 (br_t (nI_le (Nat.le_refl _) (by omega)) (nm_r (nI_1 r) ?_))⟩
    exact ih (r + 1) (by omega) md' mr' mf' ms' mu' Dn' ex' k1 k2 hP'
end
section
-- p18: sums and counts of a look
def jm_s (P : Nat → Bool) (g : Nat → Int64) : Nat → Int64
  | 0 => 0
  | n + 1 => if P n = true then jm_s P g n + g n else jm_s P g n
theorem jm_st {P : Nat → Bool} {g : Nat → Int64} {n : Nat} (h : P n = true) : jm_s P g (n + 1) = jm_s P g n + g n := if_pos h
theorem jm_sf {P : Nat → Bool} {g : Nat → Int64} {n : Nat} (h : ¬ P n = true) : jm_s P g (n + 1) = jm_s P g n := if_neg h
theorem jm_sc {P : Nat → Bool} {g g' : Nat → Int64} : ∀ n, (∀ i, i < n → P i = true → g i = g' i) → jm_s P g n = jm_s P g' n := by
  intro n
  induction n with
  | zero => intro _; rfl
  | succ n ih =>
    intro h
    have e := ih (fun i hi => h i (by omega))
    by_cases p : P n = true
    · rw [jm_st p, jm_st p, e, h n (by omega) p]
    · rw [jm_sf p, jm_sf p, e]
theorem jm_sa {P A B : Nat → Bool} {g : Nat → Int64} : ∀ n, (∀ i, i < n → (P i = true ↔ (A i = true ∨ B i = true)) ∧ ¬ (A i = true ∧ B i = true)) → jm_s P g n = jm_s A g n + jm_s B g n := by
  intro n
  induction n with
  | zero => intro _; rfl
  | succ n ih =>
    intro h
    have e := ih (fun i hi => h i (by omega))
    obtain ⟨h1, h2⟩ := h n (by omega)
    by_cases a : A n = true
    · have b : ¬ B n = true := fun b => h2 ⟨a, b⟩
      rw [jm_st (h1.mpr (.inl a)), jm_st a, jm_sf b, e]
      generalize jm_s A g n = x
      generalize jm_s B g n = y
      generalize g n = z
      grind
    · by_cases b : B n = true
      · rw [jm_st (h1.mpr (.inr b)), jm_st b, jm_sf a, e]
        generalize jm_s A g n = x
        generalize jm_s B g n = y
        generalize g n = z
        grind
      · have p : ¬ P n = true := fun p => (h1.mp p).elim a b
        rw [jm_sf p, jm_sf a, jm_sf b, e]
theorem jc_e {P : Nat → Bool} : ∀ n, 0 < jc_n P n → ∃ t, t < n ∧ P t = true := by
  intro n
  induction n with
  | zero => intro h; exact absurd h (Nat.lt_irrefl 0)
  | succ n ih =>
    intro h
    cases p : P n with
    | true => exact ⟨n, by omega, p⟩
    | false =>
      rw [jc_sf p] at h
      obtain ⟨t, ht, hp⟩ := ih h
      exact ⟨t, by omega, hp⟩
/-- RUNNING, and not the sub-make target -/
def jq_rn (st lv : Nat → Int32) (t : Nat) : Bool := decide (st t = 1) && !decide (lv t = 2)
theorem jq_rs {st lv : Nat → Int32} : ∀ n, jc_n (jq_rn st lv) n ≤ jc_n (ja_r st lv false) n + jc_n (ja_r st lv true) n ∧ ((∃ s, s < n ∧ st s = 1 ∧ lv s = 2) → jc_n (jq_rn st lv) n + 1 ≤ jc_n (ja_r st lv false) n + jc_n (ja_r st lv true) n) := by
  intro n
  induction n with
  | zero => exact ⟨Nat.le_refl _, fun ⟨s, hs, _⟩ => by omega⟩
  | succ n ih =>
    by_cases h1 : st n = 1
    · by_cases h2 : lv n = 2
      · have a : jq_rn st lv n = false := by unfold jq_rn; rw [decide_eq_true h2, Bool.not_true, Bool.and_false]
        have b : ja_r st lv false n = true := by
          unfold ja_r
          rw [decide_eq_true h1, decide_eq_false (by rw [h2]; decide)]
          rfl
        have c := Nat.le_of_lt_succ (Nat.lt_succ_of_le (jc_mo (P := ja_r st lv true) (Q := ja_r st lv true) n (fun _ _ z => z)))
        rw [jc_sf a, jc_st b, jc_s (ja_r st lv true)]
        exact ⟨by omega, fun _ => by omega⟩
      · have a : jq_rn st lv n = true := by unfold jq_rn; rw [decide_eq_true h1, decide_eq_false h2]; rfl
        by_cases h3 : lv n = 1
        · have b : ja_r st lv true n = true := by unfold ja_r; rw [decide_eq_true h1, decide_eq_true h3]; rfl
          rw [jc_st a, jc_st b, jc_s (ja_r st lv false)]
          refine ⟨by omega, fun ⟨s, hs, z1, z2⟩ => ?_⟩
          have hs' : s < n := by
            rcases Nat.lt_or_ge s n with y | y
            · exact y
            · have e : s = n := by omega
              subst e
              exact absurd z2 h2
          have := ih.2 ⟨s, hs', z1, z2⟩
          omega
        · have b : ja_r st lv false n = true := by unfold ja_r; rw [decide_eq_true h1, decide_eq_false h3]; rfl
          rw [jc_st a, jc_st b, jc_s (ja_r st lv true)]
          refine ⟨by omega, fun ⟨s, hs, z1, z2⟩ => ?_⟩
          have hs' : s < n := by
            rcases Nat.lt_or_ge s n with y | y
            · exact y
            · have e : s = n := by omega
              subst e
              exact absurd z2 h2
          have := ih.2 ⟨s, hs', z1, z2⟩
          omega
    · have a : jq_rn st lv n = false := by unfold jq_rn; rw [decide_eq_false h1, Bool.false_and]
      rw [jc_sf a, jc_sf (ja_r_n h1), jc_sf (ja_r_n h1)]
      refine ⟨ih.1, fun ⟨s, hs, z1, z2⟩ => ih.2 ⟨s, ?_, z1, z2⟩⟩
      rcases Nat.lt_or_ge s n with y | y
      · exact y
      · have e : s = n := by omega
        subst e
        exact absurd z1 h1
theorem jq_rb {N Lm : Nat} {sub clk : Int32} {lv sp0 fa np op ex sa0 st sp sa : Nat → Int32} (h1 : 1 ≤ Lm) (h2 : ∀ s, s < N → sub = nI s → lv s = 2) (V : jq_V N Lm sub clk lv sp0 fa np op ex sa0 st sp sa) : jc_n (jq_rn st lv) N ≤ Lm := by
  have T := V.2.1
  unfold jq_T at T
  have q := jq_rs (st := st) (lv := lv) N
  rcases Nat.eq_zero_or_pos (jc_n (ja_r st lv true) N) with z | z
  · have := q.1
    omega
  · obtain ⟨t, ht, y⟩ := jc_e N z
    unfold ja_r at y
    rw [Bool.and_eq_true, decide_eq_true_eq] at y
    have hl : lv t = 1 := by
      by_cases w : lv t = 1
      · exact w
      · rw [decide_eq_false w] at y
        exact absurd y.2 (by decide)
    obtain ⟨s, hs, e, w⟩ := (V.1.2.1 t ht y.1).2.2.2 hl
    have := q.2 ⟨s, hs, w, h2 s hs e⟩
    omega
-- the masks and sums of start times
def jq_g (sa : Nat → Int32) (t : Nat) : Int64 := (nI t + 1).toInt64 * (sa t).toInt64
def jq_P (sa : Nat → Int32) (t : Nat) : Bool := decide (0 ≤ sa t)
def jq_Q (sa0 sa : Nat → Int32) (t : Nat) : Bool := !jq_P sa0 t && jq_P sa t
theorem jq_Pt {sa : Nat → Int32} {t : Nat} : jq_P sa t = true ↔ 0 ≤ sa t := by unfold jq_P; rw [decide_eq_true_eq]
theorem jq_Qt {sa0 sa : Nat → Int32} {t : Nat} : jq_Q sa0 sa t = true ↔ (¬ 0 ≤ sa0 t ∧ 0 ≤ sa t) := by
  unfold jq_Q
  rw [Bool.and_eq_true, jq_Pt, Bool.not_eq_true', ← Bool.not_eq_true, jq_Pt]
theorem jq_n1 : ¬ (0 : Int32) ≤ -1 := by decide
/-- what a look sees of one target's start time -/
theorem jq_see {N Lm : Nat} {sub clk : Int32} {lv sp0 fa np op ex sa0 st sp sa : Nat → Int32} {t : Nat} (V : jq_V N Lm sub clk lv sp0 fa np op ex sa0 st sp sa) (ht : t < N) : (0 ≤ sa0 t → sa t = sa0 t) ∧ (¬ 0 ≤ sa0 t → 0 ≤ sa t → sa t = clk) := by
  rcases V.2.2.2.2 t ht with c | c
  · exact ⟨fun _ => c, fun h1 h2 => absurd (by rw [← c]; exact h2) h1⟩
  · exact ⟨fun h => absurd (by rw [← c.1]; exact h) jq_n1, fun _ _ => c.2⟩
theorem jq_PQ {N Lm : Nat} {sub clk : Int32} {lv sp0 fa np op ex sa0 st sp sa : Nat → Int32} {t : Nat} (V : jq_V N Lm sub clk lv sp0 fa np op ex sa0 st sp sa) (ht : t < N) : (jq_P sa t = true ↔ (jq_P sa0 t = true ∨ jq_Q sa0 sa t = true)) ∧ ¬ (jq_P sa0 t = true ∧ jq_Q sa0 sa t = true) := by
  rw [jq_Pt, jq_Pt, jq_Qt]
  have q := jq_see V ht
  refine ⟨⟨fun h => ?_, fun h => ?_⟩, fun h => h.2.1 h.1⟩
  · by_cases z : 0 ≤ sa0 t
    · exact .inl z
    · exact .inr ⟨z, h⟩
  · rcases h with h | h
    · rw [q.1 h]; exact h
    · exact h.2
theorem jq_sum {N Lm : Nat} {sub clk : Int32} {lv sp0 fa np op ex sa0 st sp sa : Nat → Int32} (V : jq_V N Lm sub clk lv sp0 fa np op ex sa0 st sp sa) : jm_s (jq_P sa0) (jq_g sa) N = jm_s (jq_P sa0) (jq_g sa0) N ∧ jm_s (jq_P sa) (jq_g sa) N = jm_s (jq_P sa0) (jq_g sa0) N + jm_s (jq_Q sa0 sa) (jq_g sa) N := by
  have e : jm_s (jq_P sa0) (jq_g sa) N = jm_s (jq_P sa0) (jq_g sa0) N := jm_sc N (fun i hi h => by
    unfold jq_g
    rw [(jq_see V hi).1 (jq_Pt.mp h)])
  exact ⟨e, by rw [← e]; exact jm_sa N (fun i hi => jq_PQ V hi)⟩
end
section
-- p18: the law's steps
variable {N Lm : Nat} {sub clk sta ff : Int32} {lv sp0 sp du fa np op st sa fi re ex sa0 : Nat → Int32} {post : Int32 → Prop} {L : Nat} {xs : Nat → Int32} {mr mf ms mu : Int64} {kc ks : Nat} {x16 : Int32} {x17 x19 : Int64} {x21 : Int32}
/-- every prerequisite of what has started is REMADE or UPTODATE -/
theorem jl_910 {J755 : Int32 → Int64 → Int64 → Int32 → Int32 → Int32 → Int32 → Int32 → Int32 → Int32 → Int32 → Int32 → Int32 → (Nat → Int32) → (Nat → Int32) → (Nat → Int32) → (Nat → Int32) → (Nat → Int32) → (Nat → Int32) → (Nat → Int32) → (Nat → Int32) → (Nat → Int32) → (Nat → Int32) → Prop} {J816 : Int32 → Int64 → Int64 → Int64 → Int32 → Prop} {x22 x30 : Int32} {x23 x25 x27 x31 : Int64} {t : Nat} (hN : N ≤ 16) (ht : t < N) (hB : ∀ p, p < N → ja_E np op t p → st p = 2 ∨ st p = 3) (H : J816 x22 x23 (x25 ||| x31) (x27 + (nI t + 1).toInt64 * x30.toInt64) (nI (t + 1))) : ∀ d i, i + d = N → wL_law_910 post L xs J755 J816 (nI N) (nI Lm) mr mf ms mu x16 x17 x19 x21 x22 x23 x25 x27 (nI t) x30 x31 kc ks (nI N) (nI Lm) 1 sub clk sta ff (nI (jc_n (ja_r st lv false) N)) (nI (jc_n (ja_r st lv true) N)) lv sp du fa np op st sa fi re (d + 1) (nI i) := by
  intro d
  induction d with
  | zero =>
    intro i hi
    have e : i = N := by omega
    subst e
    exact br_t (nI_le (Nat.le_refl _) (by omega)) (nm_e (nm_e (nm_r (nI_1 t) H)))
  | succ d ih =>
    intro i hi
    have hiN : i < N := by omega
    have z := ih (i + 1) (by omega)
    refine br_f (nI_ge (by omega) (by omega)) (jx_prereqKind (by omega) ht hiN ?_)
    by_cases hE : ja_E np op t i
    · refine br_f (ja_kn.mpr hE) (jx_status (by omega) hiN ?_)
      rcases hB i hiN hE with h | h
      · exact br_t h (nm_r (nI_1 i) z)
      · exact br_f (by rw [h]; decide) (br_t h (nm_r (nI_1 i) z))
    · exact br_t (Classical.byContradiction (fun y => hE (ja_kn.mp y))) (nm_r (nI_1 i) z)
/-- at the end each status is the expected one -/
theorem jl_1027 {J755 : Int32 → Int64 → Int64 → Int32 → Int32 → Int32 → Int32 → Int32 → Int32 → Int32 → Int32 → Int32 → Int32 → (Nat → Int32) → (Nat → Int32) → (Nat → Int32) → (Nat → Int32) → (Nat → Int32) → (Nat → Int32) → (Nat → Int32) → (Nat → Int32) → (Nat → Int32) → (Nat → Int32) → Prop} {md : Int64} {stp : Nat} (hN : N ≤ 16) (hM : jm_M N (fun _ => true) ex md mr mf ms mu) (hex : ∀ t, t < N → ex t = 2 ∨ ex t = 3 ∨ ex t = 4 ∨ ex t = 5) (hst : ∀ t, t < N → st t = ex t) (H : J755 x16 x17 x19 (nI (stp + 1)) (nI N) (nI Lm) 1 sub clk sta ff (nI (jc_n (ja_r st lv false) N)) (nI (jc_n (ja_r st lv true) N)) lv sp du fa np op st sa fi re) : ∀ d i, i + d = N → wL_law_1027 post L xs J755 (nI N) (nI Lm) mr mf ms mu x16 x17 x19 (nI stp) kc ks (nI N) (nI Lm) 1 sub clk sta ff (nI (jc_n (ja_r st lv false) N)) (nI (jc_n (ja_r st lv true) N)) lv sp du fa np op st sa fi re (d + 1) (nI i) := by
  intro d
  induction d with
  | zero =>
    intro i hi
    have e : i = N := by omega
    subst e
    exact br_t (nI_le (Nat.le_refl _) (by omega)) (nm_r (nI_1 stp) H)
  | succ d ih =>
    intro i hi
    have hiN : i < N := by omega
    have z := ih (i + 1) (by omega)
    obtain ⟨_, br, bf, bs, bu⟩ := hM i hiN
    rw [Bool.true_and] at br bf bs bu
    have fin : ∀ w : Int32, ex i = w → wL_law_1091 post L xs J755 (wL_law_1027 post L xs J755 (nI N) (nI Lm) mr mf ms mu x16 x17 x19 (nI stp) kc ks (nI N) (nI Lm) 1 sub clk sta ff (nI (jc_n (ja_r st lv false) N)) (nI (jc_n (ja_r st lv true) N)) lv sp du fa np op st sa fi re (d + 1)) (nI N) (nI Lm) mr mf ms mu x16 x17 x19 (nI stp) (nI i) w kc ks (nI N) (nI Lm) 1 sub clk sta ff (nI (jc_n (ja_r st lv false) N)) (nI (jc_n (ja_r st lv true) N)) lv sp du fa np op st sa fi re := fun w e => by
      unfold wL_law_1091
      refine jx_status (by omega) hiN ?_
      exact br_t ((hst i hiN).trans e) (nm_r (nI_1 i) z)
    have yes : ∀ {m : Int64} {w : Int32}, jm_b m i = decide (ex i = w) → ex i = w → jm_b m i = true := fun a b => by rw [a]; exact decide_eq_true b
    have no : ∀ {m : Int64} {w : Int32}, jm_b m i = decide (ex i = w) → ¬ ex i = w → ¬ jm_b m i = true := fun a b => by rw [a, decide_eq_false b]; decide
    refine br_f (nI_ge (by omega) (by omega)) ?_
    rcases hex i hiN with e | e | e | e
    · exact jm_bit (by omega) (fun _ => br_f ja_i1 (fin 2 e)) (fun y => absurd (yes br e) y)
    · have n2 : ¬ ex i = 2 := by rw [e]; decide
      exact jm_bit (by omega) (fun y => absurd y (no br n2)) (fun _ => br_t rfl (jm_bit (by omega) (fun _ => br_f ja_i1 (fin 3 e)) (fun y => absurd (yes bu e) y)))
    · have n2 : ¬ ex i = 2 := by rw [e]; decide
      have n3 : ¬ ex i = 3 := by rw [e]; decide
      exact jm_bit (by omega) (fun y => absurd y (no br n2)) (fun _ => br_t rfl (jm_bit (by omega) (fun y => absurd y (no bu n3)) (fun _ => br_t rfl (jm_bit (by omega) (fun _ => br_f ja_i1 (fin 4 e)) (fun y => absurd (yes bf e) y)))))
    · have n2 : ¬ ex i = 2 := by rw [e]; decide
      have n3 : ¬ ex i = 3 := by rw [e]; decide
      have n4 : ¬ ex i = 4 := by rw [e]; decide
      exact jm_bit (by omega) (fun y => absurd y (no br n2)) (fun _ => br_t rfl (jm_bit (by omega) (fun y => absurd y (no bu n3)) (fun _ => br_t rfl (jm_bit (by omega) (fun y => absurd y (no bf n4)) (fun _ => br_t rfl (jm_bit (by omega) (fun _ => br_f ja_i1 (fin 5 e)) (fun y => absurd (yes bs e) y)))))))
/-- a look -/
theorem jl_816 {J755 : Int32 → Int64 → Int64 → Int32 → Int32 → Int32 → Int32 → Int32 → Int32 → Int32 → Int32 → Int32 → Int32 → (Nat → Int32) → (Nat → Int32) → (Nat → Int32) → (Nat → Int32) → (Nat → Int32) → (Nat → Int32) → (Nat → Int32) → (Nat → Int32) → (Nat → Int32) → (Nat → Int32) → Prop} {md : Int64} {stp : Nat} (hN : N ≤ 16) (hLm : Lm ≤ 8) (hLm1 : 1 ≤ Lm) (hM : jm_M N (fun _ => true) ex md mr mf ms mu) (hL : ∀ t, t < N → jq_L N sub lv sp0 fa np op ex t) (h2 : ∀ s, s < N → sub = nI s → lv s = 2) (V : jq_V N Lm sub clk lv sp0 fa np op ex sa0 st sp sa) (h17 : ∀ t, t < N → jm_b x17 t = jq_P sa0 t) (h19 : x19 = jm_s (jq_P sa0) (jq_g sa0) N) (H : ∀ x17' x19' : Int64, (∀ t, t < N → jm_b x17' t = jq_P sa t) → x19' = jm_s (jq_P sa) (jq_g sa) N → J755 clk x17' x19' (nI (stp + 1)) (nI N) (nI Lm) 1 sub clk sta ff (nI (jc_n (ja_r st lv false) N)) (nI (jc_n (ja_r st lv true) N)) lv sp du fa np op st sa fi re) : ∀ d i, i + d = N → ∀ x25 : Int64, (∀ t, t < N → jm_b x25 t = (decide (t < i) && jq_Q sa0 sa t)) → wL_law_816 post L xs J755 (nI N) (nI Lm) mr mf ms mu clk x17 x19 (nI stp) kc ks (nI N) (nI Lm) 1 sub clk sta ff (nI (jc_n (ja_r st lv false) N)) (nI (jc_n (ja_r st lv true) N)) lv sp du fa np op st sa fi re (d + 1) (nI (jc_n (jq_rn st lv) i)) (jm_s (jq_P sa0) (jq_g sa) i) x25 (jm_s (jq_Q sa0 sa) (jq_g sa) i) (nI i) := by
  intro d
  induction d with
  | zero =>
    intro i hi x25 h25
    have e : i = N := by omega
    subst e
    have sm := jq_sum V
    have rb := jq_rb hLm1 h2 V
    have k17 : ∀ t, t < i → jm_b (x17 ||| x25) t = jq_P sa t := fun t ht => by
      rw [jm_or, h17 t ht, h25 t ht, decide_eq_true ht, Bool.true_and]
      have q := jq_PQ V ht
      cases a : jq_P sa t with
      | true =>
        rcases q.1.mp a with y | y
        · rw [y, Bool.true_or]
        · rw [y, Bool.or_true]
      | false =>
        cases b : jq_P sa0 t with
        | true => exact absurd (q.1.mpr (.inl b)) (by rw [a]; decide)
        | false =>
          cases c : jq_Q sa0 sa t with
          | true => exact absurd (q.1.mpr (.inr c)) (by rw [a]; decide)
          | false => rfl
    have k19 : x19 + jm_s (jq_Q sa0 sa) (jq_g sa) i = jm_s (jq_P sa) (jq_g sa) i := by rw [h19, sm.2]
    refine br_t (nI_le (Nat.le_refl _) (by omega)) (br_t (nI_le rb (by omega)) (br_t (by rw [sm.1, h19]) (nm_e (nm_e ?_))))
    refine jx_isQuiet (by omega) (fun y => br_f ja_i1 ⟨i + 1, ?_⟩) (fun _ => br_t rfl (nm_r (nI_1 stp) (H _ _ k17 k19)))
    refine jl_1027 hN hM (fun t ht => jq_ok (hL t ht)) (fun t ht => ?_) (H _ _ k17 k19) i 0 (by omega)
    rcases V.1.1 t ht with w | w | w
    · exact absurd ⟨t, ht, .inl w⟩ y.2
    · exact absurd ⟨t, ht, .inr w⟩ y.2
    · exact w.1
  | succ d ih =>
    intro i hi x25 h25
    have hiN : i < N := by omega
    have see := jq_see V hiN
    -- 845, for any number of running ones that is right
    have low : ∀ t, t < N → t ≠ i → decide (t < i) = decide (t < i + 1) := fun t _ h => by
      by_cases y : t < i
      · rw [decide_eq_true y, decide_eq_true (by omega)]
      · rw [decide_eq_false y, decide_eq_false (by omega)]
    have same : jq_Q sa0 sa i = false → ∀ t, t < N → jm_b x25 t = (decide (t < i + 1) && jq_Q sa0 sa t) := fun hq t ht => by
      rw [h25 t ht]
      by_cases y : t = i
      · subst y
        rw [hq, Bool.and_false, Bool.and_false]
      · rw [low t ht y]
    have k845 : wL_law_845 post L xs J755 (wL_law_816 post L xs J755 (nI N) (nI Lm) mr mf ms mu clk x17 x19 (nI stp) kc ks (nI N) (nI Lm) 1 sub clk sta ff (nI (jc_n (ja_r st lv false) N)) (nI (jc_n (ja_r st lv true) N)) lv sp du fa np op st sa fi re (d + 1)) (nI N) (nI Lm) mr mf ms mu clk x17 x19 (nI stp) (nI (jc_n (jq_rn st lv) (i + 1))) (jm_s (jq_P sa0) (jq_g sa) i) x25 (jm_s (jq_Q sa0 sa) (jq_g sa) i) (nI i) kc ks (nI N) (nI Lm) 1 sub clk sta ff (nI (jc_n (ja_r st lv false) N)) (nI (jc_n (ja_r st lv true) N)) lv sp du fa np op st sa fi re := by
      unfold wL_law_845
      refine jx_startedAt (by omega) hiN (nm_e ?_)
      by_cases hp : 0 ≤ sa0 i
      · have hb : ¬ (x17 &&& ((1 : Int64) <<< ((nI i).toInt64 &&& 63))) = 0 := fun y => by
          have w := (jm_a1 x17 (t := i) (by omega)).mp y
          rw [h17 i hiN, jq_Pt.mpr hp] at w
          exact absurd w (by decide)
        have hsa : 0 ≤ sa i := by rw [see.1 hp]; exact hp
        have hq : jq_Q sa0 sa i = false := by
          cases w : jq_Q sa0 sa i with
          | false => rfl
          | true => exact absurd hp (jq_Qt.mp w).1
        have z := ih (i + 1) (by omega) x25 (same hq)
        rw [jm_st (jq_Pt.mpr hp), jm_sf (by rw [hq]; decide)] at z
        exact br_f hb (br_t hsa (nm_e (nm_r (nI_1 i) z)))
      · have hb : (x17 &&& ((1 : Int64) <<< ((nI i).toInt64 &&& 63))) = 0 := by
          rw [jm_a1 x17 (by omega), h17 i hiN]
          cases w : jq_P sa0 i with
          | false => rfl
          | true => exact absurd (jq_Pt.mp w) hp
        refine br_t hb ?_
        by_cases hsa : 0 ≤ sa i
        · have hq : jq_Q sa0 sa i = true := jq_Qt.mpr ⟨hp, hsa⟩
          have z := ih (i + 1) (by omega) (x25 ||| ((1 : Int64) <<< ((nI i).toInt64 &&& 63))) (fun t ht => by
            rw [jm_o1 x25 (by omega) (by omega), h25 t ht]
            by_cases y : t = i
            · subst y
              rw [hq, decide_eq_true (show t = t from rfl), Bool.or_true, decide_eq_true (show t < t + 1 by omega)]
              rfl
            · rw [decide_eq_false y, Bool.or_false, low t ht y])
          rw [jm_sf (by rw [jq_Pt]; exact hp), jm_st hq] at z
          refine br_f (Int32.not_lt.mpr hsa) (br_t (see.2 hp hsa) ⟨N + 1, ?_⟩)
          exact jl_910 hN hiN (fun p hp' hE => V.2.2.2.1 i hiN hsa p hp' hE) z N 0 (by omega)
        · have hq : jq_Q sa0 sa i = false := by
            cases w : jq_Q sa0 sa i with
            | false => rfl
            | true => exact absurd (jq_Qt.mp w).2 hsa
          have z := ih (i + 1) (by omega) x25 (same hq)
          rw [jm_sf (by rw [jq_Pt]; exact hp), jm_sf (by rw [hq]; decide)] at z
          exact br_t (Int32.not_le.mp hsa) (nm_r (nI_1 i) z)
    refine br_f (nI_ge (by omega) (by omega)) (jx_status (by omega) hiN ?_)
    by_cases h1 : st i = 1
    · refine br_t h1 (jx_level (by omega) hiN ?_)
      by_cases hl : lv i = 2
      · have a : jq_rn st lv i = false := by unfold jq_rn; rw [decide_eq_true hl, Bool.not_true, Bool.and_false]
        rw [jc_sf a] at k845
        exact br_t hl k845
      · have a : jq_rn st lv i = true := by unfold jq_rn; rw [decide_eq_true h1, decide_eq_false hl]; rfl
        rw [jc_st a] at k845
        exact br_f hl (nm_r (nI_1 _) k845)
    · have a : jq_rn st lv i = false := by unfold jq_rn; rw [decide_eq_false h1, Bool.false_and]
      rw [jc_sf a] at k845
      exact br_f h1 k845
theorem jl_792 {J755 : Int32 → Int64 → Int64 → Int32 → Int32 → Int32 → Int32 → Int32 → Int32 → Int32 → Int32 → Int32 → Int32 → (Nat → Int32) → (Nat → Int32) → (Nat → Int32) → (Nat → Int32) → (Nat → Int32) → (Nat → Int32) → (Nat → Int32) → (Nat → Int32) → (Nat → Int32) → (Nat → Int32) → Prop} {md : Int64} {stp : Nat} (hN : N ≤ 16) (hLm : Lm ≤ 8) (hLm1 : 1 ≤ Lm) (hM : jm_M N (fun _ => true) ex md mr mf ms mu) (hL : ∀ t, t < N → jq_L N sub lv sp0 fa np op ex t) (h2 : ∀ s, s < N → sub = nI s → lv s = 2) (V : jq_V N Lm sub clk lv sp0 fa np op ex sa0 st sp sa) (h17 : ∀ t, t < N → jm_b x17 t = jq_P sa0 t) (h19 : x19 = jm_s (jq_P sa0) (jq_g sa0) N) (H : ∀ x17' x19' : Int64, (∀ t, t < N → jm_b x17' t = jq_P sa t) → x19' = jm_s (jq_P sa) (jq_g sa) N → J755 clk x17' x19' (nI (stp + 1)) (nI N) (nI Lm) 1 sub clk sta ff (nI (jc_n (ja_r st lv false) N)) (nI (jc_n (ja_r st lv true) N)) lv sp du fa np op st sa fi re) : wL_law_792 post L xs J755 (nI N) (nI Lm) mr mf ms mu clk x17 x19 (nI stp) kc ks (nI N) (nI Lm) 1 sub clk sta ff (nI (jc_n (ja_r st lv false) N)) (nI (jc_n (ja_r st lv true) N)) lv sp du fa np op st sa fi re := by
  unfold wL_law_792
  refine jx_tokensFree (Nat.le_trans (jc_le _ N) (by omega)) (Nat.le_trans (jc_le _ N) (by omega)) ?_
  rw [jq_fr0 V.2.1]
  refine br_t (nI_pos' (by omega)) ⟨N + 1, ?_⟩
  exact jl_816 hN hLm hLm1 hM hL h2 V h17 h19 H N 0 (by omega) 0 (fun t _ => by rw [jm_0, decide_eq_false (by omega), Bool.false_and])
/-- the steps behind the first look -/
theorem jl_755 {md : Int64} (hN : N ≤ 16) (hLm : Lm ≤ 8) (hLm1 : 1 ≤ Lm) (hS : ja_S N sub) (G : jq_G N sub lv sp0 np op) (hM : jm_M N (fun _ => true) ex md mr mf ms mu) (hL : ∀ t, t < N → jq_L N sub lv sp0 fa np op ex t) (h2 : ∀ s, s < N → sub = nI s → lv s = 2) (hp : post 1) : ∀ d stp, stp + d = 800 → 1 ≤ stp → ∀ (c : Nat) (ff : Int32) (sp st sa fi re : Nat → Int32) (x17 x19 : Int64), c ≤ stp → jq_V N Lm sub (nI c) lv sp0 fa np op ex sa st sp sa → (∀ t, t < N → jm_b x17 t = jq_P sa t) → x19 = jm_s (jq_P sa) (jq_g sa) N → wL_law_755 post L xs (nI N) (nI Lm) mr mf ms mu kc ks (d + 1) (nI c) x17 x19 (nI stp) (nI N) (nI Lm) 1 sub (nI c) 1 ff (nI (jc_n (ja_r st lv false) N)) (nI (jc_n (ja_r st lv true) N)) lv sp du fa np op st sa fi re := by
  intro d
  induction d with
  | zero =>
    intro stp hs _ c ff sp st sa fi re x17 x19 _ _ _ _
    have e : stp = 800 := by omega
    subst e
    exact br_t (nI_le (Nat.le_refl _) (by omega)) hp
  | succ d ih =>
    intro stp hs h1 c ff sp st sa fi re x17 x19 hc V h17 h19
    refine br_f (nI_ge (b := 800) (by omega) (by omega)) (br_f (nI_nle (by omega) (by omega)) ?_)
    by_cases hq : ∃ t, t < N ∧ ja_und st t
    · obtain ⟨m, ff', sp', st', sa', fi', re', k0, k1, k2⟩ := jp_tick (sta := 1) (ff := ff) (du := du) (fi := fi) (re := re) (cl := c) (by omega) hLm hS G hL (by decide) hq V
      refine jx_isQuiet (by omega) (fun y => absurd hq y.2) (fun _ => br_t rfl (k2 _ ?_))
      refine br_f (nI_pos (by omega)) (nm_r (nI_1 c) ?_)
      exact jl_792 hN hLm hLm1 hM hL h2 k1 h17 h19 (fun x17' x19' a b => ih (stp + 1) (by omega) (by omega) (c + 1) ff' sp' st' sa' fi' re' x17' x19' (by omega) (jq_Vn k1) a b)
    · exact jx_isQuiet (by omega) (fun _ => br_f ja_i1 hp) (fun y => absurd ⟨by decide, hq⟩ y)
end
section
-- p18: the constructor, the setup, the top
def jz_f (x : Int32) (i : Nat) : Nat → Int32 := fun j => if j < i then x else 0
theorem jz_0 (x : Int32) : jz_f x 0 = fun _ => 0 := by
  funext j
  exact if_neg (by omega)
theorem jz_s (x : Int32) (i : Nat) : upd (jz_f x i) i x = jz_f x (i + 1) := by
  funext j
  unfold jz_f
  by_cases e : j = i
  · subst e
    rw [pk_us, if_pos (by omega)]
  · rw [pk_un e]
    by_cases h : j < i
    · rw [if_pos h, if_pos (by omega)]
    · rw [if_neg h, if_neg (by omega)]
theorem jz_u (i : Nat) : upd (fun _ => 0) i 0 = fun _ => 0 := ja_u0 rfl
theorem jz_X {r1 r2 kp : Int32} {mc ms kc ks : Nat} (post : St2 → Prop) : ∀ d i, i + d = 32 → ∀ f, wX_init_152 post mc ms kc ks r1 r2 kp (-1) 0 0 0 0 0 f (nI 32) (fun _ => 0) (fun _ => 0) (jz_f 1 32) (fun _ => 0) (fun _ => 0) (fun _ => 0) (fun _ => 0) (jz_f (-1) 32) (jz_f (-1) 32) (fun _ => 0) → wX_init_152 post mc ms kc ks r1 r2 kp (-1) 0 0 0 0 0 (f + d) (nI i) (fun _ => 0) (fun _ => 0) (jz_f 1 i) (fun _ => 0) (fun _ => 0) (fun _ => 0) (fun _ => 0) (jz_f (-1) i) (jz_f (-1) i) (fun _ => 0) := by
  intro d
  induction d with
  | zero =>
    intro i hi f z
    have e : i = 32 := by omega
    subst e
    exact z
  | succ d ih =>
    intro i hi f z
    have hin : vp_in (nI i) 32 := vp_in_nI (by omega) (by omega)
    have hcl : (nI i).toNatClampNeg = i := nI_clamp (by omega)
    refine br_f (nI_ge (b := 32) (by omega) (by omega)) ⟨hin, nm_r (by rw [hcl, jz_u]) ⟨hin, nm_r (by rw [hcl, jz_s]) ⟨hin, nm_r (by rw [hcl, jz_u]) ⟨hin, nm_r (by rw [hcl, jz_s]) ⟨hin, nm_r (by rw [hcl, jz_s]) (nm_r (nI_1 i) ?_)⟩⟩⟩⟩⟩
    exact ih (i + 1) (by omega) f z
theorem jp_init {N Lm : Nat} (hN1 : 1 ≤ N) (hN : N ≤ 32) (hL1 : 1 ≤ Lm) (hL : Lm ≤ 8) (post : St2 → Prop) (h : post (ja_T N (nI Lm) 1 (-1) 0 0 0 0 0 (fun _ => 0) (fun _ => 0) (jz_f 1 32) (fun _ => 0) (fun _ => 0) (fun _ => 0) (fun _ => 0) (jz_f (-1) 32) (jz_f (-1) 32) (fun _ => 0))) : wpX_init post 10 320 (0, 0, 0, 0, 0, 0, 0, 0, 0) (nI N) (nI Lm) 1 := by
  have z := jz_X (r1 := nI N) (r2 := nI Lm) (kp := 1) (mc := 10) (ms := 320) (kc := 10) (ks := 320) post 32 0 rfl 1 (br_t (nI_le (Nat.le_refl _) (by omega)) h)
  rw [jz_0, jz_0] at z
  refine ⟨by omega, by omega, by omega, by omega, by omega, by omega, by omega, by omega, by omega, by omega, by omega, by omega, by omega, by omega, by omega, by omega, by omega, by omega, by omega, by omega, ?_⟩
  exact br_t (nI_le (a := 1) hN1 (by omega)) (br_t (nI_le (b := 32) hN (by omega)) (br_t (nI_le (a := 1) hL1 (by omega)) (br_t (nI_le (b := 8) hL (by omega)) (br_f (by decide) ⟨_, z⟩))))
theorem jl_cell {post : Int32 → Prop} {L : Nat} {xs : Nat → Int32} {x : Int32} (k : Nat) (hk : k < 2 ^ 31) (hL : L ≤ 260) (e : x = nI k) (h : ∀ v, post v) : wpL_cell post L xs () x := by
  subst e
  by_cases y : L ≤ k
  · exact br_t (nI_le y hk) (h 0)
  · exact br_f (nI_ge (by omega) (by omega)) ⟨vp_in_nI (by omega) (by omega), h _⟩
variable {N Lm : Nat} {sub : Int32} {lv sp du fa np op : Nat → Int32} {post : Int32 → Prop} {L : Nat} {xs : Nat → Int32} {kc ks : Nat}
def jq_du (N : Nat) (du : Nat → Int32) : Prop := ∀ t, t < N → ∃ k, k ≤ 15 ∧ du t = nI k
theorem jl_272 (hN : N ≤ 16) (U : jq_U N sub lv sp fa np op) (H : ∃ n, wL_law_316 post L xs (nI N) (nI Lm) sub kc ks (nI N) (nI Lm) 1 sub 0 0 0 0 0 lv sp du fa np op (fun _ => 0) (jz_f (-1) 32) (jz_f (-1) 32) (fun _ => 0) n 0 0 0 0 0 0) : ∀ d i, i + d = N → ∀ x5 : Int32, (x5 = sub ∨ (x5 = -1 ∧ ∀ t, t < i → ¬ sub = nI t)) → wL_law_272 post L xs (nI N) (nI Lm) kc ks (nI N) (nI Lm) 1 sub 0 0 0 0 0 lv sp du fa np op (fun _ => 0) (jz_f (-1) 32) (jz_f (-1) 32) (fun _ => 0) (d + 1) x5 (nI i) := by
  intro d
  induction d with
  | zero =>
    intro i hi x5 h
    have e : i = N := by omega
    subst e
    have e5 : x5 = sub := by
      rcases h with h | ⟨h, hn⟩
      · exact h
      · rcases U.1 with y | ⟨s, hs, y⟩
        · rw [h, y]
        · exact absurd y (hn s hs)
    subst e5
    exact br_t (nI_le (Nat.le_refl _) (by omega)) H
  | succ d ih =>
    intro i hi x5 h
    have hiN : i < N := by omega
    refine br_f (nI_ge (by omega) (by omega)) (jx_level (by omega) hiN ?_)
    by_cases h2 : lv i = 2
    · have e := (U.2.2.2.2.2.2.1 i hiN).mp h2
      refine br_t h2 (nm_r (nI_1 i) (ih (i + 1) (by omega) (nI i) (.inl e.symm)))
    · refine br_f h2 (nm_r (nI_1 i) (ih (i + 1) (by omega) x5 (h.elim .inl (fun h => .inr ⟨h.1, fun t ht => ?_⟩))))
      by_cases y : t = i
      · subst y
        exact fun z => h2 ((U.2.2.2.2.2.2.1 t hiN).mpr z)
      · exact h.2 t (by omega)
theorem jl_63 {k : Nat} (hN1 : 1 ≤ N) (hN : N ≤ 16) (hk : k ≤ 60) (hL : L ≤ 260) (H : ∀ (sub : Int32) (lv sp du fa np op : Nat → Int32), jq_U N sub lv sp fa np op → jq_du N du → ∃ n, wL_law_272 post L xs (nI N) (nI Lm) kc ks (nI N) (nI Lm) 1 sub 0 0 0 0 0 lv sp du fa np op (fun _ => 0) (jz_f (-1) 32) (jz_f (-1) 32) (fun _ => 0) n (-1) 0) : ∀ d i, i + d = k → ∀ (sub : Int32) (lv sp du fa np op : Nat → Int32), jq_U N sub lv sp fa np op → jq_du N du → wL_law_63 post L xs (nI N) (nI Lm) (nI k) kc ks (d + 1) (nI i) (nI N) (nI Lm) 1 sub 0 0 0 0 0 lv sp du fa np op (fun _ => 0) (jz_f (-1) 32) (jz_f (-1) 32) (fun _ => 0) := by
  intro d
  induction d with
  | zero =>
    intro i hi sub lv sp du fa np op U Du
    have e : i = k := by omega
    subst e
    exact br_t (nI_le (Nat.le_refl _) (by omega)) (H sub lv sp du fa np op U Du)
  | succ d ih =>
    intro i hi sub lv sp du fa np op U Du
    have n0 : ¬ nI N = 0 := nI_ne0 (by omega) (by omega)
    have rem : ∀ r : Int32, ∃ a, a < N ∧ (r &&& 31) - (r &&& 31) / nI N * nI N = nI a := fun r => by
      obtain ⟨j, hj, e⟩ := pk_andE r (m := 31) 5 (by decide)
      rw [e]
      exact ⟨j % N, Nat.mod_lt _ (by omega), pk_rem (by omega) (by omega) (by omega)⟩
    refine br_f (nI_ge (by omega) (by omega)) (nm_r (e' := nI (2 + 4 * i)) (by rw [show (4 : Int32) = nI 4 from rfl, show (2 : Int32) = nI 2 from rfl, pk_mul, nI_add]) ?_)
    refine jl_cell (2 + 4 * i) (by omega) hL rfl (fun r0 => nm_e ?_)
    refine jl_cell (2 + 4 * i + 1) (by omega) hL (nI_1 _) (fun r1 => ⟨n0, ?_⟩)
    obtain ⟨a, ha, ea⟩ := rem r1
    refine nm_r ea ?_
    refine jl_cell (2 + 4 * i + 2) (by omega) hL (by rw [show (2 : Int32) = nI 2 from rfl, nI_add]) (fun r2 => ⟨n0, ?_⟩)
    obtain ⟨b, hb, eb⟩ := rem r2
    refine nm_r eb ?_
    refine jl_cell (2 + 4 * i + 3) (by omega) hL (by rw [show (3 : Int32) = nI 3 from rfl, nI_add]) (fun r3 => ?_)
    -- addPrereq in its three places
    have add : ∀ c : Int32, ∃ r np' op', jq_U N sub lv sp fa np' op' ∧ ∀ P : Int32 → St2 → Prop, P r (ja_T N (nI Lm) 1 sub 0 0 0 0 0 lv sp du fa np' op' (fun _ => 0) (jz_f (-1) 32) (jz_f (-1) 32) (fun _ => 0)) → wpX_addPrereq P (ja_T N (nI Lm) 1 sub 0 0 0 0 0 lv sp du fa np op (fun _ => 0) (jz_f (-1) 32) (jz_f (-1) 32) (fun _ => 0)) (nI a) (nI b) c := fun c => jp_add (by omega) U ha hb
    have k153 : ∀ c : Int32, wL_law_153 post L xs (wL_law_63 post L xs (nI N) (nI Lm) (nI k) kc ks (d + 1)) (nI N) (nI Lm) (nI k) (nI i) c (nI b) (nI a) kc ks (nI N) (nI Lm) 1 sub 0 0 0 0 0 lv sp du fa np op (fun _ => 0) (jz_f (-1) 32) (jz_f (-1) 32) (fun _ => 0) := fun c => by
      obtain ⟨r, np', op', U', w⟩ := add c
      unfold wL_law_153
      refine w _ ?_
      exact nm_r (nI_1 i) (ih (i + 1) (by omega) sub lv sp du fa np' op' U' Du)
    have k210 : ∀ c : Int32, ja_B c → wL_law_210 post L xs (wL_law_63 post L xs (nI N) (nI Lm) (nI k) kc ks (d + 1)) (nI N) (nI Lm) (nI k) (nI i) c (1 + (r3 &&& 3)) (nI a) kc ks (nI N) (nI Lm) 1 sub 0 0 0 0 0 lv sp du fa np op (fun _ => 0) (jz_f (-1) 32) (jz_f (-1) 32) (fun _ => 0) := fun c hc => by
      obtain ⟨j, hj, ej⟩ := pk_andE r3 (m := 3) 2 (by decide)
      have e1 : (1 : Int32) + nI j = nI (1 + j) := by rw [show (1 : Int32) = nI 1 from rfl, nI_add]
      rw [ej, e1]
      obtain ⟨r, U', w⟩ := jp_cmd (lim := nI Lm) (keep := 1) (clk := 0) (ff := 0) (rt := 0) (rs := 0) (du := du) (st := fun _ => 0) (sa := jz_f (-1) 32) (fi := jz_f (-1) 32) (re := fun _ => 0) (x := 1 + j) (by omega) U ha (by omega) (by omega) hc
      unfold wL_law_210
      refine w _ ?_
      refine nm_r (nI_1 i) (ih (i + 1) (by omega) sub lv sp _ _ np op U' (fun t ht => ?_))
      by_cases y : t = a
      · subst y
        exact ⟨1 + j, by omega, pk_us⟩
      · rw [pk_un y]
        exact Du t ht
    refine br_c (fun _ => ?_) (fun _ => br_c (fun _ => k153 1) (fun _ => k153 0))
    refine br_c (fun _ => ?_) (fun _ => ?_)
    · obtain ⟨j, hj, ej⟩ := pk_andE r3 (m := 7) 3 (by decide)
      rw [ej]
      obtain ⟨r, sp', U', w⟩ := jp_time (lim := nI Lm) (keep := 1) (clk := 0) (ff := 0) (rt := 0) (rs := 0) (du := du) (st := fun _ => 0) (sa := jz_f (-1) 32) (fi := jz_f (-1) 32) (re := fun _ => 0) (x := j) (by omega) U ha (by omega)
      refine w _ ?_
      exact nm_r (nI_1 i) (ih (i + 1) (by omega) sub lv sp' du fa np op U' Du)
    · refine br_c (fun _ => br_c (fun _ => k210 1 ja_B1) (fun _ => k210 0 ja_B0)) (fun _ => ?_)
      refine br_c (fun _ => ?_) (fun _ => ?_)
      · obtain ⟨r, sub', lv', U', w⟩ := jp_smk (lim := nI Lm) (keep := 1) (clk := 0) (ff := 0) (rt := 0) (rs := 0) (du := du) (st := fun _ => 0) (sa := jz_f (-1) 32) (fi := jz_f (-1) 32) (re := fun _ => 0) (by omega) U ha
        refine w _ ?_
        exact nm_r (nI_1 i) (ih (i + 1) (by omega) sub' lv' sp du fa np op U' Du)
      · refine br_c (fun _ => ?_) (fun _ => ?_)
        · obtain ⟨r, lv', U', w⟩ := jp_sub (lim := nI Lm) (keep := 1) (clk := 0) (ff := 0) (rt := 0) (rs := 0) (du := du) (st := fun _ => 0) (sa := jz_f (-1) 32) (fi := jz_f (-1) 32) (re := fun _ => 0) (by omega) U ha
          refine w _ ?_
          exact nm_r (nI_1 i) (ih (i + 1) (by omega) sub lv' sp du fa np op U' Du)
        · obtain ⟨r, np', op', U', w⟩ := add 0
          refine w _ ?_
          exact nm_r (nI_1 i) (ih (i + 1) (by omega) sub lv sp du fa np' op' U' Du)
theorem jm_s0 {P : Nat → Bool} {g : Nat → Int64} : ∀ n, (∀ i, i < n → ¬ P i = true) → jm_s P g n = 0 := by
  intro n
  induction n with
  | zero => intro _; rfl
  | succ n ih =>
    intro h
    rw [jm_sf (h n (by omega)), ih (fun i hi => h i (by omega))]
theorem jz_m {t : Nat} (h : t < 32) : jz_f (-1) 32 t = -1 := if_pos h
theorem ja_01 : ¬ (0 : Int32) = 1 := by decide
theorem ja_02 : ¬ (0 : Int32) = 2 := by decide
/-- the run begins -/
theorem jl_start {md mr mf ms mu : Int64} {Dn : Nat → Bool} {ex : Nat → Int32} (hN : N ≤ 16) (hLm : Lm ≤ 8) (hLm1 : 1 ≤ Lm) (U : jq_U N sub lv sp fa np op) (hM : jm_M N Dn ex md mr mf ms mu) (all : ∀ t, t < N → Dn t = true) (hL : ∀ t, t < N → jq_L N sub lv sp fa np op ex t) (hp : post 1) : wpX_start (fun _ u => match u with | (b1, b2, b3, b4, b5, b6, b7, b8, b9, c1, c2, c3, c4, c5, c6, c7, c8, c9, c10) => ∃ fu755 : Nat, wL_law_755 post L xs (nI N) (nI Lm) mr mf ms mu kc ks fu755 0 0 0 0 b1 b2 b3 b4 b5 b6 b7 b8 b9 c1 c2 c3 c4 c5 c6 c7 c8 c9 c10) (ja_T N (nI Lm) 1 sub 0 0 0 0 0 lv sp du fa np op (fun _ => 0) (jz_f (-1) 32) (jz_f (-1) 32) (fun _ => 0)) := by
  have G := jq_UG (by omega) U
  have c : ∀ b, jc_n (ja_r (fun _ => 0) lv b) N = 0 := fun b => by
    have z : ∀ n, jc_n (fun _ => false) n = 0 := fun n => by
      induction n with
      | zero => rfl
      | succ n ih => rw [jc_sf rfl, ih]
    rw [← z N]
    exact jc_cg N (fun i _ => ja_r_n ja_01)
  have hM' : jm_M N (fun _ => true) ex md mr mf ms mu := fun t ht => by
    have q := hM t ht
    rw [all t ht] at q
    exact q
  have V : jq_V N Lm sub 0 lv sp fa np op ex (jz_f (-1) 32) (fun _ => 0) sp (jz_f (-1) 32) := by
    refine ⟨⟨fun t _ => .inl rfl, fun t _ z => absurd z ja_01, fun t _ => ⟨fun z => absurd z ja_02, fun _ => rfl⟩⟩, ?_, fun t ht _ => jz_m (by omega), fun t ht z => absurd z (by rw [jz_m (by omega)]; decide), fun t _ => .inl rfl⟩
    rw [c, c]
    exact hLm1
  obtain ⟨st', sa', fi', re', g1, g2⟩ := jp_settle (sta := 1) (ff := 0) (du := du) (fi := jz_f (-1) 32) (re := fun _ => 0) hLm U.1 G hL V
  have e0 : nI (jc_n (ja_r (fun _ => 0) lv false) N) = 0 := by rw [c]; rfl
  have e1 : nI (jc_n (ja_r (fun _ => 0) lv true) N) = 0 := by rw [c]; rfl
  have g3 : ∀ P : St2 → Prop, P (ja_X N (nI Lm) 1 sub 0 1 0 lv sp du fa np op st' sa' fi' re') → wpX_settle P (ja_T N (nI Lm) 1 sub 0 1 0 0 0 lv sp du fa np op (fun _ => 0) (jz_f (-1) 32) (jz_f (-1) 32) (fun _ => 0)) := fun P z => by
    have w := g2 P z
    have w' : wpX_settle P (ja_T N (nI Lm) 1 sub 0 1 0 (nI (jc_n (ja_r (fun _ => 0) lv false) N)) (nI (jc_n (ja_r (fun _ => 0) lv true) N)) lv sp du fa np op (fun _ => 0) (jz_f (-1) 32) (jz_f (-1) 32) (fun _ => 0)) := w
    rw [e0, e1] at w'
    exact w'
  have h2 : ∀ s, s < N → sub = nI s → lv s = 2 := fun s hs e => (U.2.2.2.2.2.2.1 s hs).mpr e
  have nP : ∀ t, t < N → ¬ jq_P (jz_f (-1) 32) t = true := fun t ht => by
    rw [jq_Pt, jz_m (by omega)]
    decide
  refine br_t rfl (g3 _ ⟨800 + 1, ?_⟩)
  refine br_f (by decide) (br_t (by decide) ?_)
  refine jl_792 (stp := 0) hN hLm hLm1 hM' hL h2 g1 (fun t ht => ?_) (jm_s0 N nP).symm (fun x17' x19' a b => ?_)
  · rw [jm_0]
    cases y : jq_P (jz_f (-1) 32) t with
    | false => rfl
    | true => exact absurd y (nP t ht)
  · exact jl_755 hN hLm hLm1 U.1 G hM' hL h2 hp 799 1 (by omega) (by omega) 0 0 sp st' sa' fi' re' x17' x19' (by omega) (jq_Vn g1) a b
theorem jl_law {k : Nat} (hN1 : 1 ≤ N) (hN : N ≤ 16) (hLm : Lm ≤ 8) (hLm1 : 1 ≤ Lm) (hk : k ≤ 60) (hL : L ≤ 260) (hp : post 1) : ∃ n, wL_law_63 post L xs (nI N) (nI Lm) (nI k) kc ks n 0 (nI N) (nI Lm) 1 (-1) 0 0 0 0 0 (fun _ => 0) (fun _ => 0) (jz_f 1 32) (fun _ => 0) (fun _ => 0) (fun _ => 0) (fun _ => 0) (jz_f (-1) 32) (jz_f (-1) 32) (fun _ => 0) := by
  refine ⟨k + 1, jl_63 hN1 hN hk hL (fun sub lv sp du fa np op U Du => ?_) k 0 (by omega) _ _ _ _ _ _ _ ?_ ?_⟩
  · refine ⟨N + 1, jl_272 hN U ⟨N + 1 + 1, ?_⟩ N 0 (by omega) (-1) (.inr ⟨rfl, fun t ht => by omega⟩)⟩
    have hl := U.2.2.2.2.1
    refine jl_316 hN U.1 Du (jq_KX (by omega) hl (jq_UG (by omega) U).2.2.1 U.2.2.2.1) (fun md mr mf ms mu Dn ex hM all hJ => jl_start hN hLm hLm1 U hM all hJ hp) (N + 1) 0 (by omega) 0 0 0 0 0 (fun _ => false) (fun _ => 0) (fun t _ => ?_) (fun t _ z => absurd z Bool.false_ne_true) (.inr (Nat.zero_le _))
    rw [jm_0]
    exact ⟨rfl, rfl, rfl, rfl, rfl⟩
  · have nE : ∀ t p, ¬ ja_E (fun _ => 0) (fun _ => 0) t p := fun t p h => by
      have h' : bt ((0 : Int32) ||| 0) p = true := h
      rw [b_or, b_0] at h'
      exact absurd h' (by decide)
    have hno : ∀ i, i < 32 → ¬ (-1 : Int32) = nI i := by decide +kernel
    exact ⟨.inl rfl, fun _ => ja_B0, fun t p _ h => absurd h (nE t p), jq_K0 N _ (fun t p _ _ => nE t p), fun t p _ _ h => absurd h (nE t p), fun _ _ => (by decide : (0 : Int32) ≤ 7), fun t ht => ⟨fun z => absurd z ja_02, fun z => absurd z (hno t (by omega))⟩, fun t _ z => absurd z ja_01⟩
  · exact fun t ht => ⟨1, by omega, if_pos (by omega)⟩
end
section
-- p18: the owed statement
theorem i_vc (xs : Nat → Int32) (L : Nat) (hL : L ≤ 260) : wpL_law (fun r => r = 1) L xs := by
  unfold wpL_law
  refine jl_cell 0 (by omega) hL rfl (fun v0 => ?_)
  obtain ⟨j0, h0, e0⟩ := pk_andE v0 (m := 15) 4 (by decide)
  refine nm_r (e' := nI (1 + j0)) (by rw [e0, show (1 : Int32) = nI 1 from rfl, nI_add]) ?_
  refine jl_cell 1 (by omega) hL rfl (fun v1 => ?_)
  obtain ⟨j1, h1, e1⟩ := pk_andE v1 (m := 7) 3 (by decide)
  refine nm_r (e' := nI (1 + j1)) (by rw [e1, show (1 : Int32) = nI 1 from rfl, nI_add]) ?_
  refine ⟨10, 320, by omega, by omega, ?_⟩
  refine jp_init (by omega) (by omega) (by omega) (by omega) _ ⟨by decide, fun x4 _ => ?_⟩
  have go : ∀ k, k ≤ 60 → ∃ n, wL_law_63 (fun r => r = 1) L xs (nI (1 + j0)) (nI (1 + j1)) (nI k) (1 + 10) (19 + 320) n 0 (nI (1 + j0)) (nI (1 + j1)) 1 (-1) 0 0 0 0 0 (fun _ => 0) (fun _ => 0) (jz_f 1 32) (fun _ => 0) (fun _ => 0) (fun _ => 0) (fun _ => 0) (jz_f (-1) 32) (jz_f (-1) 32) (fun _ => 0) := fun k hk => jl_law (by omega) (by omega) (by omega) (by omega) hk hL rfl
  refine br_c (fun hx => ?_) (fun _ => br_t (by decide) (go 0 (by omega)))
  obtain ⟨k, hk, e⟩ := nI_of (Int32.not_lt.mpr hx)
  subst e
  refine br_c (fun h6 => go k ?_) (fun _ => go 60 (by omega))
  have h6' : nI k ≤ nI 60 := h6
  rw [nI_leI hk (by omega)] at h6'
  exact h6'
end

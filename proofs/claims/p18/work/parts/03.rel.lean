-- the two states by one list of contents; the relation
def ja_r (st lv : Nat → Int32) (b : Bool) (t : Nat) : Bool := decide (st t = 1) && (decide (lv t = 1) == b)
theorem ja_r_n {st lv : Nat → Int32} {b : Bool} {t : Nat} (h : ¬ st t = 1) : ja_r st lv b t = false := by
  unfold ja_r
  rw [decide_eq_false h, Bool.false_and]
theorem ja_r_u {st lv : Nat → Int32} {b : Bool} {t i : Nat} {s : Int32} (h : i ≠ t) : ja_r (upd st t s) lv b i = ja_r st lv b i := by
  unfold ja_r
  rw [pk_un h]
theorem ja_r_s {st lv : Nat → Int32} {t : Nat} (h : st t = 1) : ja_r st lv (decide (lv t = 1)) t = true := by
  unfold ja_r
  rw [decide_eq_true h, Bool.true_and, beq_self_eq_true]
theorem ja_r_o {st lv : Nat → Int32} {t : Nat} : ja_r st lv (!decide (lv t = 1)) t = false := by
  unfold ja_r
  cases decide (lv t = 1) <;> simp
theorem ja_us {st : Nat → Int32} {t : Nat} {s : Int32} (h : ¬ s = 1) : ¬ upd st t s t = 1 := by rw [pk_us]; exact h
/-- a step between statuses that aren't RUNNING keeps the counts -/
theorem ja_cs {st lv : Nat → Int32} {b : Bool} {t : Nat} {s : Int32} {N : Nat} (h : ¬ st t = 1) (hs : ¬ s = 1) : jc_n (ja_r (upd st t s) lv b) N = jc_n (ja_r st lv b) N := by
  apply jc_cg
  intro i _
  by_cases e : i = t
  · subst e
    rw [ja_r_n (ja_us hs), ja_r_n h]
  · exact ja_r_u e
theorem ja_cb {st lv : Nat → Int32} {t N : Nat} (ht : t < N) (h : ¬ st t = 1) : jc_n (ja_r (upd st t 1) lv (decide (lv t = 1))) N = jc_n (ja_r st lv (decide (lv t = 1))) N + 1 :=
  jc_up N ht (fun _ _ e => (ja_r_u e).symm) (ja_r_n h) (ja_r_s pk_us)
theorem ja_cbo {st lv : Nat → Int32} {t N : Nat} : jc_n (ja_r (upd st t 1) lv (!decide (lv t = 1))) N = jc_n (ja_r st lv (!decide (lv t = 1))) N := by
  apply jc_cg
  intro i _
  by_cases e : i = t
  · subst e
    rw [ja_r_o, ja_r_o]
  · exact ja_r_u e
theorem ja_ce {st lv : Nat → Int32} {t N : Nat} {s : Int32} (ht : t < N) (h : st t = 1) (hs : ¬ s = 1) : jc_n (ja_r st lv (decide (lv t = 1))) N = jc_n (ja_r (upd st t s) lv (decide (lv t = 1))) N + 1 :=
  jc_up N ht (fun _ _ e => ja_r_u e) (ja_r_n (ja_us hs)) (ja_r_s h)
theorem ja_ceo {st lv : Nat → Int32} {t N : Nat} {s : Int32} : jc_n (ja_r st lv (!decide (lv t = 1))) N = jc_n (ja_r (upd st t s) lv (!decide (lv t = 1))) N := by
  apply jc_cg
  intro i _
  by_cases e : i = t
  · subst e
    rw [ja_r_o, ja_r_o]
  · exact (ja_r_u e).symm
-- the edges
def ja_E (np op : Nat → Int32) (t p : Nat) : Prop := bt (np t ||| op t) p = true
def ja_k (np op : Nat → Int32) (t p : Nat) : Int32 := if bt (np t) p = true then 1 else if bt (op t) p = true then 2 else 0
theorem ja_k0 {np op : Nat → Int32} {t p : Nat} : ja_k np op t p = 0 ↔ bt (np t ||| op t) p = false := by
  unfold ja_k
  rw [b_or]
  cases bt (np t) p <;> cases bt (op t) p <;> decide
theorem ja_kn {np op : Nat → Int32} {t p : Nat} : ¬ ja_k np op t p = 0 ↔ ja_E np op t p := by
  rw [ja_k0]
  unfold ja_E
  cases bt (np t ||| op t) p <;> decide
theorem ja_k1 {np op : Nat → Int32} {t p : Nat} : ja_k np op t p = 1 ↔ bt (np t) p = true := by
  unfold ja_k
  cases bt (np t) p <;> cases bt (op t) p <;> decide
def ja_K (N : Nat) (np op kd : Nat → Int32) : Prop := (∀ t p, t < 32 → p < 32 → kd (t * 32 + p) = ja_k np op t p) ∧ (∀ t p, t < 32 → ja_E np op t p → p < N)
theorem ja_K0 (N : Nat) : ja_K N (fun _ => 0) (fun _ => 0) (fun _ => 0) := by
  have e : ∀ p, bt ((0 : Int32) ||| 0) p = false := fun p => by rw [b_or, b_0]; rfl
  refine ⟨fun t p _ _ => (ja_k0.mpr (e p)).symm, fun t p _ h => ?_⟩
  have h' : bt ((0 : Int32) ||| 0) p = true := h
  rw [e p] at h'
  exact absurd h' (by decide)
theorem ja_ix {t p t' p' : Nat} (hp : p < 32) (hp' : p' < 32) (h : t' * 32 + p' = t * 32 + p) : t' = t ∧ p' = p := by omega
theorem ja_Kn {N : Nat} {np op kd : Nat → Int32} {t p : Nat} (hN : N ≤ 32) (K : ja_K N np op kd) (ht : t < N) (hp : p < N) : ja_K N (upd np t (np t ||| ((1 : Int32) <<< (nI p &&& 31)))) op (upd kd (t * 32 + p) 1) := by
  refine ⟨fun t' p' ht' hp' => ?_, fun t' p' ht' h => ?_⟩
  · by_cases e : t' = t
    · subst e
      by_cases e2 : p' = p
      · subst e2
        rw [pk_us]
        refine (ja_k1.mpr ?_).symm
        rw [pk_us, jb_or1 _ (by omega) (by omega), decide_eq_true rfl, Bool.or_true]
      · rw [pk_un (by omega), K.1 t' p' ht' hp']
        unfold ja_k
        rw [pk_us, jb_or1 _ (by omega) (by omega), decide_eq_false e2, Bool.or_false]
    · rw [pk_un (fun z => e (ja_ix (by omega) hp' z).1), K.1 t' p' ht' hp']
      unfold ja_k
      rw [pk_un e]
  · unfold ja_E at h
    by_cases e : t' = t
    · subst e
      have hb := jb_lt h
      rw [pk_us, b_or, jb_or1 _ (by omega) hb] at h
      by_cases e2 : p' = p
      · omega
      · rw [decide_eq_false e2, Bool.or_false, ← b_or] at h
        exact K.2 t' p' ht' h
    · rw [pk_un e] at h
      exact K.2 t' p' ht' h
theorem ja_Ko {N : Nat} {np op kd : Nat → Int32} {t p : Nat} (hN : N ≤ 32) (K : ja_K N np op kd) (ht : t < N) (hp : p < N) (hz : bt (np t ||| op t) p = false) : ja_K N np (upd op t (op t ||| ((1 : Int32) <<< (nI p &&& 31)))) (upd kd (t * 32 + p) 2) := by
  have hz1 : bt (np t) p = false := by
    rw [b_or] at hz
    cases h : bt (np t) p with
    | false => rfl
    | true => rw [h] at hz; exact absurd hz (by simp)
  refine ⟨fun t' p' ht' hp' => ?_, fun t' p' ht' h => ?_⟩
  · by_cases e : t' = t
    · subst e
      by_cases e2 : p' = p
      · subst e2
        rw [pk_us]
        unfold ja_k
        rw [pk_us, jb_or1 _ (by omega) (by omega), decide_eq_true rfl, Bool.or_true, hz1]
        rfl
      · rw [pk_un (by omega), K.1 t' p' ht' hp']
        unfold ja_k
        rw [pk_us, jb_or1 _ (by omega) (by omega), decide_eq_false e2, Bool.or_false]
    · rw [pk_un (fun z => e (ja_ix (by omega) hp' z).1), K.1 t' p' ht' hp']
      unfold ja_k
      rw [pk_un e]
  · unfold ja_E at h
    by_cases e : t' = t
    · subst e
      have hb := jb_lt h
      rw [pk_us, b_or, jb_or1 _ (by omega) hb] at h
      by_cases e2 : p' = p
      · omega
      · rw [decide_eq_false e2, Bool.or_false, ← b_or] at h
        exact K.2 t' p' ht' h
    · rw [pk_un e] at h
      exact K.2 t' p' ht' h
-- the ticks that are left: alike but at the sub-make target
def ja_L (sub : Int32) (re lf : Nat → Int32) : Prop := ∀ i, i < 32 → ¬ nI i = sub → re i = lf i
theorem ja_Lu {sub : Int32} {re lf : Nat → Int32} {t : Nat} {x : Int32} (h : ja_L sub re lf) : ja_L sub (upd re t x) (upd lf t x) := by
  intro i hi hn
  by_cases e : i = t
  · subst e
    rw [pk_us, pk_us]
  · rw [pk_un e, pk_un e]
    exact h i hi hn
theorem ja_Lx {sub : Int32} {re lf : Nat → Int32} {t : Nat} {x : Int32} (h : ja_L sub re lf) (ht : nI t = sub) : ja_L sub (upd re t x) lf := by
  intro i hi hn
  by_cases e : i = t
  · subst e
    exact absurd ht hn
  · rw [pk_un e]
    exact h i hi hn
def ja_S (N : Nat) (sub : Int32) : Prop := sub = -1 ∨ ∃ s, s < N ∧ sub = nI s
def ja_B (x : Int32) : Prop := x = 0 ∨ x = 1
theorem ja_B0 : ja_B 0 := Or.inl rfl
theorem ja_B1 : ja_B 1 := Or.inr rfl
theorem ja_Bn {x : Int32} (h : ja_B x) : narrow .boolean (.int x) = .int x := by
  rcases h with h | h <;> subst h <;> rfl
theorem ja_Bf {x : Int32} (h : ja_B x) : fits .boolean (.int x) = true := by
  rcases h with h | h <;> subst h <;> rfl
theorem ja_Bv {x : Int32} (h : ja_B x) : vp_nar .boolean x = x := by
  rcases h with h | h <;> subst h <;> rfl
theorem ja_B1' {x : Int32} (h : ja_B x) (hn : ¬ x = 0) : x = 1 := h.resolve_left hn
/-- one list of contents -/
def ja_I (N : Nat) (keep sub clk sta ff : Int32) (fa np op st re lf kd : Nat → Int32) : Prop :=
  1 ≤ N ∧ N ≤ 32 ∧ (sta = 0 → clk = 0 ∧ ∀ i, ¬ st i = 1) ∧ ja_B keep ∧ ja_B sta ∧ ja_B ff ∧ ja_S N sub ∧ (∀ i, ja_B (fa i)) ∧ ja_K N np op kd ∧ ja_L sub re lf
theorem ja_c0 {st lv lv' : Nat → Int32} {b : Bool} {N : Nat} (h : ∀ i, ¬ st i = 1) : jc_n (ja_r st lv b) N = jc_n (ja_r st lv' b) N :=
  jc_cg N (fun i _ => (ja_r_n (h i)).trans (ja_r_n (h i)).symm)

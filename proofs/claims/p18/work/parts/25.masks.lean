-- p18: the law's long masks
def jm_b (x : Int64) (i : Nat) : Bool := x.toBitVec.getLsbD i
theorem jm_or (x y : Int64) (i : Nat) : jm_b (x ||| y) i = (jm_b x i || jm_b y i) := by
  unfold jm_b
  rw [Int64.toBitVec_or, BitVec.getLsbD_or]
theorem jm_an (x y : Int64) (i : Nat) : jm_b (x &&& y) i = (jm_b x i && jm_b y i) := by
  unfold jm_b
  rw [Int64.toBitVec_and, BitVec.getLsbD_and]
theorem jm_0 (i : Nat) : jm_b 0 i = false := BitVec.getLsbD_zero
theorem jm_sh : ∀ t, t < 16 → ∀ i, i < 64 → jm_b ((1 : Int64) <<< ((nI t).toInt64 &&& 63)) i = decide (i = t) := by decide +kernel
theorem jm_o1 (m : Int64) {t i : Nat} (ht : t < 16) (hi : i < 64) : jm_b (m ||| ((1 : Int64) <<< ((nI t).toInt64 &&& 63))) i = (jm_b m i || decide (i = t)) := by
  rw [jm_or, jm_sh t ht i hi]
theorem jm_a1 (m : Int64) {t : Nat} (ht : t < 16) : (m &&& ((1 : Int64) <<< ((nI t).toInt64 &&& 63))) = 0 ↔ jm_b m t = false := by
  constructor
  · intro h
    have e := jm_an m ((1 : Int64) <<< ((nI t).toInt64 &&& 63)) t
    rw [h, jm_0, jm_sh t ht t (by omega), decide_eq_true rfl, Bool.and_true] at e
    exact e.symm
  · intro h
    apply Int64.toBitVec_inj.mp
    apply BitVec.eq_of_getLsbD_eq
    intro i hi
    have e := jm_an m ((1 : Int64) <<< ((nI t).toInt64 &&& 63)) i
    rw [jm_sh t ht i hi] at e
    have z := jm_0 i
    unfold jm_b at e z
    rw [e, z]
    by_cases y : i = t
    · subst y
      unfold jm_b at h
      rw [h, Bool.false_and]
    · rw [decide_eq_false y, Bool.and_false]
theorem jm_cu : ∀ k, k < 64 → ((nI k).toInt64.toUInt64 &&& Int64.toUInt64 63).toNat = k := by decide +kernel
theorem jm_bit {post : Int32 → Prop} {m : Int64} {t : Nat} (ht : t < 64) (h1 : jm_b m t = true → post 1) (h0 : ¬ jm_b m t = true → post 0) : wpL_bit post () m (nI t) := by
  have q := ts_bit (w := m) ht (jm_cu t ht)
  refine br_c (fun h => ?_) (fun h => ?_)
  · refine h0 ?_
    have e : jm_b m t = false := q.mp h
    rw [e]
    decide
  · refine h1 ?_
    cases e : jm_b m t with
    | true => rfl
    | false => exact absurd (q.mpr e) h
/-- the five masks: done, and by what is expected -/
def jm_M (N : Nat) (Dn : Nat → Bool) (ex : Nat → Int32) (d r f s u : Int64) : Prop := ∀ t, t < N → jm_b d t = Dn t ∧ jm_b r t = (Dn t && decide (ex t = 2)) ∧ jm_b f t = (Dn t && decide (ex t = 4)) ∧ jm_b s t = (Dn t && decide (ex t = 5)) ∧ jm_b u t = (Dn t && decide (ex t = 3))
theorem jm_k {x : Bool} {a b : Int32} {e : Bool} (h : ¬ a = b) : x = (x || (e && decide (a = b))) := by rw [decide_eq_false h, Bool.and_false, Bool.or_false]
theorem jm_y {x : Bool} {a : Int32} {e : Bool} : (x || e) = (x || (e && decide (a = a))) := by rw [decide_eq_true rfl, Bool.and_true]
theorem jm_ad {N t : Nat} {Dn : Nat → Bool} {ex : Nat → Int32} {d r f s u d' r' f' s' u' : Int64} (w : Int32) (h : jm_M N Dn ex d r f s u) (hd : Dn t = false)
    (kd : ∀ i, i < N → jm_b d' i = (jm_b d i || decide (i = t)))
    (kr : ∀ i, i < N → jm_b r' i = (jm_b r i || (decide (i = t) && decide (w = 2))))
    (kf : ∀ i, i < N → jm_b f' i = (jm_b f i || (decide (i = t) && decide (w = 4))))
    (ks : ∀ i, i < N → jm_b s' i = (jm_b s i || (decide (i = t) && decide (w = 5))))
    (ku : ∀ i, i < N → jm_b u' i = (jm_b u i || (decide (i = t) && decide (w = 3)))) : jm_M N (fun i => Dn i || decide (i = t)) (upd ex t w) d' r' f' s' u' := by
  intro i hi
  obtain ⟨a, b, c, e, g⟩ := h i hi
  rw [kd i hi, kr i hi, kf i hi, ks i hi, ku i hi, a, b, c, e, g]
  show _ = (Dn i || decide (i = t)) ∧ _ = ((Dn i || decide (i = t)) && _) ∧ _ = ((Dn i || decide (i = t)) && _) ∧ _ = ((Dn i || decide (i = t)) && _) ∧ _ = ((Dn i || decide (i = t)) && _)
  by_cases y : i = t
  · subst y
    rw [pk_us, hd, decide_eq_true (show i = i from rfl)]
    simp
  · rw [pk_un y, decide_eq_false y]
    simp
-- what is done when: what it waits for is done, and its own row holds
def jm_J (N : Nat) (sub : Int32) (lv sp fa np op : Nat → Int32) (Dn : Nat → Bool) (ex : Nat → Int32) : Prop := ∀ t, t < N → Dn t = true → (∀ p, p < N → jq_X N sub lv np op t p → Dn p = true) ∧ jq_L N sub lv sp fa np op ex t
theorem jq_Ac {N t : Nat} {sub : Int32} {lv np op ex ex' : Nat → Int32} (h : ∀ p, p < N → jq_X N sub lv np op t p → ex p = ex' p) (a : jq_A N sub lv np op ex t) : jq_A N sub lv np op ex' t := by
  have bd : ∀ p, p < N → jq_X N sub lv np op t p → jq_bd ex p → jq_bd ex' p := fun p hp hx z => by
    unfold jq_bd at z ⊢
    rw [← h p hp hx]
    exact z
  rcases a with ⟨l, s, hs, e, q, hq, hE, hb⟩ | ⟨p, hp, hE, hb⟩
  · exact .inl ⟨l, s, hs, e, q, hq, hE, bd q hq (.inr (.inl ⟨l, s, hs, e, hE⟩)) hb⟩
  · exact .inr ⟨p, hp, hE, bd p hp (.inl hE) hb⟩
theorem jq_En {np op : Nat → Int32} {t p : Nat} (h : bt (np t) p = true) : ja_E np op t p := by
  unfold ja_E
  rw [b_or, h, Bool.true_or]
theorem jq_Fc {N t : Nat} {sub : Int32} {lv sp np op ex ex' : Nat → Int32} (h : ∀ p, p < N → jq_X N sub lv np op t p → ex p = ex' p) (a : jq_F N sp np ex t) : jq_F N sp np ex' t :=
  ⟨a.1, fun ⟨p, hp, hb, z⟩ => a.2 ⟨p, hp, hb, z.elim (fun z => .inl ((h p hp (.inl (jq_En hb))).trans z)) .inr⟩⟩
theorem jq_Lc {N t : Nat} {sub : Int32} {lv sp fa np op ex ex' : Nat → Int32} (h : ∀ p, p < N → jq_X N sub lv np op t p → ex p = ex' p) (ht : ex t = ex' t) (L : jq_L N sub lv sp fa np op ex t) : jq_L N sub lv sp fa np op ex' t := by
  have h' : ∀ p, p < N → jq_X N sub lv np op t p → ex' p = ex p := fun p hp hx => (h p hp hx).symm
  refine ⟨fun a => ht.symm.trans (L.1 (jq_Ac h' a)), fun na => ?_⟩
  have M := L.2 (fun a => na (jq_Ac h a))
  refine ⟨fun hs => ⟨fun ⟨u, hu, hl, hb⟩ => ht.symm.trans ((M.1 hs).1 ⟨u, hu, hl, ?_⟩), fun nu => ht.symm.trans ((M.1 hs).2 (fun ⟨u, hu, hl, hb⟩ => nu ⟨u, hu, hl, ?_⟩))⟩, fun hs => ⟨fun f => ht.symm.trans ((M.2 hs).1 (jq_Fc h' f)), fun nf => ?_⟩⟩
  · unfold jq_bd at hb ⊢
    rw [h u hu (.inr (.inr ⟨hs, hl⟩))]
    exact hb
  · unfold jq_bd at hb ⊢
    rw [← h u hu (.inr (.inr ⟨hs, hl⟩))]
    exact hb
  · have M := (M.2 hs).2 (fun f => nf (jq_Fc h f))
    exact ⟨fun z => ht.symm.trans (M.1 z), fun z => ht.symm.trans (M.2 z)⟩
/-- t is done now, by w -/
theorem jm_Ja {N t : Nat} {sub : Int32} {lv sp fa np op : Nat → Int32} {Dn : Nat → Bool} {ex : Nat → Int32} {w : Int32} (J : jm_J N sub lv sp fa np op Dn ex) (hd : Dn t = false) (hx : ∀ p, p < N → jq_X N sub lv np op t p → Dn p = true) (L : jq_L N sub lv sp fa np op (upd ex t w) t) : jm_J N sub lv sp fa np op (fun i => Dn i || decide (i = t)) (upd ex t w) := by
  have up : ∀ p, Dn p = true → (Dn p || decide (p = t)) = true := fun p z => by rw [z, Bool.true_or]
  intro x hxN z
  by_cases y : x = t
  · subst y
    exact ⟨fun p hp hX => up p (hx p hp hX), L⟩
  · have z' : Dn x = true := by
      have z2 : (Dn x || decide (x = t)) = true := z
      rw [decide_eq_false y, Bool.or_false] at z2
      exact z2
    obtain ⟨a, b⟩ := J x hxN z'
    refine ⟨fun p hp hX => up p (a p hp hX), jq_Lc (fun p hp hX => ?_) (pk_un y).symm b⟩
    have ne : p ≠ t := fun e => by
      have := a p hp hX
      rw [e, hd] at this
      exact absurd this (by decide)
    exact (pk_un ne).symm

-- p18: what is expected of each target, and what the run keeps
def jq_bd (ex : Nat → Int32) (q : Nat) : Prop := ex q = 4 ∨ ex q = 5
/-- t is to be skipped -/
def jq_A (N : Nat) (sub : Int32) (lv np op ex : Nat → Int32) (t : Nat) : Prop :=
  (lv t = 1 ∧ ∃ s, s < N ∧ sub = nI s ∧ ∃ q, q < N ∧ ja_E np op s q ∧ jq_bd ex q) ∨ ∃ p, p < N ∧ ja_E np op t p ∧ jq_bd ex p
/-- t is fresh -/
def jq_F (N : Nat) (sp np ex : Nat → Int32) (t : Nat) : Prop := ¬ sp t = 0 ∧ ¬ ∃ p, p < N ∧ bt (np t) p = true ∧ (ex p = 2 ∨ sp t < sp p)
/-- what is expected, target by target -/
def jq_L (N : Nat) (sub : Int32) (lv sp fa np op ex : Nat → Int32) (t : Nat) : Prop :=
  (jq_A N sub lv np op ex t → ex t = 5) ∧ (¬ jq_A N sub lv np op ex t →
    (nI t = sub → ((∃ u, u < N ∧ lv u = 1 ∧ jq_bd ex u) → ex t = 4) ∧ ((¬ ∃ u, u < N ∧ lv u = 1 ∧ jq_bd ex u) → ex t = 2)) ∧
    (¬ nI t = sub → (jq_F N sp np ex t → ex t = 3) ∧ (¬ jq_F N sp np ex t → (¬ fa t = 0 → ex t = 4) ∧ (fa t = 0 → ex t = 2))))
/-- the run: sp0 the stamps at the start, sp now -/
def jq_R (N : Nat) (sub : Int32) (lv sp0 fa np op ex st sp : Nat → Int32) : Prop :=
  (∀ t, t < N → st t = 0 ∨ st t = 1 ∨ (st t = ex t ∧ ¬ st t = 0 ∧ ¬ st t = 1)) ∧
  (∀ t, t < N → st t = 1 → ¬ jq_A N sub lv np op ex t ∧ (∀ p, p < N → ja_E np op t p → st p = 2 ∨ st p = 3) ∧ (¬ nI t = sub → ¬ jq_F N sp0 np ex t) ∧ (lv t = 1 → ja_si N sub st 1)) ∧
  (∀ t, t < N → (st t = 2 → 7 < sp t) ∧ (¬ st t = 2 → sp t = sp0 t))
/-- what the start of the run has -/
def jq_G (N : Nat) (sub : Int32) (lv sp0 np op : Nat → Int32) : Prop :=
  N ≤ 32 ∧ (∀ t, t < N → sp0 t ≤ 7) ∧ (∀ s, s < N → sub = nI s → ¬ lv s = 1) ∧ (∀ t p, t < 32 → ja_E np op t p → p < N)
theorem jq_nb {N : Nat} {sub : Int32} {lv sp0 fa np op ex st sp : Nat → Int32} (R : jq_R N sub lv sp0 fa np op ex st sp) {p : Nat} (hp : p < N) (h : ja_bad st p) : jq_bd ex p := by
  rcases R.1 p hp with z | z | z
  · rcases h with h | h <;> rw [z] at h <;> exact absurd h (by decide)
  · rcases h with h | h <;> rw [z] at h <;> exact absurd h (by decide)
  · rcases h with h | h
    · exact .inl (z.1.symm.trans h)
    · exact .inr (z.1.symm.trans h)
theorem jq_bn {N : Nat} {sub : Int32} {lv sp0 fa np op ex st sp : Nat → Int32} (R : jq_R N sub lv sp0 fa np op ex st sp) {p : Nat} (hp : p < N) (hd : ¬ ja_und st p) (h : jq_bd ex p) : ja_bad st p := by
  rcases R.1 p hp with z | z | z
  · exact absurd (.inl z) hd
  · exact absurd (.inr z) hd
  · rcases h with h | h
    · exact .inl (z.1.trans h)
    · exact .inr (z.1.trans h)
/-- done and not bad: REMADE or UPTODATE, where what is expected is one of the four -/
theorem jq_ok {N : Nat} {sub : Int32} {lv sp fa np op ex : Nat → Int32} {t : Nat} (L : jq_L N sub lv sp fa np op ex t) : ex t = 2 ∨ ex t = 3 ∨ ex t = 4 ∨ ex t = 5 := by
  by_cases a : jq_A N sub lv np op ex t
  · exact .inr (.inr (.inr (L.1 a)))
  · have L := L.2 a
    by_cases s : nI t = sub
    · by_cases u : ∃ u, u < N ∧ lv u = 1 ∧ jq_bd ex u
      · exact .inr (.inr (.inl ((L.1 s).1 u)))
      · exact .inl ((L.1 s).2 u)
    · have L := L.2 s
      by_cases f : jq_F N sp np ex t
      · exact .inr (.inl (L.1 f))
      · by_cases z : fa t = 0
        · exact .inl ((L.2 f).2 z)
        · exact .inr (.inr (.inl ((L.2 f).1 z)))
theorem jq_gd {N : Nat} {sub : Int32} {lv sp0 fa np op ex st sp : Nat → Int32} (L : ∀ t, t < N → jq_L N sub lv sp0 fa np op ex t) (R : jq_R N sub lv sp0 fa np op ex st sp) {p : Nat} (hp : p < N) (hd : ¬ ja_und st p) (hb : ¬ ja_bad st p) : st p = 2 ∨ st p = 3 := by
  rcases R.1 p hp with z | z | z
  · exact absurd (.inl z) hd
  · exact absurd (.inr z) hd
  · rcases jq_ok (L p hp) with h | h | h | h
    · exact .inl (z.1.trans h)
    · exact .inr (z.1.trans h)
    · exact absurd (.inl (z.1.trans h)) hb
    · exact absurd (.inr (z.1.trans h)) hb
/-- a target that may be looked at, with no bad and no undone prerequisite, isn't to be skipped -/
theorem jq_nA {N : Nat} {sub : Int32} {lv sp0 fa np op ex st sp : Nat → Int32} (hN : N ≤ 32) (R : jq_R N sub lv sp0 fa np op ex st sp) {t : Nat} (l : ja_lo N sub lv st t) (hb : ¬ ja_hb N np op st t) (hu : ¬ ja_hu N np op st t) : ¬ jq_A N sub lv np op ex t := by
  intro a
  rcases a with ⟨h1, s, hs, e, q, hq, hE, hbq⟩ | ⟨p, hp, hE, hbp⟩
  · obtain ⟨s', hs', e', z⟩ := (l h1).2
    have y : s = s' := (nI_eq (by omega) (by omega)).mp (e.symm.trans e')
    subst y
    exact (R.2.1 s hs z).1 (.inr ⟨q, hq, hE, hbq⟩)
  · exact hb ⟨p, hp, hE, jq_bn R hp (fun y => hu ⟨p, hp, hE, y⟩) hbp⟩
/-- no staleness now: fresh by what is expected; and the other way round -/
theorem jq_fr {N : Nat} {sub : Int32} {lv sp0 fa np op ex st sp : Nat → Int32} (G : jq_G N sub lv sp0 np op) (L : ∀ t, t < N → jq_L N sub lv sp0 fa np op ex t) (R : jq_R N sub lv sp0 fa np op ex st sp) {t : Nat} (ht : t < N) (h0 : st t = 0) (hb : ¬ ja_hb N np op st t) (hu : ¬ ja_hu N np op st t) (hs : ¬ nI t = sub) : ¬ ja_sl N sub sp np t ↔ jq_F N sp0 np ex t := by
  have e0 : sp t = sp0 t := (R.2.2 t ht).2 (by rw [h0]; decide)
  have hE : ∀ p, bt (np t) p = true → ja_E np op t p := fun p z => by
    unfold ja_E
    rw [b_or, z, Bool.true_or]
  have hst : ∀ p, p < N → bt (np t) p = true → st p = 2 ∨ st p = 3 := fun p hp z => jq_gd L R hp (fun y => hu ⟨p, hp, hE p z, y⟩) (fun y => hb ⟨p, hp, hE p z, y⟩)
  have key : ∀ p, p < N → bt (np t) p = true → (sp t < sp p ↔ (ex p = 2 ∨ sp0 t < sp0 p)) := fun p hp z => by
    rcases R.1 p hp with y | y | y
    · rcases hst p hp z with x | x <;> rw [y] at x <;> exact absurd x (by decide)
    · rcases hst p hp z with x | x <;> rw [y] at x <;> exact absurd x (by decide)
    · rcases hst p hp z with x | x
      · refine ⟨fun _ => .inl (y.1.symm.trans x), fun _ => ?_⟩
        rw [e0]
        exact Int32.lt_of_le_of_lt (G.2.1 t ht) ((R.2.2 p hp).1 x)
      · have e1 : sp p = sp0 p := (R.2.2 p hp).2 (by rw [x]; decide)
        rw [e0, e1]
        refine ⟨.inr, fun w => w.elim (fun w => ?_) id⟩
        rw [y.1, w] at x
        exact absurd x (by decide)
  constructor
  · intro h
    refine ⟨fun z => h (.inr (.inl (e0.trans z))), fun ⟨p, hp, z, w⟩ => h (.inr (.inr ⟨p, hp, z, (key p hp z).mpr w⟩))⟩
  · intro h z
    rcases z with z | z | ⟨p, hp, z, w⟩
    · exact hs z
    · exact h.1 (e0.symm.trans z)
    · exact h.2 ⟨p, hp, z, (key p hp z).mp w⟩
theorem jq_stp {N : Nat} {lim keep sub ff : Int32} {lv sp0 fa np op ex st sp : Nat → Int32} {t : Nat} {w : Int32} (G : jq_G N sub lv sp0 np op) (L : ∀ t, t < N → jq_L N sub lv sp0 fa np op ex t) (R : jq_R N sub lv sp0 fa np op ex st sp) (ht : t < N) (h0 : st t = 0) (D : ja_D N lim keep sub ff lv sp np op st t w) : jq_R N sub lv sp0 fa np op ex (upd st t w) sp := by
  have hN := G.1
  -- what a step to w asks for
  have main : ∀ w : Int32, ¬ w = 2 → (w = 1 ∨ (w = ex t ∧ ¬ w = 0 ∧ ¬ w = 1)) → (w = 1 → ¬ jq_A N sub lv np op ex t ∧ (∀ p, p < N → ja_E np op t p → st p = 2 ∨ st p = 3) ∧ (¬ nI t = sub → ¬ jq_F N sp0 np ex t) ∧ (lv t = 1 → ja_si N sub st 1)) → jq_R N sub lv sp0 fa np op ex (upd st t w) sp := by
    intro w h2 hw h1
    have ne : ∀ p, ¬ st p = 0 → p ≠ t := fun p z y => z (by rw [y]; exact h0)
    have n23 : ∀ p, st p = 2 ∨ st p = 3 → ¬ st p = 0 := fun p z y => by
      rcases z with z | z <;> rw [y] at z <;> exact absurd z (by decide)
    have lift : ∀ x, ¬ jq_A N sub lv np op ex x ∧ (∀ p, p < N → ja_E np op x p → st p = 2 ∨ st p = 3) ∧ (¬ nI x = sub → ¬ jq_F N sp0 np ex x) ∧ (lv x = 1 → ja_si N sub st 1) → ¬ jq_A N sub lv np op ex x ∧ (∀ p, p < N → ja_E np op x p → upd st t w p = 2 ∨ upd st t w p = 3) ∧ (¬ nI x = sub → ¬ jq_F N sp0 np ex x) ∧ (lv x = 1 → ja_si N sub (upd st t w) 1) := by
      intro x ⟨a, b, c, d⟩
      refine ⟨a, fun p hp hE => ?_, c, fun z => ?_⟩
      · rw [pk_un (ne p (n23 p (b p hp hE)))]
        exact b p hp hE
      · obtain ⟨s, hs, e, y⟩ := d z
        exact ⟨s, hs, e, by rw [pk_un (ne s (by rw [y]; decide))]; exact y⟩
    refine ⟨fun x hx => ?_, fun x hx z => ?_, fun x hx => ?_⟩
    · by_cases y : x = t
      · subst y
        rw [pk_us]
        exact hw.elim (fun z => .inr (.inl z)) (fun z => .inr (.inr z))
      · rw [pk_un y]
        exact R.1 x hx
    · by_cases y : x = t
      · subst y
        rw [pk_us] at z
        exact lift x (h1 z)
      · rw [pk_un y] at z
        exact lift x (R.2.1 x hx z)
    · by_cases y : x = t
      · subst y
        rw [pk_us]
        exact ⟨fun z => absurd z h2, fun _ => (R.2.2 x hx).2 (by rw [h0]; decide)⟩
      · rw [pk_un y]
        exact R.2.2 x hx
  have keep0 : w = 0 → jq_R N sub lv sp0 fa np op ex (upd st t w) sp := fun e => by
    rw [e, ja_u0 h0]
    exact R
  rcases D with d | d | d | d | d | d | d | d
  · obtain ⟨h1, ⟨s, hs, e, z⟩, hw⟩ := d
    subst hw
    have es : ex s = 5 := by
      rcases R.1 s hs with y | y | y
      · rw [y] at z; exact absurd z (by decide)
      · rw [y] at z; exact absurd z (by decide)
      · exact y.1.symm.trans z
    have As : jq_A N sub lv np op ex s := Classical.byContradiction (fun na => by
      have q := ((L s hs).2 na).1 e.symm
      by_cases u : ∃ u, u < N ∧ lv u = 1 ∧ jq_bd ex u
      · rw [q.1 u] at es; exact absurd es (by decide)
      · rw [q.2 u] at es; exact absurd es (by decide))
    have At : jq_A N sub lv np op ex t := by
      rcases As with y | ⟨p, hp, hE, hb⟩
      · exact absurd y.1 (G.2.2.1 s hs e)
      · exact .inl ⟨h1, s, hs, e, p, hp, hE, hb⟩
    exact main 5 (by decide) (.inr ⟨((L t ht).1 At).symm, by decide, by decide⟩) (fun z => absurd z (by decide))
  · exact keep0 d.2.2.2
  · obtain ⟨l, ⟨p, hp, hE, hb⟩, hw⟩ := d
    subst hw
    have At : jq_A N sub lv np op ex t := .inr ⟨p, hp, hE, jq_nb R hp hb⟩
    exact main 5 (by decide) (.inr ⟨((L t ht).1 At).symm, by decide, by decide⟩) (fun z => absurd z (by decide))
  · exact keep0 d.2.2.2
  · exact keep0 d.2.2.2.2
  · obtain ⟨l, hb, hu, hp, hsl', hw⟩ := d
    subst hw
    have hs : ¬ nI t = sub := fun z => hsl' (.inl z)
    have q := ((L t ht).2 (jq_nA hN R l hb hu)).2 hs
    exact main 3 (by decide) (.inr ⟨(q.1 ((jq_fr G L R ht h0 hb hu hs).mp hsl')).symm, by decide, by decide⟩) (fun z => absurd z (by decide))
  · obtain ⟨l, hb, hu, hp, hsl', hm, hw⟩ := d
    subst hw
    refine main 1 (by decide) (.inl rfl) (fun _ => ⟨jq_nA hN R l hb hu, fun p hp hE => jq_gd L R hp (fun y => hu ⟨p, hp, hE, y⟩) (fun y => hb ⟨p, hp, hE, y⟩), fun hs z => ?_, fun z => (l z).2⟩)
    exact (jq_fr G L R ht h0 hb hu hs).mpr z hsl'
  · exact keep0 d.2.2.2.2.2.2
/-- a command ends -/
theorem jq_fin {N : Nat} {sub : Int32} {lv sp0 fa np op ex st sp sp' : Nat → Int32} {t : Nat} {w : Int32} (R : jq_R N sub lv sp0 fa np op ex st sp) (ht : t < N) (h1 : st t = 1) (hw : w = ex t) (h24 : w = 2 ∨ w = 4) (hns : nI t = sub → ∀ y, y < N → lv y = 1 → ¬ st y = 1) (hsp : ∀ i, i ≠ t → sp' i = sp i) (h2 : w = 2 → 7 < sp' t) (h4 : ¬ w = 2 → sp' t = sp t) : jq_R N sub lv sp0 fa np op ex (upd st t w) sp' := by
  have ne : ∀ p, ¬ st p = 1 → p ≠ t := fun p z y => z (by rw [y]; exact h1)
  have n23 : ∀ p, st p = 2 ∨ st p = 3 → ¬ st p = 1 := fun p z y => by
    rcases z with z | z <;> rw [y] at z <;> exact absurd z (by decide)
  have w1 : ¬ w = 1 := fun y => by rcases h24 with z | z <;> rw [y] at z <;> exact absurd z (by decide)
  have w0 : ¬ w = 0 := fun y => by rcases h24 with z | z <;> rw [y] at z <;> exact absurd z (by decide)
  refine ⟨fun x hx => ?_, fun x hx z => ?_, fun x hx => ?_⟩
  · by_cases y : x = t
    · subst y
      rw [pk_us]
      exact .inr (.inr ⟨hw, w0, w1⟩)
    · rw [pk_un y]
      exact R.1 x hx
  · by_cases y : x = t
    · subst y
      rw [pk_us] at z
      exact absurd z w1
    · rw [pk_un y] at z
      obtain ⟨a, b, c, d⟩ := R.2.1 x hx z
      refine ⟨a, fun p hp hE => ?_, c, fun hl => ?_⟩
      · rw [pk_un (ne p (n23 p (b p hp hE)))]
        exact b p hp hE
      · obtain ⟨s, hs, e, v⟩ := d hl
        by_cases q : s = t
        · subst q
          exact absurd z (hns e.symm x hx hl)
        · exact ⟨s, hs, e, by rw [pk_un q]; exact v⟩
  · by_cases y : x = t
    · subst y
      rw [pk_us]
      exact ⟨h2, fun z => (h4 z).trans ((R.2.2 x hx).2 (by rw [h1]; decide))⟩
    · rw [pk_un y, hsp x y]
      exact R.2.2 x hx
theorem jq_exc {N : Nat} {sub : Int32} {lv sp0 fa np op ex st sp : Nat → Int32} {t : Nat} (L : ∀ t, t < N → jq_L N sub lv sp0 fa np op ex t) (R : jq_R N sub lv sp0 fa np op ex st sp) (ht : t < N) (h1 : st t = 1) (hs : ¬ nI t = sub) : (¬ fa t = 0 → ex t = 4) ∧ (fa t = 0 → ex t = 2) := by
  obtain ⟨a, _, c, _⟩ := R.2.1 t ht h1
  exact (((L t ht).2 a).2 hs).2 (c hs)
theorem jq_exs {N : Nat} {sub : Int32} {lv sp0 fa np op ex st sp : Nat → Int32} {t : Nat} (L : ∀ t, t < N → jq_L N sub lv sp0 fa np op ex t) (R : jq_R N sub lv sp0 fa np op ex st sp) (ht : t < N) (h1 : st t = 1) (hs : nI t = sub) (hd : ¬ ∃ u, u < N ∧ lv u = 1 ∧ ja_und st u) : ((∃ u, u < N ∧ lv u = 1 ∧ ja_bad st u) → ex t = 4) ∧ ((¬ ∃ u, u < N ∧ lv u = 1 ∧ ja_bad st u) → ex t = 2) := by
  obtain ⟨a, _, _, _⟩ := R.2.1 t ht h1
  have q := ((L t ht).2 a).1 hs
  refine ⟨fun ⟨u, hu, hl, hb⟩ => q.1 ⟨u, hu, hl, jq_nb R hu hb⟩, fun h => q.2 (fun ⟨u, hu, hl, hb⟩ => h ⟨u, hu, hl, jq_bn R hu (fun z => hd ⟨u, hu, hl, z⟩) hb⟩)⟩
-- tokens
/-- a RUNNING at the top, b in the sub-build, Lm tokens -/
def jq_T (Lm a b : Nat) : Prop := (a - 1) + (b - 1) + 1 ≤ Lm
theorem jq_fr0 {Lm a b : Nat} (h : jq_T Lm a b) : ja_fr (nI Lm) a b = nI (Lm - 1 - (a - 1) - (b - 1)) := by
  unfold jq_T at h
  unfold ja_fr
  rw [show (1 : Int32) = nI 1 from rfl, pk_sub (by omega), pk_sub (by omega), pk_sub (by omega)]
theorem jq_Tb {Lm a b : Nat} (hL : Lm ≤ 8) (h : jq_T Lm a b) (hm : a = 0 ∨ 0 < ja_fr (nI Lm) a b) : jq_T Lm (a + 1) b := by
  rcases hm with z | z
  · unfold jq_T at h ⊢
    omega
  · rw [jq_fr0 h, ← nI_0, nI_ltI (by omega) (by omega)] at z
    unfold jq_T at h ⊢
    omega
theorem jq_Tc {Lm a b : Nat} (hL : Lm ≤ 8) (h : jq_T Lm a b) (hm : b = 0 ∨ 0 < ja_fr (nI Lm) a b) : jq_T Lm a (b + 1) := by
  rcases hm with z | z
  · unfold jq_T at h ⊢
    omega
  · rw [jq_fr0 h, ← nI_0, nI_ltI (by omega) (by omega)] at z
    unfold jq_T at h ⊢
    omega
theorem jq_Tm {Lm a b a' b' : Nat} (h : jq_T Lm a b) (ha : a' ≤ a) (hb : b' ≤ b) : jq_T Lm a' b' := by
  unfold jq_T at h ⊢
  omega

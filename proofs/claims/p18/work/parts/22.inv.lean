-- p18: all that the run keeps; clk the clock now, sa0 the start times when the last look was taken
def jq_V (N Lm : Nat) (sub clk : Int32) (lv sp0 fa np op ex sa0 st sp sa : Nat → Int32) : Prop :=
  jq_R N sub lv sp0 fa np op ex st sp ∧ jq_T Lm (jc_n (ja_r st lv false) N) (jc_n (ja_r st lv true) N) ∧
  (∀ t, t < N → st t = 0 → sa t = -1) ∧
  (∀ t, t < N → 0 ≤ sa t → ∀ p, p < N → ja_E np op t p → st p = 2 ∨ st p = 3) ∧
  (∀ t, t < N → sa t = sa0 t ∨ (sa0 t = -1 ∧ sa t = clk))
theorem jq_Vs {N Lm : Nat} {keep sub clk ff w : Int32} {lv sp0 fa np op ex sa0 st sp sa : Nat → Int32} {t : Nat} (hLm : Lm ≤ 8) (G : jq_G N sub lv sp0 np op) (L : ∀ t, t < N → jq_L N sub lv sp0 fa np op ex t) (V : jq_V N Lm sub clk lv sp0 fa np op ex sa0 st sp sa) (ht : t < N) (h0 : st t = 0) (D : ja_D N (nI Lm) keep sub ff lv sp np op st t w) : jq_V N Lm sub clk lv sp0 fa np op ex sa0 (upd st t w) sp (ja_sa w clk sa t) := by
  obtain ⟨R, T, A1, B, C⟩ := V
  have R' := jq_stp G L R ht h0 D
  have h1 : ¬ st t = 1 := by rw [h0]; decide
  have ne : ∀ p, st p = 2 ∨ st p = 3 → p ≠ t := fun p z y => by
    rw [y, h0] at z
    exact absurd z (by decide)
  by_cases hw : w = 1
  · subst hw
    have hm : ja_my N (nI Lm) lv st t := by
      rcases D with d | d | d | d | d | d | d | d
      · exact absurd d.2.2 (by decide)
      · exact absurd d.2.2.2 (by decide)
      · exact absurd d.2.2 (by decide)
      · exact absurd d.2.2.2 (by decide)
      · exact absurd d.2.2.2.2 (by decide)
      · exact absurd d.2.2.2.2.2 (by decide)
      · exact d.2.2.2.2.2.1
      · exact absurd d.2.2.2.2.2.2 (by decide)
    rw [ja_sa1]
    refine ⟨R', ?_, fun x hx z => ?_, fun x hx z p hp hE => ?_, fun x hx => ?_⟩
    · have a := ja_cb (lv := lv) ht h1
      have b := ja_cbo (st := st) (lv := lv) (t := t) (N := N)
      by_cases hl : lv t = 1
      · unfold ja_my at hm
        rw [decide_eq_true hl] at a b hm
        have b' : jc_n (ja_r (upd st t 1) lv false) N = jc_n (ja_r st lv false) N := b
        rw [a, b']
        exact jq_Tc hLm T hm
      · unfold ja_my at hm
        rw [decide_eq_false hl] at a b hm
        have b' : jc_n (ja_r (upd st t 1) lv true) N = jc_n (ja_r st lv true) N := b
        rw [a, b']
        exact jq_Tb hLm T hm
    · by_cases y : x = t
      · subst y
        rw [pk_us] at z
        exact absurd z (by decide)
      · rw [pk_un y] at z ⊢
        exact A1 x hx z
    · by_cases y : x = t
      · subst y
        exact (R'.2.1 x hx pk_us).2.1 p hp hE
      · rw [pk_un y] at z
        have q := B x hx z p hp hE
        rw [pk_un (ne p q)]
        exact q
    · by_cases y : x = t
      · subst y
        right
        rw [pk_us]
        have q := A1 x hx h0
        rcases C x hx with c | c
        · exact ⟨by rw [← c]; exact q, rfl⟩
        · exact ⟨c.1, rfl⟩
      · rw [pk_un y]
        exact C x hx
  · rw [ja_sa0 hw]
    refine ⟨R', ?_, fun x hx z => ?_, fun x hx z p hp hE => ?_, C⟩
    · rw [ja_cs h1 hw, ja_cs h1 hw]
      exact T
    · by_cases y : x = t
      · subst y
        exact A1 x hx h0
      · rw [pk_un y] at z
        exact A1 x hx z
    · have q := B x hx z p hp hE
      rw [pk_un (ne p q)]
      exact q
theorem jq_Vf {N Lm : Nat} {sub clk w : Int32} {lv sp0 fa np op ex sa0 st sp sp' sa : Nat → Int32} {t : Nat} (V : jq_V N Lm sub clk lv sp0 fa np op ex sa0 st sp sa) (ht : t < N) (h1 : st t = 1) (hw : w = ex t) (h24 : w = 2 ∨ w = 4) (hns : nI t = sub → ∀ y, y < N → lv y = 1 → ¬ st y = 1) (hsp : ∀ i, i ≠ t → sp' i = sp i) (h2 : w = 2 → 7 < sp' t) (h4 : ¬ w = 2 → sp' t = sp t) : jq_V N Lm sub clk lv sp0 fa np op ex sa0 (upd st t w) sp' sa := by
  obtain ⟨R, T, A1, B, C⟩ := V
  have w1 : ¬ w = 1 := fun y => by rcases h24 with z | z <;> rw [y] at z <;> exact absurd z (by decide)
  have w0 : ¬ w = 0 := fun y => by rcases h24 with z | z <;> rw [y] at z <;> exact absurd z (by decide)
  refine ⟨jq_fin R ht h1 hw h24 hns hsp h2 h4, ?_, fun x hx z => ?_, fun x hx z p hp hE => ?_, C⟩
  · have a := ja_ce (lv := lv) ht h1 w1
    have b := ja_ceo (st := st) (lv := lv) (t := t) (N := N) (s := w)
    refine jq_Tm T ?_ ?_
    · by_cases hl : lv t = 1
      · rw [decide_eq_true hl] at b
        have b' : jc_n (ja_r st lv false) N = jc_n (ja_r (upd st t w) lv false) N := b
        omega
      · rw [decide_eq_false hl] at a
        omega
    · by_cases hl : lv t = 1
      · rw [decide_eq_true hl] at a
        omega
      · rw [decide_eq_false hl] at b
        have b' : jc_n (ja_r st lv true) N = jc_n (ja_r (upd st t w) lv true) N := b
        omega
  · by_cases y : x = t
    · subst y
      rw [pk_us] at z
      exact absurd z w0
    · rw [pk_un y] at z
      exact A1 x hx z
  · have q := B x hx z p hp hE
    have ne : p ≠ t := fun y => by
      rw [y, h1] at q
      exact absurd q (by decide)
    rw [pk_un ne]
    exact q
/-- a new look: the start times are taken as they are -/
theorem jq_Vn {N Lm : Nat} {sub clk clk' : Int32} {lv sp0 fa np op ex sa0 st sp sa : Nat → Int32} (V : jq_V N Lm sub clk lv sp0 fa np op ex sa0 st sp sa) : jq_V N Lm sub clk' lv sp0 fa np op ex sa st sp sa :=
  ⟨V.1, V.2.1, V.2.2.1, V.2.2.2.1, fun _ _ => .inl rfl⟩

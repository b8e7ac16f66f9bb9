-- p18: the law's steps
variable {N Lm : Nat} {sub clk sta ff : Int32} {lv sp0 sp du fa np op st sa fi re ex sa0 : Nat → Int32} {post : Int32 → Prop} {L : Nat} {xs : Nat → Int32} {mr mf ms mu : Int64} {kc ks : Nat} {x16 : Int32} {x17 x19 : Int64} {x21 : Int32}
/-- every prerequisite of what has started is REMADE or UPTODATE -/
theorem jl_910 {J755 : Int32 → Int64 → Int64 → Int32 → Int32 → Int32 → Int32 → Int32 → Int32 → Int32 → Int32 → Int32 → Int32 → (Nat → Int32) → (Nat → Int32) → (Nat → Int32) → (Nat → Int32) → (Nat → Int32) → (Nat → Int32) → (Nat → Int32) → (Nat → Int32) → (Nat → Int32) → (Nat → Int32) → Prop} {J816 : Int32 → Int64 → Int64 → Int64 → Int32 → Prop} {x22 x30 : Int32} {x23 x25 x27 x31 : Int64} {t : Nat} (hN : N ≤ 16) (ht : t < N) (hB : ∀ p, p < N → ja_E np op t p → st p = 2 ∨ st p = 3) (H : J816 x22 x23 (x25 ||| x31) (x27 + (nI t + 1).toInt64 * x30.toInt64) (nI (t + 1))) : ∀ d i, i + d = N → wL_law_910 post L xs J755 J816 (nI N) (nI Lm) mr mf ms mu x16 x17 x19 x21 x22 x23 x25 x27 (nI t) x30 x31 kc ks (nI N) (nI Lm) 1 sub clk sta ff (nI (jc_n (ja_r st lv false) N)) (nI (jc_n (ja_r st lv true) N)) lv sp du fa np op st sa fi re (d + 1) (nI i) := by
  intro d
  induction d with
  | zero =>
    intro i hi
    have e : i = N := by omega
    subst e
    exact br_t (nI_le (Nat.le_refl _) (by omega)) (nm_e (nm_e (nm_r (nI_1 t) H)))
  | succ d ih =>
    intro i hi
    have hiN : i < N := by omega
    have z := ih (i + 1) (by omega)
    refine br_f (nI_ge (by omega) (by omega)) (jx_prereqKind (by omega) ht hiN ?_)
    by_cases hE : ja_E np op t i
    · refine br_f (ja_kn.mpr hE) (jx_status (by omega) hiN ?_)
      rcases hB i hiN hE with h | h
      · exact br_t h (nm_r (nI_1 i) z)
      · exact br_f (by rw [h]; decide) (br_t h (nm_r (nI_1 i) z))
    · exact br_t (Classical.byContradiction (fun y => hE (ja_kn.mp y))) (nm_r (nI_1 i) z)
/-- at the end each status is the expected one -/
theorem jl_1027 {J755 : Int32 → Int64 → Int64 → Int32 → Int32 → Int32 → Int32 → Int32 → Int32 → Int32 → Int32 → Int32 → Int32 → (Nat → Int32) → (Nat → Int32) → (Nat → Int32) → (Nat → Int32) → (Nat → Int32) → (Nat → Int32) → (Nat → Int32) → (Nat → Int32) → (Nat → Int32) → (Nat → Int32) → Prop} {md : Int64} {stp : Nat} (hN : N ≤ 16) (hM : jm_M N (fun _ => true) ex md mr mf ms mu) (hex : ∀ t, t < N → ex t = 2 ∨ ex t = 3 ∨ ex t = 4 ∨ ex t = 5) (hst : ∀ t, t < N → st t = ex t) (H : J755 x16 x17 x19 (nI (stp + 1)) (nI N) (nI Lm) 1 sub clk sta ff (nI (jc_n (ja_r st lv false) N)) (nI (jc_n (ja_r st lv true) N)) lv sp du fa np op st sa fi re) : ∀ d i, i + d = N → wL_law_1027 post L xs J755 (nI N) (nI Lm) mr mf ms mu x16 x17 x19 (nI stp) kc ks (nI N) (nI Lm) 1 sub clk sta ff (nI (jc_n (ja_r st lv false) N)) (nI (jc_n (ja_r st lv true) N)) lv sp du fa np op st sa fi re (d + 1) (nI i) := by
  intro d
  induction d with
  | zero =>
    intro i hi
    have e : i = N := by omega
    subst e
    exact br_t (nI_le (Nat.le_refl _) (by omega)) (nm_r (nI_1 stp) H)
  | succ d ih =>
    intro i hi
    have hiN : i < N := by omega
    have z := ih (i + 1) (by omega)
    obtain ⟨_, br, bf, bs, bu⟩ := hM i hiN
    rw [Bool.true_and] at br bf bs bu
    have fin : ∀ w : Int32, ex i = w → wL_law_1091 post L xs J755 (wL_law_1027 post L xs J755 (nI N) (nI Lm) mr mf ms mu x16 x17 x19 (nI stp) kc ks (nI N) (nI Lm) 1 sub clk sta ff (nI (jc_n (ja_r st lv false) N)) (nI (jc_n (ja_r st lv true) N)) lv sp du fa np op st sa fi re (d + 1)) (nI N) (nI Lm) mr mf ms mu x16 x17 x19 (nI stp) (nI i) w kc ks (nI N) (nI Lm) 1 sub clk sta ff (nI (jc_n (ja_r st lv false) N)) (nI (jc_n (ja_r st lv true) N)) lv sp du fa np op st sa fi re := fun w e => by
      unfold wL_law_1091
      refine jx_status (by omega) hiN ?_
      exact br_t ((hst i hiN).trans e) (nm_r (nI_1 i) z)
    have yes : ∀ {m : Int64} {w : Int32}, jm_b m i = decide (ex i = w) → ex i = w → jm_b m i = true := fun a b => by rw [a]; exact decide_eq_true b
    have no : ∀ {m : Int64} {w : Int32}, jm_b m i = decide (ex i = w) → ¬ ex i = w → ¬ jm_b m i = true := fun a b => by rw [a, decide_eq_false b]; decide
    refine br_f (nI_ge (by omega) (by omega)) ?_
    rcases hex i hiN with e | e | e | e
    · exact jm_bit (by omega) (fun _ => br_f ja_i1 (fin 2 e)) (fun y => absurd (yes br e) y)
    · have n2 : ¬ ex i = 2 := by rw [e]; decide
      exact jm_bit (by omega) (fun y => absurd y (no br n2)) (fun _ => br_t rfl (jm_bit (by omega) (fun _ => br_f ja_i1 (fin 3 e)) (fun y => absurd (yes bu e) y)))
    · have n2 : ¬ ex i = 2 := by rw [e]; decide
      have n3 : ¬ ex i = 3 := by rw [e]; decide
      exact jm_bit (by omega) (fun y => absurd y (no br n2)) (fun _ => br_t rfl (jm_bit (by omega) (fun y => absurd y (no bu n3)) (fun _ => br_t rfl (jm_bit (by omega) (fun _ => br_f ja_i1 (fin 4 e)) (fun y => absurd (yes bf e) y)))))
    · have n2 : ¬ ex i = 2 := by rw [e]; decide
      have n3 : ¬ ex i = 3 := by rw [e]; decide
      have n4 : ¬ ex i = 4 := by rw [e]; decide
      exact jm_bit (by omega) (fun y => absurd y (no br n2)) (fun _ => br_t rfl (jm_bit (by omega) (fun y => absurd y (no bu n3)) (fun _ => br_t rfl (jm_bit (by omega) (fun y => absurd y (no bf n4)) (fun _ => br_t rfl (jm_bit (by omega) (fun _ => br_f ja_i1 (fin 5 e)) (fun y => absurd (yes bs e) y)))))))
/-- a look -/
theorem jl_816 {J755 : Int32 → Int64 → Int64 → Int32 → Int32 → Int32 → Int32 → Int32 → Int32 → Int32 → Int32 → Int32 → Int32 → (Nat → Int32) → (Nat → Int32) → (Nat → Int32) → (Nat → Int32) → (Nat → Int32) → (Nat → Int32) → (Nat → Int32) → (Nat → Int32) → (Nat → Int32) → (Nat → Int32) → Prop} {md : Int64} {stp : Nat} (hN : N ≤ 16) (hLm : Lm ≤ 8) (hLm1 : 1 ≤ Lm) (hM : jm_M N (fun _ => true) ex md mr mf ms mu) (hL : ∀ t, t < N → jq_L N sub lv sp0 fa np op ex t) (h2 : ∀ s, s < N → sub = nI s → lv s = 2) (V : jq_V N Lm sub clk lv sp0 fa np op ex sa0 st sp sa) (h17 : ∀ t, t < N → jm_b x17 t = jq_P sa0 t) (h19 : x19 = jm_s (jq_P sa0) (jq_g sa0) N) (H : ∀ x17' x19' : Int64, (∀ t, t < N → jm_b x17' t = jq_P sa t) → x19' = jm_s (jq_P sa) (jq_g sa) N → J755 clk x17' x19' (nI (stp + 1)) (nI N) (nI Lm) 1 sub clk sta ff (nI (jc_n (ja_r st lv false) N)) (nI (jc_n (ja_r st lv true) N)) lv sp du fa np op st sa fi re) : ∀ d i, i + d = N → ∀ x25 : Int64, (∀ t, t < N → jm_b x25 t = (decide (t < i) && jq_Q sa0 sa t)) → wL_law_816 post L xs J755 (nI N) (nI Lm) mr mf ms mu clk x17 x19 (nI stp) kc ks (nI N) (nI Lm) 1 sub clk sta ff (nI (jc_n (ja_r st lv false) N)) (nI (jc_n (ja_r st lv true) N)) lv sp du fa np op st sa fi re (d + 1) (nI (jc_n (jq_rn st lv) i)) (jm_s (jq_P sa0) (jq_g sa) i) x25 (jm_s (jq_Q sa0 sa) (jq_g sa) i) (nI i) := by
  intro d
  induction d with
  | zero =>
    intro i hi x25 h25
    have e : i = N := by omega
    subst e
    have sm := jq_sum V
    have rb := jq_rb hLm1 h2 V
    have k17 : ∀ t, t < i → jm_b (x17 ||| x25) t = jq_P sa t := fun t ht => by
      rw [jm_or, h17 t ht, h25 t ht, decide_eq_true ht, Bool.true_and]
      have q := jq_PQ V ht
      cases a : jq_P sa t with
      | true =>
        rcases q.1.mp a with y | y
        · rw [y, Bool.true_or]
        · rw [y, Bool.or_true]
      | false =>
        cases b : jq_P sa0 t with
        | true => exact absurd (q.1.mpr (.inl b)) (by rw [a]; decide)
        | false =>
          cases c : jq_Q sa0 sa t with
          | true => exact absurd (q.1.mpr (.inr c)) (by rw [a]; decide)
          | false => rfl
    have k19 : x19 + jm_s (jq_Q sa0 sa) (jq_g sa) i = jm_s (jq_P sa) (jq_g sa) i := by rw [h19, sm.2]
    refine br_t (nI_le (Nat.le_refl _) (by omega)) (br_t (nI_le rb (by omega)) (br_t (by rw [sm.1, h19]) (nm_e (nm_e ?_))))
    refine jx_isQuiet (by omega) (fun y => br_f ja_i1 ⟨i + 1, ?_⟩) (fun _ => br_t rfl (nm_r (nI_1 stp) (H _ _ k17 k19)))
    refine jl_1027 hN hM (fun t ht => jq_ok (hL t ht)) (fun t ht => ?_) (H _ _ k17 k19) i 0 (by omega)
    rcases V.1.1 t ht with w | w | w
    · exact absurd ⟨t, ht, .inl w⟩ y.2
    · exact absurd ⟨t, ht, .inr w⟩ y.2
    · exact w.1
  | succ d ih =>
    intro i hi x25 h25
    have hiN : i < N := by omega
    have see := jq_see V hiN
    -- 845, for any number of running ones that is right
    have low : ∀ t, t < N → t ≠ i → decide (t < i) = decide (t < i + 1) := fun t _ h => by
      by_cases y : t < i
      · rw [decide_eq_true y, decide_eq_true (by omega)]
      · rw [decide_eq_false y, decide_eq_false (by omega)]
    have same : jq_Q sa0 sa i = false → ∀ t, t < N → jm_b x25 t = (decide (t < i + 1) && jq_Q sa0 sa t) := fun hq t ht => by
      rw [h25 t ht]
      by_cases y : t = i
      · subst y
        rw [hq, Bool.and_false, Bool.and_false]
      · rw [low t ht y]
    have k845 : wL_law_845 post L xs J755 (wL_law_816 post L xs J755 (nI N) (nI Lm) mr mf ms mu clk x17 x19 (nI stp) kc ks (nI N) (nI Lm) 1 sub clk sta ff (nI (jc_n (ja_r st lv false) N)) (nI (jc_n (ja_r st lv true) N)) lv sp du fa np op st sa fi re (d + 1)) (nI N) (nI Lm) mr mf ms mu clk x17 x19 (nI stp) (nI (jc_n (jq_rn st lv) (i + 1))) (jm_s (jq_P sa0) (jq_g sa) i) x25 (jm_s (jq_Q sa0 sa) (jq_g sa) i) (nI i) kc ks (nI N) (nI Lm) 1 sub clk sta ff (nI (jc_n (ja_r st lv false) N)) (nI (jc_n (ja_r st lv true) N)) lv sp du fa np op st sa fi re := by
      unfold wL_law_845
      refine jx_startedAt (by omega) hiN (nm_e ?_)
      by_cases hp : 0 ≤ sa0 i
      · have hb : ¬ (x17 &&& ((1 : Int64) <<< ((nI i).toInt64 &&& 63))) = 0 := fun y => by
          have w := (jm_a1 x17 (t := i) (by omega)).mp y
          rw [h17 i hiN, jq_Pt.mpr hp] at w
          exact absurd w (by decide)
        have hsa : 0 ≤ sa i := by rw [see.1 hp]; exact hp
        have hq : jq_Q sa0 sa i = false := by
          cases w : jq_Q sa0 sa i with
          | false => rfl
          | true => exact absurd hp (jq_Qt.mp w).1
        have z := ih (i + 1) (by omega) x25 (same hq)
        rw [jm_st (jq_Pt.mpr hp), jm_sf (by rw [hq]; decide)] at z
        exact br_f hb (br_t hsa (nm_e (nm_r (nI_1 i) z)))
      · have hb : (x17 &&& ((1 : Int64) <<< ((nI i).toInt64 &&& 63))) = 0 := by
          rw [jm_a1 x17 (by omega), h17 i hiN]
          cases w : jq_P sa0 i with
          | false => rfl
          | true => exact absurd (jq_Pt.mp w) hp
        refine br_t hb ?_
        by_cases hsa : 0 ≤ sa i
        · have hq : jq_Q sa0 sa i = true := jq_Qt.mpr ⟨hp, hsa⟩
          have z := ih (i + 1) (by omega) (x25 ||| ((1 : Int64) <<< ((nI i).toInt64 &&& 63))) (fun t ht => by
            rw [jm_o1 x25 (by omega) (by omega), h25 t ht]
            by_cases y : t = i
            · subst y
              rw [hq, decide_eq_true (show t = t from rfl), Bool.or_true, decide_eq_true (show t < t + 1 by omega)]
              rfl
            · rw [decide_eq_false y, Bool.or_false, low t ht y])
          rw [jm_sf (by rw [jq_Pt]; exact hp), jm_st hq] at z
          refine br_f (Int32.not_lt.mpr hsa) (br_t (see.2 hp hsa) ⟨N + 1, ?_⟩)
          exact jl_910 hN hiN (fun p hp' hE => V.2.2.2.1 i hiN hsa p hp' hE) z N 0 (by omega)
        · have hq : jq_Q sa0 sa i = false := by
            cases w : jq_Q sa0 sa i with
            | false => rfl
            | true => exact absurd (jq_Qt.mp w).2 hsa
          have z := ih (i + 1) (by omega) x25 (same hq)
          rw [jm_sf (by rw [jq_Pt]; exact hp), jm_sf (by rw [hq]; decide)] at z
          exact br_t (Int32.not_le.mp hsa) (nm_r (nI_1 i) z)
    refine br_f (nI_ge (by omega) (by omega)) (jx_status (by omega) hiN ?_)
    by_cases h1 : st i = 1
    · refine br_t h1 (jx_level (by omega) hiN ?_)
      by_cases hl : lv i = 2
      · have a : jq_rn st lv i = false := by unfold jq_rn; rw [decide_eq_true hl, Bool.not_true, Bool.and_false]
        rw [jc_sf a] at k845
        exact br_t hl k845
      · have a : jq_rn st lv i = true := by unfold jq_rn; rw [decide_eq_true h1, decide_eq_false hl]; rfl
        rw [jc_st a] at k845
        exact br_f hl (nm_r (nI_1 _) k845)
    · have a : jq_rn st lv i = false := by unfold jq_rn; rw [decide_eq_false h1, Bool.false_and]
      rw [jc_sf a] at k845
      exact br_f h1 k845
theorem jl_792 {J755 : Int32 → Int64 → Int64 → Int32 → Int32 → Int32 → Int32 → Int32 → Int32 → Int32 → Int32 → Int32 → Int32 → (Nat → Int32) → (Nat → Int32) → (Nat → Int32) → (Nat → Int32) → (Nat → Int32) → (Nat → Int32) → (Nat → Int32) → (Nat → Int32) → (Nat → Int32) → (Nat → Int32) → Prop} {md : Int64} {stp : Nat} (hN : N ≤ 16) (hLm : Lm ≤ 8) (hLm1 : 1 ≤ Lm) (hM : jm_M N (fun _ => true) ex md mr mf ms mu) (hL : ∀ t, t < N → jq_L N sub lv sp0 fa np op ex t) (h2 : ∀ s, s < N → sub = nI s → lv s = 2) (V : jq_V N Lm sub clk lv sp0 fa np op ex sa0 st sp sa) (h17 : ∀ t, t < N → jm_b x17 t = jq_P sa0 t) (h19 : x19 = jm_s (jq_P sa0) (jq_g sa0) N) (H : ∀ x17' x19' : Int64, (∀ t, t < N → jm_b x17' t = jq_P sa t) → x19' = jm_s (jq_P sa) (jq_g sa) N → J755 clk x17' x19' (nI (stp + 1)) (nI N) (nI Lm) 1 sub clk sta ff (nI (jc_n (ja_r st lv false) N)) (nI (jc_n (ja_r st lv true) N)) lv sp du fa np op st sa fi re) : wL_law_792 post L xs J755 (nI N) (nI Lm) mr mf ms mu clk x17 x19 (nI stp) kc ks (nI N) (nI Lm) 1 sub clk sta ff (nI (jc_n (ja_r st lv false) N)) (nI (jc_n (ja_r st lv true) N)) lv sp du fa np op st sa fi re := by
  unfold wL_law_792
  refine jx_tokensFree (Nat.le_trans (jc_le _ N) (by omega)) (Nat.le_trans (jc_le _ N) (by omega)) ?_
  rw [jq_fr0 V.2.1]
  refine br_t (nI_pos' (by omega)) ⟨N + 1, ?_⟩
  exact jl_816 hN hLm hLm1 hM hL h2 V h17 h19 H N 0 (by omega) 0 (fun t _ => by rw [jm_0, decide_eq_false (by omega), Bool.false_and])
/-- the steps behind the first look -/
theorem jl_755 {md : Int64} (hN : N ≤ 16) (hLm : Lm ≤ 8) (hLm1 : 1 ≤ Lm) (hS : ja_S N sub) (G : jq_G N sub lv sp0 np op) (hM : jm_M N (fun _ => true) ex md mr mf ms mu) (hL : ∀ t, t < N → jq_L N sub lv sp0 fa np op ex t) (h2 : ∀ s, s < N → sub = nI s → lv s = 2) (hp : post 1) : ∀ d stp, stp + d = 800 → 1 ≤ stp → ∀ (c : Nat) (ff : Int32) (sp st sa fi re : Nat → Int32) (x17 x19 : Int64), c ≤ stp → jq_V N Lm sub (nI c) lv sp0 fa np op ex sa st sp sa → (∀ t, t < N → jm_b x17 t = jq_P sa t) → x19 = jm_s (jq_P sa) (jq_g sa) N → wL_law_755 post L xs (nI N) (nI Lm) mr mf ms mu kc ks (d + 1) (nI c) x17 x19 (nI stp) (nI N) (nI Lm) 1 sub (nI c) 1 ff (nI (jc_n (ja_r st lv false) N)) (nI (jc_n (ja_r st lv true) N)) lv sp du fa np op st sa fi re := by
  intro d
  induction d with
  | zero =>
    intro stp hs _ c ff sp st sa fi re x17 x19 _ _ _ _
    have e : stp = 800 := by omega
    subst e
    exact br_t (nI_le (Nat.le_refl _) (by omega)) hp
  | succ d ih =>
    intro stp hs h1 c ff sp st sa fi re x17 x19 hc V h17 h19
    refine br_f (nI_ge (b := 800) (by omega) (by omega)) (br_f (nI_nle (by omega) (by omega)) ?_)
    by_cases hq : ∃ t, t < N ∧ ja_und st t
    · obtain ⟨m, ff', sp', st', sa', fi', re', k0, k1, k2⟩ := jp_tick (sta := 1) (ff := ff) (du := du) (fi := fi) (re := re) (cl := c) (by omega) hLm hS G hL (by decide) hq V
      refine jx_isQuiet (by omega) (fun y => absurd hq y.2) (fun _ => br_t rfl (k2 _ ?_))
      refine br_f (nI_pos (by omega)) (nm_r (nI_1 c) ?_)
      exact jl_792 hN hLm hLm1 hM hL h2 k1 h17 h19 (fun x17' x19' a b => ih (stp + 1) (by omega) (by omega) (c + 1) ff' sp' st' sa' fi' re' x17' x19' (by omega) (jq_Vn k1) a b)
    · exact jx_isQuiet (by omega) (fun _ => br_f ja_i1 hp) (fun y => absurd ⟨by decide, hq⟩ y)

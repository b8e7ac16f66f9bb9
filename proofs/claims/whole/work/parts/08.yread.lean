-- the reference's readers
variable {N : Nat} {lim keep sub clk sta ff : Int32} {lv sp du fa np op st sa fi lf kd rc : Nat → Int32} {post : Int32 → Prop}
theorem jy_ix (t p : Nat) : nI t * 32 + nI p = nI (t * 32 + p) := by
  rw [show (32 : Int32) = nI 32 from rfl, pk_mul, nI_add]
theorem jy_in_t {j : Nat} (hN : N ≤ 32) (hj : j < N) (hp : post 1) : wpY_in post (ja_Y N lim keep sub clk sta ff lv sp du fa st sa fi lf kd rc) (nI j) :=
  br_f (nI_pos (by omega)) (br_f (nI_ge hj (by omega)) (hp))
theorem jy_in_f {v : Int32} (h : v < 0 ∨ nI N ≤ v) (hp : post 0) : wpY_in post (ja_Y N lim keep sub clk sta ff lv sp du fa st sa fi lf kd rc) v := by
  by_cases h0 : v < 0
  · exact br_t h0 (hp)
  · exact br_f h0 (br_t (h.resolve_left h0) (hp))
theorem jy_isSub {t : Nat} (ht : t < 32) (h1 : lv t = 1 → post 1) (h0 : ¬ lv t = 1 → post 0) : wpY_isSub post (ja_Y N lim keep sub clk sta ff lv sp du fa st sa fi lf kd rc) (nI t) := by
  refine ⟨vp_in_nI ht (by omega), ?_⟩
  rw [nI_clamp (by omega)]
  exact br_c (fun h => (h1 h)) (fun h => (h0 h))
theorem jy_running (b : Bool) (hN : N ≤ 32) (y : Int32) (hy : y = if b = true then 1 else 0) (hp : post (nI (jc_n (ja_r st lv b) N))) : wpY_running post (ja_Y N lim keep sub clk sta ff lv sp du fa st sa fi lf kd rc) y := by
  refine js_ct (fun n i c => wY_running_4 post y (nI N) lim keep sta ff clk sub lv sp du fa st sa fi lf kd rc n (nI c) (nI i)) (ja_r st lv b) N ?_ ?_ ?_
  · intro n
    exact br_t (nI_le (Nat.le_refl _) (by omega)) hp
  · intro n i c hi hc hq hw
    refine br_f (nI_ge hi (by omega)) ⟨vp_in_nI (by omega) (by omega), ?_⟩
    rw [nI_clamp (by omega)]
    unfold ja_r at hq
    rw [Bool.and_eq_true, decide_eq_true_eq] at hq
    refine br_t hq.1 (jy_isSub (by omega) (fun hl => ?_) (fun hl => ?_))
    · rw [decide_eq_true hl] at hq
      refine br_t ?_ (nm_r (nI_1 c) (nm_r (nI_1 i) hw))
      rw [hy]
      cases b with
      | true => rfl
      | false => exact absurd hq.2 (by decide)
    · rw [decide_eq_false hl] at hq
      refine br_t ?_ (nm_r (nI_1 c) (nm_r (nI_1 i) hw))
      rw [hy]
      cases b with
      | false => rfl
      | true => exact absurd hq.2 (by decide)
  · intro n i c hi hc hq hw
    refine br_f (nI_ge hi (by omega)) ⟨vp_in_nI (by omega) (by omega), ?_⟩
    rw [nI_clamp (by omega)]
    unfold ja_r at hq
    by_cases h1 : st i = 1
    · rw [decide_eq_true h1, Bool.true_and] at hq
      refine br_t h1 (jy_isSub (by omega) (fun hl => ?_) (fun hl => ?_))
      · rw [decide_eq_true hl] at hq
        refine br_f ?_ (nm_r (nI_1 i) hw)
        rw [hy]
        cases b with
        | true => exact absurd hq (by decide)
        | false => decide
      · rw [decide_eq_false hl] at hq
        refine br_f ?_ (nm_r (nI_1 i) hw)
        rw [hy]
        cases b with
        | false => exact absurd hq (by decide)
        | true => decide
    · exact br_f h1 (nm_r (nI_1 i) hw)
theorem jy_free (hN : N ≤ 32) (h : post (ja_fr lim (jc_n (ja_r st lv false) N) (jc_n (ja_r st lv true) N))) : wpY_free post (ja_Y N lim keep sub clk sta ff lv sp du fa st sa fi lf kd rc) := by
  have ha := Nat.le_trans (jc_le (ja_r st lv false) N) hN
  have hb := Nat.le_trans (jc_le (ja_r st lv true) N) hN
  have e : ∀ c, 1 < c → nI c - 1 = nI (c - 1) := fun c hc => by
    obtain ⟨d, rfl⟩ : ∃ d, c = d + 1 := ⟨c - 1, by omega⟩
    exact nI_pred d
  have e0 : ∀ c, c ≤ 1 → nI (c - 1) = 0 := fun c hc => by
    rw [show c - 1 = 0 by omega]
    rfl
  unfold wpY_free
  dsimp only
  refine jy_running false hN 0 rfl ?_
  refine jy_running true hN 1 rfl ?_
  unfold ja_fr at h
  generalize jc_n (ja_r st lv false) N = a at *
  generalize jc_n (ja_r st lv true) N = b at *
  refine pk_le a 1 (fun h1 => ?_) (fun h1 => ?_)
  · refine pk_le b 1 (fun h2 => ?_) (fun h2 => ?_)
    · rw [e0 a h1, e0 b h2] at h
      exact h
    · rw [e0 a h1, ← e b h2] at h
      exact h
  · refine pk_le b 1 (fun h2 => ?_) (fun h2 => ?_)
    · rw [← e a h1, e0 b h2] at h
      exact h
    · rw [← e a h1, ← e b h2] at h
      exact h
theorem jy_mayStart {t : Nat} (hN : N ≤ 32) (ht : t < 32) (hS : ja_S N sub) (hl : lv t = 1 → ja_si N sub st 1) (h1 : ja_my N lim lv st t → post 1) (h0 : ¬ ja_my N lim lv st t → post 0) : wpY_mayStart post (ja_Y N lim keep sub clk sta ff lv sp du fa st sa fi lf kd rc) (nI t) := by
  have ha := Nat.le_trans (jc_le (ja_r st lv false) N) hN
  have hb := Nat.le_trans (jc_le (ja_r st lv true) N) hN
  unfold wpY_mayStart
  dsimp only
  refine jy_isSub ht (fun hs => br_f ja_i1 ?_) (fun hs => br_t rfl ?_)
  · obtain ⟨s, hsN, e, hst⟩ := hl hs
    subst e
    have hd : decide (lv t = 1) = true := decide_eq_true hs
    refine br_f (nI_pos (by omega)) ⟨vp_in_nI (by omega) (by omega), ?_⟩
    rw [nI_clamp (by omega)]
    refine br_t hst ?_
    refine jy_running true hN 1 rfl ?_
    refine pk_eq (jc_n (ja_r st lv true) N) 0 (fun hz => (h1 (.inl (by rw [hd]; exact hz)))) (fun hz => ?_)
    refine jy_free hN ?_
    refine br_c (fun z => (h0 ?_)) (fun z => (h1 (.inr (Int32.not_le.mp z))))
    intro y
    rcases y with y | y
    · rw [hd] at y
      exact hz y
    · exact Int32.not_lt.mpr z y
  · have hd : decide (lv t = 1) = false := decide_eq_false hs
    refine jy_running false hN 0 rfl ?_
    refine pk_eq (jc_n (ja_r st lv false) N) 0 (fun hz => (h1 (.inl (by rw [hd]; exact hz)))) (fun hz => ?_)
    refine jy_free hN ?_
    refine br_c (fun z => (h0 ?_)) (fun z => (h1 (.inr (Int32.not_le.mp z))))
    intro y
    rcases y with y | y
    · rw [hd] at y
      exact hz y
    · exact Int32.not_lt.mpr z y
theorem jy_stale {t : Nat} (hN : N ≤ 32) (ht : t < 32) (K : ja_K N np op kd) (h1 : ja_sl N sub sp np t → post 1) (h0 : ¬ ja_sl N sub sp np t → post 0) : wpY_stale post (ja_Y N lim keep sub clk sta ff lv sp du fa st sa fi lf kd rc) (nI t) := by
  have ct : (nI t).toNatClampNeg = t := nI_clamp (by omega)
  refine br_c (fun e => h1 (.inl e)) (fun e => ⟨vp_in_nI ht (by omega), ?_⟩)
  rw [ct]
  refine br_c (fun z => h1 (.inr (.inl z))) (fun z => ?_)
  refine js_ex (fun n i => wY_stale_21 post (nI t) (nI N) lim keep sta ff clk sub lv sp du fa st sa fi lf kd rc n (nI i)) (fun p => bt (np t) p = true ∧ sp t < sp p) N (post 1) (post 0) ?_ ?_ ?_ (fun h => h1 (.inr (.inr h))) (fun h => h0 (fun y => y.elim e (fun y => y.elim z h)))
  · intro hp n
    exact br_t (nI_le (Nat.le_refl _) (by omega)) hp
  · intro hq n i hi hc
    refine br_f (nI_ge hi (by omega)) ?_
    have ci : (nI i).toNatClampNeg = i := nI_clamp (by omega)
    have cx : (nI (t * 32 + i)).toNatClampNeg = t * 32 + i := nI_clamp (by omega)
    rw [jy_ix]
    refine ⟨vp_in_nI (by omega) (by omega), ?_⟩
    rw [cx, K.1 t i ht (by omega), ct, ci]
    refine br_t (ja_k1.mpr hc.1) ⟨vp_in_nI (by omega) (by omega), vp_in_nI ht (by omega), ?_⟩
    exact br_f (Int32.not_le.mpr hc.2) hq
  · intro n i hi hc hw
    refine br_f (nI_ge hi (by omega)) ?_
    have ci : (nI i).toNatClampNeg = i := nI_clamp (by omega)
    have cx : (nI (t * 32 + i)).toNatClampNeg = t * 32 + i := nI_clamp (by omega)
    rw [jy_ix]
    refine ⟨vp_in_nI (by omega) (by omega), ?_⟩
    rw [cx, K.1 t i ht (by omega), ct, ci]
    refine br_c (fun hl => ⟨vp_in_nI (by omega) (by omega), vp_in_nI ht (by omega), ?_⟩) (fun _ => nm_r (nI_1 i) hw)
    exact br_t (Int32.not_lt.mp (fun y => hc ⟨ja_k1.mp hl, y⟩)) (nm_r (nI_1 i) hw)
theorem jy_prereqIn {t : Nat} {a b : Int32} (hN : N ≤ 32) (ht : t < 32) (K : ja_K N np op kd) (h1 : (∃ p, p < N ∧ ja_E np op t p ∧ (st p = a ∨ st p = b)) → post 1) (h0 : (¬ ∃ p, p < N ∧ ja_E np op t p ∧ (st p = a ∨ st p = b)) → post 0) : wpY_prereqIn post (ja_Y N lim keep sub clk sta ff lv sp du fa st sa fi lf kd rc) (nI t) a b := by
  refine js_ex (fun n i => wY_prereqIn_3 post (nI t) a b (nI N) lim keep sta ff clk sub lv sp du fa st sa fi lf kd rc n (nI i)) (fun p => ja_E np op t p ∧ (st p = a ∨ st p = b)) N (post 1) (post 0) ?_ ?_ ?_ h1 h0
  · intro hp n
    exact br_t (nI_le (Nat.le_refl _) (by omega)) hp
  · intro hq n i hi hc
    refine br_f (nI_ge hi (by omega)) ?_
    have ci : (nI i).toNatClampNeg = i := nI_clamp (by omega)
    have cx : (nI (t * 32 + i)).toNatClampNeg = t * 32 + i := nI_clamp (by omega)
    rw [jy_ix]
    refine ⟨vp_in_nI (by omega) (by omega), ?_⟩
    rw [cx, K.1 t i ht (by omega), ci]
    refine br_f (ja_kn.mpr hc.1) ⟨vp_in_nI (by omega) (by omega), ?_⟩
    refine br_c (fun _ => hq) (fun hn => ⟨vp_in_nI (by omega) (by omega), ?_⟩)
    exact br_t (hc.2.resolve_left hn) hq
  · intro n i hi hc hw
    refine br_f (nI_ge hi (by omega)) ?_
    have ci : (nI i).toNatClampNeg = i := nI_clamp (by omega)
    have cx : (nI (t * 32 + i)).toNatClampNeg = t * 32 + i := nI_clamp (by omega)
    rw [jy_ix]
    refine ⟨vp_in_nI (by omega) (by omega), ?_⟩
    rw [cx, K.1 t i ht (by omega), ci]
    refine br_c (fun _ => nm_r (nI_1 i) hw) (fun hk => ⟨vp_in_nI (by omega) (by omega), ?_⟩)
    refine br_f (fun z => hc ⟨ja_kn.mp hk, .inl z⟩) ⟨vp_in_nI (by omega) (by omega), ?_⟩
    exact br_f (fun z => hc ⟨ja_kn.mp hk, .inr z⟩) (nm_r (nI_1 i) hw)
theorem jy_isQuiet (hN : N ≤ 32) (h1 : ¬ sta = 0 ∧ (¬ ∃ t, t < N ∧ ja_und st t) → post 1) (h0 : ¬ (¬ sta = 0 ∧ ¬ ∃ t, t < N ∧ ja_und st t) → post 0) : wpY_isQuiet post (ja_Y N lim keep sub clk sta ff lv sp du fa st sa fi lf kd rc) := by
  refine br_c (fun hs => h0 (fun z => z.1 hs)) (fun hs => ?_)
  refine js_ex (fun n i => wY_isQuiet_11 post (nI N) lim keep sta ff clk sub lv sp du fa st sa fi lf kd rc n (nI i)) (fun t => ja_und st t) N (post 0) (post 1) ?_ ?_ ?_ (fun h => h0 (fun z => z.2 h)) (fun h => h1 ⟨hs, h⟩)
  · intro hp n
    exact br_t (nI_le (Nat.le_refl _) (by omega)) hp
  · intro hq n i hi hc
    refine br_f (nI_ge hi (by omega)) ⟨vp_in_nI (by omega) (by omega), ?_⟩
    rw [nI_clamp (by omega)]
    refine br_c (fun _ => hq) (fun hn => ⟨vp_in_nI (by omega) (by omega), ?_⟩)
    exact br_t (hc.resolve_left hn) hq
  · intro n i hi hc hw
    refine br_f (nI_ge hi (by omega)) ⟨vp_in_nI (by omega) (by omega), ?_⟩
    rw [nI_clamp (by omega)]
    refine br_f (fun z => hc (.inl z)) ⟨vp_in_nI (by omega) (by omega), ?_⟩
    exact br_f (fun z => hc (.inr z)) (nm_r (nI_1 i) hw)

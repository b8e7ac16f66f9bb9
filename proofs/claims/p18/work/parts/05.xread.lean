-- states
abbrev ja_T (N : Nat) (lim keep sub clk sta ff rt rs : Int32) (lv sp du fa np op st sa fi re : Nat → Int32) : St2 := (nI N, lim, keep, sub, clk, sta, ff, rt, rs, lv, sp, du, fa, np, op, st, sa, fi, re)
abbrev ja_X (N : Nat) (lim keep sub clk sta ff : Int32) (lv sp du fa np op st sa fi re : Nat → Int32) : St2 := ja_T N lim keep sub clk sta ff (nI (jc_n (ja_r st lv false) N)) (nI (jc_n (ja_r st lv true) N)) lv sp du fa np op st sa fi re
-- the class's readers
variable {N : Nat} {lim keep sub clk sta ff rt rs : Int32} {lv sp du fa np op st sa fi re : Nat → Int32} {post : Int32 → Prop}
theorem jx_hasBit {m : Int32} {l : Nat} (hl : l < 32) (h1 : bt m l = true → post 1) (h0 : ¬ bt m l = true → post 0) : wpX_hasBit post () m (nI l) := by
  refine br_c (fun h => ?_) (fun h => ?_)
  · exact h0 (by rw [(jb_has m l hl).mp h]; decide)
  · refine h1 ?_
    cases e : bt m l with
    | true => rfl
    | false => exact absurd ((jb_has m l hl).mpr e) h
theorem jx_isTarget_t {j : Nat} (hN : N ≤ 32) (hj : j < N) (hp : post 1) : wpX_isTarget post (ja_T N lim keep sub clk sta ff rt rs lv sp du fa np op st sa fi re) (nI j) :=
  br_f (nI_pos (by omega)) (br_f (nI_ge hj (by omega)) (hp))
theorem jx_isTarget_f {v : Int32} (h : v < 0 ∨ nI N ≤ v) (hp : post 0) : wpX_isTarget post (ja_T N lim keep sub clk sta ff rt rs lv sp du fa np op st sa fi re) v := by
  by_cases h0 : v < 0
  · exact br_t h0 (hp)
  · exact br_f h0 (br_t (h.resolve_left h0) (hp))
theorem jx_open_t {j : Nat} (hN : N ≤ 32) (hs : sta = 0) (hj : j < N) (hp : post 1) : wpX_isOpenForSetup post (ja_T N lim keep sub clk sta ff rt rs lv sp du fa np op st sa fi re) (nI j) :=
  br_t hs (jx_isTarget_t hN hj (br_f ja_i1 (hp)))
theorem jx_open_f {v : Int32} (h : ¬ sta = 0 ∨ v < 0 ∨ nI N ≤ v) (hp : post 0) : wpX_isOpenForSetup post (ja_T N lim keep sub clk sta ff rt rs lv sp du fa np op st sa fi re) v := by
  by_cases hs : sta = 0
  · exact br_t hs (jx_isTarget_f (h.resolve_left (fun z => z hs)) (br_t rfl (hp)))
  · exact br_f hs (hp)
theorem jx_isSub {t : Nat} (ht : t < 32) (h1 : lv t = 1 → post 1) (h0 : ¬ lv t = 1 → post 0) : wpX_isSub post (ja_T N lim keep sub clk sta ff rt rs lv sp du fa np op st sa fi re) (nI t) := by
  refine ⟨vp_in_nI ht (by omega), ?_⟩
  rw [nI_clamp (by omega)]
  exact br_c (fun h => (h1 h)) (fun h => (h0 h))
theorem jx_isDone {t : Nat} (ht : t < 32) (h1 : ¬ ja_und st t → post 1) (h0 : ja_und st t → post 0) : wpX_isDone post (ja_T N lim keep sub clk sta ff rt rs lv sp du fa np op st sa fi re) (nI t) := by
  refine ⟨vp_in_nI ht (by omega), ?_⟩
  rw [nI_clamp (by omega)]
  exact br_c (fun h => (h0 (.inl h))) (fun h => ⟨vp_in_nI ht (by omega), br_c (fun h' => (h0 (.inr h'))) (fun h' => (h1 (fun z => z.elim h h')))⟩)
theorem jx_isBad {t : Nat} (ht : t < 32) (h1 : ja_bad st t → post 1) (h0 : ¬ ja_bad st t → post 0) : wpX_isBad post (ja_T N lim keep sub clk sta ff rt rs lv sp du fa np op st sa fi re) (nI t) := by
  refine ⟨vp_in_nI ht (by omega), ?_⟩
  rw [nI_clamp (by omega)]
  exact br_c (fun h => (h1 (.inl h))) (fun h => ⟨vp_in_nI ht (by omega), br_c (fun h' => (h1 (.inr h'))) (fun h' => (h0 (fun z => z.elim h h')))⟩)
theorem jx_isSubmakeIn {w : Int32} (hN : N ≤ 32) (hS : ja_S N sub) (h1 : ja_si N sub st w → post 1) (h0 : ¬ ja_si N sub st w → post 0) : wpX_isSubmakeIn post (ja_T N lim keep sub clk sta ff rt rs lv sp du fa np op st sa fi re) w := by
  rcases ja_sub_in hS hN with ⟨e, _, hn⟩ | ⟨s, hs, e, hm, hi⟩
  · exact br_t e (h0 (hn st w))
  · refine br_f hm ?_
    subst e
    refine ⟨vp_in_nI (by omega) (by omega), ?_⟩
    rw [nI_clamp (by omega)]
    exact br_c (fun h => (h1 ((hi st w).mpr h))) (fun h => (h0 (fun z => h ((hi st w).mp z))))
theorem jx_prereqsOf {t : Nat} (ht : t < 32) (hp : post (np t ||| op t)) : wpX_prereqsOf post (ja_T N lim keep sub clk sta ff rt rs lv sp du fa np op st sa fi re) (nI t) := by
  refine ⟨vp_in_nI ht (by omega), vp_in_nI ht (by omega), ?_⟩
  rw [nI_clamp (by omega)]
  exact hp
theorem jx_isPrereq {t p : Nat} (ht : t < 32) (hp : p < 32) (h1 : ja_E np op t p → post 1) (h0 : ¬ ja_E np op t p → post 0) : wpX_isPrereq post (ja_T N lim keep sub clk sta ff rt rs lv sp du fa np op st sa fi re) (nI t) (nI p) := by
  unfold wpX_isPrereq
  dsimp only
  refine jx_prereqsOf ht ?_
  exact jx_hasBit hp (fun h => ⟨rfl, h1 h⟩) (fun h => ⟨rfl, h0 h⟩)
theorem jx_isPrereqOfAny {p : Nat} (hN : N ≤ 32) (hp : p < 32) (h1 : (∃ t, t < N ∧ ja_E np op t p) → post 1) (h0 : (¬ ∃ t, t < N ∧ ja_E np op t p) → post 0) : wpX_isPrereqOfAny post (ja_T N lim keep sub clk sta ff rt rs lv sp du fa np op st sa fi re) (nI p) := by
  refine js_ex (fun n i => wX_isPrereqOfAny_2 post (nI p) (nI N) lim keep sub clk sta ff rt rs lv sp du fa np op st sa fi re n (nI i)) (fun t => ja_E np op t p) N (post 1) (post 0) ?_ ?_ ?_ h1 h0
  · intro hp n
    exact br_t (nI_le (Nat.le_refl _) (by omega)) hp
  · intro hq n i hi hc
    exact br_f (nI_ge hi (by omega)) (jx_isPrereq (by omega) hp (fun _ => br_f ja_i1 hq) (fun z => absurd hc z))
  · intro n i hi hc hw
    exact br_f (nI_ge hi (by omega)) (jx_isPrereq (by omega) hp (fun z => absurd z hc) (fun _ => br_t rfl (nm_r (nI_1 i) hw)))
theorem jx_isSubBuildOver (hN : N ≤ 32) (hS : ja_S N sub) (h1 : ja_si N sub st 1 ∧ (¬ ∃ t, t < N ∧ lv t = 1 ∧ ja_und st t) → post 1) (h0 : ¬ (ja_si N sub st 1 ∧ ¬ ∃ t, t < N ∧ lv t = 1 ∧ ja_und st t) → post 0) : wpX_isSubBuildOver post (ja_T N lim keep sub clk sta ff rt rs lv sp du fa np op st sa fi re) := by
  unfold wpX_isSubBuildOver
  dsimp only
  refine jx_isSubmakeIn hN hS (fun hs => br_f ja_i1 ?_) (fun hs => br_t rfl (h0 (fun z => hs z.1)))
  refine js_ex (fun n i => wX_isSubBuildOver_12 post (nI N) lim keep sub clk sta ff rt rs lv sp du fa np op st sa fi re n (nI i)) (fun t => lv t = 1 ∧ ja_und st t) N (post 0) (post 1) ?_ ?_ ?_ (fun h => h0 (fun z => z.2 h)) (fun h => h1 ⟨hs, h⟩)
  · intro hp n
    exact br_t (nI_le (Nat.le_refl _) (by omega)) hp
  · intro hq n i hi hc
    exact br_f (nI_ge hi (by omega)) (jx_isSub (by omega) (fun _ => br_f ja_i1 (jx_isDone (by omega) (fun z => absurd hc.2 z) (fun _ => br_t rfl hq))) (fun z => absurd hc.1 z))
  · intro n i hi hc hw
    exact br_f (nI_ge hi (by omega)) (jx_isSub (by omega) (fun hl => br_f ja_i1 (jx_isDone (by omega) (fun _ => br_f ja_i1 (nm_r (nI_1 i) hw)) (fun z => absurd ⟨hl, z⟩ hc))) (fun _ => br_t rfl (nm_r (nI_1 i) hw)))
theorem jx_hasBadSub (hN : N ≤ 32) (h1 : (∃ t, t < N ∧ lv t = 1 ∧ ja_bad st t) → post 1) (h0 : (¬ ∃ t, t < N ∧ lv t = 1 ∧ ja_bad st t) → post 0) : wpX_hasBadSub post (ja_T N lim keep sub clk sta ff rt rs lv sp du fa np op st sa fi re) := by
  refine js_ex (fun n i => wX_hasBadSub_2 post (nI N) lim keep sub clk sta ff rt rs lv sp du fa np op st sa fi re n (nI i)) (fun t => lv t = 1 ∧ ja_bad st t) N (post 1) (post 0) ?_ ?_ ?_ h1 h0
  · intro hp n
    exact br_t (nI_le (Nat.le_refl _) (by omega)) hp
  · intro hq n i hi hc
    exact br_f (nI_ge hi (by omega)) (jx_isSub (by omega) (fun _ => br_f ja_i1 (jx_isBad (by omega) (fun _ => br_f ja_i1 hq) (fun z => absurd hc.2 z))) (fun z => absurd hc.1 z))
  · intro n i hi hc hw
    exact br_f (nI_ge hi (by omega)) (jx_isSub (by omega) (fun hl => br_f ja_i1 (jx_isBad (by omega) (fun z => absurd ⟨hl, z⟩ hc) (fun _ => br_t rfl (nm_r (nI_1 i) hw)))) (fun _ => br_t rfl (nm_r (nI_1 i) hw)))
theorem jx_isStopping (h1 : ja_sp keep ff → post 1) (h0 : ¬ ja_sp keep ff → post 0) : wpX_isStopping post (ja_T N lim keep sub clk sta ff rt rs lv sp du fa np op st sa fi re) :=
  br_c (fun hk => br_c (fun hf => (h0 (fun z => z.2 hf))) (fun hf => (h1 ⟨hk, hf⟩))) (fun hk => (h0 (fun z => hk z.1)))
theorem jx_hasBadPrereq {t : Nat} (hN : N ≤ 32) (ht : t < 32) (h1 : ja_hb N np op st t → post 1) (h0 : ¬ ja_hb N np op st t → post 0) : wpX_hasBadPrereq post (ja_T N lim keep sub clk sta ff rt rs lv sp du fa np op st sa fi re) (nI t) := by
  unfold wpX_hasBadPrereq
  dsimp only
  refine jx_prereqsOf ht ?_
  refine js_ex (fun n i => wX_hasBadPrereq_8 post (np t ||| op t) (nI N) lim keep sub clk sta ff rt rs lv sp du fa np op st sa fi re n (nI i)) (fun p => ja_E np op t p ∧ ja_bad st p) N (post 1) (post 0) ?_ ?_ ?_ h1 h0
  · intro hp n
    exact br_t (nI_le (Nat.le_refl _) (by omega)) hp
  · intro hq n i hi hc
    exact br_f (nI_ge hi (by omega)) (jx_hasBit (by omega) (fun _ => br_f ja_i1 (jx_isBad (by omega) (fun _ => br_f ja_i1 hq) (fun z => absurd hc.2 z))) (fun z => absurd hc.1 z))
  · intro n i hi hc hw
    exact br_f (nI_ge hi (by omega)) (jx_hasBit (by omega) (fun hl => br_f ja_i1 (jx_isBad (by omega) (fun z => absurd ⟨hl, z⟩ hc) (fun _ => br_t rfl (nm_r (nI_1 i) hw)))) (fun _ => br_t rfl (nm_r (nI_1 i) hw)))
theorem jx_hasUndonePrereq {t : Nat} (hN : N ≤ 32) (ht : t < 32) (h1 : ja_hu N np op st t → post 1) (h0 : ¬ ja_hu N np op st t → post 0) : wpX_hasUndonePrereq post (ja_T N lim keep sub clk sta ff rt rs lv sp du fa np op st sa fi re) (nI t) := by
  unfold wpX_hasUndonePrereq
  dsimp only
  refine jx_prereqsOf ht ?_
  refine js_ex (fun n i => wX_hasUndonePrereq_8 post (np t ||| op t) (nI N) lim keep sub clk sta ff rt rs lv sp du fa np op st sa fi re n (nI i)) (fun p => ja_E np op t p ∧ ja_und st p) N (post 1) (post 0) ?_ ?_ ?_ h1 h0
  · intro hp n
    exact br_t (nI_le (Nat.le_refl _) (by omega)) hp
  · intro hq n i hi hc
    exact br_f (nI_ge hi (by omega)) (jx_hasBit (by omega) (fun _ => br_f ja_i1 (jx_isDone (by omega) (fun z => absurd hc.2 z) (fun _ => br_t rfl hq))) (fun z => absurd hc.1 z))
  · intro n i hi hc hw
    exact br_f (nI_ge hi (by omega)) (jx_hasBit (by omega) (fun hl => br_f ja_i1 (jx_isDone (by omega) (fun _ => br_f ja_i1 (nm_r (nI_1 i) hw)) (fun z => absurd ⟨hl, z⟩ hc))) (fun _ => br_t rfl (nm_r (nI_1 i) hw)))
theorem jx_isStale {t : Nat} (hN : N ≤ 32) (ht : t < 32) (h1 : ja_sl N sub sp np t → post 1) (h0 : ¬ ja_sl N sub sp np t → post 0) : wpX_isStale post (ja_T N lim keep sub clk sta ff rt rs lv sp du fa np op st sa fi re) (nI t) := by
  have ct : (nI t).toNatClampNeg = t := nI_clamp (by omega)
  refine br_c (fun e => h1 (.inl e)) (fun e => ⟨vp_in_nI ht (by omega), ?_⟩)
  rw [ct]
  refine br_c (fun z => h1 (.inr (.inl z))) (fun z => ?_)
  refine js_ex (fun n i => wX_isStale_21 post (nI t) (nI N) lim keep sub clk sta ff rt rs lv sp du fa np op st sa fi re n (nI i)) (fun p => bt (np t) p = true ∧ sp t < sp p) N (post 1) (post 0) ?_ ?_ ?_ (fun h => h1 (.inr (.inr h))) (fun h => h0 (fun y => y.elim e (fun y => y.elim z h)))
  · intro hp n
    exact br_t (nI_le (Nat.le_refl _) (by omega)) hp
  · intro hq n i hi hc
    refine br_f (nI_ge hi (by omega)) ⟨vp_in_nI ht (by omega), ?_⟩
    rw [ct]
    have ci : (nI i).toNatClampNeg = i := nI_clamp (by omega)
    refine jx_hasBit (by omega) (fun _ => br_f ja_i1 ⟨vp_in_nI (by omega) (by omega), vp_in_nI ht (by omega), ?_⟩) (fun z => absurd hc.1 z)
    rw [ci]
    exact br_f (Int32.not_le.mpr hc.2) hq
  · intro n i hi hc hw
    refine br_f (nI_ge hi (by omega)) ⟨vp_in_nI ht (by omega), ?_⟩
    rw [ct]
    have ci : (nI i).toNatClampNeg = i := nI_clamp (by omega)
    refine jx_hasBit (by omega) (fun hl => br_f ja_i1 ⟨vp_in_nI (by omega) (by omega), vp_in_nI ht (by omega), ?_⟩) (fun _ => br_t rfl (nm_r (nI_1 i) hw))
    rw [ci]
    exact br_t (Int32.not_lt.mp (fun y => hc ⟨hl, y⟩)) (nm_r (nI_1 i) hw)
theorem jx_tokensFree {a b : Nat} (ha : a ≤ 32) (hb : b ≤ 32) (h : post (ja_fr lim a b)) : wpX_tokensFree post (ja_T N lim keep sub clk sta ff (nI a) (nI b) lv sp du fa np op st sa fi re) := by
  have e : ∀ c, 1 < c → nI c - 1 = nI (c - 1) := fun c hc => by
    obtain ⟨d, rfl⟩ : ∃ d, c = d + 1 := ⟨c - 1, by omega⟩
    exact nI_pred d
  have e0 : ∀ c, c ≤ 1 → nI (c - 1) = 0 := fun c hc => by
    rw [show c - 1 = 0 by omega]
    rfl
  unfold ja_fr at h
  refine pk_le a 1 (fun h1 => ?_) (fun h1 => ?_)
  · refine pk_le b 1 (fun h2 => ?_) (fun h2 => ?_)
    · rw [e0 a h1, e0 b h2] at h
      exact h
    · rw [e0 a h1, ← e b h2] at h
      exact h
  · refine pk_le b 1 (fun h2 => ?_) (fun h2 => ?_)
    · rw [← e a h1, e0 b h2] at h
      exact h
    · rw [← e a h1, ← e b h2] at h
      exact h
theorem jx_mayStart {t : Nat} (hN : N ≤ 32) (ht : t < 32) (h1 : ja_my N lim lv st t → post 1) (h0 : ¬ ja_my N lim lv st t → post 0) : wpX_mayStart post (ja_X N lim keep sub clk sta ff lv sp du fa np op st sa fi re) (nI t) := by
  have ha := Nat.le_trans (jc_le (ja_r st lv false) N) hN
  have hb := Nat.le_trans (jc_le (ja_r st lv true) N) hN
  unfold wpX_mayStart
  dsimp only
  refine jx_isSub ht (fun hl => br_f ja_i1 ?_) (fun hl => br_t rfl ?_)
  · have hd : decide (lv t = 1) = true := decide_eq_true hl
    refine pk_eq (jc_n (ja_r st lv true) N) 0 (fun hz => (h1 (.inl (by rw [hd]; exact hz)))) (fun hz => ?_)
    refine jx_tokensFree ha hb ?_
    refine br_c (fun z => (h0 ?_)) (fun z => (h1 (.inr (Int32.not_le.mp z))))
    intro y
    rcases y with y | y
    · rw [hd] at y
      exact hz y
    · exact Int32.not_lt.mpr z y
  · have hd : decide (lv t = 1) = false := decide_eq_false hl
    refine pk_eq (jc_n (ja_r st lv false) N) 0 (fun hz => (h1 (.inl (by rw [hd]; exact hz)))) (fun hz => ?_)
    refine jx_tokensFree ha hb ?_
    refine br_c (fun z => (h0 ?_)) (fun z => (h1 (.inr (Int32.not_le.mp z))))
    intro y
    rcases y with y | y
    · rw [hd] at y
      exact hz y
    · exact Int32.not_lt.mpr z y
theorem jx_isQuiet (hN : N ≤ 32) (h1 : ¬ sta = 0 ∧ (¬ ∃ t, t < N ∧ ja_und st t) → post 1) (h0 : ¬ (¬ sta = 0 ∧ ¬ ∃ t, t < N ∧ ja_und st t) → post 0) : wpX_isQuiet post (ja_T N lim keep sub clk sta ff rt rs lv sp du fa np op st sa fi re) := by
  refine br_c (fun hs => h0 (fun z => z.1 hs)) (fun hs => ?_)
  refine js_ex (fun n i => wX_isQuiet_11 post (nI N) lim keep sub clk sta ff rt rs lv sp du fa np op st sa fi re n (nI i)) (fun t => ja_und st t) N (post 0) (post 1) ?_ ?_ ?_ (fun h => h0 (fun z => z.2 h)) (fun h => h1 ⟨hs, h⟩)
  · intro hp n
    exact br_t (nI_le (Nat.le_refl _) (by omega)) hp
  · intro hq n i hi hc
    exact br_f (nI_ge hi (by omega)) (jx_isDone (by omega) (fun z => absurd hc z) (fun _ => br_t rfl hq))
  · intro n i hi hc hw
    exact br_f (nI_ge hi (by omega)) (jx_isDone (by omega) (fun _ => br_f ja_i1 (nm_r (nI_1 i) hw)) (fun z => absurd z hc))

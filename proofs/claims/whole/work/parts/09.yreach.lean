-- the reference's reachable: its scratch array becomes the least closed set
variable {N : Nat} {lim keep sub clk sta ff : Int32} {lv sp du fa np op st sa fi lf kd rc : Nat → Int32}
def jy_set (rc : Nat → Int32) (q : Nat) : Bool := decide (q < 32) && decide (¬ rc q = 0)
theorem jy_set_i {rc : Nat → Int32} {q : Nat} : jy_set rc q = true ↔ q < 32 ∧ ¬ rc q = 0 := by
  unfold jy_set
  rw [Bool.and_eq_true, decide_eq_true_eq, decide_eq_true_eq]
/-- what one spread of x makes -/
def jy_Sp (N : Nat) (np op : Nat → Int32) (x i : Nat) (ch : Int32) (rc : Nat → Int32) (ch' : Int32) (rc' : Nat → Int32) : Prop :=
  ja_B ch' ∧ (ch' = 0 → ch = 0 ∧ rc' = rc) ∧ (∀ q, ja_B (rc q) → ja_B (rc' q)) ∧ (∀ q, ¬ rc q = 0 → ¬ rc' q = 0) ∧ (∀ q, ¬ rc' q = 0 → ¬ rc q = 0 ∨ (q < N ∧ ja_E np op x q)) ∧ (∀ q, i ≤ q → q < N → ja_E np op x q → ¬ rc' q = 0)
theorem jy_Sp_k {x i : Nat} {ch ch' : Int32} {rc rc' : Nat → Int32} (h : jy_Sp N np op x (i + 1) ch rc ch' rc') (hi : ja_E np op x i → ¬ rc i = 0) : jy_Sp N np op x i ch rc ch' rc' := by
  obtain ⟨a, b, c, d, e, g⟩ := h
  refine ⟨a, b, c, d, e, fun q h1 h2 h3 => ?_⟩
  by_cases z : q = i
  · subst z
    exact d q (hi h3)
  · exact g q (by omega) h2 h3
theorem jy_Sp_s {x i : Nat} {ch ch' : Int32} {rc rc' : Nat → Int32} (hi : i < N) (hE : ja_E np op x i) (h : jy_Sp N np op x (i + 1) 1 (upd rc i 1) ch' rc') : jy_Sp N np op x i ch rc ch' rc' := by
  obtain ⟨a, b, c, d, e, g⟩ := h
  have u : ∀ q, ¬ rc q = 0 → ¬ upd rc i 1 q = 0 := fun q z => by
    by_cases y : q = i
    · subst y
      rw [pk_us]
      decide
    · rw [pk_un y]
      exact z
  refine ⟨a, fun z => absurd (b z).1 (by decide), fun q z => c q ?_, fun q z => d q (u q z), fun q z => ?_, fun q h1 h2 h3 => ?_⟩
  · by_cases y : q = i
    · subst y
      rw [pk_us]
      exact ja_B1
    · rw [pk_un y]
      exact z
  · rcases e q z with y | y
    · by_cases w : q = i
      · subst w
        exact .inr ⟨hi, hE⟩
      · rw [pk_un w] at y
        exact .inl y
    · exact .inr y
  · by_cases z : q = i
    · subst z
      exact d q (by rw [pk_us]; decide)
    · exact g q (by omega) h2 h3
theorem jy_spread_l {x : Nat} (hN : N ≤ 32) (hx : x < 32) (K : ja_K N np op kd) : ∀ d i, i + d = N → ∀ ch rc, ja_B ch → ∃ ch' rc', jy_Sp N np op x i ch rc ch' rc' ∧ ∀ (post : Int32 → SY → Prop) f, wY_spread_4 post (nI x) (nI N) lim keep sta ff clk sub f ch' (nI N) lv sp du fa st sa fi lf kd rc' → wY_spread_4 post (nI x) (nI N) lim keep sta ff clk sub (f + d) ch (nI i) lv sp du fa st sa fi lf kd rc := by
  intro d
  induction d with
  | zero =>
    intro i hi ch rc hB
    have e : i = N := by omega
    subst e
    exact ⟨ch, rc, ⟨hB, fun z => ⟨z, rfl⟩, fun _ z => z, fun _ z => z, fun _ z => .inl z, fun q h1 h2 => by omega⟩, fun _ f z => z⟩
  | succ d ih =>
    intro i hi ch rc hB
    by_cases hE : ja_E np op x i
    · by_cases hr : rc i = 0
      · obtain ⟨ch', rc', h1, h2⟩ := ih (i + 1) (by omega) 1 (upd rc i 1) ja_B1
        refine ⟨ch', rc', jy_Sp_s (by omega) hE h1, fun post f z => br_f (nI_ge (by omega) (by omega)) ?_⟩
        rw [jy_ix]
        refine ⟨vp_in_nI (by omega) (by omega), ?_⟩
        rw [nI_clamp (by omega), K.1 x i hx (by omega)]
        refine br_f (ja_kn.mpr hE) ⟨vp_in_nI (by omega) (by omega), ?_⟩
        rw [nI_clamp (by omega)]
        exact br_t hr ⟨vp_in_nI (by omega) (by omega), nm_r (by rw [ja_Bv ja_B1]) (nm_r (nI_1 i) (h2 post f z))⟩
      · obtain ⟨ch', rc', h1, h2⟩ := ih (i + 1) (by omega) ch rc hB
        refine ⟨ch', rc', jy_Sp_k h1 (fun _ => hr), fun post f z => br_f (nI_ge (by omega) (by omega)) ?_⟩
        rw [jy_ix]
        refine ⟨vp_in_nI (by omega) (by omega), ?_⟩
        rw [nI_clamp (by omega), K.1 x i hx (by omega)]
        refine br_f (ja_kn.mpr hE) ⟨vp_in_nI (by omega) (by omega), ?_⟩
        rw [nI_clamp (by omega)]
        exact br_f hr (nm_r (nI_1 i) (h2 post f z))
    · obtain ⟨ch', rc', h1, h2⟩ := ih (i + 1) (by omega) ch rc hB
      refine ⟨ch', rc', jy_Sp_k h1 (fun z => absurd z hE), fun post f z => br_f (nI_ge (by omega) (by omega)) ?_⟩
      rw [jy_ix]
      refine ⟨vp_in_nI (by omega) (by omega), ?_⟩
      rw [nI_clamp (by omega), K.1 x i hx (by omega)]
      exact br_t (Classical.byContradiction (fun y => hE (ja_kn.mp y))) (nm_r (nI_1 i) (h2 post f z))
theorem jy_spread {x : Nat} (hN : N ≤ 32) (hx : x < 32) (K : ja_K N np op kd) : ∃ ch rc', jy_Sp N np op x 0 0 rc ch rc' ∧ ∀ post : Int32 → SY → Prop, post ch (ja_Y N lim keep sub clk sta ff lv sp du fa st sa fi lf kd rc') → wpY_spread post (ja_Y N lim keep sub clk sta ff lv sp du fa st sa fi lf kd rc) (nI x) := by
  obtain ⟨ch, rc', h1, h2⟩ := jy_spread_l (lim := lim) (keep := keep) (sub := sub) (clk := clk) (sta := sta) (ff := ff) (lv := lv) (sp := sp) (du := du) (fa := fa) (st := st) (sa := sa) (fi := fi) (lf := lf) hN hx K N 0 (by omega) 0 rc ja_B0
  refine ⟨ch, rc', h1, fun post hp => ⟨1 + N, h2 post 1 (br_t (nI_le (Nat.le_refl _) (by omega)) ⟨ja_Bn h1.1, hp⟩)⟩⟩
/-- a pass of reachable, up to x = i -/
def jy_Ri (N : Nat) (np op rc0 : Nat → Int32) (i : Nat) (ch : Int32) (rc : Nat → Int32) : Prop :=
  jr_d (ja_E np op) N (jy_set rc0) (jy_set rc) ∧ (∀ t p, t < i → p < N → jy_set rc0 t = true → ja_E np op t p → jy_set rc p = true) ∧ (ch = 0 → rc = rc0) ∧ ja_B ch ∧ ∀ q, q < 32 → ja_B (rc q)
theorem jy_Ri_s {rc0 : Nat → Int32} {i : Nat} {ch c : Int32} {rc rc' : Nat → Int32} (hN : N ≤ 32) (hi : i < N) (h : jy_Ri N np op rc0 i ch rc) (hr : ¬ rc i = 0) (s : jy_Sp N np op i 0 0 rc c rc') : jy_Ri N np op rc0 (i + 1) (if c = 0 then ch else 1) rc' := by
  obtain ⟨a, b, c1, c2, c3⟩ := h
  obtain ⟨s1, s2, s3, s4, s5, s6⟩ := s
  have hu : ∀ q, jy_set rc q = true → jy_set rc' q = true := fun q z => by
    rw [jy_set_i] at z ⊢
    exact ⟨z.1, s4 q z.2⟩
  refine ⟨jr_ad a hi (jy_set_i.mpr ⟨by omega, hr⟩) hu (fun q z => ?_), fun t p ht hp z e => ?_, fun z => ?_, ?_, fun q hq => s3 q (c3 q hq)⟩
  · rw [jy_set_i] at z
    rcases s5 q z.2 with y | y
    · exact .inl (jy_set_i.mpr ⟨z.1, y⟩)
    · exact .inr y
  · by_cases e' : t = i
    · subst e'
      exact jy_set_i.mpr ⟨by omega, s6 p (Nat.zero_le _) hp e⟩
    · exact hu p (b t p (by omega) hp z e)
  · by_cases y : c = 0
    · rw [if_pos y] at z
      rw [(s2 y).2, c1 z]
    · rw [if_neg y] at z
      exact absurd z (by decide)
  · by_cases y : c = 0
    · rw [if_pos y]
      exact c2
    · rw [if_neg y]
      exact ja_B1
theorem jy_Ri_n {rc0 : Nat → Int32} {i : Nat} {ch : Int32} {rc : Nat → Int32} (h : jy_Ri N np op rc0 i ch rc) (hr : rc i = 0) : jy_Ri N np op rc0 (i + 1) ch rc := by
  obtain ⟨a, b, c1, c2, c3⟩ := h
  refine ⟨a, fun t p ht hp z e => ?_, c1, c2, c3⟩
  by_cases e' : t = i
  · subst e'
    exact absurd hr (jy_set_i.mp (a.1 t z)).2
  · exact b t p (by omega) hp z e
theorem jy_reach_x {rc0 : Nat → Int32} {x2 x3 : Int32} (hN : N ≤ 32) (K : ja_K N np op kd) : ∀ d i, i + d = N → ∀ ch rc, jy_Ri N np op rc0 i ch rc → ∃ ch' rc', jy_Ri N np op rc0 N ch' rc' ∧ ∀ (post : Int32 → SY → Prop) J f, wY_reachable_44 post J x2 x3 f ch' (nI N) (nI N) lim keep sta ff clk sub lv sp du fa st sa fi lf kd rc' → wY_reachable_44 post J x2 x3 (f + d) ch (nI i) (nI N) lim keep sta ff clk sub lv sp du fa st sa fi lf kd rc := by
  intro d
  induction d with
  | zero =>
    intro i hi ch rc h
    have e : i = N := by omega
    subst e
    exact ⟨ch, rc, h, fun _ J f z => z⟩
  | succ d ih =>
    intro i hi ch rc h
    by_cases hr : rc i = 0
    · obtain ⟨ch', rc', h1, h2⟩ := ih (i + 1) (by omega) ch rc (jy_Ri_n h hr)
      refine ⟨ch', rc', h1, fun post J f z => br_f (nI_ge (by omega) (by omega)) ⟨vp_in_nI (by omega) (by omega), ?_⟩⟩
      rw [nI_clamp (by omega)]
      exact br_t hr (nm_r (nI_1 i) (h2 post J f z))
    · obtain ⟨c, rc1, s1, s2⟩ := jy_spread (rc := rc) (lim := lim) (keep := keep) (sub := sub) (clk := clk) (sta := sta) (ff := ff) (lv := lv) (sp := sp) (du := du) (fa := fa) (st := st) (sa := sa) (fi := fi) (lf := lf) (x := i) hN (by omega) K
      obtain ⟨ch', rc', h1, h2⟩ := ih (i + 1) (by omega) _ rc1 (jy_Ri_s hN (by omega) h hr s1)
      refine ⟨ch', rc', h1, fun post J f z => br_f (nI_ge (by omega) (by omega)) ⟨vp_in_nI (by omega) (by omega), ?_⟩⟩
      rw [nI_clamp (by omega)]
      refine br_f hr (s2 _ ?_)
      have z' := h2 post J f z
      by_cases y : c = 0
      · rw [if_pos y] at z'
        exact br_t y (nm_r (nI_1 i) z')
      · rw [if_neg y] at z'
        exact br_f y (nm_r (nI_1 i) z')
theorem jy_reach_p {x2 : Nat} (hN : N ≤ 32) (hx : x2 < N) (K : ja_K N np op kd) (A : Nat → Bool) : ∀ e r, r + e = N + 1 → ∀ rc, jr_P (ja_E np op) N A r (jy_set rc) → (∀ q, q < 32 → ja_B (rc q)) → ∃ rc', jr_d (ja_E np op) N A (jy_set rc') ∧ jr_cl (ja_E np op) N (fun q => jy_set rc' q = true) ∧ (∀ q, q < 32 → ja_B (rc' q)) ∧ ∀ post : Int32 → SY → Prop, post (rc' x2) (ja_Y N lim keep sub clk sta ff lv sp du fa st sa fi lf kd rc') → wY_reachable_30 post (nI x2) (e + 1) (nI r) (nI N) lim keep sta ff clk sub lv sp du fa st sa fi lf kd rc := by
  intro e
  induction e with
  | zero =>
    intro r hr rc h hB
    have e : r = N + 1 := by omega
    subst e
    refine ⟨rc, h.1, jr_end h (by omega), hB, fun post hp => br_t (nI_lt (by omega) (by omega)) ⟨vp_in_nI (by omega) (by omega), ?_⟩⟩
    rw [nI_clamp (by omega)]
    exact ⟨ja_Bn (hB x2 (by omega)), hp⟩
  | succ e ih =>
    intro r hr rc h hB
    obtain ⟨ch, rc1, h1, h2⟩ := jy_reach_x (rc0 := rc) (x2 := nI x2) (x3 := nI r) (lim := lim) (keep := keep) (sub := sub) (clk := clk) (sta := sta) (ff := ff) (lv := lv) (sp := sp) (du := du) (fa := fa) (st := st) (sa := sa) (fi := fi) (lf := lf) hN K N 0 (by omega) 0 rc ⟨jr_rf, fun t p ht => by omega, fun _ => rfl, ja_B0, hB⟩
    by_cases hc : ch = 0
    · have er := h1.2.2.1 hc
      subst er
      refine ⟨rc1, h.1, jr_sm h1.2.1 (fun _ _ z => z), hB, fun post hp => br_f (nI_nlt (by omega) (by omega)) ⟨1 + N, h2 post _ 1 (br_t (nI_le (Nat.le_refl _) (by omega)) (br_t hc ⟨vp_in_nI (by omega) (by omega), ?_⟩))⟩⟩
      rw [nI_clamp (by omega)]
      exact ⟨ja_Bn (hB x2 (by omega)), hp⟩
    · obtain ⟨rc2, h3, h4, h6, h5⟩ := ih (r + 1) (by omega) rc1 (jr_step h h1.1 h1.2.1) h1.2.2.2.2
      exact ⟨rc2, h3, h4, h6, fun post hp => br_f (nI_nlt (by omega) (by omega)) ⟨1 + N, h2 post _ 1 (br_t (nI_le (Nat.le_refl _) (by omega)) (br_f hc (nm_r (nI_1 r) (h5 post hp))))⟩⟩
theorem jy_reach_c {x1 x2 : Int32} : ∀ d i, i + d = 32 → ∀ rc, (∀ q, q < i → rc q = 0) → ∃ rc', (∀ q, q < 32 → rc' q = 0) ∧ ∀ (post : Int32 → SY → Prop) f, wY_reachable_2 post x1 x2 (nI N) lim keep sta ff clk sub f (nI 32) lv sp du fa st sa fi lf kd rc' → wY_reachable_2 post x1 x2 (nI N) lim keep sta ff clk sub (f + d) (nI i) lv sp du fa st sa fi lf kd rc := by
  intro d
  induction d with
  | zero =>
    intro i hi rc h
    have e : i = 32 := by omega
    subst e
    exact ⟨rc, h, fun _ f z => z⟩
  | succ d ih =>
    intro i hi rc h
    obtain ⟨rc', h1, h2⟩ := ih (i + 1) (by omega) (upd rc i 0) (fun q hq => by
      by_cases e : q = i
      · subst e
        exact pk_us
      · rw [pk_un e]
        exact h q (by omega))
    refine ⟨rc', h1, fun post f z => br_f (nI_ge (b := 32) (by omega) (by omega)) ⟨vp_in_nI (by omega) (by omega), nm_r (by rw [nI_clamp (by omega), ja_Bv ja_B0]) (nm_r (nI_1 i) (h2 post f z))⟩⟩
theorem jy_reachable {a b : Nat} (hN : N ≤ 32) (K : ja_K N np op kd) (ha : a < N) (hb : b < N) : ∃ rc', jr_d (ja_E np op) N (fun q => decide (q = a)) (jy_set rc') ∧ jr_cl (ja_E np op) N (fun q => jy_set rc' q = true) ∧ ∀ post : Int32 → SY → Prop, (jy_set rc' b = true → post 1 (ja_Y N lim keep sub clk sta ff lv sp du fa st sa fi lf kd rc')) → (¬ jy_set rc' b = true → post 0 (ja_Y N lim keep sub clk sta ff lv sp du fa st sa fi lf kd rc')) → wpY_reachable post (ja_Y N lim keep sub clk sta ff lv sp du fa st sa fi lf kd rc) (nI a) (nI b) := by
  obtain ⟨rc0, c1, c2⟩ := jy_reach_c (x1 := nI a) (x2 := nI b) (N := N) (lim := lim) (keep := keep) (sub := sub) (clk := clk) (sta := sta) (ff := ff) (lv := lv) (sp := sp) (du := du) (fa := fa) (st := st) (sa := sa) (fi := fi) (lf := lf) (kd := kd) 32 0 rfl rc (fun q hq => by omega)
  have hB : ∀ q, q < 32 → ja_B (upd rc0 a 1 q) := fun q hq => by
    by_cases e : q = a
    · subst e
      rw [pk_us]
      exact ja_B1
    · rw [pk_un e, c1 q hq]
      exact ja_B0
  have hset : ∀ q, jy_set (upd rc0 a 1) q = decide (q = a) := fun q => by
    unfold jy_set
    by_cases e : q = a
    · subst e
      rw [pk_us, decide_eq_true (show q < 32 by omega), decide_eq_true (show q = q from rfl)]
      rfl
    · rw [pk_un e, decide_eq_false e]
      by_cases h : q < 32
      · rw [c1 q h]
        simp
      · rw [decide_eq_false h, Bool.false_and]
  have hP : jr_P (ja_E np op) N (fun q => decide (q = a)) 0 (jy_set (upd rc0 a 1)) := by
    rw [show jy_set (upd rc0 a 1) = (fun q => decide (q = a)) from funext hset]
    exact jr_0 ha (decide_eq_true rfl)
  obtain ⟨rc2, d1, d2, d3, d4⟩ := jy_reach_p (lim := lim) (keep := keep) (sub := sub) (clk := clk) (sta := sta) (ff := ff) (lv := lv) (sp := sp) (du := du) (fa := fa) (st := st) (sa := sa) (fi := fi) (lf := lf) hN hb K (fun q => decide (q = a)) (N + 1) 0 (by omega) (upd rc0 a 1) hP hB
  refine ⟨rc2, d1, d2, fun post p1 p0 => ⟨1 + 32, c2 post 1 (br_t (nI_le (Nat.le_refl _) (by omega)) ⟨vp_in_nI (by omega) (by omega), nm_r (by rw [nI_clamp (by omega), ja_Bv ja_B1]) ⟨N + 2, d4 post ?_⟩⟩)⟩⟩
  rcases d3 b (by omega) with e | e
  · rw [e]
    exact p0 (fun z => (jy_set_i.mp z).2 e)
  · rw [e]
    exact p1 (jy_set_i.mpr ⟨by omega, by rw [e]; decide⟩)

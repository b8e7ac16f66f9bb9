-- the class's isReachable: the mask becomes the least closed set
variable {N : Nat} {lim keep sub clk sta ff rt rs : Int32} {lv sp du fa np op st sa fi re : Nat → Int32}
def jx_Ri (N : Nat) (np op : Nat → Int32) (M0 : Int32) (i : Nat) (m : Int32) : Prop := jr_d (ja_E np op) N (bt M0) (bt m) ∧ ∀ t p, t < i → p < N → bt M0 t = true → ja_E np op t p → bt m p = true
theorem jx_Ri_y {M0 m : Int32} {i : Nat} (hN : N ≤ 32) (hE : ∀ t p, t < 32 → ja_E np op t p → p < N) (hi : i < N) (h : jx_Ri N np op M0 i m) (hb : bt m i = true) : jx_Ri N np op M0 (i + 1) (m ||| (np i ||| op i)) := by
  have hu : ∀ q, bt m q = true → bt (m ||| (np i ||| op i)) q = true := fun q z => by rw [b_or, z, Bool.true_or]
  refine ⟨jr_ad h.1 hi hb hu (fun q z => ?_), fun t p ht hp z e => ?_⟩
  · rw [b_or] at z
    cases y : bt m q with
    | true => exact .inl rfl
    | false =>
      rw [y, Bool.false_or] at z
      exact .inr ⟨hE i q (by omega) z, z⟩
  · by_cases e' : t = i
    · subst e'
      have e2 : bt (np t ||| op t) p = true := e
      rw [b_or, e2, Bool.or_true]
    · exact hu p (h.2 t p (by omega) hp z e)
theorem jx_Ri_n {M0 m : Int32} {i : Nat} (h : jx_Ri N np op M0 i m) (hb : ¬ bt m i = true) : jx_Ri N np op M0 (i + 1) m :=
  ⟨h.1, fun t p ht hp z e => by
    by_cases e' : t = i
    · subst e'
      exact absurd (h.1.1 t z) hb
    · exact h.2 t p (by omega) hp z e⟩
theorem jx_reach_i (x2 x4 : Int32) (hN : N ≤ 32) (hE : ∀ t p, t < 32 → ja_E np op t p → p < N) (M0 : Int32) : ∀ d i, i + d = N → ∀ m, jx_Ri N np op M0 i m → ∃ m', jx_Ri N np op M0 N m' ∧ ∀ (post : Int32 → Prop) J f, wX_isReachable_19 post J x2 x4 (nI N) lim keep sub clk sta ff rt rs lv sp du fa np op st sa fi re f m' (nI N) → wX_isReachable_19 post J x2 x4 (nI N) lim keep sub clk sta ff rt rs lv sp du fa np op st sa fi re (f + d) m (nI i) := by
  intro d
  induction d with
  | zero =>
    intro i hi m h
    have e : i = N := by omega
    subst e
    exact ⟨m, h, fun _ J f z => z⟩
  | succ d ih =>
    intro i hi m h
    by_cases hb : bt m i = true
    · obtain ⟨m', h1, h2⟩ := ih (i + 1) (by omega) _ (jx_Ri_y hN hE (by omega) h hb)
      refine ⟨m', h1, fun post J f z => br_f (nI_ge (by omega) (by omega)) (jx_hasBit (by omega) (fun _ => br_f ja_i1 (jx_prereqsOf (by omega) (nm_e (nm_r (nI_1 i) (h2 post J f z))))) (fun y => absurd hb y))⟩
    · obtain ⟨m', h1, h2⟩ := ih (i + 1) (by omega) _ (jx_Ri_n h hb)
      refine ⟨m', h1, fun post J f z => br_f (nI_ge (by omega) (by omega)) (jx_hasBit (by omega) (fun y => absurd y hb) (fun _ => br_t rfl (nm_r (nI_1 i) (h2 post J f z))))⟩
theorem jx_reach_o (x2 : Int32) (hN : N ≤ 32) (hE : ∀ t p, t < 32 → ja_E np op t p → p < N) (A : Nat → Bool) : ∀ e r, r + e = N → ∀ m, jr_P (ja_E np op) N A r (bt m) → ∃ m', jr_P (ja_E np op) N A N (bt m') ∧ ∀ (post : Int32 → Prop) f, wX_isReachable_7 post x2 (nI N) lim keep sub clk sta ff rt rs lv sp du fa np op st sa fi re f m' (nI N) → wX_isReachable_7 post x2 (nI N) lim keep sub clk sta ff rt rs lv sp du fa np op st sa fi re (f + e) m (nI r) := by
  intro e
  induction e with
  | zero =>
    intro r hr m h
    have e : r = N := by omega
    subst e
    exact ⟨m, h, fun _ f z => z⟩
  | succ e ih =>
    intro r hr m h
    obtain ⟨m1, h1, h2⟩ := jx_reach_i (lim := lim) (keep := keep) (sub := sub) (clk := clk) (sta := sta) (ff := ff) (rt := rt) (rs := rs) (lv := lv) (sp := sp) (du := du) (fa := fa) (st := st) (sa := sa) (fi := fi) (re := re) x2 (nI r) hN hE m N 0 (by omega) m ⟨jr_rf, fun t p ht => by omega⟩
    obtain ⟨m2, h3, h4⟩ := ih (r + 1) (by omega) m1 (jr_step h h1.1 h1.2)
    refine ⟨m2, h3, fun post f z => br_f (nI_ge (by omega) (by omega)) ⟨1 + N, h2 post _ 1 (br_t (nI_le (Nat.le_refl _) (by omega)) (nm_r (nI_1 r) (h4 post f z)))⟩⟩
theorem jx_isReachable {a b : Nat} (hN : N ≤ 32) (hE : ∀ t p, t < 32 → ja_E np op t p → p < N) (ha : a < N) (hb : b < N) : ∃ S : Nat → Bool, jr_d (ja_E np op) N (fun q => decide (q = a)) S ∧ jr_cl (ja_E np op) N (fun q => S q = true) ∧ ∀ post : Int32 → Prop, (S b = true → post 1) → (¬ S b = true → post 0) → wpX_isReachable post (ja_T N lim keep sub clk sta ff rt rs lv sp du fa np op st sa fi re) (nI a) (nI b) := by
  have e : ∀ q, bt ((1 : Int32) <<< (nI a &&& 31)) q = decide (q = a) := fun q => by
    rcases Nat.lt_or_ge q 32 with h | h
    · exact jb_sh a (by omega) q h
    · rw [b_big h, decide_eq_false (by omega)]
  obtain ⟨m, h1, h2⟩ := jx_reach_o (lim := lim) (keep := keep) (sub := sub) (clk := clk) (sta := sta) (ff := ff) (rt := rt) (rs := rs) (lv := lv) (sp := sp) (du := du) (fa := fa) (st := st) (sa := sa) (fi := fi) (re := re) (nI b) hN hE (fun q => decide (q = a)) N 0 (by omega) ((1 : Int32) <<< (nI a &&& 31)) (by
    have z := jr_0 (E := ja_E np op) ha (show bt ((1 : Int32) <<< (nI a &&& 31)) a = true by rw [e]; exact decide_eq_true rfl)
    rw [show (fun q => decide (q = a)) = bt ((1 : Int32) <<< (nI a &&& 31)) from funext (fun q => (e q).symm)]
    exact z)
  refine ⟨bt m, h1.1, jr_end h1 (Nat.le_refl _), fun post p1 p0 => ?_⟩
  refine nm_e ⟨1 + N, h2 post 1 (br_t (nI_le (Nat.le_refl _) (by omega)) ?_)⟩
  exact jx_hasBit (by omega) (fun z => ⟨rfl, p1 z⟩) (fun z => ⟨rfl, p0 z⟩)

-- p18: the calls that only read
variable {N : Nat} {lim keep sub clk sta ff rt rs : Int32} {lv sp du fa np op st sa fi re : Nat → Int32}
theorem jx_status {post : Int32 → Prop} {t : Nat} (hN : N ≤ 32) (ht : t < N) (h : post (st t)) : wpX_status post (ja_T N lim keep sub clk sta ff rt rs lv sp du fa np op st sa fi re) (nI t) := by
  have ct : (nI t).toNatClampNeg = t := nI_clamp (by omega)
  unfold wpX_status
  dsimp only
  refine jx_isTarget_t hN ht (br_f ja_i1 ⟨vp_in_nI (by omega) (by omega), ?_⟩)
  rw [ct]
  exact h
theorem jx_timeOf {post : Int32 → Prop} {t : Nat} (hN : N ≤ 32) (ht : t < N) (h : post (sp t)) : wpX_timeOf post (ja_T N lim keep sub clk sta ff rt rs lv sp du fa np op st sa fi re) (nI t) := by
  have ct : (nI t).toNatClampNeg = t := nI_clamp (by omega)
  unfold wpX_timeOf
  dsimp only
  refine jx_isTarget_t hN ht (br_f ja_i1 ⟨vp_in_nI (by omega) (by omega), ?_⟩)
  rw [ct]
  exact h
theorem jx_startedAt {post : Int32 → Prop} {t : Nat} (hN : N ≤ 32) (ht : t < N) (h : post (sa t)) : wpX_startedAt post (ja_T N lim keep sub clk sta ff rt rs lv sp du fa np op st sa fi re) (nI t) := by
  have ct : (nI t).toNatClampNeg = t := nI_clamp (by omega)
  unfold wpX_startedAt
  dsimp only
  refine jx_isTarget_t hN ht (br_f ja_i1 ⟨vp_in_nI (by omega) (by omega), ?_⟩)
  rw [ct]
  exact h
theorem jx_level {post : Int32 → Prop} {t : Nat} (hN : N ≤ 32) (ht : t < N) (h : post (lv t)) : wpX_level post (ja_T N lim keep sub clk sta ff rt rs lv sp du fa np op st sa fi re) (nI t) := by
  have ct : (nI t).toNatClampNeg = t := nI_clamp (by omega)
  unfold wpX_level
  dsimp only
  refine jx_isTarget_t hN ht (br_f ja_i1 ⟨vp_in_nI (by omega) (by omega), ?_⟩)
  rw [ct]
  exact h
theorem jx_commandOf {post : Int32 → Prop} {t : Nat} (hN : N ≤ 32) (ht : t < N) (h0 : fa t = 0 → post (du t)) (h1 : ¬ fa t = 0 → post (du t + 16)) : wpX_commandOf post (ja_T N lim keep sub clk sta ff rt rs lv sp du fa np op st sa fi re) (nI t) := by
  have ct : (nI t).toNatClampNeg = t := nI_clamp (by omega)
  have hi : vp_in (nI t) 32 := vp_in_nI (by omega) (by omega)
  unfold wpX_commandOf
  dsimp only
  refine jx_isTarget_t hN ht (br_f ja_i1 ⟨hi, ?_⟩)
  rw [ct]
  exact br_c (fun z => ⟨hi, h0 z⟩) (fun z => ⟨hi, h1 z⟩)
theorem jx_prereqKind {post : Int32 → Prop} {t p : Nat} (hN : N ≤ 32) (ht : t < N) (hp : p < N) (h : post (ja_k np op t p)) : wpX_prereqKind post (ja_T N lim keep sub clk sta ff rt rs lv sp du fa np op st sa fi re) (nI t) (nI p) := by
  have ct : (nI t).toNatClampNeg = t := nI_clamp (by omega)
  have hi : vp_in (nI t) 32 := vp_in_nI (by omega) (by omega)
  unfold wpX_prereqKind
  dsimp only
  refine jx_isTarget_t hN ht (br_f ja_i1 ?_)
  refine jx_isTarget_t hN hp (br_f ja_i1 ⟨hi, ?_⟩)
  rw [ct]
  unfold ja_k at h
  refine jx_hasBit (by omega) (fun y => br_f ja_i1 ?_) (fun y => br_t rfl ⟨hi, ?_⟩)
  · rw [if_pos y] at h
    exact h
  · rw [if_neg y] at h
    refine jx_hasBit (by omega) (fun w => br_f ja_i1 ?_) (fun w => br_t rfl ?_)
    · rw [if_pos w] at h
      exact h
    · rw [if_neg w] at h
      exact h
-- flags gathered by a loop
theorem jl_ex {N i : Nat} {P : Nat → Prop} (hi : i < N) : (∃ t, i ≤ t ∧ t < N ∧ P t) ↔ (P i ∨ ∃ t, i + 1 ≤ t ∧ t < N ∧ P t) := by
  constructor
  · intro ⟨t, h1, h2, h3⟩
    by_cases e : t = i
    · subst e
      exact .inl h3
    · exact .inr ⟨t, by omega, h2, h3⟩
  · intro h
    rcases h with h | ⟨t, h1, h2, h3⟩
    · exact ⟨i, Nat.le_refl _, hi, h⟩
    · exact ⟨t, by omega, h2, h3⟩
theorem jl_o {N i : Nat} {P : Nat → Prop} {a a1 a' : Prop} (hi : i < N) (h1 : a1 ↔ (a ∨ P i)) (h2 : a' ↔ (a1 ∨ ∃ t, i + 1 ≤ t ∧ t < N ∧ P t)) : a' ↔ (a ∨ ∃ t, i ≤ t ∧ t < N ∧ P t) := by
  rw [h2, h1, jl_ex hi, or_assoc]
theorem jl_a {N i : Nat} {P : Nat → Prop} {b b1 b' : Prop} (hi : i < N) (h1 : b1 ↔ (b ∧ ¬ P i)) (h2 : b' ↔ (b1 ∧ ¬ ∃ t, i + 1 ≤ t ∧ t < N ∧ P t)) : b' ↔ (b ∧ ¬ ∃ t, i ≤ t ∧ t < N ∧ P t) := by
  rw [h2, h1, jl_ex hi, not_or, and_assoc]
theorem jl_o0 {N : Nat} {P : Nat → Prop} {a : Prop} : a ↔ (a ∨ ∃ t, N ≤ t ∧ t < N ∧ P t) := ⟨.inl, fun h => h.elim id (fun ⟨t, h1, h2, _⟩ => by omega)⟩
theorem jl_a0 {N : Nat} {P : Nat → Prop} {b : Prop} : b ↔ (b ∧ ¬ ∃ t, N ≤ t ∧ t < N ∧ P t) := ⟨fun h => ⟨h, fun ⟨t, h1, h2, _⟩ => by omega⟩, fun h => h.1⟩
theorem jl_no {a P : Prop} (h : ¬ P) : a ↔ (a ∨ P) := ⟨.inl, fun z => z.elim id (fun z => absurd z h)⟩
theorem jl_na {b P : Prop} (h : ¬ P) : b ↔ (b ∧ ¬ P) := ⟨fun z => ⟨z, h⟩, fun z => z.1⟩
theorem jl_yo {a P : Prop} (h : P) : (0 : Int32) = 0 ↔ (a ∨ P) := ⟨fun _ => .inr h, fun _ => rfl⟩
theorem jl_ya {b P : Prop} (h : P) : (1 : Int32) = 0 ↔ (b ∧ ¬ P) := ⟨fun z => absurd z (by decide), fun z => absurd h z.2⟩
abbrev jl_T : Type := Int64 → Int64 → Int64 → Int64 → Int64 → Int32 → Prop
variable {post : Int32 → Prop} {L : Nat} {xs : Nat → Int32} {x2 x5 x16 x21 x22 : Int32} {md mr mf ms mu : Int64} {kc ks : Nat} {Dn : Nat → Bool} {ex : Nat → Int32}
theorem jl_bd {i : Nat} (hM : jm_M N Dn ex md mr mf ms mu) (hi : i < N) : jm_b (mf ||| ms) i = true ↔ (Dn i = true ∧ jq_bd ex i) := by
  obtain ⟨_, _, c, e, _⟩ := hM i hi
  rw [jm_or, c, e]
  unfold jq_bd
  cases Dn i
  · simp
  · simp
theorem jl_418 {t i : Nat} {a b c : Int32} (hN : N ≤ 16) (hM : jm_M N Dn ex md mr mf ms mu) (ht : t < N) (hi : i < N) : ∃ c1 : Int32, (c1 = 0 ↔ (c = 0 ∧ ¬ (bt (np t) i = true ∧ ((Dn i = true ∧ ex i = 2) ∨ sp t < sp i)))) ∧ ∀ (J316 J325 : jl_T) (J362 : Int32 → Int32 → Int32 → Int32 → Prop), J362 a b c1 (nI (i + 1)) → wL_law_418 post L xs J316 J325 J362 (nI N) x2 x5 md mr mf ms mu x16 (nI t) a b c x21 x22 (nI i) (ja_k np op t i) kc ks (nI N) lim keep sub clk sta ff rt rs lv sp du fa np op st sa fi re := by
  obtain ⟨_, hr, _, _, _⟩ := hM i hi
  by_cases hk : bt (np t) i = true
  · have hk1 : ja_k np op t i = 1 := ja_k1.mpr hk
    by_cases h2 : Dn i = true ∧ ex i = 2
    · have hb : jm_b mr i = true := by rw [hr, h2.1, h2.2]; rfl
      exact ⟨1, jl_ya ⟨hk, .inl h2⟩, fun _ _ J z => br_t hk1 (jm_bit (by omega) (fun _ => br_f ja_i1 (nm_r (nI_1 i) z)) (fun y => absurd hb y))⟩
    · have hb : ¬ jm_b mr i = true := by
        rw [hr, Bool.and_eq_true, decide_eq_true_eq]
        exact h2
      by_cases h3 : sp t < sp i
      · exact ⟨1, jl_ya ⟨hk, .inr h3⟩, fun _ _ J z => br_t hk1 (jm_bit (by omega) (fun y => absurd y hb) (fun _ => br_t rfl (jx_timeOf (by omega) hi (jx_timeOf (by omega) ht (br_f (Int32.not_le.mpr h3) (nm_r (nI_1 i) z))))))⟩
      · exact ⟨c, jl_na (fun y => y.2.elim h2 h3), fun _ _ J z => br_t hk1 (jm_bit (by omega) (fun y => absurd y hb) (fun _ => br_t rfl (jx_timeOf (by omega) hi (jx_timeOf (by omega) ht (br_t (Int32.not_lt.mp h3) (nm_r (nI_1 i) z))))))⟩
  · exact ⟨c, jl_na (fun y => hk y.1), fun _ _ J z => br_f (fun y => hk (ja_k1.mp y)) (nm_r (nI_1 i) z)⟩
theorem jl_362 {t : Nat} (hN : N ≤ 16) (hM : jm_M N Dn ex md mr mf ms mu) (ht : t < N) : ∀ d i, i + d = N → ∀ a b c : Int32, ∃ a' b' c' : Int32, (a' = 0 ↔ (a = 0 ∨ ∃ p, i ≤ p ∧ p < N ∧ ja_E np op t p ∧ ¬ Dn p = true)) ∧ (b' = 0 ↔ (b = 0 ∧ ¬ ∃ p, i ≤ p ∧ p < N ∧ ja_E np op t p ∧ Dn p = true ∧ jq_bd ex p)) ∧ (c' = 0 ↔ (c = 0 ∧ ¬ ∃ p, i ≤ p ∧ p < N ∧ bt (np t) p = true ∧ ((Dn p = true ∧ ex p = 2) ∨ sp t < sp p))) ∧ ∀ (J316 J325 : jl_T) f, wL_law_362 post L xs J316 J325 (nI N) x2 x5 md mr mf ms mu x16 (nI t) x21 x22 kc ks (nI N) lim keep sub clk sta ff rt rs lv sp du fa np op st sa fi re f a' b' c' (nI N) → wL_law_362 post L xs J316 J325 (nI N) x2 x5 md mr mf ms mu x16 (nI t) x21 x22 kc ks (nI N) lim keep sub clk sta ff rt rs lv sp du fa np op st sa fi re (f + d) a b c (nI i) := by
  intro d
  induction d with
  | zero =>
    intro i hi a b c
    have e : i = N := by omega
    subst e
    exact ⟨a, b, c, jl_o0, jl_a0, jl_a0, fun _ _ f z => z⟩
  | succ d ih =>
    intro i hi a b c
    have hiN : i < N := by omega
    have hge : ¬ nI N ≤ nI i := nI_ge (by omega) (by omega)
    -- one round gives a1 b1 c1
    have one : ∃ a1 b1 c1 : Int32, (a1 = 0 ↔ (a = 0 ∨ (ja_E np op t i ∧ ¬ Dn i = true))) ∧ (b1 = 0 ↔ (b = 0 ∧ ¬ (ja_E np op t i ∧ Dn i = true ∧ jq_bd ex i))) ∧ (c1 = 0 ↔ (c = 0 ∧ ¬ (bt (np t) i = true ∧ ((Dn i = true ∧ ex i = 2) ∨ sp t < sp i)))) ∧ ∀ (J316 J325 : jl_T) n, wL_law_362 post L xs J316 J325 (nI N) x2 x5 md mr mf ms mu x16 (nI t) x21 x22 kc ks (nI N) lim keep sub clk sta ff rt rs lv sp du fa np op st sa fi re n a1 b1 c1 (nI (i + 1)) → wL_law_362 post L xs J316 J325 (nI N) x2 x5 md mr mf ms mu x16 (nI t) x21 x22 kc ks (nI N) lim keep sub clk sta ff rt rs lv sp du fa np op st sa fi re (n + 1) a b c (nI i) := by
      obtain ⟨hdn, _, _, _, _⟩ := hM i hiN
      by_cases hE : ja_E np op t i
      · have hk : ¬ ja_k np op t i = 0 := ja_kn.mpr hE
        by_cases hD : Dn i = true
        · have hb : jm_b md i = true := by rw [hdn]; exact hD
          by_cases hB : jq_bd ex i
          · obtain ⟨c1, q1, q2⟩ := jl_418 (post := post) (L := L) (xs := xs) (x2 := x2) (x5 := x5) (x16 := x16) (x21 := x21) (x22 := x22) (kc := kc) (ks := ks) (lim := lim) (keep := keep) (sub := sub) (clk := clk) (sta := sta) (ff := ff) (rt := rt) (rs := rs) (lv := lv) (sp := sp) (du := du) (fa := fa) (np := np) (op := op) (st := st) (sa := sa) (fi := fi) (re := re) (a := a) (b := 1) (c := c) hN hM ht hiN
            exact ⟨a, 1, c1, jl_no (fun y => y.2 hD), jl_ya ⟨hE, hD, hB⟩, q1, fun _ _ n z => br_f hge (jx_prereqKind (by omega) ht hiN (br_f hk (jm_bit (by omega) (fun _ => br_f ja_i1 (jm_bit (by omega) (fun _ => br_f ja_i1 (q2 _ _ _ z)) (fun y => absurd ((jl_bd hM hiN).mpr ⟨hD, hB⟩) y))) (fun y => absurd hb y))))⟩
          · obtain ⟨c1, q1, q2⟩ := jl_418 (post := post) (L := L) (xs := xs) (x2 := x2) (x5 := x5) (x16 := x16) (x21 := x21) (x22 := x22) (kc := kc) (ks := ks) (lim := lim) (keep := keep) (sub := sub) (clk := clk) (sta := sta) (ff := ff) (rt := rt) (rs := rs) (lv := lv) (sp := sp) (du := du) (fa := fa) (np := np) (op := op) (st := st) (sa := sa) (fi := fi) (re := re) (a := a) (b := b) (c := c) hN hM ht hiN
            exact ⟨a, b, c1, jl_no (fun y => y.2 hD), jl_na (fun y => hB y.2.2), q1, fun _ _ n z => br_f hge (jx_prereqKind (by omega) ht hiN (br_f hk (jm_bit (by omega) (fun _ => br_f ja_i1 (jm_bit (by omega) (fun y => absurd ((jl_bd hM hiN).mp y).2 hB) (fun _ => br_t rfl (q2 _ _ _ z)))) (fun y => absurd hb y))))⟩
        · have hb : ¬ jm_b md i = true := by rw [hdn]; exact hD
          obtain ⟨c1, q1, q2⟩ := jl_418 (post := post) (L := L) (xs := xs) (x2 := x2) (x5 := x5) (x16 := x16) (x21 := x21) (x22 := x22) (kc := kc) (ks := ks) (lim := lim) (keep := keep) (sub := sub) (clk := clk) (sta := sta) (ff := ff) (rt := rt) (rs := rs) (lv := lv) (sp := sp) (du := du) (fa := fa) (np := np) (op := op) (st := st) (sa := sa) (fi := fi) (re := re) (a := 0) (b := b) (c := c) hN hM ht hiN
          exact ⟨0, b, c1, jl_yo ⟨hE, hD⟩, jl_na (fun y => hD y.2.1), q1, fun _ _ n z => br_f hge (jx_prereqKind (by omega) ht hiN (br_f hk (jm_bit (by omega) (fun y => absurd y hb) (fun _ => br_t rfl (q2 _ _ _ z)))))⟩
      · have hk : ja_k np op t i = 0 := Classical.byContradiction (fun y => hE (ja_kn.mp y))
        exact ⟨a, b, c, jl_no (fun y => hE y.1), jl_na (fun y => hE y.1), jl_na (fun y => hE (jq_En y.1)), fun _ _ n z => br_f hge (jx_prereqKind (by omega) ht hiN (br_t hk (nm_r (nI_1 i) z)))⟩
    obtain ⟨a1, b1, c1, o1, o2, o3, o4⟩ := one
    obtain ⟨a', b', c', k1, k2, k3, k4⟩ := ih (i + 1) (by omega) a1 b1 c1
    exact ⟨a', b', c', jl_o hiN o1 k1, jl_a hiN o2 k2, jl_a hiN o3 k3, fun J J' f z => o4 J J' (f + d) (k4 J J' f z)⟩
/-- the sub-make target's prerequisites -/
theorem jl_476 {s : Nat} {x17 x19 x20 : Int32} (hN : N ≤ 16) (hM : jm_M N Dn ex md mr mf ms mu) (hs : s < N) : ∀ d i, i + d = N → ∀ a b : Int32, ∃ a' b' : Int32, (a' = 0 ↔ (a = 0 ∨ ∃ p, i ≤ p ∧ p < N ∧ ja_E np op s p ∧ ¬ Dn p = true)) ∧ (b' = 0 ↔ (b = 0 ∧ ¬ ∃ p, i ≤ p ∧ p < N ∧ ja_E np op s p ∧ Dn p = true ∧ jq_bd ex p)) ∧ ∀ (J316 J325 : jl_T) f, wL_law_476 post L xs J316 J325 (nI N) x2 (nI s) md mr mf ms mu x16 x17 x19 x20 x22 kc ks (nI N) lim keep sub clk sta ff rt rs lv sp du fa np op st sa fi re f a' b' (nI N) → wL_law_476 post L xs J316 J325 (nI N) x2 (nI s) md mr mf ms mu x16 x17 x19 x20 x22 kc ks (nI N) lim keep sub clk sta ff rt rs lv sp du fa np op st sa fi re (f + d) a b (nI i) := by
  intro d
  induction d with
  | zero =>
    intro i hi a b
    have e : i = N := by omega
    subst e
    exact ⟨a, b, jl_o0, jl_a0, fun _ _ f z => z⟩
  | succ d ih =>
    intro i hi a b
    have hiN : i < N := by omega
    have hge : ¬ nI N ≤ nI i := nI_ge (by omega) (by omega)
    have one : ∃ a1 b1 : Int32, (a1 = 0 ↔ (a = 0 ∨ (ja_E np op s i ∧ ¬ Dn i = true))) ∧ (b1 = 0 ↔ (b = 0 ∧ ¬ (ja_E np op s i ∧ Dn i = true ∧ jq_bd ex i))) ∧ ∀ (J316 J325 : jl_T) n, wL_law_476 post L xs J316 J325 (nI N) x2 (nI s) md mr mf ms mu x16 x17 x19 x20 x22 kc ks (nI N) lim keep sub clk sta ff rt rs lv sp du fa np op st sa fi re n a1 b1 (nI (i + 1)) → wL_law_476 post L xs J316 J325 (nI N) x2 (nI s) md mr mf ms mu x16 x17 x19 x20 x22 kc ks (nI N) lim keep sub clk sta ff rt rs lv sp du fa np op st sa fi re (n + 1) a b (nI i) := by
      obtain ⟨hdn, _, _, _, _⟩ := hM i hiN
      by_cases hE : ja_E np op s i
      · have hk : ¬ ja_k np op s i = 0 := ja_kn.mpr hE
        by_cases hD : Dn i = true
        · have hb : jm_b md i = true := by rw [hdn]; exact hD
          by_cases hB : jq_bd ex i
          · exact ⟨a, 1, jl_no (fun y => y.2 hD), jl_ya ⟨hE, hD, hB⟩, fun _ _ n z => br_f hge (jx_prereqKind (by omega) hs hiN (br_f hk (jm_bit (by omega) (fun _ => br_f ja_i1 (jm_bit (by omega) (fun _ => br_f ja_i1 (nm_r (nI_1 i) z)) (fun y => absurd ((jl_bd hM hiN).mpr ⟨hD, hB⟩) y))) (fun y => absurd hb y))))⟩
          · exact ⟨a, b, jl_no (fun y => y.2 hD), jl_na (fun y => hB y.2.2), fun _ _ n z => br_f hge (jx_prereqKind (by omega) hs hiN (br_f hk (jm_bit (by omega) (fun _ => br_f ja_i1 (jm_bit (by omega) (fun y => absurd ((jl_bd hM hiN).mp y).2 hB) (fun _ => br_t rfl (nm_r (nI_1 i) z)))) (fun y => absurd hb y))))⟩
        · have hb : ¬ jm_b md i = true := by rw [hdn]; exact hD
          exact ⟨0, b, jl_yo ⟨hE, hD⟩, jl_na (fun y => hD y.2.1), fun _ _ n z => br_f hge (jx_prereqKind (by omega) hs hiN (br_f hk (jm_bit (by omega) (fun y => absurd y hb) (fun _ => br_t rfl (nm_r (nI_1 i) z)))))⟩
      · have hk : ja_k np op s i = 0 := Classical.byContradiction (fun y => hE (ja_kn.mp y))
        exact ⟨a, b, jl_no (fun y => hE y.1), jl_na (fun y => hE y.1), fun _ _ n z => br_f hge (jx_prereqKind (by omega) hs hiN (br_t hk (nm_r (nI_1 i) z)))⟩
    obtain ⟨a1, b1, o1, o2, o4⟩ := one
    obtain ⟨a', b', k1, k2, k4⟩ := ih (i + 1) (by omega) a1 b1
    exact ⟨a', b', jl_o hiN o1 k1, jl_a hiN o2 k2, fun J J' f z => o4 J J' (f + d) (k4 J J' f z)⟩
/-- the sub targets -/
theorem jl_544 {x17 x19 x20 : Int32} (hN : N ≤ 16) (hM : jm_M N Dn ex md mr mf ms mu) : ∀ d i, i + d = N → ∀ a b : Int32, ∃ a' b' : Int32, (a' = 0 ↔ (a = 0 ∨ ∃ p, i ≤ p ∧ p < N ∧ lv p = 1 ∧ ¬ Dn p = true)) ∧ (b' = 0 ↔ (b = 0 ∧ ¬ ∃ p, i ≤ p ∧ p < N ∧ lv p = 1 ∧ Dn p = true ∧ jq_bd ex p)) ∧ ∀ (J316 J325 : jl_T) f, wL_law_544 post L xs J316 J325 (nI N) x2 x5 md mr mf ms mu x16 x17 x19 x20 x21 kc ks (nI N) lim keep sub clk sta ff rt rs lv sp du fa np op st sa fi re f a' b' (nI N) → wL_law_544 post L xs J316 J325 (nI N) x2 x5 md mr mf ms mu x16 x17 x19 x20 x21 kc ks (nI N) lim keep sub clk sta ff rt rs lv sp du fa np op st sa fi re (f + d) a b (nI i) := by
  intro d
  induction d with
  | zero =>
    intro i hi a b
    have e : i = N := by omega
    subst e
    exact ⟨a, b, jl_o0, jl_a0, fun _ _ f z => z⟩
  | succ d ih =>
    intro i hi a b
    have hiN : i < N := by omega
    have hge : ¬ nI N ≤ nI i := nI_ge (by omega) (by omega)
    have one : ∃ a1 b1 : Int32, (a1 = 0 ↔ (a = 0 ∨ (lv i = 1 ∧ ¬ Dn i = true))) ∧ (b1 = 0 ↔ (b = 0 ∧ ¬ (lv i = 1 ∧ Dn i = true ∧ jq_bd ex i))) ∧ ∀ (J316 J325 : jl_T) n, wL_law_544 post L xs J316 J325 (nI N) x2 x5 md mr mf ms mu x16 x17 x19 x20 x21 kc ks (nI N) lim keep sub clk sta ff rt rs lv sp du fa np op st sa fi re n a1 b1 (nI (i + 1)) → wL_law_544 post L xs J316 J325 (nI N) x2 x5 md mr mf ms mu x16 x17 x19 x20 x21 kc ks (nI N) lim keep sub clk sta ff rt rs lv sp du fa np op st sa fi re (n + 1) a b (nI i) := by
      obtain ⟨hdn, _, _, _, _⟩ := hM i hiN
      by_cases hE : lv i = 1
      · by_cases hD : Dn i = true
        · have hb : jm_b md i = true := by rw [hdn]; exact hD
          by_cases hB : jq_bd ex i
          · exact ⟨a, 1, jl_no (fun y => y.2 hD), jl_ya ⟨hE, hD, hB⟩, fun _ _ n z => br_f hge (jx_level (by omega) hiN (br_t hE (jm_bit (by omega) (fun _ => br_f ja_i1 (jm_bit (by omega) (fun _ => br_f ja_i1 (nm_r (nI_1 i) z)) (fun y => absurd ((jl_bd hM hiN).mpr ⟨hD, hB⟩) y))) (fun y => absurd hb y))))⟩
          · exact ⟨a, b, jl_no (fun y => y.2 hD), jl_na (fun y => hB y.2.2), fun _ _ n z => br_f hge (jx_level (by omega) hiN (br_t hE (jm_bit (by omega) (fun _ => br_f ja_i1 (jm_bit (by omega) (fun y => absurd ((jl_bd hM hiN).mp y).2 hB) (fun _ => br_t rfl (nm_r (nI_1 i) z)))) (fun y => absurd hb y))))⟩
        · have hb : ¬ jm_b md i = true := by rw [hdn]; exact hD
          exact ⟨0, b, jl_yo ⟨hE, hD⟩, jl_na (fun y => hD y.2.1), fun _ _ n z => br_f hge (jx_level (by omega) hiN (br_t hE (jm_bit (by omega) (fun y => absurd y hb) (fun _ => br_t rfl (nm_r (nI_1 i) z)))))⟩
      · exact ⟨a, b, jl_no (fun y => hE y.1), jl_na (fun y => hE y.1), fun _ _ n z => br_f hge (jx_level (by omega) hiN (br_f hE (nm_r (nI_1 i) z)))⟩
    obtain ⟨a1, b1, o1, o2, o4⟩ := one
    obtain ⟨a', b', k1, k2, k4⟩ := ih (i + 1) (by omega) a1 b1
    exact ⟨a', b', jl_o hiN o1 k1, jl_a hiN o2 k2, fun J J' f z => o4 J J' (f + d) (k4 J J' f z)⟩

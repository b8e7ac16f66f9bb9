-- p18: one target in the reckoning, a pass, all passes
variable {N : Nat} {lim keep sub clk sta ff rt rs : Int32} {lv sp du fa np op st sa fi re : Nat → Int32} {post : Int32 → Prop} {L : Nat} {xs : Nat → Int32} {x2 x16 : Int32} {kc ks : Nat}
theorem jl_534 {md mr mf ms mu : Int64} {Dn : Nat → Bool} {ex : Nat → Int32} {t : Nat} {a b c e : Int32} (hN : N ≤ 16) (hM : jm_M N Dn ex md mr mf ms mu) : ∃ a' g : Int32, (a' = 0 ↔ (a = 0 ∨ (nI t = sub ∧ ∃ p, 0 ≤ p ∧ p < N ∧ lv p = 1 ∧ ¬ Dn p = true))) ∧ (g = 0 ↔ ¬ (nI t = sub ∧ ∃ p, 0 ≤ p ∧ p < N ∧ lv p = 1 ∧ Dn p = true ∧ jq_bd ex p)) ∧ ∀ J316 J325 : jl_T, wL_law_601 post L xs J316 J325 (nI N) x2 sub md mr mf ms mu x16 (nI t) a' b c e g kc ks (nI N) lim keep sub clk sta ff rt rs lv sp du fa np op st sa fi re → wL_law_534 post L xs J316 J325 (nI N) x2 sub md mr mf ms mu x16 (nI t) a b c e 0 kc ks (nI N) lim keep sub clk sta ff rt rs lv sp du fa np op st sa fi re := by
  by_cases hs : nI t = sub
  · obtain ⟨a', g, q1, q2, q3⟩ := jl_544 (post := post) (L := L) (xs := xs) (x2 := x2) (x5 := sub) (x16 := x16) (x17 := nI t) (x19 := b) (x20 := c) (x21 := e) (kc := kc) (ks := ks) (lim := lim) (keep := keep) (sub := sub) (clk := clk) (sta := sta) (ff := ff) (rt := rt) (rs := rs) (lv := lv) (sp := sp) (du := du) (fa := fa) (np := np) (op := op) (st := st) (sa := sa) (fi := fi) (re := re) hN hM N 0 (by omega) a 0
    refine ⟨a', g, q1.trans ⟨fun h => h.elim .inl (fun h => .inr ⟨hs, h⟩), fun h => h.elim .inl (fun h => .inr h.2)⟩, q2.trans ⟨fun h y => h.2 y.2, fun h => ⟨rfl, fun y => h ⟨hs, y⟩⟩⟩, fun J J' z => br_t hs ⟨1 + N, q3 J J' 1 (br_t (nI_le (Nat.le_refl _) (by omega)) z)⟩⟩
  · exact ⟨a, 0, jl_no (fun y => hs y.1), ⟨fun _ y => hs y.1, fun _ => rfl⟩, fun J J' z => br_f hs z⟩
theorem jl_mid {md mr mf ms mu : Int64} {Dn : Nat → Bool} {ex : Nat → Int32} {t : Nat} {a b c : Int32} (hN : N ≤ 16) (hM : jm_M N Dn ex md mr mf ms mu) (hS : ja_S N sub) (ht : t < N) : ∃ a' e : Int32, (a' = 0 ↔ (a = 0 ∨ (lv t = 1 ∧ ∃ s, s < N ∧ sub = nI s ∧ ∃ p, 0 ≤ p ∧ p < N ∧ ja_E np op s p ∧ ¬ Dn p = true))) ∧ (e = 0 ↔ ¬ (lv t = 1 ∧ ∃ s, s < N ∧ sub = nI s ∧ ∃ p, 0 ≤ p ∧ p < N ∧ ja_E np op s p ∧ Dn p = true ∧ jq_bd ex p)) ∧ ∀ J316 J325 : jl_T, wL_law_534 post L xs J316 J325 (nI N) x2 sub md mr mf ms mu x16 (nI t) a' b c e 0 kc ks (nI N) lim keep sub clk sta ff rt rs lv sp du fa np op st sa fi re → wL_law_362 post L xs J316 J325 (nI N) x2 sub md mr mf ms mu x16 (nI t) 0 0 kc ks (nI N) lim keep sub clk sta ff rt rs lv sp du fa np op st sa fi re 1 a b c (nI N) := by
  have hl : nI N ≤ nI N := nI_le (Nat.le_refl _) (by omega)
  by_cases h1 : lv t = 1
  · rcases ja_sub_in hS (by omega) with ⟨e, hno, _⟩ | ⟨s, hsN, e, hm, _⟩
    · have no : ∀ s, s < N → ¬ sub = nI s := fun s hs y => hno s (by omega) y.symm
      exact ⟨a, 0, jl_no (fun ⟨_, s, hs, y, _⟩ => no s hs y), ⟨fun _ ⟨_, s, hs, y, _⟩ => no s hs y, fun _ => rfl⟩, fun J J' z => br_t hl (jx_level (by omega) ht (br_t h1 (br_t (by rw [e]; decide) z)))⟩
    · have un : ∀ s', s' < N → sub = nI s' → s' = s := fun s' h y => (nI_eq (by omega) (by omega)).mp (y.symm.trans e)
      subst e
      obtain ⟨a', b', q1, q2, q3⟩ := jl_476 (post := post) (L := L) (xs := xs) (x2 := x2) (x16 := x16) (x17 := nI t) (x19 := b) (x20 := c) (x22 := 0) (kc := kc) (ks := ks) (lim := lim) (keep := keep) (sub := nI s) (clk := clk) (sta := sta) (ff := ff) (rt := rt) (rs := rs) (lv := lv) (sp := sp) (du := du) (fa := fa) (np := np) (op := op) (st := st) (sa := sa) (fi := fi) (re := re) hN hM hsN N 0 (by omega) a 0
      refine ⟨a', b', q1.trans ⟨fun h => h.elim .inl (fun h => .inr ⟨h1, s, hsN, rfl, h⟩), fun h => h.elim .inl (fun ⟨_, s', hs', y, w1⟩ => .inr ?_)⟩, q2.trans ⟨fun h ⟨_, s', hs', y, w⟩ => h.2 ?_, fun h => ⟨rfl, fun y => h ⟨h1, s, hsN, rfl, y⟩⟩⟩, fun J J' z => br_t hl (jx_level (by omega) ht (br_t h1 (br_f (nI_pos (by omega)) ⟨1 + N, q3 J J' 1 (br_t hl z)⟩)))⟩
      · have := un s' hs' y
        subst this
        exact w1
      · have := un s' hs' y
        subst this
        exact w
  · exact ⟨a, 0, jl_no (fun y => h1 y.1), ⟨fun _ y => h1 y.1, fun _ => rfl⟩, fun J J' z => br_t hl (jx_level (by omega) ht (br_f h1 z))⟩
/-- all five flags of t -/
theorem jl_body {md mr mf ms mu : Int64} {Dn : Nat → Bool} {ex : Nat → Int32} {t : Nat} (hN : N ≤ 16) (hM : jm_M N Dn ex md mr mf ms mu) (hS : ja_S N sub) (ht : t < N) : ∃ a b c e g : Int32, (a = 0 ↔ ∃ p, p < N ∧ jq_X N sub lv np op t p ∧ ¬ Dn p = true) ∧ (b = 0 ↔ ¬ ∃ p, p < N ∧ ja_E np op t p ∧ Dn p = true ∧ jq_bd ex p) ∧ (c = 0 ↔ ¬ ∃ p, p < N ∧ bt (np t) p = true ∧ ((Dn p = true ∧ ex p = 2) ∨ sp t < sp p)) ∧ (e = 0 ↔ ¬ (lv t = 1 ∧ ∃ s, s < N ∧ sub = nI s ∧ ∃ p, p < N ∧ ja_E np op s p ∧ Dn p = true ∧ jq_bd ex p)) ∧ (g = 0 ↔ ¬ (nI t = sub ∧ ∃ p, p < N ∧ lv p = 1 ∧ Dn p = true ∧ jq_bd ex p)) ∧ ∀ J316 J325 : jl_T, wL_law_601 post L xs J316 J325 (nI N) x2 sub md mr mf ms mu x16 (nI t) a b c e g kc ks (nI N) lim keep sub clk sta ff rt rs lv sp du fa np op st sa fi re → ∃ n, wL_law_362 post L xs J316 J325 (nI N) x2 sub md mr mf ms mu x16 (nI t) 0 0 kc ks (nI N) lim keep sub clk sta ff rt rs lv sp du fa np op st sa fi re n 1 0 0 0 := by
  obtain ⟨a1, b, c, p1, p2, p3, p4⟩ := jl_362 (post := post) (L := L) (xs := xs) (x2 := x2) (x5 := sub) (x16 := x16) (x21 := 0) (x22 := 0) (kc := kc) (ks := ks) (lim := lim) (keep := keep) (sub := sub) (clk := clk) (sta := sta) (ff := ff) (rt := rt) (rs := rs) (lv := lv) (sp := sp) (du := du) (fa := fa) (np := np) (op := op) (st := st) (sa := sa) (fi := fi) (re := re) hN hM ht N 0 (by omega) 1 0 0
  obtain ⟨a2, e, q1, q2, q3⟩ := jl_mid (post := post) (L := L) (xs := xs) (x2 := x2) (x16 := x16) (kc := kc) (ks := ks) (lim := lim) (keep := keep) (sub := sub) (clk := clk) (sta := sta) (ff := ff) (rt := rt) (rs := rs) (lv := lv) (sp := sp) (du := du) (fa := fa) (np := np) (op := op) (st := st) (sa := sa) (fi := fi) (re := re) (a := a1) (b := b) (c := c) hN hM hS ht
  obtain ⟨a3, g, r1, r2, r3⟩ := jl_534 (post := post) (L := L) (xs := xs) (x2 := x2) (x16 := x16) (kc := kc) (ks := ks) (lim := lim) (keep := keep) (sub := sub) (clk := clk) (sta := sta) (ff := ff) (rt := rt) (rs := rs) (lv := lv) (sp := sp) (du := du) (fa := fa) (np := np) (op := op) (st := st) (sa := sa) (fi := fi) (re := re) (t := t) (a := a2) (b := b) (c := c) (e := e) hN hM
  refine ⟨a3, b, c, e, g, ?_, ?_, ?_, ?_, ?_, fun J J' z => ⟨1 + N, p4 J J' 1 (q3 J J' (r3 J J' z))⟩⟩
  · rw [r1, q1, p1]
    constructor
    · intro h
      rcases h with ((h | ⟨p, _, hp, hE, hd⟩) | ⟨hl, s, hs, es, p, _, hp, hE, hd⟩) | ⟨es, p, _, hp, hl, hd⟩
      · exact absurd h (by decide)
      · exact ⟨p, hp, .inl hE, hd⟩
      · exact ⟨p, hp, .inr (.inl ⟨hl, s, hs, es, hE⟩), hd⟩
      · exact ⟨p, hp, .inr (.inr ⟨es, hl⟩), hd⟩
    · intro ⟨p, hp, hX, hd⟩
      rcases hX with hE | ⟨hl, s, hs, es, hE⟩ | ⟨es, hl⟩
      · exact .inl (.inl (.inr ⟨p, Nat.zero_le _, hp, hE, hd⟩))
      · exact .inl (.inr ⟨hl, s, hs, es, p, Nat.zero_le _, hp, hE, hd⟩)
      · exact .inr ⟨es, p, Nat.zero_le _, hp, hl, hd⟩
  · rw [p2]
    exact ⟨fun h ⟨p, hp, w⟩ => h.2 ⟨p, Nat.zero_le _, hp, w⟩, fun h => ⟨rfl, fun ⟨p, _, hp, w⟩ => h ⟨p, hp, w⟩⟩⟩
  · rw [p3]
    exact ⟨fun h ⟨p, hp, w⟩ => h.2 ⟨p, Nat.zero_le _, hp, w⟩, fun h => ⟨rfl, fun ⟨p, _, hp, w⟩ => h ⟨p, hp, w⟩⟩⟩
  · rw [q2]
    exact ⟨fun h ⟨hl, s, hs, es, p, hp, w⟩ => h ⟨hl, s, hs, es, p, Nat.zero_le _, hp, w⟩, fun h ⟨hl, s, hs, es, p, _, hp, w⟩ => h ⟨hl, s, hs, es, p, hp, w⟩⟩
  · rw [r2]
    exact ⟨fun h ⟨es, p, hp, w⟩ => h ⟨es, p, Nat.zero_le _, hp, w⟩, fun h ⟨es, p, _, hp, w⟩ => h ⟨es, p, hp, w⟩⟩
/-- a target that is ready gets what is expected of it -/
theorem jl_601 {md mr mf ms mu : Int64} {Dn : Nat → Bool} {ex : Nat → Int32} {t : Nat} {a b c e g : Int32} (hN : N ≤ 16) (hM : jm_M N Dn ex md mr mf ms mu) (ht : t < N) (hd : Dn t = false) (hdu : ∃ k, k ≤ 15 ∧ du t = nI k) (ha : ¬ a = 0) (hx : ∀ p, p < N → jq_X N sub lv np op t p → Dn p = true) (hb : b = 0 ↔ ¬ ∃ p, p < N ∧ ja_E np op t p ∧ Dn p = true ∧ jq_bd ex p) (hc : c = 0 ↔ ¬ ∃ p, p < N ∧ bt (np t) p = true ∧ ((Dn p = true ∧ ex p = 2) ∨ sp t < sp p)) (he : e = 0 ↔ ¬ (lv t = 1 ∧ ∃ s, s < N ∧ sub = nI s ∧ ∃ p, p < N ∧ ja_E np op s p ∧ Dn p = true ∧ jq_bd ex p)) (hg : g = 0 ↔ ¬ (nI t = sub ∧ ∃ p, p < N ∧ lv p = 1 ∧ Dn p = true ∧ jq_bd ex p)) : ∃ (w : Int32) (md' mr' mf' ms' mu' : Int64), jm_M N (fun i => Dn i || decide (i = t)) (upd ex t w) md' mr' mf' ms' mu' ∧ jq_L N sub lv sp fa np op (upd ex t w) t ∧ ∀ J316 J325 : jl_T, J325 md' mr' mf' ms' mu' (nI (t + 1)) → wL_law_601 post L xs J316 J325 (nI N) x2 sub md mr mf ms mu x16 (nI t) a b c e g kc ks (nI N) lim keep sub clk sta ff rt rs lv sp du fa np op st sa fi re := by
  have o1 : ∀ (m : Int64) (i : Nat), i < N → jm_b (m ||| ((1 : Int64) <<< ((nI t).toInt64 &&& 63))) i = (jm_b m i || decide (i = t)) := fun m i hi => jm_o1 m (by omega) (by omega)
  have ne : ∀ p, Dn p = true → p ≠ t := fun p z y => by
    rw [y, hd] at z
    exact absurd z (by decide)
  have eqx : ∀ (w : Int32) p, p < N → jq_X N sub lv np op t p → ex p = upd ex t w p := fun w p hp hX => (pk_un (ne p (hx p hp hX))).symm
  have eqx' : ∀ (w : Int32) p, p < N → jq_X N sub lv np op t p → upd ex t w p = ex p := fun w p hp hX => pk_un (ne p (hx p hp hX))
  -- to be skipped: just where a flag says so
  have hA : jq_A N sub lv np op ex t ↔ (¬ e = 0 ∨ ¬ b = 0) := by
    rw [he, hb]
    constructor
    · intro h
      rcases h with ⟨hl, s, hs, es, q, hq, hE, hbd⟩ | ⟨p, hp, hE, hbd⟩
      · exact .inl (fun y => y ⟨hl, s, hs, es, q, hq, hE, hx q hq (.inr (.inl ⟨hl, s, hs, es, hE⟩)), hbd⟩)
      · exact .inr (fun y => y ⟨p, hp, hE, hx p hp (.inl hE), hbd⟩)
    · intro h
      rcases h with h | h
      · obtain ⟨hl, s, hs, es, q, hq, hE, _, hbd⟩ := Classical.not_not.mp h
        exact .inl ⟨hl, s, hs, es, q, hq, hE, hbd⟩
      · obtain ⟨p, hp, hE, _, hbd⟩ := Classical.not_not.mp h
        exact .inr ⟨p, hp, hE, hbd⟩
  have skip : (¬ e = 0 ∨ ¬ b = 0) → jm_M N (fun i => Dn i || decide (i = t)) (upd ex t 5) (md ||| ((1 : Int64) <<< ((nI t).toInt64 &&& 63))) mr mf (ms ||| ((1 : Int64) <<< ((nI t).toInt64 &&& 63))) mu ∧ jq_L N sub lv sp fa np op (upd ex t 5) t := fun h =>
    ⟨jm_ad 5 hM hd (o1 md) (fun i _ => jm_k (by decide)) (fun i _ => jm_k (by decide)) (fun i hi => (o1 ms i hi).trans jm_y) (fun i _ => jm_k (by decide)),
     fun _ => pk_us, fun na => absurd (jq_Ac (eqx 5) (hA.mpr h)) na⟩
  by_cases he0 : e = 0
  · by_cases hb0 : b = 0
    · have nA : ∀ w, ¬ jq_A N sub lv np op (upd ex t w) t := fun w y => (hA.mp (jq_Ac (eqx' w) y)).elim (fun z => z he0) (fun z => z hb0)
      by_cases hs : nI t = sub
      · have hu : ∀ w, (∃ u, u < N ∧ lv u = 1 ∧ jq_bd (upd ex t w) u) ↔ ¬ g = 0 := fun w => by
          rw [hg]
          constructor
          · intro ⟨u, hu, hl, hbd⟩ y
            have hX : jq_X N sub lv np op t u := .inr (.inr ⟨hs, hl⟩)
            unfold jq_bd at hbd
            rw [eqx' w u hu hX] at hbd
            exact y ⟨hs, u, hu, hl, hx u hu hX, hbd⟩
          · intro h
            obtain ⟨_, u, hu, hl, hdu', hbd⟩ := Classical.not_not.mp h
            have hX : jq_X N sub lv np op t u := .inr (.inr ⟨hs, hl⟩)
            refine ⟨u, hu, hl, ?_⟩
            unfold jq_bd
            rw [eqx' w u hu hX]
            exact hbd
        by_cases hg0 : g = 0
        · refine ⟨2, _, _, _, _, _, jm_ad 2 hM hd (o1 md) (fun i hi => (o1 mr i hi).trans jm_y) (fun i _ => jm_k (by decide)) (fun i _ => jm_k (by decide)) (fun i _ => jm_k (by decide)), ⟨fun y => absurd y (nA 2), fun _ => ⟨fun _ => ⟨fun y => absurd hg0 ((hu 2).mp y), fun _ => pk_us⟩, fun y => absurd hs y⟩⟩, fun J J' z => br_f ha (nm_e (nm_e (br_t he0 (br_t hb0 (br_t hs (br_t hg0 (nm_e (nm_r (nI_1 t) z))))))))⟩
        · refine ⟨4, _, _, _, _, _, jm_ad 4 hM hd (o1 md) (fun i _ => jm_k (by decide)) (fun i hi => (o1 mf i hi).trans jm_y) (fun i _ => jm_k (by decide)) (fun i _ => jm_k (by decide)), ⟨fun y => absurd y (nA 4), fun _ => ⟨fun _ => ⟨fun _ => pk_us, fun y => absurd ((hu 4).mpr hg0) y⟩, fun y => absurd hs y⟩⟩, fun J J' z => br_f ha (nm_e (nm_e (br_t he0 (br_t hb0 (br_t hs (br_f hg0 (nm_e (nm_r (nI_1 t) z))))))))⟩
      · have hF : ∀ w, jq_F N sp np (upd ex t w) t ↔ (¬ sp t = 0 ∧ c = 0) := fun w => by
          rw [hc]
          constructor
          · intro ⟨h1, h2⟩
            refine ⟨h1, fun ⟨p, hp, hbt, y⟩ => h2 ⟨p, hp, hbt, ?_⟩⟩
            have hX : jq_X N sub lv np op t p := .inl (jq_En hbt)
            rw [eqx' w p hp hX]
            exact y.elim (fun y => .inl y.2) .inr
          · intro ⟨h1, h2⟩
            refine ⟨h1, fun ⟨p, hp, hbt, y⟩ => h2 ⟨p, hp, hbt, ?_⟩⟩
            have hX : jq_X N sub lv np op t p := .inl (jq_En hbt)
            rw [eqx' w p hp hX] at y
            exact y.elim (fun y => .inl ⟨hx p hp hX, y⟩) .inr
        by_cases hf : ¬ sp t = 0 ∧ c = 0
        · refine ⟨3, _, _, _, _, _, jm_ad 3 hM hd (o1 md) (fun i _ => jm_k (by decide)) (fun i _ => jm_k (by decide)) (fun i _ => jm_k (by decide)) (fun i hi => (o1 mu i hi).trans jm_y), ⟨fun y => absurd y (nA 3), fun _ => ⟨fun y => absurd y hs, fun _ => ⟨fun _ => pk_us, fun y => absurd ((hF 3).mpr hf) y⟩⟩⟩, fun J J' z => br_f ha (nm_e (nm_e (br_t he0 (br_t hb0 (br_f hs (jx_timeOf (by omega) ht (br_f hf.1 (br_t hf.2 (nm_e (nm_r (nI_1 t) z))))))))))⟩
        · obtain ⟨k, hk, ek⟩ := hdu
          -- the command decides
          have cmd : ∀ J316 J325 : jl_T, wL_law_698 post L xs J316 J325 (nI N) x2 sub (md ||| ((1 : Int64) <<< ((nI t).toInt64 &&& 63))) mr mf ms mu x16 (nI t) ((1 : Int64) <<< ((nI t).toInt64 &&& 63)) kc ks (nI N) lim keep sub clk sta ff rt rs lv sp du fa np op st sa fi re → wL_law_601 post L xs J316 J325 (nI N) x2 sub md mr mf ms mu x16 (nI t) a b c e g kc ks (nI N) lim keep sub clk sta ff rt rs lv sp du fa np op st sa fi re := fun J J' z => by
            refine br_f ha (nm_e (nm_e (br_t he0 (br_t hb0 (br_f hs (jx_timeOf (by omega) ht ?_))))))
            exact br_c (fun _ => z) (fun h1 => br_f (fun h2 => hf ⟨h1, h2⟩) z)
          by_cases h0 : fa t = 0
          · refine ⟨2, _, _, _, _, _, jm_ad 2 hM hd (o1 md) (fun i hi => (o1 mr i hi).trans jm_y) (fun i _ => jm_k (by decide)) (fun i _ => jm_k (by decide)) (fun i _ => jm_k (by decide)), ⟨fun y => absurd y (nA 2), fun _ => ⟨fun y => absurd y hs, fun _ => ⟨fun y => absurd ((hF 2).mp y) hf, fun _ => ⟨fun y => absurd h0 y, fun _ => pk_us⟩⟩⟩⟩, fun J J' z => cmd J J' ?_⟩
            unfold wL_law_698
            refine jx_commandOf (by omega) ht (fun _ => ?_) (fun y => absurd h0 y)
            rw [ek]
            exact br_t (nI_lt (b := 16) (by omega) (by omega)) (nm_e (nm_r (nI_1 t) z))
          · refine ⟨4, _, _, _, _, _, jm_ad 4 hM hd (o1 md) (fun i _ => jm_k (by decide)) (fun i hi => (o1 mf i hi).trans jm_y) (fun i _ => jm_k (by decide)) (fun i _ => jm_k (by decide)), ⟨fun y => absurd y (nA 4), fun _ => ⟨fun y => absurd y hs, fun _ => ⟨fun y => absurd ((hF 4).mp y) hf, fun _ => ⟨fun _ => pk_us, fun y => absurd y h0⟩⟩⟩⟩, fun J J' z => cmd J J' ?_⟩
            unfold wL_law_698
            refine jx_commandOf (by omega) ht (fun y => absurd y h0) (fun _ => ?_)
            rw [ek, show (16 : Int32) = nI 16 from rfl, nI_add]
            exact br_f (nI_nlt (b := 16) (by omega) (by omega)) (nm_e (nm_r (nI_1 t) z))
    · exact ⟨5, _, _, _, _, _, (skip (.inr hb0)).1, (skip (.inr hb0)).2, fun J J' z => br_f ha (nm_e (nm_e (br_t he0 (br_f hb0 (nm_e (nm_r (nI_1 t) z))))))⟩
  · exact ⟨5, _, _, _, _, _, (skip (.inl he0)).1, (skip (.inl he0)).2, fun J J' z => br_f ha (nm_e (nm_e (br_f he0 (nm_e (nm_r (nI_1 t) z)))))⟩
/-- a pass -/
theorem jl_325 (hN : N ≤ 16) (hS : ja_S N sub) (hdu : ∀ t, t < N → ∃ k, k ≤ 15 ∧ du t = nI k) : ∀ d i, i + d = N → ∀ (md mr mf ms mu : Int64) (Dn : Nat → Bool) (ex : Nat → Int32), jm_M N Dn ex md mr mf ms mu → jm_J N sub lv sp fa np op Dn ex → ∃ (md' mr' mf' ms' mu' : Int64) (Dn' : Nat → Bool) (ex' : Nat → Int32), jm_M N Dn' ex' md' mr' mf' ms' mu' ∧ jm_J N sub lv sp fa np op Dn' ex' ∧ (∀ t, t < N → Dn t = true → Dn' t = true) ∧ (∀ t, i ≤ t → t < N → (∀ p, p < N → jq_X N sub lv np op t p → Dn p = true) → Dn' t = true) ∧ ∀ (J316 : jl_T) f, wL_law_325 post L xs J316 (nI N) x2 sub x16 kc ks (nI N) lim keep sub clk sta ff rt rs lv sp du fa np op st sa fi re f md' mr' mf' ms' mu' (nI N) → wL_law_325 post L xs J316 (nI N) x2 sub x16 kc ks (nI N) lim keep sub clk sta ff rt rs lv sp du fa np op st sa fi re (f + d) md mr mf ms mu (nI i) := by
  intro d
  induction d with
  | zero =>
    intro i hi md mr mf ms mu Dn ex hM hJ
    have e : i = N := by omega
    subst e
    exact ⟨md, mr, mf, ms, mu, Dn, ex, hM, hJ, fun _ _ z => z, fun t h1 h2 => by omega, fun _ f z => z⟩
  | succ d ih =>
    intro i hi md mr mf ms mu Dn ex hM hJ
    have hiN : i < N := by omega
    have hge : ¬ nI N ≤ nI i := nI_ge (by omega) (by omega)
    have hbit := (hM i hiN).1
    by_cases hD : Dn i = true
    · obtain ⟨md', mr', mf', ms', mu', Dn', ex', k1, k2, k3, k4, k5⟩ := ih (i + 1) (by omega) md mr mf ms mu Dn ex hM hJ
      refine ⟨md', mr', mf', ms', mu', Dn', ex', k1, k2, k3, fun t h1 h2 h3 => ?_, fun J f z => br_f hge (jm_bit (by omega) (fun _ => br_f ja_i1 (nm_r (nI_1 i) (k5 J f z))) (fun y => absurd (hbit.trans hD) y))⟩
      by_cases y : t = i
      · subst y
        exact k3 t h2 hD
      · exact k4 t (by omega) h2 h3
    · have hDf : Dn i = false := by
        cases y : Dn i with
        | false => rfl
        | true => exact absurd y hD
      have hnb : ¬ jm_b md i = true := fun y => hD (hbit.symm.trans y)
      obtain ⟨a, b, c, e, g, f1, f2, f3, f4, f5, f6⟩ := jl_body (post := post) (L := L) (xs := xs) (x2 := x2) (x16 := x16) (kc := kc) (ks := ks) (lim := lim) (keep := keep) (sub := sub) (clk := clk) (sta := sta) (ff := ff) (rt := rt) (rs := rs) (lv := lv) (sp := sp) (du := du) (fa := fa) (np := np) (op := op) (st := st) (sa := sa) (fi := fi) (re := re) hN hM hS hiN
      by_cases ha : a = 0
      · obtain ⟨md', mr', mf', ms', mu', Dn', ex', k1, k2, k3, k4, k5⟩ := ih (i + 1) (by omega) md mr mf ms mu Dn ex hM hJ
        refine ⟨md', mr', mf', ms', mu', Dn', ex', k1, k2, k3, fun t h1 h2 h3 => ?_, fun J f z => br_f hge (jm_bit (by omega) (fun y => absurd y hnb) (fun _ => br_t rfl (f6 _ _ (br_t ha (nm_r (nI_1 i) (k5 J f z))))))⟩
        by_cases y : t = i
        · subst y
          obtain ⟨p, hp, hX, hd⟩ := f1.mp ha
          exact absurd (h3 p hp hX) hd
        · exact k4 t (by omega) h2 h3
      · have hx : ∀ p, p < N → jq_X N sub lv np op i p → Dn p = true := fun p hp hX => Classical.byContradiction (fun y => ha (f1.mpr ⟨p, hp, hX, y⟩))
        obtain ⟨w, md1, mr1, mf1, ms1, mu1, g1, g2, g3⟩ := jl_601 (post := post) (L := L) (xs := xs) (x2 := x2) (x16 := x16) (kc := kc) (ks := ks) (lim := lim) (keep := keep) (sub := sub) (clk := clk) (sta := sta) (ff := ff) (rt := rt) (rs := rs) (lv := lv) (sp := sp) (du := du) (fa := fa) (np := np) (op := op) (st := st) (sa := sa) (fi := fi) (re := re) hN hM hiN hDf (hdu i hiN) ha hx f2 f3 f4 f5
        obtain ⟨md', mr', mf', ms', mu', Dn', ex', k1, k2, k3, k4, k5⟩ := ih (i + 1) (by omega) md1 mr1 mf1 ms1 mu1 _ _ g1 (jm_Ja hJ hDf hx g2)
        have up : ∀ p, Dn p = true → (Dn p || decide (p = i)) = true := fun p z => by rw [z, Bool.true_or]
        refine ⟨md', mr', mf', ms', mu', Dn', ex', k1, k2, fun t ht z => k3 t ht (up t z), fun t h1 h2 h3 => ?_, fun J f z => br_f hge (jm_bit (by omega) (fun y => absurd y hnb) (fun _ => br_t rfl (f6 _ _ (g3 _ _ (k5 J f z)))))⟩
        by_cases y : t = i
        · subst y
          exact k3 t h2 (by rw [decide_eq_true (show t = t from rfl), Bool.or_true])
        · exact k4 t (by omega) h2 (fun p hp hX => up p (h3 p hp hX))
/-- all passes; H: what comes behind them -/
theorem jl_316 (hN : N ≤ 16) (hS : ja_S N sub) (hdu : ∀ t, t < N → ∃ k, k ≤ 15 ∧ du t = nI k) (K : jq_K N (jq_X N sub lv np op)) (H : ∀ (md mr mf ms mu : Int64) (Dn : Nat → Bool) (ex : Nat → Int32), jm_M N Dn ex md mr mf ms mu → (∀ t, t < N → Dn t = true) → (∀ t, t < N → jq_L N sub lv sp fa np op ex t) → wpX_start (fun _ u => match u with | (b1, b2, b3, b4, b5, b6, b7, b8, b9, c1, c2, c3, c4, c5, c6, c7, c8, c9, c10) => ∃ fu755 : Nat, wL_law_755 post L xs (nI N) x2 mr mf ms mu kc ks fu755 0 0 0 0 b1 b2 b3 b4 b5 b6 b7 b8 b9 c1 c2 c3 c4 c5 c6 c7 c8 c9 c10) (ja_T N lim keep sub clk sta ff rt rs lv sp du fa np op st sa fi re)) : ∀ e r, r + e = N + 1 → ∀ (md mr mf ms mu : Int64) (Dn : Nat → Bool) (ex : Nat → Int32), jm_M N Dn ex md mr mf ms mu → jm_J N sub lv sp fa np op Dn ex → ((∀ t, t < N → Dn t = true) ∨ r ≤ jc_n Dn N) → wL_law_316 post L xs (nI N) x2 sub kc ks (nI N) lim keep sub clk sta ff rt rs lv sp du fa np op st sa fi re (e + 1) md mr mf ms mu (nI r) := by
  intro e
  induction e with
  | zero =>
    intro r hr md mr mf ms mu Dn ex hM hJ hP
    have e : r = N + 1 := by omega
    subst e
    have all := jq_all hP (by omega)
    exact br_t (nI_lt (by omega) (by omega)) (H md mr mf ms mu Dn ex hM all (fun t ht => (hJ t ht (all t ht)).2))
  | succ e ih =>
    intro r hr md mr mf ms mu Dn ex hM hJ hP
    obtain ⟨md', mr', mf', ms', mu', Dn', ex', k1, k2, k3, k4, k5⟩ := jl_325 (post := post) (L := L) (xs := xs) (x2 := x2) (x16 := nI r) (kc := kc) (ks := ks) (lim := lim) (keep := keep) (sub := sub) (clk := clk) (sta := sta) (ff := ff) (rt := rt) (rs := rs) (lv := lv) (sp := sp) (du := du) (fa := fa) (np := np) (op := op) (st := st) (sa := sa) (fi := fi) (re := re) hN hS hdu N 0 (by omega) md mr mf ms mu Dn ex hM hJ
    have hP' := jq_pass K hP k3 (fun t ht h => k4 t (Nat.zero_le _) ht h)
    refine br_f (nI_nlt (by omega) (by omega)) ⟨1 + N, k5 _ 1 (br_t (nI_le (Nat.le_refl _) (by omega)) (nm_r (nI_1 r) ?_))⟩
    exact ih (r + 1) (by omega) md' mr' mf' ms' mu' Dn' ex' k1 k2 hP'

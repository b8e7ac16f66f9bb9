-- p18: the constructor, the setup, the top
def jz_f (x : Int32) (i : Nat) : Nat → Int32 := fun j => if j < i then x else 0
theorem jz_0 (x : Int32) : jz_f x 0 = fun _ => 0 := by
  funext j
  exact if_neg (by omega)
theorem jz_s (x : Int32) (i : Nat) : upd (jz_f x i) i x = jz_f x (i + 1) := by
  funext j
  unfold jz_f
  by_cases e : j = i
  · subst e
    rw [pk_us, if_pos (by omega)]
  · rw [pk_un e]
    by_cases h : j < i
    · rw [if_pos h, if_pos (by omega)]
    · rw [if_neg h, if_neg (by omega)]
theorem jz_u (i : Nat) : upd (fun _ => 0) i 0 = fun _ => 0 := ja_u0 rfl
theorem jz_X {r1 r2 kp : Int32} {mc ms kc ks : Nat} (post : St2 → Prop) : ∀ d i, i + d = 32 → ∀ f, wX_init_152 post mc ms kc ks r1 r2 kp (-1) 0 0 0 0 0 f (nI 32) (fun _ => 0) (fun _ => 0) (jz_f 1 32) (fun _ => 0) (fun _ => 0) (fun _ => 0) (fun _ => 0) (jz_f (-1) 32) (jz_f (-1) 32) (fun _ => 0) → wX_init_152 post mc ms kc ks r1 r2 kp (-1) 0 0 0 0 0 (f + d) (nI i) (fun _ => 0) (fun _ => 0) (jz_f 1 i) (fun _ => 0) (fun _ => 0) (fun _ => 0) (fun _ => 0) (jz_f (-1) i) (jz_f (-1) i) (fun _ => 0) := by
  intro d
  induction d with
  | zero =>
    intro i hi f z
    have e : i = 32 := by omega
    subst e
    exact z
  | succ d ih =>
    intro i hi f z
    have hin : vp_in (nI i) 32 := vp_in_nI (by omega) (by omega)
    have hcl : (nI i).toNatClampNeg = i := nI_clamp (by omega)
    refine br_f (nI_ge (b := 32) (by omega) (by omega)) ⟨hin, nm_r (by rw [hcl, jz_u]) ⟨hin, nm_r (by rw [hcl, jz_s]) ⟨hin, nm_r (by rw [hcl, jz_u]) ⟨hin, nm_r (by rw [hcl, jz_s]) ⟨hin, nm_r (by rw [hcl, jz_s]) (nm_r (nI_1 i) ?_)⟩⟩⟩⟩⟩
    exact ih (i + 1) (by omega) f z
theorem jp_init {N Lm : Nat} (hN1 : 1 ≤ N) (hN : N ≤ 32) (hL1 : 1 ≤ Lm) (hL : Lm ≤ 8) (post : St2 → Prop) (h : post (ja_T N (nI Lm) 1 (-1) 0 0 0 0 0 (fun _ => 0) (fun _ => 0) (jz_f 1 32) (fun _ => 0) (fun _ => 0) (fun _ => 0) (fun _ => 0) (jz_f (-1) 32) (jz_f (-1) 32) (fun _ => 0))) : wpX_init post 10 320 (0, 0, 0, 0, 0, 0, 0, 0, 0) (nI N) (nI Lm) 1 := by
  have z := jz_X (r1 := nI N) (r2 := nI Lm) (kp := 1) (mc := 10) (ms := 320) (kc := 10) (ks := 320) post 32 0 rfl 1 (br_t (nI_le (Nat.le_refl _) (by omega)) h)
  rw [jz_0, jz_0] at z
  refine ⟨by omega, by omega, by omega, by omega, by omega, by omega, by omega, by omega, by omega, by omega, by omega, by omega, by omega, by omega, by omega, by omega, by omega, by omega, by omega, by omega, ?_⟩
  exact br_t (nI_le (a := 1) hN1 (by omega)) (br_t (nI_le (b := 32) hN (by omega)) (br_t (nI_le (a := 1) hL1 (by omega)) (br_t (nI_le (b := 8) hL (by omega)) (br_f (by decide) ⟨_, z⟩))))
theorem jl_cell {post : Int32 → Prop} {L : Nat} {xs : Nat → Int32} {x : Int32} (k : Nat) (hk : k < 2 ^ 31) (hL : L ≤ 260) (e : x = nI k) (h : ∀ v, post v) : wpL_cell post L xs () x := by
  subst e
  by_cases y : L ≤ k
  · exact br_t (nI_le y hk) (h 0)
  · exact br_f (nI_ge (by omega) (by omega)) ⟨vp_in_nI (by omega) (by omega), h _⟩
variable {N Lm : Nat} {sub : Int32} {lv sp du fa np op : Nat → Int32} {post : Int32 → Prop} {L : Nat} {xs : Nat → Int32} {kc ks : Nat}
def jq_du (N : Nat) (du : Nat → Int32) : Prop := ∀ t, t < N → ∃ k, k ≤ 15 ∧ du t = nI k
theorem jl_272 (hN : N ≤ 16) (U : jq_U N sub lv sp fa np op) (H : ∃ n, wL_law_316 post L xs (nI N) (nI Lm) sub kc ks (nI N) (nI Lm) 1 sub 0 0 0 0 0 lv sp du fa np op (fun _ => 0) (jz_f (-1) 32) (jz_f (-1) 32) (fun _ => 0) n 0 0 0 0 0 0) : ∀ d i, i + d = N → ∀ x5 : Int32, (x5 = sub ∨ (x5 = -1 ∧ ∀ t, t < i → ¬ sub = nI t)) → wL_law_272 post L xs (nI N) (nI Lm) kc ks (nI N) (nI Lm) 1 sub 0 0 0 0 0 lv sp du fa np op (fun _ => 0) (jz_f (-1) 32) (jz_f (-1) 32) (fun _ => 0) (d + 1) x5 (nI i) := by
  intro d
  induction d with
  | zero =>
    intro i hi x5 h
    have e : i = N := by omega
    subst e
    have e5 : x5 = sub := by
      rcases h with h | ⟨h, hn⟩
      · exact h
      · rcases U.1 with y | ⟨s, hs, y⟩
        · rw [h, y]
        · exact absurd y (hn s hs)
    subst e5
    exact br_t (nI_le (Nat.le_refl _) (by omega)) H
  | succ d ih =>
    intro i hi x5 h
    have hiN : i < N := by omega
    refine br_f (nI_ge (by omega) (by omega)) (jx_level (by omega) hiN ?_)
    by_cases h2 : lv i = 2
    · have e := (U.2.2.2.2.2.2.1 i hiN).mp h2
      refine br_t h2 (nm_r (nI_1 i) (ih (i + 1) (by omega) (nI i) (.inl e.symm)))
    · refine br_f h2 (nm_r (nI_1 i) (ih (i + 1) (by omega) x5 (h.elim .inl (fun h => .inr ⟨h.1, fun t ht => ?_⟩))))
      by_cases y : t = i
      · subst y
        exact fun z => h2 ((U.2.2.2.2.2.2.1 t hiN).mpr z)
      · exact h.2 t (by omega)
theorem jl_63 {k : Nat} (hN1 : 1 ≤ N) (hN : N ≤ 16) (hk : k ≤ 60) (hL : L ≤ 260) (H : ∀ (sub : Int32) (lv sp du fa np op : Nat → Int32), jq_U N sub lv sp fa np op → jq_du N du → ∃ n, wL_law_272 post L xs (nI N) (nI Lm) kc ks (nI N) (nI Lm) 1 sub 0 0 0 0 0 lv sp du fa np op (fun _ => 0) (jz_f (-1) 32) (jz_f (-1) 32) (fun _ => 0) n (-1) 0) : ∀ d i, i + d = k → ∀ (sub : Int32) (lv sp du fa np op : Nat → Int32), jq_U N sub lv sp fa np op → jq_du N du → wL_law_63 post L xs (nI N) (nI Lm) (nI k) kc ks (d + 1) (nI i) (nI N) (nI Lm) 1 sub 0 0 0 0 0 lv sp du fa np op (fun _ => 0) (jz_f (-1) 32) (jz_f (-1) 32) (fun _ => 0) := by
  intro d
  induction d with
  | zero =>
    intro i hi sub lv sp du fa np op U Du
    have e : i = k := by omega
    subst e
    exact br_t (nI_le (Nat.le_refl _) (by omega)) (H sub lv sp du fa np op U Du)
  | succ d ih =>
    intro i hi sub lv sp du fa np op U Du
    have n0 : ¬ nI N = 0 := nI_ne0 (by omega) (by omega)
    have rem : ∀ r : Int32, ∃ a, a < N ∧ (r &&& 31) - (r &&& 31) / nI N * nI N = nI a := fun r => by
      obtain ⟨j, hj, e⟩ := pk_andE r (m := 31) 5 (by decide)
      rw [e]
      exact ⟨j % N, Nat.mod_lt _ (by omega), pk_rem (by omega) (by omega) (by omega)⟩
    refine br_f (nI_ge (by omega) (by omega)) (nm_r (e' := nI (2 + 4 * i)) (by rw [show (4 : Int32) = nI 4 from rfl, show (2 : Int32) = nI 2 from rfl, pk_mul, nI_add]) ?_)
    refine jl_cell (2 + 4 * i) (by omega) hL rfl (fun r0 => nm_e ?_)
    refine jl_cell (2 + 4 * i + 1) (by omega) hL (nI_1 _) (fun r1 => ⟨n0, ?_⟩)
    obtain ⟨a, ha, ea⟩ := rem r1
    refine nm_r ea ?_
    refine jl_cell (2 + 4 * i + 2) (by omega) hL (by rw [show (2 : Int32) = nI 2 from rfl, nI_add]) (fun r2 => ⟨n0, ?_⟩)
    obtain ⟨b, hb, eb⟩ := rem r2
    refine nm_r eb ?_
    refine jl_cell (2 + 4 * i + 3) (by omega) hL (by rw [show (3 : Int32) = nI 3 from rfl, nI_add]) (fun r3 => ?_)
    -- addPrereq in its three places
    have add : ∀ c : Int32, ∃ r np' op', jq_U N sub lv sp fa np' op' ∧ ∀ P : Int32 → St2 → Prop, P r (ja_T N (nI Lm) 1 sub 0 0 0 0 0 lv sp du fa np' op' (fun _ => 0) (jz_f (-1) 32) (jz_f (-1) 32) (fun _ => 0)) → wpX_addPrereq P (ja_T N (nI Lm) 1 sub 0 0 0 0 0 lv sp du fa np op (fun _ => 0) (jz_f (-1) 32) (jz_f (-1) 32) (fun _ => 0)) (nI a) (nI b) c := fun c => jp_add (by omega) U ha hb
    have k153 : ∀ c : Int32, wL_law_153 post L xs (wL_law_63 post L xs (nI N) (nI Lm) (nI k) kc ks (d + 1)) (nI N) (nI Lm) (nI k) (nI i) c (nI b) (nI a) kc ks (nI N) (nI Lm) 1 sub 0 0 0 0 0 lv sp du fa np op (fun _ => 0) (jz_f (-1) 32) (jz_f (-1) 32) (fun _ => 0) := fun c => by
      obtain ⟨r, np', op', U', w⟩ := add c
      unfold wL_law_153
      refine w _ ?_
      exact nm_r (nI_1 i) (ih (i + 1) (by omega) sub lv sp du fa np' op' U' Du)
    have k210 : ∀ c : Int32, ja_B c → wL_law_210 post L xs (wL_law_63 post L xs (nI N) (nI Lm) (nI k) kc ks (d + 1)) (nI N) (nI Lm) (nI k) (nI i) c (1 + (r3 &&& 3)) (nI a) kc ks (nI N) (nI Lm) 1 sub 0 0 0 0 0 lv sp du fa np op (fun _ => 0) (jz_f (-1) 32) (jz_f (-1) 32) (fun _ => 0) := fun c hc => by
      obtain ⟨j, hj, ej⟩ := pk_andE r3 (m := 3) 2 (by decide)
      have e1 : (1 : Int32) + nI j = nI (1 + j) := by rw [show (1 : Int32) = nI 1 from rfl, nI_add]
      rw [ej, e1]
      obtain ⟨r, U', w⟩ := jp_cmd (lim := nI Lm) (keep := 1) (clk := 0) (ff := 0) (rt := 0) (rs := 0) (du := du) (st := fun _ => 0) (sa := jz_f (-1) 32) (fi := jz_f (-1) 32) (re := fun _ => 0) (x := 1 + j) (by omega) U ha (by omega) (by omega) hc
      unfold wL_law_210
      refine w _ ?_
      refine nm_r (nI_1 i) (ih (i + 1) (by omega) sub lv sp _ _ np op U' (fun t ht => ?_))
      by_cases y : t = a
      · subst y
        exact ⟨1 + j, by omega, pk_us⟩
      · rw [pk_un y]
        exact Du t ht
    refine br_c (fun _ => ?_) (fun _ => br_c (fun _ => k153 1) (fun _ => k153 0))
    refine br_c (fun _ => ?_) (fun _ => ?_)
    · obtain ⟨j, hj, ej⟩ := pk_andE r3 (m := 7) 3 (by decide)
      rw [ej]
      obtain ⟨r, sp', U', w⟩ := jp_time (lim := nI Lm) (keep := 1) (clk := 0) (ff := 0) (rt := 0) (rs := 0) (du := du) (st := fun _ => 0) (sa := jz_f (-1) 32) (fi := jz_f (-1) 32) (re := fun _ => 0) (x := j) (by omega) U ha (by omega)
      refine w _ ?_
      exact nm_r (nI_1 i) (ih (i + 1) (by omega) sub lv sp' du fa np op U' Du)
    · refine br_c (fun _ => br_c (fun _ => k210 1 ja_B1) (fun _ => k210 0 ja_B0)) (fun _ => ?_)
      refine br_c (fun _ => ?_) (fun _ => ?_)
      · obtain ⟨r, sub', lv', U', w⟩ := jp_smk (lim := nI Lm) (keep := 1) (clk := 0) (ff := 0) (rt := 0) (rs := 0) (du := du) (st := fun _ => 0) (sa := jz_f (-1) 32) (fi := jz_f (-1) 32) (re := fun _ => 0) (by omega) U ha
        refine w _ ?_
        exact nm_r (nI_1 i) (ih (i + 1) (by omega) sub' lv' sp du fa np op U' Du)
      · refine br_c (fun _ => ?_) (fun _ => ?_)
        · obtain ⟨r, lv', U', w⟩ := jp_sub (lim := nI Lm) (keep := 1) (clk := 0) (ff := 0) (rt := 0) (rs := 0) (du := du) (st := fun _ => 0) (sa := jz_f (-1) 32) (fi := jz_f (-1) 32) (re := fun _ => 0) (by omega) U ha
          refine w _ ?_
          exact nm_r (nI_1 i) (ih (i + 1) (by omega) sub lv' sp du fa np op U' Du)
        · obtain ⟨r, np', op', U', w⟩ := add 0
          refine w _ ?_
          exact nm_r (nI_1 i) (ih (i + 1) (by omega) sub lv sp du fa np' op' U' Du)
theorem jm_s0 {P : Nat → Bool} {g : Nat → Int64} : ∀ n, (∀ i, i < n → ¬ P i = true) → jm_s P g n = 0 := by
  intro n
  induction n with
  | zero => intro _; rfl
  | succ n ih =>
    intro h
    rw [jm_sf (h n (by omega)), ih (fun i hi => h i (by omega))]
theorem jz_m {t : Nat} (h : t < 32) : jz_f (-1) 32 t = -1 := if_pos h
theorem ja_01 : ¬ (0 : Int32) = 1 := by decide
theorem ja_02 : ¬ (0 : Int32) = 2 := by decide
/-- the run begins -/
theorem jl_start {md mr mf ms mu : Int64} {Dn : Nat → Bool} {ex : Nat → Int32} (hN : N ≤ 16) (hLm : Lm ≤ 8) (hLm1 : 1 ≤ Lm) (U : jq_U N sub lv sp fa np op) (hM : jm_M N Dn ex md mr mf ms mu) (all : ∀ t, t < N → Dn t = true) (hL : ∀ t, t < N → jq_L N sub lv sp fa np op ex t) (hp : post 1) : wpX_start (fun _ u => match u with | (b1, b2, b3, b4, b5, b6, b7, b8, b9, c1, c2, c3, c4, c5, c6, c7, c8, c9, c10) => ∃ fu755 : Nat, wL_law_755 post L xs (nI N) (nI Lm) mr mf ms mu kc ks fu755 0 0 0 0 b1 b2 b3 b4 b5 b6 b7 b8 b9 c1 c2 c3 c4 c5 c6 c7 c8 c9 c10) (ja_T N (nI Lm) 1 sub 0 0 0 0 0 lv sp du fa np op (fun _ => 0) (jz_f (-1) 32) (jz_f (-1) 32) (fun _ => 0)) := by
  have G := jq_UG (by omega) U
  have c : ∀ b, jc_n (ja_r (fun _ => 0) lv b) N = 0 := fun b => by
    have z : ∀ n, jc_n (fun _ => false) n = 0 := fun n => by
      induction n with
      | zero => rfl
      | succ n ih => rw [jc_sf rfl, ih]
    rw [← z N]
    exact jc_cg N (fun i _ => ja_r_n ja_01)
  have hM' : jm_M N (fun _ => true) ex md mr mf ms mu := fun t ht => by
    have q := hM t ht
    rw [all t ht] at q
    exact q
  have V : jq_V N Lm sub 0 lv sp fa np op ex (jz_f (-1) 32) (fun _ => 0) sp (jz_f (-1) 32) := by
    refine ⟨⟨fun t _ => .inl rfl, fun t _ z => absurd z ja_01, fun t _ => ⟨fun z => absurd z ja_02, fun _ => rfl⟩⟩, ?_, fun t ht _ => jz_m (by omega), fun t ht z => absurd z (by rw [jz_m (by omega)]; decide), fun t _ => .inl rfl⟩
    rw [c, c]
    exact hLm1
  obtain ⟨st', sa', fi', re', g1, g2⟩ := jp_settle (sta := 1) (ff := 0) (du := du) (fi := jz_f (-1) 32) (re := fun _ => 0) hLm U.1 G hL V
  have e0 : nI (jc_n (ja_r (fun _ => 0) lv false) N) = 0 := by rw [c]; rfl
  have e1 : nI (jc_n (ja_r (fun _ => 0) lv true) N) = 0 := by rw [c]; rfl
  have g3 : ∀ P : St2 → Prop, P (ja_X N (nI Lm) 1 sub 0 1 0 lv sp du fa np op st' sa' fi' re') → wpX_settle P (ja_T N (nI Lm) 1 sub 0 1 0 0 0 lv sp du fa np op (fun _ => 0) (jz_f (-1) 32) (jz_f (-1) 32) (fun _ => 0)) := fun P z => by
    have w := g2 P z
    have w' : wpX_settle P (ja_T N (nI Lm) 1 sub 0 1 0 (nI (jc_n (ja_r (fun _ => 0) lv false) N)) (nI (jc_n (ja_r (fun _ => 0) lv true) N)) lv sp du fa np op (fun _ => 0) (jz_f (-1) 32) (jz_f (-1) 32) (fun _ => 0)) := w
    rw [e0, e1] at w'
    exact w'
  have h2 : ∀ s, s < N → sub = nI s → lv s = 2 := fun s hs e => (U.2.2.2.2.2.2.1 s hs).mpr e
  have nP : ∀ t, t < N → ¬ jq_P (jz_f (-1) 32) t = true := fun t ht => by
    rw [jq_Pt, jz_m (by omega)]
    decide
  refine br_t rfl (g3 _ ⟨800 + 1, ?_⟩)
  refine br_f (by decide) (br_t (by decide) ?_)
  refine jl_792 (stp := 0) hN hLm hLm1 hM' hL h2 g1 (fun t ht => ?_) (jm_s0 N nP).symm (fun x17' x19' a b => ?_)
  · rw [jm_0]
    cases y : jq_P (jz_f (-1) 32) t with
    | false => rfl
    | true => exact absurd y (nP t ht)
  · exact jl_755 hN hLm hLm1 U.1 G hM' hL h2 hp 799 1 (by omega) (by omega) 0 0 sp st' sa' fi' re' x17' x19' (by omega) (jq_Vn g1) a b
theorem jl_law {k : Nat} (hN1 : 1 ≤ N) (hN : N ≤ 16) (hLm : Lm ≤ 8) (hLm1 : 1 ≤ Lm) (hk : k ≤ 60) (hL : L ≤ 260) (hp : post 1) : ∃ n, wL_law_63 post L xs (nI N) (nI Lm) (nI k) kc ks n 0 (nI N) (nI Lm) 1 (-1) 0 0 0 0 0 (fun _ => 0) (fun _ => 0) (jz_f 1 32) (fun _ => 0) (fun _ => 0) (fun _ => 0) (fun _ => 0) (jz_f (-1) 32) (jz_f (-1) 32) (fun _ => 0) := by
  refine ⟨k + 1, jl_63 hN1 hN hk hL (fun sub lv sp du fa np op U Du => ?_) k 0 (by omega) _ _ _ _ _ _ _ ?_ ?_⟩
  · refine ⟨N + 1, jl_272 hN U ⟨N + 1 + 1, ?_⟩ N 0 (by omega) (-1) (.inr ⟨rfl, fun t ht => by omega⟩)⟩
    have hl := U.2.2.2.2.1
    refine jl_316 hN U.1 Du (jq_KX (by omega) hl (jq_UG (by omega) U).2.2.1 U.2.2.2.1) (fun md mr mf ms mu Dn ex hM all hJ => jl_start hN hLm hLm1 U hM all hJ hp) (N + 1) 0 (by omega) 0 0 0 0 0 (fun _ => false) (fun _ => 0) (fun t _ => ?_) (fun t _ z => absurd z Bool.false_ne_true) (.inr (Nat.zero_le _))
    rw [jm_0]
    exact ⟨rfl, rfl, rfl, rfl, rfl⟩
  · have nE : ∀ t p, ¬ ja_E (fun _ => 0) (fun _ => 0) t p := fun t p h => by
      have h' : bt ((0 : Int32) ||| 0) p = true := h
      rw [b_or, b_0] at h'
      exact absurd h' (by decide)
    have hno : ∀ i, i < 32 → ¬ (-1 : Int32) = nI i := by decide +kernel
    exact ⟨.inl rfl, fun _ => ja_B0, fun t p _ h => absurd h (nE t p), jq_K0 N _ (fun t p _ _ => nE t p), fun t p _ _ h => absurd h (nE t p), fun _ _ => (by decide : (0 : Int32) ≤ 7), fun t ht => ⟨fun z => absurd z ja_02, fun z => absurd z (hno t (by omega))⟩, fun t _ z => absurd z ja_01⟩
  · exact fun t ht => ⟨1, by omega, if_pos (by omega)⟩

-- start and tick
theorem i_vc_start {k : Nat} {u : SX} {v : SY} (I : i_Rel k u v) (hk : k + 4 ≤ 2051) : wpX_start (fun r u' => wpY_start (fun r' v' => r' = r ∧ i_Rel (k + 4) u' v') v) u := by
  obtain ⟨N, lim, keep, sub, clk, sta, ff, lv, sp, du, fa, np, op, st, sa, fi, re, lf, kd, rc, rfl, rfl, I⟩ := I
  have J := I
  obtain ⟨hN1, hN, h0, hke, hst, hff, hS, hfa, K, hL⟩ := I
  by_cases hs : sta = 0
  · obtain ⟨hc, _⟩ := h0 hs
    subst hc
    obtain ⟨st', sa', fi', re', lf', g1, g2, g3⟩ := js_settle (lim := lim) (keep := keep) (sub := sub) (sta := 1) (ff := ff) (clk := 0) (lv := lv) (sp := sp) (du := du) (fa := fa) (st := st) (sa := sa) (fi := fi) (rc := rc) hN hS K hL
    refine br_t hs (g2 _ (br_t hs (g3 _ ⟨rfl, ja_mk ?_⟩)))
    exact ⟨hN1, hN, fun z => absurd z (by decide), hke, ja_B1, hff, hS, hfa, K, g1⟩
  · exact br_f hs (br_f hs ⟨rfl, ja_mk J⟩)
theorem i_vc_tick {k : Nat} {u : SX} {v : SY} (I : i_Rel k u v) (hk : k + 4 ≤ 2051) : wpX_tick (fun r u' => wpY_tick (fun r' v' => r' = r ∧ i_Rel (k + 4) u' v') v) u := by
  obtain ⟨N, lim, keep, sub, clk, sta, ff, lv, sp, du, fa, np, op, st, sa, fi, re, lf, kd, rc, rfl, rfl, I⟩ := I
  have J := I
  obtain ⟨hN1, hN, h0, hke, hst, hff, hS, hfa, K, hL⟩ := I
  by_cases hs : sta = 0
  · exact br_t hs (br_t hs ⟨rfl, ja_mk J⟩)
  · refine br_f hs ?_
    by_cases hq : ¬ sta = 0 ∧ ¬ ∃ t, t < N ∧ ja_und st t
    · exact jx_isQuiet hN (fun _ => br_f ja_i1 (br_f hs (jy_isQuiet hN (fun _ => br_f ja_i1 ⟨rfl, ja_mk J⟩) (fun y => absurd hq y)))) (fun y => absurd hq y)
    · refine jx_isQuiet hN (fun y => absurd y hq) (fun _ => br_t rfl (nm_e ?_))
      have hl : nI N ≤ nI N := nI_le (Nat.le_refl _) (by omega)
      obtain ⟨c, ff1, sp1, st1, fi1, re1, lf1, a1, a2, a3, a4⟩ := jt_adv (lim := lim) (keep := keep) (sub := sub) (sta := sta) (clk := clk + 1) (lv := lv) (du := du) (fa := fa) (np := np) (op := op) (sa := sa) (kd := kd) (rc := rc) hN N 0 (by omega) 0 ff sp st fi re lf hff hL
      -- the reference, up to its look at the sub-build
      have yy : ∀ (P : Int32 → SY → Prop), wY_tick_35 P (clk + 1) 1 c (nI N) (nI N) lim keep sta ff1 (clk + 1) sub lv sp1 du fa st1 sa fi1 lf1 kd rc → wpY_tick P (ja_Y N lim keep sub clk sta ff lv sp du fa st sa fi lf kd rc) := fun P z =>
        br_f hs (jy_isQuiet hN (fun y => absurd y hq) (fun _ => br_t rfl (nm_e ⟨1 + N, a4 P 1 z⟩)))
      refine ⟨1 + N, a3 _ 1 (br_t hl ?_)⟩
      have sg : ∀ {ff' : Int32} {st' re' lf' : Nat → Int32}, ja_B ff' → ja_L sub re' lf' → ja_I N keep sub (clk + 1) sta ff' fa np op st' re' lf' kd := fun b l => ⟨hN1, hN, fun z => absurd z hs, hke, hst, b, hS, hfa, K, l⟩
      by_cases ho : ja_si N sub st1 1 ∧ ¬ ∃ t, t < N ∧ lv t = 1 ∧ ja_und st1 t
      · obtain ⟨⟨s, hsN, es, hst1⟩, hd⟩ := ho
        have ho : ja_si N sub st1 1 ∧ ¬ ∃ t, t < N ∧ lv t = 1 ∧ ja_und st1 t := ⟨⟨s, hsN, es, hst1⟩, hd⟩
        have his : vp_in (nI s) 32 := vp_in_nI (by omega) (by omega)
        have cs : (nI s).toNatClampNeg = s := nI_clamp (by omega)
        obtain ⟨fa', fb', f1, f2, f3⟩ := jt_fl (x1 := clk + 1) (x2 := c) (lim := lim) (keep := keep) (sub := sub) (sta := sta) (ff := ff1) (clk := clk + 1) (lv := lv) (sp := sp1) (du := du) (fa := fa) (st := st1) (sa := sa) (fi := fi1) (lf := lf1) (kd := kd) (rc := rc) hN N 0 (by omega) 1 0
        have na : ¬ fa' = 0 := fun z => (f1.mp z).elim (fun y => absurd y (by decide)) (fun ⟨t, _, ht, w⟩ => hd ⟨t, ht, w⟩)
        by_cases hb : ∃ t, t < N ∧ lv t = 1 ∧ ja_bad st1 t
        · have nb : ¬ fb' = 0 := fun z => (f2.mp z).2 (by
            obtain ⟨t, ht, w⟩ := hb
            exact ⟨t, Nat.zero_le _, ht, w⟩)
          obtain ⟨st', sa', fi', re', lf', g1, g2, g3⟩ := js_settle (lim := lim) (keep := keep) (sub := sub) (sta := sta) (ff := 1) (clk := clk + 1) (lv := lv) (sp := sp1) (du := du) (fa := fa) (st := upd st1 s 4) (sa := sa) (fi := upd fi1 s (clk + 1)) (rc := rc) hN hS K a2
          subst es
          refine jx_isSubBuildOver hN hS (fun _ => br_f ja_i1 ?_) (fun y => absurd ho y)
          refine jx_hasBadSub hN (fun _ => ?_) (fun y => absurd hb y)
          refine jx_endRun hN hsN hst1 (fun _ => nm_e (g2 _ ?_)) (fun y => absurd y (by decide))
          refine yy _ (br_t hl (br_f (nI_pos (by omega)) ⟨his, ?_⟩))
          rw [cs]
          refine br_t hst1 ⟨1 + N, f3 _ 1 (br_t hl (br_f na (nm_e (br_f nb (jy_finish (by omega) (g3 _ ⟨rfl, ja_mk (sg ja_B1 g1)⟩))))))⟩
        · have nb : fb' = 0 := f2.mpr ⟨rfl, fun ⟨t, _, ht, w⟩ => hb ⟨t, ht, w⟩⟩
          obtain ⟨st', sa', fi', re', lf', g1, g2, g3⟩ := js_settle (lim := lim) (keep := keep) (sub := sub) (sta := sta) (ff := ff1) (clk := clk + 1) (lv := lv) (sp := upd sp1 s (1000000 + (clk + 1))) (du := du) (fa := fa) (st := upd st1 s 2) (sa := sa) (fi := upd fi1 s (clk + 1)) (rc := rc) hN hS K a2
          subst es
          refine jx_isSubBuildOver hN hS (fun _ => br_f ja_i1 ?_) (fun y => absurd ho y)
          refine jx_hasBadSub hN (fun y => absurd y hb) (fun _ => ?_)
          refine jx_endRun hN hsN hst1 (fun y => absurd rfl y) (fun _ => nm_e (g2 _ ?_))
          refine yy _ (br_t hl (br_f (nI_pos (by omega)) ⟨his, ?_⟩))
          rw [cs]
          refine br_t hst1 ⟨1 + N, f3 _ 1 (br_t hl (br_f na (nm_e (br_t nb (jy_finish (by omega) ⟨his, nm_r (by rw [cs]) (g3 _ ⟨rfl, ja_mk (sg a1 g1)⟩)⟩)))))⟩
      · obtain ⟨st', sa', fi', re', lf', g1, g2, g3⟩ := js_settle (lim := lim) (keep := keep) (sub := sub) (sta := sta) (ff := ff1) (clk := clk + 1) (lv := lv) (sp := sp1) (du := du) (fa := fa) (st := st1) (sa := sa) (fi := fi1) (rc := rc) hN hS K a2
        refine jx_isSubBuildOver hN hS (fun y => absurd y ho) (fun _ => br_t rfl (g2 _ ?_))
        refine yy _ (br_t hl ?_)
        rcases ja_sub_in hS hN with ⟨e, _, _⟩ | ⟨s, hsN, es, hm, hi⟩
        · exact br_t (by rw [e]; decide) (g3 _ ⟨rfl, ja_mk (sg a1 g1)⟩)
        · have his : vp_in (nI s) 32 := vp_in_nI (by omega) (by omega)
          have cs : (nI s).toNatClampNeg = s := nI_clamp (by omega)
          obtain ⟨fa', fb', f1, f2, f3⟩ := jt_fl (x1 := clk + 1) (x2 := c) (lim := lim) (keep := keep) (sub := sub) (sta := sta) (ff := ff1) (clk := clk + 1) (lv := lv) (sp := sp1) (du := du) (fa := fa) (st := st1) (sa := sa) (fi := fi1) (lf := lf1) (kd := kd) (rc := rc) hN N 0 (by omega) 1 0
          subst es
          refine br_f (nI_pos (by omega)) ⟨his, ?_⟩
          rw [cs]
          refine br_c (fun h1 => ⟨1 + N, f3 _ 1 (br_t hl (br_t ?_ (g3 _ ⟨rfl, ja_mk (sg a1 g1)⟩)))⟩) (fun _ => g3 _ ⟨rfl, ja_mk (sg a1 g1)⟩)
          rw [f1]
          right
          have hx : ∃ t, t < N ∧ lv t = 1 ∧ ja_und st1 t := Classical.byContradiction (fun y => ho ⟨(hi st1 1).mpr h1, y⟩)
          obtain ⟨t, ht, w⟩ := hx
          exact ⟨t, Nat.zero_le _, ht, w⟩

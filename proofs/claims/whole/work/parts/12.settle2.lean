-- settle
variable {N : Nat} {lim keep sub clk sta ff : Int32} {lv sp du fa np op st sa fi re lf kd rc : Nat → Int32}
theorem js_ps (hN : N ≤ 32) (hS : ja_S N sub) (K : ja_K N np op kd) : ∀ e r, r + e = N + 1 → ∀ (st sa fi re lf : Nat → Int32), ja_L sub re lf → ∃ st' sa' fi' re' lf', ja_L sub re' lf' ∧ (∀ post : SX → Prop, wX_settle_71 post (nI N) lim keep sub clk sta ff (nI (jc_n (ja_r st' lv false) N)) (nI (jc_n (ja_r st' lv true) N)) lv sp du fa np op st' sa' fi' re' → wX_settle_4 post (e + 1) 1 (nI r) (nI N) lim keep sub clk sta ff (nI (jc_n (ja_r st lv false) N)) (nI (jc_n (ja_r st lv true) N)) lv sp du fa np op st sa fi re) ∧ (∀ post : SY → Prop, wY_settle_72 post clk (nI N) lim keep sta ff clk sub lv sp du fa st' sa' fi' lf' kd rc → wY_settle_7 post clk (e + 1) (nI r) (nI N) lim keep sta ff clk sub lv sp du fa st sa fi lf kd rc) := by
  intro e
  induction e with
  | zero =>
    intro r hr st sa fi re lf hL
    have e : r = N + 1 := by omega
    subst e
    exact ⟨st, sa, fi, re, lf, hL, fun post z => br_f ja_i1 (br_t (nI_lt (by omega) (by omega)) z), fun post z => br_t (by rw [nI_1]; exact nI_le (Nat.le_refl _) (by omega)) z⟩
  | succ e ih =>
    intro r hr st sa fi re lf hL
    obtain ⟨b, st1, sa1, fi1, re1, lf1, g1, g2, g3, g4⟩ := js_in (x2 := nI r) (lim := lim) (keep := keep) (sta := sta) (ff := ff) (clk := clk) (lv := lv) (sp := sp) (du := du) (fa := fa) (rc := rc) hN hS K N 0 (by omega) 0 st sa fi re lf ja_B0 hL
    have hx : ¬ nI N < nI r := nI_nlt (by omega) (by omega)
    have hy : ¬ nI N + 1 ≤ nI r := by rw [nI_1]; exact nI_ge (by omega) (by omega)
    have hl : nI N ≤ nI N := nI_le (Nat.le_refl _) (by omega)
    by_cases hb : b = 0
    · refine ⟨st1, sa1, fi1, re1, lf1, g2, fun post z => ?_, fun post z => ?_⟩
      · exact br_f ja_i1 (br_f hx ⟨1 + N, g3 post _ 1 (br_t hl (nm_r (nI_1 r) (br_t hb z)))⟩)
      · exact br_f hy ⟨1 + N, g4 post _ 1 (br_t hl (br_t hb z))⟩
    · have hb1 : b = 1 := ja_B1' g1 hb
      obtain ⟨st2, sa2, fi2, re2, lf2, k1, k2, k3⟩ := ih (r + 1) (by omega) st1 sa1 fi1 re1 lf1 g2
      subst hb1
      refine ⟨st2, sa2, fi2, re2, lf2, k1, fun post z => ?_, fun post z => ?_⟩
      · exact br_f ja_i1 (br_f hx ⟨1 + N, g3 post _ 1 (br_t hl (nm_r (nI_1 r) (k2 post z)))⟩)
      · exact br_f hy ⟨1 + N, g4 post _ 1 (br_t hl (br_f ja_i1 (nm_r (nI_1 r) (k3 post z))))⟩
/-- the loops that skip what waits: a (subs alone) -/
theorem js_ka (hN : N ≤ 32) : ∀ d i, i + d = N → ∀ (st fi : Nat → Int32), ∃ st' fi', (∀ (post : SX → Prop) f, wX_skipWaiting_2 post 1 f (nI N) (nI N) lim keep sub clk sta ff (nI (jc_n (ja_r st' lv false) N)) (nI (jc_n (ja_r st' lv true) N)) lv sp du fa np op st' sa fi' re → wX_skipWaiting_2 post 1 (f + d) (nI i) (nI N) lim keep sub clk sta ff (nI (jc_n (ja_r st lv false) N)) (nI (jc_n (ja_r st lv true) N)) lv sp du fa np op st sa fi re) ∧ (∀ (post : SY → Prop) f, wY_settle_116 post clk f (nI N) (nI N) lim keep sta ff clk sub lv sp du fa st' sa fi' lf kd rc → wY_settle_116 post clk (f + d) (nI i) (nI N) lim keep sta ff clk sub lv sp du fa st sa fi lf kd rc) := by
  intro d
  induction d with
  | zero =>
    intro i hi st fi
    have e : i = N := by omega
    subst e
    exact ⟨st, fi, fun _ f z => z, fun _ f z => z⟩
  | succ d ih =>
    intro i hi st fi
    have hin : vp_in (nI i) 32 := vp_in_nI (by omega) (by omega)
    have hcl : (nI i).toNatClampNeg = i := nI_clamp (by omega)
    have hge : ¬ nI N ≤ nI i := nI_ge (by omega) (by omega)
    have hi' : i < 32 := by omega
    by_cases h0 : st i = 0
    · by_cases hl : lv i = 1
      · obtain ⟨st', fi', g3, g4⟩ := ih (i + 1) (by omega) (upd st i 5) (upd fi i clk)
        refine ⟨st', fi', fun post f z => ?_, fun post f z => ?_⟩
        · refine br_f hge ⟨hin, ?_⟩
          rw [hcl]
          exact br_t h0 (jx_isSub hi' (fun _ => br_f ja_i1 (jx_finish hi' (by rw [h0]; decide) (by decide) (nm_r (nI_1 i) (g3 post f z)))) (fun y => absurd hl y))
        · refine br_f hge (jy_isSub hi' (fun _ => br_f ja_i1 ⟨hin, ?_⟩) (fun y => absurd hl y))
          rw [hcl]
          exact br_t h0 (jy_finish hi' (nm_r (nI_1 i) (g4 post f z)))
      · obtain ⟨st', fi', g3, g4⟩ := ih (i + 1) (by omega) st fi
        refine ⟨st', fi', fun post f z => ?_, fun post f z => ?_⟩
        · refine br_f hge ⟨hin, ?_⟩
          rw [hcl]
          exact br_t h0 (jx_isSub hi' (fun y => absurd y hl) (fun _ => br_t rfl (br_f ja_i1 (nm_r (nI_1 i) (g3 post f z)))))
        · exact br_f hge (jy_isSub hi' (fun y => absurd y hl) (fun _ => br_t rfl (nm_r (nI_1 i) (g4 post f z))))
    · obtain ⟨st', fi', g3, g4⟩ := ih (i + 1) (by omega) st fi
      refine ⟨st', fi', fun post f z => ?_, fun post f z => ?_⟩
      · refine br_f hge ⟨hin, ?_⟩
        rw [hcl]
        exact br_f h0 (nm_r (nI_1 i) (g3 post f z))
      · refine br_f hge (jy_isSub hi' (fun _ => br_f ja_i1 ⟨hin, ?_⟩) (fun _ => br_t rfl (nm_r (nI_1 i) (g4 post f z))))
        rw [hcl]
        exact br_f h0 (nm_r (nI_1 i) (g4 post f z))
/-- b (all) -/
theorem js_kb (hN : N ≤ 32) : ∀ d i, i + d = N → ∀ (st fi : Nat → Int32), ∃ st' fi', (∀ (post : SX → Prop) f, wX_skipWaiting_2 post 0 f (nI N) (nI N) lim keep sub clk sta ff (nI (jc_n (ja_r st' lv false) N)) (nI (jc_n (ja_r st' lv true) N)) lv sp du fa np op st' sa fi' re → wX_skipWaiting_2 post 0 (f + d) (nI i) (nI N) lim keep sub clk sta ff (nI (jc_n (ja_r st lv false) N)) (nI (jc_n (ja_r st lv true) N)) lv sp du fa np op st sa fi re) ∧ (∀ (post : SY → Prop) f, wY_settle_170 post clk f (nI N) (nI N) lim keep sta ff clk sub lv sp du fa st' sa fi' lf kd rc → wY_settle_170 post clk (f + d) (nI i) (nI N) lim keep sta ff clk sub lv sp du fa st sa fi lf kd rc) := by
  intro d
  induction d with
  | zero =>
    intro i hi st fi
    have e : i = N := by omega
    subst e
    exact ⟨st, fi, fun _ f z => z, fun _ f z => z⟩
  | succ d ih =>
    intro i hi st fi
    have hin : vp_in (nI i) 32 := vp_in_nI (by omega) (by omega)
    have hcl : (nI i).toNatClampNeg = i := nI_clamp (by omega)
    have hge : ¬ nI N ≤ nI i := nI_ge (by omega) (by omega)
    have hi' : i < 32 := by omega
    by_cases h0 : st i = 0
    · obtain ⟨st', fi', g3, g4⟩ := ih (i + 1) (by omega) (upd st i 5) (upd fi i clk)
      refine ⟨st', fi', fun post f z => ?_, fun post f z => ?_⟩
      · refine br_f hge ⟨hin, ?_⟩
        rw [hcl]
        refine br_t h0 (jx_isSub hi' (fun _ => br_f ja_i1 ?_) (fun _ => br_t rfl (br_t rfl ?_)))
        · exact jx_finish hi' (by rw [h0]; decide) (by decide) (nm_r (nI_1 i) (g3 post f z))
        · exact jx_finish hi' (by rw [h0]; decide) (by decide) (nm_r (nI_1 i) (g3 post f z))
      · refine br_f hge ⟨hin, ?_⟩
        rw [hcl]
        exact br_t h0 (jy_finish hi' (nm_r (nI_1 i) (g4 post f z)))
    · obtain ⟨st', fi', g3, g4⟩ := ih (i + 1) (by omega) st fi
      refine ⟨st', fi', fun post f z => ?_, fun post f z => ?_⟩
      · refine br_f hge ⟨hin, ?_⟩
        rw [hcl]
        exact br_f h0 (nm_r (nI_1 i) (g3 post f z))
      · refine br_f hge ⟨hin, ?_⟩
        rw [hcl]
        exact br_f h0 (nm_r (nI_1 i) (g4 post f z))
/-- what is asked behind the sub-build's part: step b -/
theorem js_b (hN : N ≤ 32) (st fi : Nat → Int32) : ∃ st' fi', (∀ post : SX → Prop, post (ja_X N lim keep sub clk sta ff lv sp du fa np op st' sa fi' re) → wX_skipWhatCannotRun_20 post (nI N) lim keep sub clk sta ff (nI (jc_n (ja_r st lv false) N)) (nI (jc_n (ja_r st lv true) N)) lv sp du fa np op st sa fi re) ∧ (∀ post : SY → Prop, post (ja_Y N lim keep sub clk sta ff lv sp du fa st' sa fi' lf kd rc) → wY_settle_154 post clk (nI N) lim keep sta ff clk sub lv sp du fa st sa fi lf kd rc) := by
  have ha := Nat.le_trans (jc_le (ja_r st lv false) N) hN
  have hb := Nat.le_trans (jc_le (ja_r st lv true) N) hN
  have hl : nI N ≤ nI N := nI_le (Nat.le_refl _) (by omega)
  by_cases h : jc_n (ja_r st lv false) N = 0 ∧ jc_n (ja_r st lv true) N = 0
  · obtain ⟨st', fi', g3, g4⟩ := js_kb (lim := lim) (keep := keep) (sub := sub) (sta := sta) (ff := ff) (clk := clk) (lv := lv) (sp := sp) (du := du) (fa := fa) (np := np) (op := op) (sa := sa) (re := re) (lf := lf) (kd := kd) (rc := rc) hN N 0 (by omega) st fi
    refine ⟨st', fi', fun post z => ?_, fun post z => ?_⟩
    · exact br_t (by rw [h.1]; rfl) (br_t (by rw [h.2]; rfl) ⟨1 + N, g3 _ 1 (br_t hl z)⟩)
    · unfold wY_settle_154
      refine jy_running true hN 1 rfl ?_
      refine jy_running false hN 0 rfl ?_
      exact br_t (by rw [h.1, h.2]; rfl) ⟨1 + N, g4 post 1 (br_t hl z)⟩
  · refine ⟨st, fi, fun post z => ?_, fun post z => ?_⟩
    · exact pk_eq (jc_n (ja_r st lv false) N) 0 (fun h1 => pk_eq (jc_n (ja_r st lv true) N) 0 (fun h2 => absurd ⟨h1, h2⟩ h) (fun _ => z)) (fun _ => z)
    · unfold wY_settle_154
      refine jy_running true hN 1 rfl ?_
      refine jy_running false hN 0 rfl ?_
      refine br_f ?_ z
      rw [nI_add]
      exact nI_ne0 (by omega) (by omega)
/-- step a, then b -/
theorem js_a (hN : N ≤ 32) (hS : ja_S N sub) (hk : keep = 0) (hf : ¬ ff = 0) (st fi : Nat → Int32) : ∃ st' fi', (∀ post : SX → Prop, post (ja_X N lim keep sub clk sta ff lv sp du fa np op st' sa fi' re) → wpX_skipWhatCannotRun post (ja_X N lim keep sub clk sta ff lv sp du fa np op st sa fi re)) ∧ (∀ post : SY → Prop, post (ja_Y N lim keep sub clk sta ff lv sp du fa st' sa fi' lf kd rc) → wY_settle_72 post clk (nI N) lim keep sta ff clk sub lv sp du fa st sa fi lf kd rc) := by
  have hb := Nat.le_trans (jc_le (ja_r st lv true) N) hN
  have hl : nI N ≤ nI N := nI_le (Nat.le_refl _) (by omega)
  by_cases h : ja_si N sub st 1 ∧ jc_n (ja_r st lv true) N = 0
  · obtain ⟨st1, fi1, g3, g4⟩ := js_ka (lim := lim) (keep := keep) (sub := sub) (sta := sta) (ff := ff) (clk := clk) (lv := lv) (sp := sp) (du := du) (fa := fa) (np := np) (op := op) (sa := sa) (re := re) (lf := lf) (kd := kd) (rc := rc) hN N 0 (by omega) st fi
    obtain ⟨st2, fi2, k3, k4⟩ := js_b (lim := lim) (keep := keep) (sub := sub) (sta := sta) (ff := ff) (clk := clk) (lv := lv) (sp := sp) (du := du) (fa := fa) (np := np) (op := op) (sa := sa) (re := re) (lf := lf) (kd := kd) (rc := rc) hN st1 fi1
    refine ⟨st2, fi2, fun post z => ?_, fun post z => ?_⟩
    · unfold wpX_skipWhatCannotRun
      dsimp only
      refine jx_isSubmakeIn hN hS (fun _ => br_f ja_i1 ?_) (fun y => absurd h.1 y)
      exact br_t (by rw [h.2]; rfl) ⟨1 + N, g3 _ 1 (br_t hl (k3 post z))⟩
    · obtain ⟨⟨s, hs, e, hst⟩, h2⟩ := h
      subst e
      refine br_t hk (br_f hf (br_f (nI_pos (by omega)) ⟨vp_in_nI (by omega) (by omega), ?_⟩))
      rw [nI_clamp (show s < 2 ^ 31 by omega)]
      refine br_t hst (jy_running true hN 1 rfl ?_)
      exact br_t (by rw [h2]; rfl) ⟨1 + N, g4 post 1 (br_t hl (k4 post z))⟩
  · obtain ⟨st2, fi2, k3, k4⟩ := js_b (lim := lim) (keep := keep) (sub := sub) (sta := sta) (ff := ff) (clk := clk) (lv := lv) (sp := sp) (du := du) (fa := fa) (np := np) (op := op) (sa := sa) (re := re) (lf := lf) (kd := kd) (rc := rc) hN st fi
    refine ⟨st2, fi2, fun post z => ?_, fun post z => ?_⟩
    · unfold wpX_skipWhatCannotRun
      dsimp only
      refine jx_isSubmakeIn hN hS (fun h1 => br_f ja_i1 ?_) (fun y => br_t rfl (k3 post z))
      exact br_f (fun y => h ⟨h1, by
        rw [← nI_0, nI_eq (by omega) (by omega)] at y
        exact y⟩) (k3 post z)
    · refine br_t hk (br_f hf ?_)
      rcases ja_sub_in hS hN with ⟨e, _, hn⟩ | ⟨s, hs, e, hm, hi⟩
      · exact br_t (by rw [e]; decide) (k4 post z)
      · subst e
        refine br_f (nI_pos (by omega)) ⟨vp_in_nI (by omega) (by omega), ?_⟩
        rw [nI_clamp (show s < 2 ^ 31 by omega)]
        refine br_c (fun h1 => jy_running true hN 1 rfl ?_) (fun _ => k4 post z)
        exact br_f (fun y => h ⟨(hi st 1).mpr h1, by
          rw [← nI_0, nI_eq (by omega) (by omega)] at y
          exact y⟩) (k4 post z)
theorem js_tl (hN : N ≤ 32) (hS : ja_S N sub) (st fi : Nat → Int32) : ∃ st' fi', (∀ post : SX → Prop, post (ja_X N lim keep sub clk sta ff lv sp du fa np op st' sa fi' re) → wX_settle_71 post (nI N) lim keep sub clk sta ff (nI (jc_n (ja_r st lv false) N)) (nI (jc_n (ja_r st lv true) N)) lv sp du fa np op st sa fi re) ∧ (∀ post : SY → Prop, post (ja_Y N lim keep sub clk sta ff lv sp du fa st' sa fi' lf kd rc) → wY_settle_72 post clk (nI N) lim keep sta ff clk sub lv sp du fa st sa fi lf kd rc) := by
  by_cases h : ja_sp keep ff
  · obtain ⟨st1, fi1, g3, g4⟩ := js_a (lim := lim) (keep := keep) (sub := sub) (sta := sta) (ff := ff) (clk := clk) (lv := lv) (sp := sp) (du := du) (fa := fa) (np := np) (op := op) (sa := sa) (re := re) (lf := lf) (kd := kd) (rc := rc) hN hS h.1 h.2 st fi
    refine ⟨st1, fi1, fun post z => ?_, g4⟩
    unfold wX_settle_71
    refine jx_isStopping (fun _ => br_f ja_i1 ?_) (fun y => absurd h y)
    exact g3 _ z
  · refine ⟨st, fi, fun post z => ?_, fun post z => ?_⟩
    · unfold wX_settle_71
      exact jx_isStopping (fun y => absurd y h) (fun _ => br_t rfl z)
    · exact br_c (fun hk => br_c (fun hf => z) (fun hf => absurd ⟨hk, hf⟩ h)) (fun hk => z)
theorem js_settle (hN : N ≤ 32) (hS : ja_S N sub) (K : ja_K N np op kd) (hL : ja_L sub re lf) : ∃ st' sa' fi' re' lf', ja_L sub re' lf' ∧ (∀ post : SX → Prop, post (ja_X N lim keep sub clk sta ff lv sp du fa np op st' sa' fi' re') → wpX_settle post (ja_X N lim keep sub clk sta ff lv sp du fa np op st sa fi re)) ∧ (∀ post : SY → Prop, post (ja_Y N lim keep sub clk sta ff lv sp du fa st' sa' fi' lf' kd rc) → wpY_settle post (ja_Y N lim keep sub clk sta ff lv sp du fa st sa fi lf kd rc)) := by
  obtain ⟨st1, sa1, fi1, re1, lf1, g1, g2, g3⟩ := js_ps (lim := lim) (keep := keep) (sub := sub) (sta := sta) (ff := ff) (clk := clk) (lv := lv) (sp := sp) (du := du) (fa := fa) (rc := rc) hN hS K (N + 1) 0 (by omega) st sa fi re lf hL
  obtain ⟨st2, fi2, k3, k4⟩ := js_tl (lim := lim) (keep := keep) (sub := sub) (sta := sta) (ff := ff) (clk := clk) (lv := lv) (sp := sp) (du := du) (fa := fa) (np := np) (op := op) (sa := sa1) (re := re1) (lf := lf1) (kd := kd) (rc := rc) hN hS st1 fi1
  exact ⟨st2, sa1, fi2, re1, lf1, g1, fun post z => ⟨N + 1 + 1, g2 post (k3 post z)⟩, fun post z => ⟨N + 1 + 1, g3 post (k4 post z)⟩⟩

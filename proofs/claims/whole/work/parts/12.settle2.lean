-- settle
variable {N : Nat} {lim keep sub clk sta ff : Int32} {lv sp du fa np op st sa fi re lf kd rc : Nat → Int32}
theorem js_ps (hN : N ≤ 32) (hS : ja_S N sub) (K : ja_K N np op kd) : ∀ e r, r + e = N + 1 → ∀ (st sa fi re lf : Nat → Int32), ja_L sub re lf → ∃ st' sa' fi' re' lf', ja_L sub re' lf' ∧ (∀ post : SX → Prop, wX_settle_80 post (nI N) lim keep sub clk sta ff (nI (jc_n (ja_r st' lv false) N)) (nI (jc_n (ja_r st' lv true) N)) lv sp du fa np op st' sa' fi' re' → wX_settle_4 post (e + 1) 1 (nI r) (nI N) lim keep sub clk sta ff (nI (jc_n (ja_r st lv false) N)) (nI (jc_n (ja_r st lv true) N)) lv sp du fa np op st sa fi re) ∧ (∀ post : SY → Prop, wY_settle_70 post clk (nI N) lim keep sta ff clk sub lv sp du fa st' sa' fi' lf' kd rc → wY_settle_7 post clk (e + 1) (nI r) (nI N) lim keep sta ff clk sub lv sp du fa st sa fi lf kd rc) := by
  intro e
  induction e with
  | zero =>
    intro r hr st sa fi re lf hL
    have e : r = N + 1 := by omega
    subst e
    exact ⟨st, sa, fi, re, lf, hL, fun post z => br_f ja_i1 (br_t (nI_lt (by omega) (by omega)) z), fun post z => br_t (by rw [nI_1]; exact nI_le (Nat.le_refl _) (by omega)) z⟩
  | succ e ih =>
    intro r hr st sa fi re lf hL
    obtain ⟨b, st1, sa1, fi1, re1, lf1, g1, g2, g3, g4⟩ := js_in (x2 := nI r) (lim := lim) (keep := keep) (sta := sta) (ff := ff) (clk := clk) (lv := lv) (sp := sp) (du := du) (fa := fa) (rc := rc) hN hS K N 0 (by omega) 0 st sa fi re lf ja_B0 hL
    have hx : ¬ nI N < nI r := nI_nlt (by omega) (by omega)
    have hy : ¬ nI N + 1 ≤ nI r := by rw [nI_1]; exact nI_ge (by omega) (by omega)
    have hl : nI N ≤ nI N := nI_le (Nat.le_refl _) (by omega)
    by_cases hb : b = 0
    · refine ⟨st1, sa1, fi1, re1, lf1, g2, fun post z => ?_, fun post z => ?_⟩
      · exact br_f ja_i1 (br_f hx ⟨1 + N, g3 post _ 1 (br_t hl (nm_r (nI_1 r) (br_t hb z)))⟩)
      · exact br_f hy ⟨1 + N, g4 post _ 1 (br_t hl (br_t hb z))⟩
    · have hb1 : b = 1 := ja_B1' g1 hb
      obtain ⟨st2, sa2, fi2, re2, lf2, k1, k2, k3⟩ := ih (r + 1) (by omega) st1 sa1 fi1 re1 lf1 g2
      subst hb1
      refine ⟨st2, sa2, fi2, re2, lf2, k1, fun post z => ?_, fun post z => ?_⟩
      · exact br_f ja_i1 (br_f hx ⟨1 + N, g3 post _ 1 (br_t hl (nm_r (nI_1 r) (k2 post z)))⟩)
      · exact br_f hy ⟨1 + N, g4 post _ 1 (br_t hl (br_f ja_i1 (nm_r (nI_1 r) (k3 post z))))⟩
/-- the loops that skip what waits: a (subs alone) -/
theorem js_ka (hN : N ≤ 32) : ∀ d i, i + d = N → ∀ (st fi : Nat → Int32), ∃ st' fi', (∀ (post : SX → Prop) f, wX_skipWaiting_2 post 1 f (nI N) (nI N) lim keep sub clk sta ff (nI (jc_n (ja_r st' lv false) N)) (nI (jc_n (ja_r st' lv true) N)) lv sp du fa np op st' sa fi' re → wX_skipWaiting_2 post 1 (f + d) (nI i) (nI N) lim keep sub clk sta ff (nI (jc_n (ja_r st lv false) N)) (nI (jc_n (ja_r st lv true) N)) lv sp du fa np op st sa fi re) ∧ (∀ (post : SY → Prop) f, wY_settle_111 post clk f (nI N) (nI N) lim keep sta ff clk sub lv sp du fa st' sa fi' lf kd rc → wY_settle_111 post clk (f + d) (nI i) (nI N) lim keep sta ff clk sub lv sp du fa st sa fi lf kd rc) := by
  intro d
  induction d with
  | zero =>
    intro i hi st fi
    have e : i = N := by omega
    subst e
    exact ⟨st, fi, fun _ f z => z, fun _ f z => z⟩
  | succ d ih =>
    intro i hi st fi
    have hin : vp_in (nI i) 32 := vp_in_nI (by omega) (by omega)
    have hcl : (nI i).toNatClampNeg = i := nI_clamp (by omega)
    have hge : ¬ nI N ≤ nI i := nI_ge (by omega) (by omega)
    have hi' : i < 32 := by omega
    by_cases h0 : st i = 0
    · by_cases hl : lv i = 1
      · obtain ⟨st', fi', g3, g4⟩ := ih (i + 1) (by omega) (upd st i 5) (upd fi i clk)
        refine ⟨st', fi', fun post f z => ?_, fun post f z => ?_⟩
        · refine br_f hge ⟨hin, ?_⟩
          rw [hcl]
          exact br_t h0 (jx_isSub hi' (fun _ => br_f ja_i1 (jx_finish hi' (by rw [h0]; decide) (by decide) (nm_r (nI_1 i) (g3 post f z)))) (fun y => absurd hl y))
        · refine br_f hge (jy_isSub hi' (fun _ => br_f ja_i1 ⟨hin, ?_⟩) (fun y => absurd hl y))
          rw [hcl]
          exact br_t h0 (jy_finish hi' (nm_r (nI_1 i) (g4 post f z)))
      · obtain ⟨st', fi', g3, g4⟩ := ih (i + 1) (by omega) st fi
        refine ⟨st', fi', fun post f z => ?_, fun post f z => ?_⟩
        · refine br_f hge ⟨hin, ?_⟩
          rw [hcl]
          exact br_t h0 (jx_isSub hi' (fun y => absurd y hl) (fun _ => br_t rfl (br_f ja_i1 (nm_r (nI_1 i) (g3 post f z)))))
        · exact br_f hge (jy_isSub hi' (fun y => absurd y hl) (fun _ => br_t rfl (nm_r (nI_1 i) (g4 post f z))))
    · obtain ⟨st', fi', g3, g4⟩ := ih (i + 1) (by omega) st fi
      refine ⟨st', fi', fun post f z => ?_, fun post f z => ?_⟩
      · refine br_f hge ⟨hin, ?_⟩
        rw [hcl]
        exact br_f h0 (nm_r (nI_1 i) (g3 post f z))
      · refine br_f hge (jy_isSub hi' (fun _ => br_f ja_i1 ⟨hin, ?_⟩) (fun _ => br_t rfl (nm_r (nI_1 i) (g4 post f z))))
        rw [hcl]
        exact br_f h0 (nm_r (nI_1 i) (g4 post f z))
/-- b (all) -/
theorem js_kb (hN : N ≤ 32) : ∀ d i, i + d = N → ∀ (st fi : Nat → Int32), ∃ st' fi', (∀ (post : SX → Prop) f, wX_skipWaiting_2 post 0 f (nI N) (nI N) lim keep sub clk sta ff (nI (jc_n (ja_r st' lv false) N)) (nI (jc_n (ja_r st' lv true) N)) lv sp du fa np op st' sa fi' re → wX_skipWaiting_2 post 0 (f + d) (nI i) (nI N) lim keep sub clk sta ff (nI (jc_n (ja_r st lv false) N)) (nI (jc_n (ja_r st lv true) N)) lv sp du fa np op st sa fi re) ∧ (∀ (post : SY → Prop) f, wY_settle_170 post clk f (nI N) (nI N) lim keep sta ff clk sub lv sp du fa st' sa fi' lf kd rc → wY_settle_170 post clk (f + d) (nI i) (nI N) lim keep sta ff clk sub lv sp du fa st sa fi lf kd rc) := by
  intro d
  induction d with
  | zero =>
    intro i hi st fi
    have e : i = N := by omega
    subst e
    exact ⟨st, fi, fun _ f z => z, fun _ f z => z⟩
  | succ d ih =>
    intro i hi st fi
    have hin : vp_in (nI i) 32 := vp_in_nI (by omega) (by omega)
    have hcl : (nI i).toNatClampNeg = i := nI_clamp (by omega)
    have hge : ¬ nI N ≤ nI i := nI_ge (by omega) (by omega)
    have hi' : i < 32 := by omega
    by_cases h0 : st i = 0
    · obtain ⟨st', fi', g3, g4⟩ := ih (i + 1) (by omega) (upd st i 5) (upd fi i clk)
      refine ⟨st', fi', fun post f z => ?_, fun post f z => ?_⟩
      · refine br_f hge ⟨hin, ?_⟩
        rw [hcl]
        refine br_t h0 (jx_isSub hi' (fun _ => br_f ja_i1 ?_) (fun _ => br_t rfl (br_t rfl ?_)))
        · exact jx_finish hi' (by rw [h0]; decide) (by decide) (nm_r (nI_1 i) (g3 post f z))
        · exact jx_finish hi' (by rw [h0]; decide) (by decide) (nm_r (nI_1 i) (g3 post f z))
      · refine br_f hge ⟨hin, ?_⟩
        rw [hcl]
        exact br_t h0 (jy_finish hi' (nm_r (nI_1 i) (g4 post f z)))
    · obtain ⟨st', fi', g3, g4⟩ := ih (i + 1) (by omega) st fi
      refine ⟨st', fi', fun post f z => ?_, fun post f z => ?_⟩
      · refine br_f hge ⟨hin, ?_⟩
        rw [hcl]
        exact br_f h0 (nm_r (nI_1 i) (g3 post f z))
      · refine br_f hge ⟨hin, ?_⟩
        rw [hcl]
        exact br_f h0 (nm_r (nI_1 i) (g4 post f z))

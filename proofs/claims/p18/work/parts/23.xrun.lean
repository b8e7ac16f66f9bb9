-- p18: settle and tick keep what the run keeps
variable {N Lm : Nat} {sub clk sta ff : Int32} {lv sp0 sp du fa np op st sa fi re ex sa0 : Nat → Int32}
theorem jp_in {x2 : Int32} (hLm : Lm ≤ 8) (hS : ja_S N sub) (G : jq_G N sub lv sp0 np op) (L : ∀ t, t < N → jq_L N sub lv sp0 fa np op ex t) : ∀ d i, i + d = N → ∀ (b : Int32) (st sa fi re : Nat → Int32), ja_B b → jq_V N Lm sub clk lv sp0 fa np op ex sa0 st sp sa → ∃ b' st' sa' fi' re', ja_B b' ∧ jq_V N Lm sub clk lv sp0 fa np op ex sa0 st' sp sa' ∧ (∀ (post : St2 → Prop) J f, wX_settle_20 post J x2 f b' (nI N) (nI N) (nI Lm) 1 sub clk sta ff (nI (jc_n (ja_r st' lv false) N)) (nI (jc_n (ja_r st' lv true) N)) lv sp du fa np op st' sa' fi' re' → wX_settle_20 post J x2 (f + d) b (nI i) (nI N) (nI Lm) 1 sub clk sta ff (nI (jc_n (ja_r st lv false) N)) (nI (jc_n (ja_r st lv true) N)) lv sp du fa np op st sa fi re) := by
  have hN := G.1
  intro d
  induction d with
  | zero =>
    intro i hi b st sa fi re hB V
    have e : i = N := by omega
    subst e
    exact ⟨b, st, sa, fi, re, hB, V, fun _ J f z => z⟩
  | succ d ih =>
    intro i hi b st sa fi re hB V
    have hin : vp_in (nI i) 32 := vp_in_nI (by omega) (by omega)
    have hcl : (nI i).toNatClampNeg = i := nI_clamp (by omega)
    have hge : ¬ nI N ≤ nI i := nI_ge (by omega) (by omega)
    by_cases h0 : st i = 0
    · obtain ⟨w, hD⟩ := ja_Dex N (nI Lm) 1 sub ff lv sp np op st i
      obtain ⟨b', st', sa', fi', re', g1, g2, g3⟩ := ih (i + 1) (by omega) (if w = 0 then b else 1) (upd st i w) (ja_sa w clk sa i) (ja_fi w clk fi i) (ja_re w du re i) (by
        by_cases hw : w = 0
        · rw [if_pos hw]; exact hB
        · rw [if_neg hw]; exact ja_B1) (jq_Vs hLm G L V (by omega) h0 hD)
      refine ⟨b', st', sa', fi', re', g1, g2, fun post J f z => ?_⟩
      have z' := g3 post J f z
      refine br_f hge ⟨hin, ?_⟩
      rw [hcl]
      refine br_t h0 (jx_settleTarget hN (by omega) hS h0 hD ⟨hin, ?_⟩)
      rw [pk_us]
      by_cases hw : w = 0
      · rw [if_pos hw] at z'
        refine br_t hw (nm_r ?_ (nm_r (nI_1 i) z'))
        rcases hB with hb | hb <;> subst hb <;> rfl
      · rw [if_neg hw] at z'
        refine br_f hw (nm_r ?_ (nm_r (nI_1 i) z'))
        rcases hB with hb | hb <;> subst hb <;> rfl
    · obtain ⟨b', st', sa', fi', re', g1, g2, g3⟩ := ih (i + 1) (by omega) b st sa fi re hB V
      refine ⟨b', st', sa', fi', re', g1, g2, fun post J f z => ?_⟩
      refine br_f hge ⟨hin, ?_⟩
      rw [hcl]
      exact br_f h0 (nm_r (nI_1 i) (g3 post J f z))
theorem jp_ps (hLm : Lm ≤ 8) (hS : ja_S N sub) (G : jq_G N sub lv sp0 np op) (L : ∀ t, t < N → jq_L N sub lv sp0 fa np op ex t) : ∀ e r, r + e = N + 1 → ∀ (st sa fi re : Nat → Int32), jq_V N Lm sub clk lv sp0 fa np op ex sa0 st sp sa → ∃ st' sa' fi' re', jq_V N Lm sub clk lv sp0 fa np op ex sa0 st' sp sa' ∧ (∀ post : St2 → Prop, wX_settle_71 post (nI N) (nI Lm) 1 sub clk sta ff (nI (jc_n (ja_r st' lv false) N)) (nI (jc_n (ja_r st' lv true) N)) lv sp du fa np op st' sa' fi' re' → wX_settle_4 post (e + 1) 1 (nI r) (nI N) (nI Lm) 1 sub clk sta ff (nI (jc_n (ja_r st lv false) N)) (nI (jc_n (ja_r st lv true) N)) lv sp du fa np op st sa fi re) := by
  have hN := G.1
  intro e
  induction e with
  | zero =>
    intro r hr st sa fi re V
    have e : r = N + 1 := by omega
    subst e
    exact ⟨st, sa, fi, re, V, fun post z => br_f ja_i1 (br_t (nI_lt (by omega) (by omega)) z)⟩
  | succ e ih =>
    intro r hr st sa fi re V
    obtain ⟨b, st1, sa1, fi1, re1, g1, g2, g3⟩ := jp_in (x2 := nI r) (sta := sta) (ff := ff) (clk := clk) (lv := lv) (sp := sp) (du := du) (fa := fa) hLm hS G L N 0 (by omega) 0 st sa fi re ja_B0 V
    have hx : ¬ nI N < nI r := nI_nlt (by omega) (by omega)
    have hl : nI N ≤ nI N := nI_le (Nat.le_refl _) (by omega)
    by_cases hb : b = 0
    · refine ⟨st1, sa1, fi1, re1, g2, fun post z => ?_⟩
      exact br_f ja_i1 (br_f hx ⟨1 + N, g3 post _ 1 (br_t hl (nm_r (nI_1 r) (br_t hb z)))⟩)
    · have hb1 : b = 1 := ja_B1' g1 hb
      obtain ⟨st2, sa2, fi2, re2, k1, k2⟩ := ih (r + 1) (by omega) st1 sa1 fi1 re1 g2
      subst hb1
      refine ⟨st2, sa2, fi2, re2, k1, fun post z => ?_⟩
      exact br_f ja_i1 (br_f hx ⟨1 + N, g3 post _ 1 (br_t hl (nm_r (nI_1 r) (k2 post z)))⟩)
theorem jp_settle (hLm : Lm ≤ 8) (hS : ja_S N sub) (G : jq_G N sub lv sp0 np op) (L : ∀ t, t < N → jq_L N sub lv sp0 fa np op ex t) (V : jq_V N Lm sub clk lv sp0 fa np op ex sa0 st sp sa) : ∃ st' sa' fi' re', jq_V N Lm sub clk lv sp0 fa np op ex sa0 st' sp sa' ∧ (∀ post : St2 → Prop, post (ja_X N (nI Lm) 1 sub clk sta ff lv sp du fa np op st' sa' fi' re') → wpX_settle post (ja_X N (nI Lm) 1 sub clk sta ff lv sp du fa np op st sa fi re)) := by
  obtain ⟨st1, sa1, fi1, re1, g1, g2⟩ := jp_ps (sta := sta) (ff := ff) (clk := clk) (lv := lv) (sp := sp) (du := du) (fa := fa) hLm hS G L (N + 1) 0 (by omega) st sa fi re V
  refine ⟨st1, sa1, fi1, re1, g1, fun post z => ⟨N + 1 + 1, g2 post ?_⟩⟩
  unfold wX_settle_71
  exact jx_isStopping (fun y => absurd y.1 (by decide)) (fun _ => br_t rfl z)
theorem jp_7 {c : Nat} (h : c ≤ 1000) : (7 : Int32) < 1000000 + nI c := by
  rw [show (1000000 : Int32) = nI 1000000 from rfl, nI_add, show (7 : Int32) = nI 7 from rfl]
  exact nI_lt (by omega) (by omega)
theorem jp_adv {cl : Nat} (hcl' : cl ≤ 1000) (G : jq_G N sub lv sp0 np op) (L : ∀ t, t < N → jq_L N sub lv sp0 fa np op ex t) : ∀ d i, i + d = N → ∀ (m : Nat) (ff : Int32) (sp st fi re : Nat → Int32), jq_V N Lm sub (nI cl) lv sp0 fa np op ex sa0 st sp sa → ∃ m' ff' sp' st' fi' re', m' ≤ m + d ∧ jq_V N Lm sub (nI cl) lv sp0 fa np op ex sa0 st' sp' sa ∧ (∀ (post : Int32 → St2 → Prop) f, wX_advanceCommands_4 post f (nI m') (nI N) (nI N) (nI Lm) 1 sub (nI cl) sta ff' (nI (jc_n (ja_r st' lv false) N)) (nI (jc_n (ja_r st' lv true) N)) lv sp' du fa np op st' sa fi' re' → wX_advanceCommands_4 post (f + d) (nI m) (nI i) (nI N) (nI Lm) 1 sub (nI cl) sta ff (nI (jc_n (ja_r st lv false) N)) (nI (jc_n (ja_r st lv true) N)) lv sp du fa np op st sa fi re) := by
  have hN := G.1
  intro d
  induction d with
  | zero =>
    intro i hi m ff sp st fi re V
    have e : i = N := by omega
    subst e
    exact ⟨m, ff, sp, st, fi, re, by omega, V, fun _ f z => z⟩
  | succ d ih =>
    intro i hi m ff sp st fi re V
    have hin : vp_in (nI i) 32 := vp_in_nI (by omega) (by omega)
    have hcl : (nI i).toNatClampNeg = i := nI_clamp (by omega)
    have hge : ¬ nI N ≤ nI i := nI_ge (by omega) (by omega)
    have hiN : i < N := by omega
    by_cases hs : nI i = sub
    · obtain ⟨m', ff', sp', st', fi', re', g0, g1, g3⟩ := ih (i + 1) (by omega) m ff sp st fi re V
      refine ⟨m', ff', sp', st', fi', re', by omega, g1, fun post f z => ?_⟩
      exact br_f hge (br_t hs (nm_r (nI_1 i) (g3 post f z)))
    · by_cases h1 : st i = 1
      · have q := jq_exc L V.1 hiN h1 hs
        by_cases hz : re i - 1 = 0
        · by_cases hf : fa i = 0
          · obtain ⟨m', ff', sp', st', fi', re', g0, g1, g3⟩ := ih (i + 1) (by omega) (m + 1) ff (upd sp i (1000000 + nI cl)) (upd st i 2) (upd fi i (nI cl)) (upd re i (re i - 1)) (jq_Vf V hiN h1 (q.2 hf).symm (.inl rfl) (fun y => absurd y hs) (fun x hx => pk_un hx) (fun _ => by rw [pk_us]; exact jp_7 hcl') (fun y => absurd rfl y))
            refine ⟨m', ff', sp', st', fi', re', by omega, g1, fun post f z => ?_⟩
            refine br_f hge (br_f hs ⟨hin, ?_⟩)
            rw [hcl]
            refine br_t h1 ⟨hin, hin, nm_e ⟨hin, ?_⟩⟩
            rw [pk_us]
            refine br_t hz ⟨hin, jx_endRun hN (by omega) h1 (fun y => absurd hf y) (fun _ => ?_)⟩
            exact nm_r (nI_1 m) (nm_r (nI_1 i) (g3 post f z))
          · obtain ⟨m', ff', sp', st', fi', re', g0, g1, g3⟩ := ih (i + 1) (by omega) (m + 1) 1 sp (upd st i 4) (upd fi i (nI cl)) (upd re i (re i - 1)) (jq_Vf V hiN h1 (q.1 hf).symm (.inr rfl) (fun y => absurd y hs) (fun x hx => rfl) (fun y => absurd y (by decide)) (fun _ => rfl))
            refine ⟨m', ff', sp', st', fi', re', by omega, g1, fun post f z => ?_⟩
            refine br_f hge (br_f hs ⟨hin, ?_⟩)
            rw [hcl]
            refine br_t h1 ⟨hin, hin, nm_e ⟨hin, ?_⟩⟩
            rw [pk_us]
            refine br_t hz ⟨hin, jx_endRun hN (by omega) h1 (fun _ => ?_) (fun y => absurd y hf)⟩
            exact nm_r (nI_1 m) (nm_r (nI_1 i) (g3 post f z))
        · obtain ⟨m', ff', sp', st', fi', re', g0, g1, g3⟩ := ih (i + 1) (by omega) m ff sp st fi (upd re i (re i - 1)) V
          refine ⟨m', ff', sp', st', fi', re', by omega, g1, fun post f z => ?_⟩
          refine br_f hge (br_f hs ⟨hin, ?_⟩)
          rw [hcl]
          refine br_t h1 ⟨hin, hin, nm_e ⟨hin, ?_⟩⟩
          rw [pk_us]
          exact br_f hz (nm_r (nI_1 i) (g3 post f z))
      · obtain ⟨m', ff', sp', st', fi', re', g0, g1, g3⟩ := ih (i + 1) (by omega) m ff sp st fi re V
        refine ⟨m', ff', sp', st', fi', re', by omega, g1, fun post f z => ?_⟩
        refine br_f hge (br_f hs ⟨hin, ?_⟩)
        rw [hcl]
        exact br_f h1 (nm_r (nI_1 i) (g3 post f z))
theorem jp_tick {cl : Nat} (hcl : cl + 1 ≤ 1000) (hLm : Lm ≤ 8) (hS : ja_S N sub) (G : jq_G N sub lv sp0 np op) (L : ∀ t, t < N → jq_L N sub lv sp0 fa np op ex t) (hs : ¬ sta = 0) (hq : ∃ t, t < N ∧ ja_und st t) (V : jq_V N Lm sub (nI cl) lv sp0 fa np op ex sa0 st sp sa) : ∃ m ff' sp' st' sa' fi' re', m ≤ 1000 ∧ jq_V N Lm sub (nI (cl + 1)) lv sp0 fa np op ex sa st' sp' sa' ∧ (∀ post : Int32 → St2 → Prop, post (nI m) (ja_X N (nI Lm) 1 sub (nI (cl + 1)) sta ff' lv sp' du fa np op st' sa' fi' re') → wpX_tick post (ja_X N (nI Lm) 1 sub (nI cl) sta ff lv sp du fa np op st sa fi re)) := by
  have hN := G.1
  have hl : nI N ≤ nI N := nI_le (Nat.le_refl _) (by omega)
  obtain ⟨m, ff1, sp1, st1, fi1, re1, a0, a1, a3⟩ := jp_adv (sta := sta) (du := du) (sa := sa) hcl G L N 0 (by omega) 0 ff sp st fi re (jq_Vn V)
  have xx : ∀ post : Int32 → St2 → Prop, wX_advanceCommands_4 (fun r_24 u => match u with | (b1, b2, b3, b4, b5, b6, b7, b8, b9, c1, c2, c3, c4, c5, c6, c7, c8, c9, c10) => (wpX_isSubBuildOver (fun r_44 => (((r_44 = 0 → (wX_tick_55 post r_24 b1 b2 b3 b4 b5 b6 b7 b8 b9 c1 c2 c3 c4 c5 c6 c7 c8 c9 c10)) ∧ (¬ r_44 = 0 → (wpX_hasBadSub (fun r_85 => (wpX_endRun (fun u => match u with | (d1, d2, d3, d4, d5, d6, d7, d8, d9, e1, e2, e3, e4, e5, e6, e7, e8, e9, e10) => (∀ x1_125 : Int32, x1_125 = r_24 + 1 → (wX_tick_55 post x1_125 d1 d2 d3 d4 d5 d6 d7 d8 d9 e1 e2 e3 e4 e5 e6 e7 e8 e9 e10))) (b1, b2, b3, b4, b5, b6, b7, b8, b9, c1, c2, c3, c4, c5, c6, c7, c8, c9, c10) b4 r_85)) (b1, b2, b3, b4, b5, b6, b7, b8, b9, c1, c2, c3, c4, c5, c6, c7, c8, c9, c10)))))) (b1, b2, b3, b4, b5, b6, b7, b8, b9, c1, c2, c3, c4, c5, c6, c7, c8, c9, c10))) 1 (nI m) (nI N) (nI N) (nI Lm) 1 sub (nI (cl + 1)) sta ff1 (nI (jc_n (ja_r st1 lv false) N)) (nI (jc_n (ja_r st1 lv true) N)) lv sp1 du fa np op st1 sa fi1 re1 → wpX_tick post (ja_X N (nI Lm) 1 sub (nI cl) sta ff lv sp du fa np op st sa fi re) := by
    intro post z
    refine br_f hs ?_
    refine jx_isQuiet hN (fun y => absurd hq y.2) (fun _ => br_t rfl (nm_r (nI_1 cl) ⟨1 + N, ?_⟩))
    exact a3 _ 1 z
  by_cases ho : ja_si N sub st1 1 ∧ ¬ ∃ t, t < N ∧ lv t = 1 ∧ ja_und st1 t
  · obtain ⟨⟨s, hsN, es, hst1⟩, hd⟩ := ho
    have ho : ja_si N sub st1 1 ∧ ¬ ∃ t, t < N ∧ lv t = 1 ∧ ja_und st1 t := ⟨⟨s, hsN, es, hst1⟩, hd⟩
    have q := jq_exs L a1.1 hsN hst1 es.symm hd
    have hns : nI s = sub → ∀ y, y < N → lv y = 1 → ¬ st1 y = 1 := fun _ y hy hl z => hd ⟨y, hy, hl, .inr z⟩
    by_cases hb : ∃ t, t < N ∧ lv t = 1 ∧ ja_bad st1 t
    · have V1 := jq_Vf (sp' := sp1) a1 hsN hst1 (q.1 hb).symm (.inr rfl) hns (fun _ _ => rfl) (fun y => absurd y (by decide)) (fun _ => rfl)
      obtain ⟨st', sa', fi', re', g1, g2⟩ := jp_settle (sta := sta) (ff := 1) (du := du) (fi := upd fi1 s (nI (cl + 1))) (re := re1) hLm hS G L V1
      refine ⟨m + 1, 1, sp1, st', sa', fi', re', by omega, g1, fun post z => xx post (br_t hl ?_)⟩
      subst es
      refine jx_isSubBuildOver hN hS (fun _ => br_f ja_i1 ?_) (fun y => absurd ho y)
      refine jx_hasBadSub hN (fun _ => ?_) (fun y => absurd hb y)
      exact jx_endRun hN hsN hst1 (fun _ => nm_r (nI_1 m) (g2 _ z)) (fun y => absurd y (by decide))
    · have V1 := jq_Vf (sp' := upd sp1 s (1000000 + nI (cl + 1))) a1 hsN hst1 (q.2 hb).symm (.inl rfl) hns (fun _ hx => pk_un hx) (fun _ => by rw [pk_us]; exact jp_7 hcl) (fun y => absurd rfl y)
      obtain ⟨st', sa', fi', re', g1, g2⟩ := jp_settle (sta := sta) (ff := ff1) (du := du) (fi := upd fi1 s (nI (cl + 1))) (re := re1) hLm hS G L V1
      refine ⟨m + 1, ff1, _, st', sa', fi', re', by omega, g1, fun post z => xx post (br_t hl ?_)⟩
      subst es
      refine jx_isSubBuildOver hN hS (fun _ => br_f ja_i1 ?_) (fun y => absurd ho y)
      refine jx_hasBadSub hN (fun y => absurd y hb) (fun _ => ?_)
      exact jx_endRun hN hsN hst1 (fun y => absurd rfl y) (fun _ => nm_r (nI_1 m) (g2 _ z))
  · obtain ⟨st', sa', fi', re', g1, g2⟩ := jp_settle (sta := sta) (ff := ff1) (du := du) (fi := fi1) (re := re1) hLm hS G L a1
    refine ⟨m, ff1, sp1, st', sa', fi', re', by omega, g1, fun post z => xx post (br_t hl ?_)⟩
    exact jx_isSubBuildOver hN hS (fun y => absurd y ho) (fun _ => br_t rfl (g2 _ z))

-- a tick's commands, on both sides
variable {N : Nat} {lim keep sub clk sta ff : Int32} {lv sp du fa np op st sa fi re lf kd rc : Nat → Int32}
theorem jt_adv (hN : N ≤ 32) : ∀ d i, i + d = N → ∀ (c ff : Int32) (sp st fi re lf : Nat → Int32), ja_B ff → ja_L sub re lf → ∃ c' ff' sp' st' fi' re' lf', ja_B ff' ∧ ja_L sub re' lf' ∧ (∀ (post : Int32 → SX → Prop) f, wX_advanceCommands_4 post f c' (nI N) (nI N) lim keep sub clk sta ff' (nI (jc_n (ja_r st' lv false) N)) (nI (jc_n (ja_r st' lv true) N)) lv sp' du fa np op st' sa fi' re' → wX_advanceCommands_4 post (f + d) c (nI i) (nI N) lim keep sub clk sta ff (nI (jc_n (ja_r st lv false) N)) (nI (jc_n (ja_r st lv true) N)) lv sp du fa np op st sa fi re) ∧ (∀ (post : Int32 → SY → Prop) f, wY_tick_35 post clk f c' (nI N) (nI N) lim keep sta ff' clk sub lv sp' du fa st' sa fi' lf' kd rc → wY_tick_35 post clk (f + d) c (nI i) (nI N) lim keep sta ff clk sub lv sp du fa st sa fi lf kd rc) := by
  intro d
  induction d with
  | zero =>
    intro i hi c ff sp st fi re lf hB hL
    have e : i = N := by omega
    subst e
    exact ⟨c, ff, sp, st, fi, re, lf, hB, hL, fun _ f z => z, fun _ f z => z⟩
  | succ d ih =>
    intro i hi c ff sp st fi re lf hB hL
    have hin : vp_in (nI i) 32 := vp_in_nI (by omega) (by omega)
    have hcl : (nI i).toNatClampNeg = i := nI_clamp (by omega)
    have hge : ¬ nI N ≤ nI i := nI_ge (by omega) (by omega)
    by_cases hs : nI i = sub
    · obtain ⟨c', ff', sp', st', fi', re', lf', g1, g2, g3, g4⟩ := ih (i + 1) (by omega) c ff sp st fi re lf hB hL
      refine ⟨c', ff', sp', st', fi', re', lf', g1, g2, fun post f z => ?_, fun post f z => ?_⟩
      · exact br_f hge (br_t hs (nm_r (nI_1 i) (g3 post f z)))
      · refine br_f hge ⟨hin, ?_⟩
        exact br_c (fun _ => br_t hs (nm_r (nI_1 i) (g4 post f z))) (fun _ => nm_r (nI_1 i) (g4 post f z))
    · by_cases h1 : st i = 1
      · have e : re i = lf i := hL i (by omega) hs
        by_cases hz : lf i - 1 = 0
        · by_cases hf : fa i = 0
          · obtain ⟨c', ff', sp', st', fi', re', lf', g1, g2, g3, g4⟩ := ih (i + 1) (by omega) (c + 1) ff (upd sp i (1000000 + clk)) (upd st i 2) (upd fi i clk) (upd re i (lf i - 1)) (upd lf i (lf i - 1)) hB (ja_Lu hL)
            refine ⟨c', ff', sp', st', fi', re', lf', g1, g2, fun post f z => ?_, fun post f z => ?_⟩
            · refine br_f hge (br_f hs ⟨hin, ?_⟩)
              rw [hcl]
              refine br_t h1 ⟨hin, hin, nm_r (by rw [e]) ⟨hin, ?_⟩⟩
              rw [pk_us]
              refine br_t hz ⟨hin, jx_endRun hN (by omega) h1 (fun y => absurd hf y) (fun _ => ?_)⟩
              exact nm_e (nm_r (nI_1 i) (g3 post f z))
            · refine br_f hge ⟨hin, ?_⟩
              rw [hcl]
              refine br_t h1 (br_f hs ⟨hin, hin, nm_e ⟨hin, ?_⟩⟩)
              rw [pk_us]
              refine br_t hz (nm_e ⟨hin, br_t hf (jy_finish (by omega) ⟨hin, ?_⟩)⟩)
              exact nm_e (nm_r (nI_1 i) (g4 post f z))
          · obtain ⟨c', ff', sp', st', fi', re', lf', g1, g2, g3, g4⟩ := ih (i + 1) (by omega) (c + 1) 1 sp (upd st i 4) (upd fi i clk) (upd re i (lf i - 1)) (upd lf i (lf i - 1)) ja_B1 (ja_Lu hL)
            refine ⟨c', ff', sp', st', fi', re', lf', g1, g2, fun post f z => ?_, fun post f z => ?_⟩
            · refine br_f hge (br_f hs ⟨hin, ?_⟩)
              rw [hcl]
              refine br_t h1 ⟨hin, hin, nm_r (by rw [e]) ⟨hin, ?_⟩⟩
              rw [pk_us]
              refine br_t hz ⟨hin, jx_endRun hN (by omega) h1 (fun _ => ?_) (fun y => absurd y hf)⟩
              exact nm_e (nm_r (nI_1 i) (g3 post f z))
            · refine br_f hge ⟨hin, ?_⟩
              rw [hcl]
              refine br_t h1 (br_f hs ⟨hin, hin, nm_e ⟨hin, ?_⟩⟩)
              rw [pk_us]
              refine br_t hz (nm_e ⟨hin, br_f hf (jy_finish (by omega) ?_)⟩)
              exact nm_r (nI_1 i) (g4 post f z)
        · obtain ⟨c', ff', sp', st', fi', re', lf', g1, g2, g3, g4⟩ := ih (i + 1) (by omega) c ff sp st fi (upd re i (lf i - 1)) (upd lf i (lf i - 1)) hB (ja_Lu hL)
          refine ⟨c', ff', sp', st', fi', re', lf', g1, g2, fun post f z => ?_, fun post f z => ?_⟩
          · refine br_f hge (br_f hs ⟨hin, ?_⟩)
            rw [hcl]
            refine br_t h1 ⟨hin, hin, nm_r (by rw [e]) ⟨hin, ?_⟩⟩
            rw [pk_us]
            exact br_f hz (nm_r (nI_1 i) (g3 post f z))
          · refine br_f hge ⟨hin, ?_⟩
            rw [hcl]
            refine br_t h1 (br_f hs ⟨hin, hin, nm_e ⟨hin, ?_⟩⟩)
            rw [pk_us]
            exact br_f hz (nm_r (nI_1 i) (g4 post f z))
      · obtain ⟨c', ff', sp', st', fi', re', lf', g1, g2, g3, g4⟩ := ih (i + 1) (by omega) c ff sp st fi re lf hB hL
        refine ⟨c', ff', sp', st', fi', re', lf', g1, g2, fun post f z => ?_, fun post f z => ?_⟩
        · refine br_f hge (br_f hs ⟨hin, ?_⟩)
          rw [hcl]
          exact br_f h1 (nm_r (nI_1 i) (g3 post f z))
        · refine br_f hge ⟨hin, ?_⟩
          rw [hcl]
          exact br_f h1 (nm_r (nI_1 i) (g4 post f z))
theorem jt_ex {N i : Nat} {P : Nat → Prop} (hi : i < N) : (∃ t, i ≤ t ∧ t < N ∧ P t) ↔ (P i ∨ ∃ t, i + 1 ≤ t ∧ t < N ∧ P t) := by
  constructor
  · intro ⟨t, h1, h2, h3⟩
    by_cases e : t = i
    · subst e
      exact .inl h3
    · exact .inr ⟨t, by omega, h2, h3⟩
  · intro h
    rcases h with h | ⟨t, h1, h2, h3⟩
    · exact ⟨i, Nat.le_refl _, hi, h⟩
    · exact ⟨t, by omega, h2, h3⟩
/-- the reference's look at the sub-build: all done? one bad? -/
theorem jt_fl {x1 x2 : Int32} (hN : N ≤ 32) : ∀ d i, i + d = N → ∀ a b : Int32, ∃ a' b' : Int32, (a' = 0 ↔ (a = 0 ∨ ∃ t, i ≤ t ∧ t < N ∧ lv t = 1 ∧ ja_und st t)) ∧ (b' = 0 ↔ (b = 0 ∧ ¬ ∃ t, i ≤ t ∧ t < N ∧ lv t = 1 ∧ ja_bad st t)) ∧ ∀ (post : Int32 → SY → Prop) f, wY_tick_165 post x1 x2 (nI N) lim keep sta ff clk sub lv sp du fa st sa fi lf kd rc f a' b' (nI N) → wY_tick_165 post x1 x2 (nI N) lim keep sta ff clk sub lv sp du fa st sa fi lf kd rc (f + d) a b (nI i) := by
  intro d
  induction d with
  | zero =>
    intro i hi a b
    have e : i = N := by omega
    subst e
    exact ⟨a, b, ⟨.inl, fun h => h.elim id (fun ⟨t, h1, h2, _⟩ => by omega)⟩, ⟨fun h => ⟨h, fun ⟨t, h1, h2, _⟩ => by omega⟩, fun h => h.1⟩, fun _ f z => z⟩
  | succ d ih =>
    intro i hi a b
    have hiN : i < N := by omega
    have hin : vp_in (nI i) 32 := vp_in_nI (by omega) (by omega)
    have hcl : (nI i).toNatClampNeg = i := nI_clamp (by omega)
    have hge : ¬ nI N ≤ nI i := nI_ge (by omega) (by omega)
    have xa := jt_ex (N := N) (i := i) (P := fun t => lv t = 1 ∧ ja_und st t) hiN
    have xb := jt_ex (N := N) (i := i) (P := fun t => lv t = 1 ∧ ja_bad st t) hiN
    by_cases hl : lv i = 1
    · -- the two flags behind i
      have g : ∀ a1 b1 : Int32, (a1 = 0 ↔ (a = 0 ∨ ja_und st i)) → (b1 = 0 ↔ (b = 0 ∧ ¬ ja_bad st i)) → (∀ (post : Int32 → SY → Prop) (n : Nat), wY_tick_165 post x1 x2 (nI N) lim keep sta ff clk sub lv sp du fa st sa fi lf kd rc n a1 b1 (nI (i + 1)) → wY_tick_165 post x1 x2 (nI N) lim keep sta ff clk sub lv sp du fa st sa fi lf kd rc (n + 1) a b (nI i)) → ∃ a' b' : Int32, (a' = 0 ↔ (a = 0 ∨ ∃ t, i ≤ t ∧ t < N ∧ lv t = 1 ∧ ja_und st t)) ∧ (b' = 0 ↔ (b = 0 ∧ ¬ ∃ t, i ≤ t ∧ t < N ∧ lv t = 1 ∧ ja_bad st t)) ∧ ∀ (post : Int32 → SY → Prop) f, wY_tick_165 post x1 x2 (nI N) lim keep sta ff clk sub lv sp du fa st sa fi lf kd rc f a' b' (nI N) → wY_tick_165 post x1 x2 (nI N) lim keep sta ff clk sub lv sp du fa st sa fi lf kd rc (f + (d + 1)) a b (nI i) := by
        intro a1 b1 h1 h2 hw
        obtain ⟨a', b', k1, k2, k3⟩ := ih (i + 1) (by omega) a1 b1
        refine ⟨a', b', ?_, ?_, fun post f z => hw post (f + d) (k3 post f z)⟩
        · rw [k1, h1, xa]
          constructor
          · intro y
            rcases y with (y | y) | y
            · exact .inl y
            · exact .inr (.inl ⟨hl, y⟩)
            · exact .inr (.inr y)
          · intro y
            rcases y with y | y | y
            · exact .inl (.inl y)
            · exact .inl (.inr y.2)
            · exact .inr y
        · rw [k2, h2, xb]
          constructor
          · intro y
            exact ⟨y.1.1, fun w => w.elim (fun w => y.1.2 w.2) y.2⟩
          · intro y
            exact ⟨⟨y.1, fun w => y.2 (.inl ⟨hl, w⟩)⟩, fun w => y.2 (.inr w)⟩
      by_cases h0 : st i = 0
      · refine g 0 b ⟨fun _ => .inr (.inl h0), fun _ => rfl⟩ ⟨fun y => ⟨y, fun w => by rcases w with w | w <;> rw [h0] at w <;> exact absurd w (by decide)⟩, fun y => y.1⟩ (fun post n z => br_f hge (jy_isSub (by omega) (fun _ => br_f ja_i1 ⟨hin, ?_⟩) (fun y => absurd hl y)))
        rw [hcl]
        refine br_t h0 ⟨hin, ?_⟩
        rw [hcl]
        refine br_f (by rw [h0]; decide) ⟨hin, ?_⟩
        exact br_f (by rw [h0]; decide) (nm_r (nI_1 i) z)
      · by_cases h1 : st i = 1
        · refine g 0 b ⟨fun _ => .inr (.inr h1), fun _ => rfl⟩ ⟨fun y => ⟨y, fun w => by rcases w with w | w <;> rw [h1] at w <;> exact absurd w (by decide)⟩, fun y => y.1⟩ (fun post n z => br_f hge (jy_isSub (by omega) (fun _ => br_f ja_i1 ⟨hin, ?_⟩) (fun y => absurd hl y)))
          rw [hcl]
          refine br_f h0 ⟨hin, br_t h1 ⟨hin, ?_⟩⟩
          rw [hcl]
          refine br_f (by rw [h1]; decide) ⟨hin, ?_⟩
          exact br_f (by rw [h1]; decide) (nm_r (nI_1 i) z)
        · have nu : ¬ ja_und st i := fun y => y.elim h0 h1
          by_cases h4 : st i = 4
          · refine g a 1 ⟨.inl, fun y => y.elim id (fun w => absurd w nu)⟩ ⟨fun y => absurd y (by decide), fun y => absurd (.inl h4) y.2⟩ (fun post n z => br_f hge (jy_isSub (by omega) (fun _ => br_f ja_i1 ⟨hin, ?_⟩) (fun y => absurd hl y)))
            rw [hcl]
            refine br_f h0 ⟨hin, br_f h1 ⟨hin, ?_⟩⟩
            rw [hcl]
            exact br_t h4 (nm_r (nI_1 i) z)
          · by_cases h5 : st i = 5
            · refine g a 1 ⟨.inl, fun y => y.elim id (fun w => absurd w nu)⟩ ⟨fun y => absurd y (by decide), fun y => absurd (.inr h5) y.2⟩ (fun post n z => br_f hge (jy_isSub (by omega) (fun _ => br_f ja_i1 ⟨hin, ?_⟩) (fun y => absurd hl y)))
              rw [hcl]
              refine br_f h0 ⟨hin, br_f h1 ⟨hin, ?_⟩⟩
              rw [hcl]
              refine br_f h4 ⟨hin, ?_⟩
              exact br_t h5 (nm_r (nI_1 i) z)
            · refine g a b ⟨.inl, fun y => y.elim id (fun w => absurd w nu)⟩ ⟨fun y => ⟨y, fun w => w.elim h4 h5⟩, fun y => y.1⟩ (fun post n z => br_f hge (jy_isSub (by omega) (fun _ => br_f ja_i1 ⟨hin, ?_⟩) (fun y => absurd hl y)))
              rw [hcl]
              refine br_f h0 ⟨hin, br_f h1 ⟨hin, ?_⟩⟩
              rw [hcl]
              refine br_f h4 ⟨hin, ?_⟩
              exact br_f h5 (nm_r (nI_1 i) z)
    · obtain ⟨a', b', k1, k2, k3⟩ := ih (i + 1) (by omega) a b
      refine ⟨a', b', ?_, ?_, fun post f z => br_f hge (jy_isSub (by omega) (fun y => absurd y hl) (fun _ => br_t rfl (nm_r (nI_1 i) (k3 post f z))))⟩
      · rw [k1, xa]
        exact ⟨fun y => y.elim .inl (fun y => .inr (.inr y)), fun y => y.elim .inl (fun y => y.elim (fun w => absurd w.1 hl) .inr)⟩
      · rw [k2, xb]
        exact ⟨fun y => ⟨y.1, fun w => w.elim (fun w => hl w.1) y.2⟩, fun y => ⟨y.1, fun w => y.2 (.inr w)⟩⟩

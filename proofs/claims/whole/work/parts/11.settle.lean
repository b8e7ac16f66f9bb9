-- one target's step on both sides
variable {N : Nat} {lim keep sub clk sta ff : Int32} {lv sp du fa np op st sa fi re lf kd rc : Nat → Int32}
theorem jx_settleTarget {post : SX → Prop} {t : Nat} {w : Int32} (hN : N ≤ 32) (ht : t < N) (hS : ja_S N sub) (h0 : st t = 0) (hD : ja_D N lim keep sub ff lv sp np op st t w) (h : post (ja_X N lim keep sub clk sta ff lv sp du fa np op (upd st t w) (ja_sa w clk sa t) (ja_fi w clk fi t) (ja_re w du re t))) : wpX_settleTarget post (ja_X N lim keep sub clk sta ff lv sp du fa np op st sa fi re) (nI t) := by
  have ht' : t < 32 := by omega
  have hn : ¬ st t = 1 := by rw [h0]; decide
  have e0 : w = 0 → post (ja_X N lim keep sub clk sta ff lv sp du fa np op st sa fi re) := fun e => by
    subst e
    rw [ja_u0 h0, ja_sa0 (by decide), ja_fi0 (.inl rfl), ja_re0 (by decide)] at h
    exact h
  have e5 : w = 5 → post (ja_X N lim keep sub clk sta ff lv sp du fa np op (upd st t 5) sa (upd fi t clk) re) := fun e => by
    subst e
    rw [ja_sa0 (by decide), ja_fi1 (by decide), ja_re0 (by decide)] at h
    exact h
  have e3 : w = 3 → post (ja_X N lim keep sub clk sta ff lv sp du fa np op (upd st t 3) sa (upd fi t clk) re) := fun e => by
    subst e
    rw [ja_sa0 (by decide), ja_fi1 (by decide), ja_re0 (by decide)] at h
    exact h
  have e1 : w = 1 → post (ja_X N lim keep sub clk sta ff lv sp du fa np op (upd st t 1) (upd sa t clk) fi (upd re t (du t))) := fun e => by
    subst e
    rw [ja_sa1, ja_fi0 (.inr rfl), ja_re1] at h
    exact h
  have l3 : ja_lo N sub lv st t → wX_settleTarget_40 post (nI t) (nI N) lim keep sub clk sta ff (nI (jc_n (ja_r st lv false) N)) (nI (jc_n (ja_r st lv true) N)) lv sp du fa np op st sa fi re := fun l => by
    have q := ja_Dlo hD l
    refine jx_hasBadPrereq hN ht' (fun hb => br_f ja_i1 (jx_finish ht' hn (by decide) (e5 (q.1 hb)))) (fun hb => br_t rfl ?_)
    have q := q.2 hb
    refine jx_hasUndonePrereq hN ht' (fun hu => br_f ja_i1 (e0 (q.1 hu))) (fun hu => br_t rfl ?_)
    have q := q.2 hu
    refine jx_isStopping (fun hs => br_f ja_i1 (e0 (q.1 hs))) (fun hs => br_t rfl ?_)
    have q := q.2 hs
    refine jx_isStale hN ht' (fun hl => br_f ja_i1 ?_) (fun hl => br_t rfl (jx_finish ht' hn (by decide) (e3 (q.1 hl))))
    have q := q.2 hl
    exact jx_mayStart hN ht' (fun hm => br_f ja_i1 (jx_beginRun hN ht hn (e1 (q.1 hm)))) (fun hm => br_t rfl (e0 (q.2 hm)))
  have l2 : (lv t = 1 → ¬ ja_si N sub st 5) → wX_settleTarget_23 post (nI t) (nI N) lim keep sub clk sta ff (nI (jc_n (ja_r st lv false) N)) (nI (jc_n (ja_r st lv true) N)) lv sp du fa np op st sa fi re := fun l => by
    refine jx_isSub ht' (fun hl => br_f ja_i1 ?_) (fun hl => br_t rfl (l3 (fun z => absurd z hl)))
    exact jx_isSubmakeIn hN hS (fun h1 => br_f ja_i1 (l3 (fun _ => ⟨l hl, h1⟩))) (fun h1 => br_t rfl (e0 (ja_D2 hD hl (l hl) h1)))
  unfold wpX_settleTarget
  dsimp only
  refine jx_isSub ht' (fun hl => br_f ja_i1 ?_) (fun hl => br_t rfl (l2 (fun z => absurd z hl)))
  exact jx_isSubmakeIn hN hS (fun h5 => br_f ja_i1 (jx_finish ht' hn (by decide) (e5 (ja_D1 hD hl h5)))) (fun h5 => br_t rfl (l2 (fun _ => h5)))
theorem jy_rule {post : Int32 → SY → Prop} {t : Nat} {w : Int32} (hN : N ≤ 32) (ht : t < N) (hS : ja_S N sub) (K : ja_K N np op kd) (h0 : st t = 0) (hD : ja_D N lim keep sub ff lv sp np op st t w) (h : post (if w = 0 then 0 else 1) (ja_Y N lim keep sub clk sta ff lv sp du fa (upd st t w) (ja_sa w clk sa t) (ja_fi w clk fi t) (ja_lf w sub du lf t) kd rc)) : wpY_rule post (ja_Y N lim keep sub clk sta ff lv sp du fa st sa fi lf kd rc) (nI t) clk := by
  have ht' : t < 32 := by omega
  have e0 : w = 0 → post 0 (ja_Y N lim keep sub clk sta ff lv sp du fa st sa fi lf kd rc) := fun e => by
    subst e
    rw [ja_u0 h0, ja_sa0 (by decide), ja_fi0 (.inl rfl), ja_lf0 (by decide)] at h
    exact h
  have e5 : w = 5 → post 1 (ja_Y N lim keep sub clk sta ff lv sp du fa (upd st t 5) sa (upd fi t clk) lf kd rc) := fun e => by
    subst e
    rw [ja_sa0 (by decide), ja_fi1 (by decide), ja_lf0 (by decide)] at h
    exact h
  have e3 : w = 3 → post 1 (ja_Y N lim keep sub clk sta ff lv sp du fa (upd st t 3) sa (upd fi t clk) lf kd rc) := fun e => by
    subst e
    rw [ja_sa0 (by decide), ja_fi1 (by decide), ja_lf0 (by decide)] at h
    exact h
  have hi : vp_in (nI t) 32 := vp_in_nI ht' (by omega)
  have hc : (nI t).toNatClampNeg = t := nI_clamp (by omega)
  have l3 : ja_lo N sub lv st t → wY_rule_59 post (nI t) clk (nI N) lim keep sta ff clk sub lv sp du fa st sa fi lf kd rc := fun l => by
    have q := ja_Dlo hD l
    refine jy_prereqIn hN ht' K (fun hb => br_f ja_i1 (jy_finish ht' (e5 (q.1 hb)))) (fun hb => br_t rfl ?_)
    have q := q.2 hb
    refine jy_prereqIn hN ht' K (fun hu => br_f ja_i1 (e0 (q.1 hu))) (fun hu => br_t rfl ?_)
    have q := q.2 hu
    have stp : ¬ ja_sp keep ff → wY_rule_106 post (nI t) clk (nI N) lim keep sta ff clk sub lv sp du fa st sa fi lf kd rc := fun hs => by
      have q := q.2 hs
      refine jy_stale hN ht' K (fun hl => br_f ja_i1 ?_) (fun hl => br_t rfl (jy_finish ht' (e3 (q.1 hl))))
      have q := q.2 hl
      refine jy_mayStart hN ht' hS (fun z => (l z).2) (fun hm => br_f ja_i1 ?_) (fun hm => br_t rfl (e0 (q.2 hm)))
      have e := q.1 hm
      subst e
      rw [ja_sa1, ja_fi0 (.inr rfl)] at h
      refine ⟨hi, nm_r (by rw [hc]) ⟨hi, nm_r (by rw [hc]) ?_⟩⟩
      by_cases hs : nI t = sub
      · rw [ja_lfs hs] at h
        exact br_t hs h
      · rw [ja_lf1 hs] at h
        exact br_f hs ⟨hi, hi, nm_r (by rw [hc]) h⟩
    refine br_c (fun hk => br_c (fun hf => stp (fun z => z.2 hf)) (fun hf => e0 (q.1 ⟨hk, hf⟩))) (fun hk => stp (fun z => hk z.1))
  unfold wpY_rule
  dsimp only
  refine jy_isSub ht' (fun hl => br_f ja_i1 ?_) (fun hl => br_t rfl (l3 (fun z => absurd z hl)))
  rcases ja_sub_in hS hN with ⟨e, _, hnn⟩ | ⟨s, hs, e, hm, hii⟩
  · have hneg : sub < 0 := by rw [e]; decide
    exact br_t hneg (br_t hneg (e0 (ja_D2 hD hl (hnn st 5) (hnn st 1))))
  · subst e
    have hpos : ¬ nI s < 0 := nI_pos (by omega)
    have his : vp_in (nI s) 32 := vp_in_nI (by omega) (by omega)
    refine br_f hpos ⟨his, ?_⟩
    rw [nI_clamp (show s < 2 ^ 31 by omega)]
    refine br_c (fun h5 => jy_finish ht' (e5 (ja_D1 hD hl ((hii st 5).mpr h5)))) (fun h5 => br_f hpos ⟨his, ?_⟩)
    rw [nI_clamp (show s < 2 ^ 31 by omega)]
    have h5' : ¬ ja_si N (nI s) st 5 := fun z => h5 ((hii st 5).mp z)
    exact br_c (fun h1 => l3 (fun _ => ⟨h5', (hii st 1).mpr h1⟩)) (fun h1 => e0 (ja_D2 hD hl h5' (fun z => h1 ((hii st 1).mp z))))
-- the passes
theorem js_w0 {w : Int32} {st : Nat → Int32} {t : Nat} : (upd st t w t = 0) = (w = 0) := by rw [pk_us]
theorem js_in {x2 : Int32} (hN : N ≤ 32) (hS : ja_S N sub) (K : ja_K N np op kd) : ∀ d i, i + d = N → ∀ (b : Int32) (st sa fi re lf : Nat → Int32), ja_B b → ja_L sub re lf → ∃ b' st' sa' fi' re' lf', ja_B b' ∧ ja_L sub re' lf' ∧ (∀ (post : SX → Prop) J f, wX_settle_20 post J x2 f b' (nI N) (nI N) lim keep sub clk sta ff (nI (jc_n (ja_r st' lv false) N)) (nI (jc_n (ja_r st' lv true) N)) lv sp du fa np op st' sa' fi' re' → wX_settle_20 post J x2 (f + d) b (nI i) (nI N) lim keep sub clk sta ff (nI (jc_n (ja_r st lv false) N)) (nI (jc_n (ja_r st lv true) N)) lv sp du fa np op st sa fi re) ∧ (∀ (post : SY → Prop) J f, wY_settle_22 post J clk x2 f b' (nI N) (nI N) lim keep sta ff clk sub lv sp du fa st' sa' fi' lf' kd rc → wY_settle_22 post J clk x2 (f + d) b (nI i) (nI N) lim keep sta ff clk sub lv sp du fa st sa fi lf kd rc) := by
  intro d
  induction d with
  | zero =>
    intro i hi b st sa fi re lf hB hL
    have e : i = N := by omega
    subst e
    exact ⟨b, st, sa, fi, re, lf, hB, hL, fun _ J f z => z, fun _ J f z => z⟩
  | succ d ih =>
    intro i hi b st sa fi re lf hB hL
    have hin : vp_in (nI i) 32 := vp_in_nI (by omega) (by omega)
    have hcl : (nI i).toNatClampNeg = i := nI_clamp (by omega)
    have hge : ¬ nI N ≤ nI i := nI_ge (by omega) (by omega)
    by_cases h0 : st i = 0
    · obtain ⟨w, hD⟩ := ja_Dex N lim keep sub ff lv sp np op st i
      obtain ⟨b', st', sa', fi', re', lf', g1, g2, g3, g4⟩ := ih (i + 1) (by omega) (if w = 0 then b else 1) (upd st i w) (ja_sa w clk sa i) (ja_fi w clk fi i) (ja_re w du re i) (ja_lf w sub du lf i) (by
        by_cases hw : w = 0
        · rw [if_pos hw]; exact hB
        · rw [if_neg hw]; exact ja_B1) (ja_Ls hL)
      refine ⟨b', st', sa', fi', re', lf', g1, g2, fun post J f z => ?_, fun post J f z => ?_⟩
      · have z' := g3 post J f z
        refine br_f hge ⟨hin, ?_⟩
        rw [hcl]
        refine br_t h0 (jx_settleTarget hN (by omega) hS h0 hD ⟨hin, ?_⟩)
        rw [pk_us]
        by_cases hw : w = 0
        · rw [if_pos hw] at z'
          refine br_t hw (nm_r ?_ (nm_r (nI_1 i) z'))
          rcases hB with hb | hb <;> subst hb <;> rfl
        · rw [if_neg hw] at z'
          refine br_f hw (nm_r ?_ (nm_r (nI_1 i) z'))
          rcases hB with hb | hb <;> subst hb <;> rfl
      · have z' := g4 post J f z
        refine br_f hge ⟨hin, ?_⟩
        rw [hcl]
        refine br_t h0 (jy_rule hN (by omega) hS K h0 hD ?_)
        by_cases hw : w = 0
        · rw [if_pos hw] at z' ⊢
          exact br_t rfl (nm_r (nI_1 i) z')
        · rw [if_neg hw] at z' ⊢
          exact br_f ja_i1 (nm_r (nI_1 i) z')
    · obtain ⟨b', st', sa', fi', re', lf', g1, g2, g3, g4⟩ := ih (i + 1) (by omega) b st sa fi re lf hB hL
      refine ⟨b', st', sa', fi', re', lf', g1, g2, fun post J f z => ?_, fun post J f z => ?_⟩
      · refine br_f hge ⟨hin, ?_⟩
        rw [hcl]
        exact br_f h0 (nm_r (nI_1 i) (g3 post J f z))
      · refine br_f hge ⟨hin, ?_⟩
        rw [hcl]
        exact br_f h0 (nm_r (nI_1 i) (g4 post J f z))

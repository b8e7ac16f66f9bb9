-- one target's step
variable {N : Nat} {lim keep sub clk sta ff : Int32} {lv sp du fa np op st sa fi re : Nat → Int32}
theorem jx_settleTarget {post : St2 → Prop} {t : Nat} {w : Int32} (hN : N ≤ 32) (ht : t < N) (hS : ja_S N sub) (h0 : st t = 0) (hD : ja_D N lim keep sub ff lv sp np op st t w) (h : post (ja_X N lim keep sub clk sta ff lv sp du fa np op (upd st t w) (ja_sa w clk sa t) (ja_fi w clk fi t) (ja_re w du re t))) : wpX_settleTarget post (ja_X N lim keep sub clk sta ff lv sp du fa np op st sa fi re) (nI t) := by
  have ht' : t < 32 := by omega
  have hn : ¬ st t = 1 := by rw [h0]; decide
  have e0 : w = 0 → post (ja_X N lim keep sub clk sta ff lv sp du fa np op st sa fi re) := fun e => by
    subst e
    rw [ja_u0 h0, ja_sa0 (by decide), ja_fi0 (.inl rfl), ja_re0 (by decide)] at h
    exact h
  have e5 : w = 5 → post (ja_X N lim keep sub clk sta ff lv sp du fa np op (upd st t 5) sa (upd fi t clk) re) := fun e => by
    subst e
    rw [ja_sa0 (by decide), ja_fi1 (by decide), ja_re0 (by decide)] at h
    exact h
  have e3 : w = 3 → post (ja_X N lim keep sub clk sta ff lv sp du fa np op (upd st t 3) sa (upd fi t clk) re) := fun e => by
    subst e
    rw [ja_sa0 (by decide), ja_fi1 (by decide), ja_re0 (by decide)] at h
    exact h
  have e1 : w = 1 → post (ja_X N lim keep sub clk sta ff lv sp du fa np op (upd st t 1) (upd sa t clk) fi (upd re t (du t))) := fun e => by
    subst e
    rw [ja_sa1, ja_fi0 (.inr rfl), ja_re1] at h
    exact h
  have l3 : ja_lo N sub lv st t → wX_settleTarget_40 post (nI t) (nI N) lim keep sub clk sta ff (nI (jc_n (ja_r st lv false) N)) (nI (jc_n (ja_r st lv true) N)) lv sp du fa np op st sa fi re := fun l => by
    have q := ja_Dlo hD l
    refine jx_hasBadPrereq hN ht' (fun hb => br_f ja_i1 (jx_finish ht' hn (by decide) (e5 (q.1 hb)))) (fun hb => br_t rfl ?_)
    have q := q.2 hb
    refine jx_hasUndonePrereq hN ht' (fun hu => br_f ja_i1 (e0 (q.1 hu))) (fun hu => br_t rfl ?_)
    have q := q.2 hu
    refine jx_isStopping (fun hs => br_f ja_i1 (e0 (q.1 hs))) (fun hs => br_t rfl ?_)
    have q := q.2 hs
    refine jx_isStale hN ht' (fun hl => br_f ja_i1 ?_) (fun hl => br_t rfl (jx_finish ht' hn (by decide) (e3 (q.1 hl))))
    have q := q.2 hl
    exact jx_mayStart hN ht' (fun hm => br_f ja_i1 (jx_beginRun hN ht hn (e1 (q.1 hm)))) (fun hm => br_t rfl (e0 (q.2 hm)))
  have l2 : (lv t = 1 → ¬ ja_si N sub st 5) → wX_settleTarget_23 post (nI t) (nI N) lim keep sub clk sta ff (nI (jc_n (ja_r st lv false) N)) (nI (jc_n (ja_r st lv true) N)) lv sp du fa np op st sa fi re := fun l => by
    refine jx_isSub ht' (fun hl => br_f ja_i1 ?_) (fun hl => br_t rfl (l3 (fun z => absurd z hl)))
    exact jx_isSubmakeIn hN hS (fun h1 => br_f ja_i1 (l3 (fun _ => ⟨l hl, h1⟩))) (fun h1 => br_t rfl (e0 (ja_D2 hD hl (l hl) h1)))
  unfold wpX_settleTarget
  dsimp only
  refine jx_isSub ht' (fun hl => br_f ja_i1 ?_) (fun hl => br_t rfl (l2 (fun z => absurd z hl)))
  exact jx_isSubmakeIn hN hS (fun h5 => br_f ja_i1 (jx_finish ht' hn (by decide) (e5 (ja_D1 hD hl h5)))) (fun h5 => br_t rfl (l2 (fun _ => h5)))

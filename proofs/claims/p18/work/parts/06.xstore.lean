-- the class's stores
variable {N : Nat} {lim keep sub clk sta ff rt rs : Int32} {lv sp du fa np op st sa fi re : Nat → Int32} {post : St2 → Prop}
theorem jx_finishT {t : Nat} {s : Int32} (ht : t < 32) (h : post (ja_T N lim keep sub clk sta ff rt rs lv sp du fa np op (upd st t s) sa (upd fi t clk) re)) : wpX_finish post (ja_T N lim keep sub clk sta ff rt rs lv sp du fa np op st sa fi re) (nI t) s := by
  refine ⟨vp_in_nI ht (by omega), nm_r (by rw [nI_clamp (by omega)]) ⟨vp_in_nI ht (by omega), nm_r (by rw [nI_clamp (by omega)]) ?_⟩⟩
  exact h
theorem jx_finish {t : Nat} {s : Int32} (ht : t < 32) (h0 : ¬ st t = 1) (hs : ¬ s = 1) (h : post (ja_X N lim keep sub clk sta ff lv sp du fa np op (upd st t s) sa (upd fi t clk) re)) : wpX_finish post (ja_X N lim keep sub clk sta ff lv sp du fa np op st sa fi re) (nI t) s := by
  have e : ∀ b, jc_n (ja_r (upd st t s) lv b) N = jc_n (ja_r st lv b) N := fun b => ja_cs h0 hs
  have h' : post (ja_T N lim keep sub clk sta ff (nI (jc_n (ja_r (upd st t s) lv false) N)) (nI (jc_n (ja_r (upd st t s) lv true) N)) lv sp du fa np op (upd st t s) sa (upd fi t clk) re) := h
  rw [e, e] at h'
  exact jx_finishT ht h'
theorem jx_beginRun {t : Nat} (hN : N ≤ 32) (ht : t < N) (h0 : ¬ st t = 1) (h : post (ja_X N lim keep sub clk sta ff lv sp du fa np op (upd st t 1) (upd sa t clk) fi (upd re t (du t)))) : wpX_beginRun post (ja_X N lim keep sub clk sta ff lv sp du fa np op st sa fi re) (nI t) := by
  have i : vp_in (nI t) 32 := vp_in_nI (by omega) (by omega)
  have c : (nI t).toNatClampNeg = t := nI_clamp (by omega)
  have a := ja_cb (lv := lv) ht h0
  have b := ja_cbo (st := st) (lv := lv) (t := t) (N := N)
  have h' : post (ja_T N lim keep sub clk sta ff (nI (jc_n (ja_r (upd st t 1) lv false) N)) (nI (jc_n (ja_r (upd st t 1) lv true) N)) lv sp du fa np op (upd st t 1) (upd sa t clk) fi (upd re t (du t))) := h
  refine ⟨i, nm_r (by rw [c]) ⟨i, nm_r (by rw [c]) ⟨i, i, nm_r (by rw [c]) ?_⟩⟩⟩
  refine jx_isSub (by omega) (fun hl => br_f ja_i1 ?_) (fun hl => br_t rfl ?_)
  · rw [decide_eq_true hl] at a b
    rw [a, show (false = !true) from rfl, b] at h'
    exact nm_r (nI_1 _) h'
  · rw [decide_eq_false hl] at a b
    rw [a, show (true = !false) from rfl, b] at h'
    exact nm_r (nI_1 _) h'
theorem jx_endRun {t : Nat} {b : Int32} (hN : N ≤ 32) (ht : t < N) (hr : st t = 1) (h1 : ¬ b = 0 → post (ja_X N lim keep sub clk sta 1 lv sp du fa np op (upd st t 4) sa (upd fi t clk) re)) (h0 : b = 0 → post (ja_X N lim keep sub clk sta ff lv (upd sp t (1000000 + clk)) du fa np op (upd st t 2) sa (upd fi t clk) re)) : wpX_endRun post (ja_X N lim keep sub clk sta ff lv sp du fa np op st sa fi re) (nI t) b := by
  have i : vp_in (nI t) 32 := vp_in_nI (by omega) (by omega)
  have c : (nI t).toNatClampNeg = t := nI_clamp (by omega)
  -- the tail, for counters that are those of the new statuses
  have tail : ∀ r0 r1 : Int32, (∀ s : Int32, ¬ s = 1 → r0 = nI (jc_n (ja_r (upd st t s) lv false) N) ∧ r1 = nI (jc_n (ja_r (upd st t s) lv true) N)) →
      (¬ b = 0 → post (ja_T N lim keep sub clk sta 1 r0 r1 lv sp du fa np op (upd st t 4) sa (upd fi t clk) re)) ∧ (b = 0 → post (ja_T N lim keep sub clk sta ff r0 r1 lv (upd sp t (1000000 + clk)) du fa np op (upd st t 2) sa (upd fi t clk) re)) := by
    intro r0 r1 hr
    refine ⟨fun z => ?_, fun z => ?_⟩
    · rw [(hr 4 (by decide)).1, (hr 4 (by decide)).2]
      exact h1 z
    · rw [(hr 2 (by decide)).1, (hr 2 (by decide)).2]
      exact h0 z
  unfold wpX_endRun
  dsimp only
  refine jx_isSub (by omega) (fun hl => br_f ja_i1 ?_) (fun hl => br_t rfl ?_)
  · have q := tail (nI (jc_n (ja_r st lv false) N)) (nI (jc_n (ja_r st lv true) N) - 1) (fun s hs => by
      have a := ja_ce (lv := lv) ht hr hs
      have b := ja_ceo (st := st) (lv := lv) (t := t) (N := N) (s := s)
      rw [decide_eq_true hl] at a b
      exact ⟨congrArg nI b, by rw [a]; exact nI_pred _⟩)
    refine nm_e ?_
    refine br_c (fun z => ?_) (fun z => ?_)
    · exact ⟨i, nm_r (by rw [c]) (jx_finishT (by omega) (q.2 z))⟩
    · exact jx_finishT (by omega) (q.1 z)
  · have q := tail (nI (jc_n (ja_r st lv false) N) - 1) (nI (jc_n (ja_r st lv true) N)) (fun s hs => by
      have a := ja_ce (lv := lv) ht hr hs
      have b := ja_ceo (st := st) (lv := lv) (t := t) (N := N) (s := s)
      rw [decide_eq_false hl] at a b
      exact ⟨by rw [a]; exact nI_pred _, congrArg nI b⟩)
    refine nm_e ?_
    refine br_c (fun z => ?_) (fun z => ?_)
    · exact ⟨i, nm_r (by rw [c]) (jx_finishT (by omega) (q.2 z))⟩
    · exact jx_finishT (by omega) (q.1 z)

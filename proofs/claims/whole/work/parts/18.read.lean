-- the calls that only read
theorem i_vc_status {k : Nat} {u : SX} {v : SY} (I : i_Rel k u v) (hk : k + 4 ≤ 2051) (v1 : Int32) : wpX_status (fun r => wpY_status (fun r' => r' = r ∧ i_Rel (k + 4) u v) v v1) u v1 := by
  obtain ⟨N, lim, keep, sub, clk, sta, ff, lv, sp, du, fa, np, op, st, sa, fi, re, lf, kd, rc, rfl, rfl, I⟩ := I
  have J := I
  obtain ⟨hN1, hN, h0, hke, hst, hff, hS, hfa, K, hL⟩ := I
  unfold wpX_status wpY_status
  dsimp only
  rcases ja_tg N hN v1 with h1 | ⟨t, ht, rfl⟩
  · exact jx_isTarget_f h1 (br_t rfl (jy_in_f h1 (br_t rfl ⟨rfl, ja_mk J⟩)))
  · have hit : vp_in (nI t) 32 := vp_in_nI (by omega) (by omega)
    exact jx_isTarget_t hN ht (br_f ja_i1 ⟨hit, jy_in_t hN ht (br_f ja_i1 ⟨hit, rfl, ja_mk J⟩)⟩)
theorem i_vc_timeOf {k : Nat} {u : SX} {v : SY} (I : i_Rel k u v) (hk : k + 4 ≤ 2051) (v1 : Int32) : wpX_timeOf (fun r => wpY_timeOf (fun r' => r' = r ∧ i_Rel (k + 4) u v) v v1) u v1 := by
  obtain ⟨N, lim, keep, sub, clk, sta, ff, lv, sp, du, fa, np, op, st, sa, fi, re, lf, kd, rc, rfl, rfl, I⟩ := I
  have J := I
  obtain ⟨hN1, hN, h0, hke, hst, hff, hS, hfa, K, hL⟩ := I
  unfold wpX_timeOf wpY_timeOf
  dsimp only
  rcases ja_tg N hN v1 with h1 | ⟨t, ht, rfl⟩
  · exact jx_isTarget_f h1 (br_t rfl (jy_in_f h1 (br_t rfl ⟨rfl, ja_mk J⟩)))
  · have hit : vp_in (nI t) 32 := vp_in_nI (by omega) (by omega)
    exact jx_isTarget_t hN ht (br_f ja_i1 ⟨hit, jy_in_t hN ht (br_f ja_i1 ⟨hit, rfl, ja_mk J⟩)⟩)
theorem i_vc_startedAt {k : Nat} {u : SX} {v : SY} (I : i_Rel k u v) (hk : k + 4 ≤ 2051) (v1 : Int32) : wpX_startedAt (fun r => wpY_startedAt (fun r' => r' = r ∧ i_Rel (k + 4) u v) v v1) u v1 := by
  obtain ⟨N, lim, keep, sub, clk, sta, ff, lv, sp, du, fa, np, op, st, sa, fi, re, lf, kd, rc, rfl, rfl, I⟩ := I
  have J := I
  obtain ⟨hN1, hN, h0, hke, hst, hff, hS, hfa, K, hL⟩ := I
  unfold wpX_startedAt wpY_startedAt
  dsimp only
  rcases ja_tg N hN v1 with h1 | ⟨t, ht, rfl⟩
  · exact jx_isTarget_f h1 (br_t rfl (jy_in_f h1 (br_t rfl ⟨rfl, ja_mk J⟩)))
  · have hit : vp_in (nI t) 32 := vp_in_nI (by omega) (by omega)
    exact jx_isTarget_t hN ht (br_f ja_i1 ⟨hit, jy_in_t hN ht (br_f ja_i1 ⟨hit, rfl, ja_mk J⟩)⟩)
theorem i_vc_finishedAt {k : Nat} {u : SX} {v : SY} (I : i_Rel k u v) (hk : k + 4 ≤ 2051) (v1 : Int32) : wpX_finishedAt (fun r => wpY_finishedAt (fun r' => r' = r ∧ i_Rel (k + 4) u v) v v1) u v1 := by
  obtain ⟨N, lim, keep, sub, clk, sta, ff, lv, sp, du, fa, np, op, st, sa, fi, re, lf, kd, rc, rfl, rfl, I⟩ := I
  have J := I
  obtain ⟨hN1, hN, h0, hke, hst, hff, hS, hfa, K, hL⟩ := I
  unfold wpX_finishedAt wpY_finishedAt
  dsimp only
  rcases ja_tg N hN v1 with h1 | ⟨t, ht, rfl⟩
  · exact jx_isTarget_f h1 (br_t rfl (jy_in_f h1 (br_t rfl ⟨rfl, ja_mk J⟩)))
  · have hit : vp_in (nI t) 32 := vp_in_nI (by omega) (by omega)
    exact jx_isTarget_t hN ht (br_f ja_i1 ⟨hit, jy_in_t hN ht (br_f ja_i1 ⟨hit, rfl, ja_mk J⟩)⟩)
theorem i_vc_level {k : Nat} {u : SX} {v : SY} (I : i_Rel k u v) (hk : k + 4 ≤ 2051) (v1 : Int32) : wpX_level (fun r => wpY_level (fun r' => r' = r ∧ i_Rel (k + 4) u v) v v1) u v1 := by
  obtain ⟨N, lim, keep, sub, clk, sta, ff, lv, sp, du, fa, np, op, st, sa, fi, re, lf, kd, rc, rfl, rfl, I⟩ := I
  have J := I
  obtain ⟨hN1, hN, h0, hke, hst, hff, hS, hfa, K, hL⟩ := I
  unfold wpX_level wpY_level
  dsimp only
  rcases ja_tg N hN v1 with h1 | ⟨t, ht, rfl⟩
  · exact jx_isTarget_f h1 (br_t rfl (jy_in_f h1 (br_t rfl ⟨rfl, ja_mk J⟩)))
  · have hit : vp_in (nI t) 32 := vp_in_nI (by omega) (by omega)
    exact jx_isTarget_t hN ht (br_f ja_i1 ⟨hit, jy_in_t hN ht (br_f ja_i1 ⟨hit, rfl, ja_mk J⟩)⟩)
theorem i_vc_commandOf {k : Nat} {u : SX} {v : SY} (I : i_Rel k u v) (hk : k + 4 ≤ 2051) (v1 : Int32) : wpX_commandOf (fun r => wpY_commandOf (fun r' => r' = r ∧ i_Rel (k + 4) u v) v v1) u v1 := by
  obtain ⟨N, lim, keep, sub, clk, sta, ff, lv, sp, du, fa, np, op, st, sa, fi, re, lf, kd, rc, rfl, rfl, I⟩ := I
  have J := I
  obtain ⟨hN1, hN, h0, hke, hst, hff, hS, hfa, K, hL⟩ := I
  unfold wpX_commandOf wpY_commandOf
  dsimp only
  rcases ja_tg N hN v1 with h1 | ⟨t, ht, rfl⟩
  · exact jx_isTarget_f h1 (br_t rfl (jy_in_f h1 (br_t rfl ⟨rfl, ja_mk J⟩)))
  · have hit : vp_in (nI t) 32 := vp_in_nI (by omega) (by omega)
    refine jx_isTarget_t hN ht (br_f ja_i1 ⟨hit, br_c (fun h => ⟨hit, ?_⟩) (fun h => ⟨hit, ?_⟩)⟩)
    · exact jy_in_t hN ht (br_f ja_i1 ⟨hit, hit, br_t h ⟨Int32.add_zero _, ja_mk J⟩⟩)
    · exact jy_in_t hN ht (br_f ja_i1 ⟨hit, hit, br_f h ⟨rfl, ja_mk J⟩⟩)
theorem i_vc_prereqKind {k : Nat} {u : SX} {v : SY} (I : i_Rel k u v) (hk : k + 4 ≤ 2051) (v1 : Int32) (v2 : Int32) : wpX_prereqKind (fun r => wpY_prereqKind (fun r' => r' = r ∧ i_Rel (k + 4) u v) v v1 v2) u v1 v2 := by
  obtain ⟨N, lim, keep, sub, clk, sta, ff, lv, sp, du, fa, np, op, st, sa, fi, re, lf, kd, rc, rfl, rfl, I⟩ := I
  have J := I
  obtain ⟨hN1, hN, h0, hke, hst, hff, hS, hfa, K, hL⟩ := I
  unfold wpX_prereqKind wpY_prereqKind
  dsimp only
  rcases ja_tg N hN v1 with h1 | ⟨t, ht, rfl⟩
  · exact jx_isTarget_f h1 (br_t rfl (jy_in_f h1 (br_t rfl ⟨rfl, ja_mk J⟩)))
  · refine jx_isTarget_t hN ht (br_f ja_i1 ?_)
    rcases ja_tg N hN v2 with h2 | ⟨p, hp, rfl⟩
    · exact jx_isTarget_f h2 (br_t rfl (jy_in_t hN ht (br_f ja_i1 (jy_in_f h2 (br_t rfl ⟨rfl, ja_mk J⟩)))))
    · have hit : vp_in (nI t) 32 := vp_in_nI (by omega) (by omega)
      have ct : (nI t).toNatClampNeg = t := nI_clamp (by omega)
      have cx : (nI (t * 32 + p)).toNatClampNeg = t * 32 + p := nI_clamp (by omega)
      have yy : ∀ r : Int32, ja_k np op t p = r → wpY_prereqKind (fun r' => r' = r ∧ i_Rel (k + 4) (ja_X N lim keep sub clk sta ff lv sp du fa np op st sa fi re) (ja_Y N lim keep sub clk sta ff lv sp du fa st sa fi lf kd rc)) (ja_Y N lim keep sub clk sta ff lv sp du fa st sa fi lf kd rc) (nI t) (nI p) := fun r e => by
        unfold wpY_prereqKind
        dsimp only
        refine jy_in_t hN ht (br_f ja_i1 (jy_in_t hN hp (br_f ja_i1 ?_)))
        rw [jy_ix]
        refine ⟨vp_in_nI (by omega) (by omega), ?_⟩
        rw [cx, K.1 t p (by omega) (by omega)]
        exact ⟨e, ja_mk J⟩
      refine jx_isTarget_t hN hp (br_f ja_i1 ⟨hit, ?_⟩)
      rw [ct]
      refine jx_hasBit (by omega) (fun h => br_f ja_i1 (yy 1 (ja_k1.mpr h))) (fun h => br_t rfl ⟨hit, ?_⟩)
      refine jx_hasBit (by omega) (fun h' => br_f ja_i1 (yy 2 ?_)) (fun h' => br_t rfl (yy 0 ?_))
      · unfold ja_k
        rw [if_neg h, if_pos h']
      · unfold ja_k
        rw [if_neg h, if_neg h']
theorem i_vc_tokensFree {k : Nat} {u : SX} {v : SY} (I : i_Rel k u v) (hk : k + 4 ≤ 2051) : wpX_tokensFree (fun r => wpY_tokensFree (fun r' => r' = r ∧ i_Rel (k + 4) u v) v) u := by
  obtain ⟨N, lim, keep, sub, clk, sta, ff, lv, sp, du, fa, np, op, st, sa, fi, re, lf, kd, rc, rfl, rfl, I⟩ := I
  have J := I
  obtain ⟨hN1, hN, h0, hke, hst, hff, hS, hfa, K, hL⟩ := I
  refine jx_tokensFree (Nat.le_trans (jc_le _ N) hN) (Nat.le_trans (jc_le _ N) hN) ?_
  unfold wpY_tokensFree
  dsimp only
  exact jy_free hN ⟨rfl, ja_mk J⟩
theorem i_vc_isQuiet {k : Nat} {u : SX} {v : SY} (I : i_Rel k u v) (hk : k + 4 ≤ 2051) : wpX_isQuiet (fun r => wpY_isQuiet (fun r' => r' = r ∧ i_Rel (k + 4) u v) v) u := by
  obtain ⟨N, lim, keep, sub, clk, sta, ff, lv, sp, du, fa, np, op, st, sa, fi, re, lf, kd, rc, rfl, rfl, I⟩ := I
  have J := I
  obtain ⟨hN1, hN, h0, hke, hst, hff, hS, hfa, K, hL⟩ := I
  by_cases hq : ¬ sta = 0 ∧ ¬ ∃ t, t < N ∧ ja_und st t
  · exact jx_isQuiet hN (fun _ => jy_isQuiet hN (fun _ => ⟨rfl, ja_mk J⟩) (fun y => absurd hq y)) (fun y => absurd hq y)
  · exact jx_isQuiet hN (fun y => absurd y hq) (fun _ => jy_isQuiet hN (fun y => absurd y hq) (fun _ => ⟨rfl, ja_mk J⟩))

-- the setup calls
variable {N : Nat} {lim keep sub clk sta ff rt rs : Int32} {lv sp du fa np op st sa fi re lf kd rc : Nat → Int32} {post : Int32 → Prop}
def jv_b (lv : Nat → Int32) (t : Nat) : Int32 := if lv t = 1 then 1 else 0
theorem jv_X {t : Nat} (ht : t < 32) (hp : post (jv_b lv t)) : wpX_isSub post (ja_T N lim keep sub clk sta ff rt rs lv sp du fa np op st sa fi re) (nI t) :=
  jx_isSub ht (fun h => by unfold jv_b at hp; rw [if_pos h] at hp; exact hp) (fun h => by unfold jv_b at hp; rw [if_neg h] at hp; exact hp)
theorem jv_Y {t : Nat} (ht : t < 32) (hp : post (jv_b lv t)) : wpY_isSub post (ja_Y N lim keep sub clk sta ff lv sp du fa st sa fi lf kd rc) (nI t) :=
  jy_isSub ht (fun h => by unfold jv_b at hp; rw [if_pos h] at hp; exact hp) (fun h => by unfold jv_b at hp; rw [if_neg h] at hp; exact hp)
theorem i_vc_addPrereq {k : Nat} {u : SX} {v : SY} (I : i_Rel k u v) (hk : k + 4 ≤ 2051) (v1 : Int32) (v2 : Int32) (v3 : Int32) : wpX_addPrereq (fun r u' => wpY_addPrereq (fun r' v' => r' = r ∧ i_Rel (k + 4) u' v') v v1 v2 (lw_bz v3)) u v1 v2 (lw_bz v3) := by
  obtain ⟨N, lim, keep, sub, clk, sta, ff, lv, sp, du, fa, np, op, st, sa, fi, re, lf, kd, rc, rfl, rfl, I⟩ := I
  have J := I
  obtain ⟨hN1, hN, h0, hke, hst, hff, hS, hfa, K, hL⟩ := I
  unfold wpX_addPrereq
  dsimp only
  by_cases hs : sta = 0
  · rcases ja_tg N hN v1 with h1 | ⟨t, ht, rfl⟩
    · exact jx_open_f (.inr h1) (br_t rfl (br_t hs (jy_in_f h1 (br_t rfl ⟨rfl, ja_mk J⟩))))
    · refine jx_open_t hN hs ht (br_f ja_i1 ?_)
      rcases ja_tg N hN v2 with h2 | ⟨p, hp, rfl⟩
      · exact jx_isTarget_f h2 (br_t rfl (br_t hs (jy_in_t hN ht (br_f ja_i1 (jy_in_f h2 (br_t rfl ⟨rfl, ja_mk J⟩))))))
      · refine jx_isTarget_t hN hp (br_f ja_i1 ?_)
        by_cases e : nI t = nI p
        · exact br_t e (br_t hs (jy_in_t hN ht (br_f ja_i1 (jy_in_t hN hp (br_f ja_i1 (br_t e ⟨rfl, ja_mk J⟩))))))
        · refine br_f e (jv_X (by omega) (jv_X (by omega) ?_))
          by_cases el : jv_b lv t = jv_b lv p
          · have hin : vp_in (nI (t * 32 + p)) 1024 := vp_in_nI (by omega) (by omega)
            have cx : (nI (t * 32 + p)).toNatClampNeg = t * 32 + p := nI_clamp (by omega)
            have hit : vp_in (nI t) 32 := vp_in_nI (by omega) (by omega)
            have ct : (nI t).toNatClampNeg = t := nI_clamp (by omega)
            refine br_t el (jx_isPrereq (by omega) (by omega) (fun hE => br_f ja_i1 ?_) (fun hE => br_t rfl ?_))
            · refine br_t hs (jy_in_t hN ht (br_f ja_i1 (jy_in_t hN hp (br_f ja_i1 (br_f e (jv_Y (by omega) (jv_Y (by omega) (br_t el ?_))))))))
              rw [jy_ix]
              refine ⟨hin, ?_⟩
              rw [cx, K.1 t p (by omega) (by omega)]
              exact br_f (ja_kn.mpr hE) ⟨rfl, ja_mk J⟩
            · have hz : bt (np t ||| op t) p = false := by
                cases y : bt (np t ||| op t) p with
                | false => rfl
                | true => exact absurd y hE
              obtain ⟨S, d1, d2, d3⟩ := jx_isReachable (lim := lim) (keep := keep) (sub := sub) (clk := clk) (sta := sta) (ff := ff) (rt := nI (jc_n (ja_r st lv false) N)) (rs := nI (jc_n (ja_r st lv true) N)) (lv := lv) (sp := sp) (du := du) (fa := fa) (st := st) (sa := sa) (fi := fi) (re := re) hN K.2 hp ht
              obtain ⟨rc', e1, e2, e3⟩ := jy_reachable (rc := rc) (lim := lim) (keep := keep) (sub := sub) (clk := clk) (sta := sta) (ff := ff) (lv := lv) (sp := sp) (du := du) (fa := fa) (st := st) (sa := sa) (fi := fi) (lf := lf) hN K hp ht
              have uq := jr_uq d1 d2 e1 e2 t
              -- the reference, up to reachable
              have yy : ∀ (P : Int32 → SY → Prop), (jy_set rc' t = true → P 0 (ja_Y N lim keep sub clk sta ff lv sp du fa st sa fi lf kd rc')) → (¬ jy_set rc' t = true → (lw_bz v3 = 0 → P 1 (ja_Y N lim keep sub clk sta ff lv sp du fa st sa fi lf (upd kd (t * 32 + p) 1) rc')) ∧ (¬ lw_bz v3 = 0 → P 1 (ja_Y N lim keep sub clk sta ff lv sp du fa st sa fi lf (upd kd (t * 32 + p) 2) rc'))) → wpY_addPrereq P (ja_Y N lim keep sub clk sta ff lv sp du fa st sa fi lf kd rc) (nI t) (nI p) (lw_bz v3) := by
                intro P p1 p0
                refine br_t hs (jy_in_t hN ht (br_f ja_i1 (jy_in_t hN hp (br_f ja_i1 (br_f e (jv_Y (by omega) (jv_Y (by omega) (br_t el ?_))))))))
                rw [jy_ix]
                refine ⟨hin, ?_⟩
                rw [cx, K.1 t p (by omega) (by omega)]
                refine br_t (ja_k0.mpr hz) (e3 _ (fun y => br_f ja_i1 (p1 y)) (fun y => br_t rfl ?_))
                exact br_c (fun z => ⟨hin, nm_e ((p0 y).1 z)⟩) (fun z => ⟨hin, nm_e ((p0 y).2 z)⟩)
              refine d3 _ (fun y => br_f ja_i1 (yy _ (fun _ => ⟨rfl, ja_mk J⟩) (fun w => absurd (uq.mp y) w))) (fun y => br_t rfl ?_)
              have ny : ¬ jy_set rc' t = true := fun w => y (uq.mpr w)
              refine br_c (fun z => ⟨hit, hit, nm_r (by rw [ct]) (yy _ (fun w => absurd w ny) (fun _ => ⟨fun _ => ⟨rfl, ?_⟩, fun w => absurd z w⟩))⟩) (fun z => ⟨hit, hit, nm_r (by rw [ct]) (yy _ (fun w => absurd w ny) (fun _ => ⟨fun w => absurd w z, fun _ => ⟨rfl, ?_⟩⟩))⟩)
              · exact ja_mk ⟨hN1, hN, h0, hke, hst, hff, hS, hfa, ja_Kn hN K ht hp, hL⟩
              · exact ja_mk ⟨hN1, hN, h0, hke, hst, hff, hS, hfa, ja_Ko hN K ht hp hz, hL⟩
          · exact br_f el (br_t hs (jy_in_t hN ht (br_f ja_i1 (jy_in_t hN hp (br_f ja_i1 (br_f e (jv_Y (by omega) (jv_Y (by omega) (br_f el ⟨rfl, ja_mk J⟩)))))))))
  · exact jx_open_f (.inl hs) (br_t rfl (br_f hs ⟨rfl, ja_mk J⟩))
theorem i_vc_setTime {k : Nat} {u : SX} {v : SY} (I : i_Rel k u v) (hk : k + 4 ≤ 2051) (v1 : Int32) (v2 : Int32) : wpX_setTime (fun r u' => wpY_setTime (fun r' v' => r' = r ∧ i_Rel (k + 4) u' v') v v1 v2) u v1 v2 := by
  obtain ⟨N, lim, keep, sub, clk, sta, ff, lv, sp, du, fa, np, op, st, sa, fi, re, lf, kd, rc, rfl, rfl, I⟩ := I
  have J := I
  obtain ⟨hN1, hN, h0, hke, hst, hff, hS, hfa, K, hL⟩ := I
  unfold wpX_setTime
  dsimp only
  by_cases hs : sta = 0
  · rcases ja_tg N hN v1 with h1 | ⟨t, ht, rfl⟩
    · exact jx_open_f (.inr h1) (br_t rfl (br_t hs (jy_in_f h1 (br_t rfl ⟨rfl, ja_mk J⟩))))
    · refine jx_open_t hN hs ht (br_f ja_i1 ?_)
      have hit : vp_in (nI t) 32 := vp_in_nI (by omega) (by omega)
      refine br_c (fun a => br_t hs (jy_in_t hN ht (br_f ja_i1 (br_t a ⟨rfl, ja_mk J⟩)))) (fun a => br_c (fun b => ⟨hit, nm_e ?_⟩) (fun b => br_t hs (jy_in_t hN ht (br_f ja_i1 (br_f a (br_f b ⟨rfl, ja_mk J⟩))))))
      exact br_t hs (jy_in_t hN ht (br_f ja_i1 (br_f a (br_t b ⟨hit, nm_e ⟨rfl, ja_mk J⟩⟩))))
  · exact jx_open_f (.inl hs) (br_t rfl (br_f hs ⟨rfl, ja_mk J⟩))
theorem i_vc_setCommand {k : Nat} {u : SX} {v : SY} (I : i_Rel k u v) (hk : k + 4 ≤ 2051) (v1 : Int32) (v2 : Int32) (v3 : Int32) : wpX_setCommand (fun r u' => wpY_setCommand (fun r' v' => r' = r ∧ i_Rel (k + 4) u' v') v v1 v2 (lw_bz v3)) u v1 v2 (lw_bz v3) := by
  obtain ⟨N, lim, keep, sub, clk, sta, ff, lv, sp, du, fa, np, op, st, sa, fi, re, lf, kd, rc, rfl, rfl, I⟩ := I
  have J := I
  obtain ⟨hN1, hN, h0, hke, hst, hff, hS, hfa, K, hL⟩ := I
  unfold wpX_setCommand
  dsimp only
  by_cases hs : sta = 0
  · rcases ja_tg N hN v1 with h1 | ⟨t, ht, rfl⟩
    · exact jx_open_f (.inr h1) (br_t rfl (br_t hs (jy_in_f h1 (br_t rfl ⟨rfl, ja_mk J⟩))))
    · refine jx_open_t hN hs ht (br_f ja_i1 ?_)
      have hit : vp_in (nI t) 32 := vp_in_nI (by omega) (by omega)
      refine br_c (fun a => br_t hs (jy_in_t hN ht (br_f ja_i1 (br_t a ⟨rfl, ja_mk J⟩)))) (fun a => br_c (fun b => ⟨hit, nm_e ⟨hit, nm_e ?_⟩⟩) (fun b => br_t hs (jy_in_t hN ht (br_f ja_i1 (br_f a (br_f b ⟨rfl, ja_mk J⟩))))))
      refine br_t hs (jy_in_t hN ht (br_f ja_i1 (br_f a (br_t b ⟨hit, nm_e ⟨hit, nm_e ⟨rfl, ja_mk ?_⟩⟩⟩))))
      refine ⟨hN1, hN, h0, hke, hst, hff, hS, fun i => ?_, K, hL⟩
      rw [ja_Bv (lw_bz_01 v3), nI_clamp (by omega)]
      by_cases e : i = t
      · subst e
        rw [pk_us]
        exact lw_bz_01 v3
      · rw [pk_un e]
        exact hfa i
  · exact jx_open_f (.inl hs) (br_t rfl (br_f hs ⟨rfl, ja_mk J⟩))
theorem i_vc_setSubmake {k : Nat} {u : SX} {v : SY} (I : i_Rel k u v) (hk : k + 4 ≤ 2051) (v1 : Int32) : wpX_setSubmake (fun r u' => wpY_setSubmake (fun r' v' => r' = r ∧ i_Rel (k + 4) u' v') v v1) u v1 := by
  obtain ⟨N, lim, keep, sub, clk, sta, ff, lv, sp, du, fa, np, op, st, sa, fi, re, lf, kd, rc, rfl, rfl, I⟩ := I
  have J := I
  obtain ⟨hN1, hN, h0, hke, hst, hff, hS, hfa, K, hL⟩ := I
  unfold wpX_setSubmake
  dsimp only
  by_cases hs : sta = 0
  · rcases ja_tg N hN v1 with h1 | ⟨t, ht, rfl⟩
    · exact jx_open_f (.inr h1) (br_t rfl (br_t hs (jy_in_f h1 (br_t rfl ⟨rfl, ja_mk J⟩))))
    · refine jx_open_t hN hs ht (br_f ja_i1 ?_)
      have hit : vp_in (nI t) 32 := vp_in_nI (by omega) (by omega)
      rcases ja_sub_in hS hN with ⟨e, hno, _⟩ | ⟨s, hsN, e, hm, _⟩
      · refine br_t e ⟨hit, nm_e (br_t hs (jy_in_t hN ht (br_f ja_i1 (br_t (by rw [e]; decide) ⟨hit, nm_e ⟨rfl, ja_mkT ?_ ?_ ?_⟩⟩))))⟩
        · exact ⟨hN1, hN, h0, hke, hst, hff, .inr ⟨t, ht, rfl⟩, hfa, K, fun i hi _ => hL i hi (hno i hi)⟩
        · rw [ja_c0 (h0 hs).2]
        · rw [ja_c0 (h0 hs).2]
      · exact br_f hm (br_t hs (jy_in_t hN ht (br_f ja_i1 (br_f (by rw [e]; exact nI_pos (by omega)) ⟨rfl, ja_mk J⟩))))
  · exact jx_open_f (.inl hs) (br_t rfl (br_f hs ⟨rfl, ja_mk J⟩))
theorem i_vc_setSub {k : Nat} {u : SX} {v : SY} (I : i_Rel k u v) (hk : k + 4 ≤ 2051) (v1 : Int32) : wpX_setSub (fun r u' => wpY_setSub (fun r' v' => r' = r ∧ i_Rel (k + 4) u' v') v v1) u v1 := by
  obtain ⟨N, lim, keep, sub, clk, sta, ff, lv, sp, du, fa, np, op, st, sa, fi, re, lf, kd, rc, rfl, rfl, I⟩ := I
  have J := I
  obtain ⟨hN1, hN, h0, hke, hst, hff, hS, hfa, K, hL⟩ := I
  unfold wpX_setSub
  dsimp only
  by_cases hs : sta = 0
  · rcases ja_tg N hN v1 with h1 | ⟨t, ht, rfl⟩
    · exact jx_open_f (.inr h1) (br_t rfl (br_t hs (jy_in_f h1 (br_t rfl ⟨rfl, ja_mk J⟩))))
    · refine jx_open_t hN hs ht (br_f ja_i1 ?_)
      have hit : vp_in (nI t) 32 := vp_in_nI (by omega) (by omega)
      have ct : (nI t).toNatClampNeg = t := nI_clamp (by omega)
      rcases ja_sub_in hS hN with ⟨e, _, _⟩ | ⟨s, hsN, e, hm, _⟩
      · exact br_t e (br_t hs (jy_in_t hN ht (br_f ja_i1 (br_t (by rw [e]; decide) ⟨rfl, ja_mk J⟩))))
      · have hneg : ¬ sub < 0 := by rw [e]; exact nI_pos (by omega)
        refine br_f hm ⟨hit, ?_⟩
        rw [ct]
        -- the reference's two loops
        have yy : ∀ (P : Int32 → SY → Prop), lv t = 0 → (((∃ p, p < N ∧ ja_E np op t p) ∨ ∃ x, x < N ∧ ja_E np op x t) → P 0 (ja_Y N lim keep sub clk sta ff lv sp du fa st sa fi lf kd rc)) → (¬ ((∃ p, p < N ∧ ja_E np op t p) ∨ ∃ x, x < N ∧ ja_E np op x t) → P 1 (ja_Y N lim keep sub clk sta ff (upd lv t 1) sp du fa st sa fi lf kd rc)) → wpY_setSub P (ja_Y N lim keep sub clk sta ff lv sp du fa st sa fi lf kd rc) (nI t) := by
          intro P hl p0 p1
          refine br_t hs (jy_in_t hN ht (br_f ja_i1 (br_f hneg ⟨hit, ?_⟩)))
          rw [ct]
          refine br_t hl ?_
          refine js_ex (fun n i => wY_setSub_35 P (nI t) (nI N) lim keep sta ff clk sub lv sp du fa st sa fi lf kd rc n (nI i)) (fun p => ja_E np op t p) N (P 0 (ja_Y N lim keep sub clk sta ff lv sp du fa st sa fi lf kd rc)) (∃ n67 : Nat, wY_setSub_67 P (nI t) (nI N) lim keep sta ff clk sub lv sp du fa st sa fi lf kd rc n67 0) ?_ ?_ ?_ (fun z => p0 (.inl z)) (fun z => ?_)
          · intro q n
            exact br_t (nI_le (Nat.le_refl _) (by omega)) q
          · intro q n i hi hc
            have cx : (nI (t * 32 + i)).toNatClampNeg = t * 32 + i := nI_clamp (by omega)
            refine br_f (nI_ge hi (by omega)) ?_
            rw [jy_ix]
            refine ⟨vp_in_nI (by omega) (by omega), ?_⟩
            rw [cx, K.1 t i (by omega) (by omega)]
            exact br_f (ja_kn.mpr hc) q
          · intro n i hi hc hw
            have cx : (nI (t * 32 + i)).toNatClampNeg = t * 32 + i := nI_clamp (by omega)
            refine br_f (nI_ge hi (by omega)) ?_
            rw [jy_ix]
            refine ⟨vp_in_nI (by omega) (by omega), ?_⟩
            rw [cx, K.1 t i (by omega) (by omega)]
            exact br_t (Classical.byContradiction (fun y => hc (ja_kn.mp y))) (nm_r (nI_1 i) hw)
          · refine js_ex (fun n i => wY_setSub_67 P (nI t) (nI N) lim keep sta ff clk sub lv sp du fa st sa fi lf kd rc n (nI i)) (fun x => ja_E np op x t) N (P 0 (ja_Y N lim keep sub clk sta ff lv sp du fa st sa fi lf kd rc)) (P 1 (ja_Y N lim keep sub clk sta ff (upd lv t 1) sp du fa st sa fi lf kd rc)) ?_ ?_ ?_ (fun w => p0 (.inr w)) (fun w => p1 (fun y => y.elim z w))
            · intro q n
              exact br_t (nI_le (Nat.le_refl _) (by omega)) ⟨hit, nm_r (by rw [ct]) q⟩
            · intro q n i hi hc
              have cx : (nI (i * 32 + t)).toNatClampNeg = i * 32 + t := nI_clamp (by omega)
              refine br_f (nI_ge hi (by omega)) ?_
              rw [jy_ix]
              refine ⟨vp_in_nI (by omega) (by omega), ?_⟩
              rw [cx, K.1 i t (by omega) (by omega)]
              exact br_f (ja_kn.mpr hc) q
            · intro n i hi hc hw
              have cx : (nI (i * 32 + t)).toNatClampNeg = i * 32 + t := nI_clamp (by omega)
              refine br_f (nI_ge hi (by omega)) ?_
              rw [jy_ix]
              refine ⟨vp_in_nI (by omega) (by omega), ?_⟩
              rw [cx, K.1 i t (by omega) (by omega)]
              exact br_t (Classical.byContradiction (fun y => hc (ja_kn.mp y))) (nm_r (nI_1 i) hw)
        refine br_c (fun hl => ?_) (fun hl => ?_)
        · refine jx_prereqsOf (by omega) ?_
          by_cases hz : np t ||| op t = 0
          · have nrow : ¬ ∃ p, p < N ∧ ja_E np op t p := fun ⟨p, hp, z⟩ => by
              unfold ja_E at z
              rw [hz, b_0] at z
              exact absurd z (by decide)
            refine br_t hz (jx_isPrereqOfAny hN (by omega) (fun w => br_f ja_i1 (yy _ hl (fun _ => ⟨rfl, ja_mk J⟩) (fun y => absurd (.inr w) y))) (fun w => br_t rfl ⟨hit, nm_e (yy _ hl (fun y => absurd y (fun y => y.elim nrow w)) (fun _ => ⟨rfl, ja_mkT ?_ ?_ ?_⟩))⟩))
            · exact J
            · rw [ja_c0 (h0 hs).2]
            · rw [ja_c0 (h0 hs).2]
          · refine br_f hz (yy _ hl (fun _ => ⟨rfl, ja_mk J⟩) (fun y => ?_))
            exfalso
            apply hz
            rw [jb_z]
            intro i hi
            cases z : bt (np t ||| op t) i with
            | false => rfl
            | true => exact absurd (.inl ⟨i, K.2 t i (by omega) z, z⟩) y
        · refine br_t hs (jy_in_t hN ht (br_f ja_i1 (br_f hneg ⟨hit, ?_⟩)))
          rw [ct]
          exact br_f hl ⟨rfl, ja_mk J⟩
  · exact jx_open_f (.inl hs) (br_t rfl (br_f hs ⟨rfl, ja_mk J⟩))

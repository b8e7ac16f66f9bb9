-- p18: what the setup keeps
def jq_U (N : Nat) (sub : Int32) (lv sp fa np op : Nat → Int32) : Prop :=
  ja_S N sub ∧ (∀ i, ja_B (fa i)) ∧ (∀ t p, t < 32 → ja_E np op t p → p < N) ∧ jq_K N (ja_E np op) ∧
  (∀ t p, t < N → p < N → ja_E np op t p → (lv t = 1 ↔ lv p = 1)) ∧ (∀ t, t < N → sp t ≤ 7) ∧
  (∀ t, t < N → (lv t = 2 ↔ sub = nI t)) ∧ (∀ t, t < N → lv t = 1 → ∃ s, s < N ∧ sub = nI s)
theorem jq_UG {N : Nat} {sub : Int32} {lv sp fa np op : Nat → Int32} (hN : N ≤ 32) (U : jq_U N sub lv sp fa np op) : jq_G N sub lv sp np op :=
  ⟨hN, U.2.2.2.2.2.1, fun s hs e z => absurd (((U.2.2.2.2.2.2.1 s hs).mpr e).symm.trans z) (by decide), U.2.2.1⟩
theorem jq_Ee {np op : Nat → Int32} {t p x : Nat} {q : Nat} (ht : t < 32) (hp : p < 32) (h : ja_E (upd np t (np t ||| ((1 : Int32) <<< (nI p &&& 31)))) op x q) : ja_E np op x q ∨ (x = t ∧ q = p) := by
  unfold ja_E at h ⊢
  by_cases e : x = t
  · subst e
    have hb := jb_lt h
    rw [pk_us, b_or, jb_or1 _ hp hb] at h
    by_cases e2 : q = p
    · exact .inr ⟨rfl, e2⟩
    · rw [decide_eq_false e2, Bool.or_false, ← b_or] at h
      exact .inl h
  · rw [pk_un e] at h
    exact .inl h
theorem jq_Eo {np op : Nat → Int32} {t p x : Nat} {q : Nat} (ht : t < 32) (hp : p < 32) (h : ja_E np (upd op t (op t ||| ((1 : Int32) <<< (nI p &&& 31)))) x q) : ja_E np op x q ∨ (x = t ∧ q = p) := by
  unfold ja_E at h ⊢
  by_cases e : x = t
  · subst e
    have hb := jb_lt h
    rw [pk_us, b_or, jb_or1 _ hp hb] at h
    by_cases e2 : q = p
    · exact .inr ⟨rfl, e2⟩
    · rw [decide_eq_false e2, Bool.or_false, ← b_or] at h
      exact .inl h
  · rw [pk_un e] at h
    exact .inl h
/-- a new edge keeps it -/
theorem jq_Ua {N t p : Nat} {sub : Int32} {lv sp fa np op np' op' : Nat → Int32} {S : Nat → Bool} (hN : N ≤ 32) (U : jq_U N sub lv sp fa np op) (ht : t < N) (hp : p < N) (hl : lv t = 1 ↔ lv p = 1) (cl : jr_cl (ja_E np op) N (fun q => S q = true)) (hb : S p = true) (ha : ¬ S t = true) (w : ∀ x q, ja_E np' op' x q → ja_E np op x q ∨ (x = t ∧ q = p)) : jq_U N sub lv sp fa np' op' := by
  obtain ⟨u1, u2, u3, u4, u5, u6, u7, u8⟩ := U
  refine ⟨u1, u2, fun x q hx z => ?_, jq_Ka u4 cl hb ha (fun x q _ _ z => w x q z) hp, fun x q hx hq z => ?_, u6, u7, u8⟩
  · rcases w x q z with y | y
    · exact u3 x q hx y
    · rw [y.2]; exact hp
  · rcases w x q z with y | y
    · exact u5 x q hx hq y
    · rw [y.1, y.2]; exact hl
def jv_b (lv : Nat → Int32) (t : Nat) : Int32 := if lv t = 1 then 1 else 0
theorem jv_e {lv : Nat → Int32} {t p : Nat} (h : jv_b lv t = jv_b lv p) : lv t = 1 ↔ lv p = 1 := by
  unfold jv_b at h
  by_cases a : lv t = 1
  · by_cases b : lv p = 1
    · exact ⟨fun _ => b, fun _ => a⟩
    · rw [if_pos a, if_neg b] at h
      exact absurd h (by decide)
  · by_cases b : lv p = 1
    · rw [if_neg a, if_pos b] at h
      exact absurd h (by decide)
    · exact ⟨fun z => absurd z a, fun z => absurd z b⟩
variable {N : Nat} {lim keep sub clk ff rt rs : Int32} {lv sp du fa np op st sa fi re : Nat → Int32}
theorem jv_X {sta : Int32} {post : Int32 → Prop} {t : Nat} (ht : t < 32) (hp : post (jv_b lv t)) : wpX_isSub post (ja_T N lim keep sub clk sta ff rt rs lv sp du fa np op st sa fi re) (nI t) :=
  jx_isSub ht (fun h => by unfold jv_b at hp; rw [if_pos h] at hp; exact hp) (fun h => by unfold jv_b at hp; rw [if_neg h] at hp; exact hp)
theorem jp_add {t p : Nat} {b : Int32} (hN : N ≤ 32) (U : jq_U N sub lv sp fa np op) (ht : t < N) (hp : p < N) : ∃ r np' op', jq_U N sub lv sp fa np' op' ∧ ∀ post : Int32 → St2 → Prop, post r (ja_T N lim keep sub clk 0 ff rt rs lv sp du fa np' op' st sa fi re) → wpX_addPrereq post (ja_T N lim keep sub clk 0 ff rt rs lv sp du fa np op st sa fi re) (nI t) (nI p) b := by
  by_cases e : nI t = nI p
  · refine ⟨0, np, op, U, fun post z => ?_⟩
    unfold wpX_addPrereq
    dsimp only
    refine jx_open_t hN rfl ht (br_f ja_i1 ?_)
    refine jx_isTarget_t hN hp (br_f ja_i1 ?_)
    exact br_t e z
  · by_cases el : jv_b lv t = jv_b lv p
    · by_cases hE : ja_E np op t p
      · refine ⟨0, np, op, U, fun post z => ?_⟩
        unfold wpX_addPrereq
        dsimp only
        refine jx_open_t hN rfl ht (br_f ja_i1 ?_)
        refine jx_isTarget_t hN hp (br_f ja_i1 ?_)
        refine br_f e (jv_X (by omega) (jv_X (by omega) ?_))
        exact br_t el (jx_isPrereq (by omega) (by omega) (fun _ => br_f ja_i1 z) (fun y => absurd hE y))
      · obtain ⟨S, d1, d2, d3⟩ := jx_isReachable (lim := lim) (keep := keep) (sub := sub) (clk := clk) (sta := 0) (ff := ff) (rt := rt) (rs := rs) (lv := lv) (sp := sp) (du := du) (fa := fa) (st := st) (sa := sa) (fi := fi) (re := re) hN U.2.2.1 hp ht
        have hit : vp_in (nI t) 32 := vp_in_nI (by omega) (by omega)
        have ct : (nI t).toNatClampNeg = t := nI_clamp (by omega)
        have walk : ∀ post : Int32 → St2 → Prop, (S t = true → post 0 (ja_T N lim keep sub clk 0 ff rt rs lv sp du fa np op st sa fi re)) → (¬ S t = true → (b = 0 → post 1 (ja_T N lim keep sub clk 0 ff rt rs lv sp du fa (upd np t (np t ||| ((1 : Int32) <<< (nI p &&& 31)))) op st sa fi re)) ∧ (¬ b = 0 → post 1 (ja_T N lim keep sub clk 0 ff rt rs lv sp du fa np (upd op t (op t ||| ((1 : Int32) <<< (nI p &&& 31)))) st sa fi re))) → wpX_addPrereq post (ja_T N lim keep sub clk 0 ff rt rs lv sp du fa np op st sa fi re) (nI t) (nI p) b := by
          intro post p0 p1
          unfold wpX_addPrereq
          dsimp only
          refine jx_open_t hN rfl ht (br_f ja_i1 ?_)
          refine jx_isTarget_t hN hp (br_f ja_i1 ?_)
          refine br_f e (jv_X (by omega) (jv_X (by omega) ?_))
          refine br_t el (jx_isPrereq (by omega) (by omega) (fun y => absurd y hE) (fun _ => br_t rfl ?_))
          refine d3 _ (fun y => br_f ja_i1 (p0 y)) (fun y => br_t rfl ?_)
          exact br_c (fun z => ⟨hit, hit, nm_r (by rw [ct]) ((p1 y).1 z)⟩) (fun z => ⟨hit, hit, nm_r (by rw [ct]) ((p1 y).2 z)⟩)
        by_cases hr : S t = true
        · exact ⟨0, np, op, U, fun post z => walk post (fun _ => z) (fun y => absurd hr y)⟩
        · have hSp : S p = true := d1.1 p (decide_eq_true rfl)
          by_cases hb : b = 0
          · exact ⟨1, _, op, jq_Ua hN U ht hp (jv_e el) d2 hSp hr (fun x q z => jq_Ee (by omega) (by omega) z), fun post z => walk post (fun y => absurd y hr) (fun _ => ⟨fun _ => z, fun y => absurd hb y⟩)⟩
          · exact ⟨1, np, _, jq_Ua hN U ht hp (jv_e el) d2 hSp hr (fun x q z => jq_Eo (by omega) (by omega) z), fun post z => walk post (fun y => absurd y hr) (fun _ => ⟨fun y => absurd y hb, fun _ => z⟩)⟩
    · refine ⟨0, np, op, U, fun post z => ?_⟩
      unfold wpX_addPrereq
      dsimp only
      refine jx_open_t hN rfl ht (br_f ja_i1 ?_)
      refine jx_isTarget_t hN hp (br_f ja_i1 ?_)
      refine br_f e (jv_X (by omega) (jv_X (by omega) ?_))
      exact br_f el z
theorem jp_time {t x : Nat} (hN : N ≤ 32) (U : jq_U N sub lv sp fa np op) (ht : t < N) (hx : x ≤ 7) : ∃ r sp', jq_U N sub lv sp' fa np op ∧ ∀ post : Int32 → St2 → Prop, post r (ja_T N lim keep sub clk 0 ff rt rs lv sp' du fa np op st sa fi re) → wpX_setTime post (ja_T N lim keep sub clk 0 ff rt rs lv sp du fa np op st sa fi re) (nI t) (nI x) := by
  have hit : vp_in (nI t) 32 := vp_in_nI (by omega) (by omega)
  have ct : (nI t).toNatClampNeg = t := nI_clamp (by omega)
  obtain ⟨u1, u2, u3, u4, u5, u6, u7, u8⟩ := U
  refine ⟨1, upd sp t (nI x), ⟨u1, u2, u3, u4, u5, fun y hy => ?_, u7, u8⟩, fun post z => ?_⟩
  · by_cases e : y = t
    · subst e
      rw [pk_us]
      exact nI_le (b := 7) hx (by omega)
    · rw [pk_un e]
      exact u6 y hy
  · unfold wpX_setTime
    dsimp only
    refine jx_open_t hN rfl ht (br_f ja_i1 ?_)
    exact br_f (nI_pos (by omega)) (br_t (nI_le (b := 1000000) (by omega) (by omega)) ⟨hit, nm_r (by rw [ct]) z⟩)
theorem jp_cmd {t x : Nat} {b : Int32} (hN : N ≤ 32) (U : jq_U N sub lv sp fa np op) (ht : t < N) (hx : 1 ≤ x) (hx2 : x ≤ 15) (hb : ja_B b) : ∃ r, jq_U N sub lv sp (upd fa t b) np op ∧ ∀ post : Int32 → St2 → Prop, post r (ja_T N lim keep sub clk 0 ff rt rs lv sp (upd du t (nI x)) (upd fa t b) np op st sa fi re) → wpX_setCommand post (ja_T N lim keep sub clk 0 ff rt rs lv sp du fa np op st sa fi re) (nI t) (nI x) b := by
  have hit : vp_in (nI t) 32 := vp_in_nI (by omega) (by omega)
  have ct : (nI t).toNatClampNeg = t := nI_clamp (by omega)
  obtain ⟨u1, u2, u3, u4, u5, u6, u7, u8⟩ := U
  refine ⟨1, ⟨u1, fun y => ?_, u3, u4, u5, u6, u7, u8⟩, fun post z => ?_⟩
  · by_cases e : y = t
    · subst e
      rw [pk_us]
      exact hb
    · rw [pk_un e]
      exact u2 y
  · unfold wpX_setCommand
    dsimp only
    refine jx_open_t hN rfl ht (br_f ja_i1 ?_)
    exact br_f (nI_nlt (b := 1) hx (by omega)) (br_t (nI_le (b := 15) (by omega) (by omega)) ⟨hit, nm_r (by rw [ct]) ⟨hit, nm_r (by rw [ct, ja_Bv hb]) z⟩⟩)
theorem jp_smk {t : Nat} (hN : N ≤ 32) (U : jq_U N sub lv sp fa np op) (ht : t < N) : ∃ r sub' lv', jq_U N sub' lv' sp fa np op ∧ ∀ post : Int32 → St2 → Prop, post r (ja_T N lim keep sub' clk 0 ff rt rs lv' sp du fa np op st sa fi re) → wpX_setSubmake post (ja_T N lim keep sub clk 0 ff rt rs lv sp du fa np op st sa fi re) (nI t) := by
  have hit : vp_in (nI t) 32 := vp_in_nI (by omega) (by omega)
  have ct : (nI t).toNatClampNeg = t := nI_clamp (by omega)
  have U' := U
  obtain ⟨u1, u2, u3, u4, u5, u6, u7, u8⟩ := U
  rcases ja_sub_in u1 hN with ⟨e, hno, _⟩ | ⟨s, hsN, e, hm, _⟩
  · have n1 : ∀ x, x < N → ¬ lv x = 1 := fun x hx z => by
      obtain ⟨s, hs, e'⟩ := u8 x hx z
      exact hno s (by omega) e'.symm
    have n2 : ∀ x, x < N → ¬ lv x = 2 := fun x hx z => hno x (by omega) ((u7 x hx).mp z).symm
    have n1' : ∀ x, x < N → ¬ upd lv t 2 x = 1 := fun x hx => by
      by_cases y : x = t
      · subst y
        rw [pk_us]
        decide
      · rw [pk_un y]
        exact n1 x hx
    refine ⟨1, nI t, upd lv t 2, ⟨.inr ⟨t, ht, rfl⟩, u2, u3, u4, fun x q hx hq _ => ⟨fun z => absurd z (n1' x hx), fun z => absurd z (n1' q hq)⟩, u6, fun x hx => ?_, fun x hx z => absurd z (n1' x hx)⟩, fun post z => ?_⟩
    · by_cases y : x = t
      · subst y
        rw [pk_us]
        exact ⟨fun _ => rfl, fun _ => rfl⟩
      · rw [pk_un y, nI_eq (by omega) (by omega)]
        exact ⟨fun z => absurd z (n2 x hx), fun z => absurd z.symm y⟩
    · unfold wpX_setSubmake
      dsimp only
      refine jx_open_t hN rfl ht (br_f ja_i1 ?_)
      exact br_t e ⟨hit, nm_r (by rw [ct]) z⟩
  · refine ⟨0, sub, lv, U', fun post z => ?_⟩
    unfold wpX_setSubmake
    dsimp only
    refine jx_open_t hN rfl ht (br_f ja_i1 ?_)
    exact br_f hm z
theorem jp_sub {t : Nat} (hN : N ≤ 32) (U : jq_U N sub lv sp fa np op) (ht : t < N) : ∃ r lv', jq_U N sub lv' sp fa np op ∧ ∀ post : Int32 → St2 → Prop, post r (ja_T N lim keep sub clk 0 ff rt rs lv' sp du fa np op st sa fi re) → wpX_setSub post (ja_T N lim keep sub clk 0 ff rt rs lv sp du fa np op st sa fi re) (nI t) := by
  have hit : vp_in (nI t) 32 := vp_in_nI (by omega) (by omega)
  have ct : (nI t).toNatClampNeg = t := nI_clamp (by omega)
  have U' := U
  obtain ⟨u1, u2, u3, u4, u5, u6, u7, u8⟩ := U
  rcases ja_sub_in u1 hN with ⟨e, hno, _⟩ | ⟨s, hsN, e, hm, _⟩
  · refine ⟨0, lv, U', fun post z => ?_⟩
    unfold wpX_setSub
    dsimp only
    refine jx_open_t hN rfl ht (br_f ja_i1 ?_)
    exact br_t e z
  · by_cases h0 : lv t = 0
    · by_cases hz : np t ||| op t = 0
      · by_cases hc : ∃ x, x < N ∧ ja_E np op x t
        · refine ⟨0, lv, U', fun post z => ?_⟩
          unfold wpX_setSub
          dsimp only
          refine jx_open_t hN rfl ht (br_f ja_i1 ?_)
          refine br_f hm ⟨hit, ?_⟩
          rw [ct]
          refine br_t h0 (jx_prereqsOf (by omega) ?_)
          exact br_t hz (jx_isPrereqOfAny hN (by omega) (fun _ => br_f ja_i1 z) (fun y => absurd hc y))
        · have ne : ∀ x q, x < N → q < N → ja_E np op x q → x ≠ t ∧ q ≠ t := fun x q hx hq z => by
            refine ⟨fun y => ?_, fun y => ?_⟩
            · subst y
              unfold ja_E at z
              rw [hz, b_0] at z
              exact absurd z (by decide)
            · subst y
              exact hc ⟨x, hx, z⟩
          refine ⟨1, upd lv t 1, ⟨u1, u2, u3, u4, fun x q hx hq z => ?_, u6, fun x hx => ?_, fun x hx _ => ⟨s, hsN, e⟩⟩, fun post z => ?_⟩
          · rw [pk_un (ne x q hx hq z).1, pk_un (ne x q hx hq z).2]
            exact u5 x q hx hq z
          · by_cases y : x = t
            · subst y
              rw [pk_us]
              refine ⟨fun z => absurd z (by decide), fun z => ?_⟩
              rw [(u7 x hx).mpr z] at h0
              exact absurd h0 (by decide)
            · rw [pk_un y]
              exact u7 x hx
          · unfold wpX_setSub
            dsimp only
            refine jx_open_t hN rfl ht (br_f ja_i1 ?_)
            refine br_f hm ⟨hit, ?_⟩
            rw [ct]
            refine br_t h0 (jx_prereqsOf (by omega) ?_)
            exact br_t hz (jx_isPrereqOfAny hN (by omega) (fun y => absurd y hc) (fun _ => br_t rfl ⟨hit, nm_e z⟩))
      · refine ⟨0, lv, U', fun post z => ?_⟩
        unfold wpX_setSub
        dsimp only
        refine jx_open_t hN rfl ht (br_f ja_i1 ?_)
        refine br_f hm ⟨hit, ?_⟩
        rw [ct]
        refine br_t h0 (jx_prereqsOf (by omega) ?_)
        exact br_f hz z
    · refine ⟨0, lv, U', fun post z => ?_⟩
      unfold wpX_setSub
      dsimp only
      refine jx_open_t hN rfl ht (br_f ja_i1 ?_)
      refine br_f hm ⟨hit, ?_⟩
      rw [ct]
      exact br_f h0 z

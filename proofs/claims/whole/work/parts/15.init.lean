-- the constructors
theorem ja_01 : ¬ (0 : Int32) = 1 := by decide
def jz_f (x : Int32) (i : Nat) : Nat → Int32 := fun j => if j < i then x else 0
theorem jz_0 (x : Int32) : jz_f x 0 = fun _ => 0 := by
  funext j
  exact if_neg (by omega)
theorem jz_s (x : Int32) (i : Nat) : upd (jz_f x i) i x = jz_f x (i + 1) := by
  funext j
  unfold jz_f
  by_cases e : j = i
  · subst e
    rw [pk_us, if_pos (by omega)]
  · rw [pk_un e]
    by_cases h : j < i
    · rw [if_pos h, if_pos (by omega)]
    · rw [if_neg h, if_neg (by omega)]
theorem jz_u (i : Nat) : upd (fun _ => 0) i 0 = fun _ => 0 := ja_u0 rfl
theorem jz_X {r1 r2 kp : Int32} (post : SX → Prop) : ∀ d i, i + d = 32 → ∀ f, wX_init_152 post r1 r2 kp (-1) 0 0 0 0 0 f (nI 32) (fun _ => 0) (fun _ => 0) (jz_f 1 32) (fun _ => 0) (fun _ => 0) (fun _ => 0) (fun _ => 0) (jz_f (-1) 32) (jz_f (-1) 32) (fun _ => 0) → wX_init_152 post r1 r2 kp (-1) 0 0 0 0 0 (f + d) (nI i) (fun _ => 0) (fun _ => 0) (jz_f 1 i) (fun _ => 0) (fun _ => 0) (fun _ => 0) (fun _ => 0) (jz_f (-1) i) (jz_f (-1) i) (fun _ => 0) := by
  intro d
  induction d with
  | zero =>
    intro i hi f z
    have e : i = 32 := by omega
    subst e
    exact z
  | succ d ih =>
    intro i hi f z
    have hin : vp_in (nI i) 32 := vp_in_nI (by omega) (by omega)
    have hcl : (nI i).toNatClampNeg = i := nI_clamp (by omega)
    refine br_f (nI_ge (b := 32) (by omega) (by omega)) ⟨hin, nm_r (by rw [hcl, jz_u]) ⟨hin, nm_r (by rw [hcl, jz_s]) ⟨hin, nm_r (by rw [hcl, jz_u]) ⟨hin, nm_r (by rw [hcl, jz_s]) ⟨hin, nm_r (by rw [hcl, jz_s]) (nm_r (nI_1 i) ?_)⟩⟩⟩⟩⟩
    exact ih (i + 1) (by omega) f z
theorem jz_Y {r1 r2 kp : Int32} (post : SY → Prop) : ∀ d i, i + d = 32 → ∀ f, wY_init_165 post r1 r2 kp 0 0 0 (-1) f (nI 32) (fun _ => 0) (fun _ => 0) (jz_f 1 32) (fun _ => 0) (fun _ => 0) (jz_f (-1) 32) (jz_f (-1) 32) (fun _ => 0) (fun _ => 0) (fun _ => 0) → wY_init_165 post r1 r2 kp 0 0 0 (-1) (f + d) (nI i) (fun _ => 0) (fun _ => 0) (jz_f 1 i) (fun _ => 0) (fun _ => 0) (jz_f (-1) i) (jz_f (-1) i) (fun _ => 0) (fun _ => 0) (fun _ => 0) := by
  intro d
  induction d with
  | zero =>
    intro i hi f z
    have e : i = 32 := by omega
    subst e
    exact z
  | succ d ih =>
    intro i hi f z
    have hin : vp_in (nI i) 32 := vp_in_nI (by omega) (by omega)
    have hcl : (nI i).toNatClampNeg = i := nI_clamp (by omega)
    refine br_f (nI_ge (b := 32) (by omega) (by omega)) ⟨hin, nm_r (by rw [hcl, jz_s]) ⟨hin, nm_r (by rw [hcl, jz_s]) ⟨hin, nm_r (by rw [hcl, jz_s]) (nm_r (nI_1 i) ?_)⟩⟩⟩
    exact ih (i + 1) (by omega) f z
theorem jz_cl (lo hi x : Int32) : ∃ r : Int32, (r = lo ∨ r = hi ∨ (r = x ∧ lo ≤ x ∧ x ≤ hi)) ∧ ∀ Q : Int32 → Prop, Q r → ((lo ≤ x → ((x ≤ hi → Q x) ∧ (¬ x ≤ hi → Q hi))) ∧ (¬ lo ≤ x → Q lo)) := by
  by_cases h : lo ≤ x
  · by_cases h2 : x ≤ hi
    · exact ⟨x, .inr (.inr ⟨rfl, h, h2⟩), fun Q q => br_t h (br_t h2 q)⟩
    · exact ⟨hi, .inr (.inl rfl), fun Q q => br_t h (br_f h2 q)⟩
  · exact ⟨lo, .inl rfl, fun Q q => br_f h q⟩
theorem jz_N {x r : Int32} (h : r = 1 ∨ r = 32 ∨ (r = x ∧ 1 ≤ x ∧ x ≤ 32)) : ∃ N, 1 ≤ N ∧ N ≤ 32 ∧ r = nI N := by
  rcases h with h | h | ⟨h, h1, h2⟩
  · exact ⟨1, by omega, by omega, h⟩
  · exact ⟨32, by omega, by omega, h⟩
  · subst h
    have h0 : ¬ r < 0 := Int32.not_lt.mpr (Int32.le_trans (by decide) h1)
    obtain ⟨j, hj, e⟩ := nI_of h0
    subst e
    have a : nI 1 ≤ nI j := h1
    have b : nI j ≤ nI 32 := h2
    rw [nI_leI (by omega) (by omega)] at a
    rw [nI_leI (by omega) (by omega)] at b
    exact ⟨j, a, b, rfl⟩
theorem jz_k (x : Int32) : ∃ kp : Int32, ja_B kp ∧ (∀ Q : Int32 → Prop, Q kp → ((x ≤ 0 → Q 0) ∧ (¬ x ≤ 0 → Q 1))) ∧ (∀ Q : Int32 → Prop, Q kp → ((0 ≤ x → ((x ≤ 1 → Q x) ∧ (¬ x ≤ 1 → Q 1))) ∧ (¬ 0 ≤ x → Q 0))) := by
  have t0 : (0 : Int32).toInt = 0 := by decide
  have t1 : (1 : Int32).toInt = 1 := by decide
  by_cases h : x ≤ 0
  · refine ⟨0, ja_B0, fun Q q => br_t h q, fun Q q => br_c (fun h2 => ?_) (fun _ => q)⟩
    have e : x = 0 := Int32.le_antisymm h h2
    subst e
    exact br_t (by decide) q
  · refine ⟨1, ja_B1, fun Q q => br_f h q, fun Q q => br_c (fun h2 => br_c (fun h3 => ?_) (fun _ => q)) (fun h2 => ?_)⟩
    · have e : x = 1 := by
        apply Int32.toInt_inj.mp
        rw [Int32.le_iff_toInt_le] at h h2 h3
        omega
      subst e
      exact q
    · rw [Int32.le_iff_toInt_le] at h h2
      omega
theorem i_vc0 (k0 : Int32) (k1 : Int32) (k2 : Int32) : wpX_init (fun u => wpY_init (fun v => i_Rel 3 u v) k0 k1 k2) k0 k1 k2 := by
  obtain ⟨r1, h1, q1⟩ := jz_cl 1 32 k0
  obtain ⟨r2, h2, q2⟩ := jz_cl 1 8 k1
  obtain ⟨kp, hk, q3, q4⟩ := jz_k k2
  obtain ⟨N, hN1, hN, e⟩ := jz_N h1
  subst e
  have hr : i_Rel 3 (ja_T N r2 kp (-1) 0 0 0 0 0 (fun _ => 0) (fun _ => 0) (jz_f 1 32) (fun _ => 0) (fun _ => 0) (fun _ => 0) (fun _ => 0) (jz_f (-1) 32) (jz_f (-1) 32) (fun _ => 0)) (ja_Y N r2 kp (-1) 0 0 0 (fun _ => 0) (fun _ => 0) (jz_f 1 32) (fun _ => 0) (fun _ => 0) (jz_f (-1) 32) (jz_f (-1) 32) (fun _ => 0) (fun _ => 0) (fun _ => 0)) := by
    have c : ∀ b, jc_n (ja_r (fun _ => 0) (fun _ => 0) b) N = 0 := fun b => by
      have z : ∀ n, jc_n (fun _ => false) n = 0 := fun n => by
        induction n with
        | zero => rfl
        | succ n ih => rw [jc_sf rfl, ih]
      rw [← z N]
      exact jc_cg N (fun i _ => ja_r_n ja_01)
    refine ja_mkT ⟨hN1, hN, fun _ => ⟨rfl, fun _ => ja_01⟩, hk, ja_B0, ja_B0, .inl rfl, fun _ => ja_B0, ja_K0 N, fun _ _ _ => rfl⟩ ?_ ?_
    · rw [c]
      rfl
    · rw [c]
      rfl
  have hx : nI 32 ≤ nI 32 := nI_le (Nat.le_refl _) (by omega)
  have yy : wpY_init (fun v => i_Rel 3 (ja_T N r2 kp (-1) 0 0 0 0 0 (fun _ => 0) (fun _ => 0) (jz_f 1 32) (fun _ => 0) (fun _ => 0) (fun _ => 0) (fun _ => 0) (jz_f (-1) 32) (jz_f (-1) 32) (fun _ => 0)) v) k0 k1 k2 := by
    have lp : ∃ n165 : Nat, wY_init_165 (fun v => i_Rel 3 (ja_T N r2 kp (-1) 0 0 0 0 0 (fun _ => 0) (fun _ => 0) (jz_f 1 32) (fun _ => 0) (fun _ => 0) (fun _ => 0) (fun _ => 0) (jz_f (-1) 32) (jz_f (-1) 32) (fun _ => 0)) v) (nI N) r2 kp 0 0 0 (-1) n165 0 (fun _ => 0) (fun _ => 0) (fun _ => 0) (fun _ => 0) (fun _ => 0) (fun _ => 0) (fun _ => 0) (fun _ => 0) (fun _ => 0) (fun _ => 0) := by
      have z := jz_Y (r1 := nI N) (r2 := r2) (kp := kp) (fun v => i_Rel 3 (ja_T N r2 kp (-1) 0 0 0 0 0 (fun _ => 0) (fun _ => 0) (jz_f 1 32) (fun _ => 0) (fun _ => 0) (fun _ => 0) (fun _ => 0) (jz_f (-1) 32) (jz_f (-1) 32) (fun _ => 0)) v) 32 0 rfl 1 (br_t hx hr)
      rw [jz_0, jz_0] at z
      exact ⟨_, z⟩
    refine q1 (fun r => wY_init_112 (fun v => i_Rel 3 (ja_T N r2 kp (-1) 0 0 0 0 0 (fun _ => 0) (fun _ => 0) (jz_f 1 32) (fun _ => 0) (fun _ => 0) (fun _ => 0) (fun _ => 0) (jz_f (-1) 32) (jz_f (-1) 32) (fun _ => 0)) v) k1 k2 r 0 0 0 0 0 0 (-1) (fun _ => 0) (fun _ => 0) (fun _ => 0) (fun _ => 0) (fun _ => 0) (fun _ => 0) (fun _ => 0) (fun _ => 0) (fun _ => 0) (fun _ => 0)) ?_
    refine q2 (fun r => wY_init_137 (fun v => i_Rel 3 (ja_T N r2 kp (-1) 0 0 0 0 0 (fun _ => 0) (fun _ => 0) (jz_f 1 32) (fun _ => 0) (fun _ => 0) (fun _ => 0) (fun _ => 0) (jz_f (-1) 32) (jz_f (-1) 32) (fun _ => 0)) v) k2 r (nI N) 0 0 0 0 0 (-1) (fun _ => 0) (fun _ => 0) (fun _ => 0) (fun _ => 0) (fun _ => 0) (fun _ => 0) (fun _ => 0) (fun _ => 0) (fun _ => 0) (fun _ => 0)) ?_
    exact q4 (fun r => ∃ n165 : Nat, wY_init_165 (fun v => i_Rel 3 (ja_T N r2 kp (-1) 0 0 0 0 0 (fun _ => 0) (fun _ => 0) (jz_f 1 32) (fun _ => 0) (fun _ => 0) (fun _ => 0) (fun _ => 0) (jz_f (-1) 32) (jz_f (-1) 32) (fun _ => 0)) v) (nI N) r2 r 0 0 0 (-1) n165 0 (fun _ => 0) (fun _ => 0) (fun _ => 0) (fun _ => 0) (fun _ => 0) (fun _ => 0) (fun _ => 0) (fun _ => 0) (fun _ => 0) (fun _ => 0)) lp
  have lpx : ∃ n152 : Nat, wX_init_152 (fun u => wpY_init (fun v => i_Rel 3 u v) k0 k1 k2) (nI N) r2 kp (-1) 0 0 0 0 0 n152 0 (fun _ => 0) (fun _ => 0) (fun _ => 0) (fun _ => 0) (fun _ => 0) (fun _ => 0) (fun _ => 0) (fun _ => 0) (fun _ => 0) (fun _ => 0) := by
    have z := jz_X (r1 := nI N) (r2 := r2) (kp := kp) (fun u => wpY_init (fun v => i_Rel 3 u v) k0 k1 k2) 32 0 rfl 1 (br_t hx yy)
    rw [jz_0, jz_0] at z
    exact ⟨_, z⟩
  refine q1 (fun r => wpX_clamp (fun r2 => (k2 ≤ 0 → ∃ n152 : Nat, wX_init_152 (fun u => wpY_init (fun v => i_Rel 3 u v) k0 k1 k2) r r2 0 (-1) 0 0 0 0 0 n152 0 (fun _ => 0) (fun _ => 0) (fun _ => 0) (fun _ => 0) (fun _ => 0) (fun _ => 0) (fun _ => 0) (fun _ => 0) (fun _ => 0) (fun _ => 0)) ∧ (¬ k2 ≤ 0 → ∃ n152 : Nat, wX_init_152 (fun u => wpY_init (fun v => i_Rel 3 u v) k0 k1 k2) r r2 1 (-1) 0 0 0 0 0 n152 0 (fun _ => 0) (fun _ => 0) (fun _ => 0) (fun _ => 0) (fun _ => 0) (fun _ => 0) (fun _ => 0) (fun _ => 0) (fun _ => 0) (fun _ => 0))) k1 1 8) ?_
  refine q2 (fun r2 => (k2 ≤ 0 → ∃ n152 : Nat, wX_init_152 (fun u => wpY_init (fun v => i_Rel 3 u v) k0 k1 k2) (nI N) r2 0 (-1) 0 0 0 0 0 n152 0 (fun _ => 0) (fun _ => 0) (fun _ => 0) (fun _ => 0) (fun _ => 0) (fun _ => 0) (fun _ => 0) (fun _ => 0) (fun _ => 0) (fun _ => 0)) ∧ (¬ k2 ≤ 0 → ∃ n152 : Nat, wX_init_152 (fun u => wpY_init (fun v => i_Rel 3 u v) k0 k1 k2) (nI N) r2 1 (-1) 0 0 0 0 0 n152 0 (fun _ => 0) (fun _ => 0) (fun _ => 0) (fun _ => 0) (fun _ => 0) (fun _ => 0) (fun _ => 0) (fun _ => 0) (fun _ => 0) (fun _ => 0))) ?_
  exact q3 (fun r => ∃ n152 : Nat, wX_init_152 (fun u => wpY_init (fun v => i_Rel 3 u v) k0 k1 k2) (nI N) r2 r (-1) 0 0 0 0 0 n152 0 (fun _ => 0) (fun _ => 0) (fun _ => 0) (fun _ => 0) (fun _ => 0) (fun _ => 0) (fun _ => 0) (fun _ => 0) (fun _ => 0) (fun _ => 0)) lpx

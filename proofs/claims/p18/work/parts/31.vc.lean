-- p18: the owed statement
theorem i_vc (xs : Nat → Int32) (L : Nat) (hL : L ≤ 260) : wpL_law (fun r => r = 1) L xs := by
  unfold wpL_law
  refine jl_cell 0 (by omega) hL rfl (fun v0 => ?_)
  obtain ⟨j0, h0, e0⟩ := pk_andE v0 (m := 15) 4 (by decide)
  refine nm_r (e' := nI (1 + j0)) (by rw [e0, show (1 : Int32) = nI 1 from rfl, nI_add]) ?_
  refine jl_cell 1 (by omega) hL rfl (fun v1 => ?_)
  obtain ⟨j1, h1, e1⟩ := pk_andE v1 (m := 7) 3 (by decide)
  refine nm_r (e' := nI (1 + j1)) (by rw [e1, show (1 : Int32) = nI 1 from rfl, nI_add]) ?_
  refine ⟨10, 320, by omega, by omega, ?_⟩
  refine jp_init (by omega) (by omega) (by omega) (by omega) _ ⟨by decide, fun x4 _ => ?_⟩
  have go : ∀ k, k ≤ 60 → ∃ n, wL_law_63 (fun r => r = 1) L xs (nI (1 + j0)) (nI (1 + j1)) (nI k) (1 + 10) (19 + 320) n 0 (nI (1 + j0)) (nI (1 + j1)) 1 (-1) 0 0 0 0 0 (fun _ => 0) (fun _ => 0) (jz_f 1 32) (fun _ => 0) (fun _ => 0) (fun _ => 0) (fun _ => 0) (jz_f (-1) 32) (jz_f (-1) 32) (fun _ => 0) := fun k hk => jl_law (by omega) (by omega) (by omega) (by omega) hk hL rfl
  refine br_c (fun hx => ?_) (fun _ => br_t (by decide) (go 0 (by omega)))
  obtain ⟨k, hk, e⟩ := nI_of (Int32.not_lt.mpr hx)
  subst e
  refine br_c (fun h6 => go k ?_) (fun _ => go 60 (by omega))
  have h6' : nI k ≤ nI 60 := h6
  rw [nI_leI hk (by omega)] at h6'
  exact h6'

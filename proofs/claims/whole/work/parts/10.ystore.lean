-- the reference's finish and rule
variable {N : Nat} {lim keep sub clk sta ff : Int32} {lv sp du fa np op st sa fi lf kd rc : Nat → Int32}
theorem jy_finish {post : SY → Prop} {t : Nat} {s c : Int32} (ht : t < 32) (h : post (ja_Y N lim keep sub clk sta ff lv sp du fa (upd st t s) sa (upd fi t c) lf kd rc)) : wpY_finish post (ja_Y N lim keep sub clk sta ff lv sp du fa st sa fi lf kd rc) (nI t) s c := by
  refine ⟨vp_in_nI ht (by omega), nm_r (by rw [nI_clamp (by omega)]) ⟨vp_in_nI ht (by omega), nm_r (by rw [nI_clamp (by omega)]) ?_⟩⟩
  exact h

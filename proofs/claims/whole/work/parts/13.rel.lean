-- the relation
def i_Rel (k : Nat) (u : SX) (v : SY) : Prop :=
  ∃ (N : Nat) (lim keep sub clk sta ff : Int32) (lv sp du fa np op st sa fi re lf kd rc : Nat → Int32), u = (ja_X N lim keep sub clk sta ff lv sp du fa np op st sa fi re) ∧ v = (ja_Y N lim keep sub clk sta ff lv sp du fa st sa fi lf kd rc) ∧ ja_I N keep sub clk sta ff fa np op st re lf kd
theorem i_up {k : Nat} {u : SX} {v : SY} (h : i_Rel k u v) : i_Rel (k + 4) u v := h
theorem ja_mk {k N : Nat} {lim keep sub clk sta ff : Int32} {lv sp du fa np op st sa fi re lf kd rc : Nat → Int32} (h : ja_I N keep sub clk sta ff fa np op st re lf kd) : i_Rel k (ja_X N lim keep sub clk sta ff lv sp du fa np op st sa fi re) (ja_Y N lim keep sub clk sta ff lv sp du fa st sa fi lf kd rc) :=
  ⟨N, lim, keep, sub, clk, sta, ff, lv, sp, du, fa, np, op, st, sa, fi, re, lf, kd, rc, rfl, rfl, h⟩
theorem ja_mkT {k N : Nat} {lim keep sub clk sta ff rt rs : Int32} {lv sp du fa np op st sa fi re lf kd rc : Nat → Int32} (h : ja_I N keep sub clk sta ff fa np op st re lf kd) (e0 : rt = nI (jc_n (ja_r st lv false) N)) (e1 : rs = nI (jc_n (ja_r st lv true) N)) : i_Rel k (ja_T N lim keep sub clk sta ff rt rs lv sp du fa np op st sa fi re) (ja_Y N lim keep sub clk sta ff lv sp du fa st sa fi lf kd rc) := by
  subst e0 e1
  exact ja_mk h
theorem ja_tg (N : Nat) (hN : N ≤ 32) (v : Int32) : (v < 0 ∨ nI N ≤ v) ∨ ∃ j, j < N ∧ v = nI j := by
  rcases pk_ix v (n := N) (by omega) with h | h | h
  · exact .inl (.inl h)
  · exact .inl (.inr h)
  · exact .inr h

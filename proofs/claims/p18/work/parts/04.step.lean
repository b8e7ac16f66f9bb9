-- what the class asks of a state, as propositions; one target's step in SETTLE
def ja_si (N : Nat) (sub : Int32) (st : Nat → Int32) (w : Int32) : Prop := ∃ s, s < N ∧ sub = nI s ∧ st s = w
def ja_bad (st : Nat → Int32) (p : Nat) : Prop := st p = 4 ∨ st p = 5
def ja_und (st : Nat → Int32) (p : Nat) : Prop := st p = 0 ∨ st p = 1
def ja_hb (N : Nat) (np op st : Nat → Int32) (t : Nat) : Prop := ∃ p, p < N ∧ ja_E np op t p ∧ ja_bad st p
def ja_hu (N : Nat) (np op st : Nat → Int32) (t : Nat) : Prop := ∃ p, p < N ∧ ja_E np op t p ∧ ja_und st p
def ja_sl (N : Nat) (sub : Int32) (sp np : Nat → Int32) (t : Nat) : Prop := nI t = sub ∨ sp t = 0 ∨ ∃ p, p < N ∧ bt (np t) p = true ∧ sp t < sp p
def ja_fr (lim : Int32) (a b : Nat) : Int32 := lim - 1 - nI (a - 1) - nI (b - 1)
def ja_my (N : Nat) (lim : Int32) (lv st : Nat → Int32) (t : Nat) : Prop := jc_n (ja_r st lv (decide (lv t = 1))) N = 0 ∨ 0 < ja_fr lim (jc_n (ja_r st lv false) N) (jc_n (ja_r st lv true) N)
def ja_sp (keep ff : Int32) : Prop := keep = 0 ∧ ¬ ff = 0
/-- the level lets t be looked at further: rules 1 and 2 don't apply -/
def ja_lo (N : Nat) (sub : Int32) (lv st : Nat → Int32) (t : Nat) : Prop := lv t = 1 → ¬ ja_si N sub st 5 ∧ ja_si N sub st 1
/-- the status that t gets (0: it stays WAITING) -/
def ja_D (N : Nat) (lim keep sub ff : Int32) (lv sp np op st : Nat → Int32) (t : Nat) (w : Int32) : Prop :=
  (lv t = 1 ∧ ja_si N sub st 5 ∧ w = 5) ∨
  (lv t = 1 ∧ ¬ ja_si N sub st 5 ∧ ¬ ja_si N sub st 1 ∧ w = 0) ∨
  (ja_lo N sub lv st t ∧ ja_hb N np op st t ∧ w = 5) ∨
  (ja_lo N sub lv st t ∧ ¬ ja_hb N np op st t ∧ ja_hu N np op st t ∧ w = 0) ∨
  (ja_lo N sub lv st t ∧ ¬ ja_hb N np op st t ∧ ¬ ja_hu N np op st t ∧ ja_sp keep ff ∧ w = 0) ∨
  (ja_lo N sub lv st t ∧ ¬ ja_hb N np op st t ∧ ¬ ja_hu N np op st t ∧ ¬ ja_sp keep ff ∧ ¬ ja_sl N sub sp np t ∧ w = 3) ∨
  (ja_lo N sub lv st t ∧ ¬ ja_hb N np op st t ∧ ¬ ja_hu N np op st t ∧ ¬ ja_sp keep ff ∧ ja_sl N sub sp np t ∧ ja_my N lim lv st t ∧ w = 1) ∨
  (ja_lo N sub lv st t ∧ ¬ ja_hb N np op st t ∧ ¬ ja_hu N np op st t ∧ ¬ ja_sp keep ff ∧ ja_sl N sub sp np t ∧ ¬ ja_my N lim lv st t ∧ w = 0)
theorem ja_Dex (N : Nat) (lim keep sub ff : Int32) (lv sp np op st : Nat → Int32) (t : Nat) : ∃ w, ja_D N lim keep sub ff lv sp np op st t w := by
  by_cases h : ja_lo N sub lv st t
  · by_cases hb : ja_hb N np op st t
    · exact ⟨5, .inr (.inr (.inl ⟨h, hb, rfl⟩))⟩
    · by_cases hu : ja_hu N np op st t
      · exact ⟨0, .inr (.inr (.inr (.inl ⟨h, hb, hu, rfl⟩)))⟩
      · by_cases hs : ja_sp keep ff
        · exact ⟨0, .inr (.inr (.inr (.inr (.inl ⟨h, hb, hu, hs, rfl⟩))))⟩
        · by_cases hl : ja_sl N sub sp np t
          · by_cases hm : ja_my N lim lv st t
            · exact ⟨1, .inr (.inr (.inr (.inr (.inr (.inr (.inl ⟨h, hb, hu, hs, hl, hm, rfl⟩))))))⟩
            · exact ⟨0, .inr (.inr (.inr (.inr (.inr (.inr (.inr ⟨h, hb, hu, hs, hl, hm, rfl⟩))))))⟩
          · exact ⟨3, .inr (.inr (.inr (.inr (.inr (.inl ⟨h, hb, hu, hs, hl, rfl⟩)))))⟩
  · have h1 : lv t = 1 := Classical.byContradiction (fun z => h (fun y => absurd y z))
    by_cases h5 : ja_si N sub st 5
    · exact ⟨5, .inl ⟨h1, h5, rfl⟩⟩
    · exact ⟨0, .inr (.inl ⟨h1, h5, fun z => h (fun _ => ⟨h5, z⟩), rfl⟩)⟩
theorem ja_Dw {N : Nat} {lim keep sub ff : Int32} {lv sp np op st : Nat → Int32} {t : Nat} {w : Int32} (h : ja_D N lim keep sub ff lv sp np op st t w) : w = 0 ∨ w = 1 ∨ w = 3 ∨ w = 5 := by
  rcases h with h | h | h | h | h | h | h | h
  · exact .inr (.inr (.inr h.2.2))
  · exact .inl h.2.2.2
  · exact .inr (.inr (.inr h.2.2))
  · exact .inl h.2.2.2
  · exact .inl h.2.2.2.2
  · exact .inr (.inr (.inl h.2.2.2.2.2))
  · exact .inr (.inl h.2.2.2.2.2.2)
  · exact .inl h.2.2.2.2.2.2
theorem ja_u0 {f : Nat → Int32} {t : Nat} {x : Int32} (h : f t = x) : upd f t x = f := by
  funext i
  by_cases e : i = t
  · subst e
    rw [pk_us, h]
  · exact pk_un e
-- what the step makes of the arrays
def ja_sa (w clk : Int32) (sa : Nat → Int32) (t : Nat) : Nat → Int32 := if w = 1 then upd sa t clk else sa
def ja_fi (w clk : Int32) (fi : Nat → Int32) (t : Nat) : Nat → Int32 := if w = 0 ∨ w = 1 then fi else upd fi t clk
def ja_re (w : Int32) (du re : Nat → Int32) (t : Nat) : Nat → Int32 := if w = 1 then upd re t (du t) else re
def ja_lf (w sub : Int32) (du lf : Nat → Int32) (t : Nat) : Nat → Int32 := if w = 1 ∧ ¬ nI t = sub then upd lf t (du t) else lf
theorem ja_Ls {w sub : Int32} {du re lf : Nat → Int32} {t : Nat} (h : ja_L sub re lf) : ja_L sub (ja_re w du re t) (ja_lf w sub du lf t) := by
  unfold ja_re ja_lf
  by_cases hw : w = 1
  · by_cases hs : nI t = sub
    · rw [if_pos hw, if_neg (fun z => z.2 hs)]
      exact ja_Lx h hs
    · rw [if_pos hw, if_pos ⟨hw, hs⟩]
      exact ja_Lu h
  · rw [if_neg hw, if_neg (fun z => hw z.1)]
    exact h
theorem ja_i1 : ¬ (1 : Int32) = 0 := by decide
theorem ja_sub_in {N : Nat} {sub : Int32} (h : ja_S N sub) (hN : N ≤ 32) : (sub = -1 ∧ (∀ i, i < 32 → ¬ nI i = sub) ∧ ∀ st w, ¬ ja_si N sub st w) ∨ ∃ s, s < N ∧ sub = nI s ∧ ¬ sub = -1 ∧ ∀ st w, ja_si N sub st w ↔ st s = w := by
  have hm : ∀ i, i < 32 → ¬ nI i = -1 := by decide +kernel
  rcases h with h | ⟨s, hs, h⟩
  · left
    subst h
    exact ⟨rfl, hm, fun st w ⟨s, hs, e, _⟩ => hm s (by omega) e.symm⟩
  · right
    subst h
    refine ⟨s, hs, rfl, hm s (by omega), fun st w => ⟨fun ⟨s', hs', e, z⟩ => ?_, fun z => ⟨s, hs, rfl, z⟩⟩⟩
    rw [nI_eq (by omega) (by omega)] at e
    subst e
    exact z
-- the step's status, read off each path
theorem ja_D1 {N : Nat} {lim keep sub ff : Int32} {lv sp np op st : Nat → Int32} {t : Nat} {w : Int32} (h : ja_D N lim keep sub ff lv sp np op st t w) (a : lv t = 1) (b : ja_si N sub st 5) : w = 5 := by
  rcases h with h | h | h | h | h | h | h | h
  · exact h.2.2
  · exact absurd b h.2.1
  · exact absurd b (h.1 a).1
  · exact absurd b (h.1 a).1
  · exact absurd b (h.1 a).1
  · exact absurd b (h.1 a).1
  · exact absurd b (h.1 a).1
  · exact absurd b (h.1 a).1
theorem ja_D2 {N : Nat} {lim keep sub ff : Int32} {lv sp np op st : Nat → Int32} {t : Nat} {w : Int32} (h : ja_D N lim keep sub ff lv sp np op st t w) (a : lv t = 1) (b : ¬ ja_si N sub st 5) (c : ¬ ja_si N sub st 1) : w = 0 := by
  rcases h with h | h | h | h | h | h | h | h
  · exact absurd h.2.1 b
  · exact h.2.2.2
  · exact absurd (h.1 a).2 c
  · exact absurd (h.1 a).2 c
  · exact absurd (h.1 a).2 c
  · exact absurd (h.1 a).2 c
  · exact absurd (h.1 a).2 c
  · exact absurd (h.1 a).2 c
/-- where rules 1 and 2 don't apply -/
theorem ja_Dlo {N : Nat} {lim keep sub ff : Int32} {lv sp np op st : Nat → Int32} {t : Nat} {w : Int32} (h : ja_D N lim keep sub ff lv sp np op st t w) (l : ja_lo N sub lv st t) :
    (ja_hb N np op st t → w = 5) ∧ (¬ ja_hb N np op st t → (ja_hu N np op st t → w = 0) ∧ (¬ ja_hu N np op st t → (ja_sp keep ff → w = 0) ∧ (¬ ja_sp keep ff → (¬ ja_sl N sub sp np t → w = 3) ∧ (ja_sl N sub sp np t → (ja_my N lim lv st t → w = 1) ∧ (¬ ja_my N lim lv st t → w = 0))))) := by
  rcases h with h | h | h | h | h | h | h | h
  · exact absurd h.2.1 (l h.1).1
  · exact absurd (l h.1).2 h.2.2.1
  · exact ⟨fun _ => h.2.2, fun z => absurd h.2.1 z⟩
  · exact ⟨fun z => absurd z h.2.1, fun _ => ⟨fun _ => h.2.2.2, fun z => absurd h.2.2.1 z⟩⟩
  · exact ⟨fun z => absurd z h.2.1, fun _ => ⟨fun z => absurd z h.2.2.1, fun _ => ⟨fun _ => h.2.2.2.2, fun z => absurd h.2.2.2.1 z⟩⟩⟩
  · exact ⟨fun z => absurd z h.2.1, fun _ => ⟨fun z => absurd z h.2.2.1, fun _ => ⟨fun z => absurd z h.2.2.2.1, fun _ => ⟨fun _ => h.2.2.2.2.2, fun z => absurd z h.2.2.2.2.1⟩⟩⟩⟩
  · exact ⟨fun z => absurd z h.2.1, fun _ => ⟨fun z => absurd z h.2.2.1, fun _ => ⟨fun z => absurd z h.2.2.2.1, fun _ => ⟨fun z => absurd h.2.2.2.2.1 z, fun _ => ⟨fun _ => h.2.2.2.2.2.2, fun z => absurd h.2.2.2.2.2.1 z⟩⟩⟩⟩⟩
  · exact ⟨fun z => absurd z h.2.1, fun _ => ⟨fun z => absurd z h.2.2.1, fun _ => ⟨fun z => absurd z h.2.2.2.1, fun _ => ⟨fun z => absurd h.2.2.2.2.1 z, fun _ => ⟨fun z => absurd z h.2.2.2.2.2.1, fun _ => h.2.2.2.2.2.2⟩⟩⟩⟩⟩
theorem ja_sa1 {clk : Int32} {sa : Nat → Int32} {t : Nat} : ja_sa 1 clk sa t = upd sa t clk := if_pos rfl
theorem ja_sa0 {w clk : Int32} {sa : Nat → Int32} {t : Nat} (h : ¬ w = 1) : ja_sa w clk sa t = sa := if_neg h
theorem ja_re1 {du re : Nat → Int32} {t : Nat} : ja_re 1 du re t = upd re t (du t) := if_pos rfl
theorem ja_re0 {w : Int32} {du re : Nat → Int32} {t : Nat} (h : ¬ w = 1) : ja_re w du re t = re := if_neg h
theorem ja_lf1 {sub : Int32} {du lf : Nat → Int32} {t : Nat} (h : ¬ nI t = sub) : ja_lf 1 sub du lf t = upd lf t (du t) := if_pos ⟨rfl, h⟩
theorem ja_lfs {w sub : Int32} {du lf : Nat → Int32} {t : Nat} (h : nI t = sub) : ja_lf w sub du lf t = lf := if_neg (fun z => z.2 h)
theorem ja_lf0 {w sub : Int32} {du lf : Nat → Int32} {t : Nat} (h : ¬ w = 1) : ja_lf w sub du lf t = lf := if_neg (fun z => h z.1)
theorem ja_fi0 {w clk : Int32} {fi : Nat → Int32} {t : Nat} (h : w = 0 ∨ w = 1) : ja_fi w clk fi t = fi := if_pos h
theorem ja_fi1 {w clk : Int32} {fi : Nat → Int32} {t : Nat} (h : ¬ (w = 0 ∨ w = 1)) : ja_fi w clk fi t = upd fi t clk := if_neg h

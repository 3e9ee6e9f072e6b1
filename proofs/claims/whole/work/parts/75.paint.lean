/-! cells given a colour -/
theorem sub_and {w h : Nat} {a b : Int64} (ha : ds_sub w h a) : ds_sub w h (a &&& b) := by
  intro i hi q
  rw [b_and, Bool.and_eq_true] at q
  exact ha i hi q.1
theorem p_colourCells {w h : Nat} {o t m : Int64} (ho : ds_sub w h o) (ht : ds_sub w h t) (hm : ds_sub w h m) {c : Nat} (hc : c < 4) : ∃ o' t', fX6_colourCells o t m (nI c) = some (o', t') ∧ ds_sub w h o' ∧ ds_sub w h t' ∧ ∀ i, i < 64 → ds_co o' t' i = if ds_b m i then c else ds_co o t i := by
  have : c = 0 ∨ c = 1 ∨ c = 2 ∨ c = 3 := by omega
  unfold fX6_colourCells fX6_colourCells_26 fX6_colourCells_55
  rcases this with rfl | rfl | rfl | rfl
  · rw [if_pos (show nI 0 &&& 1 = 0 by decide), if_pos (show nI 0 &&& 2 = 0 by decide)]
    refine ⟨_, _, rfl, sub_and ho, sub_and ht, fun i hi => ?_⟩
    unfold ds_co
    rw [b_and, b_and, b_not hi]
    cases ds_b o i <;> cases ds_b t i <;> cases ds_b m i <;> rfl
  · rw [if_neg (show ¬ nI 1 &&& 1 = 0 by decide), if_pos (show nI 1 &&& 2 = 0 by decide)]
    refine ⟨_, _, rfl, sub_or ho hm, sub_and ht, fun i hi => ?_⟩
    unfold ds_co
    rw [b_or, b_and, b_not hi]
    cases ds_b o i <;> cases ds_b t i <;> cases ds_b m i <;> rfl
  · rw [if_pos (show nI 2 &&& 1 = 0 by decide), if_neg (show ¬ nI 2 &&& 2 = 0 by decide)]
    refine ⟨_, _, rfl, sub_and ho, sub_or ht hm, fun i hi => ?_⟩
    unfold ds_co
    rw [b_or, b_and, b_not hi]
    cases ds_b o i <;> cases ds_b t i <;> cases ds_b m i <;> rfl
  · rw [if_neg (show ¬ nI 3 &&& 1 = 0 by decide), if_neg (show ¬ nI 3 &&& 2 = 0 by decide)]
    refine ⟨_, _, rfl, sub_or ho hm, sub_or ht hm, fun i hi => ?_⟩
    unfold ds_co
    rw [b_or, b_or]
    cases ds_b o i <;> cases ds_b t i <;> cases ds_b m i <;> rfl

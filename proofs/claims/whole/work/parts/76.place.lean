/-! the k-th cell of a set (class) -/
theorem b_low (a : Int64) {k : Nat} (hk : k < 64) : (ds_lushr a (nI k)) &&& 1 = 0 ↔ ds_b a k = false := by
  have := b_has (ds_lushr a (nI k)) (n := 0) (by omega)
  rw [show ds_lshl 1 (nI 0) = 1 by decide, b_shr a hk, Nat.add_zero] at this
  exact this
theorem p_place (m : Int64) (q : Int32) : ∃ r, fX7_placeOf m q = some r ∧ ((r = -1 ∧ ∀ i, i < 64 → ds_b m i = true → nI (ds_ct (ds_b m) i) ≠ q) ∨ ∃ i, i < 64 ∧ r = nI i ∧ ds_b m i = true ∧ nI (ds_ct (ds_b m) i) = q) := by
  unfold fX7_placeOf fX7_placeOf_5
  refine ds_it_inv _ (fun k s => s.1 = nI (ds_ct (ds_b m) k) ∧ s.2 = nI k ∧ ∀ i, i < k → ds_b m i = true → nI (ds_ct (ds_b m) i) ≠ q) _ 64 1000 0 _ (Nat.zero_le _) ⟨rfl, rfl, fun i hi => absurd hi (Nat.not_lt_zero i)⟩ (by omega) ?_ ?_
  · rintro k ⟨s1, s2⟩ hk ⟨e1, e2, e3⟩
    dsimp only at e1 e2
    subst e1 e2
    dsimp only
    unfold fX7_placeOf_5_b fX7_placeOf_34
    have nx : (ds_b m k = true → nI (ds_ct (ds_b m) k) ≠ q) → ∀ i, i < k + 1 → ds_b m i = true → nI (ds_ct (ds_b m) i) ≠ q := by
      intro z i hi
      by_cases c : i = k
      · rw [c]; exact z
      · exact e3 i (by omega)
    rw [show (64 : Int32) = nI 64 from rfl, if_neg (nI_ge hk (by omega)), nI_1, nI_1]
    cases c : ds_b m k
    · left
      rw [if_pos ((b_cmp _ _).mpr ((b_low m hk).mpr c))]
      refine ⟨_, rfl, ?_, rfl, nx (fun z => by rw [c] at z; cases z)⟩
      show _ = nI (ds_ct (ds_b m) k + (if ds_b m k = true then 1 else 0))
      rw [c]; rfl
    · rw [if_neg (fun z => by have := (b_low m hk).mp ((b_cmp _ _).mp z); rw [c] at this; cases this)]
      by_cases c2 : nI (ds_ct (ds_b m) k) = q
      · right
        rw [if_pos c2]
        exact ⟨_, rfl, Or.inr ⟨k, hk, rfl, c, c2⟩⟩
      · left
        rw [if_neg c2]
        refine ⟨_, rfl, ?_, rfl, nx (fun _ => c2)⟩
        show _ = nI (ds_ct (ds_b m) k + (if ds_b m k = true then 1 else 0))
        rw [c]; rfl
  · rintro ⟨s1, s2⟩ ⟨e1, e2, e3⟩
    dsimp only at e1 e2
    subst e1 e2
    dsimp only
    unfold fX7_placeOf_5_b
    rw [if_pos (by decide)]
    exact ⟨_, rfl, Or.inl ⟨rfl, e3⟩⟩

/-! kinds ahead (class) -/
def ds_AI (w h : Nat) (K : Nat → Nat → Prop) (p N : Nat) (u : Int64) (v : Int32) : Prop := ds_sub w h u ∧ (∀ i, i < 64 → ds_ins w h i = true → (ds_b u i = true ↔ ∃ c, c < N ∧ ds_ld w h K c ∧ K c i)) ∧ v = nI (ds_lc w h K N) ∧ ∀ c, c < 64 → ds_ins w h c = true → c < N → c < p
theorem AI_gap {w h : Nat} {K : Nat → Nat → Prop} {p n m : Nat} {u : Int64} {v : Int32} (ha : ds_AI w h K p n u v) (hnm : n ≤ m) (hg : ∀ i, n ≤ i → i < m → ds_ins w h i = false) : ds_AI w h K p m u v := by
  obtain ⟨a1, a2, a3, a4⟩ := ha
  refine ⟨a1, fun i hi ii => ?_, by rw [a3, lc_gap hnm hg], fun c hc ic q => ?_⟩
  · rw [a2 i hi ii]
    constructor
    · rintro ⟨c, q1, q2⟩; exact ⟨c, by omega, q2⟩
    · rintro ⟨c, q1, q2, q3⟩
      refine ⟨c, ?_, q2, q3⟩
      apply Classical.byContradiction
      intro z
      have := hg c (by omega) q1
      rw [q2.2.1] at this; cases this
  · apply a4 c hc ic
    apply Classical.byContradiction
    intro z
    have := hg c (by omega) q
    rw [ic] at this; cases this
theorem g_ahead {w h : Nat} (hk : ds_ok w h) {hex : Bool} {o t : Int64} {fd : Nat → Int64} (hv : ∀ tn, tn < 12 → ds_GV w h hex o t fd tn) {z : Int64} {Z : Nat → Prop} (hz : ∀ m, ds_sub w h m → (m &&& z = 0 ↔ ¬ ∃ i, i < 64 ∧ ds_ins w h i = true ∧ Z i ∧ ds_b m i = true)) {p : Nat} (hp1 : ∀ c, ds_ld w h (ds_Kd w h hex o t) c → c < p → ¬ ∃ i, i < 64 ∧ ds_ins w h i = true ∧ Z i ∧ ds_Kd w h hex o t c i) (hp2 : p = 64 ∨ (ds_ld w h (ds_Kd w h hex o t) p ∧ ∃ i, i < 64 ∧ ds_ins w h i = true ∧ Z i ∧ ds_Kd w h hex o t p i)) : fX0_kindsAhead (nI w) (nI h) (ds_q hex) fd z = some (nI (ds_lc w h (ds_Kd w h hex o t) p)) := by
  obtain ⟨k1, k2, k3, k4⟩ := id hk
  have hK := Kd_Eq (w := w) (h := h) (hex := hex) (o := o) (t := t)
  unfold fX0_kindsAhead fX0_kindsAhead_8
  suffices hq : ∃ r, ds_it (fun s => fX0_kindsAhead_8_b (nI w) (nI h) (ds_q hex) fd z s.1 s.2.1 s.2.2) 1000 ((0 : Int64), (0 : Int32), (0 : Int32)) = some r ∧ r = nI (ds_lc w h (ds_Kd w h hex o t) p) by
    obtain ⟨r, e, rfl⟩ := hq; exact e
  refine ds_it_inv _ (fun y s => s.2.2 = nI y ∧ ds_AI w h (ds_Kd w h hex o t) p (8 * y) s.1 s.2.1) _ h 1000 0 _ (Nat.zero_le _) ⟨rfl, sub_0, fun i _ _ => ⟨fun q => (by rw [b_zero] at q; cases q), fun ⟨c, q, _⟩ => absurd q (Nat.not_lt_zero c)⟩, rfl, fun c _ _ q => absurd q (Nat.not_lt_zero c)⟩ (by omega) ?_ ?_
  · rintro y ⟨s1, s2, s3⟩ hy ⟨e1, e2⟩
    dsimp only at e1 e2
    subst e1
    dsimp only
    unfold fX0_kindsAhead_8_b
    rw [if_neg (nI_ge hy (by omega))]
    unfold fX0_kindsAhead_23
    suffices hq : ∃ r, ds_it (fun s => fX0_kindsAhead_23_b (nI w) (nI h) (ds_q hex) fd z (nI y) s.1 s.2.1 s.2.2) 1000 (s1, s2, (0 : Int32)) = some r ∧ ((∃ s', r = .inl s' ∧ s'.2.2 = nI (y + 1) ∧ ds_AI w h (ds_Kd w h hex o t) p (8 * (y + 1)) s'.1 s'.2.1) ∨ ∃ v, r = .inr v ∧ v = nI (ds_lc w h (ds_Kd w h hex o t) p)) by
      obtain ⟨r, e, (⟨s', rfl, e3, e4⟩ | ⟨v, rfl, e3⟩)⟩ := hq
      · exact Or.inl ⟨s', e, e3, e4⟩
      · exact Or.inr ⟨v, e, e3⟩
    refine ds_it_inv _ (fun x s => s.2.2 = nI x ∧ ds_AI w h (ds_Kd w h hex o t) p (8 * y + x) s.1 s.2.1) _ w 1000 0 _ (Nat.zero_le _) ⟨rfl, e2⟩ (by omega) ?_ ?_
    · rintro x ⟨t1, t2, t3⟩ hx ⟨f1, f2⟩
      dsimp only at f1 f2
      subst f1
      dsimp only
      obtain ⟨j1, j2, j3, j4⟩ := ins_xy hk hx hy
      obtain ⟨a1, a2, a3, a4⟩ := id f2
      obtain ⟨m, g1, g2, g3⟩ := g_all hk hv hx hy
      have ln := ld_no hK j4 j1
      have sn := a2 _ j4 j1
      have ic := hz m g2
      unfold fX0_kindsAhead_23_b fX0_kindsAhead_79
      rw [if_neg (nI_ge hx (by omega)), p_bit (by omega) (by omega), Option.bind_some, g1, Option.bind_some, nI_1]
      by_cases c1 : ds_ld w h (ds_Kd w h hex o t) (8 * y + x)
      · have nb : ds_b t1 (8 * y + x) = false := by
          cases e : ds_b t1 (8 * y + x)
          · rfl
          · exact absurd c1 (ln.mp (sn.mp e))
        rw [if_pos ((b_cmp _ _).mpr ((b_has t1 j4).mpr nb))]
        by_cases c2 : m &&& z = 0
        · rw [if_pos ((b_cmp _ _).mpr c2)]
          have nz := ic.mp c2
          left
          refine ⟨_, rfl, rfl, sub_or a1 g2, ?_, ?_, ?_⟩
          · intro i hi ii
            dsimp only
            rw [b_or, Bool.or_eq_true, a2 i hi ii, g3 i hi ii]
            constructor
            · rintro (⟨c, q1, q2⟩ | q)
              · exact ⟨c, by omega, q2⟩
              · exact ⟨_, by omega, c1, q⟩
            · rintro ⟨c, q1, q2, q3⟩
              by_cases e : c = 8 * y + x
              · rw [e] at q3; exact Or.inr q3
              · exact Or.inl ⟨c, by omega, q2, q3⟩
          · dsimp only
            rw [a3, nI_1]
            show nI (ds_lc w h (ds_Kd w h hex o t) (8 * y + x) + 1) = nI (ds_ct _ (8 * y + x) + (if ds_d (ds_ld w h (ds_Kd w h hex o t) (8 * y + x)) = true then 1 else 0))
            rw [d_true c1]; rfl
          · intro c hc icc q
            by_cases e : c = 8 * y + x
            · rw [e]
              have ne : ¬ (8 * y + x = p) := by
                intro ep
                rcases hp2 with q2 | ⟨_, i, q3, q4, q5, q6⟩
                · omega
                · rw [← ep] at q6
                  exact nz ⟨i, q3, q4, q5, (g3 i q3 q4).mpr q6⟩
              apply Classical.byContradiction
              intro lt
              rcases hp2 with q2 | ⟨q2, _⟩
              · omega
              · have := a4 p q2.1 q2.2.1 (by omega); omega
            · exact a4 c hc icc (by omega)
        · rw [if_neg (fun q => c2 ((b_cmp _ _).mp q))]
          right
          refine ⟨_, rfl, Or.inr ⟨_, rfl, ?_⟩⟩
          have yz : ∃ i, i < 64 ∧ ds_ins w h i = true ∧ Z i ∧ ds_b m i = true := by
            apply Classical.byContradiction
            intro q; exact c2 (ic.mpr q)
          obtain ⟨i, q3, q4, q5, q6⟩ := yz
          have np := hp1 _ c1
          have ep : 8 * y + x = p := by
            apply Classical.byContradiction
            intro ne
            rcases Nat.lt_or_gt_of_ne ne with lt | gt
            · exact np lt ⟨i, q3, q4, q5, (g3 i q3 q4).mp q6⟩
            · rcases hp2 with q2 | ⟨q2, _⟩
              · omega
              · have := a4 p q2.1 q2.2.1 gt; omega
          rw [a3, ep]
      · have nb : ds_b t1 (8 * y + x) = true := sn.mpr (ln.mpr c1)
        rw [if_neg (fun q => by have := (b_has t1 j4).mp ((b_cmp _ _).mp q); rw [nb] at this; cases this)]
        left
        refine ⟨_, rfl, rfl, a1, ?_, ?_, ?_⟩
        · intro i hi ii
          dsimp only
          rw [a2 i hi ii]
          constructor
          · rintro ⟨c, q1, q2⟩; exact ⟨c, by omega, q2⟩
          · rintro ⟨c, q1, q2, q3⟩
            by_cases e : c = 8 * y + x
            · rw [e] at q2; exact absurd q2 c1
            · exact ⟨c, by omega, q2, q3⟩
        · dsimp only
          rw [a3]
          show nI (ds_lc w h (ds_Kd w h hex o t) (8 * y + x)) = nI (ds_ct _ (8 * y + x) + (if ds_d (ds_ld w h (ds_Kd w h hex o t) (8 * y + x)) = true then 1 else 0))
          rw [d_false c1]; rfl
        · intro c hc icc q
          by_cases e : c = 8 * y + x
          · rw [e]
            apply Classical.byContradiction
            intro lt
            rcases hp2 with q2 | ⟨q2, _⟩
            · omega
            · by_cases ep : 8 * y + x = p
              · rw [ep] at c1; exact c1 q2
              · have := a4 p q2.1 q2.2.1 (by omega); omega
          · exact a4 c hc icc (by omega)
    · rintro ⟨t1, t2, t3⟩ ⟨f1, f2⟩
      dsimp only at f1 f2
      subst f1
      dsimp only
      unfold fX0_kindsAhead_23_b fX0_kindsAhead_85
      rw [if_pos (nI_le (Nat.le_refl _) (by omega)), Option.bind_some, nI_1]
      refine ⟨_, rfl, Or.inl ⟨_, rfl, rfl, AI_gap f2 (by omega) (fun i q1 q2 => ?_)⟩⟩
      cases e : ds_ins w h i
      · rfl
      · have := ins_of e; omega
  · rintro ⟨s1, s2, s3⟩ ⟨e1, e2⟩
    dsimp only at e1 e2
    subst e1
    dsimp only
    unfold fX0_kindsAhead_8_b
    rw [if_pos (nI_le (Nat.le_refl _) (by omega))]
    refine ⟨_, rfl, ?_⟩
    obtain ⟨a1, a2, a3, a4⟩ := e2
    rcases hp2 with rfl | ⟨q2, _⟩
    · rw [a3, lc_gap (show 8 * h ≤ 64 by omega) (fun i q1 q2 => ?_)]
      cases e : ds_ins w h i
      · rfl
      · have := ins_of e; omega
    · have := ins_of q2.2.1
      have := a4 p q2.1 q2.2.1 (by omega)
      omega
/-- all kinds, and the kinds ahead of a cell's own -/
theorem g_kinds {w h : Nat} (hk : ds_ok w h) {hex : Bool} {o t : Int64} {fd : Nat → Int64} (hv : ∀ tn, tn < 12 → ds_GV w h hex o t fd tn) : fX0_kindsAhead (nI w) (nI h) (ds_q hex) fd 0 = some (nI (ds_lc w h (ds_Kd w h hex o t) 64)) := by
  refine g_ahead hk hv (Z := fun _ => False) (fun m _ => ⟨fun _ ⟨i, _, _, q, _⟩ => q, fun _ => ?_⟩) (fun c _ _ ⟨i, _, _, q, _⟩ => q) (Or.inl rfl)
  apply b_ext
  intro i hi
  rw [b_and, b_zero, Bool.and_false]
theorem g_kind {w h : Nat} (hk : ds_ok w h) {hex : Bool} {o t : Int64} {fd : Nat → Int64} (hv : ∀ tn, tn < 12 → ds_GV w h hex o t fd tn) {R : Nat → Int32} {r : Nat → Nat} (u : ds_UF R r) (ui : ∀ i, i < 64 → ds_ins w h i = true → ds_ins w h (r i) = true) (uk : ∀ i j, i < 64 → j < 64 → ds_ins w h i = true → ds_ins w h j = true → (r i = r j ↔ ds_Kd w h hex o t i j)) {n : Nat} (hn : n < 64) (hi : ds_ins w h n = true) : fX0_kindsAhead (nI w) (nI h) (ds_q hex) fd (ds_lshl 1 (nI n)) = some (nI (ds_lc w h (ds_Kd w h hex o t) (r n))) := by
  have b := (u n hn).1
  have rr := uf_rr u n hn
  have ri := ui n hn hi
  refine g_ahead hk hv (Z := fun i => i = n) (fun m _ => ?_) (fun c lc q ⟨i, h1, h2, h3, h4⟩ => ?_) (Or.inr ⟨(KR_lead u ui uk (by omega) ri).mp rr, n, hn, hi, rfl, (uk _ _ (by omega) hn ri hi).mp rr⟩)
  · rw [b_has m hn]
    constructor
    · rintro e ⟨i, h1, h2, rfl, h4⟩
      rw [e] at h4; cases h4
    · intro q
      cases e : ds_b m n
      · rfl
      · exact absurd ⟨n, hn, hi, rfl, e⟩ q
  · subst h3
    have := (uk c i lc.1 h1 lc.2.1 h2).mpr h4
    have := (KR_lead u ui uk lc.1 lc.2.1).mpr lc
    omega

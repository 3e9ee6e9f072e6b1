/-! parted flips, flips counted, on both sides -/
theorem z_even {v : Int} (h1 : -2147483648 ≤ v) (h2 : v < 2147483648) : (ds_rem (ds_z v) (2 : Int32) = 0 ↔ ∃ u : Int, v = 2 * u) := by
  rw [show (2 : Int32) = ds_z 2 from rfl, z_rem h1 h2 (by omega) (by omega)]
  have a1 := Int.tmod_lt_of_pos v (show (0 : Int) < 2 by omega)
  have a2 := Int.lt_tmod_of_pos v (show (0 : Int) < 2 by omega)
  have a3 := Int.tmod_add_mul_tdiv v 2
  rw [z_eq0 (by omega) (by omega)]
  constructor
  · intro q; exact ⟨v.tdiv 2, by omega⟩
  · rintro ⟨u, rfl⟩; exact Int.mul_tmod_right 2 u
theorem z_half {u : Int} (h1 : -1000000 ≤ u) (h2 : u < 1000000) : ds_z (2 * u) / (2 : Int32) = ds_z u := by
  rw [show (2 : Int32) = ds_z 2 from rfl, z_div (by omega) (by omega) (by omega) (by omega), Int.mul_tdiv_cancel_left u (by omega)]
theorem half_at {w h : Nat} {o t : Int64} {f : Int32 → Int32 → Option Int32} (hf : ∀ x y : Int, -1000 ≤ x → x ≤ 1000 → -1000 ≤ y → y ≤ 1000 → f (ds_z x) (ds_z y) = some (ds_q (ds_d (ds_St w h o t x y)))) {x y X Y : Int} (h1 : -100 ≤ x) (h2 : x ≤ 100) (h3 : -100 ≤ y) (h4 : y ≤ 100) (h5 : -200 ≤ X) (h6 : X ≤ 200) (h7 : -200 ≤ Y) (h8 : Y ≤ 200) : (if (ds_rem (ds_z x + ds_z X) (2 : Int32)) = 0 then if (ds_rem (ds_z y + ds_z Y) (2 : Int32)) = 0 then Option.bind (f ((ds_z x + ds_z X) / (2 : Int32)) ((ds_z y + ds_z Y) / (2 : Int32))) fun q45 => if q45 = 0 then some (0 : Int32) else some (1 : Int32) else some (0 : Int32) else some (0 : Int32)) = some (ds_q (ds_d (∃ u v : Int, x + X = 2 * u ∧ y + Y = 2 * v ∧ ds_St w h o t u v))) := by
  rw [z_add, z_add]
  by_cases c1 : ∃ u : Int, x + X = 2 * u
  · rw [if_pos ((z_even (by omega) (by omega)).mpr c1)]
    by_cases c2 : ∃ v : Int, y + Y = 2 * v
    · rw [if_pos ((z_even (by omega) (by omega)).mpr c2)]
      obtain ⟨u, eu⟩ := c1
      obtain ⟨v, ev⟩ := c2
      rw [eu, ev, z_half (by omega) (by omega), z_half (by omega) (by omega), hf u v (by omega) (by omega) (by omega) (by omega), Option.bind_some]
      have e : ds_d (∃ u' v' : Int, 2 * u = 2 * u' ∧ 2 * v = 2 * v' ∧ ds_St w h o t u' v') = ds_d (ds_St w h o t u v) := by
        rw [Bool.eq_iff_iff, d_iff, d_iff]
        constructor
        · rintro ⟨u', v', e1, e2, s⟩
          rw [show u = u' by omega, show v = v' by omega]; exact s
        · intro s; exact ⟨u, v, rfl, rfl, s⟩
      rw [e]
      cases ds_d (ds_St w h o t u v)
      · rw [if_pos (show ds_q false = 0 from rfl)]; rfl
      · rw [if_neg (by decide)]; rfl
    · rw [if_neg (fun z => c2 ((z_even (by omega) (by omega)).mp z)), d_false (fun ⟨u, v, e1, e2, s⟩ => c2 ⟨v, e2⟩)]; rfl
  · rw [if_neg (fun z => c1 ((z_even (by omega) (by omega)).mp z)), d_false (fun ⟨u, v, e1, e2, s⟩ => c1 ⟨u, e1⟩)]; rfl
theorem g_half {w h : Nat} (hk : ds_ok w h) {hex : Bool} {o t : Int64} {fd : Nat → Int64} (hv : ds_GV w h hex o t fd 0) {tn : Nat} (ht : tn < ds_nt hex) {x y : Int} (h1 : -20 ≤ x) (h2 : x ≤ 20) (h3 : -20 ≤ y) (h4 : y ≤ 20) : fX0_hasHalfSum (nI w) (nI h) (ds_q hex) fd (nI tn) (ds_z x) (ds_z y) = some (ds_q (ds_d (ds_Hf w h hex o t tn x y))) := by
  have hnt : 0 < ds_nt hex := by have := nt_le hex; omega
  obtain ⟨⟨s1, s2⟩, s3, s4⟩ := t_small ht h1 h2 h3 h4
  unfold fX0_hasHalfSum
  rw [p_tx ht, Option.bind_some, p_ty ht, Option.bind_some]
  exact half_at (f := fun a b => fX0_hasSymmetry fd (nI w) (nI h) (0 : Int32) a b) (fun x y q1 q2 q3 q4 => by
    have := g_sym hk hv hnt (x := x) (y := y) (by omega) (by omega) (by omega) (by omega)
    have e : ds_d (ds_Sy w h hex o t 0 x y) = ds_d (ds_St w h o t x y) := by rw [Bool.eq_iff_iff, d_iff, d_iff, Sy_0]
    rw [e] at this; exact this) (by omega) (by omega) (by omega) (by omega) (by omega) (by omega) (by omega) (by omega)
theorem m_half {w h : Nat} (hk : ds_ok w h) {hex : Bool} {o t : Int64} {al sh : Nat → Int32} (hm : ds_MT w h hex o t al) (h01 : ds_01 sh) (hv : ds_SV w h hex o t sh 0) {tn : Nat} (ht : tn < ds_nt hex) {x y : Int} (h1 : -20 ≤ x) (h2 : x ≤ 20) (h3 : -20 ≤ y) (h4 : y ≤ 20) : fX8_isParted al ds_tabF sh (nI tn) (ds_z x) (ds_z y) = some (ds_q (ds_d (ds_Hf w h hex o t tn x y))) := by
  obtain ⟨⟨s1, s2⟩, s3, s4⟩ := t_small ht h1 h2 h3 h4
  unfold fX8_isParted
  rw [m_tx hm.2.2.1 ht, Option.bind_some, m_ty hm.2.2.1 ht, Option.bind_some]
  exact half_at (f := fun a b => fX8_isStep al sh a b) (fun x y q1 q2 q3 q4 => by
    obtain ⟨q, e1, e2⟩ := m_step hk hm h01 hv (x := x) (y := y) (by omega) (by omega) (by omega) (by omega)
    rw [e1, show q = ds_d (ds_St w h o t x y) by rw [Bool.eq_iff_iff, d_iff, e2]]) (by omega) (by omega) (by omega) (by omega) (by omega) (by omega) (by omega) (by omega)
theorem g_parted {w h : Nat} (hk : ds_ok w h) {hex : Bool} {o t : Int64} {fd : Nat → Int64} (hv : ds_GV w h hex o t fd 0) {tn : Nat} (ht : tn < ds_nt hex) {a b c d : Int} (hF : ds_FS w h hex o t a b c d) : fX0_isParted (ds_z a) (ds_z b) (ds_z c) (ds_z d) (nI w) (nI h) (ds_q hex) fd (nI tn) = some (ds_q (ds_pa w h hex o t tn)) := by
  obtain ⟨⟨_, _, f1, f2, f3, f4⟩, _, _, f5, f6, f7, f8⟩ := id hF
  unfold fX0_isParted
  rw [pa_FS hF, g_half hk hv ht (by omega) (by omega) (by omega) (by omega), Option.bind_some, g_half hk hv ht (by omega) (by omega) (by omega) (by omega), Option.bind_some]
  by_cases c1 : ds_Hf w h hex o t tn a b
  · rw [d_true c1, if_neg (by decide)]
    by_cases c2 : ds_Hf w h hex o t tn c d
    · rw [d_true c2, if_neg (by decide), d_true ⟨c1, c2⟩]; rfl
    · rw [d_false c2, if_pos (show ds_q false = 0 from rfl), d_false (fun z => c2 z.2)]; rfl
  · rw [d_false c1, if_pos (show ds_q false = 0 from rfl), d_false (fun z => c1 z.1)]; rfl
theorem m_parted {w h : Nat} (hk : ds_ok w h) {hex : Bool} {o t : Int64} {al sh : Nat → Int32} (hm : ds_MT w h hex o t al) (h01 : ds_01 sh) (hv : ds_SV w h hex o t sh 0) {tn : Nat} (ht : tn < ds_nt hex) : fX8_areParted al ds_tabF sh (nI tn) = some (ds_q (ds_pa w h hex o t tn)) := by
  obtain ⟨k1, k2, k3, k4⟩ := id hk
  obtain ⟨m0, m1, m2, m3⟩ := id hm
  have step : ∀ x y : Nat, x < 8 → y < 8 → fX8_isStep al sh (nI x) (nI y) = some (ds_q (ds_d (ds_St w h o t x y))) := by
    intro x y h1 h2
    obtain ⟨q, e1, e2⟩ := m_step hk hm h01 hv (x := x) (y := y) (by omega) (by omega) (by omega) (by omega)
    rw [z_nI, z_nI, e1, show q = ds_d (ds_St w h o t x y) by rw [Bool.eq_iff_iff, d_iff, e2]]
  have hlf : ∀ x y : Nat, x ≤ 8 → y ≤ 8 → fX8_isParted al ds_tabF sh (nI tn) (nI x) (nI y) = some (ds_q (ds_d (ds_Hf w h hex o t tn x y))) := by
    intro x y h1 h2
    rw [z_nI x, z_nI y]
    exact m_half hk hm h01 hv ht (by omega) (by omega) (by omega) (by omega)
  -- the tile's own steps
  have loop : ∀ b : Bool, fX8_areParted_35 al ds_tabF sh (nI tn) (ds_q b) = some (ds_q (ds_d (b = true ∧ ∀ y x : Nat, y < h → x < w → ds_St w h o t x y → ds_Hf w h hex o t tn x y))) := by
    intro b
    unfold fX8_areParted_35 fX8_areParted_38
    suffices hs : ∃ r, ds_it (fun s => fX8_areParted_38_b al ds_tabF sh (nI tn) s.1 s.2) 1000 (ds_q b, (0 : Int32)) = some r ∧ r = ds_q (ds_d (b = true ∧ ∀ y x : Nat, y < h → x < w → ds_St w h o t x y → ds_Hf w h hex o t tn x y)) by
      obtain ⟨r, e, rfl⟩ := hs; exact e
    refine ds_it_inv _ (fun k s => s.2 = nI k ∧ s.1 = ds_q (ds_d (b = true ∧ ∀ y x : Nat, y < k → x < w → ds_St w h o t x y → ds_Hf w h hex o t tn x y))) _ h 1000 0 _ (Nat.zero_le _) ⟨rfl, ?_⟩ (by omega) ?_ ?_
    · have e : ds_d (b = true ∧ ∀ y x : Nat, y < 0 → x < w → ds_St w h o t x y → ds_Hf w h hex o t tn x y) = b := by
        rw [Bool.eq_iff_iff, d_iff]
        exact ⟨fun z => z.1, fun z => ⟨z, fun y x hy => absurd hy (Nat.not_lt_zero y)⟩⟩
      rw [e]
    · rintro y ⟨s1, s2⟩ hy ⟨e1, e2⟩
      dsimp only at e1 e2
      subst e1
      left
      dsimp only
      unfold fX8_areParted_38_b
      rw [l_1, m1, if_neg (nI_ge hy (by omega))]
      unfold fX8_areParted_51
      suffices hs : ∃ r, ds_it (fun s => fX8_areParted_51_b al ds_tabF sh (nI tn) (nI y) s.1 s.2) 1000 (s1, (0 : Int32)) = some r ∧ ∃ s', r = .inl s' ∧ s'.2 = nI (y + 1) ∧ s'.1 = ds_q (ds_d (b = true ∧ ∀ y' x : Nat, y' < y + 1 → x < w → ds_St w h o t x y' → ds_Hf w h hex o t tn x y')) by
        obtain ⟨r, e, s', rfl, e3, e4⟩ := hs; exact ⟨s', e, e3, e4⟩
      refine ds_it_inv _ (fun k s => s.2 = nI k ∧ s.1 = ds_q (ds_d (b = true ∧ ∀ y' x : Nat, (y' < y ∨ (y' = y ∧ x < k)) → x < w → ds_St w h o t x y' → ds_Hf w h hex o t tn x y'))) _ w 1000 0 _ (Nat.zero_le _) ⟨rfl, ?_⟩ (by omega) ?_ ?_
      · refine e2.trans (congrArg ds_q ?_)
        rw [Bool.eq_iff_iff, d_iff, d_iff]
        exact ⟨fun z => ⟨z.1, fun y' x hy' => z.2 y' x (by omega)⟩, fun z => ⟨z.1, fun y' x hy' => z.2 y' x (Or.inl hy')⟩⟩
      · rintro x ⟨q1, q2⟩ hx ⟨f1, f2⟩
        dsimp only at f1 f2
        subst f1
        dsimp only
        unfold fX8_areParted_51_b fX8_areParted_87 fX8_areParted_92 fX8_areParted_99
        rw [l_0, m0, if_neg (nI_ge hx (by omega)), nI_1, nI_1, step x y (by omega) (by omega), hlf x y (by omega) (by omega), Option.bind_some, Option.bind_some, Option.bind_some]
        by_cases c0 : (b = true ∧ ∀ y' x' : Nat, (y' < y ∨ (y' = y ∧ x' < x)) → x' < w → ds_St w h o t x' y' → ds_Hf w h hex o t tn x' y')
        · rw [d_true c0] at f2
          subst f2
          rw [if_neg (by decide)]
          left
          by_cases c3 : ds_St w h o t x y
          · rw [d_true c3, if_neg (by decide)]
            by_cases c4 : ds_Hf w h hex o t tn x y
            · rw [d_true c4, if_neg (by decide)]
              refine ⟨_, rfl, rfl, ?_⟩
              dsimp only
              rw [d_true ⟨c0.1, fun y' x' hy' hx' hs => by
                by_cases e : y' = y ∧ x' = x
                · rw [e.1, e.2]; exact c4
                · exact c0.2 y' x' (by omega) hx' hs⟩]; rfl
            · rw [d_false c4, if_pos (show ds_q false = 0 from rfl)]
              refine ⟨_, rfl, rfl, ?_⟩
              dsimp only
              rw [d_false (fun z => c4 (z.2 y x (by omega) hx c3))]; rfl
          · rw [d_false c3, if_pos (show ds_q false = 0 from rfl)]
            refine ⟨_, rfl, rfl, ?_⟩
            dsimp only
            rw [d_true ⟨c0.1, fun y' x' hy' hx' hs => by
              by_cases e : y' = y ∧ x' = x
              · rw [e.1, e.2] at hs; exact absurd hs c3
              · exact c0.2 y' x' (by omega) hx' hs⟩]; rfl
        · rw [d_false c0] at f2
          subst f2
          rw [if_pos (show ds_q false = 0 from rfl)]
          right
          refine ⟨_, rfl, _, rfl, rfl, ?_⟩
          dsimp only
          rw [d_false (fun z => c0 ⟨z.1, fun y' x' hy' => z.2 y' x' (by omega)⟩)]
      · rintro ⟨q1, q2⟩ ⟨f1, f2⟩
        dsimp only at f1 f2
        subst f1
        dsimp only
        unfold fX8_areParted_51_b fX8_areParted_99
        rw [l_0, m0, if_pos (nI_le (Nat.le_refl _) (by omega)), nI_1, Option.bind_some]
        refine ⟨_, rfl, _, rfl, rfl, ?_⟩
        refine f2.trans (congrArg ds_q ?_)
        rw [Bool.eq_iff_iff, d_iff, d_iff]
        exact ⟨fun z => ⟨z.1, fun y' x hy' hx => z.2 y' x (by omega) hx⟩, fun z => ⟨z.1, fun y' x hy' => z.2 y' x (by omega)⟩⟩
    · rintro ⟨s1, s2⟩ ⟨e1, e2⟩
      dsimp only at e1 e2
      subst e1 e2
      dsimp only
      unfold fX8_areParted_38_b
      rw [l_1, m1, if_pos (nI_le (Nat.le_refl _) (by omega)), if_pos (q_01 _)]
      exact ⟨_, rfl, rfl⟩
  unfold fX8_areParted fX8_areParted_34
  have l0 := loop false
  have l1 := loop true
  rw [show ds_q false = 0 from rfl] at l0
  rw [show ds_q true = 1 from rfl] at l1
  have h1 := hlf w 0 (by omega) (by omega)
  have h2 := hlf 0 h (by omega) (by omega)
  rw [l_0, l_1, m0, m1, show (0 : Int32) = nI 0 from rfl, h1, Option.bind_some, h2, Option.bind_some, show nI 0 = (0 : Int32) from rfl, l0, l1, pa_tile hk]
  rw [d_false (p := false = true ∧ _) (fun z => Bool.noConfusion z.1)]
  by_cases c1 : ds_Hf w h hex o t tn (w : Nat) ((0 : Nat) : Int)
  · rw [d_true c1, if_neg (by decide)]
    by_cases c2 : ds_Hf w h hex o t tn ((0 : Nat) : Int) (h : Nat)
    · rw [d_true c2, if_neg (by decide)]
      congr 2
      rw [Bool.eq_iff_iff, d_iff, d_iff]
      exact ⟨fun z => ⟨⟨c1, c2⟩, z.2⟩, fun z => ⟨rfl, z.2⟩⟩
    · rw [d_false c2, if_pos (show ds_q false = 0 from rfl), d_false (fun z => c2 z.1.2)]
  · rw [d_false c1, if_pos (show ds_q false = 0 from rfl), d_false (fun z => c1 z.1.1)]

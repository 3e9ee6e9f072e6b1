/-! coloured: the reference, and both sides -/
theorem m_isCol {w h : Nat} (hk : ds_ok w h) {hex : Bool} {o t : Int64} {al : Nat → Int32} (hm : ds_MT w h hex o t al) {tn : Nat} (htn : tn < ds_nt hex) (q : ds_Mt w h hex o t tn) {a b : Nat} (ha : a < w) (hb : b < h) (bc cm : Nat → Int32) : ∃ bc' cm', fX8_isColoured bc cm al ds_tabF (nI tn) (nI a) (nI b) = some (ds_q (ds_d (ds_Cl w h hex o t tn a b)), bc', cm') := by
  obtain ⟨k1, k2, k3, k4⟩ := id hk
  obtain ⟨m0, m1, m2, m3⟩ := id hm
  obtain ⟨f, hf⟩ : ∃ f : Nat → Nat → Nat, ∀ x y, f x y = ds_co o t (ds_ix w h x y) := ⟨_, fun _ _ => rfl⟩
  obtain ⟨g, hg⟩ : ∃ g : Nat → Nat → Nat, ∀ x y, g x y = ds_co o t (ds_ix w h (ds_tx hex tn x y + a) (ds_ty2 hex tn x y + b)) := ⟨_, fun _ _ => rfl⟩
  have f4 : ∀ x y, f x y < 4 := fun x y => by rw [hf]; exact c_lt _ _ _
  have g4 : ∀ x y, g x y < 4 := fun x y => by rw [hg]; exact c_lt _ _ _
  have clf : ∀ x y u v : Nat, ds_Cl w h hex o t tn a b → (f x y = f u v ↔ g x y = g u v) := by
    intro x y u v z
    rw [hf, hf, hg, hg, P_co, P_co]
    exact z x y u v
  obtain ⟨S, hS⟩ : ∃ S : Nat → Nat → Nat → Nat → Prop, ∀ y x u v, S y x u v ↔ u < w ∧ (v < y ∨ (v = y ∧ u < x)) := ⟨_, fun _ _ _ _ => Iff.rfl⟩
  have bad : ∀ y x X Y, (∃ u v, S y x u v ∧ ¬ (f u v = f X Y ↔ g u v = g X Y)) → ¬ ds_Cl w h hex o t tn a b := by
    rintro y x X Y ⟨u, v, _, n⟩ z
    exact n (clf u v X Y z)
  have row : ∀ y, y < h → ∀ bc cm, ds_CI (S y 0) f g bc cm → ∃ z, fX8_isColoured_48 al ds_tabF (nI tn) (nI a) (nI b) (nI y) 0 bc cm = some z ∧ ((∃ bc' cm', z = .inl (nI (y + 1), bc', cm') ∧ ds_CI (S (y + 1) 0) f g bc' cm') ∨ ∃ bc' cm', z = .inr (0, bc', cm') ∧ ¬ ds_Cl w h hex o t tn a b) := by
    intro y hy bc cm hi
    unfold fX8_isColoured_48
    refine ds_it_inv _ (fun x s => ∃ bc cm, s = (nI x, bc, cm) ∧ ds_CI (S y x) f g bc cm) _ w 1000 0 _ (Nat.zero_le _) ⟨bc, cm, rfl, hi⟩ (by omega) ?_ ?_
    · rintro x s hx ⟨bc, cm, rfl, hi⟩
      try dsimp only
      have ts := t_small htn (x := (x : Int)) (y := (y : Int)) (n := 8) (by omega) (by omega) (by omega) (by omega)
      have mc := m_colour hk hm (x := (x : Int)) (y := (y : Int)) (by omega) (by omega) (by omega) (by omega)
      have mx := m_tx m2 htn (x : Int) (y : Int)
      have my := m_ty m2 htn (x : Int) (y : Int)
      have mg := m_colour hk hm (x := ds_tx hex tn x y + a) (y := ds_ty2 hex tn x y + b) (by omega) (by omega) (by omega) (by omega)
      rw [← z_nI, ← z_nI, ← hf] at mc
      rw [← z_nI, ← z_nI] at mx my
      rw [← hg, ← z_add, ← z_add, ← z_nI, ← z_nI] at mg
      unfold fX8_isColoured_48_b fX8_isColoured_120 fX8_isColoured_145
      rw [l_0, m0, if_neg (nI_ge hx (by omega)), mc, Option.bind_some, mx, Option.bind_some, my, Option.bind_some, mg, Option.bind_some]
      have f4' := f4 x y
      have g4' := g4 x y
      rw [if_pos (in_nI f4' (by omega)), if_pos (in_nI f4' (by omega)), if_pos (in_nI g4' (by omega)), if_pos (in_nI g4' (by omega)), if_pos (in_nI f4' (by omega)), if_pos (in_nI g4' (by omega)), nI_clamp (show f x y < 2147483648 by omega), nI_clamp (show g x y < 2147483648 by omega), nI_1]
      have S2 : ∀ u v, S y (x + 1) u v ↔ S y x u v ∨ (u = x ∧ v = y) := by
        intro u v; rw [hS, hS]; omega
      have goon : (bc (f x y) = -1 ∨ bc (f x y) = nI (g x y)) → (∃ s', (if cm (g x y) = -1 then some (Sum.inl (nI (x + 1), upd bc (f x y) (nI (g x y)), upd cm (g x y) (nI (f x y)))) else if cm (g x y) = nI (f x y) then some (Sum.inl (nI (x + 1), upd bc (f x y) (nI (g x y)), upd cm (g x y) (nI (f x y)))) else some (.inr (.inr ((0 : Int32), bc, cm))) : Option ((Int32 × (Nat → Int32) × (Nat → Int32)) ⊕ ((Int32 × (Nat → Int32) × (Nat → Int32)) ⊕ (Int32 × (Nat → Int32) × (Nat → Int32))))) = some (.inl s') ∧ ∃ bc cm, s' = (nI (x + 1), bc, cm) ∧ ds_CI (S y (x + 1)) f g bc cm) ∨ ∃ r, (if cm (g x y) = -1 then some (Sum.inl (nI (x + 1), upd bc (f x y) (nI (g x y)), upd cm (g x y) (nI (f x y)))) else if cm (g x y) = nI (f x y) then some (Sum.inl (nI (x + 1), upd bc (f x y) (nI (g x y)), upd cm (g x y) (nI (f x y)))) else some (.inr (.inr ((0 : Int32), bc, cm))) : Option ((Int32 × (Nat → Int32) × (Nat → Int32)) ⊕ ((Int32 × (Nat → Int32) × (Nat → Int32)) ⊕ (Int32 × (Nat → Int32) × (Nat → Int32))))) = some (.inr r) ∧ ((∃ bc' cm', r = .inl (nI (y + 1), bc', cm') ∧ ds_CI (S (y + 1) 0) f g bc' cm') ∨ ∃ bc' cm', r = .inr (0, bc', cm') ∧ ¬ ds_Cl w h hex o t tn a b) := by
        intro c1
        by_cases d1 : cm (g x y) = -1
        · left; rw [if_pos d1]; exact ⟨_, rfl, _, _, rfl, CI_step f4 g4 hi S2 c1 (Or.inl d1)⟩
        · by_cases d2 : cm (g x y) = nI (f x y)
          · left; rw [if_neg d1, if_pos d2]; exact ⟨_, rfl, _, _, rfl, CI_step f4 g4 hi S2 c1 (Or.inr d2)⟩
          · right; rw [if_neg d1, if_neg d2]; exact ⟨_, rfl, Or.inr ⟨_, _, rfl, bad y x x y (CI_bad2 g4 hi d1 d2)⟩⟩
      by_cases c1 : bc (f x y) = -1
      · rw [if_pos c1]; exact goon (Or.inl c1)
      · rw [if_neg c1]
        by_cases c2 : bc (f x y) = nI (g x y)
        · rw [if_pos c2]; exact goon (Or.inr c2)
        · rw [if_neg c2]
          right
          exact ⟨_, rfl, Or.inr ⟨_, _, rfl, bad y x x y (CI_bad1 f4 hi c1 c2)⟩⟩
    · rintro s ⟨bc, cm, rfl, hi⟩
      try dsimp only
      unfold fX8_isColoured_48_b fX8_isColoured_169
      rw [l_0, m0, if_pos (nI_le (Nat.le_refl _) (by omega)), nI_1]
      refine ⟨_, rfl, Or.inl ⟨_, _, rfl, ?_⟩⟩
      have : S (y + 1) 0 = S y w := by
        funext u v; apply propext; rw [hS, hS]; omega
      rw [this]; exact hi
  have all : ∀ bc cm, ds_CI (S 0 0) f g bc cm → ∃ bc' cm', fX8_isColoured_31 bc cm al ds_tabF (nI tn) (nI a) (nI b) = some (ds_q (ds_d (ds_Cl w h hex o t tn a b)), bc', cm') := by
    intro bc cm hi
    unfold fX8_isColoured_31 fX8_isColoured_34
    have fin := ds_it_inv (fun s : Int32 × (Nat → Int32) × (Nat → Int32) => fX8_isColoured_34_b al ds_tabF (nI tn) (nI a) (nI b) s.1 s.2.1 s.2.2) (fun y s => ∃ bc cm, s = (nI y, bc, cm) ∧ ds_CI (S y 0) f g bc cm) (fun r => ∃ bc' cm', r = (ds_q (ds_d (ds_Cl w h hex o t tn a b)), bc', cm')) h 1000 0 (0, bc, cm) (Nat.zero_le _) ⟨bc, cm, rfl, hi⟩ (by omega) ?_ ?_
    · obtain ⟨r, e, bc', cm', q1⟩ := fin
      exact ⟨bc', cm', e.trans (congrArg some q1)⟩
    · rintro y s hy ⟨bc, cm, rfl, hi⟩
      try dsimp only
      unfold fX8_isColoured_34_b
      rw [l_1, m1, if_neg (nI_ge hy (by omega))]
      obtain ⟨z, e, q⟩ := row y hy bc cm hi
      rw [e]
      rcases q with ⟨bc', cm', rfl, q⟩ | ⟨bc', cm', rfl, q⟩
      · left; exact ⟨_, rfl, _, _, rfl, q⟩
      · right; exact ⟨_, rfl, _, _, by rw [d_false q]; rfl⟩
    · rintro s ⟨bc, cm, rfl, hi⟩
      try dsimp only
      unfold fX8_isColoured_34_b
      rw [l_1, m1, if_pos (nI_le (Nat.le_refl _) (by omega))]
      have : ds_Cl w h hex o t tn a b := by
        refine Cl_fin hk q fun x y u v hx hy hu hv => ?_
        have := hi.2.2 x y u v ((hS _ _ _ _).mpr (by omega)) ((hS _ _ _ _).mpr (by omega))
        rw [hf, hf, hg, hg, P_co, P_co] at this
        exact this
      exact ⟨_, rfl, _, _, by rw [d_true this]; rfl⟩
  unfold fX8_isColoured fX8_isColoured_3
  have fin := ds_it_inv (fun s : Int32 × (Nat → Int32) × (Nat → Int32) => fX8_isColoured_3_b al ds_tabF (nI tn) (nI a) (nI b) s.1 s.2.1 s.2.2) (fun k s => ∃ bc cm, s = (nI k, bc, cm) ∧ ∀ c, c < k → bc c = -1 ∧ cm c = -1) (fun r => ∃ bc' cm', r = (ds_q (ds_d (ds_Cl w h hex o t tn a b)), bc', cm')) 4 1000 0 (0, bc, cm) (Nat.zero_le _) ⟨bc, cm, rfl, fun c hc => by omega⟩ (by omega) ?_ ?_
  · obtain ⟨r, e, bc', cm', q1⟩ := fin
    exact ⟨bc', cm', e.trans (congrArg some q1)⟩
  · rintro k s hk4 ⟨bc, cm, rfl, hi⟩
    try dsimp only
    unfold fX8_isColoured_3_b
    left
    rw [show (4 : Int32) = nI 4 from rfl, if_neg (nI_ge hk4 (by omega)), if_pos (in_nI hk4 (by omega)), if_pos (in_nI hk4 (by omega)), nI_clamp (by omega), nI_1]
    refine ⟨_, rfl, _, _, rfl, fun c hc => ?_⟩
    by_cases e : c = k
    · rw [e, upd_at, upd_at]; exact ⟨rfl, rfl⟩
    · rw [upd_ne _ _ e, upd_ne _ _ e]; exact hi c (by omega)
  · rintro s ⟨bc, cm, rfl, hi⟩
    try dsimp only
    unfold fX8_isColoured_3_b
    rw [if_pos (by decide)]
    obtain ⟨bc', cm', e⟩ := all bc cm ⟨fun c hc => Or.inl ⟨(hi c hc).1, fun x y s => by rw [hS] at s; omega⟩, fun c hc => Or.inl ⟨(hi c hc).2, fun x y s => by rw [hS] at s; omega⟩, fun x y u v s => by rw [hS] at s; omega⟩
    rw [e]
    exact ⟨_, rfl, _, _, rfl⟩
theorem col_loops {w h : Nat} (hk : ds_ok w h) {hex : Bool} {o t o' t' : Int64} {al sr : Nat → Int32} (hm : ds_MT w h hex o t al) {tn : Nat} (htn : tn < ds_nt hex) (q : ds_Mt w h hex o t tn) (hP : ∀ x y : Int, ds_P w h o' t' x y = ds_P w h o t (ds_tx hex (ds_iv hex tn) x y) (ds_ty2 hex (ds_iv hex tn) x y)) (hx : Int32) (bc cm : Nat → Int32) :
    ∃ v bc' cm', fX0_recolourings_28 (nI w) (nI h) o t (nI w) (nI h) hx o' t' 0 0 = some (v, nI w, nI h, hx, o', t') ∧ fX8_coloured_47 0 al ds_tabF sr (nI tn) 1 0 0 bc cm = some (v, 0, sr, bc', cm') := by
  obtain ⟨k1, k2, k3, k4⟩ := id hk
  obtain ⟨m0, m1, m2, m3⟩ := id hm
  have inner : ∀ y n bc cm, y < h → ∃ z1 z2, fX0_recolourings_42 (nI w) (nI h) o t (nI w) (nI h) o' t' (nI y) n 0 = some z1 ∧ fX8_coloured_61 al ds_tabF (nI tn) 1 (nI y) n 0 bc cm = some z2 ∧ ∃ n' bc' cm', z1 = .inl (n', nI (y + 1)) ∧ z2 = .inl (n', nI (y + 1), bc', cm') := by
    intro y n bc cm hy
    unfold fX0_recolourings_42 fX8_coloured_61
    refine ds_it_two _ _ (fun x s1 s2 => ∃ n' bc' cm', s1 = (n', nI x) ∧ s2 = (n', nI x, bc', cm')) _ w 1000 0 _ _ (Nat.zero_le _) ⟨n, bc, cm, rfl, rfl⟩ (by omega) ?_ ?_
    · rintro x s1 s2 hx ⟨n', bc, cm, rfl, rfl⟩
      try dsimp only
      left
      obtain ⟨bc', cm', e⟩ := m_isCol hk hm htn q hx hy bc cm
      have e2 := g_apart hk (o := o) (t := t) (o' := o') (t' := t') (a := x) (b := y) (by omega) (by omega)
      unfold fX0_recolourings_42_b fX8_coloured_61_b fX0_recolourings_67 fX8_coloured_94 fX8_coloured_95
      rw [l_0, m0, if_neg (nI_ge hx (by omega)), if_neg (nI_ge hx (by omega)), if_neg (show ¬ (1 : Int32) = 0 by decide), e, Option.bind_some, e2, Option.bind_some]
      try dsimp only
      rw [nI_1]
      by_cases c : ds_Cl w h hex o t tn x y
      · rw [d_true c, d_true ((Cl_class htn hP).mpr c), if_neg (show ¬ ds_q true = 0 by decide), if_neg (show ¬ ds_q true = 0 by decide)]
        exact ⟨_, _, rfl, rfl, _, _, _, rfl, rfl⟩
      · rw [d_false c, d_false (fun z => c ((Cl_class htn hP).mp z)), if_pos (show ds_q false = 0 from rfl), if_pos (show ds_q false = 0 from rfl)]
        exact ⟨_, _, rfl, rfl, n', _, _, rfl, by rw [show n' + 0 = n' from Int32.add_zero n']⟩
    · rintro s1 s2 ⟨n', bc, cm, rfl, rfl⟩
      try dsimp only
      unfold fX0_recolourings_42_b fX8_coloured_61_b fX0_recolourings_73 fX8_coloured_103
      rw [l_0, m0, if_pos (nI_le (Nat.le_refl _) (by omega)), if_pos (nI_le (Nat.le_refl _) (by omega)), nI_1]
      exact ⟨_, _, rfl, rfl, _, _, _, rfl, rfl⟩
  unfold fX0_recolourings_28 fX8_coloured_47
  have fin := ds_it_two (fun s : Int32 × Int32 => fX0_recolourings_28_b (nI w) (nI h) o t (nI w) (nI h) hx o' t' s.1 s.2) (fun s : Int32 × Int32 × (Nat → Int32) × (Nat → Int32) => fX8_coloured_47_b 0 al ds_tabF sr (nI tn) 1 s.1 s.2.1 s.2.2.1 s.2.2.2) (fun y s1 s2 => ∃ n' bc' cm', s1 = (n', nI y) ∧ s2 = (n', nI y, bc', cm')) (fun r1 r2 => ∃ v bc' cm', r1 = (v, nI w, nI h, hx, o', t') ∧ r2 = (v, 0, sr, bc', cm')) h 1000 0 (0, 0) (0, 0, bc, cm) (Nat.zero_le _) ⟨0, bc, cm, rfl, rfl⟩ (by omega) ?_ ?_
  · obtain ⟨r1, r2, e1, e2, v, bc', cm', q1, q2⟩ := fin
    exact ⟨v, bc', cm', e1.trans (congrArg some q1), e2.trans (congrArg some q2)⟩
  · rintro y s1 s2 hy ⟨n, bc, cm, rfl, rfl⟩
    try dsimp only
    obtain ⟨z1, z2, i1, i2, n', bc', cm', rfl, rfl⟩ := inner y n bc cm hy
    unfold fX0_recolourings_28_b fX8_coloured_47_b
    rw [l_1, m1, if_neg (nI_ge hy (by omega)), if_neg (nI_ge hy (by omega)), i1, i2]
    left; exact ⟨_, _, rfl, rfl, _, _, _, rfl, rfl⟩
  · rintro s1 s2 ⟨n, bc, cm, rfl, rfl⟩
    try dsimp only
    unfold fX0_recolourings_28_b fX8_coloured_47_b
    rw [l_1, m1, if_pos (nI_le (Nat.le_refl _) (by omega)), if_pos (nI_le (Nat.le_refl _) (by omega))]
    exact ⟨_, _, rfl, rfl, _, _, _, rfl, rfl⟩
theorem col_none {w h : Nat} (hk : ds_ok w h) {hex : Bool} {o t : Int64} {al : Nat → Int32} (hm : ds_MT w h hex o t al) (sr : Nat → Int32) (p : Int32) (bc cm : Nat → Int32) : fX8_coloured_47 0 al ds_tabF sr p 0 0 0 bc cm = some (0, 0, sr, bc, cm) := by
  obtain ⟨k1, k2, k3, k4⟩ := id hk
  obtain ⟨m0, m1, m2, m3⟩ := id hm
  unfold fX8_coloured_47
  refine ds_it_up _ (fun y => ((0 : Int32), nI y, bc, cm)) h 1000 (some (0, 0, sr, bc, cm)) (fun y hy => ?_) ?_ (by omega)
  · try dsimp only
    unfold fX8_coloured_47_b fX8_coloured_61
    rw [l_1, m1, if_neg (nI_ge hy (by omega))]
    refine ds_it_up _ (fun x => ((0 : Int32), nI x, bc, cm)) w 1000 (some (Sum.inl (0, nI (y + 1), bc, cm))) (fun x hx => ?_) ?_ (by omega)
    · try dsimp only
      unfold fX8_coloured_61_b fX8_coloured_94 fX8_coloured_95
      rw [l_0, m0, if_neg (nI_ge hx (by omega)), if_pos rfl, nI_1]; rfl
    · try dsimp only
      unfold fX8_coloured_61_b fX8_coloured_103
      rw [l_0, m0, if_pos (nI_le (Nat.le_refl _) (by omega)), nI_1]; rfl
  · try dsimp only
    unfold fX8_coloured_47_b
    rw [l_1, m1, if_pos (nI_le (Nat.le_refl _) (by omega))]; rfl
theorem p_isT32 (hex : Bool) (p1 : Int32) : fX1_isTurning (ds_q hex) p1 = some (ds_q (decide (0 ≤ p1.toInt ∧ p1.toInt ≤ (ds_nt hex : Int) - 1))) := by
  obtain ⟨n1, n2, n3, n4⟩ := nt_le hex
  unfold fX1_isTurning
  by_cases c1 : p1.toInt < 0
  · rw [if_pos ((i_lt0 p1).mpr c1), decide_eq_false (by omega)]; rfl
  · rw [if_neg (fun z => c1 ((i_lt0 p1).mp z)), (p_nt hex).1, Option.bind_some, z_nI]
    by_cases c2 : (ds_nt hex : Int) ≤ p1.toInt
    · rw [if_pos ((i_ge p1 (by omega) (by omega)).mpr c2), decide_eq_false (by omega)]; rfl
    · rw [if_neg (fun z => c2 ((i_ge p1 (by omega) (by omega)).mp z)), decide_eq_true (by omega)]; rfl
theorem q_coloured {w h : Nat} (hk : ds_ok w h) {hex : Bool} {o t : Int64} (ho : ds_sub w h o) (ht : ds_sub w h t) {lk sf fx fy sx sy sw sh shx : Int32} {so st : Int64} {fd : Nat → Int64} (hg : ds_GI lk sf fx fy sx sy sw sh shx so st fd) (tw th tx : Int32) (to tt : Int64) {al sr : Nat → Int32} (hm : ds_MT w h hex o t al) (h01 : ds_01 sr) (bc cm : Nat → Int32) (p1 p2 : Int32) :
    ∃ v lk' sf' sw' sh' shx' so' st' fd' tw' th' tx' to' tt', fX7_coloured (nI w) (nI h) (ds_q hex) o t lk sf sw sh shx so st fd tw th tx to tt p1 p2 = some (v, lk', sf', sw', sh', shx', so', st', fd', tw', th', tx', to', tt') ∧ ds_GI lk' sf' fx fy sx sy sw' sh' shx' so' st' fd' ∧ ∃ sr' bc' cm', fX8_coloured al ds_tabF sr bc cm p1 p2 = some (v, 0, sr', bc', cm') ∧ ds_01 sr' := by
  obtain ⟨n1, n2, n3, n4⟩ := nt_le hex
  obtain ⟨m0, m1, m2, m3⟩ := id hm
  obtain ⟨sf', fd', tw', th', tx', to', tt', e, gv, s⟩ := look hk (hex := hex) ho ht hg tw th tx to tt
  obtain ⟨sr', e2, s01, sv⟩ := m_lays hk hm h01
  have nm : nI (ds_nt hex) - 1 = ds_z ((ds_nt hex : Int) - 1) := by rw [z_nI, show (1 : Int32) = ds_z 1 from rfl, z_sub]
  unfold fX7_coloured fX8_coloured
  rw [m_turnings m2, Option.bind_some, nm, show fX8_in p1 0 (ds_z ((ds_nt hex : Int) - 1)) = _ from p_in p1 (a := 0) (by omega) (by omega) (by omega) (by omega), Option.bind_some, p_isT32, Option.bind_some]
  by_cases c : 0 ≤ p1.toInt ∧ p1.toInt ≤ (ds_nt hex : Int) - 1
  rotate_left
  · rw [decide_eq_false c, if_pos (show ds_q false = 0 from rfl), if_pos (show ds_q false = 0 from rfl)]
    exact ⟨_, _, _, _, _, _, _, _, _, _, _, _, _, _, rfl, hg, _, _, _, rfl, h01⟩
  obtain ⟨tn, htn, rfl⟩ : ∃ tn, tn < ds_nt hex ∧ p1 = nI tn := ⟨p1.toInt.toNat, by omega, by rw [z_nI, Int.toNat_of_nonneg (by omega), z_of]⟩
  rw [decide_eq_true c, if_neg (show ¬ ds_q true = 0 by decide), if_neg (show ¬ ds_q true = 0 by decide), e, Option.bind_some, e2, Option.bind_some]
  try dsimp only
  by_cases c2 : p2 = 0
  rotate_left
  · rw [if_neg c2, if_neg c2, p_sf (by omega), Option.bind_some, g_ns hk (gv tn (by omega)) htn, Option.bind_some, m_ns hk hm s01 htn (sv tn htn), Option.bind_some]
    exact ⟨_, _, _, _, _, _, _, _, _, _, _, _, _, _, rfl, GI_of hk gv s, _, _, _, rfl, s01⟩
  rw [if_pos c2, if_pos c2]
  obtain ⟨q, o', t', e3, so', st', hq, hP⟩ := p_turn hk ho ht hex hex htn
  obtain ⟨mq, e4, hmq⟩ := m_may hk hm s01 (sv 0 (by omega)) htn
  have hmq' : mq = true ↔ ds_Mt w h hex o t tn := hmq
  have hq' : q = true ↔ ds_Mt w h hex o t tn := hq.trans (Mt_iv htn)
  unfold fX0_recolourings
  rw [e3, Option.bind_some, e4, Option.bind_some]
  try dsimp only
  by_cases c3 : ds_Mt w h hex o t tn
  · have a := hmq'.mpr c3
    have b := hq'.mpr c3
    subst a b
    rw [if_neg (show ¬ ds_q true = 0 by decide), show ds_q true = (1 : Int32) from rfl]
    obtain ⟨v, bc', cm', l1, l2⟩ := col_loops hk hm htn c3 (hP rfl) (ds_q hex) (sr := sr') bc cm
    rw [l1, l2, Option.bind_some]
    exact ⟨_, _, _, _, _, _, _, _, _, _, _, _, _, _, rfl, GI_of hk gv s, _, _, _, rfl, s01⟩
  · have a : mq = false := by cases mq; rfl; exact absurd (hmq'.mp rfl) c3
    have b : q = false := by cases q; rfl; exact absurd (hq'.mp rfl) c3
    subst a b
    rw [if_pos (show ds_q false = 0 from rfl), show ds_q false = (0 : Int32) from rfl, col_none hk hm, Option.bind_some]
    exact ⟨_, _, _, _, _, _, _, _, _, _, _, _, _, _, rfl, GI_of hk gv s, _, _, _, rfl, s01⟩

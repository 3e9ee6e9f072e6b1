/-! flaws, orbit, nearest -/
theorem fit_tab : ∀ c, c < 17 → ∀ n, n < 9 → fX2_fits (nI c) (nI n) = some (ds_q (ds_fit n c)) ∧ (Option.bind (fX8_needsEven ds_hvF (nI c)) fun q56 => if q56 = 0 then fX8_mayAsk_74 else if (ds_rem (nI n) (2 : Int32)) = (1 : Int32) then some (0 : Int32) else fX8_mayAsk_74) = some (ds_q (ds_fit n c)) := by decide +kernel
theorem i_lt12 (p : Int32) : p < 12 ↔ p.toInt < 12 := i_lt p (k := 12) (by omega) (by omega)
theorem i_ge17 (p : Int32) : 17 ≤ p ↔ 17 ≤ p.toInt := i_ge p (k := 17) (by omega) (by omega)
theorem q_ask {w h : Nat} (hk : ds_ok w h) {hex : Bool} {o t : Int64} {al : Nat → Int32} (hm : ds_MT w h hex o t al) (p : Int32) :
    (∃ c, c < 17 ∧ p = nI c ∧ w = h ∧ hex = ds_chx c ∧ ds_fit w c = true ∧ fX7_canBeAsked (nI w) (nI h) (ds_q hex) p = some 1 ∧ fX8_mayAsk al ds_hvF p = some 1) ∨ ((¬ ∃ c, c < 17 ∧ p = nI c ∧ w = h ∧ hex = ds_chx c ∧ ds_fit w c = true) ∧ fX7_canBeAsked (nI w) (nI h) (ds_q hex) p = some 0 ∧ fX8_mayAsk al ds_hvF p = some 0) := by
  obtain ⟨k1, k2, k3, k4⟩ := id hk
  obtain ⟨m0, m1, m2, m3⟩ := id hm
  have pin : fX8_in p 0 16 = some (ds_q (decide (0 ≤ p.toInt ∧ p.toInt ≤ 16))) := p_in p (a := 0) (b := 16) (by omega) (by omega) (by omega) (by omega)
  unfold fX7_canBeAsked fX8_mayAsk fX7_isClass
  rw [pin, Option.bind_some, l_0, l_1, show (2 : Int32).toNatClampNeg = 2 from rfl, m0, m1, m2]
  by_cases c0 : 0 ≤ p.toInt ∧ p.toInt ≤ 16
  · obtain ⟨c, hc, rfl⟩ : ∃ c, c < 17 ∧ p = nI c := ⟨p.toInt.toNat, by omega, by rw [z_nI, Int.toNat_of_nonneg (by omega), z_of]⟩
    have pc := n_toInt (show c < 1000000 by omega)
    rw [if_neg (fun z => by have := (i_lt0 _).mp z; omega), if_neg (fun z => by have := (i_ge17 _).mp z; omega), Option.bind_some, if_neg (show ¬ (1 : Int32) = 0 by decide), decide_eq_true c0, if_neg (show ¬ ds_q true = 0 by decide)]
    by_cases c1 : w = h
    · subst c1
      obtain ⟨f1, f2⟩ := fit_tab c hc w (by omega)
      rw [if_pos rfl, if_pos rfl]
      have cls : (if nI c < 12 then fX7_canBeAsked_41 (nI w) (nI c) 0 (ds_q hex) else fX7_canBeAsked_41 (nI w) (nI c) 1 (ds_q hex)) = if hex = ds_chx c then some (ds_q (ds_fit w c)) else some 0 := by
        unfold fX7_canBeAsked_41
        rw [f1, Option.bind_some]
        have q1 : (if ds_q (ds_fit w c) = 0 then some (0 : Int32) else some 1) = some (ds_q (ds_fit w c)) := by cases ds_fit w c <;> rfl
        rw [q1]
        by_cases c2 : c < 12
        · rw [if_pos ((i_lt12 _).mpr (by omega))]
          have : ds_chx c = false := decide_eq_false (by omega)
          rw [this]; cases hex <;> rfl
        · rw [if_neg (fun z => by have := (i_lt12 _).mp z; omega)]
          have : ds_chx c = true := decide_eq_true (by omega)
          rw [this]; cases hex <;> rfl
      have ref : (if ds_q hex = 1 then fX8_mayAsk_40 al ds_hvF (nI c) 1 else fX8_mayAsk_40 al ds_hvF (nI c) 0) = if hex = ds_chx c then some (ds_q (ds_fit w c)) else some 0 := by
        unfold fX8_mayAsk_40 fX8_mayAsk_51
        rw [l_0, m0, f2]
        by_cases c2 : c < 12
        · rw [if_pos ((i_lt12 _).mpr (by omega)), if_pos ((i_lt12 _).mpr (by omega))]
          have : ds_chx c = false := decide_eq_false (by omega)
          rw [this]; cases hex <;> rfl
        · have nl : ¬ nI c < 12 := fun z => by have := (i_lt12 _).mp z; omega
          rw [if_neg nl, if_neg nl]
          have : ds_chx c = true := decide_eq_true (by omega)
          rw [this]; cases hex <;> rfl
      rw [cls, ref]
      by_cases c2 : hex = ds_chx c
      · rw [if_pos c2]
        cases c3 : ds_fit w c
        · right
          refine ⟨?_, rfl, rfl⟩
          rintro ⟨c', hc', e, _, _, z⟩
          have := (n_inj (by omega) (by omega)).mp e
          rw [← this, c3] at z; cases z
        · left; exact ⟨c, hc, rfl, rfl, c2, c3, rfl, rfl⟩
      · rw [if_neg c2]
        right
        refine ⟨?_, rfl, rfl⟩
        rintro ⟨c', hc', e, _, z, _⟩
        have := (n_inj (by omega) (by omega)).mp e
        rw [← this] at z; exact c2 z
    · have c1' : ¬ nI w = nI h := fun z => c1 ((n_inj (by omega) (by omega)).mp z)
      rw [if_neg c1', if_neg c1']
      right
      exact ⟨fun ⟨_, _, _, z, _⟩ => c1 z, rfl, rfl⟩
  · right
    rw [decide_eq_false c0, if_pos (show ds_q false = 0 from rfl)]
    refine ⟨?_, ?_, rfl⟩
    · rintro ⟨c, hc, rfl, _⟩
      rw [n_toInt (by omega)] at c0; omega
    · by_cases c1 : p.toInt < 0
      · rw [if_pos ((i_lt0 _).mpr c1)]; rfl
      · rw [if_neg (fun z => c1 ((i_lt0 _).mp z)), if_pos ((i_ge17 _).mpr (by omega))]; rfl
theorem q_flaws {w h : Nat} (hk : ds_ok w h) {hex : Bool} {o t : Int64} {al : Nat → Int32} (hm : ds_MT w h hex o t al) (sz : Int32) (mem : Nat → Int64) (R : Nat → Int32) (p : Int32) : ∃ v sz' mem' R', fX7_flaws (nI w) (nI h) (ds_q hex) o t sz mem p = some (v, sz', mem') ∧ fX8_flaws al ds_hvF R ds_mrF ds_tabF p = some (v, 0, R') := by
  unfold fX7_flaws fX8_flaws
  rcases q_ask hk hm p with ⟨c, hc, rfl, rfl, rfl, hf, e1, e2⟩ | ⟨_, e1, e2⟩
  · obtain ⟨mem', e3, hv⟩ := g_split hk hc hf mem
    obtain ⟨R', e4, hr⟩ := m_orbits hk hc hf hm R
    rw [e1, Option.bind_some, e2, Option.bind_some, if_neg (show ¬ (1 : Int32) = 0 by decide), if_neg (show ¬ (1 : Int32) = 0 by decide), e3, Option.bind_some, e4, Option.bind_some]
    try dsimp only
    rw [g_flaws hk hc hf o t hv, Option.bind_some, m_flawed hk hc hf hm hr, Option.bind_some]
    exact ⟨_, _, _, _, rfl, rfl⟩
  · rw [e1, Option.bind_some, e2, Option.bind_some]
    exact ⟨_, _, _, _, rfl, rfl⟩
theorem q_has {w h : Nat} (hk : ds_ok w h) {hex : Bool} {o t : Int64} {al : Nat → Int32} (hm : ds_MT w h hex o t al) (x y : Int32) : (∃ a b, a < w ∧ b < h ∧ x = nI a ∧ y = nI b ∧ fX6_has (nI w) (nI h) x y = some 1 ∧ fX8_isCell al x y = some 1) ∨ (fX6_has (nI w) (nI h) x y = some 0 ∧ fX8_isCell al x y = some 0) := by
  obtain ⟨k1, k2, k3, k4⟩ := id hk
  obtain ⟨m0, m1, m2, m3⟩ := id hm
  have px : ∀ p : Int32, ∀ n : Nat, 1 ≤ n → n ≤ 8 → fX8_in p 0 (nI n - 1) = some (ds_q (decide (0 ≤ p.toInt ∧ p.toInt < n))) := by
    intro p n h1 h2
    rw [show nI n - 1 = ds_z ((n : Int) - 1) by rw [z_nI, show (1 : Int32) = ds_z 1 from rfl, z_sub]]
    refine (p_in p (a := 0) (by omega) (by omega) (by omega) (by omega)).trans ?_
    congr 2
    exact decide_eq_decide.mpr (by omega)
  have gn : ∀ p : Int32, ∀ n : Nat, n ≤ 8 → (nI n ≤ p ↔ (n : Int) ≤ p.toInt) := by
    intro p n h2
    rw [z_nI]; exact i_ge p (by omega) (by omega)
  unfold fX6_has fX8_isCell
  rw [l_0, l_1, m0, m1, px x w k1 k2, Option.bind_some, px y h k3 k4, Option.bind_some]
  by_cases c1 : 0 ≤ x.toInt ∧ x.toInt < w
  · rw [decide_eq_true c1, if_neg (fun z => by have := (i_lt0 x).mp z; omega), if_neg (fun z => by have := (gn x w k2).mp z; omega), if_neg (show ¬ ds_q true = 0 by decide)]
    by_cases c2 : 0 ≤ y.toInt ∧ y.toInt < h
    · rw [decide_eq_true c2, if_neg (fun z => by have := (i_lt0 y).mp z; omega), if_neg (fun z => by have := (gn y h k4).mp z; omega)]
      left
      exact ⟨x.toInt.toNat, y.toInt.toNat, by omega, by omega, by rw [z_nI, Int.toNat_of_nonneg (by omega), z_of], by rw [z_nI, Int.toNat_of_nonneg (by omega), z_of], rfl, rfl⟩
    · rw [decide_eq_false c2]
      right
      refine ⟨?_, rfl⟩
      by_cases c3 : y.toInt < 0
      · rw [if_pos ((i_lt0 y).mpr c3)]
      · rw [if_neg (fun z => c3 ((i_lt0 y).mp z)), if_pos ((gn y h k4).mpr (by omega))]
  · rw [decide_eq_false c1]
    right
    refine ⟨?_, rfl⟩
    by_cases c3 : x.toInt < 0
    · rw [if_pos ((i_lt0 x).mpr c3)]
    · rw [if_neg (fun z => c3 ((i_lt0 x).mp z)), if_pos ((gn x w k2).mpr (by omega))]
theorem ins_mk {w h i : Nat} (q : i % 8 < w ∧ i / 8 < h) : ds_ins w h i = true := by unfold ds_ins; rw [decide_eq_true q.1, decide_eq_true q.2]; rfl
theorem q_orbit {w h : Nat} (hk : ds_ok w h) {hex : Bool} {o t : Int64} {al : Nat → Int32} (hm : ds_MT w h hex o t al) (sz : Int32) (mem : Nat → Int64) (R : Nat → Int32) (p x y f : Int32) : ∃ v sz' mem' R', fX7_orbit (nI w) (nI h) (ds_q hex) sz mem p x y f = some (v, sz', mem') ∧ fX8_orbit al ds_hvF R ds_mrF ds_tabF p x y f = some (v, 0, R') := by
  unfold fX7_orbit fX8_orbit
  rcases q_ask hk hm p with ⟨c, hc, rfl, rfl, rfl, hf, e1, e2⟩ | ⟨_, e1, e2⟩
  rotate_left
  · rw [e1, Option.bind_some, e2, Option.bind_some]
    exact ⟨_, _, _, _, rfl, rfl⟩
  rw [e1, Option.bind_some, e2, Option.bind_some, if_neg (show ¬ (1 : Int32) = 0 by decide), if_neg (show ¬ (1 : Int32) = 0 by decide)]
  rcases q_has hk hm x y with ⟨a, b, ha, hb, rfl, rfl, e3, e4⟩ | ⟨e3, e4⟩
  rotate_left
  · rw [e3, Option.bind_some, e4, Option.bind_some]
    exact ⟨_, _, _, _, rfl, rfl⟩
  rw [e3, Option.bind_some, e4, Option.bind_some, if_neg (show ¬ (1 : Int32) = 0 by decide), if_neg (show ¬ (1 : Int32) = 0 by decide)]
  obtain ⟨k1, k2, k3, k4⟩ := id hk
  obtain ⟨mem', e5, hv⟩ := g_split hk hc hf mem
  obtain ⟨R', e6, r, u, ui, uk⟩ := m_orbits hk hc hf hm R
  obtain ⟨j1, j2, j3, j4⟩ := ins_xy hk ha hb
  have hK := Ko_Eq hk hc hf
  have rl := (u _ j4).1
  have rr := uf_rr u _ j4
  have ri := ui _ j4 j1
  have ld : ds_ld w w (ds_Ko w c) (r (8 * b + a)) := (KR_lead u ui uk (show r (8 * b + a) < 64 by omega) ri).mp rr
  have kr : ds_Ko w c (r (8 * b + a)) (8 * b + a) := (uk _ _ (by omega) j4 ri j1).mp rr
  -- the class finds the members of the leader
  have wc : fX2_withCell mem' (nI a) (nI b) = some (mem' (r (8 * b + a))) := by
    unfold fX2_withCell fX2_withCell_9
    rw [p_bit (by omega) (by omega), Option.bind_some]
    refine ds_it_up _ (fun k => nI k) (r (8 * b + a)) 1000 (some (mem' (r (8 * b + a)))) (fun k hk' => ?_) ?_ (by omega)
    · try dsimp only
      unfold fX2_withCell_9_b
      rw [show (64 : Int32) = nI 64 from rfl, if_neg (nI_ge (show k < 64 by omega) (by omega)), if_pos (in_nI (show k < 64 by omega) (by omega)), nI_clamp (by omega), nI_1, if_pos]
      rw [b_cmp]
      apply b_ext
      intro i hi
      rw [b_zero, b_and, b_bit _ j4 i hi]
      by_cases e : i = 8 * b + a
      · subst e
        rw [decide_eq_true rfl, Bool.and_true]
        cases q : ds_b (mem' k) (8 * b + a)
        · rfl
        · have hvk := hv k (by omega)
          by_cases l : ds_ld w w (ds_Ko w c) k
          · have kk := ((hvk.1 l).2 _ j4 j1).mp q
            have := l.2.2
            have k2 := ld.2.2 k (by omega) l.2.1 (hK.2.2 _ _ _ (by omega) j4 (by omega) kk (hK.2.1 _ _ (by omega) j4 kr))
            omega
          · rw [hvk.2 l, b_zero] at q; cases q
      · rw [decide_eq_false e, Bool.and_false]
    · try dsimp only
      unfold fX2_withCell_9_b fX2_withCell_33
      rw [show (64 : Int32) = nI 64 from rfl, if_neg (nI_ge (show r (8 * b + a) < 64 by omega) (by omega)), if_pos (in_nI (show r (8 * b + a) < 64 by omega) (by omega)), nI_clamp (by omega), if_neg, if_pos (in_nI (show r (8 * b + a) < 64 by omega) (by omega))]
      · rfl
      intro z
      have z' := congrArg (fun v => ds_b v (8 * b + a)) ((b_cmp _ _).mp z)
      try dsimp only at z'
      rw [b_zero, b_and, b_bit _ j4 _ j4, decide_eq_true rfl, Bool.and_true, (((hv _ (show r (8 * b + a) < 64 by omega)).1 ld).2 _ j4 j1).mpr kr] at z'
      cases z'
  rw [e5, Option.bind_some, e6, Option.bind_some]
  try dsimp only
  rw [wc, Option.bind_some, sh_8, nI_add, uf_root u j4, Option.bind_some]
  have hvr := hv (r (8 * b + a)) (by omega)
  by_cases c1 : f = 0
  · rw [if_pos c1, if_pos c1, p_bitCount, Option.bind_some, m_orbitSize hk hc hf hm u uk (by omega) ri rr, Option.bind_some]
    have : ds_ct (ds_b (mem' (r (8 * b + a)))) 64 = ds_oz w c (r (8 * b + a)) := ct_cong (fun i hi => ob_b hvr ld hi)
    rw [this]
    exact ⟨_, _, _, _, rfl, rfl⟩
  · rw [if_neg c1, if_neg c1]
    obtain ⟨q, eq, hq⟩ := p_first (m := mem' (r (8 * b + a)))
    rw [eq, Option.bind_some]
    have self : ds_b (mem' (r (8 * b + a))) (r (8 * b + a)) = true := ((hvr.1 ld).2 _ (by omega) ri).mpr (hK.1 _ (by omega))
    have : q = nI (r (8 * b + a)) := by
      rcases hq with ⟨_, hq⟩ | ⟨i, hi, rfl, b1, b2⟩
      · rw [hq _ (by omega)] at self; cases self
      · have ii := (ins_mk ((hvr.1 ld).1 i hi b1))
        have ki := ((hvr.1 ld).2 i hi ii).mp b1
        have l1 := ld.2.2 i hi ii (hK.2.1 _ _ (by omega) hi ki)
        by_cases e : r (8 * b + a) < i
        · rw [b2 _ e] at self; cases self
        · rw [show i = r (8 * b + a) by omega]
    rw [this]
    exact ⟨_, _, _, _, rfl, rfl⟩
-- nearest
def ds_Nr (A : Nat → Prop) (N : Nat → Nat) (lo hi : Nat) (v : Int32) : Prop := (v = -1 ∧ ∀ c, lo ≤ c → c < hi → ¬ A c) ∨ ∃ c0, lo ≤ c0 ∧ c0 < hi ∧ v = nI c0 ∧ A c0 ∧ ∀ c, lo ≤ c → c < hi → A c → N c0 < N c ∨ (N c0 = N c ∧ c ≤ c0)
theorem Nr_one {A : Nat → Prop} {N : Nat → Nat} {lo hi : Nat} {v1 v2 : Int32} (h1 : ds_Nr A N lo hi v1) (h2 : ds_Nr A N lo hi v2) : v1 = v2 := by
  rcases h1 with ⟨rfl, n1⟩ | ⟨c1, a1, b1, rfl, d1, e1⟩
  · rcases h2 with ⟨rfl, n2⟩ | ⟨c2, a2, b2, rfl, d2, e2⟩
    · rfl
    · exact absurd d2 (n1 c2 a2 b2)
  · rcases h2 with ⟨rfl, n2⟩ | ⟨c2, a2, b2, rfl, d2, e2⟩
    · exact absurd d1 (n2 c1 a1 b1)
    · have x1 := e1 c2 a2 b2 d2
      have x2 := e2 c1 a1 b1 d1
      rw [show c1 = c2 by omega]
theorem n17_m1 : ∀ c, c < 17 → nI c ≠ -1 := by decide +kernel
theorem q_nearest {w h : Nat} (hk : ds_ok w h) {hex : Bool} {o t : Int64} {al : Nat → Int32} (hm : ds_MT w h hex o t al) (sz : Int32) (mem : Nat → Int64) (R : Nat → Int32) (p : Int32) : ∃ v sz' mem' R', fX7_nearest (nI w) (nI h) (ds_q hex) o t sz mem p = some (v, sz', mem') ∧ fX8_nearest al ds_hvF R ds_mrF ds_tabF p = some (v, 0, R') := by
  obtain ⟨k1, k2, k3, k4⟩ := id hk
  obtain ⟨N, hN⟩ : ∃ N : Nat → Nat, ∀ c, N c = ds_lc w w (ds_Ko w c) 64 := ⟨_, fun _ => rfl⟩
  obtain ⟨A, hA⟩ : ∃ A : Nat → Prop, ∀ c, A c ↔ (w = h ∧ hex = ds_chx c ∧ ds_fit w c = true) ∧ ¬ p < nI (ds_sm (ds_Fl w c o t) 64) := ⟨_, fun _ => Iff.rfl⟩
  have N64 : ∀ c, N c ≤ 64 := fun c => by rw [hN]; unfold ds_lc; exact ct_le _ _
  have cls : ∃ r, fX7_nearest (nI w) (nI h) (ds_q hex) o t sz mem p = some r ∧ ds_Nr A N 0 17 r.1 := by
    unfold fX7_nearest fX7_nearest_9
    refine ds_it_inv _ (fun k s => ∃ v f sz mem, s = (v, nI f, ds_z (16 - k), sz, mem) ∧ ds_Nr A N (17 - k) 17 v ∧ ((v = -1 ∧ f = 65) ∨ ∃ c0, v = nI c0 ∧ c0 < 17 ∧ f = N c0)) _ 17 1000 0 _ (Nat.zero_le _) ⟨-1, 65, sz, mem, rfl, Or.inl ⟨rfl, fun c h1 h2 => by omega⟩, Or.inl ⟨rfl, rfl⟩⟩ (by omega) ?_ ?_
    · rintro k s hk7 ⟨v, f, sz, mem, rfl, hn, hv⟩
      left
      try dsimp only
      have zc : ds_z (16 - (k : Int)) = nI (16 - k) := by rw [z_nI]; congr 1; omega
      have zn : nI (16 - k) + -1 = ds_z (16 - ((k + 1 : Nat) : Int)) := by
        rw [z_nI, show (-1 : Int32) = ds_z (-1) from rfl, z_add]; congr 1; omega
      have f65 : f < 1000 := by
        rcases hv with ⟨_, rfl⟩ | ⟨c0, _, _, rfl⟩
        · omega
        · have := N64 c0; omega
      unfold fX7_nearest_9_b fX7_nearest_82
      rw [zc, if_neg (nI_pos (by omega)), zn]
      have skip : ¬ (A (16 - k) ∧ N (16 - k) < f) → ∀ (sz : Int32) (mem : Nat → Int64), ∃ (v' : Int32) (f' : Nat) (sz' : Int32) (mem' : Nat → Int64), (v, nI f, ds_z (16 - ((k + 1 : Nat) : Int)), sz, mem) = (v', nI f', ds_z (16 - ((k + 1 : Nat) : Int)), sz', mem') ∧ ds_Nr A N (17 - (k + 1)) 17 v' ∧ ((v' = -1 ∧ f' = 65) ∨ ∃ c0, v' = nI c0 ∧ c0 < 17 ∧ f' = N c0) := by
        intro na sz mem
        refine ⟨v, f, sz, mem, rfl, ?_, hv⟩
        rcases hn with ⟨n1, n2⟩ | ⟨c0, a1, a2, a3, a4, a5⟩
        · left
          refine ⟨n1, fun c h1 h2 => ?_⟩
          by_cases e : c = 16 - k
          · subst e
            rcases hv with ⟨_, rfl⟩ | ⟨c0, v1, v2, _⟩
            · exact fun z => na ⟨z, by have := N64 (16 - k); omega⟩
            · rw [n1] at v1; exact absurd v1.symm (n17_m1 c0 v2)
          · exact n2 c (by omega) h2
        · right
          refine ⟨c0, by omega, a2, a3, a4, fun c h1 h2 h3 => ?_⟩
          by_cases e : c = 16 - k
          · subst e
            have fe : f = N c0 := by
              rcases hv with ⟨v1, _⟩ | ⟨c1, v1, v2, v3⟩
              · rw [a3] at v1; exact absurd v1 (n17_m1 c0 a2)
              · rw [a3] at v1
                rw [v3, (n_inj (by omega) (by omega)).mp v1]
            have : ¬ N (16 - k) < f := fun z => na ⟨h3, z⟩
            omega
          · exact a5 c (by omega) h2 h3
      rcases q_ask hk hm (nI (16 - k)) with ⟨c, hc, ec, hw, hx, hf, e1, e2⟩ | ⟨nn, e1, e2⟩
      · have ec' := (n_inj (by omega) (by omega)).mp ec
        subst hw hx
        obtain ⟨mem', e3, hvv⟩ := g_split hk hc hf mem
        rw [ec'] at skip e1
        rw [ec', e1, Option.bind_some, if_neg (show ¬ (1 : Int32) = 0 by decide), e3, Option.bind_some]
        try dsimp only
        rw [g_flaws hk hc hf o t hvv, Option.bind_some, ← hN]
        by_cases c1 : f ≤ N c
        · rw [if_pos ((n_le f65 (by have := N64 c; omega)).mpr c1)]
          exact ⟨_, rfl, skip (fun z => by omega) _ _⟩
        · rw [if_neg (fun z => c1 ((n_le f65 (by have := N64 c; omega)).mp z))]
          by_cases c2 : p < nI (ds_sm (ds_Fl w c o t) 64)
          · rw [if_pos c2]
            exact ⟨_, rfl, skip (fun z => ((hA c).mp z.1).2 c2) _ _⟩
          · rw [if_neg c2]
            have ac : A c := (hA c).mpr ⟨⟨rfl, rfl, hf⟩, c2⟩
            refine ⟨_, rfl, nI c, N c, _, _, rfl, Or.inr ⟨c, by omega, hc, rfl, ac, fun c' h1 h2 h3 => ?_⟩, Or.inr ⟨c, rfl, hc, rfl⟩⟩
            by_cases e : c' = c
            · right; subst e; exact ⟨rfl, Nat.le_refl _⟩
            · rcases hn with ⟨n1, n2⟩ | ⟨c0, a1, a2, a3, a4, a5⟩
              · exact absurd h3 (n2 c' (by omega) h2)
              · have fe : f = N c0 := by
                  rcases hv with ⟨v1, _⟩ | ⟨c1, v1, v2, v3⟩
                  · rw [a3] at v1; exact absurd v1 (n17_m1 c0 a2)
                  · rw [a3] at v1
                    rw [v3, (n_inj (by omega) (by omega)).mp v1]
                have := a5 c' (by omega) h2 h3
                omega
      · rw [e1, Option.bind_some, if_pos rfl]
        refine ⟨_, rfl, skip (fun z => nn ⟨16 - k, by omega, rfl, ((hA _).mp z.1).1⟩) _ _⟩
    · rintro s ⟨v, f, sz, mem, rfl, hn, hv⟩
      try dsimp only
      unfold fX7_nearest_9_b
      rw [if_pos (by decide)]
      exact ⟨_, rfl, hn⟩
  have ref : ∃ r, fX8_nearest al ds_hvF R ds_mrF ds_tabF p = some r ∧ ds_Nr A N 0 17 r.1 ∧ r.2.1 = 0 := by
    unfold fX8_nearest fX8_nearest_12
    refine ds_it_inv _ (fun k s => ∃ v f R, s = (v, f, nI k, R) ∧ ds_Nr A N 0 k v ∧ ∀ c0, v = nI c0 → c0 < 17 → f = nI (N c0)) _ 17 1000 0 _ (Nat.zero_le _) ⟨-1, 0, R, rfl, Or.inl ⟨rfl, fun c h1 h2 => by omega⟩, fun c0 e h1 => absurd e.symm (n17_m1 c0 h1)⟩ (by omega) ?_ ?_
    · rintro k s hk7 ⟨v, f, R, rfl, hn, hv⟩
      left
      try dsimp only
      unfold fX8_nearest_12_b fX8_nearest_64 fX8_nearest_70
      rw [show (17 : Int32) = nI 17 from rfl, if_neg (nI_ge hk7 (by omega)), nI_1]
      rcases q_ask hk hm (nI k) with ⟨c, hc, ec, hw, hx, hf, e1, e2⟩ | ⟨nn, e1, e2⟩
      · have ec' := (n_inj (by omega) (by omega)).mp ec
        subst ec' hw hx
        obtain ⟨R', e3, hr⟩ := m_orbits hk hc hf hm R
        rw [e2, Option.bind_some, if_neg (show ¬ (1 : Int32) = 0 by decide), e3, Option.bind_some, show (64 : Int32) = nI 64 from rfl, m_leaders hk hm hr (Nat.le_refl 64), Option.bind_some, m_flawed hk hc hf hm hr, Option.bind_some, ← hN]
        by_cases c2 : p < nI (ds_sm (ds_Fl w k o t) 64)
        · rw [if_pos c2]
          refine ⟨_, rfl, v, f, _, rfl, ?_, hv⟩
          have na : ¬ A k := fun z => ((hA k).mp z).2 c2
          rcases hn with ⟨n1, n2⟩ | ⟨c0, a1, a2, a3, a4, a5⟩
          · left; exact ⟨n1, fun c h1 h2 => by
              by_cases e : c = k
              · rw [e]; exact na
              · exact n2 c h1 (by omega)⟩
          · right; exact ⟨c0, a1, by omega, a3, a4, fun c h1 h2 h3 => by
              by_cases e : c = k
              · rw [e] at h3; exact absurd h3 na
              · exact a5 c h1 (by omega) h3⟩
        · rw [if_neg c2]
          have ak : A k := (hA k).mpr ⟨⟨rfl, rfl, hf⟩, c2⟩
          have take : (∀ c, c < k → A c → N k ≤ N c) → ∃ v' f' R'', (nI k, nI (N k), nI (k + 1), R') = (v', f', nI (k + 1), R'') ∧ ds_Nr A N 0 (k + 1) v' ∧ ∀ c0, v' = nI c0 → c0 < 17 → f' = nI (N c0) := by
            intro hb
            refine ⟨_, _, _, rfl, Or.inr ⟨k, by omega, by omega, rfl, ak, fun c h1 h2 h3 => ?_⟩, fun c0 e h => by rw [(n_inj (by omega) (by omega)).mp e]⟩
            by_cases e : c = k
            · right; rw [e]; exact ⟨rfl, Nat.le_refl _⟩
            · have := hb c (by omega) h3; omega
          rcases hn with ⟨n1, n2⟩ | ⟨c0, a1, a2, a3, a4, a5⟩
          · rw [if_pos n1]
            exact ⟨_, rfl, take (fun c h1 h2 => absurd h2 (n2 c (Nat.zero_le _) h1))⟩
          · have v1 : ¬ v = -1 := by rw [a3]; exact n17_m1 c0 (by omega)
            have fe := hv c0 a3 (by omega)
            rw [if_neg v1, fe]
            have lt : nI (N c0) < nI (N k) ↔ N c0 < N k := by
              have := N64 c0
              have := N64 k
              rw [z_nI, z_nI, z_lt (by omega) (by omega) (by omega) (by omega)]; omega
            by_cases c3 : N c0 < N k
            · rw [if_pos (lt.mpr c3)]
              refine ⟨_, rfl, v, _, _, rfl, Or.inr ⟨c0, a1, by omega, a3, a4, fun c h1 h2 h3 => ?_⟩, fun c1 e h => by rw [a3] at e; rw [(n_inj (by omega) (by omega)).mp e]⟩
              by_cases e : c = k
              · left; rw [e]; exact c3
              · exact a5 c h1 (by omega) h3
            · rw [if_neg (fun z => c3 (lt.mp z))]
              exact ⟨_, rfl, take (fun c h1 h2 => by have := a5 c (Nat.zero_le _) h1 h2; omega)⟩
      · rw [e2, Option.bind_some, if_pos rfl]
        have na : ¬ A k := fun z => nn ⟨k, hk7, rfl, ((hA _).mp z).1⟩
        refine ⟨_, rfl, v, f, _, rfl, ?_, hv⟩
        rcases hn with ⟨n1, n2⟩ | ⟨c0, a1, a2, a3, a4, a5⟩
        · left; exact ⟨n1, fun c h1 h2 => by
            by_cases e : c = k
            · rw [e]; exact na
            · exact n2 c h1 (by omega)⟩
        · right; exact ⟨c0, a1, by omega, a3, a4, fun c h1 h2 h3 => by
            by_cases e : c = k
            · rw [e] at h3; exact absurd h3 na
            · exact a5 c h1 (by omega) h3⟩
    · rintro s ⟨v, f, R, rfl, hn, hv⟩
      try dsimp only
      unfold fX8_nearest_12_b
      rw [if_pos (by decide)]
      exact ⟨_, rfl, hn, rfl⟩
  obtain ⟨⟨v1, s1, m1'⟩, e1, n1⟩ := cls
  obtain ⟨⟨v2, z2, R2⟩, e2, n2, z⟩ := ref
  dsimp only at n1 n2 z
  subst z
  rw [Nr_one n1 n2] at e1
  exact ⟨_, _, _, _, e1, e2⟩

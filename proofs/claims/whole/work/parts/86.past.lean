/-! what was: the class's ring and the reference's row -/
def ds_TM (V : ds_TV) (f : Nat → Int32) : Prop := ∃ (w h : Nat) (hex : Bool) (o t : Int64), ds_ok w h ∧ ds_sub w h o ∧ ds_sub w h t ∧ V = (nI w, nI h, ds_q hex, o, t) ∧ ds_MT w h hex o t f
theorem MT_cong {w h : Nat} {hex : Bool} {o t : Int64} {f g : Nat → Int32} (hm : ds_MT w h hex o t f) (he : ∀ j, j < 67 → g j = f j) : ds_MT w h hex o t g := by
  obtain ⟨a, b, c, d⟩ := hm
  refine ⟨by rw [he 0 (by omega), a], by rw [he 1 (by omega), b], by rw [he 2 (by omega), c], fun i hi => ?_⟩
  rw [he _ (by omega), d i hi]
theorem TM_cong {V : ds_TV} {f g : Nat → Int32} (hm : ds_TM V f) (he : ∀ j, j < 67 → g j = f j) : ds_TM V g := by
  obtain ⟨w, h, hex, o, t, a, b, c, d, e⟩ := hm
  exact ⟨w, h, hex, o, t, a, b, c, d, MT_cong e he⟩
def ds_HI (nx sz : Int32) (T : Nat → ds_TV) (ud : Int32) (un : Nat → Int32) : Prop := ∃ n s : Nat, n < 8 ∧ s ≤ 8 ∧ nx = nI n ∧ sz = nI s ∧ ud = nI s ∧ ∀ i, i < s → ds_TM (T ((n + 8 - s + i) % 8)) (fun j => un (67 * i + j))
theorem g_keep {n s : Nat} (hn : n < 8) (hs : s ≤ 8) (T : Nat → ds_TV) (w h : Int32) (hex : Bool) (o t : Int64) : fX4_keep (nI n) (nI s) T w h (ds_q hex) o t = some (nI ((n + 1) % 8), nI (min (s + 1) 8), va_up T n (w, h, ds_q hex, o, t)) := by
  have r8 : ∀ n, n < 8 → ds_rem (nI n + 1) 8 = nI ((n + 1) % 8) := by decide +kernel
  have m8 : ∀ s, s < 9 → ds_min (nI s + 1) 8 = nI (min (s + 1) 8) := by decide +kernel
  have cp : fX6_copyFrom w h (ds_q hex) o t = some (w, h, ds_q hex, o, t) := by unfold fX6_copyFrom; rw [if_pos (q_01 hex)]
  unfold fX4_keep
  rw [cp, r8 n hn, m8 s (by omega)]
  rcases (show n = 0 ∨ n = 1 ∨ n = 2 ∨ n = 3 ∨ n = 4 ∨ n = 5 ∨ n = 6 ∨ n = 7 by omega) with rfl | rfl | rfl | rfl | rfl | rfl | rfl | rfl <;> rfl
theorem m_copyUp (al : Nat → Int32) {s : Nat} (hs : s < 8) (un : Nat → Int32) : ∃ un', fX8_keeps_49 (nI s) un al = some (nI (s + 1), un') ∧ (∀ k, k < 67 * s → un' k = un k) ∧ ∀ j, j < 67 → un' (67 * s + j) = al j := by
  unfold fX8_keeps_49 fX8_keeps_51
  have fin := ds_it_inv (fun q : Int32 × (Nat → Int32) => fX8_keeps_51_b (nI s) al q.1 q.2) (fun k q => ∃ un', q = (nI k, un') ∧ (∀ k, k < 67 * s → un' k = un k) ∧ ∀ j, j < k → un' (67 * s + j) = al j) (fun r => ∃ un', r = (nI (s + 1), un') ∧ (∀ k, k < 67 * s → un' k = un k) ∧ ∀ j, j < 67 → un' (67 * s + j) = al j) 67 1000 0 (0, un) (Nat.zero_le _) ⟨un, rfl, fun _ _ => rfl, fun j hj => by omega⟩ (by omega) ?_ ?_
  · obtain ⟨r, e, un', q1, q2⟩ := fin
    exact ⟨un', e.trans (congrArg some q1), q2⟩
  · rintro k q hk ⟨un', rfl, h1, h2⟩
    left
    try dsimp only
    unfold fX8_keeps_51_b
    rw [show (67 : Int32) = nI 67 from rfl, if_neg (nI_ge hk (by omega)), n_mul, nI_add, if_pos (in_nI (by omega) (by omega)), if_pos (in_nI (by omega) (by omega)), nI_clamp (by omega), nI_clamp (by omega), nI_1]
    refine ⟨_, rfl, _, rfl, fun j hj => ?_, fun j hj => ?_⟩
    · rw [upd_ne _ _ (by omega)]; exact h1 j hj
    · by_cases e : j = k
      · rw [e, upd_at]
      · rw [upd_ne _ _ (by omega)]; exact h2 j (by omega)
  · rintro q ⟨un', rfl, h1, h2⟩
    try dsimp only
    unfold fX8_keeps_51_b fX8_keeps_83
    rw [if_pos (by decide), nI_1]
    exact ⟨_, rfl, un', rfl, h1, h2⟩
theorem m_keeps (al : Nat → Int32) {s : Nat} (hs : s ≤ 8) (un : Nat → Int32) : ∃ un', fX8_keeps (nI s) un al = some (nI (min (s + 1) 8), un') ∧ (s < 8 → (∀ k, k < 67 * s → un' k = un k) ∧ ∀ j, j < 67 → un' (67 * s + j) = al j) ∧ (s = 8 → (∀ k, k < 469 → un' k = un (k + 67)) ∧ ∀ j, j < 67 → un' (469 + j) = al j) := by
  unfold fX8_keeps
  by_cases c : s = 8
  · subst c
    rw [if_pos (by decide)]
    unfold fX8_keeps_11
    have fin := ds_it_inv (fun q : Int32 × (Nat → Int32) => fX8_keeps_11_b (nI 8) al q.1 q.2) (fun k q => ∃ un', q = (nI k, un') ∧ (∀ j, j < k → un' j = un (j + 67)) ∧ ∀ j, k ≤ j → un' j = un j) (fun r => ∃ un', r = (nI 8, un') ∧ (∀ k, k < 469 → un' k = un (k + 67)) ∧ ∀ j, j < 67 → un' (469 + j) = al j) 469 1000 0 (0, un) (Nat.zero_le _) ⟨un, rfl, fun j hj => by omega, fun _ _ => rfl⟩ (by omega) ?_ ?_
    · obtain ⟨r, e, un', q1, q2⟩ := fin
      exact ⟨un', e.trans (congrArg some q1), fun z => absurd z (by omega), fun _ => q2⟩
    · rintro k q hk ⟨un', rfl, h1, h2⟩
      left
      try dsimp only
      unfold fX8_keeps_11_b
      rw [show (469 : Int32) = nI 469 from rfl, if_neg (nI_ge hk (by omega)), show (67 : Int32) = nI 67 from rfl, nI_add, if_pos (in_nI (by omega) (by omega)), if_pos (in_nI (by omega) (by omega)), nI_clamp (by omega), nI_clamp (by omega), nI_1]
      refine ⟨_, rfl, _, rfl, fun j hj => ?_, fun j hj => ?_⟩
      · by_cases e : j = k
        · rw [e, upd_at, h2 _ (by omega)]
        · rw [upd_ne _ _ e]; exact h1 j (by omega)
      · rw [upd_ne _ _ (by omega)]; exact h2 j (by omega)
    · rintro q ⟨un', rfl, h1, h2⟩
      try dsimp only
      unfold fX8_keeps_11_b fX8_keeps_39
      obtain ⟨un2, e, g1, g2⟩ := m_copyUp al (s := 7) (by omega) un'
      rw [if_pos (by decide), show nI 8 - 1 = nI 7 from rfl, e]
      exact ⟨_, rfl, un2, rfl, fun k hk => by rw [g1 k (by omega), h1 k hk], g2⟩
  · have c2 : ¬ nI s = 8 := fun z => c ((n_inj (b := 8) (by omega) (by omega)).mp z)
    rw [if_neg c2]
    obtain ⟨un', e, g1, g2⟩ := m_copyUp al (s := s) (by omega) un
    rw [show min (s + 1) 8 = s + 1 by omega]
    exact ⟨un', e, fun _ => ⟨g1, g2⟩, fun z => absurd z c⟩
theorem up_at {A : Type} (T : Nat → A) (n : Nat) (v : A) : va_up T n v n = v := by unfold va_up; rw [if_pos rfl]
theorem up_ne {A : Type} (T : Nat → A) {n k : Nat} (v : A) (h : k ≠ n) : va_up T n v k = T k := by unfold va_up; rw [if_neg h]
theorem q_keep {w h : Nat} (hk : ds_ok w h) {hex : Bool} {o t : Int64} (ho : ds_sub w h o) (ht : ds_sub w h t) {al : Nat → Int32} (hm : ds_MT w h hex o t al) {nx sz ud : Int32} {T : Nat → ds_TV} {un : Nat → Int32} (hh : ds_HI nx sz T ud un) : ∃ nx' sz' T' ud' un', fX4_keep nx sz T (nI w) (nI h) (ds_q hex) o t = some (nx', sz', T') ∧ fX8_keeps ud un al = some (ud', un') ∧ ds_HI nx' sz' T' ud' un' := by
  obtain ⟨n, s, hn, hs, rfl, rfl, rfl, hT⟩ := hh
  obtain ⟨un', e, g1, g2⟩ := m_keeps al hs un
  refine ⟨_, _, _, _, _, g_keep hn hs T (nI w) (nI h) hex o t, e, (n + 1) % 8, min (s + 1) 8, by omega, by omega, rfl, rfl, rfl, fun i hi => ?_⟩
  have nw : ds_TM (nI w, nI h, ds_q hex, o, t) al := ⟨w, h, hex, o, t, hk, ho, ht, rfl, hm⟩
  by_cases c : s = 8
  · obtain ⟨a1, a2⟩ := g2 c
    subst c
    rw [show ((n + 1) % 8 + 8 - min (8 + 1) 8 + i) % 8 = (n + 1 + i) % 8 by omega]
    by_cases d : i = 7
    · subst d
      rw [show (n + 1 + 7) % 8 = n by omega, up_at]
      exact TM_cong nw (fun j hj => by rw [← a2 j hj])
    · rw [up_ne _ _ (show (n + 1 + i) % 8 ≠ n by omega)]
      have := hT (i + 1) (by omega)
      rw [show (n + 8 - 8 + (i + 1)) % 8 = (n + 1 + i) % 8 by omega] at this
      refine TM_cong this (fun j hj => ?_)
      show un' (67 * i + j) = un (67 * (i + 1) + j)
      rw [a1 _ (by omega), show 67 * i + j + 67 = 67 * (i + 1) + j by omega]
  · obtain ⟨a1, a2⟩ := g1 (by omega)
    rw [show ((n + 1) % 8 + 8 - min (s + 1) 8 + i) % 8 = (n + 8 - s + i) % 8 by omega]
    by_cases d : i = s
    · subst d
      rw [show (n + 8 - i + i) % 8 = n by omega, up_at]
      exact TM_cong nw (fun j hj => by rw [← a2 j hj])
    · rw [up_ne _ _ (show (n + 8 - s + i) % 8 ≠ n by omega)]
      refine TM_cong (hT i (by omega)) (fun j hj => ?_)
      show un' (67 * i + j) = un (67 * i + j)
      rw [a1 _ (by omega)]
-- undo
theorem g_back {n s : Nat} (hn : n < 8) (hs : s < 8) {T : Nat → ds_TV} {V : ds_TV} (hV : V = T ((n + 7) % 8)) (hx : V.2.2.1 = 0 ∨ V.2.2.1 = 1) (w h hex : Int32) (o t : Int64) : fX4_giveBack (nI n) (nI (s + 1)) T w h hex o t = some (1, nI ((n + 7) % 8), nI s, V.1, V.2.1, V.2.2.1, V.2.2.2.1, V.2.2.2.2) := by
  have r8 : ∀ n, n < 8 → ds_rem ((nI n + 8) - 1) 8 = nI ((n + 7) % 8) := by decide +kernel
  have s1 : nI (s + 1) - 1 = nI s := by rw [n_pred (by omega)]; rfl
  have ns : ¬ nI (s + 1) = 0 := fun z => by have := (n_eq0 (by omega)).mp z; omega
  have cp : fX6_copyFrom V.1 V.2.1 V.2.2.1 V.2.2.2.1 V.2.2.2.2 = some V := by unfold fX6_copyFrom; rw [if_pos hx]
  unfold fX4_giveBack
  rw [r8 n hn, Option.bind_some, if_neg ns, s1]
  generalize hL : (n + 7) % 8 = L at *
  have hL8 : L < 8 := by omega
  subst hV
  rcases (show L = 0 ∨ L = 1 ∨ L = 2 ∨ L = 3 ∨ L = 4 ∨ L = 5 ∨ L = 6 ∨ L = 7 by omega) with rfl | rfl | rfl | rfl | rfl | rfl | rfl | rfl <;> (rw [cp]; rfl)
theorem q_undo {w h : Nat} (hk : ds_ok w h) {hex : Bool} {o t : Int64} (ho : ds_sub w h o) (ht : ds_sub w h t) {al : Nat → Int32} (hm : ds_MT w h hex o t al) {nx sz ud : Int32} {T : Nat → ds_TV} {un : Nat → Int32} (hh : ds_HI nx sz T ud un) :
    ∃ (v nx' sz' : Int32) (w' h' : Nat) (hex' : Bool) (o' t' : Int64) (ud' : Int32) (al' : Nat → Int32), fX7_undo nx sz T (nI w) (nI h) (ds_q hex) o t = some (v, nx', sz', nI w', nI h', ds_q hex', o', t') ∧ fX8_undo ud un al = some (v, 0, ud', al') ∧ ds_HI nx' sz' T ud' un ∧ ds_ok w' h' ∧ ds_sub w' h' o' ∧ ds_sub w' h' t' ∧ ds_MT w' h' hex' o' t' al' ∧ ∀ j, 67 ≤ j → al' j = al j := by
  obtain ⟨n, s, hn, hs, rfl, rfl, rfl, hT⟩ := hh
  unfold fX7_undo fX8_undo
  by_cases c : s = 0
  · subst c
    have : fX4_giveBack (nI n) (nI 0) T (nI w) (nI h) (ds_q hex) o t = some (0, nI n, nI 0, nI w, nI h, ds_q hex, o, t) := rfl
    rw [this, Option.bind_some, if_pos (show nI 0 = 0 from rfl)]
    exact ⟨_, _, _, _, _, _, _, _, _, _, rfl, rfl, ⟨n, 0, hn, by omega, rfl, rfl, rfl, hT⟩, hk, ho, ht, hm, fun _ _ => rfl⟩
  · obtain ⟨s, rfl⟩ : ∃ k, s = k + 1 := ⟨s - 1, by omega⟩
    have ns : ¬ nI (s + 1) = 0 := fun z => by have := (n_eq0 (by omega)).mp z; omega
    have s1 : nI (s + 1) - 1 = nI s := by rw [n_pred (by omega)]; rfl
    have tm := hT s (by omega)
    rw [show (n + 8 - (s + 1) + s) % 8 = (n + 7) % 8 by omega] at tm
    obtain ⟨w', h', hex', o', t', k', so', st', eV, hm'⟩ := tm
    have gb := g_back hn (show s < 8 by omega) (T := T) (V := (nI w', nI h', ds_q hex', o', t')) eV.symm (q_01 hex') (nI w) (nI h) (ds_q hex) o t
    rw [gb, Option.bind_some, if_neg ns, s1]
    have cp : ∃ al', fX8_undo_26 0 (nI s) un 0 al = some (nI s, 0, nI s, al') ∧ (∀ j, j < 67 → al' j = un (67 * s + j)) ∧ ∀ j, 67 ≤ j → al' j = al j := by
      unfold fX8_undo_26
      have fin := ds_it_inv (fun q : Int32 × (Nat → Int32) => fX8_undo_26_b 0 (nI s) un q.1 q.2) (fun k q => ∃ al', q = (nI k, al') ∧ (∀ j, j < k → al' j = un (67 * s + j)) ∧ ∀ j, k ≤ j → al' j = al j) (fun r => ∃ al', r = (nI s, 0, nI s, al') ∧ (∀ j, j < 67 → al' j = un (67 * s + j)) ∧ ∀ j, 67 ≤ j → al' j = al j) 67 1000 0 (0, al) (Nat.zero_le _) ⟨al, rfl, fun j hj => by omega, fun _ _ => rfl⟩ (by omega) ?_ ?_
      · obtain ⟨r, e, al', q1, q2⟩ := fin
        exact ⟨al', e.trans (congrArg some q1), q2⟩
      · rintro k q hk6 ⟨al', rfl, h1, h2⟩
        left
        try dsimp only
        unfold fX8_undo_26_b
        rw [show (67 : Int32) = nI 67 from rfl, if_neg (nI_ge hk6 (by omega)), n_mul, nI_add, if_pos (in_nI (by omega) (by omega)), if_pos (in_nI (by omega) (by omega)), nI_clamp (by omega), nI_clamp (by omega), nI_1]
        refine ⟨_, rfl, _, rfl, fun j hj => ?_, fun j hj => ?_⟩
        · by_cases e : j = k
          · rw [e, upd_at]
          · rw [upd_ne _ _ e]; exact h1 j (by omega)
        · rw [upd_ne _ _ (by omega)]; exact h2 j (by omega)
      · rintro q ⟨al', rfl, h1, h2⟩
        try dsimp only
        unfold fX8_undo_26_b fX8_undo_58
        rw [if_pos (by decide)]
        exact ⟨_, rfl, al', rfl, h1, h2⟩
    obtain ⟨al', e, g1, g2⟩ := cp
    refine ⟨_, _, _, w', h', hex', o', t', _, al', rfl, e, ⟨(n + 7) % 8, s, by omega, by omega, rfl, rfl, rfl, fun i hi => ?_⟩, k', so', st', MT_cong hm' g1, g2⟩
    have := hT i (by omega)
    rw [show ((n + 7) % 8 + 8 - s + i) % 8 = (n + 8 - (s + 1) + i) % 8 by omega]
    exact this
-- the next tile
theorem m_keepsNext (al nx : Nat → Int32) : ∃ nx', fX8_keepsNext al nx = some nx' ∧ ∀ i, i < 64 → nx' i = al (3 + i) := by
  unfold fX8_keepsNext fX8_keepsNext_2
  refine ds_it_inv _ (fun k q => ∃ nx', q = (nI k, nx') ∧ ∀ j, j < k → nx' j = al (3 + j)) _ 64 1000 0 _ (Nat.zero_le _) ⟨nx, rfl, fun j hj => by omega⟩ (by omega) ?_ ?_
  · rintro k q hk ⟨nx', rfl, h1⟩
    left
    try dsimp only
    unfold fX8_keepsNext_2_b
    rw [show (64 : Int32) = nI 64 from rfl, if_neg (nI_ge hk (by omega)), show (3 : Int32) = nI 3 from rfl, nI_add, if_pos (in_nI (by omega) (by omega)), if_pos (in_nI hk (by omega)), nI_clamp (by omega), nI_clamp (by omega), nI_1]
    refine ⟨_, rfl, _, rfl, fun j hj => ?_⟩
    by_cases e : j = k
    · rw [e, upd_at]
    · rw [upd_ne _ _ e]; exact h1 j (by omega)
  · rintro q ⟨nx', rfl, h1⟩
    try dsimp only
    unfold fX8_keepsNext_2_b
    rw [if_pos (by decide)]
    exact ⟨_, rfl, h1⟩
theorem co_all {o t o' t' : Int64} : (∀ i, i < 64 → ds_co o t i = ds_co o' t' i) ↔ o = o' ∧ t = t' := by
  constructor
  · intro hh
    exact ⟨b_ext fun i hi => ((c_eq _ _ _ _ _ _).mp (hh i hi)).1, b_ext fun i hi => ((c_eq _ _ _ _ _ _).mp (hh i hi)).2⟩
  · rintro ⟨rfl, rfl⟩ i _; rfl
theorem q_take {w h : Nat} (hk : ds_ok w h) {hex : Bool} {o t o2 t2 : Int64} (ho : ds_sub w h o) (ht : ds_sub w h t) {al next : Nat → Int32} (hm : ds_MT w h hex o t al) (hn : ∀ i, i < 64 → next i = nI (ds_co o2 t2 i)) {nx sz ud : Int32} {T : Nat → ds_TV} {un : Nat → Int32} (hh : ds_HI nx sz T ud un) :
    ∃ (b : Bool) (nx' sz' : Int32) (T' : Nat → ds_TV) (ud' : Int32) (al' un' : Nat → Int32), fX7_takeDraft (nI w) (nI h) (ds_q hex) o2 t2 (nI w) (nI h) (ds_q hex) o t nx sz T = some (ds_q b, nI w, nI h, ds_q hex, o2, t2, nx', sz', T') ∧ fX8_isOther ud next al un = some (ds_q b, ud', al', un') ∧ ds_HI nx' sz' T' ud' un' ∧ ds_MT w h hex o2 t2 al' ∧ ∀ j, 67 ≤ j → al' j = al j := by
  obtain ⟨m0, m1, m2, m3⟩ := id hm
  obtain ⟨q, eq, hq⟩ := p_same (nI w) (nI h) (ds_q hex) o2 t2 (nI w) (nI h) (ds_q hex) o t
  -- the reference looks for a difference
  have lk : fX8_isOther ud next al un = fX8_isOther_43 ud next al un (ds_q (!q)) := by
    unfold fX8_isOther fX8_isOther_4
    obtain ⟨d, hd⟩ : ∃ d : Nat → Bool, ∀ k, d k = ds_d (∃ i, i < k ∧ ds_co o2 t2 i ≠ ds_co o t i) := ⟨_, fun _ => rfl⟩
    have d64 : d 64 = !q := by
      rw [hd]
      cases q
      · apply d_true
        apply Classical.byContradiction
        intro z
        have : (false = true) := hq.mpr ⟨rfl, rfl, rfl, by
          have := co_all.mp (fun i hi => Classical.byContradiction fun zz => z ⟨i, hi, zz⟩)
          exact this⟩
        cases this
      · apply d_false
        rintro ⟨i, hi, z⟩
        obtain ⟨_, _, _, e1, e2⟩ := hq.mp rfl
        rw [e1, e2] at z; exact z rfl
    have d0 : d 0 = false := by rw [hd]; apply d_false; rintro ⟨i, hi, _⟩; omega
    have ds : ∀ k, d (k + 1) = (d k || !decide (ds_co o2 t2 k = ds_co o t k)) := by
      intro k
      rw [hd, hd]
      by_cases c : ∃ i, i < k ∧ ds_co o2 t2 i ≠ ds_co o t i
      · rw [d_true c, d_true]
        · rfl
        obtain ⟨i, hi, z⟩ := c; exact ⟨i, by omega, z⟩
      · rw [d_false c, Bool.false_or]
        by_cases e : ds_co o2 t2 k = ds_co o t k
        · rw [decide_eq_true e, d_false]
          · rfl
          rintro ⟨i, hi, z⟩
          by_cases ee : i = k
          · rw [ee] at z; exact z e
          · exact c ⟨i, by omega, z⟩
        · rw [decide_eq_false e, d_true ⟨k, by omega, e⟩]; rfl
    have L := ds_it_up (fun s : Int32 × Int32 => fX8_isOther_4_b ud next al un s.1 s.2) (fun k => (ds_q (d k), nI k)) 64 1000 (fX8_isOther_43 ud next al un (ds_q (d 64))) (fun k hk6 => by
      dsimp only
      unfold fX8_isOther_4_b fX8_isOther_31 fX8_isOther_36
      rw [show (64 : Int32) = nI 64 from rfl, if_neg (nI_ge hk6 (by omega)), show (3 : Int32) = nI 3 from rfl, nI_add, if_pos (in_nI hk6 (by omega)), if_pos (in_nI (by omega) (by omega)), nI_clamp (by omega), nI_clamp (by omega), nI_1, hn k hk6, m3 k hk6, ds k]
      have l1 := c_lt o t k
      have l2 := c_lt o2 t2 k
      cases d k
      · rw [if_pos (show ds_q false = 0 from rfl), Bool.false_or]
        by_cases e : ds_co o2 t2 k = ds_co o t k
        · rw [if_pos (congrArg nI e), decide_eq_true e]; rfl
        · rw [if_neg (fun z => e ((n_inj (by omega) (by omega)).mp z)), decide_eq_false e]; rfl
      · rw [if_neg (show ¬ ds_q true = 0 by decide), Bool.true_or]; rfl) (by
      dsimp only
      unfold fX8_isOther_4_b
      rw [if_pos (by decide)]
      cases fX8_isOther_43 ud next al un (ds_q (d 64)) <;> rfl) (by omega)
    rw [← d64, show ((0 : Int32), (0 : Int32)) = (ds_q (d 0), nI 0) by rw [d0]; rfl]
    exact L
  rw [lk]
  unfold fX7_takeDraft fX8_isOther_43
  rw [eq, Option.bind_some]
  cases q
  · rw [if_pos (show ds_q false = 0 from rfl), if_neg (show ¬ ds_q (!false) = 0 by decide)]
    obtain ⟨nx', sz', T', ud', un', e1, e2, hh'⟩ := q_keep hk ho ht hm hh
    have cp : fX6_copyFrom (nI w) (nI h) (ds_q hex) o2 t2 = some (nI w, nI h, ds_q hex, o2, t2) := by unfold fX6_copyFrom; rw [if_pos (q_01 hex)]
    rw [e1, Option.bind_some, cp, Option.bind_some, e2, Option.bind_some]
    have wr : ∃ al', fX8_isOther_55 ud' next un' 0 al = some (1, ud', al', un') ∧ (∀ i, i < 64 → al' (3 + i) = next i) ∧ ∀ j, (j < 3 ∨ 67 ≤ j) → al' j = al j := by
      unfold fX8_isOther_55
      have fin := ds_it_inv (fun q : Int32 × (Nat → Int32) => fX8_isOther_55_b ud' next un' q.1 q.2) (fun k q => ∃ al', q = (nI k, al') ∧ (∀ i, i < k → al' (3 + i) = next i) ∧ ∀ j, (j < 3 ∨ 67 ≤ j) → al' j = al j) (fun r => ∃ al', r = (1, ud', al', un') ∧ (∀ i, i < 64 → al' (3 + i) = next i) ∧ ∀ j, (j < 3 ∨ 67 ≤ j) → al' j = al j) 64 1000 0 (0, al) (Nat.zero_le _) ⟨al, rfl, fun j hj => by omega, fun _ _ => rfl⟩ (by omega) ?_ ?_
      · obtain ⟨r, e, al', q1, q2⟩ := fin
        exact ⟨al', e.trans (congrArg some q1), q2⟩
      · rintro k q hk6 ⟨al', rfl, h1, h2⟩
        left
        try dsimp only
        unfold fX8_isOther_55_b
        rw [show (64 : Int32) = nI 64 from rfl, if_neg (nI_ge hk6 (by omega)), show (3 : Int32) = nI 3 from rfl, nI_add, if_pos (in_nI hk6 (by omega)), if_pos (in_nI (by omega) (by omega)), nI_clamp (by omega), nI_clamp (by omega), nI_1]
        refine ⟨_, rfl, _, rfl, fun j hj => ?_, fun j hj => ?_⟩
        · by_cases e : j = k
          · rw [e, upd_at]
          · rw [upd_ne _ _ (by omega)]; exact h1 j (by omega)
        · rw [upd_ne _ _ (by omega)]; exact h2 j hj
      · rintro q ⟨al', rfl, h1, h2⟩
        try dsimp only
        unfold fX8_isOther_55_b
        rw [if_pos (by decide)]
        exact ⟨_, rfl, al', rfl, h1, h2⟩
    obtain ⟨al', e3, g1, g2⟩ := wr
    refine ⟨true, nx', sz', T', ud', al', un', rfl, e3, hh', ⟨by rw [g2 0 (by omega), m0], by rw [g2 1 (by omega), m1], by rw [g2 2 (by omega), m2], fun i hi => by rw [g1 i hi, hn i hi]⟩, fun j hj => g2 j (Or.inr hj)⟩
  · obtain ⟨_, _, _, e1, e2⟩ := hq.mp rfl
    subst e1 e2
    rw [if_neg (show ¬ ds_q true = 0 by decide), if_pos (show ds_q (!true) = 0 from rfl)]
    exact ⟨false, nx, sz, T, ud, al, un, rfl, rfl, hh, hm, fun _ _ => rfl⟩
-- filling the next tile cell by cell
theorem nx_fill {ρ : Type} {w h : Nat} (hw : w < 1000) (hh : h < 1000) {OB : Int32 × (Nat → Int32) → Option ((Int32 × (Nat → Int32)) ⊕ ρ)} {IB : Nat → Int32 × (Nat → Int32) → Option ((Int32 × (Nat → Int32)) ⊕ ((Int32 × (Nat → Int32)) ⊕ ρ))} (φ : Nat → Nat → Nat) (ψx ψy : Nat → Nat) (g : Nat → Nat → Int32) (ins : Nat → Bool)
    (hφ : ∀ u v, u < w → v < h → φ u v < 64 ∧ ins (φ u v) = true ∧ ψx (φ u v) = u ∧ ψy (φ u v) = v)
    (hψ : ∀ i, i < 64 → ins i = true → ψx i < w ∧ ψy i < h ∧ φ (ψx i) (ψy i) = i)
    (hO : ∀ v nx, v < h → OB (nI v, nx) = ds_it (IB v) 1000 (0, nx))
    (hI : ∀ v u nx, v < h → u < w → IB v (nI u, nx) = some (.inl (nI (u + 1), upd nx (φ u v) (g u v))))
    (hIe : ∀ v nx, v < h → IB v (nI w, nx) = some (.inr (.inl (nI (v + 1), nx))))
    {E : (Nat → Int32) → Option ρ} (hOe : ∀ nx, OB (nI h, nx) = (E nx).map .inr) (nx0 : Nat → Int32) : ∃ nx', ds_it OB 1000 (0, nx0) = E nx' ∧ ∀ i, i < 64 → nx' i = if ins i = true then g (ψx i) (ψy i) else nx0 i := by
  obtain ⟨F, hF⟩ : ∃ F : Nat → Nat → Nat → Int32, ∀ y x i, F y x i = if i < 64 ∧ ins i = true ∧ (ψy i < y ∨ (ψy i = y ∧ ψx i < x)) then g (ψx i) (ψy i) else nx0 i := ⟨_, fun _ _ _ => rfl⟩
  have F0 : F 0 0 = nx0 := by
    funext i
    rw [hF, if_neg (by omega)]
  have Fs : ∀ y x, y < h → x < w → upd (F y x) (φ x y) (g x y) = F y (x + 1) := by
    intro y x hy hx
    obtain ⟨p1, p2, p3, p4⟩ := hφ x y hx hy
    funext i
    by_cases e : i = φ x y
    · subst e
      rw [upd_at, hF, if_pos ⟨p1, p2, by omega⟩, p3, p4]
    · rw [upd_ne _ _ e, hF, hF]
      by_cases c : i < 64 ∧ ins i = true ∧ (ψy i < y ∨ (ψy i = y ∧ ψx i < x))
      · rw [if_pos c, if_pos ⟨c.1, c.2.1, by omega⟩]
      · rw [if_neg c, if_neg]
        rintro ⟨c1, c2, c3⟩
        have pp := hψ i c1 c2
        by_cases ee : ψy i = y ∧ ψx i = x
        · rw [ee.1, ee.2] at pp; exact e pp.2.2.symm
        · exact c ⟨c1, c2, by omega⟩
  have Fe : ∀ y, F y w = F (y + 1) 0 := by
    intro y
    funext i
    rw [hF, hF]
    by_cases c : i < 64 ∧ ins i = true
    · have pp := hψ i c.1 c.2
      by_cases c2 : ψy i < y + 1
      · rw [if_pos ⟨c.1, c.2, by omega⟩, if_pos ⟨c.1, c.2, by omega⟩]
      · rw [if_neg (fun z => by omega), if_neg (fun z => by omega)]
    · rw [if_neg (fun z => c ⟨z.1, z.2.1⟩), if_neg (fun z => c ⟨z.1, z.2.1⟩)]
  refine ⟨F h 0, ?_, fun i hi => ?_⟩
  · have L := ds_it_up OB (fun y => (nI y, F y 0)) h 1000 (E (F h 0)) (fun y hy => by
      rw [hO y _ hy]
      have L2 := ds_it_up (IB y) (fun x => (nI x, F y x)) w 1000 (some (Sum.inl (nI (y + 1), F (y + 1) 0))) (fun x hx => by
        rw [hI y x _ hy hx, Fs y x hy hx]) (by rw [hIe y _ hy, Fe]; rfl) hw
      exact L2) (hOe _) hh
    rw [← F0]
    exact L
  · rw [hF]
    by_cases c : ins i = true
    · have pp := hψ i hi c
      rw [if_pos ⟨hi, c, by omega⟩, if_pos c]
    · rw [if_neg (fun z => c z.2.1), if_neg c]

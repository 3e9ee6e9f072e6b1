/-! make -/
def ds_lcg (x : Int32) : Int32 := x * 1103515245 + 12345
def ds_dr (x : Int32) (C : Nat) : Nat := (x.toBitVec.toNat / 65536) % C
theorem shr16 (x : Int32) : ds_iushr x 16 = nI (x.toBitVec.toNat / 65536) := by
  apply Int32.toBitVec.inj
  apply BitVec.eq_of_toNat_eq
  have e : (ds_iushr x 16).toBitVec = x.toBitVec >>> (((16 : Int32).toUInt32 &&& Int32.toUInt32 31).toBitVec % 32).toNat := rfl
  have e1 : (((16 : Int32).toUInt32 &&& Int32.toUInt32 31).toBitVec % 32).toNat = 16 := by decide
  have e2 : (nI (x.toBitVec.toNat / 65536)).toBitVec = BitVec.ofNat 32 (x.toBitVec.toNat / 65536) := rfl
  have lt := x.toBitVec.isLt
  rw [e, e1, e2, BitVec.toNat_ushiftRight, Nat.shiftRight_eq_div_pow, BitVec.toNat_ofNat, Nat.mod_eq_of_lt]
  · omega
theorem n_rem {m C : Nat} (hm : m < 1000000) (h1 : 1 ≤ C) (h2 : C < 1000) : ds_rem (nI m) (nI C) = nI (m % C) := by
  rw [z_nI, z_nI, z_nI, z_rem (by omega) (by omega) (by omega) (by omega)]; rfl
theorem p_draw (x : Int32) {C : Nat} (h1 : 1 ≤ C) (h2 : C ≤ 4) : ds_rem (ds_iushr x 16) (nI C) = nI (ds_dr x C) ∧ ds_dr x C < 4 := by
  have lt := x.toBitVec.isLt
  rw [shr16, n_rem (by omega) h1 (by omega)]
  exact ⟨rfl, by unfold ds_dr; have := Nat.mod_lt (x.toBitVec.toNat / 65536) (show 0 < C by omega); omega⟩
def ds_xs (L : Nat → Bool) (s : Int32) : Nat → Int32
  | 0 => s
  | k + 1 => if L k = true then ds_lcg (ds_xs L s k) else ds_xs L s k
theorem xs_gap {L : Nat → Bool} {s : Int32} {a : Nat} : ∀ b, a ≤ b → (∀ i, a ≤ i → i < b → L i = false) → ds_xs L s a = ds_xs L s b := by
  intro b
  induction b with
  | zero => intro h _; rw [show a = 0 by omega]
  | succ b ih =>
    intro h hz
    by_cases e : a = b + 1
    · rw [e]
    · have : ds_xs L s (b + 1) = if L b = true then ds_lcg (ds_xs L s b) else ds_xs L s b := rfl
      rw [this, hz b (by omega) (by omega), if_neg (by decide), ih (by omega) (fun i h1 h2 => hz i h1 (by omega))]
theorem ne_tab : ∀ c, c < 17 → ∀ n, n < 9 → fX8_needsEven ds_hvF (nI c) = some (ds_q (decide (ds_mkh c 0 + ds_mkh c 1 ≠ 0))) ∧ (ds_rem (nI n) 2 = 1 ↔ n % 2 = 1) := by decide +kernel
theorem m_make {n : Nat} (hk : ds_ok n n) {c : Nat} (hc : c < 17) (hf : ds_fit n c = true) {C : Nat} (h1 : 1 ≤ C) (h2 : C ≤ 4) (seed : Int32) {al2 : Nat → Int32} (hm : ds_MT n n (ds_chx c) 0 0 al2) {R : Nat → Int32} {r : Nat → Nat} (u : ds_UF R r) (ui : ∀ i, i < 64 → ds_ins n n i = true → ds_ins n n (r i) = true) (uk : ∀ i j, i < 64 → j < 64 → ds_ins n n i = true → ds_ins n n j = true → (r i = r j ↔ ds_Ko n c i j)) {L : Nat → Bool} (hL : ∀ k, L k = ds_d (ds_ld n n (ds_Ko n c) k)) {o2 t2 : Int64} (so : ds_sub n n o2) (st : ds_sub n n t2) (hco : ∀ i, i < 64 → ds_co o2 t2 i = if ds_ins n n i = true then ds_dr (ds_xs L seed (r i + 1)) C else 0) (ra ud : Int32) (un : Nat → Int32) :
    ∃ x' al', fX8_make_126 ra ud un R (nI n) (nI C) 0 seed al2 = some (nI (ds_lc n n (ds_Ko n c) 64), ra, ud, x', un, al', R) ∧ ds_MT n n (ds_chx c) o2 t2 al' ∧ ∀ j, 67 ≤ j → al' j = al2 j := by
  obtain ⟨k1, k2, k3, k4⟩ := id hk
  obtain ⟨m0, m1, m2, m3⟩ := id hm
  have rl : ∀ i, i < 64 → r i ≤ i := fun i hi => (u i hi).1
  have z0 : ∀ i, ds_co 0 0 i = 0 := fun i => by unfold ds_co; rw [b_zero]; rfl
  obtain ⟨A, hA⟩ : ∃ A : Nat → Nat → Int32, ∀ k j, A k j = if 3 ≤ j ∧ j < 67 ∧ ds_ins n n (j - 3) = true ∧ j - 3 < k then nI (ds_dr (ds_xs L seed (r (j - 3) + 1)) C) else al2 j := ⟨_, fun _ _ => rfl⟩
  have A0 : A 0 = al2 := by funext j; rw [hA, if_neg (by omega)]
  have As : ∀ k, k < 64 → ds_ins n n k = true → upd (A k) (3 + k) (nI (ds_dr (ds_xs L seed (r k + 1)) C)) = A (k + 1) := by
    intro k hk6 ik
    funext j
    by_cases e : j = 3 + k
    · subst e
      rw [upd_at, hA, if_pos ⟨by omega, by omega, by rw [show 3 + k - 3 = k by omega]; exact ik, by omega⟩, show 3 + k - 3 = k by omega]
    · rw [upd_ne _ _ e, hA, hA]
      by_cases d : 3 ≤ j ∧ j < 67 ∧ ds_ins n n (j - 3) = true ∧ j - 3 < k
      · rw [if_pos d, if_pos ⟨d.1, d.2.1, d.2.2.1, by omega⟩]
      · rw [if_neg d, if_neg (fun z => d ⟨z.1, z.2.1, z.2.2.1, by omega⟩)]
  have Ag : ∀ a b, a ≤ b → (∀ i, a ≤ i → i < b → ds_ins n n i = false) → A a = A b := by
    intro a b hab hz
    funext j
    rw [hA, hA]
    by_cases d : 3 ≤ j ∧ j < 67 ∧ ds_ins n n (j - 3) = true ∧ j - 3 < a
    · rw [if_pos d, if_pos ⟨d.1, d.2.1, d.2.2.1, by omega⟩]
    · rw [if_neg d, if_neg]
      intro z
      by_cases e : j - 3 < a
      · exact d ⟨z.1, z.2.1, z.2.2.1, e⟩
      · have := hz (j - 3) (by omega) z.2.2.2
        rw [z.2.2.1] at this; cases this
  have Lo : ∀ i, ds_ins n n i = false → L i = false := fun i hi => by
    rw [hL]; exact d_false (fun z => by have := z.2.1; rw [hi] at this; cases this)
  have gap : ∀ v i, 8 * v + n ≤ i → i < 8 * (v + 1) → ds_ins n n i = false := fun v i a b => by
    unfold ds_ins; rw [decide_eq_false (show ¬ i % 8 < n by omega)]; rfl
  have row : ∀ v, v < n → fX8_make_135 R (nI n) (nI C) (nI v) 0 (ds_xs L seed (8 * v)) (A (8 * v)) = some (.inl (nI (v + 1), ds_xs L seed (8 * (v + 1)), A (8 * (v + 1)))) := by
    intro v hv
    unfold fX8_make_135
    refine ds_it_up _ (fun x => (nI x, ds_xs L seed (8 * v + x), A (8 * v + x))) n 1000 (some (Sum.inl (nI (v + 1), ds_xs L seed (8 * (v + 1)), A (8 * (v + 1))))) (fun x hx => ?_) ?_ (by omega)
    · try dsimp only
      obtain ⟨j1, j2, j3, j4⟩ := ins_xy hk hx hv
      have kl := KR_lead u ui uk j4 j1
      have xe : ds_xs L seed (8 * v + (x + 1)) = if L (8 * v + x) = true then ds_lcg (ds_xs L seed (8 * v + x)) else ds_xs L seed (8 * v + x) := rfl
      have rle := rl _ j4
      have i3 : (3 + 8 * nI v) + nI x = nI (3 + (8 * v + x)) := by rw [sh_8, show (3 : Int32) = nI 3 from rfl, nI_add, nI_add, Nat.add_assoc]
      unfold fX8_make_135_b fX8_make_199
      rw [if_neg (nI_ge hx (by omega)), i3, sh_8, nI_add, uf_root u j4, Option.bind_some, nI_1]
      by_cases l : ds_ld n n (ds_Ko n c) (8 * v + x)
      · have rr := kl.mpr l
        have Lk : L (8 * v + x) = true := by rw [hL]; exact d_true l
        have e2 : fX8_drawn (ds_xs L seed (8 * v + x)) (nI C) = some (nI (ds_dr (ds_lcg (ds_xs L seed (8 * v + x))) C), ds_lcg (ds_xs L seed (8 * v + x))) := by
          unfold fX8_drawn
          rw [Option.bind_some, if_neg (fun z => by have := (n_eq0 (by omega)).mp z; omega)]
          have := (p_draw (ds_lcg (ds_xs L seed (8 * v + x))) h1 h2).1
          unfold ds_lcg at this ⊢
          rw [this]
        have ar := As _ j4 j1
        rw [rr] at ar
        have xr : ds_xs L seed (8 * v + x + 1) = ds_lcg (ds_xs L seed (8 * v + x)) := by
          show (if L (8 * v + x) = true then ds_lcg (ds_xs L seed (8 * v + x)) else ds_xs L seed (8 * v + x)) = _
          rw [Lk, if_pos rfl]
        rw [xr] at ar
        rw [rr, if_pos rfl, e2, Option.bind_some]
        dsimp only
        rw [if_pos (in_nI (show 3 + (8 * v + x) < 350 by omega) (by omega)), nI_clamp (by omega), ar, xe, Lk, if_pos rfl]
        rfl
      · have nr : ¬ r (8 * v + x) = 8 * v + x := fun z => l (kl.mp z)
        have Lk : L (8 * v + x) = false := by rw [hL]; exact d_false l
        have i4 : (3 : Int32) + nI (r (8 * v + x)) = nI (3 + r (8 * v + x)) := by rw [show (3 : Int32) = nI 3 from rfl, nI_add]
        have ar := As _ j4 j1
        have ev : A (8 * v + x) (3 + r (8 * v + x)) = nI (ds_dr (ds_xs L seed (r (8 * v + x) + 1)) C) := by
          rw [hA, if_pos ⟨by omega, by omega, by rw [show 3 + r (8 * v + x) - 3 = r (8 * v + x) by omega]; exact ui _ j4 j1, by omega⟩, show 3 + r (8 * v + x) - 3 = r (8 * v + x) by omega, uf_rr u _ j4]
        rw [if_neg (fun z => nr ((n_inj (by omega) (by omega)).mp z)), i4, if_pos (in_nI (show 3 + r (8 * v + x) < 350 by omega) (by omega)), if_pos (in_nI (show 3 + (8 * v + x) < 350 by omega) (by omega)), nI_clamp (by omega), nI_clamp (by omega), ev, ar, xe, Lk, if_neg (by decide)]
        rfl
    · try dsimp only
      unfold fX8_make_135_b fX8_make_206
      rw [if_pos (nI_le (Nat.le_refl _) (by omega)), nI_1, Option.bind_some, xs_gap (a := 8 * v + n) (8 * (v + 1)) (by omega) (fun i a b => Lo i (gap v i a b)), Ag (8 * v + n) (8 * (v + 1)) (by omega) (gap v)]
      rfl
  have hm' : ds_MT n n (ds_chx c) o2 t2 (A (8 * n)) := by
    refine ⟨by rw [hA, if_neg (by omega), m0], by rw [hA, if_neg (by omega), m1], by rw [hA, if_neg (by omega), m2], fun i hi => ?_⟩
    rw [hA, show 3 + i - 3 = i by omega, hco i hi]
    cases ii : ds_ins n n i
    · rw [if_neg (fun z => by have := z.2.2.1; cases this), if_neg (by decide), m3 i hi, z0]
    · have io := ins_of ii
      rw [if_pos ⟨by omega, by omega, rfl, by omega⟩, if_pos rfl]
  refine ⟨ds_xs L seed (8 * n), A (8 * n), ?_, hm', fun j hj => by rw [hA, if_neg (by omega)]⟩
  unfold fX8_make_126
  have fin := ds_it_up (fun s : Int32 × Int32 × (Nat → Int32) => fX8_make_126_b ra ud un R (nI n) (nI C) s.1 s.2.1 s.2.2) (fun v => (nI v, ds_xs L seed (8 * v), A (8 * v))) n 1000 (some (nI (ds_lc n n (ds_Ko n c) 64), ra, ud, ds_xs L seed (8 * n), un, A (8 * n), R)) (fun v hv => by
    try dsimp only
    unfold fX8_make_126_b
    rw [if_neg (nI_ge hv (by omega)), row v hv]) (by
    try dsimp only
    unfold fX8_make_126_b fX8_make_212
    rw [if_pos (nI_le (Nat.le_refl _) (by omega)), show (64 : Int32) = nI 64 from rfl, m_leaders hk hm' ⟨r, u, ui, uk⟩ (Nat.le_refl 64)]
    rfl) (by omega)
  rw [show (0, seed, al2) = (nI 0, ds_xs L seed (8 * 0), A (8 * 0)) by rw [show A (8 * 0) = al2 from A0]; rfl]
  exact fin
theorem g_make {n : Nat} (hk : ds_ok n n) {c : Nat} (hc : c < 17) (hf : ds_fit n c = true) {C : Nat} (h1 : 1 ≤ C) (h2 : C ≤ 4) (seed : Int32) {mem : Nat → Int64} (hv : ∀ q, q < 64 → ds_OV n c mem q) {R : Nat → Int32} {r : Nat → Nat} (u : ds_UF R r) (ui : ∀ i, i < 64 → ds_ins n n i = true → ds_ins n n (r i) = true) (uk : ∀ i j, i < 64 → j < 64 → ds_ins n n i = true → ds_ins n n j = true → (r i = r j ↔ ds_Ko n c i j)) {L : Nat → Bool} (hL : ∀ k, L k = ds_d (ds_ld n n (ds_Ko n c) k)) (SZ : Int32) (X : Int32) (nx sz : Int32) (T : Nat → ds_TV) (W H Y : Int32) (O U : Int64) :
    ∃ o2 t2, ds_sub n n o2 ∧ ds_sub n n t2 ∧ (∀ i, i < 64 → ds_co o2 t2 i = if ds_ins n n i = true then ds_dr (ds_xs L seed (r i + 1)) C else 0) ∧ fX7_make_76 SZ mem (nI n) (nI n) X nx sz T W H Y O U (nI C) seed 0 0 0 = fX7_make_134 SZ mem (nI n) (nI n) X o2 t2 nx sz T W H Y O U := by
  have hK := Ko_Eq hk hc hf
  have rl : ∀ i, i < 64 → r i < 64 := fun i hi => by have := (u i hi).1; omega
  have step : ∀ k, k ≤ 64 → ∀ o' t', ds_sub n n o' → ds_sub n n t' → (∀ i, i < 64 → ds_co o' t' i = if ds_ins n n i = true ∧ r i < k then ds_dr (ds_xs L seed (r i + 1)) C else 0) → ∃ o2 t2, ds_sub n n o2 ∧ ds_sub n n t2 ∧ (∀ i, i < 64 → ds_co o2 t2 i = if ds_ins n n i = true then ds_dr (ds_xs L seed (r i + 1)) C else 0) ∧ ds_it (fun s : Int32 × Int32 × Int64 × Int64 => fX7_make_76_b SZ mem (nI n) (nI n) X nx sz T W H Y O U (nI C) s.1 s.2.1 s.2.2.1 s.2.2.2) (1000 - k) (ds_xs L seed k, nI k, o', t') = fX7_make_134 SZ mem (nI n) (nI n) X o2 t2 nx sz T W H Y O U := by
    intro k
    induction hd : 64 - k generalizing k with
    | zero =>
      intro hk6 o' t' so st hco
      have ek : k = 64 := by omega
      subst ek
      refine ⟨o', t', so, st, fun i hi => ?_, ?_⟩
      · rw [hco i hi]
        cases ii : ds_ins n n i
        · rw [if_neg (fun z => by cases z.1), if_neg (by decide)]
        · rw [if_pos ⟨rfl, rl i hi⟩, if_pos rfl]
      · rw [show 1000 - 64 = 935 + 1 from rfl]
        unfold ds_it
        have : fX7_make_76_b SZ mem (nI n) (nI n) X nx sz T W H Y O U (nI C) (ds_xs L seed 64) (nI 64) o' t' = Option.bind (fX7_make_134 SZ mem (nI n) (nI n) X o' t' nx sz T W H Y O U) (fun z => some (.inr z)) := by
          unfold fX7_make_76_b
          rw [if_pos (by decide)]
        try dsimp only
        rw [this]
        cases fX7_make_134 SZ mem (nI n) (nI n) X o' t' nx sz T W H Y O U <;> rfl
    | succ d ih =>
      intro hk6 o' t' so st hco
      have hk6' : k < 64 := by omega
      have xe : ds_xs L seed (k + 1) = if L k = true then ds_lcg (ds_xs L seed k) else ds_xs L seed k := rfl
      by_cases l : ds_ld n n (ds_Ko n c) k
      · have Lk : L k = true := by rw [hL]; exact d_true l
        rw [Lk, if_pos rfl] at xe
        have pd := p_draw (ds_lcg (ds_xs L seed k)) h1 h2
        obtain ⟨o'', t'', e, so', st', hco'⟩ := p_colourCells so st (OV_sub (hv k hk6')) pd.2
        have nz : ¬ mem k = 0 := by
          intro z
          have := ob_b (hv k hk6') l hk6'
          unfold ds_ob1 at this
          rw [z, b_zero, l.2.1, d_true (hK.1 k hk6')] at this; cases this
        have nxt := ih (k + 1) (by omega) (by omega) o'' t'' so' st' (fun i hi => by
          rw [hco' i hi, mem_b hk hc hf hv u ui uk hk6' hi, hco i hi]
          cases ii : ds_ins n n i
          · rw [Bool.false_and, if_neg (by decide), if_neg (fun z => by cases z.1), if_neg (fun z => by cases z.1)]
          · rw [Bool.true_and]
            by_cases e : r i = k
            · rw [decide_eq_true e, if_pos rfl, if_pos ⟨rfl, by omega⟩, e, xe]
            · rw [decide_eq_false e, if_neg (by decide)]
              by_cases e2 : r i < k
              · rw [if_pos ⟨rfl, e2⟩, if_pos ⟨rfl, by omega⟩]
              · rw [if_neg (fun z => e2 z.2), if_neg (fun z => by have := z.2; omega)])
        obtain ⟨o2, t2, a1, a2, a3, a4⟩ := nxt
        refine ⟨o2, t2, a1, a2, a3, ?_⟩
        rw [← a4, show 1000 - k = (1000 - (k + 1)) + 1 by omega]
        conv => lhs; unfold ds_it
        have : fX7_make_76_b SZ mem (nI n) (nI n) X nx sz T W H Y O U (nI C) (ds_xs L seed k) (nI k) o' t' = some (.inl (ds_xs L seed (k + 1), nI (k + 1), o'', t'')) := by
          unfold fX7_make_76_b fX7_make_128
          rw [show (64 : Int32) = nI 64 from rfl, if_neg (nI_ge hk6' (by omega)), g_start hk6', Option.bind_some, if_neg (fun z => nz ((b_cmp _ _).mp z)), Option.bind_some, if_neg (fun z => by have := (n_eq0 (by omega)).mp z; omega), nI_1, xe]
          have p1 := pd.1
          unfold ds_lcg at p1 e ⊢
          rw [p1, e, Option.bind_some]
        try dsimp only
        rw [this]
      · have Lk : L k = false := by rw [hL]; exact d_false l
        rw [Lk, if_neg (by decide)] at xe
        have nxt := ih (k + 1) (by omega) (by omega) o' t' so st (fun i hi => by
          rw [hco i hi]
          cases ii : ds_ins n n i
          · rw [if_neg (fun z => by cases z.1), if_neg (fun z => by cases z.1)]
          · have nk : ¬ r i = k := by
              intro e
              apply l
              have := (KR_lead u ui uk (rl i hi) (ui i hi ii)).mp (uf_rr u i hi)
              rw [e] at this; exact this
            by_cases e2 : r i < k
            · rw [if_pos ⟨rfl, e2⟩, if_pos ⟨rfl, by omega⟩]
            · rw [if_neg (fun z => e2 z.2), if_neg (fun z => by have := z.2; omega)])
        obtain ⟨o2, t2, a1, a2, a3, a4⟩ := nxt
        refine ⟨o2, t2, a1, a2, a3, ?_⟩
        rw [← a4, show 1000 - k = (1000 - (k + 1)) + 1 by omega]
        conv => lhs; unfold ds_it
        have : fX7_make_76_b SZ mem (nI n) (nI n) X nx sz T W H Y O U (nI C) (ds_xs L seed k) (nI k) o' t' = some (.inl (ds_xs L seed (k + 1), nI (k + 1), o', t')) := by
          unfold fX7_make_76_b fX7_make_128
          rw [show (64 : Int32) = nI 64 from rfl, if_neg (nI_ge hk6' (by omega)), g_start hk6', Option.bind_some, if_pos ((b_cmp _ _).mpr ((hv k hk6').2 l)), nI_1, xe]
        try dsimp only
        rw [this]
  have z0 : ∀ i, ds_co 0 0 i = 0 := fun i => by unfold ds_co; rw [b_zero]; rfl
  exact step 0 (by omega) 0 0 sub_0 sub_0 (fun i hi => by rw [if_neg (fun z => by have := z.2; omega), z0])
theorem q_make {w h : Nat} (hk : ds_ok w h) {hex : Bool} {o t : Int64} (ho : ds_sub w h o) (ht : ds_sub w h t) {al : Nat → Int32} (hm : ds_MT w h hex o t al) {nx sz ud : Int32} {T : Nat → ds_TV} {un : Nat → Int32} (hh : ds_HI nx sz T ud un) (os : Int32) (mem : Nat → Int64) (dw dh dx : Int32) (do_ dt : Int64) (R : Nat → Int32) (xx p1 p2 p3 p4 : Int32) :
    ∃ (v : Int32) (W H X : Int32) (O U : Int64) (os' : Int32) (mem' : Nat → Int64) (dw' dh' dx' : Int32) (do' dt' : Int64) (nx' sz' : Int32) (T' : Nat → ds_TV) (ud' x' : Int32) (al' R' un' : Nat → Int32), fX7_make os mem dw dh dx do_ dt nx sz T (nI w) (nI h) (ds_q hex) o t p1 p2 p3 p4 = some (v, os', mem', dw', dh', dx', do', dt', nx', sz', T', W, H, X, O, U) ∧ fX8_make ud xx ds_hvF un al R ds_mrF ds_tabF p1 p2 p3 p4 = some (v, 0, ud', x', un', al', R') ∧ ds_Ps al W H X O U nx' sz' T' ud' al' un' := by
  obtain ⟨m0, m1, m2, m3⟩ := id hm
  have stay : ds_Ps al (nI w) (nI h) (ds_q hex) o t nx sz T ud al un := ⟨w, h, hex, hk, rfl, rfl, rfl, ho, ht, hm, hh, fun _ _ => rfl⟩
  have bad : ∀ {A : Option (Int32 × Int32 × (Nat → Int64) × Int32 × Int32 × Int32 × Int64 × Int64 × Int32 × Int32 × (Nat → ds_TV) × Int32 × Int32 × Int32 × Int64 × Int64)} {B : Option (Int32 × Int32 × Int32 × Int32 × (Nat → Int32) × (Nat → Int32) × (Nat → Int32))}, A = some (-1, os, mem, dw, dh, dx, do_, dt, nx, sz, T, nI w, nI h, ds_q hex, o, t) → B = some (-1, 0, ud, xx, un, al, R) → ∃ (v : Int32) (W H X : Int32) (O U : Int64) (os' : Int32) (mem' : Nat → Int64) (dw' dh' dx' : Int32) (do' dt' : Int64) (nx' sz' : Int32) (T' : Nat → ds_TV) (ud' x' : Int32) (al' R' un' : Nat → Int32), A = some (v, os', mem', dw', dh', dx', do', dt', nx', sz', T', W, H, X, O, U) ∧ B = some (v, 0, ud', x', un', al', R') ∧ ds_Ps al W H X O U nx' sz' T' ud' al' un' :=
    fun a b => ⟨_, _, _, _, _, _, _, _, _, _, _, _, _, _, _, _, _, _, _, _, _, a, b, stay⟩
  have l1 : ∀ p : Int32, p < 1 ↔ p.toInt < 1 := fun p => i_lt p (k := 1) (by omega) (by omega)
  have g8 : 8 < p2 ↔ 8 < p2.toInt := i_gt p2 (k := 8) (by omega) (by omega)
  have l4 : p3 ≤ 4 ↔ p3.toInt ≤ 4 := i_le p3 (k := 4) (by omega) (by omega)
  have pin1 : fX8_in p1 0 16 = some (ds_q (decide (0 ≤ p1.toInt ∧ p1.toInt ≤ 16))) := p_in p1 (a := 0) (b := 16) (by omega) (by omega) (by omega) (by omega)
  have pin2 : fX8_in p2 1 8 = some (ds_q (decide (1 ≤ p2.toInt ∧ p2.toInt ≤ 8))) := p_in p2 (a := 1) (b := 8) (by omega) (by omega) (by omega) (by omega)
  have pin3 : fX8_in p3 1 4 = some (ds_q (decide (1 ≤ p3.toInt ∧ p3.toInt ≤ 4))) := p_in p3 (a := 1) (b := 4) (by omega) (by omega) (by omega) (by omega)
  unfold fX7_make fX8_make fX7_isClass
  rw [pin1, Option.bind_some, pin2, Option.bind_some, pin3, Option.bind_some]
  by_cases c1 : 0 ≤ p1.toInt ∧ p1.toInt ≤ 16
  rotate_left
  · refine bad ?_ (by rw [decide_eq_false c1]; rfl)
    by_cases d : p1.toInt < 0
    · rw [if_pos ((i_lt0 p1).mpr d)]; rfl
    · rw [if_neg (fun z => d ((i_lt0 p1).mp z)), if_pos ((i_ge17 p1).mpr (by omega))]; rfl
  rw [decide_eq_true c1, if_neg (show ¬ ds_q true = 0 by decide), if_neg (fun z => by have := (i_lt0 p1).mp z; omega), if_neg (fun z => by have := (i_ge17 p1).mp z; omega), Option.bind_some, if_neg (show ¬ (1 : Int32) = 0 by decide)]
  by_cases c2 : 1 ≤ p2.toInt ∧ p2.toInt ≤ 8
  rotate_left
  · refine bad ?_ (by rw [decide_eq_false c2]; rfl)
    by_cases d : p2.toInt < 1
    · rw [if_pos ((l1 p2).mpr d)]
    · rw [if_neg (fun z => d ((l1 p2).mp z)), if_pos (g8.mpr (by omega))]
  rw [decide_eq_true c2, if_neg (show ¬ ds_q true = 0 by decide), if_neg (fun z => by have := (l1 p2).mp z; omega), if_neg (fun z => by have := g8.mp z; omega)]
  by_cases c3 : 1 ≤ p3.toInt ∧ p3.toInt ≤ 4
  rotate_left
  · refine bad ?_ (by rw [decide_eq_false c3]; rfl)
    by_cases d : p3.toInt < 1
    · rw [if_pos ((l1 p3).mpr d)]
    · rw [if_neg (fun z => d ((l1 p3).mp z)), if_neg (fun z => by have := l4.mp z; omega)]
  rw [decide_eq_true c3, if_neg (show ¬ ds_q true = 0 by decide), if_neg (fun z => by have := (l1 p3).mp z; omega), if_pos (l4.mpr c3.2)]
  obtain ⟨c, hc, rfl⟩ : ∃ c, c < 17 ∧ p1 = nI c := ⟨p1.toInt.toNat, by omega, by rw [z_nI, Int.toNat_of_nonneg (by omega), z_of]⟩
  obtain ⟨n, hn1, hn8, rfl⟩ : ∃ n, 1 ≤ n ∧ n ≤ 8 ∧ p2 = nI n := ⟨p2.toInt.toNat, by omega, by omega, by rw [z_nI, Int.toNat_of_nonneg (by omega), z_of]⟩
  obtain ⟨C, hC1, hC4, rfl⟩ : ∃ C, 1 ≤ C ∧ C ≤ 4 ∧ p3 = nI C := ⟨p3.toInt.toNat, by omega, by omega, by rw [z_nI, Int.toNat_of_nonneg (by omega), z_of]⟩
  have pc := n_toInt (show c < 1000000 by omega)
  have kn : ds_ok n n := ⟨hn1, hn8, hn1, hn8⟩
  obtain ⟨f1, _⟩ := fit_tab c hc n (by omega)
  obtain ⟨e1, e2⟩ := ne_tab c hc n (by omega)
  rw [f1, Option.bind_some, e1, Option.bind_some]
  have fu : ds_fit n c = (decide (ds_mkh c 0 + ds_mkh c 1 = 0) || decide (n % 2 = 0)) := rfl
  by_cases c4 : ds_fit n c = true
  rotate_left
  · have c4' : ds_fit n c = false := by cases q : ds_fit n c; rfl; exact absurd q c4
    rw [c4', if_pos (show ds_q false = 0 from rfl)]
    refine bad rfl ?_
    rw [fu] at c4'
    have x1 : ¬ ds_mkh c 0 + ds_mkh c 1 = 0 := fun z => by rw [decide_eq_true z] at c4'; cases c4'
    have x2 : ¬ n % 2 = 0 := fun z => by rw [decide_eq_true z, Bool.or_true] at c4'; cases c4'
    rw [decide_eq_true x1, if_neg (show ¬ ds_q true = 0 by decide), if_pos (e2.mpr (by omega))]
  have go : (if ds_q (decide (ds_mkh c 0 + ds_mkh c 1 ≠ 0)) = 0 then fX8_make_51 0 ud ds_hvF un al R ds_mrF ds_tabF (nI c) (nI n) (nI C) p4 else if ds_rem (nI n) 2 = 1 then some (-1, 0, ud, xx, un, al, R) else fX8_make_51 0 ud ds_hvF un al R ds_mrF ds_tabF (nI c) (nI n) (nI C) p4) = fX8_make_51 0 ud ds_hvF un al R ds_mrF ds_tabF (nI c) (nI n) (nI C) p4 := by
    by_cases x1 : ds_mkh c 0 + ds_mkh c 1 = 0
    · rw [decide_eq_false (fun z => z x1), if_pos (show ds_q false = 0 from rfl)]
    · rw [decide_eq_true x1, if_neg (show ¬ ds_q true = 0 by decide), if_neg]
      intro z
      have := e2.mp z
      rw [fu, decide_eq_false x1, decide_eq_false (by omega)] at c4; cases c4
  rw [go, c4, if_neg (show ¬ ds_q true = 0 by decide)]
  obtain ⟨mem', e3, hv⟩ := g_split kn hc c4 mem
  rw [e3, Option.bind_some]
  dsimp only
  obtain ⟨nx', sz', T', ud', un', e4, e5, hh'⟩ := q_keep hk ho ht hm hh
  unfold fX8_make_51
  rw [e5, Option.bind_some]
  dsimp only
  -- the reference clears
  have clr : ∃ al1, fX8_make_58 0 ud' ds_hvF un' R ds_mrF ds_tabF (nI c) (nI n) (nI C) p4 0 al = fX8_make_81 0 ud' ds_hvF un' al1 R ds_mrF ds_tabF (nI c) (nI n) (nI C) p4 ∧ (∀ i, i < 64 → al1 (3 + i) = 0) ∧ ∀ j, 67 ≤ j → al1 j = al j := by
    obtain ⟨A, hA⟩ : ∃ A : Nat → Nat → Int32, ∀ k j, A k j = if 3 ≤ j ∧ j < 3 + k then 0 else al j := ⟨_, fun _ _ => rfl⟩
    refine ⟨A 64, ?_, fun i hi => by rw [hA, if_pos (by omega)], fun j hj => by rw [hA, if_neg (by omega)]⟩
    unfold fX8_make_58
    have fin := ds_it_up (fun s : Int32 × (Nat → Int32) => fX8_make_58_b 0 ud' ds_hvF un' R ds_mrF ds_tabF (nI c) (nI n) (nI C) p4 s.1 s.2) (fun k => (nI k, A k)) 64 1000 (fX8_make_81 0 ud' ds_hvF un' (A 64) R ds_mrF ds_tabF (nI c) (nI n) (nI C) p4) (fun k hk6 => by
      try dsimp only
      unfold fX8_make_58_b
      rw [show (64 : Int32) = nI 64 from rfl, if_neg (nI_ge hk6 (by omega)), show (3 : Int32) = nI 3 from rfl, nI_add, if_pos (in_nI (show 3 + k < 350 by omega) (by omega)), nI_clamp (by omega), nI_1]
      have : upd (A k) (3 + k) 0 = A (k + 1) := by
        funext j
        by_cases e : j = 3 + k
        · rw [e, upd_at, hA, if_pos (by omega)]
        · rw [upd_ne _ _ e, hA, hA]
          by_cases d : 3 ≤ j ∧ j < 3 + k
          · rw [if_pos d, if_pos (by omega)]
          · rw [if_neg d, if_neg (by omega)]
      rw [this]) (by
      try dsimp only
      unfold fX8_make_58_b
      rw [if_pos (by decide)]
      cases fX8_make_81 0 ud' ds_hvF un' (A 64) R ds_mrF ds_tabF (nI c) (nI n) (nI C) p4 <;> rfl) (by omega)
    have A0 : A 0 = al := by funext j; rw [hA, if_neg (by omega)]
    rw [show ((0 : Int32), al) = (nI 0, A 0) by rw [A0]; rfl]
    exact fin
  obtain ⟨al1, e6, g1, g2⟩ := clr
  rw [e6]
  obtain ⟨al2, hal2⟩ : ∃ al2, al2 = upd (upd (upd al1 0 (nI n)) 1 (nI n)) 2 (ds_q (ds_chx c)) := ⟨_, rfl⟩
  have z0 : ∀ i, ds_co 0 0 i = 0 := fun i => by unfold ds_co; rw [b_zero]; rfl
  have hm2 : ds_MT n n (ds_chx c) 0 0 al2 := by
    rw [hal2]
    refine ⟨by rw [upd_ne _ _ (by omega), upd_ne _ _ (by omega), upd_at], by rw [upd_ne _ _ (by omega), upd_at], upd_at _ _ _, fun i hi => ?_⟩
    rw [upd_ne _ _ (by omega), upd_ne _ _ (by omega), upd_ne _ _ (by omega), g1 i hi, z0]; rfl
  have s2 : ∀ j, 67 ≤ j → al2 j = al j := fun j hj => by
    rw [hal2, upd_ne _ _ (by omega), upd_ne _ _ (by omega), upd_ne _ _ (by omega), g2 j hj]
  obtain ⟨R', e7, r, u, ui, uk⟩ := m_orbits kn hc c4 hm2 R
  obtain ⟨L, hL⟩ : ∃ L : Nat → Bool, ∀ k, L k = ds_d (ds_ld n n (ds_Ko n c) k) := ⟨_, fun _ => rfl⟩
  have ref : fX8_make_81 0 ud' ds_hvF un' al1 R ds_mrF ds_tabF (nI c) (nI n) (nI C) p4 = fX8_make_126 0 ud' un' R' (nI n) (nI C) 0 p4 al2 := by
    unfold fX8_make_81 fX8_make_111
    rw [l_0, l_1, show (2 : Int32).toNatClampNeg = 2 from rfl]
    have key : ∀ b : Int32, b = ds_q (ds_chx c) → (if ds_in 2 350 = true then Option.bind (fX8_laysOrbits R (upd (upd (upd al1 0 (nI n)) 1 (nI n)) 2 b) ds_mrF ds_hvF ds_tabF (nI c)) fun q114 => fX8_make_126 0 ud' un' q114 (nI n) (nI C) 0 p4 (upd (upd (upd al1 0 (nI n)) 1 (nI n)) 2 b) else none) = fX8_make_126 0 ud' un' R' (nI n) (nI C) 0 p4 al2 := by
      rintro b rfl
      rw [if_pos (by decide), ← hal2, e7, Option.bind_some]
    by_cases d : c < 12
    · rw [if_pos ((i_lt12 _).mpr (by omega))]
      exact key 0 (by unfold ds_chx; rw [decide_eq_false (by omega)]; rfl)
    · rw [if_neg (fun z => by have := (i_lt12 _).mp z; omega)]
      exact key 1 (by unfold ds_chx; rw [decide_eq_true (by omega)]; rfl)
  rw [ref]
  obtain ⟨o2, t2, so2, st2, hco2, ec⟩ := g_make kn hc c4 hC1 hC4 p4 hv u ui uk hL (nI (ds_lc n n (ds_Ko n c) 64)) (ds_q (ds_chx c)) nx sz T (nI w) (nI h) (ds_q hex) o t
  obtain ⟨x', al', e8, hm3, s3⟩ := m_make kn hc c4 hC1 hC4 p4 hm2 u ui uk hL so2 st2 hco2 0 ud' un'
  rw [e8]
  have cls : (if nI c < 12 then fX7_make_66 (nI (ds_lc n n (ds_Ko n c) 64)) mem' nx sz T (nI w) (nI h) (ds_q hex) o t (nI C) p4 0 (nI n) (nI n) else fX7_make_66 (nI (ds_lc n n (ds_Ko n c) 64)) mem' nx sz T (nI w) (nI h) (ds_q hex) o t (nI C) p4 1 (nI n) (nI n)) = fX7_make_134 (nI (ds_lc n n (ds_Ko n c) 64)) mem' (nI n) (nI n) (ds_q (ds_chx c)) o2 t2 nx sz T (nI w) (nI h) (ds_q hex) o t := by
    rw [← ec]
    have key : ∀ b : Int32, b = ds_q (ds_chx c) → fX7_make_66 (nI (ds_lc n n (ds_Ko n c) 64)) mem' nx sz T (nI w) (nI h) (ds_q hex) o t (nI C) p4 b (nI n) (nI n) = fX7_make_76 (nI (ds_lc n n (ds_Ko n c) 64)) mem' (nI n) (nI n) (ds_q (ds_chx c)) nx sz T (nI w) (nI h) (ds_q hex) o t (nI C) p4 0 0 0 := by
      rintro b rfl
      unfold fX7_make_66 fX6_clear
      rw [if_pos (q_01 _), Option.bind_some]
    by_cases d : c < 12
    · rw [if_pos ((i_lt12 _).mpr (by omega))]
      exact key 0 (by unfold ds_chx; rw [decide_eq_false (by omega)]; rfl)
    · rw [if_neg (fun z => by have := (i_lt12 _).mp z; omega)]
      exact key 1 (by unfold ds_chx; rw [decide_eq_true (by omega)]; rfl)
  rw [cls]
  unfold fX7_make_134
  have cp : fX6_copyFrom (nI n) (nI n) (ds_q (ds_chx c)) o2 t2 = some (nI n, nI n, ds_q (ds_chx c), o2, t2) := by unfold fX6_copyFrom; rw [if_pos (q_01 _)]
  rw [e4, Option.bind_some, cp, Option.bind_some]
  exact ⟨_, _, _, _, _, _, _, _, _, _, _, _, _, _, _, _, _, _, _, _, _, rfl, rfl, n, n, ds_chx c, kn, rfl, rfl, rfl, so2, st2, hm3, hh', fun j hj => by rw [s3 j hj, s2 j hj]⟩

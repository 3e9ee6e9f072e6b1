/-! texts: bytes, words; the class -/
def ds_RN {σ ρ : Type} (b : σ → Option (σ ⊕ ρ)) (m : Nat) (s : σ) (r : ρ) : Prop := ∀ f, m ≤ f → ds_it b f s = some r
theorem RN_end {σ ρ : Type} {b : σ → Option (σ ⊕ ρ)} {m : Nat} {s : σ} {r : ρ} (h : b s = some (.inr r)) (hm : 1 ≤ m) : ds_RN b m s r := by
  intro f hf
  obtain ⟨g, rfl⟩ : ∃ g, f = g + 1 := ⟨f - 1, by omega⟩
  unfold ds_it; rw [h]
theorem RN_step {σ ρ : Type} {b : σ → Option (σ ⊕ ρ)} {m k : Nat} {s s' : σ} {r : ρ} (h : b s = some (.inl s')) (hr : ds_RN b k s' r) (hm : k + 1 ≤ m) : ds_RN b m s r := by
  intro f hf
  obtain ⟨g, rfl⟩ : ∃ g, f = g + 1 := ⟨f - 1, by omega⟩
  unfold ds_it; rw [h]
  exact hr g (by omega)
theorem RN_mono {σ ρ : Type} {b : σ → Option (σ ⊕ ρ)} {m k : Nat} {s : σ} {r : ρ} (hr : ds_RN b k s r) (hm : k ≤ m) : ds_RN b m s r := fun f hf => hr f (by omega)
def ds_Tx (L : Nat) (B : Nat → Nat) (by_ tx : Nat → Int32) : Prop := L ≤ 200 ∧ ∀ i, i < L → B i < 256 ∧ by_ i = nI (B i) ∧ tx i &&& 255 = nI (B i) ∧ (B i < 128 → tx i = nI (B i))
def ds_lt (B : Nat → Nat) (i : Nat) : Bool := decide (97 ≤ B i) && decide (B i ≤ 122)
def ds_ws (B : Nat → Nat) (i : Nat) : Bool := decide (B i = 10) || decide (B i = 32)
def ds_SK (L : Nat) (B : Nat → Nat) (a p : Nat) : Prop := a ≤ p ∧ p ≤ L ∧ (∀ i, a ≤ i → i < p → ds_ws B i = true) ∧ (p = L ∨ ds_ws B p = false)
def ds_WE (L : Nat) (B : Nat → Nat) (p q : Nat) : Prop := p ≤ q ∧ q ≤ L ∧ (∀ i, p ≤ i → i < q → ds_lt B i = true) ∧ (q = L ∨ ds_lt B q = false)
theorem ex_run (P : Nat → Bool) (L : Nat) : ∀ d a, a + d = L → ∃ p, a ≤ p ∧ p ≤ L ∧ (∀ i, a ≤ i → i < p → P i = true) ∧ (p = L ∨ P p = false) := by
  intro d
  induction d with
  | zero => intro a h; exact ⟨a, by omega, by omega, fun i h1 h2 => by omega, Or.inl (by omega)⟩
  | succ d ih =>
    intro a h
    cases c : P a
    · exact ⟨a, by omega, by omega, fun i h1 h2 => by omega, Or.inr c⟩
    · obtain ⟨p, p1, p2, p3, p4⟩ := ih (a + 1) (by omega)
      refine ⟨p, by omega, p2, fun i h1 h2 => ?_, p4⟩
      by_cases e : i = a
      · rw [e]; exact c
      · exact p3 i (by omega) h2
theorem SK_ex {L : Nat} (B : Nat → Nat) {a : Nat} (h : a ≤ L) : ∃ p, ds_SK L B a p := ex_run (ds_ws B) L (L - a) a (by omega)
theorem WE_ex {L : Nat} (B : Nat → Nat) {a : Nat} (h : a ≤ L) : ∃ p, ds_WE L B a p := ex_run (ds_lt B) L (L - a) a (by omega)
theorem lt_ws {B : Nat → Nat} {i : Nat} (h : ds_lt B i = true) : ds_ws B i = false := by
  unfold ds_lt at h; unfold ds_ws
  simp at h ⊢; omega
-- the class
theorem t_byteAt {L : Nat} {B : Nat → Nat} {by_ tx : Nat → Int32} (ht : ds_Tx L B by_ tx) {i : Nat} (hi : i < L) : fX5_byteAt (nI L) by_ (nI i) = some (nI (B i)) := by
  obtain ⟨l, q⟩ := ht
  unfold fX5_byteAt
  rw [if_neg (nI_pos (by omega)), if_neg (nI_ge hi (by omega)), show (200 : Int32) = nI 200 from rfl, if_neg (nI_ge (show i < 200 by omega) (by omega)), if_pos (in_nI (show i < 200 by omega) (by omega)), nI_clamp (by omega), (q i hi).2.1]
theorem n_ltI {a b : Nat} (h1 : a < 1000) (h2 : b < 1000) : nI a < nI b ↔ a < b := by
  rw [z_nI, z_nI, z_lt (by omega) (by omega) (by omega) (by omega)]; omega
theorem t_isLetter {B : Nat → Nat} {i : Nat} (hb : B i < 256) : fX5_isLetter (nI (B i)) = some (ds_q (ds_lt B i)) := by
  unfold fX5_isLetter ds_lt
  rw [show (97 : Int32) = nI 97 from rfl, show (122 : Int32) = nI 122 from rfl]
  by_cases c1 : B i < 97
  · rw [if_pos ((n_ltI (by omega) (by omega)).mpr c1), decide_eq_false (by omega)]; rfl
  · rw [if_neg (fun z => c1 ((n_ltI (by omega) (by omega)).mp z)), decide_eq_true (by omega), Bool.true_and]
    by_cases c2 : 122 < B i
    · rw [if_pos ((n_ltI (by omega) (by omega)).mpr c2), decide_eq_false (by omega)]; rfl
    · rw [if_neg (fun z => c2 ((n_ltI (by omega) (by omega)).mp z)), decide_eq_true (by omega)]; rfl
theorem t_wordEnd {L : Nat} {B : Nat → Nat} {by_ tx : Nat → Int32} (ht : ds_Tx L B by_ tx) {p q : Nat} (hw : ds_WE L B p q) : fX5_wordEnd (nI L) by_ (nI p) = some (nI q) := by
  obtain ⟨w1, w2, w3, w4⟩ := hw
  have l := ht.1
  unfold fX5_wordEnd fX5_wordEnd_2
  have fin := ds_it_up (fun s : Int32 => fX5_wordEnd_2_b (nI L) by_ s) (fun k => nI (p + k)) (q - p) 1000 (some (nI q)) (fun k hk => by
    try dsimp only
    have lt := w3 (p + k) (by omega) (by omega)
    unfold fX5_wordEnd_2_b
    rw [if_neg (nI_ge (show p + k < L by omega) (by omega)), t_byteAt ht (show p + k < L by omega), Option.bind_some, t_isLetter (ht.2 _ (by omega)).1, Option.bind_some, lt, if_neg (show ¬ ds_q true = 0 by decide), nI_1]
    rfl) (by
    try dsimp only
    rw [show p + (q - p) = q by omega]
    unfold fX5_wordEnd_2_b
    rcases w4 with e | e
    · rw [if_pos (nI_le (by omega) (by omega))]; rfl
    · by_cases c : q = L
      · rw [if_pos (nI_le (by omega) (by omega))]; rfl
      · rw [if_neg (nI_ge (show q < L by omega) (by omega)), t_byteAt ht (show q < L by omega), Option.bind_some, t_isLetter (ht.2 _ (by omega)).1, Option.bind_some, e, if_pos (show ds_q false = 0 from rfl)]; rfl) (by omega)
  exact fin
def ds_isW (B : Nat → Nat) (l : List Nat) (p : Nat) : Bool := (List.range l.length).all (fun k => B (p + k) == l.getD k 0)
theorem w_s0 : fJ0_length_8abf5_s0 = some 3 ∧ ∀ k, k < 3 → fJ0_charAt_5068e_s0 (nI k) = some (nI ([104, 101, 120].getD k 0)) := ⟨rfl, by decide +kernel⟩
theorem w_s1 : fJ0_length_8abf5_s1 = some 6 ∧ ∀ k, k < 6 → fJ0_charAt_5068e_s1 (nI k) = some (nI ([115, 113, 117, 97, 114, 101].getD k 0)) := ⟨rfl, by decide +kernel⟩
theorem l_small : ∀ k, [104, 101, 120].getD k 0 < 256 ∧ [115, 113, 117, 97, 114, 101].getD k 0 < 256 := by
  intro k
  match k with
  | 0 | 1 | 2 | 3 | 4 | 5 => decide
  | n + 6 => exact ⟨by show (0 : Nat) < 256; omega, by show (0 : Nat) < 256; omega⟩
theorem n_sub {a b : Nat} (h : a ≤ b) : nI b - nI a = nI (b - a) := by
  rw [z_nI, z_nI, z_nI, z_sub]; congr 1; omega
theorem t_isHex {L : Nat} {B : Nat → Nat} {by_ tx : Nat → Int32} (ht : ds_Tx L B by_ tx) {p q : Nat} (hp : p ≤ q) (hq : q ≤ L) : ∃ b : Bool, fX5_isWord_ts0 (nI L) by_ (nI p) (nI q) = some (ds_q b) ∧ (b = true ↔ q = p + 3 ∧ ∀ k, k < 3 → B (p + k) = [104, 101, 120].getD k 0) := by
  have l := ht.1
  unfold fX5_isWord_ts0
  rw [w_s0.1, Option.bind_some, n_sub hp]
  by_cases c : q = p + 3
  · rw [if_pos (show nI (q - p) = 3 by rw [show q - p = 3 by omega]; rfl)]
    unfold fX5_isWord_ts0_15
    have fin := ds_it_inv (fun s : Int32 => fX5_isWord_ts0_15_b (nI L) by_ (nI p) s) (fun k s => s = nI k ∧ ∀ j, j < k → B (p + j) = [104, 101, 120].getD j 0) (fun r => ∃ b : Bool, r = ds_q b ∧ (b = true ↔ ∀ k, k < 3 → B (p + k) = [104, 101, 120].getD k 0)) 3 1000 0 0 (Nat.zero_le _) ⟨rfl, fun j hj => by omega⟩ (by omega) ?_ ?_
    · obtain ⟨r, e, b, rfl, hb⟩ := fin
      exact ⟨b, e, hb.trans ⟨fun z => ⟨c, z⟩, fun z => z.2⟩⟩
    · rintro k s hk ⟨rfl, hn⟩
      try dsimp only
      unfold fX5_isWord_ts0_15_b
      rw [w_s0.1, Option.bind_some, show (3 : Int32) = nI 3 from rfl, if_neg (nI_ge hk (by omega)), nI_add, t_byteAt ht (show p + k < L by omega), Option.bind_some, w_s0.2 k hk, Option.bind_some, nI_1]
      have b1 := (ht.2 (p + k) (by omega)).1
      have b2 := (l_small k).1
      by_cases d : B (p + k) = [104, 101, 120].getD k 0
      · left
        rw [if_pos (congrArg nI d)]
        refine ⟨_, rfl, rfl, fun j hj => ?_⟩
        by_cases e : j = k
        · rw [e]; exact d
        · exact hn j (by omega)
      · right
        rw [if_neg (fun z => d ((n_inj (by omega) (by omega)).mp z))]
        exact ⟨_, rfl, false, rfl, fun z => (by cases z), fun z => absurd (z k hk) d⟩
    · rintro s ⟨rfl, hn⟩
      try dsimp only
      unfold fX5_isWord_ts0_15_b
      rw [w_s0.1, Option.bind_some, if_pos (by decide)]
      exact ⟨_, rfl, true, rfl, fun _ => hn, fun _ => rfl⟩
  · rw [if_neg (show ¬ nI (q - p) = 3 from fun z => c (by have := (n_inj (b := 3) (by omega) (by omega)).mp z; omega))]
    exact ⟨false, rfl, fun z => (by cases z), fun z => absurd z.1 c⟩
theorem t_isSq {L : Nat} {B : Nat → Nat} {by_ tx : Nat → Int32} (ht : ds_Tx L B by_ tx) {p q : Nat} (hp : p ≤ q) (hq : q ≤ L) : ∃ b : Bool, fX5_isWord_ts1 (nI L) by_ (nI p) (nI q) = some (ds_q b) ∧ (b = true ↔ q = p + 6 ∧ ∀ k, k < 6 → B (p + k) = [115, 113, 117, 97, 114, 101].getD k 0) := by
  have l := ht.1
  unfold fX5_isWord_ts1
  rw [w_s1.1, Option.bind_some, n_sub hp]
  by_cases c : q = p + 6
  · rw [if_pos (show nI (q - p) = 6 by rw [show q - p = 6 by omega]; rfl)]
    unfold fX5_isWord_ts1_15
    have fin := ds_it_inv (fun s : Int32 => fX5_isWord_ts1_15_b (nI L) by_ (nI p) s) (fun k s => s = nI k ∧ ∀ j, j < k → B (p + j) = [115, 113, 117, 97, 114, 101].getD j 0) (fun r => ∃ b : Bool, r = ds_q b ∧ (b = true ↔ ∀ k, k < 6 → B (p + k) = [115, 113, 117, 97, 114, 101].getD k 0)) 6 1000 0 0 (Nat.zero_le _) ⟨rfl, fun j hj => by omega⟩ (by omega) ?_ ?_
    · obtain ⟨r, e, b, rfl, hb⟩ := fin
      exact ⟨b, e, hb.trans ⟨fun z => ⟨c, z⟩, fun z => z.2⟩⟩
    · rintro k s hk ⟨rfl, hn⟩
      try dsimp only
      unfold fX5_isWord_ts1_15_b
      rw [w_s1.1, Option.bind_some, show (6 : Int32) = nI 6 from rfl, if_neg (nI_ge hk (by omega)), nI_add, t_byteAt ht (show p + k < L by omega), Option.bind_some, w_s1.2 k hk, Option.bind_some, nI_1]
      have b1 := (ht.2 (p + k) (by omega)).1
      have b2 := (l_small k).2
      by_cases d : B (p + k) = [115, 113, 117, 97, 114, 101].getD k 0
      · left
        rw [if_pos (congrArg nI d)]
        refine ⟨_, rfl, rfl, fun j hj => ?_⟩
        by_cases e : j = k
        · rw [e]; exact d
        · exact hn j (by omega)
      · right
        rw [if_neg (fun z => d ((n_inj (by omega) (by omega)).mp z))]
        exact ⟨_, rfl, false, rfl, fun z => (by cases z), fun z => absurd (z k hk) d⟩
    · rintro s ⟨rfl, hn⟩
      try dsimp only
      unfold fX5_isWord_ts1_15_b
      rw [w_s1.1, Option.bind_some, if_pos (by decide)]
      exact ⟨_, rfl, true, rfl, fun _ => hn, fun _ => rfl⟩
  · rw [if_neg (show ¬ nI (q - p) = 6 from fun z => c (by have := (n_inj (b := 6) (by omega) (by omega)).mp z; omega))]
    exact ⟨false, rfl, fun z => (by cases z), fun z => absurd z.1 c⟩
theorem t_isRow {L : Nat} {B : Nat → Nat} {by_ tx : Nat → Int32} (ht : ds_Tx L B by_ tx) {p q : Nat} (hp : p ≤ q) (hq : q ≤ L) : ∃ b : Bool, fX5_isRow (nI L) by_ (nI p) (nI q) = some (ds_q b) ∧ (b = true ↔ q ≤ p + 8 ∧ ∀ i, p ≤ i → i < q → B i ≤ 100) := by
  have l := ht.1
  unfold fX5_isRow fX5_isRow_2
  have fin := ds_it_inv (fun s : Int32 => fX5_isRow_2_b (nI L) by_ (nI p) (nI q) s) (fun k s => s = nI (p + k) ∧ ∀ i, p ≤ i → i < p + k → B i ≤ 100) (fun r => ∃ b : Bool, r = ds_q b ∧ (b = true ↔ q ≤ p + 8 ∧ ∀ i, p ≤ i → i < q → B i ≤ 100)) (q - p) 1000 0 (nI p) (Nat.zero_le _) ⟨rfl, fun i h1 h2 => by omega⟩ (by omega) ?_ ?_
  · obtain ⟨r, e, b, rfl, hb⟩ := fin
    exact ⟨b, e, hb⟩
  · rintro k s hk ⟨rfl, hn⟩
    try dsimp only
    unfold fX5_isRow_2_b
    have b1 := (ht.2 (p + k) (by omega)).1
    rw [if_neg (nI_ge (show p + k < q by omega) (by omega)), t_byteAt ht (show p + k < L by omega), Option.bind_some, nI_1, show (100 : Int32) = nI 100 from rfl]
    by_cases d : B (p + k) ≤ 100
    · left
      rw [if_pos ((n_le (by omega) (by omega)).mpr d)]
      refine ⟨_, rfl, rfl, fun i h1 h2 => ?_⟩
      by_cases e : i = p + k
      · rw [e]; exact d
      · exact hn i h1 (by omega)
    · right
      rw [if_neg (fun z => d ((n_le (by omega) (by omega)).mp z))]
      exact ⟨_, rfl, false, rfl, fun z => (by cases z), fun z => absurd (z.2 (p + k) (by omega) (by omega)) d⟩
  · rintro s ⟨rfl, hn⟩
    try dsimp only
    rw [show p + (q - p) = q by omega] at hn ⊢
    unfold fX5_isRow_2_b fX5_isRow_25
    rw [if_pos (nI_le (Nat.le_refl _) (by omega)), n_sub hp, show (8 : Int32) = nI 8 from rfl]
    by_cases d : 8 < q - p
    · rw [if_pos ((n_ltI (by omega) (by omega)).mpr d)]
      exact ⟨_, rfl, false, rfl, fun z => (by cases z), fun z => by omega⟩
    · rw [if_neg (fun z => d ((n_ltI (by omega) (by omega)).mp z))]
      exact ⟨_, rfl, true, rfl, fun _ => ⟨by omega, hn⟩, fun _ => rfl⟩

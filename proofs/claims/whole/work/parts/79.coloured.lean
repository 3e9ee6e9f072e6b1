/-! coloured -/
def ds_Mt (w h : Nat) (hex : Bool) (o t : Int64) (tn : Nat) : Prop := ds_St w h o t (ds_tx hex tn w 0) (ds_ty2 hex tn w 0) ∧ ds_St w h o t (ds_tx hex tn 0 h) (ds_ty2 hex tn 0 h)
theorem St_lin {w h : Nat} {o t : Int64} {a b c d : Int} (h1 : ds_St w h o t a b) (h2 : ds_St w h o t c d) (s k : Int) : ds_St w h o t (s * a + k * c) (s * b + k * d) := St_add (St_mul h1 s) (St_mul h2 k)
theorem iv_m : ∀ hex : Bool, ∀ t, t < ds_nt hex → (∃ s ∈ [(1 : Int), -1], ∃ k ∈ [(0 : Int), 1, -1], ∃ l ∈ [(0 : Int), 1, -1], ds_m hex (ds_iv hex t) 0 = s * ds_m hex t 0 + k ∧ ds_m hex (ds_iv hex t) 2 = s * ds_m hex t 2 ∧ ds_m hex (ds_iv hex t) 1 = s * ds_m hex t 1 ∧ ds_m hex (ds_iv hex t) 3 = s * ds_m hex t 3 + l) ∧ ds_iv hex (ds_iv hex t) = t ∧ ds_iv hex t < ds_nt hex := by decide +kernel
theorem Mt_iv1 {w h : Nat} {hex : Bool} {o t : Int64} {tn : Nat} (ht : tn < ds_nt hex) (q : ds_Mt w h hex o t tn) : ds_Mt w h hex o t (ds_iv hex tn) := by
  obtain ⟨⟨s, _, k, _, l, _, e0, e2, e1, e3⟩, _⟩ := iv_m hex tn ht
  unfold ds_Mt ds_tx ds_ty2 at q ⊢
  rw [e0, e1, e2, e3]
  constructor
  · have := St_lin q.1 (St_w (w := w) (h := h) (o := o) (t := t)) s k
    rw [show s * (ds_m hex tn 0 * (w : Int) + ds_m hex tn 1 * 0) + k * (w : Int) = (s * ds_m hex tn 0 + k) * w + s * ds_m hex tn 1 * 0 by grind, show s * (ds_m hex tn 2 * (w : Int) + ds_m hex tn 3 * 0) + k * 0 = s * ds_m hex tn 2 * w + (s * ds_m hex tn 3 + l) * 0 by grind] at this
    exact this
  · have := St_lin q.2 (St_h (w := w) (h := h) (o := o) (t := t)) s l
    rw [show s * (ds_m hex tn 0 * 0 + ds_m hex tn 1 * (h : Int)) + l * 0 = (s * ds_m hex tn 0 + k) * 0 + s * ds_m hex tn 1 * h by grind, show s * (ds_m hex tn 2 * 0 + ds_m hex tn 3 * (h : Int)) + l * h = s * ds_m hex tn 2 * 0 + (s * ds_m hex tn 3 + l) * h by grind] at this
    exact this
theorem Mt_iv {w h : Nat} {hex : Bool} {o t : Int64} {tn : Nat} (ht : tn < ds_nt hex) : ds_Mt w h hex o t (ds_iv hex tn) ↔ ds_Mt w h hex o t tn := by
  obtain ⟨_, a, b⟩ := iv_m hex tn ht
  constructor
  · intro q
    have := Mt_iv1 b q
    rw [a] at this; exact this
  · exact Mt_iv1 ht
theorem Mt_per {w h : Nat} {hex : Bool} {o t : Int64} {tn : Nat} (q : ds_Mt w h hex o t tn) (x y a b k m : Int) : ds_P w h o t (ds_tx hex tn (x + w * k) (y + h * m) + a) (ds_ty2 hex tn (x + w * k) (y + h * m) + b) = ds_P w h o t (ds_tx hex tn x y + a) (ds_ty2 hex tn x y + b) := by
  have := St_lin q.1 q.2 k m (ds_tx hex tn x y + a) (ds_ty2 hex tn x y + b)
  rw [← this]
  unfold ds_tx ds_ty2
  congr 1 <;> grind
theorem Mt_mod {w h : Nat} {hex : Bool} {o t : Int64} {tn : Nat} (q : ds_Mt w h hex o t tn) (x y a b : Int) : ds_P w h o t (ds_tx hex tn x y + a) (ds_ty2 hex tn x y + b) = ds_P w h o t (ds_tx hex tn (x % w) (y % h) + a) (ds_ty2 hex tn (x % w) (y % h) + b) := by
  have := Mt_per q (x % w) (y % h) a b (x / w) (y / h)
  rw [show x % w + w * (x / w) = x from Int.emod_add_mul_ediv x w, show y % h + h * (y / h) = y from Int.emod_add_mul_ediv y h] at this
  exact this
def ds_Cl (w h : Nat) (hex : Bool) (o t : Int64) (tn : Nat) (a b : Int) : Prop := ∀ x y u v : Int, ds_P w h o t x y = ds_P w h o t u v ↔ ds_P w h o t (ds_tx hex tn x y + a) (ds_ty2 hex tn x y + b) = ds_P w h o t (ds_tx hex tn u v + a) (ds_ty2 hex tn u v + b)
theorem mod_nat {w : Nat} (h : 1 ≤ w) (x : Int) : ∃ n, n < w ∧ x % w = (n : Int) := by
  have hx := Int.emod_nonneg x (show (w : Int) ≠ 0 by omega)
  have hx2 := Int.emod_lt_of_pos x (show (0 : Int) < w by omega)
  exact ⟨(x % w).toNat, by omega, by omega⟩
theorem Cl_fin {w h : Nat} (hk : ds_ok w h) {hex : Bool} {o t : Int64} {tn : Nat} (q : ds_Mt w h hex o t tn) {a b : Int} (hh : ∀ x y u v : Nat, x < w → y < h → u < w → v < h → (ds_P w h o t x y = ds_P w h o t u v ↔ ds_P w h o t (ds_tx hex tn x y + a) (ds_ty2 hex tn x y + b) = ds_P w h o t (ds_tx hex tn u v + a) (ds_ty2 hex tn u v + b))) : ds_Cl w h hex o t tn a b := by
  intro x y u v
  rw [P_mod o t x y, P_mod o t u v, Mt_mod q x y, Mt_mod q u v]
  obtain ⟨x', h1, e1⟩ := mod_nat hk.1 x
  obtain ⟨y', h2, e2⟩ := mod_nat hk.2.2.1 y
  obtain ⟨u', h3, e3⟩ := mod_nat hk.1 u
  obtain ⟨v', h4, e4⟩ := mod_nat hk.2.2.1 v
  rw [e1, e2, e3, e4]
  exact hh x' y' u' v' h1 h2 h3 h4
-- the class
def ds_oc (w h : Nat) (o t : Int64) (c : Nat) : Int64 := (fX6_ofColour (nI w) (nI h) o t (nI c)).getD 0
theorem oc_is {w h : Nat} (hk : ds_ok w h) (o t : Int64) {c : Nat} (hc : c < 4) : fX6_ofColour (nI w) (nI h) o t (nI c) = some (ds_oc w h o t c) ∧ ds_sub w h (ds_oc w h o t c) ∧ ∀ x y : Int, ds_pt w h (ds_oc w h o t c) x y = decide (ds_co o t (ds_ix w h x y) = c) := by
  obtain ⟨m, e, s, hb⟩ := p_ofColour hk o t hc
  have : ds_oc w h o t c = m := by unfold ds_oc; rw [e]; rfl
  rw [this]
  refine ⟨e, s, fun x y => ?_⟩
  unfold ds_pt
  rw [hb _ (ix_lt hk x y).2.2.1, ins_ix hk, Bool.true_and]
theorem g_oneCol {w h : Nat} (hk : ds_ok w h) (o t : Int64) {m : Int64} (hs : ds_sub w h m) : fX0_isAllOfOneColour (nI w) (nI h) o t m = some (ds_q (ds_d (∃ d, d < 4 ∧ ∀ x y : Int, ds_pt w h m x y = decide (ds_co o t (ds_ix w h x y) = d)))) := by
  unfold fX0_isAllOfOneColour fX0_isAllOfOneColour_2
  refine (ds_any (body := fun s => fX0_isAllOfOneColour_2_b (nI w) (nI h) o t m s) 4 (fun k => nI k) (fun d => ∀ x y : Int, ds_pt w h m x y = decide (ds_co o t (ds_ix w h x y) = d)) 1 0 (by omega) (fun d hd => ?_) ?_).trans rfl
  · try dsimp only
    obtain ⟨e, s, hp⟩ := oc_is hk o t hd
    unfold fX0_isAllOfOneColour_2_b
    rw [show (4 : Int32) = nI 4 from rfl, if_neg (nI_ge hd (by omega)), e, Option.bind_some, nI_1]
    by_cases c : ∀ x y : Int, ds_pt w h m x y = decide (ds_co o t (ds_ix w h x y) = d)
    · rw [d_true c, if_pos ((b_cmp _ _).mpr ((sub_at hk s hs).mpr fun x y => by rw [hp, c])), if_pos rfl]
    · rw [d_false c, if_neg (fun z => c fun x y => by rw [← hp]; exact ((sub_at hk s hs).mp ((b_cmp _ _).mp z) x y).symm), if_neg (by decide)]
  · try dsimp only
    unfold fX0_isAllOfOneColour_2_b
    rw [if_pos (by decide)]
theorem g_apart {w h : Nat} (hk : ds_ok w h) {o t o' t' : Int64} {a b : Nat} (ha : a < 8) (hb : b < 8) : fX0_keepsColoursApart (nI w) (nI h) o' t' (nI w) (nI h) o t (nI a) (nI b) = some (ds_q (ds_d (∀ x y u v : Int, ds_P w h o' t' (x - a) (y - b) = ds_P w h o' t' (u - a) (v - b) ↔ ds_P w h o t x y = ds_P w h o t u v))) := by
  unfold fX0_keepsColoursApart fX0_keepsColoursApart_2
  have fin := ds_any (body := fun s => fX0_keepsColoursApart_2_b (nI w) (nI h) o' t' (nI w) (nI h) o t (nI a) (nI b) s) 4 (fun k => nI k) (fun c => (∃ x y : Int, ds_co o' t' (ds_ix w h (x - a) (y - b)) = c) ∧ ¬ ∃ d, d < 4 ∧ ∀ x y : Int, decide (ds_co o' t' (ds_ix w h (x - a) (y - b)) = c) = decide (ds_co o t (ds_ix w h x y) = d)) 0 1 (by omega) (fun c hc => ?_) ?_
  · refine fin.trans (congrArg some ?_)
    by_cases q : ∀ x y u v : Int, ds_P w h o' t' (x - a) (y - b) = ds_P w h o' t' (u - a) (v - b) ↔ ds_P w h o t x y = ds_P w h o t u v
    · rw [d_true q, d_false]
      · rfl
      rintro ⟨c, hc, ⟨x, y, e⟩, nn⟩
      refine nn ⟨ds_co o t (ds_ix w h x y), c_lt _ _ _, fun u v => ?_⟩
      have := q u v x y
      rw [← P_co, ← P_co, e] at this
      exact decide_eq_decide.mpr this
    · rw [d_false q, d_true]
      · rfl
      apply Classical.byContradiction
      intro nn
      apply q
      intro x y u v
      have : ∃ d, d < 4 ∧ ∀ u v : Int, decide (ds_co o' t' (ds_ix w h (u - a) (v - b)) = ds_co o' t' (ds_ix w h (x - a) (y - b))) = decide (ds_co o t (ds_ix w h u v) = d) := by
        apply Classical.byContradiction
        intro z
        exact nn ⟨_, c_lt _ _ _, ⟨x, y, rfl⟩, z⟩
      obtain ⟨d, hd, f⟩ := this
      have f1 : ds_co o t (ds_ix w h x y) = d := (decide_eq_decide.mp (f x y)).mp rfl
      have f2 := decide_eq_decide.mp (f u v)
      rw [← P_co, ← P_co, f1]
      constructor
      · intro z; exact (f2.mp z.symm).symm
      · intro z; exact (f2.mpr z.symm).symm
  · try dsimp only
    obtain ⟨e, s, hp⟩ := oc_is hk o' t' hc
    obtain ⟨m, e2, s2, hp2⟩ := p_rolled hk s (a := (a : Int)) (b := (b : Int)) (by omega) (by omega) (by omega) (by omega)
    rw [← z_nI, ← z_nI] at e2
    unfold fX0_keepsColoursApart_2_b fX0_keepsColoursApart_44
    rw [show (4 : Int32) = nI 4 from rfl, if_neg (nI_ge hc (by omega)), e, Option.bind_some, e2, Option.bind_some, nI_1]
    have hm : ∀ x y : Int, ds_pt w h m x y = decide (ds_co o' t' (ds_ix w h (x - a) (y - b)) = c) := fun x y => by rw [hp2, hp]
    by_cases z0 : m = 0
    · rw [if_pos ((b_cmp _ _).mpr z0), d_false]
      · rfl
      rintro ⟨⟨x, y, e⟩, _⟩
      have := hm x y
      rw [z0, decide_eq_true e] at this
      unfold ds_pt at this
      rw [b_zero] at this; cases this
    · rw [if_neg (fun z => z0 ((b_cmp _ _).mp z)), g_oneCol hk o t s2, Option.bind_some]
      have ex : ∃ x y : Int, ds_co o' t' (ds_ix w h (x - a) (y - b)) = c := by
        apply Classical.byContradiction
        intro nn
        apply z0
        refine (sub_at hk s2 sub_0).mpr fun x y => ?_
        rw [hm, decide_eq_false (fun z => nn ⟨x, y, z⟩)]
        unfold ds_pt; rw [b_zero]
      by_cases q : ∃ d, d < 4 ∧ ∀ x y : Int, ds_pt w h m x y = decide (ds_co o t (ds_ix w h x y) = d)
      · rw [d_true q, if_neg (show ¬ ds_q true = 0 by decide), d_false]
        · rfl
        rintro ⟨_, nn⟩
        obtain ⟨d, hd, f⟩ := q
        exact nn ⟨d, hd, fun x y => by rw [← hm, f]⟩
      · rw [d_false q, if_pos (show ds_q false = 0 from rfl), d_true]
        · rfl
        refine ⟨ex, fun z => q ?_⟩
        obtain ⟨d, hd, f⟩ := z
        exact ⟨d, hd, fun x y => by rw [hm, f]⟩
  · try dsimp only
    unfold fX0_keepsColoursApart_2_b
    rw [if_pos (by decide)]
theorem Cl_class {w h : Nat} {hex : Bool} {o t o' t' : Int64} {tn : Nat} (htn : tn < ds_nt hex) (hP : ∀ x y : Int, ds_P w h o' t' x y = ds_P w h o t (ds_tx hex (ds_iv hex tn) x y) (ds_ty2 hex (ds_iv hex tn) x y)) {a b : Int} : (∀ x y u v : Int, ds_P w h o' t' (x - a) (y - b) = ds_P w h o' t' (u - a) (v - b) ↔ ds_P w h o t x y = ds_P w h o t u v) ↔ ds_Cl w h hex o t tn a b := by
  constructor
  · intro q x y u v
    have := q (ds_tx hex tn x y + a) (ds_ty2 hex tn x y + b) (ds_tx hex tn u v + a) (ds_ty2 hex tn u v + b)
    rw [hP, hP, Int.add_sub_cancel, Int.add_sub_cancel, Int.add_sub_cancel, Int.add_sub_cancel, (iv_tx htn x y).1, (iv_tx htn x y).2, (iv_tx htn u v).1, (iv_tx htn u v).2] at this
    exact this
  · intro q x y u v
    have := q (ds_tx hex (ds_iv hex tn) (x - a) (y - b)) (ds_ty2 hex (ds_iv hex tn) (x - a) (y - b)) (ds_tx hex (ds_iv hex tn) (u - a) (v - b)) (ds_ty2 hex (ds_iv hex tn) (u - a) (v - b))
    rw [(tx_iv htn (x - a) (y - b)).1, (tx_iv htn (x - a) (y - b)).2, (tx_iv htn (u - a) (v - b)).1, (tx_iv htn (u - a) (v - b)).2, Int.sub_add_cancel, Int.sub_add_cancel, Int.sub_add_cancel, Int.sub_add_cancel, ← hP, ← hP] at this
    exact this
-- the reference
def ds_CI (S : Nat → Nat → Prop) (f g : Nat → Nat → Nat) (bc cm : Nat → Int32) : Prop := (∀ c, c < 4 → (bc c = -1 ∧ ∀ x y, S x y → f x y ≠ c) ∨ ∃ x y, S x y ∧ f x y = c ∧ bc c = nI (g x y)) ∧ (∀ c, c < 4 → (cm c = -1 ∧ ∀ x y, S x y → g x y ≠ c) ∨ ∃ x y, S x y ∧ g x y = c ∧ cm c = nI (f x y)) ∧ (∀ x y u v, S x y → S u v → (f x y = f u v ↔ g x y = g u v))
theorem n4_m1 : ∀ n, n < 4 → nI n ≠ -1 := by decide
theorem CI_new {S : Nat → Nat → Prop} {f g : Nat → Nat → Nat} (hf : ∀ x y, f x y < 4) (hg : ∀ x y, g x y < 4) {bc cm : Nat → Int32} (hi : ds_CI S f g bc cm) {X Y : Nat} (c1 : bc (f X Y) = -1 ∨ bc (f X Y) = nI (g X Y)) (c2 : cm (g X Y) = -1 ∨ cm (g X Y) = nI (f X Y)) {x y : Nat} (hs : S x y) : f x y = f X Y ↔ g x y = g X Y := by
  obtain ⟨i1, i2, i3⟩ := hi
  constructor
  · intro e
    rcases i1 _ (hf X Y) with ⟨_, n⟩ | ⟨x', y', s', e', b'⟩
    · exact absurd e (n x y hs)
    · rcases c1 with z | z
      · rw [z] at b'; exact absurd b'.symm (n4_m1 _ (hg _ _))
      · rw [z] at b'
        have := (n_inj (by have := hg X Y; omega) (by have := hg x' y'; omega)).mp b'
        rw [this]
        exact (i3 _ _ _ _ hs s').mp (by rw [e, e'])
  · intro e
    rcases i2 _ (hg X Y) with ⟨_, n⟩ | ⟨x', y', s', e', b'⟩
    · exact absurd e (n x y hs)
    · rcases c2 with z | z
      · rw [z] at b'; exact absurd b'.symm (n4_m1 _ (hf _ _))
      · rw [z] at b'
        have := (n_inj (by have := hf X Y; omega) (by have := hf x' y'; omega)).mp b'
        rw [this]
        exact (i3 _ _ _ _ hs s').mpr (by rw [e, e'])
theorem CI_step {S S' : Nat → Nat → Prop} {f g : Nat → Nat → Nat} (hf : ∀ x y, f x y < 4) (hg : ∀ x y, g x y < 4) {bc cm : Nat → Int32} (hi : ds_CI S f g bc cm) {X Y : Nat} (hS : ∀ x y, S' x y ↔ S x y ∨ (x = X ∧ y = Y)) (c1 : bc (f X Y) = -1 ∨ bc (f X Y) = nI (g X Y)) (c2 : cm (g X Y) = -1 ∨ cm (g X Y) = nI (f X Y)) : ds_CI S' f g (upd bc (f X Y) (nI (g X Y))) (upd cm (g X Y) (nI (f X Y))) := by
  have nw := fun {x y : Nat} (hs : S x y) => CI_new hf hg hi c1 c2 hs
  obtain ⟨i1, i2, i3⟩ := hi
  refine ⟨fun c hc => ?_, fun c hc => ?_, ?_⟩
  · by_cases e : c = f X Y
    · right
      exact ⟨X, Y, (hS X Y).mpr (Or.inr ⟨rfl, rfl⟩), e.symm, by rw [e, upd_at]⟩
    · rw [upd_ne _ _ e]
      rcases i1 c hc with ⟨b, n⟩ | ⟨x', y', s', e', b'⟩
      · left
        refine ⟨b, fun x y s => ?_⟩
        rcases (hS x y).mp s with s | ⟨rfl, rfl⟩
        · exact n x y s
        · exact fun z => e z.symm
      · right; exact ⟨x', y', (hS _ _).mpr (Or.inl s'), e', b'⟩
  · by_cases e : c = g X Y
    · right
      exact ⟨X, Y, (hS X Y).mpr (Or.inr ⟨rfl, rfl⟩), e.symm, by rw [e, upd_at]⟩
    · rw [upd_ne _ _ e]
      rcases i2 c hc with ⟨b, n⟩ | ⟨x', y', s', e', b'⟩
      · left
        refine ⟨b, fun x y s => ?_⟩
        rcases (hS x y).mp s with s | ⟨rfl, rfl⟩
        · exact n x y s
        · exact fun z => e z.symm
      · right; exact ⟨x', y', (hS _ _).mpr (Or.inl s'), e', b'⟩
  · intro x y u v s1 s2
    rcases (hS x y).mp s1 with s1 | ⟨rfl, rfl⟩
    · rcases (hS u v).mp s2 with s2 | ⟨rfl, rfl⟩
      · exact i3 _ _ _ _ s1 s2
      · exact nw s1
    · rcases (hS u v).mp s2 with s2 | ⟨rfl, rfl⟩
      · have := nw s2
        constructor
        · intro z; exact (this.mp z.symm).symm
        · intro z; exact (this.mpr z.symm).symm
      · exact ⟨fun _ => rfl, fun _ => rfl⟩
theorem CI_bad1 {S : Nat → Nat → Prop} {f g : Nat → Nat → Nat} (hf : ∀ x y, f x y < 4) {bc cm : Nat → Int32} (hi : ds_CI S f g bc cm) {X Y : Nat} (c1 : bc (f X Y) ≠ -1) (c2 : bc (f X Y) ≠ nI (g X Y)) : ∃ x y, S x y ∧ ¬ (f x y = f X Y ↔ g x y = g X Y) := by
  rcases hi.1 _ (hf X Y) with ⟨b, _⟩ | ⟨x, y, s, e, b⟩
  · exact absurd b c1
  · exact ⟨x, y, s, fun z => c2 (by rw [b, z.mp e])⟩
theorem CI_bad2 {S : Nat → Nat → Prop} {f g : Nat → Nat → Nat} (hg : ∀ x y, g x y < 4) {bc cm : Nat → Int32} (hi : ds_CI S f g bc cm) {X Y : Nat} (c1 : cm (g X Y) ≠ -1) (c2 : cm (g X Y) ≠ nI (f X Y)) : ∃ x y, S x y ∧ ¬ (f x y = f X Y ↔ g x y = g X Y) := by
  rcases hi.2.1 _ (hg X Y) with ⟨b, _⟩ | ⟨x, y, s, e, b⟩
  · exact absurd b c1
  · exact ⟨x, y, s, fun z => c2 (by rw [b, z.mpr e])⟩

/-! the class looks at a tile: its words are the symmetries -/
def ds_GV (w h : Nat) (hex : Bool) (o t : Int64) (fd : Nat → Int64) (tn : Nat) : Prop := ds_sub w h (fd tn) ∧ (tn < ds_nt hex → ∀ x y : Nat, x < w → y < h → (ds_b (fd tn) (8 * y + x) = true ↔ ds_Sy w h hex o t tn x y)) ∧ (ds_nt hex ≤ tn → fd tn = 0)
theorem p_isT {hex : Bool} (t : Nat) (h : t < 1000) : fX1_isTurning (ds_q hex) (nI t) = some (ds_q (decide (t < ds_nt hex))) := by
  unfold fX1_isTurning
  rw [if_neg (nI_pos (by omega))]
  have e : fX1_turnings (ds_q hex) = some (nI (ds_nt hex)) := by cases hex <;> rfl
  have hn : ds_nt hex ≤ 12 := by unfold ds_nt; split <;> omega
  rw [e, Option.bind_some]
  by_cases h1 : t < ds_nt hex
  · rw [if_neg (nI_ge h1 (by omega)), decide_eq_true h1]; rfl
  · rw [if_pos (nI_le (by omega) (by omega)), decide_eq_false h1]; rfl
theorem p_same (a b c : Int32) (d e : Int64) (a' b' c' : Int32) (d' e' : Int64) : ∃ q : Bool, fX6_same a b c d e a' b' c' d' e' = some (ds_q q) ∧ (q = true ↔ a = a' ∧ b = b' ∧ c = c' ∧ d = d' ∧ e = e') := by
  unfold fX6_same fX6_sizedAs
  by_cases h1 : a = a'
  · rw [if_pos h1]
    by_cases h2 : b = b'
    · rw [if_pos h2]
      by_cases h3 : c = c'
      · rw [if_pos h3, Option.bind_some, if_neg (by decide)]
        by_cases h4 : d = d'
        · rw [if_pos ((b_cmp _ _).mpr h4)]
          by_cases h5 : e = e'
          · rw [if_pos ((b_cmp _ _).mpr h5)]
            exact ⟨true, rfl, fun _ => ⟨h1, h2, h3, h4, h5⟩, fun _ => rfl⟩
          · rw [if_neg (fun z => h5 ((b_cmp _ _).mp z))]
            exact ⟨false, rfl, (fun z => by cases z), fun z => absurd z.2.2.2.2 h5⟩
        · rw [if_neg (fun z => h4 ((b_cmp _ _).mp z))]
          exact ⟨false, rfl, (fun z => by cases z), fun z => absurd z.2.2.2.1 h4⟩
      · rw [if_neg h3]
        exact ⟨false, rfl, (fun z => by cases z), fun z => absurd z.2.2.1 h3⟩
    · rw [if_neg h2]
      exact ⟨false, rfl, (fun z => by cases z), fun z => absurd z.2.1 h2⟩
  · rw [if_neg h1]
    exact ⟨false, rfl, (fun z => by cases z), fun z => absurd z.1 h1⟩
theorem updL_at (f : Nat → Int64) (k : Nat) (v : Int64) : vp_updL f k v k = v := by unfold vp_updL; rw [if_pos rfl]
theorem updL_ne (f : Nat → Int64) {k j : Nat} (v : Int64) (h : j ≠ k) : vp_updL f k v j = f j := by unfold vp_updL; rw [if_neg h]
theorem g_new {w h : Nat} (hk : ds_ok w h) {hex : Bool} {o t : Int64} (ho : ds_sub w h o) (ht : ds_sub w h t) (fd : Nat → Int64) (tw th tx : Int32) (to tt : Int64) : ∃ r, fX0_lookAt_19 (nI w) (nI h) (ds_q hex) o t fd tw th tx to tt = some r ∧ ∃ fd' tw' th' tx' to' tt', r = (1, 0, nI w, nI h, ds_q hex, o, t, fd', tw', th', tx', to', tt') ∧ ∀ tn, tn < 12 → ds_GV w h hex o t fd' tn := by
  obtain ⟨k1, k2, k3, k4⟩ := id hk
  have hnt : ds_nt hex ≤ 12 := by unfold ds_nt; split <;> omega
  have zs : ds_sub w h 0 := fun i _ hb => by rw [b_zero] at hb; cases hb
  unfold fX0_lookAt_19
  have ec : fX6_copyFrom (nI w) (nI h) (ds_q hex) o t = some (nI w, nI h, ds_q hex, o, t) := by
    unfold fX6_copyFrom; rw [if_pos (q_01 hex)]
  rw [ec, Option.bind_some]
  dsimp only
  unfold fX0_lookAt_29
  refine ds_it_inv _ (fun k s => s.1 = nI k ∧ ∀ tn, tn < k → ds_GV w h hex o t s.2.1 tn) _ 12 1000 0 _ (Nat.zero_le _) ⟨rfl, fun tn h => absurd h (Nat.not_lt_zero tn)⟩ (by omega) ?_ ?_
  · rintro tn ⟨v2, fd1, a1, a2, a3, a4, a5⟩ htn ⟨rfl, av⟩
    left
    dsimp only at av
    have put : ∀ (c : Int64) (b1 b2 b3 : Int32) (b4 b5 : Int64), (∀ f : Nat → Int64, f tn = c → ds_GV w h hex o t f tn) → ∃ s', fX0_lookAt_104 fd1 b1 b2 b3 b4 b5 (nI tn) c (nI tn) = some (.inl s') ∧ s'.1 = nI (tn + 1) ∧ ∀ tn', tn' < tn + 1 → ds_GV w h hex o t s'.2.1 tn' := by
      intro c b1 b2 b3 b4 b5 hc
      unfold fX0_lookAt_104
      rw [if_pos (in_nI (by omega) (by omega)), nI_clamp (by omega)]
      refine ⟨_, rfl, nI_1 tn, fun tn' h' => ?_⟩
      dsimp only
      by_cases e : tn' = tn
      · subst e; exact hc _ (updL_at _ _ _)
      · have := av tn' (by omega)
        unfold ds_GV at this ⊢
        rw [updL_ne _ _ e]; exact this
    have none_ : ∀ (b1 b2 b3 : Int32) (b4 b5 : Int64), (tn < ds_nt hex → ∀ x y : Nat, x < w → y < h → ¬ ds_Sy w h hex o t tn x y) → ∃ s', fX0_lookAt_78 (nI w) (nI h) o t fd1 b1 b2 b3 b4 b5 (nI tn) = some (.inl s') ∧ s'.1 = nI (tn + 1) ∧ ∀ tn', tn' < tn + 1 → ds_GV w h hex o t s'.2.1 tn' := by
      intro b1 b2 b3 b4 b5 hn
      unfold fX0_lookAt_78 fX0_lookAt_79
      rw [if_pos (show (0 : Int32) = 0 from rfl)]
      refine put 0 b1 b2 b3 b4 b5 (fun f hf => ⟨by rw [hf]; exact zs, fun h1 x y hx hy => ?_, fun _ => hf⟩)
      rw [hf, b_zero]
      exact ⟨(fun z => by cases z), fun z => absurd z (hn h1 x y hx hy)⟩
    show ∃ s', fX0_lookAt_29_b (nI w) (nI h) (ds_q hex) o t (nI tn) fd1 a1 a2 a3 a4 a5 = some (.inl s') ∧ _
    unfold fX0_lookAt_29_b
    rw [if_neg (show ¬ (12 : Int32) ≤ nI tn from nI_ge (b := 12) htn (by omega)), p_isT tn (by omega), Option.bind_some]
    by_cases h1 : tn < ds_nt hex
    · rw [decide_eq_true h1, if_neg (by decide)]
      obtain ⟨q, o', t', e1, s1, s2, d1, d2⟩ := p_turn hk ho ht hex hex h1
      rw [e1, Option.bind_some]
      dsimp only
      cases q with
      | false =>
        rw [if_pos (show ds_q false = 0 from rfl)]
        refine none_ _ _ _ _ _ (fun _ x y _ _ hs => ?_)
        have := d1.mpr ⟨Sy_back h1 hs St_w, Sy_back h1 hs St_h⟩
        cases this
      | true =>
        rw [if_neg (by decide)]
        unfold fX0_lookAt_79
        rw [if_neg (by decide)]
        obtain ⟨c, e2, s3, d3⟩ := p_steps hk ho ht s1 s2
        rw [e2, Option.bind_some]
        refine put c _ _ _ _ _ (fun f hf => ⟨by rw [hf]; exact s3, fun _ x y hx hy => ?_, fun h2 => absurd h1 (by omega)⟩)
        rw [hf, d3 x y hx hy, Sy_class h1 (d2 rfl)]
    · rw [decide_eq_false h1, if_pos (show ds_q false = 0 from rfl)]
      exact none_ _ _ _ _ _ (fun h2 => absurd h2 h1)
  · rintro ⟨v2, fd1, a1, a2, a3, a4, a5⟩ ⟨rfl, av⟩
    dsimp only at av
    show ∃ r, fX0_lookAt_29_b (nI w) (nI h) (ds_q hex) o t (nI 12) fd1 a1 a2 a3 a4 a5 = some (.inr r) ∧ _
    unfold fX0_lookAt_29_b
    rw [if_pos (show (12 : Int32) ≤ nI 12 from nI_le (Nat.le_refl 12) (by omega))]
    unfold fX0_lookAt_111
    rw [Option.bind_some]
    exact ⟨_, rfl, fd1, a1, a2, a3, a4, a5, rfl, av⟩
theorem g_look {w h : Nat} (hk : ds_ok w h) {hex : Bool} {o t : Int64} (ho : ds_sub w h o) (ht : ds_sub w h t) (lk : Bool) (sf sw sh sx : Int32) (so st : Int64) (fd : Nat → Int64) (tw th tx : Int32) (to tt : Int64) (hpre : lk = true → sw = nI w ∧ sh = nI h ∧ sx = ds_q hex ∧ so = o ∧ st = t → ∀ tn, tn < 12 → ds_GV w h hex o t fd tn) :
    ∃ sf' fd' tw' th' tx' to' tt', fX0_lookAt (ds_q lk) sf sw sh sx so st (nI w) (nI h) (ds_q hex) o t fd tw th tx to tt = some (1, sf', nI w, nI h, ds_q hex, o, t, fd', tw', th', tx', to', tt') ∧ (∀ tn, tn < 12 → ds_GV w h hex o t fd' tn) ∧ (sf' = 0 ∨ (sf' = sf ∧ lk = true ∧ sw = nI w ∧ sh = nI h ∧ sx = ds_q hex ∧ so = o ∧ st = t)) := by
  unfold fX0_lookAt
  obtain ⟨r, e, fd', tw', th', tx', to', tt', rfl, hv⟩ := g_new hk (hex := hex) ho ht fd tw th tx to tt
  cases lk with
  | false =>
    rw [if_pos (show ds_q false = 0 from rfl), e]
    exact ⟨0, fd', tw', th', tx', to', tt', rfl, hv, Or.inl rfl⟩
  | true =>
    rw [if_neg (by decide)]
    obtain ⟨q, eq, dq⟩ := p_same sw sh sx so st (nI w) (nI h) (ds_q hex) o t
    rw [eq, Option.bind_some]
    cases q with
    | false =>
      rw [if_pos (show ds_q false = 0 from rfl), e]
      exact ⟨0, fd', tw', th', tx', to', tt', rfl, hv, Or.inl rfl⟩
    | true =>
      rw [if_neg (by decide)]
      have hs := dq.mp rfl
      have hv2 := hpre rfl hs
      obtain ⟨rfl, rfl, rfl, rfl, rfl⟩ := hs
      exact ⟨sf, fd, tw, th, tx, to, tt, rfl, hv2, Or.inr ⟨rfl, rfl, rfl, rfl, rfl, rfl, rfl⟩⟩

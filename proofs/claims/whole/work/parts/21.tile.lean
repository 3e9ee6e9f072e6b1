theorem dX6_sizedAs_0 : decode cX6_sizedAs 0 = .ok (.aload_n 0, 1) := by decide +kernel
theorem dX6_sizedAs_1 : decode cX6_sizedAs 1 = .ok (.getfield 9, 3) := by decide +kernel
theorem dX6_sizedAs_4 : decode cX6_sizedAs 4 = .ok (.aload_n 1, 1) := by decide +kernel
theorem dX6_sizedAs_5 : decode cX6_sizedAs 5 = .ok (.getfield 9, 3) := by decide +kernel
theorem dX6_sizedAs_8 : decode cX6_sizedAs 8 = .ok (.if_icmp .ne 29, 3) := by decide +kernel
theorem dX6_sizedAs_11 : decode cX6_sizedAs 11 = .ok (.aload_n 0, 1) := by decide +kernel
theorem dX6_sizedAs_12 : decode cX6_sizedAs 12 = .ok (.getfield 15, 3) := by decide +kernel
theorem dX6_sizedAs_15 : decode cX6_sizedAs 15 = .ok (.aload_n 1, 1) := by decide +kernel
theorem dX6_sizedAs_16 : decode cX6_sizedAs 16 = .ok (.getfield 15, 3) := by decide +kernel
theorem dX6_sizedAs_19 : decode cX6_sizedAs 19 = .ok (.if_icmp .ne 18, 3) := by decide +kernel
theorem dX6_sizedAs_22 : decode cX6_sizedAs 22 = .ok (.aload_n 0, 1) := by decide +kernel
theorem dX6_sizedAs_23 : decode cX6_sizedAs 23 = .ok (.getfield 18, 3) := by decide +kernel
theorem dX6_sizedAs_26 : decode cX6_sizedAs 26 = .ok (.aload_n 1, 1) := by decide +kernel
theorem dX6_sizedAs_27 : decode cX6_sizedAs 27 = .ok (.getfield 18, 3) := by decide +kernel
theorem dX6_sizedAs_30 : decode cX6_sizedAs 30 = .ok (.if_icmp .ne 7, 3) := by decide +kernel
theorem dX6_sizedAs_33 : decode cX6_sizedAs 33 = .ok (.iconst 1, 1) := by decide +kernel
theorem dX6_sizedAs_34 : decode cX6_sizedAs 34 = .ok (.goto 4, 3) := by decide +kernel
theorem dX6_sizedAs_37 : decode cX6_sizedAs 37 = .ok (.iconst 0, 1) := by decide +kernel
theorem dX6_sizedAs_38 : decode cX6_sizedAs 38 = .ok (.ireturn, 1) := by decide +kernel
def fX6_sizedAs (o_wide : Int32) (o_high : Int32) (o_hex : Int32) (p1_wide : Int32) (p1_high : Int32) (p1_hex : Int32) : Option (Int32) :=
  if o_wide = p1_wide then if o_high = p1_high then if o_hex = p1_hex then some (1 : Int32) else some (0 : Int32) else some (0 : Int32) else some (0 : Int32)
set_option maxHeartbeats 4000000 in
set_option maxRecDepth 100000 in
theorem c_X6_sizedAs (l : Launch) (dC : Nat → ClassId) (dI : Nat → Nat → Nat) (ca : Nat → ClassId) (sa : Nat → Nat) (h_o : Nat) (h_p1 : Nat) (sz : Nat) (o_wide : Int32) (o_high : Int32) (o_hex : Int32) (o_ones : Int64) (o_twos : Int64) (p1_wide : Int32) (p1_high : Int32) (p1_hex : Int32) (p1_ones : Int64) (p1_twos : Int64) (res : Int32) (hf : fX6_sizedAs o_wide o_high o_hex p1_wide p1_high p1_hex = some res) : Met l yX6_sizedAs (Cond.code yX6_sizedAs cX6_sizedAs 2 (some .boolean) :: ds_gw) { frames := 0, cells := 0, slots := 0, locals := 0 } (va_Pc [.ref h_o, .ref h_p1] (ds_Pre dC dI ca sa [(h_o, .inr (5, [.int o_wide, .int o_high, .int o_hex, .long o_ones, .long o_twos])), (h_p1, .inr (5, [.int p1_wide, .int p1_high, .int p1_hex, .long p1_ones, .long p1_twos]))] sz)) (va_Qi (fun r (_ : Unit) => r = res) (ds_B dC dI (va_A [(h_o, .inr (5, [.int o_wide, .int o_high, .int o_hex, .long o_ones, .long o_twos])), (h_p1, .inr (5, [.int p1_wide, .int p1_high, .int p1_hex, .long p1_ones, .long p1_twos]))] sz) [(h_o, .inr (5, [.int o_wide, .int o_high, .int o_hex, .long o_ones, .long o_twos])), (h_p1, .inr (5, [.int p1_wide, .int p1_high, .int p1_hex, .long p1_ones, .long p1_twos]))]) (va_A [(h_o, .inr (5, [.int o_wide, .int o_high, .int o_hex, .long o_ones, .long o_twos])), (h_p1, .inr (5, [.int p1_wide, .int p1_high, .int p1_hex, .long p1_ones, .long p1_twos]))] sz)) 0 0 (va_A [(h_o, .inr (5, [.int o_wide, .int o_high, .int o_hex, .long o_ones, .long o_twos])), (h_p1, .inr (5, [.int p1_wide, .int p1_high, .int p1_hex, .long p1_ones, .long p1_twos]))] sz) := by
  refine Met.ofW (cc := cX6_sizedAs) (maxL := 2) (ret := (some .boolean)) (by decide) rfl ?_
  intro p e s m args below meth c s₁ B hml hv
  obtain ⟨rfl, hsz, hP, hK, hD0, hE⟩ := hv
  have hx := B.exec
  have hb := B.bytes
  have hr := B.returns
  have hts := atoms_spec (ws := Cond.code yX6_sizedAs cX6_sizedAs 2 (some .boolean) :: ds_gw) B.pre
  have hg : ∀ {w : Cond}, w ∈ ds_gw → w.before _ s = true := fun h => hts _ (List.mem_cons_of_mem _ h)
  have hown : s.vm.findClass RX6 = some m.cls := findClass_of_methodNamed B.named
  have hlocks := B.notSynchronized
  subst hsz
  have hD := hD0.self (sz := s.heap.size)
  generalize hAe : va_A [(h_o, .inr (5, [.int o_wide, .int o_high, .int o_hex, .long o_ones, .long o_twos])), (h_p1, .inr (5, [.int p1_wide, .int p1_high, .int p1_hex, .long p1_ones, .long p1_twos]))] s.heap.size = A at hD hE ⊢
  have hA : ∀ q : Nat, s.heap.size ≤ q → A q := fun q h => by rw [← hAe]; exact Or.inr h
  have hS : va_S A s.heap s.heap [] := va_S.rf
  have hl := lv_entry ([.ref h_o, .ref h_p1]) (n := 2) (Nat.le_of_ble_eq_true rfl)
  rw [lg_entry_eq]
  generalize (lg_sl ([.ref h_o, .ref h_p1]) ++ List.replicate (2 - (lg_sl ([.ref h_o, .ref h_p1])).length) Slot.unset).toArray = ls at hl ⊢
  have hl : lv_has ls 2 [(0, .ref h_o), (1, .ref h_p1)] := hl
  obtain ⟨G0, eG0⟩ : ∃ G : Int32 → Prop, G = (fun r => r = res) := ⟨_, rfl⟩
  obtain ⟨rr, hrr⟩ : ∃ z, z = res := ⟨_, rfl⟩
  rw [← hrr] at hf
  have hG : G0 rr := by subst eG0; exact hrr
  unfold fX6_sizedAs at hf
  refine lv_aload_n hx hb dX6_sizedAs_0 rfl (lv_at hl 0 rfl) ?_
  refine va_get (D := (dC, dI)) (ci := 5) (v := .int o_wide) (C := RX6) (T := TX6) (N := 5) hx hb hts (fun w h => List.mem_cons_of_mem _ (kc_X6 w h)) hown hK hP 0 rfl rfl 0 (by decide) (hg kw_48) (fun _ h9 => h9) rfl dX6_sizedAs_1 ?_
  refine lv_aload_n hx hb dX6_sizedAs_4 rfl (lv_at hl 1 rfl) ?_
  refine va_get (D := (dC, dI)) (ci := 5) (v := .int p1_wide) (C := RX6) (T := TX6) (N := 5) hx hb hts (fun w h => List.mem_cons_of_mem _ (kc_X6 w h)) hown hK hP 1 rfl rfl 0 (by decide) (hg kw_48) (fun _ h9 => h9) rfl dX6_sizedAs_5 ?_
  refine lv_icmp_ne (tgt := 37) hx hb dX6_sizedAs_8 (by decide) (fun c_8 => ?_) (fun c_8 => ?_)
  · replace hf := ds_f c_8 hf
    refine lv_iconst (v := 0) hx hb dX6_sizedAs_37 (by decide) ?_
    have hf := Option.some.inj hf
    subst hf
    rw [eG0] at hG
    have hG : _ = res := hG
    subst hG
    exact W.zret (v := (0 : Int32)) (ty := .boolean) hx hb hr rfl (fun t ht hW => ⟨⟨(0 : Int32), (), rfl, rfl, by rw [ht]; exact hP, hD⟩, hS.F ht⟩) hS.2.2 dX6_sizedAs_38
  · replace hf := ds_t c_8 hf
    refine lv_aload_n hx hb dX6_sizedAs_11 rfl (lv_at hl 0 rfl) ?_
    refine va_get (D := (dC, dI)) (ci := 5) (v := .int o_high) (C := RX6) (T := TX6) (N := 5) hx hb hts (fun w h => List.mem_cons_of_mem _ (kc_X6 w h)) hown hK hP 0 rfl rfl 1 (by decide) (hg kw_54) (fun _ h9 => h9) rfl dX6_sizedAs_12 ?_
    refine lv_aload_n hx hb dX6_sizedAs_15 rfl (lv_at hl 1 rfl) ?_
    refine va_get (D := (dC, dI)) (ci := 5) (v := .int p1_high) (C := RX6) (T := TX6) (N := 5) hx hb hts (fun w h => List.mem_cons_of_mem _ (kc_X6 w h)) hown hK hP 1 rfl rfl 1 (by decide) (hg kw_54) (fun _ h9 => h9) rfl dX6_sizedAs_16 ?_
    refine lv_icmp_ne (tgt := 37) hx hb dX6_sizedAs_19 (by decide) (fun c_19 => ?_) (fun c_19 => ?_)
    · replace hf := ds_f c_19 hf
      refine lv_iconst (v := 0) hx hb dX6_sizedAs_37 (by decide) ?_
      have hf := Option.some.inj hf
      subst hf
      rw [eG0] at hG
      have hG : _ = res := hG
      subst hG
      exact W.zret (v := (0 : Int32)) (ty := .boolean) hx hb hr rfl (fun t ht hW => ⟨⟨(0 : Int32), (), rfl, rfl, by rw [ht]; exact hP, hD⟩, hS.F ht⟩) hS.2.2 dX6_sizedAs_38
    · replace hf := ds_t c_19 hf
      refine lv_aload_n hx hb dX6_sizedAs_22 rfl (lv_at hl 0 rfl) ?_
      refine va_get (D := (dC, dI)) (ci := 5) (v := .int o_hex) (C := RX6) (T := TX6) (N := 5) hx hb hts (fun w h => List.mem_cons_of_mem _ (kc_X6 w h)) hown hK hP 0 rfl rfl 2 (by decide) (hg kw_55) (fun _ h9 => h9) rfl dX6_sizedAs_23 ?_
      refine lv_aload_n hx hb dX6_sizedAs_26 rfl (lv_at hl 1 rfl) ?_
      refine va_get (D := (dC, dI)) (ci := 5) (v := .int p1_hex) (C := RX6) (T := TX6) (N := 5) hx hb hts (fun w h => List.mem_cons_of_mem _ (kc_X6 w h)) hown hK hP 1 rfl rfl 2 (by decide) (hg kw_55) (fun _ h9 => h9) rfl dX6_sizedAs_27 ?_
      refine lv_icmp_ne (tgt := 37) hx hb dX6_sizedAs_30 (by decide) (fun c_30 => ?_) (fun c_30 => ?_)
      · replace hf := ds_f c_30 hf
        refine lv_iconst (v := 0) hx hb dX6_sizedAs_37 (by decide) ?_
        have hf := Option.some.inj hf
        subst hf
        rw [eG0] at hG
        have hG : _ = res := hG
        subst hG
        exact W.zret (v := (0 : Int32)) (ty := .boolean) hx hb hr rfl (fun t ht hW => ⟨⟨(0 : Int32), (), rfl, rfl, by rw [ht]; exact hP, hD⟩, hS.F ht⟩) hS.2.2 dX6_sizedAs_38
      · replace hf := ds_t c_30 hf
        refine lv_iconst (v := 1) hx hb dX6_sizedAs_33 (by decide) ?_
        refine lv_goto (tgt := 38) hx hb dX6_sizedAs_34 (by decide) ?_
        have hf := Option.some.inj hf
        subst hf
        rw [eG0] at hG
        have hG : _ = res := hG
        subst hG
        exact W.zret (v := (1 : Int32)) (ty := .boolean) hx hb hr rfl (fun t ht hW => ⟨⟨(1 : Int32), (), rfl, rfl, by rw [ht]; exact hP, hD⟩, hS.F ht⟩) hS.2.2 dX6_sizedAs_38
theorem dX6_same_0 : decode cX6_same 0 = .ok (.aload_n 0, 1) := by decide +kernel
theorem dX6_same_1 : decode cX6_same 1 = .ok (.aload_n 1, 1) := by decide +kernel
theorem dX6_same_2 : decode cX6_same 2 = .ok (.invokevirtual 29, 3) := by decide +kernel
theorem dX6_same_5 : decode cX6_same 5 = .ok (.ifCond .eq 31, 3) := by decide +kernel
theorem dX6_same_8 : decode cX6_same 8 = .ok (.aload_n 0, 1) := by decide +kernel
theorem dX6_same_9 : decode cX6_same 9 = .ok (.getfield 22, 3) := by decide +kernel
theorem dX6_same_12 : decode cX6_same 12 = .ok (.aload_n 1, 1) := by decide +kernel
theorem dX6_same_13 : decode cX6_same 13 = .ok (.getfield 22, 3) := by decide +kernel
theorem dX6_same_16 : decode cX6_same 16 = .ok (.lcmp, 1) := by decide +kernel
theorem dX6_same_17 : decode cX6_same 17 = .ok (.ifCond .ne 19, 3) := by decide +kernel
theorem dX6_same_20 : decode cX6_same 20 = .ok (.aload_n 0, 1) := by decide +kernel
theorem dX6_same_21 : decode cX6_same 21 = .ok (.getfield 26, 3) := by decide +kernel
theorem dX6_same_24 : decode cX6_same 24 = .ok (.aload_n 1, 1) := by decide +kernel
theorem dX6_same_25 : decode cX6_same 25 = .ok (.getfield 26, 3) := by decide +kernel
theorem dX6_same_28 : decode cX6_same 28 = .ok (.lcmp, 1) := by decide +kernel
theorem dX6_same_29 : decode cX6_same 29 = .ok (.ifCond .ne 7, 3) := by decide +kernel
theorem dX6_same_32 : decode cX6_same 32 = .ok (.iconst 1, 1) := by decide +kernel
theorem dX6_same_33 : decode cX6_same 33 = .ok (.goto 4, 3) := by decide +kernel
theorem dX6_same_36 : decode cX6_same 36 = .ok (.iconst 0, 1) := by decide +kernel
theorem dX6_same_37 : decode cX6_same 37 = .ok (.ireturn, 1) := by decide +kernel
def fX6_same (o_wide : Int32) (o_high : Int32) (o_hex : Int32) (o_ones : Int64) (o_twos : Int64) (p1_wide : Int32) (p1_high : Int32) (p1_hex : Int32) (p1_ones : Int64) (p1_twos : Int64) : Option (Int32) :=
  Option.bind (fX6_sizedAs o_wide o_high o_hex p1_wide p1_high p1_hex) fun q2 => if q2 = 0 then some (0 : Int32) else if (lg_cmp o_ones p1_ones) = 0 then if (lg_cmp o_twos p1_twos) = 0 then some (1 : Int32) else some (0 : Int32) else some (0 : Int32)
set_option maxHeartbeats 4000000 in
set_option maxRecDepth 100000 in
theorem c_X6_same (l : Launch) (dC : Nat → ClassId) (dI : Nat → Nat → Nat) (ca : Nat → ClassId) (sa : Nat → Nat) (h_o : Nat) (h_p1 : Nat) (sz : Nat) (o_wide : Int32) (o_high : Int32) (o_hex : Int32) (o_ones : Int64) (o_twos : Int64) (p1_wide : Int32) (p1_high : Int32) (p1_hex : Int32) (p1_ones : Int64) (p1_twos : Int64) (res : Int32) (hf : fX6_same o_wide o_high o_hex o_ones o_twos p1_wide p1_high p1_hex p1_ones p1_twos = some res) : Met l yX6_same (Cond.code yX6_same cX6_same 2 (some .boolean) :: ds_gw) { frames := 1, cells := 0, slots := 0, locals := 21 } (va_Pc [.ref h_o, .ref h_p1] (ds_Pre dC dI ca sa [(h_o, .inr (5, [.int o_wide, .int o_high, .int o_hex, .long o_ones, .long o_twos])), (h_p1, .inr (5, [.int p1_wide, .int p1_high, .int p1_hex, .long p1_ones, .long p1_twos]))] sz)) (va_Qi (fun r (_ : Unit) => r = res) (ds_B dC dI (va_A [(h_o, .inr (5, [.int o_wide, .int o_high, .int o_hex, .long o_ones, .long o_twos])), (h_p1, .inr (5, [.int p1_wide, .int p1_high, .int p1_hex, .long p1_ones, .long p1_twos]))] sz) [(h_o, .inr (5, [.int o_wide, .int o_high, .int o_hex, .long o_ones, .long o_twos])), (h_p1, .inr (5, [.int p1_wide, .int p1_high, .int p1_hex, .long p1_ones, .long p1_twos]))]) (va_A [(h_o, .inr (5, [.int o_wide, .int o_high, .int o_hex, .long o_ones, .long o_twos])), (h_p1, .inr (5, [.int p1_wide, .int p1_high, .int p1_hex, .long p1_ones, .long p1_twos]))] sz)) 0 0 (va_A [(h_o, .inr (5, [.int o_wide, .int o_high, .int o_hex, .long o_ones, .long o_twos])), (h_p1, .inr (5, [.int p1_wide, .int p1_high, .int p1_hex, .long p1_ones, .long p1_twos]))] sz) := by
  refine Met.ofW (cc := cX6_same) (maxL := 2) (ret := (some .boolean)) (by decide) rfl ?_
  intro p e s m args below meth c s₁ B hml hv
  obtain ⟨rfl, hsz, hP, hK, hD0, hE⟩ := hv
  have hx := B.exec
  have hb := B.bytes
  have hr := B.returns
  have hts := atoms_spec (ws := Cond.code yX6_same cX6_same 2 (some .boolean) :: ds_gw) B.pre
  have hg : ∀ {w : Cond}, w ∈ ds_gw → w.before _ s = true := fun h => hts _ (List.mem_cons_of_mem _ h)
  have hown : s.vm.findClass RX6 = some m.cls := findClass_of_methodNamed B.named
  have hlocks := B.notSynchronized
  subst hsz
  have hD := hD0.self (sz := s.heap.size)
  generalize hAe : va_A [(h_o, .inr (5, [.int o_wide, .int o_high, .int o_hex, .long o_ones, .long o_twos])), (h_p1, .inr (5, [.int p1_wide, .int p1_high, .int p1_hex, .long p1_ones, .long p1_twos]))] s.heap.size = A at hD hE ⊢
  have hA : ∀ q : Nat, s.heap.size ≤ q → A q := fun q h => by rw [← hAe]; exact Or.inr h
  have hS : va_S A s.heap s.heap [] := va_S.rf
  have hl := lv_entry ([.ref h_o, .ref h_p1]) (n := 2) (Nat.le_of_ble_eq_true rfl)
  rw [lg_entry_eq]
  generalize (lg_sl ([.ref h_o, .ref h_p1]) ++ List.replicate (2 - (lg_sl ([.ref h_o, .ref h_p1])).length) Slot.unset).toArray = ls at hl ⊢
  have hl : lv_has ls 2 [(0, .ref h_o), (1, .ref h_p1)] := hl
  obtain ⟨G0, eG0⟩ : ∃ G : Int32 → Prop, G = (fun r => r = res) := ⟨_, rfl⟩
  obtain ⟨rr, hrr⟩ : ∃ z, z = res := ⟨_, rfl⟩
  rw [← hrr] at hf
  have hG : G0 rr := by subst eG0; exact hrr
  unfold fX6_same at hf
  refine lv_aload_n hx hb dX6_same_0 rfl (lv_at hl 0 rfl) ?_
  refine lv_aload_n hx hb dX6_same_1 rfl (lv_at hl 1 rfl) ?_
  obtain ⟨q2, hq2, hf⟩ := ds_ob hf
  refine ds_calli (wr := []) (va_runV (As := [.ref h_p1]) (rest := []) ⟨hx, hb, hml, hown, hts⟩ (c_X6_sizedAs l dC dI ca sa h_o h_p1 s.heap.size o_wide o_high o_hex o_ones o_twos p1_wide p1_high p1_hex p1_ones p1_twos  q2 hq2) (cwV 1 hts (ds_gV kw_56 kw_57 kw_58 kw_59 kw_60) rfl rfl rfl (by decide +kernel) ⟨Nat.le_of_ble_eq_true rfl, Nat.le_of_ble_eq_true rfl⟩) ⟨ds_blind, va_recv hK hP (ci := 5) (q0 := 0) rfl rfl, ds_at hP hD hK hE hS hA [0, 1] rfl rfl _⟩ rfl rfl hl.1 rfl (lv_room (Nat.le_of_ble_eq_true rfl)) dX6_same_2 ⟨Nat.zero_le _, Nat.zero_le _⟩) hP hD hS hA [0, 1] [] rfl rfl rfl (by decide) (fun H locs hP hD hS => ?_)
  have hP : va_P (dC, dI) vwCl [(h_o, .inr (5, [.int o_wide, .int o_high, .int o_hex, .long o_ones, .long o_twos])), (h_p1, .inr (5, [.int p1_wide, .int p1_high, .int p1_hex, .long p1_ones, .long p1_twos]))] H := hP
  have hD : va_D A [(h_o, .inr (5, [.int o_wide, .int o_high, .int o_hex, .long o_ones, .long o_twos])), (h_p1, .inr (5, [.int p1_wide, .int p1_high, .int p1_hex, .long p1_ones, .long p1_twos]))] := hD
  refine lv_if_eq (tgt := 36) hx hb dX6_same_5 (by decide) (fun c_5 => ?_) (fun c_5 => ?_)
  · replace hf := ds_t c_5 hf
    refine lv_iconst (v := 0) hx hb dX6_same_36 (by decide) ?_
    have hf := Option.some.inj hf
    subst hf
    rw [eG0] at hG
    have hG : _ = res := hG
    subst hG
    exact W.zret (v := (0 : Int32)) (ty := .boolean) hx hb hr rfl (fun t ht hW => ⟨⟨(0 : Int32), (), rfl, rfl, by rw [ht]; exact hP, hD⟩, hS.F ht⟩) hS.2.2 dX6_same_37
  · replace hf := ds_f c_5 hf
    refine lv_aload_n hx hb dX6_same_8 rfl (lv_at hl 0 rfl) ?_
    refine va_get (D := (dC, dI)) (ci := 5) (v := .long o_ones) (C := RX6) (T := TX6) (N := 5) hx hb hts (fun w h => List.mem_cons_of_mem _ (kc_X6 w h)) hown hK hP 0 rfl rfl 3 (by decide) (hg kw_61) (fun _ h9 => h9) rfl dX6_same_9 ?_
    refine lv_aload_n hx hb dX6_same_12 rfl (lv_at hl 1 rfl) ?_
    refine va_get (D := (dC, dI)) (ci := 5) (v := .long p1_ones) (C := RX6) (T := TX6) (N := 5) hx hb hts (fun w h => List.mem_cons_of_mem _ (kc_X6 w h)) hown hK hP 1 rfl rfl 3 (by decide) (hg kw_61) (fun _ h9 => h9) rfl dX6_same_13 ?_
    refine W.lcmp hx hb dX6_same_16 ?_
    refine lv_if_ne (tgt := 36) hx hb dX6_same_17 (by decide) (fun c_17 => ?_) (fun c_17 => ?_)
    · replace hf := ds_f c_17 hf
      refine lv_iconst (v := 0) hx hb dX6_same_36 (by decide) ?_
      have hf := Option.some.inj hf
      subst hf
      rw [eG0] at hG
      have hG : _ = res := hG
      subst hG
      exact W.zret (v := (0 : Int32)) (ty := .boolean) hx hb hr rfl (fun t ht hW => ⟨⟨(0 : Int32), (), rfl, rfl, by rw [ht]; exact hP, hD⟩, hS.F ht⟩) hS.2.2 dX6_same_37
    · replace hf := ds_t c_17 hf
      refine lv_aload_n hx hb dX6_same_20 rfl (lv_at hl 0 rfl) ?_
      refine va_get (D := (dC, dI)) (ci := 5) (v := .long o_twos) (C := RX6) (T := TX6) (N := 5) hx hb hts (fun w h => List.mem_cons_of_mem _ (kc_X6 w h)) hown hK hP 0 rfl rfl 4 (by decide) (hg kw_62) (fun _ h9 => h9) rfl dX6_same_21 ?_
      refine lv_aload_n hx hb dX6_same_24 rfl (lv_at hl 1 rfl) ?_
      refine va_get (D := (dC, dI)) (ci := 5) (v := .long p1_twos) (C := RX6) (T := TX6) (N := 5) hx hb hts (fun w h => List.mem_cons_of_mem _ (kc_X6 w h)) hown hK hP 1 rfl rfl 4 (by decide) (hg kw_62) (fun _ h9 => h9) rfl dX6_same_25 ?_
      refine W.lcmp hx hb dX6_same_28 ?_
      refine lv_if_ne (tgt := 36) hx hb dX6_same_29 (by decide) (fun c_29 => ?_) (fun c_29 => ?_)
      · replace hf := ds_f c_29 hf
        refine lv_iconst (v := 0) hx hb dX6_same_36 (by decide) ?_
        have hf := Option.some.inj hf
        subst hf
        rw [eG0] at hG
        have hG : _ = res := hG
        subst hG
        exact W.zret (v := (0 : Int32)) (ty := .boolean) hx hb hr rfl (fun t ht hW => ⟨⟨(0 : Int32), (), rfl, rfl, by rw [ht]; exact hP, hD⟩, hS.F ht⟩) hS.2.2 dX6_same_37
      · replace hf := ds_t c_29 hf
        refine lv_iconst (v := 1) hx hb dX6_same_32 (by decide) ?_
        refine lv_goto (tgt := 37) hx hb dX6_same_33 (by decide) ?_
        have hf := Option.some.inj hf
        subst hf
        rw [eG0] at hG
        have hG : _ = res := hG
        subst hG
        exact W.zret (v := (1 : Int32)) (ty := .boolean) hx hb hr rfl (fun t ht hW => ⟨⟨(1 : Int32), (), rfl, rfl, by rw [ht]; exact hP, hD⟩, hS.F ht⟩) hS.2.2 dX6_same_37
theorem dX6_copyFrom_0 : decode cX6_copyFrom 0 = .ok (.aload_n 0, 1) := by decide +kernel
theorem dX6_copyFrom_1 : decode cX6_copyFrom 1 = .ok (.aload_n 1, 1) := by decide +kernel
theorem dX6_copyFrom_2 : decode cX6_copyFrom 2 = .ok (.getfield 9, 3) := by decide +kernel
theorem dX6_copyFrom_5 : decode cX6_copyFrom 5 = .ok (.putfield 9, 3) := by decide +kernel
theorem dX6_copyFrom_8 : decode cX6_copyFrom 8 = .ok (.aload_n 0, 1) := by decide +kernel
theorem dX6_copyFrom_9 : decode cX6_copyFrom 9 = .ok (.aload_n 1, 1) := by decide +kernel
theorem dX6_copyFrom_10 : decode cX6_copyFrom 10 = .ok (.getfield 15, 3) := by decide +kernel
theorem dX6_copyFrom_13 : decode cX6_copyFrom 13 = .ok (.putfield 15, 3) := by decide +kernel
theorem dX6_copyFrom_16 : decode cX6_copyFrom 16 = .ok (.aload_n 0, 1) := by decide +kernel
theorem dX6_copyFrom_17 : decode cX6_copyFrom 17 = .ok (.aload_n 1, 1) := by decide +kernel
theorem dX6_copyFrom_18 : decode cX6_copyFrom 18 = .ok (.getfield 18, 3) := by decide +kernel
theorem dX6_copyFrom_21 : decode cX6_copyFrom 21 = .ok (.putfield 18, 3) := by decide +kernel
theorem dX6_copyFrom_24 : decode cX6_copyFrom 24 = .ok (.aload_n 0, 1) := by decide +kernel
theorem dX6_copyFrom_25 : decode cX6_copyFrom 25 = .ok (.aload_n 1, 1) := by decide +kernel
theorem dX6_copyFrom_26 : decode cX6_copyFrom 26 = .ok (.getfield 22, 3) := by decide +kernel
theorem dX6_copyFrom_29 : decode cX6_copyFrom 29 = .ok (.putfield 22, 3) := by decide +kernel
theorem dX6_copyFrom_32 : decode cX6_copyFrom 32 = .ok (.aload_n 0, 1) := by decide +kernel
theorem dX6_copyFrom_33 : decode cX6_copyFrom 33 = .ok (.aload_n 1, 1) := by decide +kernel
theorem dX6_copyFrom_34 : decode cX6_copyFrom 34 = .ok (.getfield 26, 3) := by decide +kernel
theorem dX6_copyFrom_37 : decode cX6_copyFrom 37 = .ok (.putfield 26, 3) := by decide +kernel
theorem dX6_copyFrom_40 : decode cX6_copyFrom 40 = .ok (.return_, 1) := by decide +kernel
def fX6_copyFrom (p1_wide : Int32) (p1_high : Int32) (p1_hex : Int32) (p1_ones : Int64) (p1_twos : Int64) : Option (Int32 × Int32 × Int32 × Int64 × Int64) :=
  if p1_hex = 0 ∨ p1_hex = 1 then some (p1_wide, p1_high, p1_hex, p1_ones, p1_twos) else none
set_option maxHeartbeats 4000000 in
set_option maxRecDepth 100000 in
theorem c_X6_copyFrom (l : Launch) (dC : Nat → ClassId) (dI : Nat → Nat → Nat) (ca : Nat → ClassId) (sa : Nat → Nat) (h_p1 : Nat) (h_o : Nat) (sz : Nat) (p1_wide : Int32) (p1_high : Int32) (p1_hex : Int32) (p1_ones : Int64) (p1_twos : Int64) (o_wide : Int32) (o_high : Int32) (o_hex : Int32) (o_ones : Int64) (o_twos : Int64) (res : Int32 × Int32 × Int32 × Int64 × Int64) (hf : fX6_copyFrom p1_wide p1_high p1_hex p1_ones p1_twos = some res) : Met l yX6_copyFrom (Cond.code yX6_copyFrom cX6_copyFrom 2 none :: ds_gw) { frames := 0, cells := 0, slots := 0, locals := 0 } (va_Pc [.ref h_o, .ref h_p1] (ds_Pre dC dI ca sa [(h_p1, .inr (5, [.int p1_wide, .int p1_high, .int p1_hex, .long p1_ones, .long p1_twos])), (h_o, .inr (5, [.int o_wide, .int o_high, .int o_hex, .long o_ones, .long o_twos]))] sz)) (va_Qv (fun (_ : Unit) => True) (ds_B dC dI (va_A [(h_p1, .inr (5, [.int p1_wide, .int p1_high, .int p1_hex, .long p1_ones, .long p1_twos])), (h_o, .inr (5, [.int o_wide, .int o_high, .int o_hex, .long o_ones, .long o_twos]))] sz) [(h_p1, .inr (5, [.int p1_wide, .int p1_high, .int p1_hex, .long p1_ones, .long p1_twos])), (h_o, .inr (5, [.int res.1, .int res.2.1, .int res.2.2.1, .long res.2.2.2.1, .long res.2.2.2.2]))]) (va_A [(h_p1, .inr (5, [.int p1_wide, .int p1_high, .int p1_hex, .long p1_ones, .long p1_twos])), (h_o, .inr (5, [.int o_wide, .int o_high, .int o_hex, .long o_ones, .long o_twos]))] sz)) 0 0 (va_A [(h_p1, .inr (5, [.int p1_wide, .int p1_high, .int p1_hex, .long p1_ones, .long p1_twos])), (h_o, .inr (5, [.int o_wide, .int o_high, .int o_hex, .long o_ones, .long o_twos]))] sz) := by
  refine Met.ofW (cc := cX6_copyFrom) (maxL := 2) (ret := none) (by decide) rfl ?_
  intro p e s m args below meth c s₁ B hml hv
  obtain ⟨rfl, hsz, hP, hK, hD0, hE⟩ := hv
  have hx := B.exec
  have hb := B.bytes
  have hr := B.returns
  have hts := atoms_spec (ws := Cond.code yX6_copyFrom cX6_copyFrom 2 none :: ds_gw) B.pre
  have hg : ∀ {w : Cond}, w ∈ ds_gw → w.before _ s = true := fun h => hts _ (List.mem_cons_of_mem _ h)
  have hown : s.vm.findClass RX6 = some m.cls := findClass_of_methodNamed B.named
  have hlocks := B.notSynchronized
  subst hsz
  have hD := hD0.self (sz := s.heap.size)
  generalize hAe : va_A [(h_p1, .inr (5, [.int p1_wide, .int p1_high, .int p1_hex, .long p1_ones, .long p1_twos])), (h_o, .inr (5, [.int o_wide, .int o_high, .int o_hex, .long o_ones, .long o_twos]))] s.heap.size = A at hD hE ⊢
  have hA : ∀ q : Nat, s.heap.size ≤ q → A q := fun q h => by rw [← hAe]; exact Or.inr h
  have hS : va_S A s.heap s.heap [] := va_S.rf
  have hl := lv_entry ([.ref h_o, .ref h_p1]) (n := 2) (Nat.le_of_ble_eq_true rfl)
  rw [lg_entry_eq]
  generalize (lg_sl ([.ref h_o, .ref h_p1]) ++ List.replicate (2 - (lg_sl ([.ref h_o, .ref h_p1])).length) Slot.unset).toArray = ls at hl ⊢
  have hl : lv_has ls 2 [(0, .ref h_o), (1, .ref h_p1)] := hl
  obtain ⟨G0, eG0⟩ : ∃ G : (Int32 × Int32 × Int32 × Int64 × Int64) → Prop, G = (fun r => r = res) := ⟨_, rfl⟩
  obtain ⟨rr, hrr⟩ : ∃ z, z = res := ⟨_, rfl⟩
  rw [← hrr] at hf
  have hG : G0 rr := by subst eG0; exact hrr
  unfold fX6_copyFrom at hf
  refine lv_aload_n hx hb dX6_copyFrom_0 rfl (lv_at hl 0 rfl) ?_
  refine lv_aload_n hx hb dX6_copyFrom_1 rfl (lv_at hl 1 rfl) ?_
  refine va_get (D := (dC, dI)) (ci := 5) (v := .int p1_wide) (C := RX6) (T := TX6) (N := 5) hx hb hts (fun w h => List.mem_cons_of_mem _ (kc_X6 w h)) hown hK hP 0 rfl rfl 0 (by decide) (hg kw_48) (fun _ h9 => h9) rfl dX6_copyFrom_2 ?_
  refine va_put (D := (dC, dI)) (ci := 5) (v := .int p1_wide) (ty := tyX6 0) (C := RX6) (T := TX6) (N := 5) hx hb hts (fun w h => List.mem_cons_of_mem _ (kc_X6 w h)) tyX6 tyX6_ok nmX6 hown hK hP hD hS 1 rfl rfl 0 (by decide) (hg kw_48) (fun _ h9 => h9) rfl (by decide +kernel) rfl rfl (Nat.le_of_ble_eq_true rfl) dX6_copyFrom_5 (fun H locs hP hD hS => ?_)
  have hP : va_P (dC, dI) vwCl [(h_p1, .inr (5, [.int p1_wide, .int p1_high, .int p1_hex, .long p1_ones, .long p1_twos])), (h_o, .inr (5, [.int p1_wide, .int o_high, .int o_hex, .long o_ones, .long o_twos]))] H := hP
  have hD : va_D A [(h_p1, .inr (5, [.int p1_wide, .int p1_high, .int p1_hex, .long p1_ones, .long p1_twos])), (h_o, .inr (5, [.int p1_wide, .int o_high, .int o_hex, .long o_ones, .long o_twos]))] := hD
  refine lv_aload_n hx hb dX6_copyFrom_8 rfl (lv_at hl 0 rfl) ?_
  refine lv_aload_n hx hb dX6_copyFrom_9 rfl (lv_at hl 1 rfl) ?_
  refine va_get (D := (dC, dI)) (ci := 5) (v := .int p1_high) (C := RX6) (T := TX6) (N := 5) hx hb hts (fun w h => List.mem_cons_of_mem _ (kc_X6 w h)) hown hK hP 0 rfl rfl 1 (by decide) (hg kw_54) (fun _ h9 => h9) rfl dX6_copyFrom_10 ?_
  refine va_put (D := (dC, dI)) (ci := 5) (v := .int p1_high) (ty := tyX6 1) (C := RX6) (T := TX6) (N := 5) hx hb hts (fun w h => List.mem_cons_of_mem _ (kc_X6 w h)) tyX6 tyX6_ok nmX6 hown hK hP hD hS 1 rfl rfl 1 (by decide) (hg kw_54) (fun _ h9 => h9) rfl (by decide +kernel) rfl rfl (Nat.le_of_ble_eq_true rfl) dX6_copyFrom_13 (fun H locs hP hD hS => ?_)
  have hP : va_P (dC, dI) vwCl [(h_p1, .inr (5, [.int p1_wide, .int p1_high, .int p1_hex, .long p1_ones, .long p1_twos])), (h_o, .inr (5, [.int p1_wide, .int p1_high, .int o_hex, .long o_ones, .long o_twos]))] H := hP
  have hD : va_D A [(h_p1, .inr (5, [.int p1_wide, .int p1_high, .int p1_hex, .long p1_ones, .long p1_twos])), (h_o, .inr (5, [.int p1_wide, .int p1_high, .int o_hex, .long o_ones, .long o_twos]))] := hD
  refine lv_aload_n hx hb dX6_copyFrom_16 rfl (lv_at hl 0 rfl) ?_
  refine lv_aload_n hx hb dX6_copyFrom_17 rfl (lv_at hl 1 rfl) ?_
  refine va_get (D := (dC, dI)) (ci := 5) (v := .int p1_hex) (C := RX6) (T := TX6) (N := 5) hx hb hts (fun w h => List.mem_cons_of_mem _ (kc_X6 w h)) hown hK hP 0 rfl rfl 2 (by decide) (hg kw_55) (fun _ h9 => h9) rfl dX6_copyFrom_18 ?_
  obtain ⟨z_21, hf⟩ := ds_c hf
  refine va_put (D := (dC, dI)) (ci := 5) (v := .int p1_hex) (ty := tyX6 2) (C := RX6) (T := TX6) (N := 5) hx hb hts (fun w h => List.mem_cons_of_mem _ (kc_X6 w h)) tyX6 tyX6_ok nmX6 hown hK hP hD hS 1 rfl rfl 2 (by decide) (hg kw_55) (fun _ h9 => h9) rfl (by decide +kernel) (ds_zn z_21) (ds_zf z_21) (Nat.le_of_ble_eq_true rfl) dX6_copyFrom_21 (fun H locs hP hD hS => ?_)
  have hP : va_P (dC, dI) vwCl [(h_p1, .inr (5, [.int p1_wide, .int p1_high, .int p1_hex, .long p1_ones, .long p1_twos])), (h_o, .inr (5, [.int p1_wide, .int p1_high, .int p1_hex, .long o_ones, .long o_twos]))] H := hP
  have hD : va_D A [(h_p1, .inr (5, [.int p1_wide, .int p1_high, .int p1_hex, .long p1_ones, .long p1_twos])), (h_o, .inr (5, [.int p1_wide, .int p1_high, .int p1_hex, .long o_ones, .long o_twos]))] := hD
  refine lv_aload_n hx hb dX6_copyFrom_24 rfl (lv_at hl 0 rfl) ?_
  refine lv_aload_n hx hb dX6_copyFrom_25 rfl (lv_at hl 1 rfl) ?_
  refine va_get (D := (dC, dI)) (ci := 5) (v := .long p1_ones) (C := RX6) (T := TX6) (N := 5) hx hb hts (fun w h => List.mem_cons_of_mem _ (kc_X6 w h)) hown hK hP 0 rfl rfl 3 (by decide) (hg kw_61) (fun _ h9 => h9) rfl dX6_copyFrom_26 ?_
  refine va_put (D := (dC, dI)) (ci := 5) (v := .long p1_ones) (ty := tyX6 3) (C := RX6) (T := TX6) (N := 5) hx hb hts (fun w h => List.mem_cons_of_mem _ (kc_X6 w h)) tyX6 tyX6_ok nmX6 hown hK hP hD hS 1 rfl rfl 3 (by decide) (hg kw_61) (fun _ h9 => h9) rfl (by decide +kernel) rfl rfl (Nat.le_of_ble_eq_true rfl) dX6_copyFrom_29 (fun H locs hP hD hS => ?_)
  have hP : va_P (dC, dI) vwCl [(h_p1, .inr (5, [.int p1_wide, .int p1_high, .int p1_hex, .long p1_ones, .long p1_twos])), (h_o, .inr (5, [.int p1_wide, .int p1_high, .int p1_hex, .long p1_ones, .long o_twos]))] H := hP
  have hD : va_D A [(h_p1, .inr (5, [.int p1_wide, .int p1_high, .int p1_hex, .long p1_ones, .long p1_twos])), (h_o, .inr (5, [.int p1_wide, .int p1_high, .int p1_hex, .long p1_ones, .long o_twos]))] := hD
  refine lv_aload_n hx hb dX6_copyFrom_32 rfl (lv_at hl 0 rfl) ?_
  refine lv_aload_n hx hb dX6_copyFrom_33 rfl (lv_at hl 1 rfl) ?_
  refine va_get (D := (dC, dI)) (ci := 5) (v := .long p1_twos) (C := RX6) (T := TX6) (N := 5) hx hb hts (fun w h => List.mem_cons_of_mem _ (kc_X6 w h)) hown hK hP 0 rfl rfl 4 (by decide) (hg kw_62) (fun _ h9 => h9) rfl dX6_copyFrom_34 ?_
  refine va_put (D := (dC, dI)) (ci := 5) (v := .long p1_twos) (ty := tyX6 4) (C := RX6) (T := TX6) (N := 5) hx hb hts (fun w h => List.mem_cons_of_mem _ (kc_X6 w h)) tyX6 tyX6_ok nmX6 hown hK hP hD hS 1 rfl rfl 4 (by decide) (hg kw_62) (fun _ h9 => h9) rfl (by decide +kernel) rfl rfl (Nat.le_of_ble_eq_true rfl) dX6_copyFrom_37 (fun H locs hP hD hS => ?_)
  have hP : va_P (dC, dI) vwCl [(h_p1, .inr (5, [.int p1_wide, .int p1_high, .int p1_hex, .long p1_ones, .long p1_twos])), (h_o, .inr (5, [.int p1_wide, .int p1_high, .int p1_hex, .long p1_ones, .long p1_twos]))] H := hP
  have hD : va_D A [(h_p1, .inr (5, [.int p1_wide, .int p1_high, .int p1_hex, .long p1_ones, .long p1_twos])), (h_o, .inr (5, [.int p1_wide, .int p1_high, .int p1_hex, .long p1_ones, .long p1_twos]))] := hD
  have hf := Option.some.inj hf
  subst hf
  rw [eG0] at hG
  have hG : _ = res := hG
  subst hG
  exact W.vret hx hb hr (fun t ht hW => ⟨⟨(), rfl, trivial, by rw [ht]; exact hP, hD⟩, hS.F ht⟩) hS.2.2 dX6_copyFrom_40
theorem dX6_clear_0 : decode cX6_clear 0 = .ok (.aload_n 0, 1) := by decide +kernel
theorem dX6_clear_1 : decode cX6_clear 1 = .ok (.iload_n 1, 1) := by decide +kernel
theorem dX6_clear_2 : decode cX6_clear 2 = .ok (.putfield 9, 3) := by decide +kernel
theorem dX6_clear_5 : decode cX6_clear 5 = .ok (.aload_n 0, 1) := by decide +kernel
theorem dX6_clear_6 : decode cX6_clear 6 = .ok (.iload_n 2, 1) := by decide +kernel
theorem dX6_clear_7 : decode cX6_clear 7 = .ok (.putfield 15, 3) := by decide +kernel
theorem dX6_clear_10 : decode cX6_clear 10 = .ok (.aload_n 0, 1) := by decide +kernel
theorem dX6_clear_11 : decode cX6_clear 11 = .ok (.iload_n 3, 1) := by decide +kernel
theorem dX6_clear_12 : decode cX6_clear 12 = .ok (.putfield 18, 3) := by decide +kernel
theorem dX6_clear_15 : decode cX6_clear 15 = .ok (.aload_n 0, 1) := by decide +kernel
theorem dX6_clear_16 : decode cX6_clear 16 = .ok (.lconst 0, 1) := by decide +kernel
theorem dX6_clear_17 : decode cX6_clear 17 = .ok (.putfield 22, 3) := by decide +kernel
theorem dX6_clear_20 : decode cX6_clear 20 = .ok (.aload_n 0, 1) := by decide +kernel
theorem dX6_clear_21 : decode cX6_clear 21 = .ok (.lconst 0, 1) := by decide +kernel
theorem dX6_clear_22 : decode cX6_clear 22 = .ok (.putfield 26, 3) := by decide +kernel
theorem dX6_clear_25 : decode cX6_clear 25 = .ok (.return_, 1) := by decide +kernel
def fX6_clear (p1 : Int32) (p2 : Int32) (p3 : Int32) : Option (Int32 × Int32 × Int32 × Int64 × Int64) :=
  if p3 = 0 ∨ p3 = 1 then some (p1, p2, p3, (0 : Int64), (0 : Int64)) else none
set_option maxHeartbeats 4000000 in
set_option maxRecDepth 100000 in
theorem c_X6_clear (l : Launch) (dC : Nat → ClassId) (dI : Nat → Nat → Nat) (ca : Nat → ClassId) (sa : Nat → Nat) (h_o : Nat) (sz : Nat) (o_wide : Int32) (o_high : Int32) (o_hex : Int32) (o_ones : Int64) (o_twos : Int64) (p1 : Int32) (p2 : Int32) (p3 : Int32) (res : Int32 × Int32 × Int32 × Int64 × Int64) (hf : fX6_clear p1 p2 p3 = some res) : Met l yX6_clear (Cond.code yX6_clear cX6_clear 4 none :: ds_gw) { frames := 0, cells := 0, slots := 0, locals := 0 } (va_Pc [.ref h_o, .int p1, .int p2, .int p3] (ds_Pre dC dI ca sa [(h_o, .inr (5, [.int o_wide, .int o_high, .int o_hex, .long o_ones, .long o_twos]))] sz)) (va_Qv (fun (_ : Unit) => True) (ds_B dC dI (va_A [(h_o, .inr (5, [.int o_wide, .int o_high, .int o_hex, .long o_ones, .long o_twos]))] sz) [(h_o, .inr (5, [.int res.1, .int res.2.1, .int res.2.2.1, .long res.2.2.2.1, .long res.2.2.2.2]))]) (va_A [(h_o, .inr (5, [.int o_wide, .int o_high, .int o_hex, .long o_ones, .long o_twos]))] sz)) 0 0 (va_A [(h_o, .inr (5, [.int o_wide, .int o_high, .int o_hex, .long o_ones, .long o_twos]))] sz) := by
  refine Met.ofW (cc := cX6_clear) (maxL := 4) (ret := none) (by decide) rfl ?_
  intro p e s m args below meth c s₁ B hml hv
  obtain ⟨rfl, hsz, hP, hK, hD0, hE⟩ := hv
  have hx := B.exec
  have hb := B.bytes
  have hr := B.returns
  have hts := atoms_spec (ws := Cond.code yX6_clear cX6_clear 4 none :: ds_gw) B.pre
  have hg : ∀ {w : Cond}, w ∈ ds_gw → w.before _ s = true := fun h => hts _ (List.mem_cons_of_mem _ h)
  have hown : s.vm.findClass RX6 = some m.cls := findClass_of_methodNamed B.named
  have hlocks := B.notSynchronized
  subst hsz
  have hD := hD0.self (sz := s.heap.size)
  generalize hAe : va_A [(h_o, .inr (5, [.int o_wide, .int o_high, .int o_hex, .long o_ones, .long o_twos]))] s.heap.size = A at hD hE ⊢
  have hA : ∀ q : Nat, s.heap.size ≤ q → A q := fun q h => by rw [← hAe]; exact Or.inr h
  have hS : va_S A s.heap s.heap [] := va_S.rf
  have hl := lv_entry ([.ref h_o, .int p1, .int p2, .int p3]) (n := 4) (Nat.le_of_ble_eq_true rfl)
  rw [lg_entry_eq]
  generalize (lg_sl ([.ref h_o, .int p1, .int p2, .int p3]) ++ List.replicate (4 - (lg_sl ([.ref h_o, .int p1, .int p2, .int p3])).length) Slot.unset).toArray = ls at hl ⊢
  have hl : lv_has ls 4 [(0, .ref h_o), (1, .int p1), (2, .int p2), (3, .int p3)] := hl
  obtain ⟨G0, eG0⟩ : ∃ G : (Int32 × Int32 × Int32 × Int64 × Int64) → Prop, G = (fun r => r = res) := ⟨_, rfl⟩
  obtain ⟨rr, hrr⟩ : ∃ z, z = res := ⟨_, rfl⟩
  rw [← hrr] at hf
  have hG : G0 rr := by subst eG0; exact hrr
  unfold fX6_clear at hf
  refine lv_aload_n hx hb dX6_clear_0 rfl (lv_at hl 0 rfl) ?_
  refine lv_iload_n hx hb dX6_clear_1 rfl (lv_at hl 1 rfl) ?_
  refine va_put (D := (dC, dI)) (ci := 5) (v := .int p1) (ty := tyX6 0) (C := RX6) (T := TX6) (N := 5) hx hb hts (fun w h => List.mem_cons_of_mem _ (kc_X6 w h)) tyX6 tyX6_ok nmX6 hown hK hP hD hS 0 rfl rfl 0 (by decide) (hg kw_48) (fun _ h9 => h9) rfl (by decide +kernel) rfl rfl (Nat.le_of_ble_eq_true rfl) dX6_clear_2 (fun H locs hP hD hS => ?_)
  have hP : va_P (dC, dI) vwCl [(h_o, .inr (5, [.int p1, .int o_high, .int o_hex, .long o_ones, .long o_twos]))] H := hP
  have hD : va_D A [(h_o, .inr (5, [.int p1, .int o_high, .int o_hex, .long o_ones, .long o_twos]))] := hD
  refine lv_aload_n hx hb dX6_clear_5 rfl (lv_at hl 0 rfl) ?_
  refine lv_iload_n hx hb dX6_clear_6 rfl (lv_at hl 2 rfl) ?_
  refine va_put (D := (dC, dI)) (ci := 5) (v := .int p2) (ty := tyX6 1) (C := RX6) (T := TX6) (N := 5) hx hb hts (fun w h => List.mem_cons_of_mem _ (kc_X6 w h)) tyX6 tyX6_ok nmX6 hown hK hP hD hS 0 rfl rfl 1 (by decide) (hg kw_54) (fun _ h9 => h9) rfl (by decide +kernel) rfl rfl (Nat.le_of_ble_eq_true rfl) dX6_clear_7 (fun H locs hP hD hS => ?_)
  have hP : va_P (dC, dI) vwCl [(h_o, .inr (5, [.int p1, .int p2, .int o_hex, .long o_ones, .long o_twos]))] H := hP
  have hD : va_D A [(h_o, .inr (5, [.int p1, .int p2, .int o_hex, .long o_ones, .long o_twos]))] := hD
  refine lv_aload_n hx hb dX6_clear_10 rfl (lv_at hl 0 rfl) ?_
  refine lv_iload_n hx hb dX6_clear_11 rfl (lv_at hl 3 rfl) ?_
  obtain ⟨z_12, hf⟩ := ds_c hf
  refine va_put (D := (dC, dI)) (ci := 5) (v := .int p3) (ty := tyX6 2) (C := RX6) (T := TX6) (N := 5) hx hb hts (fun w h => List.mem_cons_of_mem _ (kc_X6 w h)) tyX6 tyX6_ok nmX6 hown hK hP hD hS 0 rfl rfl 2 (by decide) (hg kw_55) (fun _ h9 => h9) rfl (by decide +kernel) (ds_zn z_12) (ds_zf z_12) (Nat.le_of_ble_eq_true rfl) dX6_clear_12 (fun H locs hP hD hS => ?_)
  have hP : va_P (dC, dI) vwCl [(h_o, .inr (5, [.int p1, .int p2, .int p3, .long o_ones, .long o_twos]))] H := hP
  have hD : va_D A [(h_o, .inr (5, [.int p1, .int p2, .int p3, .long o_ones, .long o_twos]))] := hD
  refine lv_aload_n hx hb dX6_clear_15 rfl (lv_at hl 0 rfl) ?_
  refine lv_lconst (v := 0) hx hb dX6_clear_16 (by decide) ?_
  refine va_put (D := (dC, dI)) (ci := 5) (v := .long (0 : Int64)) (ty := tyX6 3) (C := RX6) (T := TX6) (N := 5) hx hb hts (fun w h => List.mem_cons_of_mem _ (kc_X6 w h)) tyX6 tyX6_ok nmX6 hown hK hP hD hS 0 rfl rfl 3 (by decide) (hg kw_61) (fun _ h9 => h9) rfl (by decide +kernel) rfl rfl (Nat.le_of_ble_eq_true rfl) dX6_clear_17 (fun H locs hP hD hS => ?_)
  have hP : va_P (dC, dI) vwCl [(h_o, .inr (5, [.int p1, .int p2, .int p3, .long (0 : Int64), .long o_twos]))] H := hP
  have hD : va_D A [(h_o, .inr (5, [.int p1, .int p2, .int p3, .long (0 : Int64), .long o_twos]))] := hD
  refine lv_aload_n hx hb dX6_clear_20 rfl (lv_at hl 0 rfl) ?_
  refine lv_lconst (v := 0) hx hb dX6_clear_21 (by decide) ?_
  refine va_put (D := (dC, dI)) (ci := 5) (v := .long (0 : Int64)) (ty := tyX6 4) (C := RX6) (T := TX6) (N := 5) hx hb hts (fun w h => List.mem_cons_of_mem _ (kc_X6 w h)) tyX6 tyX6_ok nmX6 hown hK hP hD hS 0 rfl rfl 4 (by decide) (hg kw_62) (fun _ h9 => h9) rfl (by decide +kernel) rfl rfl (Nat.le_of_ble_eq_true rfl) dX6_clear_22 (fun H locs hP hD hS => ?_)
  have hP : va_P (dC, dI) vwCl [(h_o, .inr (5, [.int p1, .int p2, .int p3, .long (0 : Int64), .long (0 : Int64)]))] H := hP
  have hD : va_D A [(h_o, .inr (5, [.int p1, .int p2, .int p3, .long (0 : Int64), .long (0 : Int64)]))] := hD
  have hf := Option.some.inj hf
  subst hf
  rw [eG0] at hG
  have hG : _ = res := hG
  subst hG
  exact W.vret hx hb hr (fun t ht hW => ⟨⟨(), rfl, trivial, by rw [ht]; exact hP, hD⟩, hS.F ht⟩) hS.2.2 dX6_clear_25
theorem dX6_all_0 : decode cX6_all 0 = .ok (.ldc2_w 33, 3) := by decide +kernel
theorem dX6_all_3 : decode cX6_all 3 = .ok (.lconst 1, 1) := by decide +kernel
theorem dX6_all_4 : decode cX6_all 4 = .ok (.aload_n 0, 1) := by decide +kernel
theorem dX6_all_5 : decode cX6_all 5 = .ok (.getfield 9, 3) := by decide +kernel
theorem dX6_all_8 : decode cX6_all 8 = .ok (.lshl, 1) := by decide +kernel
theorem dX6_all_9 : decode cX6_all 9 = .ok (.lconst 1, 1) := by decide +kernel
theorem dX6_all_10 : decode cX6_all 10 = .ok (.lsub, 1) := by decide +kernel
theorem dX6_all_11 : decode cX6_all 11 = .ok (.lmul, 1) := by decide +kernel
theorem dX6_all_12 : decode cX6_all 12 = .ok (.lstore_n 1, 1) := by decide +kernel
theorem dX6_all_13 : decode cX6_all 13 = .ok (.ldc2_w 35, 3) := by decide +kernel
theorem dX6_all_16 : decode cX6_all 16 = .ok (.bipush 64, 2) := by decide +kernel
theorem dX6_all_18 : decode cX6_all 18 = .ok (.bipush 8, 2) := by decide +kernel
theorem dX6_all_20 : decode cX6_all 20 = .ok (.aload_n 0, 1) := by decide +kernel
theorem dX6_all_21 : decode cX6_all 21 = .ok (.getfield 15, 3) := by decide +kernel
theorem dX6_all_24 : decode cX6_all 24 = .ok (.imul, 1) := by decide +kernel
theorem dX6_all_25 : decode cX6_all 25 = .ok (.isub, 1) := by decide +kernel
theorem dX6_all_26 : decode cX6_all 26 = .ok (.lushr, 1) := by decide +kernel
theorem dX6_all_27 : decode cX6_all 27 = .ok (.lstore_n 3, 1) := by decide +kernel
theorem dX6_all_28 : decode cX6_all 28 = .ok (.lload_n 1, 1) := by decide +kernel
theorem dX6_all_29 : decode cX6_all 29 = .ok (.lload_n 3, 1) := by decide +kernel
theorem dX6_all_30 : decode cX6_all 30 = .ok (.land, 1) := by decide +kernel
theorem dX6_all_31 : decode cX6_all 31 = .ok (.lreturn, 1) := by decide +kernel
def fX6_all (o_wide : Int32) (o_high : Int32) : Option (Int64) :=
  Option.bind (some (((72340172838076673 : Int64) * ((ds_lshl (1 : Int64) o_wide) - (1 : Int64))))) fun x12 => Option.bind (some ((ds_lushr (-1 : Int64) ((64 : Int32) - ((8 : Int32) * o_high))))) fun x27 => some (x12 &&& x27)
set_option maxHeartbeats 4000000 in
set_option maxRecDepth 100000 in
theorem c_X6_all (l : Launch) (dC : Nat → ClassId) (dI : Nat → Nat → Nat) (ca : Nat → ClassId) (sa : Nat → Nat) (h_o : Nat) (sz : Nat) (o_wide : Int32) (o_high : Int32) (o_hex : Int32) (o_ones : Int64) (o_twos : Int64) (res : Int64) (hf : fX6_all o_wide o_high = some res) : Met l yX6_all (Cond.code yX6_all cX6_all 5 (some .long) :: ds_gw) { frames := 0, cells := 0, slots := 0, locals := 0 } (va_Pc [.ref h_o] (ds_Pre dC dI ca sa [(h_o, .inr (5, [.int o_wide, .int o_high, .int o_hex, .long o_ones, .long o_twos]))] sz)) (va_Ql (fun r (_ : Unit) => r = res) (ds_B dC dI (va_A [(h_o, .inr (5, [.int o_wide, .int o_high, .int o_hex, .long o_ones, .long o_twos]))] sz) [(h_o, .inr (5, [.int o_wide, .int o_high, .int o_hex, .long o_ones, .long o_twos]))]) (va_A [(h_o, .inr (5, [.int o_wide, .int o_high, .int o_hex, .long o_ones, .long o_twos]))] sz)) 0 0 (va_A [(h_o, .inr (5, [.int o_wide, .int o_high, .int o_hex, .long o_ones, .long o_twos]))] sz) := by
  refine Met.ofW (cc := cX6_all) (maxL := 5) (ret := (some .long)) (by decide) rfl ?_
  intro p e s m args below meth c s₁ B hml hv
  obtain ⟨rfl, hsz, hP, hK, hD0, hE⟩ := hv
  have hx := B.exec
  have hb := B.bytes
  have hr := B.returns
  have hts := atoms_spec (ws := Cond.code yX6_all cX6_all 5 (some .long) :: ds_gw) B.pre
  have hg : ∀ {w : Cond}, w ∈ ds_gw → w.before _ s = true := fun h => hts _ (List.mem_cons_of_mem _ h)
  have hown : s.vm.findClass RX6 = some m.cls := findClass_of_methodNamed B.named
  have hlocks := B.notSynchronized
  subst hsz
  have hD := hD0.self (sz := s.heap.size)
  generalize hAe : va_A [(h_o, .inr (5, [.int o_wide, .int o_high, .int o_hex, .long o_ones, .long o_twos]))] s.heap.size = A at hD hE ⊢
  have hA : ∀ q : Nat, s.heap.size ≤ q → A q := fun q h => by rw [← hAe]; exact Or.inr h
  have hS : va_S A s.heap s.heap [] := va_S.rf
  have hl := lv_entry ([.ref h_o]) (n := 5) (Nat.le_of_ble_eq_true rfl)
  rw [lg_entry_eq]
  generalize (lg_sl ([.ref h_o]) ++ List.replicate (5 - (lg_sl ([.ref h_o])).length) Slot.unset).toArray = ls at hl ⊢
  have hl : lv_has ls 5 [(0, .ref h_o)] := hl
  obtain ⟨G0, eG0⟩ : ∃ G : Int64 → Prop, G = (fun r => r = res) := ⟨_, rfl⟩
  obtain ⟨rr, hrr⟩ : ∃ z, z = res := ⟨_, rfl⟩
  rw [← hrr] at hf
  have hG : G0 rr := by subst eG0; exact hrr
  unfold fX6_all at hf
  refine lv_ldc2 (own := RX6) (v := 72340172838076673) hx hb hown (hg kw_63) dX6_all_0 ?_
  refine lv_lconst (v := 1) hx hb dX6_all_3 (by decide) ?_
  refine lv_aload_n hx hb dX6_all_4 rfl (lv_at hl 0 rfl) ?_
  refine va_get (D := (dC, dI)) (ci := 5) (v := .int o_wide) (C := RX6) (T := TX6) (N := 5) hx hb hts (fun w h => List.mem_cons_of_mem _ (kc_X6 w h)) hown hK hP 0 rfl rfl 0 (by decide) (hg kw_48) (fun _ h9 => h9) rfl dX6_all_5 ?_
  refine lv_lshl (v := (ds_lshl (1 : Int64) o_wide)) hx hb dX6_all_8 rfl ?_
  refine lv_lconst (v := 1) hx hb dX6_all_9 (by decide) ?_
  refine lv_lsub hx hb dX6_all_10 ?_
  refine lv_lmul hx hb dX6_all_11 ?_
  obtain ⟨x12, hx_12, hf⟩ := ds_ob hf
  refine ds_nml hx_12 ?_
  refine lv_lstore_n (lv' := [(1, .long x12), (0, .ref h_o)]) hx hb dX6_all_12 rfl hl (by decide) rfl (fun ls hl => ?_)
  refine lv_ldc2 (own := RX6) (v := -1) hx hb hown (hg kw_64) dX6_all_13 ?_
  refine lv_bipush (v := 64) hx hb dX6_all_16 (by decide) ?_
  refine lv_bipush (v := 8) hx hb dX6_all_18 (by decide) ?_
  refine lv_aload_n hx hb dX6_all_20 rfl (lv_at hl 1 rfl) ?_
  refine va_get (D := (dC, dI)) (ci := 5) (v := .int o_high) (C := RX6) (T := TX6) (N := 5) hx hb hts (fun w h => List.mem_cons_of_mem _ (kc_X6 w h)) hown hK hP 0 rfl rfl 1 (by decide) (hg kw_54) (fun _ h9 => h9) rfl dX6_all_21 ?_
  refine lv_imul hx hb dX6_all_24 ?_
  refine lv_isub hx hb dX6_all_25 ?_
  refine lv_lushr (v := (ds_lushr (-1 : Int64) ((64 : Int32) - ((8 : Int32) * o_high)))) hx hb dX6_all_26 rfl ?_
  obtain ⟨x27, hx_27, hf⟩ := ds_ob hf
  refine ds_nml hx_27 ?_
  refine lv_lstore_n (lv' := [(3, .long x27), (1, .long x12), (0, .ref h_o)]) hx hb dX6_all_27 rfl hl (by decide) rfl (fun ls hl => ?_)
  refine lv_lload_n hx hb dX6_all_28 rfl (lv_at hl 1 rfl) ?_
  refine lv_lload_n hx hb dX6_all_29 rfl (lv_at hl 0 rfl) ?_
  refine lv_land hx hb dX6_all_30 ?_
  have hf := Option.some.inj hf
  subst hf
  rw [eG0] at hG
  have hG : _ = res := hG
  subst hG
  exact W.lret (v := (x12 &&& x27)) hx hb hr (fun t ht hW => ⟨⟨(x12 &&& x27), (), rfl, rfl, by rw [ht]; exact hP, hD⟩, hS.F ht⟩) hS.2.2 dX6_all_31
theorem dX6_rolledDown_0 : decode cX6_rolledDown 0 = .ok (.iload_n 3, 1) := by decide +kernel
theorem dX6_rolledDown_1 : decode cX6_rolledDown 1 = .ok (.ifCond .ne 5, 3) := by decide +kernel
theorem dX6_rolledDown_4 : decode cX6_rolledDown 4 = .ok (.lload_n 1, 1) := by decide +kernel
theorem dX6_rolledDown_5 : decode cX6_rolledDown 5 = .ok (.lreturn, 1) := by decide +kernel
theorem dX6_rolledDown_6 : decode cX6_rolledDown 6 = .ok (.lload_n 1, 1) := by decide +kernel
theorem dX6_rolledDown_7 : decode cX6_rolledDown 7 = .ok (.bipush 8, 2) := by decide +kernel
theorem dX6_rolledDown_9 : decode cX6_rolledDown 9 = .ok (.iload_n 3, 1) := by decide +kernel
theorem dX6_rolledDown_10 : decode cX6_rolledDown 10 = .ok (.imul, 1) := by decide +kernel
theorem dX6_rolledDown_11 : decode cX6_rolledDown 11 = .ok (.lshl, 1) := by decide +kernel
theorem dX6_rolledDown_12 : decode cX6_rolledDown 12 = .ok (.aload_n 0, 1) := by decide +kernel
theorem dX6_rolledDown_13 : decode cX6_rolledDown 13 = .ok (.invokevirtual 48, 3) := by decide +kernel
theorem dX6_rolledDown_16 : decode cX6_rolledDown 16 = .ok (.land, 1) := by decide +kernel
theorem dX6_rolledDown_17 : decode cX6_rolledDown 17 = .ok (.lload_n 1, 1) := by decide +kernel
theorem dX6_rolledDown_18 : decode cX6_rolledDown 18 = .ok (.bipush 8, 2) := by decide +kernel
theorem dX6_rolledDown_20 : decode cX6_rolledDown 20 = .ok (.aload_n 0, 1) := by decide +kernel
theorem dX6_rolledDown_21 : decode cX6_rolledDown 21 = .ok (.getfield 15, 3) := by decide +kernel
theorem dX6_rolledDown_24 : decode cX6_rolledDown 24 = .ok (.iload_n 3, 1) := by decide +kernel
theorem dX6_rolledDown_25 : decode cX6_rolledDown 25 = .ok (.isub, 1) := by decide +kernel
theorem dX6_rolledDown_26 : decode cX6_rolledDown 26 = .ok (.imul, 1) := by decide +kernel
theorem dX6_rolledDown_27 : decode cX6_rolledDown 27 = .ok (.lushr, 1) := by decide +kernel
theorem dX6_rolledDown_28 : decode cX6_rolledDown 28 = .ok (.lor, 1) := by decide +kernel
theorem dX6_rolledDown_29 : decode cX6_rolledDown 29 = .ok (.lreturn, 1) := by decide +kernel
def fX6_rolledDown (o_wide : Int32) (o_high : Int32) (p1 : Int64) (p2 : Int32) : Option (Int64) :=
  if p2 = 0 then some p1 else Option.bind (fX6_all o_wide o_high) fun q13 => some (((ds_lshl p1 ((8 : Int32) * p2)) &&& q13) ||| (ds_lushr p1 ((8 : Int32) * (o_high - p2))))
set_option maxHeartbeats 4000000 in
set_option maxRecDepth 100000 in
theorem c_X6_rolledDown (l : Launch) (dC : Nat → ClassId) (dI : Nat → Nat → Nat) (ca : Nat → ClassId) (sa : Nat → Nat) (h_o : Nat) (sz : Nat) (o_wide : Int32) (o_high : Int32) (o_hex : Int32) (o_ones : Int64) (o_twos : Int64) (p1 : Int64) (p2 : Int32) (res : Int64) (hf : fX6_rolledDown o_wide o_high p1 p2 = some res) : Met l yX6_rolledDown (Cond.code yX6_rolledDown cX6_rolledDown 4 (some .long) :: ds_gw) { frames := 1, cells := 0, slots := 0, locals := 24 } (va_Pc [.ref h_o, .long p1, .int p2] (ds_Pre dC dI ca sa [(h_o, .inr (5, [.int o_wide, .int o_high, .int o_hex, .long o_ones, .long o_twos]))] sz)) (va_Ql (fun r (_ : Unit) => r = res) (ds_B dC dI (va_A [(h_o, .inr (5, [.int o_wide, .int o_high, .int o_hex, .long o_ones, .long o_twos]))] sz) [(h_o, .inr (5, [.int o_wide, .int o_high, .int o_hex, .long o_ones, .long o_twos]))]) (va_A [(h_o, .inr (5, [.int o_wide, .int o_high, .int o_hex, .long o_ones, .long o_twos]))] sz)) 0 0 (va_A [(h_o, .inr (5, [.int o_wide, .int o_high, .int o_hex, .long o_ones, .long o_twos]))] sz) := by
  refine Met.ofW (cc := cX6_rolledDown) (maxL := 4) (ret := (some .long)) (by decide) rfl ?_
  intro p e s m args below meth c s₁ B hml hv
  obtain ⟨rfl, hsz, hP, hK, hD0, hE⟩ := hv
  have hx := B.exec
  have hb := B.bytes
  have hr := B.returns
  have hts := atoms_spec (ws := Cond.code yX6_rolledDown cX6_rolledDown 4 (some .long) :: ds_gw) B.pre
  have hg : ∀ {w : Cond}, w ∈ ds_gw → w.before _ s = true := fun h => hts _ (List.mem_cons_of_mem _ h)
  have hown : s.vm.findClass RX6 = some m.cls := findClass_of_methodNamed B.named
  have hlocks := B.notSynchronized
  subst hsz
  have hD := hD0.self (sz := s.heap.size)
  generalize hAe : va_A [(h_o, .inr (5, [.int o_wide, .int o_high, .int o_hex, .long o_ones, .long o_twos]))] s.heap.size = A at hD hE ⊢
  have hA : ∀ q : Nat, s.heap.size ≤ q → A q := fun q h => by rw [← hAe]; exact Or.inr h
  have hS : va_S A s.heap s.heap [] := va_S.rf
  have hl := lv_entry ([.ref h_o, .long p1, .int p2]) (n := 4) (Nat.le_of_ble_eq_true rfl)
  rw [lg_entry_eq]
  generalize (lg_sl ([.ref h_o, .long p1, .int p2]) ++ List.replicate (4 - (lg_sl ([.ref h_o, .long p1, .int p2])).length) Slot.unset).toArray = ls at hl ⊢
  have hl : lv_has ls 4 [(0, .ref h_o), (1, .long p1), (3, .int p2)] := hl
  obtain ⟨G0, eG0⟩ : ∃ G : Int64 → Prop, G = (fun r => r = res) := ⟨_, rfl⟩
  obtain ⟨rr, hrr⟩ : ∃ z, z = res := ⟨_, rfl⟩
  rw [← hrr] at hf
  have hG : G0 rr := by subst eG0; exact hrr
  unfold fX6_rolledDown at hf
  refine lv_iload_n hx hb dX6_rolledDown_0 rfl (lv_at hl 2 rfl) ?_
  refine lv_if_ne (tgt := 6) hx hb dX6_rolledDown_1 (by decide) (fun c_1 => ?_) (fun c_1 => ?_)
  · replace hf := ds_f c_1 hf
    refine lv_lload_n hx hb dX6_rolledDown_6 rfl (lv_at hl 1 rfl) ?_
    refine lv_bipush (v := 8) hx hb dX6_rolledDown_7 (by decide) ?_
    refine lv_iload_n hx hb dX6_rolledDown_9 rfl (lv_at hl 2 rfl) ?_
    refine lv_imul hx hb dX6_rolledDown_10 ?_
    refine lv_lshl (v := (ds_lshl p1 ((8 : Int32) * p2))) hx hb dX6_rolledDown_11 rfl ?_
    refine lv_aload_n hx hb dX6_rolledDown_12 rfl (lv_at hl 0 rfl) ?_
    obtain ⟨q13, hq13, hf⟩ := ds_ob hf
    refine ds_calll (wr := []) (va_runV (As := []) (rest := [.long (ds_lshl p1 ((8 : Int32) * p2))]) ⟨hx, hb, hml, hown, hts⟩ (c_X6_all l dC dI ca sa h_o s.heap.size o_wide o_high o_hex o_ones o_twos  q13 hq13) (cwV 0 hts (ds_gV kw_65 kw_66 kw_67 kw_59 kw_68) rfl rfl rfl (by decide +kernel) ⟨Nat.le_of_ble_eq_true rfl, Nat.le_of_ble_eq_true rfl⟩) ⟨ds_blind, va_recv hK hP (ci := 5) (q0 := 0) rfl rfl, ds_at hP hD hK hE hS hA [0] rfl rfl _⟩ rfl rfl hl.1 rfl (lv_room (Nat.le_of_ble_eq_true rfl)) dX6_rolledDown_13 ⟨Nat.zero_le _, Nat.zero_le _⟩) hP hD hS hA [0] [] rfl rfl rfl (by decide) (fun H locs hP hD hS => ?_)
    have hP : va_P (dC, dI) vwCl [(h_o, .inr (5, [.int o_wide, .int o_high, .int o_hex, .long o_ones, .long o_twos]))] H := hP
    have hD : va_D A [(h_o, .inr (5, [.int o_wide, .int o_high, .int o_hex, .long o_ones, .long o_twos]))] := hD
    refine lv_land hx hb dX6_rolledDown_16 ?_
    refine lv_lload_n hx hb dX6_rolledDown_17 rfl (lv_at hl 1 rfl) ?_
    refine lv_bipush (v := 8) hx hb dX6_rolledDown_18 (by decide) ?_
    refine lv_aload_n hx hb dX6_rolledDown_20 rfl (lv_at hl 0 rfl) ?_
    refine va_get (D := (dC, dI)) (ci := 5) (v := .int o_high) (C := RX6) (T := TX6) (N := 5) hx hb hts (fun w h => List.mem_cons_of_mem _ (kc_X6 w h)) hown hK hP 0 rfl rfl 1 (by decide) (hg kw_54) (fun _ h9 => h9) rfl dX6_rolledDown_21 ?_
    refine lv_iload_n hx hb dX6_rolledDown_24 rfl (lv_at hl 2 rfl) ?_
    refine lv_isub hx hb dX6_rolledDown_25 ?_
    refine lv_imul hx hb dX6_rolledDown_26 ?_
    refine lv_lushr (v := (ds_lushr p1 ((8 : Int32) * (o_high - p2)))) hx hb dX6_rolledDown_27 rfl ?_
    refine lv_lor hx hb dX6_rolledDown_28 ?_
    have hf := Option.some.inj hf
    subst hf
    rw [eG0] at hG
    have hG : _ = res := hG
    subst hG
    exact W.lret (v := (((ds_lshl p1 ((8 : Int32) * p2)) &&& q13) ||| (ds_lushr p1 ((8 : Int32) * (o_high - p2))))) hx hb hr (fun t ht hW => ⟨⟨(((ds_lshl p1 ((8 : Int32) * p2)) &&& q13) ||| (ds_lushr p1 ((8 : Int32) * (o_high - p2)))), (), rfl, rfl, by rw [ht]; exact hP, hD⟩, hS.F ht⟩) hS.2.2 dX6_rolledDown_29
  · replace hf := ds_t c_1 hf
    refine lv_lload_n hx hb dX6_rolledDown_4 rfl (lv_at hl 1 rfl) ?_
    have hf := Option.some.inj hf
    subst hf
    rw [eG0] at hG
    have hG : _ = res := hG
    subst hG
    exact W.lret (v := p1) hx hb hr (fun t ht hW => ⟨⟨p1, (), rfl, rfl, by rw [ht]; exact hP, hD⟩, hS.F ht⟩) hS.2.2 dX6_rolledDown_5
theorem dX6_rolledAlong_0 : decode cX6_rolledAlong 0 = .ok (.iload_n 3, 1) := by decide +kernel
theorem dX6_rolledAlong_1 : decode cX6_rolledAlong 1 = .ok (.ifCond .ne 5, 3) := by decide +kernel
theorem dX6_rolledAlong_4 : decode cX6_rolledAlong 4 = .ok (.lload_n 1, 1) := by decide +kernel
theorem dX6_rolledAlong_5 : decode cX6_rolledAlong 5 = .ok (.lreturn, 1) := by decide +kernel
theorem dX6_rolledAlong_6 : decode cX6_rolledAlong 6 = .ok (.ldc2_w 33, 3) := by decide +kernel
theorem dX6_rolledAlong_9 : decode cX6_rolledAlong 9 = .ok (.lconst 1, 1) := by decide +kernel
theorem dX6_rolledAlong_10 : decode cX6_rolledAlong 10 = .ok (.iload_n 3, 1) := by decide +kernel
theorem dX6_rolledAlong_11 : decode cX6_rolledAlong 11 = .ok (.lshl, 1) := by decide +kernel
theorem dX6_rolledAlong_12 : decode cX6_rolledAlong 12 = .ok (.lconst 1, 1) := by decide +kernel
theorem dX6_rolledAlong_13 : decode cX6_rolledAlong 13 = .ok (.lsub, 1) := by decide +kernel
theorem dX6_rolledAlong_14 : decode cX6_rolledAlong 14 = .ok (.lmul, 1) := by decide +kernel
theorem dX6_rolledAlong_15 : decode cX6_rolledAlong 15 = .ok (.lstore 4, 2) := by decide +kernel
theorem dX6_rolledAlong_17 : decode cX6_rolledAlong 17 = .ok (.lload_n 1, 1) := by decide +kernel
theorem dX6_rolledAlong_18 : decode cX6_rolledAlong 18 = .ok (.iload_n 3, 1) := by decide +kernel
theorem dX6_rolledAlong_19 : decode cX6_rolledAlong 19 = .ok (.lshl, 1) := by decide +kernel
theorem dX6_rolledAlong_20 : decode cX6_rolledAlong 20 = .ok (.aload_n 0, 1) := by decide +kernel
theorem dX6_rolledAlong_21 : decode cX6_rolledAlong 21 = .ok (.invokevirtual 48, 3) := by decide +kernel
theorem dX6_rolledAlong_24 : decode cX6_rolledAlong 24 = .ok (.land, 1) := by decide +kernel
theorem dX6_rolledAlong_25 : decode cX6_rolledAlong 25 = .ok (.lload 4, 2) := by decide +kernel
theorem dX6_rolledAlong_27 : decode cX6_rolledAlong 27 = .ok (.ldc2_w 35, 3) := by decide +kernel
theorem dX6_rolledAlong_30 : decode cX6_rolledAlong 30 = .ok (.lxor, 1) := by decide +kernel
theorem dX6_rolledAlong_31 : decode cX6_rolledAlong 31 = .ok (.land, 1) := by decide +kernel
theorem dX6_rolledAlong_32 : decode cX6_rolledAlong 32 = .ok (.lload_n 1, 1) := by decide +kernel
theorem dX6_rolledAlong_33 : decode cX6_rolledAlong 33 = .ok (.aload_n 0, 1) := by decide +kernel
theorem dX6_rolledAlong_34 : decode cX6_rolledAlong 34 = .ok (.getfield 9, 3) := by decide +kernel
theorem dX6_rolledAlong_37 : decode cX6_rolledAlong 37 = .ok (.iload_n 3, 1) := by decide +kernel
theorem dX6_rolledAlong_38 : decode cX6_rolledAlong 38 = .ok (.isub, 1) := by decide +kernel
theorem dX6_rolledAlong_39 : decode cX6_rolledAlong 39 = .ok (.lushr, 1) := by decide +kernel
theorem dX6_rolledAlong_40 : decode cX6_rolledAlong 40 = .ok (.lload 4, 2) := by decide +kernel
theorem dX6_rolledAlong_42 : decode cX6_rolledAlong 42 = .ok (.land, 1) := by decide +kernel
theorem dX6_rolledAlong_43 : decode cX6_rolledAlong 43 = .ok (.lor, 1) := by decide +kernel
theorem dX6_rolledAlong_44 : decode cX6_rolledAlong 44 = .ok (.lreturn, 1) := by decide +kernel
def fX6_rolledAlong (o_wide : Int32) (o_high : Int32) (p1 : Int64) (p2 : Int32) : Option (Int64) :=
  if p2 = 0 then some p1 else Option.bind (some (((72340172838076673 : Int64) * ((ds_lshl (1 : Int64) p2) - (1 : Int64))))) fun x15 => Option.bind (fX6_all o_wide o_high) fun q21 => some ((((ds_lshl p1 p2) &&& q21) &&& (x15 ^^^ (-1 : Int64))) ||| ((ds_lushr p1 (o_wide - p2)) &&& x15))
set_option maxHeartbeats 4000000 in
set_option maxRecDepth 100000 in
theorem c_X6_rolledAlong (l : Launch) (dC : Nat → ClassId) (dI : Nat → Nat → Nat) (ca : Nat → ClassId) (sa : Nat → Nat) (h_o : Nat) (sz : Nat) (o_wide : Int32) (o_high : Int32) (o_hex : Int32) (o_ones : Int64) (o_twos : Int64) (p1 : Int64) (p2 : Int32) (res : Int64) (hf : fX6_rolledAlong o_wide o_high p1 p2 = some res) : Met l yX6_rolledAlong (Cond.code yX6_rolledAlong cX6_rolledAlong 6 (some .long) :: ds_gw) { frames := 1, cells := 0, slots := 0, locals := 24 } (va_Pc [.ref h_o, .long p1, .int p2] (ds_Pre dC dI ca sa [(h_o, .inr (5, [.int o_wide, .int o_high, .int o_hex, .long o_ones, .long o_twos]))] sz)) (va_Ql (fun r (_ : Unit) => r = res) (ds_B dC dI (va_A [(h_o, .inr (5, [.int o_wide, .int o_high, .int o_hex, .long o_ones, .long o_twos]))] sz) [(h_o, .inr (5, [.int o_wide, .int o_high, .int o_hex, .long o_ones, .long o_twos]))]) (va_A [(h_o, .inr (5, [.int o_wide, .int o_high, .int o_hex, .long o_ones, .long o_twos]))] sz)) 0 0 (va_A [(h_o, .inr (5, [.int o_wide, .int o_high, .int o_hex, .long o_ones, .long o_twos]))] sz) := by
  refine Met.ofW (cc := cX6_rolledAlong) (maxL := 6) (ret := (some .long)) (by decide) rfl ?_
  intro p e s m args below meth c s₁ B hml hv
  obtain ⟨rfl, hsz, hP, hK, hD0, hE⟩ := hv
  have hx := B.exec
  have hb := B.bytes
  have hr := B.returns
  have hts := atoms_spec (ws := Cond.code yX6_rolledAlong cX6_rolledAlong 6 (some .long) :: ds_gw) B.pre
  have hg : ∀ {w : Cond}, w ∈ ds_gw → w.before _ s = true := fun h => hts _ (List.mem_cons_of_mem _ h)
  have hown : s.vm.findClass RX6 = some m.cls := findClass_of_methodNamed B.named
  have hlocks := B.notSynchronized
  subst hsz
  have hD := hD0.self (sz := s.heap.size)
  generalize hAe : va_A [(h_o, .inr (5, [.int o_wide, .int o_high, .int o_hex, .long o_ones, .long o_twos]))] s.heap.size = A at hD hE ⊢
  have hA : ∀ q : Nat, s.heap.size ≤ q → A q := fun q h => by rw [← hAe]; exact Or.inr h
  have hS : va_S A s.heap s.heap [] := va_S.rf
  have hl := lv_entry ([.ref h_o, .long p1, .int p2]) (n := 6) (Nat.le_of_ble_eq_true rfl)
  rw [lg_entry_eq]
  generalize (lg_sl ([.ref h_o, .long p1, .int p2]) ++ List.replicate (6 - (lg_sl ([.ref h_o, .long p1, .int p2])).length) Slot.unset).toArray = ls at hl ⊢
  have hl : lv_has ls 6 [(0, .ref h_o), (1, .long p1), (3, .int p2)] := hl
  obtain ⟨G0, eG0⟩ : ∃ G : Int64 → Prop, G = (fun r => r = res) := ⟨_, rfl⟩
  obtain ⟨rr, hrr⟩ : ∃ z, z = res := ⟨_, rfl⟩
  rw [← hrr] at hf
  have hG : G0 rr := by subst eG0; exact hrr
  unfold fX6_rolledAlong at hf
  refine lv_iload_n hx hb dX6_rolledAlong_0 rfl (lv_at hl 2 rfl) ?_
  refine lv_if_ne (tgt := 6) hx hb dX6_rolledAlong_1 (by decide) (fun c_1 => ?_) (fun c_1 => ?_)
  · replace hf := ds_f c_1 hf
    refine lv_ldc2 (own := RX6) (v := 72340172838076673) hx hb hown (hg kw_63) dX6_rolledAlong_6 ?_
    refine lv_lconst (v := 1) hx hb dX6_rolledAlong_9 (by decide) ?_
    refine lv_iload_n hx hb dX6_rolledAlong_10 rfl (lv_at hl 2 rfl) ?_
    refine lv_lshl (v := (ds_lshl (1 : Int64) p2)) hx hb dX6_rolledAlong_11 rfl ?_
    refine lv_lconst (v := 1) hx hb dX6_rolledAlong_12 (by decide) ?_
    refine lv_lsub hx hb dX6_rolledAlong_13 ?_
    refine lv_lmul hx hb dX6_rolledAlong_14 ?_
    obtain ⟨x15, hx_15, hf⟩ := ds_ob hf
    refine ds_nml hx_15 ?_
    refine lv_lstore (lv' := [(4, .long x15), (0, .ref h_o), (1, .long p1), (3, .int p2)]) hx hb dX6_rolledAlong_15 hl (by decide) rfl (fun ls hl => ?_)
    refine lv_lload_n hx hb dX6_rolledAlong_17 rfl (lv_at hl 2 rfl) ?_
    refine lv_iload_n hx hb dX6_rolledAlong_18 rfl (lv_at hl 3 rfl) ?_
    refine lv_lshl (v := (ds_lshl p1 p2)) hx hb dX6_rolledAlong_19 rfl ?_
    refine lv_aload_n hx hb dX6_rolledAlong_20 rfl (lv_at hl 1 rfl) ?_
    obtain ⟨q21, hq21, hf⟩ := ds_ob hf
    refine ds_calll (wr := []) (va_runV (As := []) (rest := [.long (ds_lshl p1 p2)]) ⟨hx, hb, hml, hown, hts⟩ (c_X6_all l dC dI ca sa h_o s.heap.size o_wide o_high o_hex o_ones o_twos  q21 hq21) (cwV 0 hts (ds_gV kw_65 kw_66 kw_67 kw_59 kw_68) rfl rfl rfl (by decide +kernel) ⟨Nat.le_of_ble_eq_true rfl, Nat.le_of_ble_eq_true rfl⟩) ⟨ds_blind, va_recv hK hP (ci := 5) (q0 := 0) rfl rfl, ds_at hP hD hK hE hS hA [0] rfl rfl _⟩ rfl rfl hl.1 rfl (lv_room (Nat.le_of_ble_eq_true rfl)) dX6_rolledAlong_21 ⟨Nat.zero_le _, Nat.zero_le _⟩) hP hD hS hA [0] [] rfl rfl rfl (by decide) (fun H locs hP hD hS => ?_)
    have hP : va_P (dC, dI) vwCl [(h_o, .inr (5, [.int o_wide, .int o_high, .int o_hex, .long o_ones, .long o_twos]))] H := hP
    have hD : va_D A [(h_o, .inr (5, [.int o_wide, .int o_high, .int o_hex, .long o_ones, .long o_twos]))] := hD
    refine lv_land hx hb dX6_rolledAlong_24 ?_
    refine lv_lload hx hb dX6_rolledAlong_25 (lv_at hl 0 rfl) ?_
    refine lv_ldc2 (own := RX6) (v := -1) hx hb hown (hg kw_64) dX6_rolledAlong_27 ?_
    refine lv_lxor hx hb dX6_rolledAlong_30 ?_
    refine lv_land hx hb dX6_rolledAlong_31 ?_
    refine lv_lload_n hx hb dX6_rolledAlong_32 rfl (lv_at hl 2 rfl) ?_
    refine lv_aload_n hx hb dX6_rolledAlong_33 rfl (lv_at hl 1 rfl) ?_
    refine va_get (D := (dC, dI)) (ci := 5) (v := .int o_wide) (C := RX6) (T := TX6) (N := 5) hx hb hts (fun w h => List.mem_cons_of_mem _ (kc_X6 w h)) hown hK hP 0 rfl rfl 0 (by decide) (hg kw_48) (fun _ h9 => h9) rfl dX6_rolledAlong_34 ?_
    refine lv_iload_n hx hb dX6_rolledAlong_37 rfl (lv_at hl 3 rfl) ?_
    refine lv_isub hx hb dX6_rolledAlong_38 ?_
    refine lv_lushr (v := (ds_lushr p1 (o_wide - p2))) hx hb dX6_rolledAlong_39 rfl ?_
    refine lv_lload hx hb dX6_rolledAlong_40 (lv_at hl 0 rfl) ?_
    refine lv_land hx hb dX6_rolledAlong_42 ?_
    refine lv_lor hx hb dX6_rolledAlong_43 ?_
    have hf := Option.some.inj hf
    subst hf
    rw [eG0] at hG
    have hG : _ = res := hG
    subst hG
    exact W.lret (v := ((((ds_lshl p1 p2) &&& q21) &&& (x15 ^^^ (-1 : Int64))) ||| ((ds_lushr p1 (o_wide - p2)) &&& x15))) hx hb hr (fun t ht hW => ⟨⟨((((ds_lshl p1 p2) &&& q21) &&& (x15 ^^^ (-1 : Int64))) ||| ((ds_lushr p1 (o_wide - p2)) &&& x15)), (), rfl, rfl, by rw [ht]; exact hP, hD⟩, hS.F ht⟩) hS.2.2 dX6_rolledAlong_44
  · replace hf := ds_t c_1 hf
    refine lv_lload_n hx hb dX6_rolledAlong_4 rfl (lv_at hl 1 rfl) ?_
    have hf := Option.some.inj hf
    subst hf
    rw [eG0] at hG
    have hG : _ = res := hG
    subst hG
    exact W.lret (v := p1) hx hb hr (fun t ht hW => ⟨⟨p1, (), rfl, rfl, by rw [ht]; exact hP, hD⟩, hS.F ht⟩) hS.2.2 dX6_rolledAlong_5
theorem dX6_rolled_0 : decode cX6_rolled 0 = .ok (.aload_n 0, 1) := by decide +kernel
theorem dX6_rolled_1 : decode cX6_rolled 1 = .ok (.aload_n 0, 1) := by decide +kernel
theorem dX6_rolled_2 : decode cX6_rolled 2 = .ok (.lload_n 1, 1) := by decide +kernel
theorem dX6_rolled_3 : decode cX6_rolled 3 = .ok (.iload 4, 2) := by decide +kernel
theorem dX6_rolled_5 : decode cX6_rolled 5 = .ok (.aload_n 0, 1) := by decide +kernel
theorem dX6_rolled_6 : decode cX6_rolled 6 = .ok (.getfield 15, 3) := by decide +kernel
theorem dX6_rolled_9 : decode cX6_rolled 9 = .ok (.invokestatic 37, 3) := by decide +kernel
theorem dX6_rolled_12 : decode cX6_rolled 12 = .ok (.invokevirtual 62, 3) := by decide +kernel
theorem dX6_rolled_15 : decode cX6_rolled 15 = .ok (.iload_n 3, 1) := by decide +kernel
theorem dX6_rolled_16 : decode cX6_rolled 16 = .ok (.aload_n 0, 1) := by decide +kernel
theorem dX6_rolled_17 : decode cX6_rolled 17 = .ok (.getfield 9, 3) := by decide +kernel
theorem dX6_rolled_20 : decode cX6_rolled 20 = .ok (.invokestatic 37, 3) := by decide +kernel
theorem dX6_rolled_23 : decode cX6_rolled 23 = .ok (.invokevirtual 66, 3) := by decide +kernel
theorem dX6_rolled_26 : decode cX6_rolled 26 = .ok (.lreturn, 1) := by decide +kernel
def fX6_rolled (o_wide : Int32) (o_high : Int32) (p1 : Int64) (p2 : Int32) (p3 : Int32) : Option (Int64) :=
  Option.bind (fX7_rest p3 o_high) fun q9 => Option.bind (fX6_rolledDown o_wide o_high p1 q9) fun q12 => Option.bind (fX7_rest p2 o_wide) fun q20 => Option.bind (fX6_rolledAlong o_wide o_high q12 q20) fun q23 => some q23
set_option maxHeartbeats 4000000 in
set_option maxRecDepth 100000 in
theorem c_X6_rolled (l : Launch) (dC : Nat → ClassId) (dI : Nat → Nat → Nat) (ca : Nat → ClassId) (sa : Nat → Nat) (h_o : Nat) (sz : Nat) (o_wide : Int32) (o_high : Int32) (o_hex : Int32) (o_ones : Int64) (o_twos : Int64) (p1 : Int64) (p2 : Int32) (p3 : Int32) (res : Int64) (hf : fX6_rolled o_wide o_high p1 p2 p3 = some res) : Met l yX6_rolled (Cond.code yX6_rolled cX6_rolled 5 (some .long) :: ds_gw) { frames := 2, cells := 0, slots := 0, locals := 49 } (va_Pc [.ref h_o, .long p1, .int p2, .int p3] (ds_Pre dC dI ca sa [(h_o, .inr (5, [.int o_wide, .int o_high, .int o_hex, .long o_ones, .long o_twos]))] sz)) (va_Ql (fun r (_ : Unit) => r = res) (ds_B dC dI (va_A [(h_o, .inr (5, [.int o_wide, .int o_high, .int o_hex, .long o_ones, .long o_twos]))] sz) [(h_o, .inr (5, [.int o_wide, .int o_high, .int o_hex, .long o_ones, .long o_twos]))]) (va_A [(h_o, .inr (5, [.int o_wide, .int o_high, .int o_hex, .long o_ones, .long o_twos]))] sz)) 0 0 (va_A [(h_o, .inr (5, [.int o_wide, .int o_high, .int o_hex, .long o_ones, .long o_twos]))] sz) := by
  refine Met.ofW (cc := cX6_rolled) (maxL := 5) (ret := (some .long)) (by decide) rfl ?_
  intro p e s m args below meth c s₁ B hml hv
  obtain ⟨rfl, hsz, hP, hK, hD0, hE⟩ := hv
  have hx := B.exec
  have hb := B.bytes
  have hr := B.returns
  have hts := atoms_spec (ws := Cond.code yX6_rolled cX6_rolled 5 (some .long) :: ds_gw) B.pre
  have hg : ∀ {w : Cond}, w ∈ ds_gw → w.before _ s = true := fun h => hts _ (List.mem_cons_of_mem _ h)
  have hown : s.vm.findClass RX6 = some m.cls := findClass_of_methodNamed B.named
  have hlocks := B.notSynchronized
  subst hsz
  have hD := hD0.self (sz := s.heap.size)
  generalize hAe : va_A [(h_o, .inr (5, [.int o_wide, .int o_high, .int o_hex, .long o_ones, .long o_twos]))] s.heap.size = A at hD hE ⊢
  have hA : ∀ q : Nat, s.heap.size ≤ q → A q := fun q h => by rw [← hAe]; exact Or.inr h
  have hS : va_S A s.heap s.heap [] := va_S.rf
  have hl := lv_entry ([.ref h_o, .long p1, .int p2, .int p3]) (n := 5) (Nat.le_of_ble_eq_true rfl)
  rw [lg_entry_eq]
  generalize (lg_sl ([.ref h_o, .long p1, .int p2, .int p3]) ++ List.replicate (5 - (lg_sl ([.ref h_o, .long p1, .int p2, .int p3])).length) Slot.unset).toArray = ls at hl ⊢
  have hl : lv_has ls 5 [(0, .ref h_o), (1, .long p1), (3, .int p2), (4, .int p3)] := hl
  obtain ⟨G0, eG0⟩ : ∃ G : Int64 → Prop, G = (fun r => r = res) := ⟨_, rfl⟩
  obtain ⟨rr, hrr⟩ : ∃ z, z = res := ⟨_, rfl⟩
  rw [← hrr] at hf
  have hG : G0 rr := by subst eG0; exact hrr
  unfold fX6_rolled at hf
  refine lv_aload_n hx hb dX6_rolled_0 rfl (lv_at hl 0 rfl) ?_
  refine lv_aload_n hx hb dX6_rolled_1 rfl (lv_at hl 0 rfl) ?_
  refine lv_lload_n hx hb dX6_rolled_2 rfl (lv_at hl 1 rfl) ?_
  refine lv_iload hx hb dX6_rolled_3 (lv_at hl 3 rfl) ?_
  refine lv_aload_n hx hb dX6_rolled_5 rfl (lv_at hl 0 rfl) ?_
  refine va_get (D := (dC, dI)) (ci := 5) (v := .int o_high) (C := RX6) (T := TX6) (N := 5) hx hb hts (fun w h => List.mem_cons_of_mem _ (kc_X6 w h)) hown hK hP 0 rfl rfl 1 (by decide) (hg kw_54) (fun _ h9 => h9) rfl dX6_rolled_6 ?_
  obtain ⟨q9, hq9, hf⟩ := ds_ob hf
  refine ds_calli (wr := [(h_o, .inr (5, [.int o_wide, .int o_high, .int o_hex, .long o_ones, .long o_twos]))]) (va_runSN (As := [.int p3, .int o_high]) (rest := [.long p1, .ref h_o, .ref h_o]) ⟨hx, hb, hml, hown, hts⟩ (c_X7_rest l dC dI ca sa  s.heap.size  p3 o_high q9 hq9) ⟨va_cnB 2 hts (ds_gN kw_70) rfl rfl rfl (hE.1 _ kw_69) (hg kw_71) (by decide +kernel) ⟨Nat.le_of_ble_eq_true rfl, Nat.le_of_ble_eq_true rfl⟩, hg kw_72, trivial⟩ ⟨ds_blind, ds_at hP hD hK hE hS hA [] rfl rfl _⟩ rfl rfl hl.1 rfl (lv_room (Nat.le_of_ble_eq_true rfl)) dX6_rolled_9 ⟨Nat.zero_le _, Nat.zero_le _⟩) hP hD hS hA [] [0] rfl rfl rfl (by decide) (fun H locs hP hD hS => ?_)
  have hP : va_P (dC, dI) vwCl [(h_o, .inr (5, [.int o_wide, .int o_high, .int o_hex, .long o_ones, .long o_twos]))] H := hP
  have hD : va_D A [(h_o, .inr (5, [.int o_wide, .int o_high, .int o_hex, .long o_ones, .long o_twos]))] := hD
  obtain ⟨q12, hq12, hf⟩ := ds_ob hf
  refine ds_calll (wr := []) (va_runV (As := [.long p1, .int q9]) (rest := [.ref h_o]) ⟨hx, hb, hml, hown, hts⟩ (c_X6_rolledDown l dC dI ca sa h_o H.size o_wide o_high o_hex o_ones o_twos p1 q9 q12 hq12) (cwV 2 hts (ds_gV kw_73 kw_74 kw_75 kw_59 kw_76) rfl rfl rfl (by decide +kernel) ⟨Nat.le_of_ble_eq_true rfl, Nat.le_of_ble_eq_true rfl⟩) ⟨ds_blind, va_recv hK hP (ci := 5) (q0 := 0) rfl rfl, ds_at hP hD hK hE hS hA [0] rfl rfl _⟩ rfl rfl hl.1 rfl (lv_room (Nat.le_of_ble_eq_true rfl)) dX6_rolled_12 ⟨Nat.zero_le _, Nat.zero_le _⟩) hP hD hS hA [0] [] rfl rfl rfl (by decide) (fun H locs hP hD hS => ?_)
  have hP : va_P (dC, dI) vwCl [(h_o, .inr (5, [.int o_wide, .int o_high, .int o_hex, .long o_ones, .long o_twos]))] H := hP
  have hD : va_D A [(h_o, .inr (5, [.int o_wide, .int o_high, .int o_hex, .long o_ones, .long o_twos]))] := hD
  refine lv_iload_n hx hb dX6_rolled_15 rfl (lv_at hl 2 rfl) ?_
  refine lv_aload_n hx hb dX6_rolled_16 rfl (lv_at hl 0 rfl) ?_
  refine va_get (D := (dC, dI)) (ci := 5) (v := .int o_wide) (C := RX6) (T := TX6) (N := 5) hx hb hts (fun w h => List.mem_cons_of_mem _ (kc_X6 w h)) hown hK hP 0 rfl rfl 0 (by decide) (hg kw_48) (fun _ h9 => h9) rfl dX6_rolled_17 ?_
  obtain ⟨q20, hq20, hf⟩ := ds_ob hf
  refine ds_calli (wr := [(h_o, .inr (5, [.int o_wide, .int o_high, .int o_hex, .long o_ones, .long o_twos]))]) (va_runSN (As := [.int p2, .int o_wide]) (rest := [.long q12, .ref h_o]) ⟨hx, hb, hml, hown, hts⟩ (c_X7_rest l dC dI ca sa  H.size  p2 o_wide q20 hq20) ⟨va_cnB 2 hts (ds_gN kw_70) rfl rfl rfl (hE.1 _ kw_69) (hg kw_71) (by decide +kernel) ⟨Nat.le_of_ble_eq_true rfl, Nat.le_of_ble_eq_true rfl⟩, hg kw_72, trivial⟩ ⟨ds_blind, ds_at hP hD hK hE hS hA [] rfl rfl _⟩ rfl rfl hl.1 rfl (lv_room (Nat.le_of_ble_eq_true rfl)) dX6_rolled_20 ⟨Nat.zero_le _, Nat.zero_le _⟩) hP hD hS hA [] [0] rfl rfl rfl (by decide) (fun H locs hP hD hS => ?_)
  have hP : va_P (dC, dI) vwCl [(h_o, .inr (5, [.int o_wide, .int o_high, .int o_hex, .long o_ones, .long o_twos]))] H := hP
  have hD : va_D A [(h_o, .inr (5, [.int o_wide, .int o_high, .int o_hex, .long o_ones, .long o_twos]))] := hD
  obtain ⟨q23, hq23, hf⟩ := ds_ob hf
  refine ds_calll (wr := []) (va_runV (As := [.long q12, .int q20]) (rest := []) ⟨hx, hb, hml, hown, hts⟩ (c_X6_rolledAlong l dC dI ca sa h_o H.size o_wide o_high o_hex o_ones o_twos q12 q20 q23 hq23) (cwV 2 hts (ds_gV kw_77 kw_78 kw_79 kw_59 kw_80) rfl rfl rfl (by decide +kernel) ⟨Nat.le_of_ble_eq_true rfl, Nat.le_of_ble_eq_true rfl⟩) ⟨ds_blind, va_recv hK hP (ci := 5) (q0 := 0) rfl rfl, ds_at hP hD hK hE hS hA [0] rfl rfl _⟩ rfl rfl hl.1 rfl (lv_room (Nat.le_of_ble_eq_true rfl)) dX6_rolled_23 ⟨Nat.zero_le _, Nat.zero_le _⟩) hP hD hS hA [0] [] rfl rfl rfl (by decide) (fun H locs hP hD hS => ?_)
  have hP : va_P (dC, dI) vwCl [(h_o, .inr (5, [.int o_wide, .int o_high, .int o_hex, .long o_ones, .long o_twos]))] H := hP
  have hD : va_D A [(h_o, .inr (5, [.int o_wide, .int o_high, .int o_hex, .long o_ones, .long o_twos]))] := hD
  have hf := Option.some.inj hf
  subst hf
  rw [eG0] at hG
  have hG : _ = res := hG
  subst hG
  exact W.lret (v := q23) hx hb hr (fun t ht hW => ⟨⟨q23, (), rfl, rfl, by rw [ht]; exact hP, hD⟩, hS.F ht⟩) hS.2.2 dX6_rolled_26
theorem dX6_comesAgainBy_0 : decode cX6_comesAgainBy 0 = .ok (.aload_n 0, 1) := by decide +kernel
theorem dX6_comesAgainBy_1 : decode cX6_comesAgainBy 1 = .ok (.aload_n 0, 1) := by decide +kernel
theorem dX6_comesAgainBy_2 : decode cX6_comesAgainBy 2 = .ok (.getfield 22, 3) := by decide +kernel
theorem dX6_comesAgainBy_5 : decode cX6_comesAgainBy 5 = .ok (.iload_n 1, 1) := by decide +kernel
theorem dX6_comesAgainBy_6 : decode cX6_comesAgainBy 6 = .ok (.iload_n 2, 1) := by decide +kernel
theorem dX6_comesAgainBy_7 : decode cX6_comesAgainBy 7 = .ok (.invokevirtual 69, 3) := by decide +kernel
theorem dX6_comesAgainBy_10 : decode cX6_comesAgainBy 10 = .ok (.aload_n 0, 1) := by decide +kernel
theorem dX6_comesAgainBy_11 : decode cX6_comesAgainBy 11 = .ok (.getfield 22, 3) := by decide +kernel
theorem dX6_comesAgainBy_14 : decode cX6_comesAgainBy 14 = .ok (.lcmp, 1) := by decide +kernel
theorem dX6_comesAgainBy_15 : decode cX6_comesAgainBy 15 = .ok (.ifCond .ne 25, 3) := by decide +kernel
theorem dX6_comesAgainBy_18 : decode cX6_comesAgainBy 18 = .ok (.aload_n 0, 1) := by decide +kernel
theorem dX6_comesAgainBy_19 : decode cX6_comesAgainBy 19 = .ok (.aload_n 0, 1) := by decide +kernel
theorem dX6_comesAgainBy_20 : decode cX6_comesAgainBy 20 = .ok (.getfield 26, 3) := by decide +kernel
theorem dX6_comesAgainBy_23 : decode cX6_comesAgainBy 23 = .ok (.iload_n 1, 1) := by decide +kernel
theorem dX6_comesAgainBy_24 : decode cX6_comesAgainBy 24 = .ok (.iload_n 2, 1) := by decide +kernel
theorem dX6_comesAgainBy_25 : decode cX6_comesAgainBy 25 = .ok (.invokevirtual 69, 3) := by decide +kernel
theorem dX6_comesAgainBy_28 : decode cX6_comesAgainBy 28 = .ok (.aload_n 0, 1) := by decide +kernel
theorem dX6_comesAgainBy_29 : decode cX6_comesAgainBy 29 = .ok (.getfield 26, 3) := by decide +kernel
theorem dX6_comesAgainBy_32 : decode cX6_comesAgainBy 32 = .ok (.lcmp, 1) := by decide +kernel
theorem dX6_comesAgainBy_33 : decode cX6_comesAgainBy 33 = .ok (.ifCond .ne 7, 3) := by decide +kernel
theorem dX6_comesAgainBy_36 : decode cX6_comesAgainBy 36 = .ok (.iconst 1, 1) := by decide +kernel
theorem dX6_comesAgainBy_37 : decode cX6_comesAgainBy 37 = .ok (.goto 4, 3) := by decide +kernel
theorem dX6_comesAgainBy_40 : decode cX6_comesAgainBy 40 = .ok (.iconst 0, 1) := by decide +kernel
theorem dX6_comesAgainBy_41 : decode cX6_comesAgainBy 41 = .ok (.ireturn, 1) := by decide +kernel
def fX6_comesAgainBy (o_wide : Int32) (o_high : Int32) (o_ones : Int64) (o_twos : Int64) (p1 : Int32) (p2 : Int32) : Option (Int32) :=
  Option.bind (fX6_rolled o_wide o_high o_ones p1 p2) fun q7 => if (lg_cmp q7 o_ones) = 0 then Option.bind (fX6_rolled o_wide o_high o_twos p1 p2) fun q25 => if (lg_cmp q25 o_twos) = 0 then some (1 : Int32) else some (0 : Int32) else some (0 : Int32)
set_option maxHeartbeats 4000000 in
set_option maxRecDepth 100000 in
theorem c_X6_comesAgainBy (l : Launch) (dC : Nat → ClassId) (dI : Nat → Nat → Nat) (ca : Nat → ClassId) (sa : Nat → Nat) (h_o : Nat) (sz : Nat) (o_wide : Int32) (o_high : Int32) (o_hex : Int32) (o_ones : Int64) (o_twos : Int64) (p1 : Int32) (p2 : Int32) (res : Int32) (hf : fX6_comesAgainBy o_wide o_high o_ones o_twos p1 p2 = some res) : Met l yX6_comesAgainBy (Cond.code yX6_comesAgainBy cX6_comesAgainBy 3 (some .boolean) :: ds_gw) { frames := 3, cells := 0, slots := 0, locals := 73 } (va_Pc [.ref h_o, .int p1, .int p2] (ds_Pre dC dI ca sa [(h_o, .inr (5, [.int o_wide, .int o_high, .int o_hex, .long o_ones, .long o_twos]))] sz)) (va_Qi (fun r (_ : Unit) => r = res) (ds_B dC dI (va_A [(h_o, .inr (5, [.int o_wide, .int o_high, .int o_hex, .long o_ones, .long o_twos]))] sz) [(h_o, .inr (5, [.int o_wide, .int o_high, .int o_hex, .long o_ones, .long o_twos]))]) (va_A [(h_o, .inr (5, [.int o_wide, .int o_high, .int o_hex, .long o_ones, .long o_twos]))] sz)) 0 0 (va_A [(h_o, .inr (5, [.int o_wide, .int o_high, .int o_hex, .long o_ones, .long o_twos]))] sz) := by
  refine Met.ofW (cc := cX6_comesAgainBy) (maxL := 3) (ret := (some .boolean)) (by decide) rfl ?_
  intro p e s m args below meth c s₁ B hml hv
  obtain ⟨rfl, hsz, hP, hK, hD0, hE⟩ := hv
  have hx := B.exec
  have hb := B.bytes
  have hr := B.returns
  have hts := atoms_spec (ws := Cond.code yX6_comesAgainBy cX6_comesAgainBy 3 (some .boolean) :: ds_gw) B.pre
  have hg : ∀ {w : Cond}, w ∈ ds_gw → w.before _ s = true := fun h => hts _ (List.mem_cons_of_mem _ h)
  have hown : s.vm.findClass RX6 = some m.cls := findClass_of_methodNamed B.named
  have hlocks := B.notSynchronized
  subst hsz
  have hD := hD0.self (sz := s.heap.size)
  generalize hAe : va_A [(h_o, .inr (5, [.int o_wide, .int o_high, .int o_hex, .long o_ones, .long o_twos]))] s.heap.size = A at hD hE ⊢
  have hA : ∀ q : Nat, s.heap.size ≤ q → A q := fun q h => by rw [← hAe]; exact Or.inr h
  have hS : va_S A s.heap s.heap [] := va_S.rf
  have hl := lv_entry ([.ref h_o, .int p1, .int p2]) (n := 3) (Nat.le_of_ble_eq_true rfl)
  rw [lg_entry_eq]
  generalize (lg_sl ([.ref h_o, .int p1, .int p2]) ++ List.replicate (3 - (lg_sl ([.ref h_o, .int p1, .int p2])).length) Slot.unset).toArray = ls at hl ⊢
  have hl : lv_has ls 3 [(0, .ref h_o), (1, .int p1), (2, .int p2)] := hl
  obtain ⟨G0, eG0⟩ : ∃ G : Int32 → Prop, G = (fun r => r = res) := ⟨_, rfl⟩
  obtain ⟨rr, hrr⟩ : ∃ z, z = res := ⟨_, rfl⟩
  rw [← hrr] at hf
  have hG : G0 rr := by subst eG0; exact hrr
  unfold fX6_comesAgainBy at hf
  refine lv_aload_n hx hb dX6_comesAgainBy_0 rfl (lv_at hl 0 rfl) ?_
  refine lv_aload_n hx hb dX6_comesAgainBy_1 rfl (lv_at hl 0 rfl) ?_
  refine va_get (D := (dC, dI)) (ci := 5) (v := .long o_ones) (C := RX6) (T := TX6) (N := 5) hx hb hts (fun w h => List.mem_cons_of_mem _ (kc_X6 w h)) hown hK hP 0 rfl rfl 3 (by decide) (hg kw_61) (fun _ h9 => h9) rfl dX6_comesAgainBy_2 ?_
  refine lv_iload_n hx hb dX6_comesAgainBy_5 rfl (lv_at hl 1 rfl) ?_
  refine lv_iload_n hx hb dX6_comesAgainBy_6 rfl (lv_at hl 2 rfl) ?_
  obtain ⟨q7, hq7, hf⟩ := ds_ob hf
  refine ds_calll (wr := []) (va_runV (As := [.long o_ones, .int p1, .int p2]) (rest := []) ⟨hx, hb, hml, hown, hts⟩ (c_X6_rolled l dC dI ca sa h_o s.heap.size o_wide o_high o_hex o_ones o_twos o_ones p1 p2 q7 hq7) (cwV 3 hts (ds_gV kw_81 kw_82 kw_83 kw_59 kw_84) rfl rfl rfl (by decide +kernel) ⟨Nat.le_of_ble_eq_true rfl, Nat.le_of_ble_eq_true rfl⟩) ⟨ds_blind, va_recv hK hP (ci := 5) (q0 := 0) rfl rfl, ds_at hP hD hK hE hS hA [0] rfl rfl _⟩ rfl rfl hl.1 rfl (lv_room (Nat.le_of_ble_eq_true rfl)) dX6_comesAgainBy_7 ⟨Nat.zero_le _, Nat.zero_le _⟩) hP hD hS hA [0] [] rfl rfl rfl (by decide) (fun H locs hP hD hS => ?_)
  have hP : va_P (dC, dI) vwCl [(h_o, .inr (5, [.int o_wide, .int o_high, .int o_hex, .long o_ones, .long o_twos]))] H := hP
  have hD : va_D A [(h_o, .inr (5, [.int o_wide, .int o_high, .int o_hex, .long o_ones, .long o_twos]))] := hD
  refine lv_aload_n hx hb dX6_comesAgainBy_10 rfl (lv_at hl 0 rfl) ?_
  refine va_get (D := (dC, dI)) (ci := 5) (v := .long o_ones) (C := RX6) (T := TX6) (N := 5) hx hb hts (fun w h => List.mem_cons_of_mem _ (kc_X6 w h)) hown hK hP 0 rfl rfl 3 (by decide) (hg kw_61) (fun _ h9 => h9) rfl dX6_comesAgainBy_11 ?_
  refine W.lcmp hx hb dX6_comesAgainBy_14 ?_
  refine lv_if_ne (tgt := 40) hx hb dX6_comesAgainBy_15 (by decide) (fun c_15 => ?_) (fun c_15 => ?_)
  · replace hf := ds_f c_15 hf
    refine lv_iconst (v := 0) hx hb dX6_comesAgainBy_40 (by decide) ?_
    have hf := Option.some.inj hf
    subst hf
    rw [eG0] at hG
    have hG : _ = res := hG
    subst hG
    exact W.zret (v := (0 : Int32)) (ty := .boolean) hx hb hr rfl (fun t ht hW => ⟨⟨(0 : Int32), (), rfl, rfl, by rw [ht]; exact hP, hD⟩, hS.F ht⟩) hS.2.2 dX6_comesAgainBy_41
  · replace hf := ds_t c_15 hf
    refine lv_aload_n hx hb dX6_comesAgainBy_18 rfl (lv_at hl 0 rfl) ?_
    refine lv_aload_n hx hb dX6_comesAgainBy_19 rfl (lv_at hl 0 rfl) ?_
    refine va_get (D := (dC, dI)) (ci := 5) (v := .long o_twos) (C := RX6) (T := TX6) (N := 5) hx hb hts (fun w h => List.mem_cons_of_mem _ (kc_X6 w h)) hown hK hP 0 rfl rfl 4 (by decide) (hg kw_62) (fun _ h9 => h9) rfl dX6_comesAgainBy_20 ?_
    refine lv_iload_n hx hb dX6_comesAgainBy_23 rfl (lv_at hl 1 rfl) ?_
    refine lv_iload_n hx hb dX6_comesAgainBy_24 rfl (lv_at hl 2 rfl) ?_
    obtain ⟨q25, hq25, hf⟩ := ds_ob hf
    refine ds_calll (wr := []) (va_runV (As := [.long o_twos, .int p1, .int p2]) (rest := []) ⟨hx, hb, hml, hown, hts⟩ (c_X6_rolled l dC dI ca sa h_o H.size o_wide o_high o_hex o_ones o_twos o_twos p1 p2 q25 hq25) (cwV 3 hts (ds_gV kw_81 kw_82 kw_83 kw_59 kw_84) rfl rfl rfl (by decide +kernel) ⟨Nat.le_of_ble_eq_true rfl, Nat.le_of_ble_eq_true rfl⟩) ⟨ds_blind, va_recv hK hP (ci := 5) (q0 := 0) rfl rfl, ds_at hP hD hK hE hS hA [0] rfl rfl _⟩ rfl rfl hl.1 rfl (lv_room (Nat.le_of_ble_eq_true rfl)) dX6_comesAgainBy_25 ⟨Nat.zero_le _, Nat.zero_le _⟩) hP hD hS hA [0] [] rfl rfl rfl (by decide) (fun H locs hP hD hS => ?_)
    have hP : va_P (dC, dI) vwCl [(h_o, .inr (5, [.int o_wide, .int o_high, .int o_hex, .long o_ones, .long o_twos]))] H := hP
    have hD : va_D A [(h_o, .inr (5, [.int o_wide, .int o_high, .int o_hex, .long o_ones, .long o_twos]))] := hD
    refine lv_aload_n hx hb dX6_comesAgainBy_28 rfl (lv_at hl 0 rfl) ?_
    refine va_get (D := (dC, dI)) (ci := 5) (v := .long o_twos) (C := RX6) (T := TX6) (N := 5) hx hb hts (fun w h => List.mem_cons_of_mem _ (kc_X6 w h)) hown hK hP 0 rfl rfl 4 (by decide) (hg kw_62) (fun _ h9 => h9) rfl dX6_comesAgainBy_29 ?_
    refine W.lcmp hx hb dX6_comesAgainBy_32 ?_
    refine lv_if_ne (tgt := 40) hx hb dX6_comesAgainBy_33 (by decide) (fun c_33 => ?_) (fun c_33 => ?_)
    · replace hf := ds_f c_33 hf
      refine lv_iconst (v := 0) hx hb dX6_comesAgainBy_40 (by decide) ?_
      have hf := Option.some.inj hf
      subst hf
      rw [eG0] at hG
      have hG : _ = res := hG
      subst hG
      exact W.zret (v := (0 : Int32)) (ty := .boolean) hx hb hr rfl (fun t ht hW => ⟨⟨(0 : Int32), (), rfl, rfl, by rw [ht]; exact hP, hD⟩, hS.F ht⟩) hS.2.2 dX6_comesAgainBy_41
    · replace hf := ds_t c_33 hf
      refine lv_iconst (v := 1) hx hb dX6_comesAgainBy_36 (by decide) ?_
      refine lv_goto (tgt := 41) hx hb dX6_comesAgainBy_37 (by decide) ?_
      have hf := Option.some.inj hf
      subst hf
      rw [eG0] at hG
      have hG : _ = res := hG
      subst hG
      exact W.zret (v := (1 : Int32)) (ty := .boolean) hx hb hr rfl (fun t ht hW => ⟨⟨(1 : Int32), (), rfl, rfl, by rw [ht]; exact hP, hD⟩, hS.F ht⟩) hS.2.2 dX6_comesAgainBy_41
theorem dX6_turnFrom_0 : decode cX6_turnFrom 0 = .ok (.aload_n 0, 1) := by decide +kernel
theorem dX6_turnFrom_1 : decode cX6_turnFrom 1 = .ok (.aload_n 1, 1) := by decide +kernel
theorem dX6_turnFrom_2 : decode cX6_turnFrom 2 = .ok (.getfield 9, 3) := by decide +kernel
theorem dX6_turnFrom_5 : decode cX6_turnFrom 5 = .ok (.aload_n 1, 1) := by decide +kernel
theorem dX6_turnFrom_6 : decode cX6_turnFrom 6 = .ok (.getfield 15, 3) := by decide +kernel
theorem dX6_turnFrom_9 : decode cX6_turnFrom 9 = .ok (.aload_n 1, 1) := by decide +kernel
theorem dX6_turnFrom_10 : decode cX6_turnFrom 10 = .ok (.getfield 18, 3) := by decide +kernel
theorem dX6_turnFrom_13 : decode cX6_turnFrom 13 = .ok (.invokevirtual 77, 3) := by decide +kernel
theorem dX6_turnFrom_16 : decode cX6_turnFrom 16 = .ok (.iload_n 2, 1) := by decide +kernel
theorem dX6_turnFrom_17 : decode cX6_turnFrom 17 = .ok (.iload_n 3, 1) := by decide +kernel
theorem dX6_turnFrom_18 : decode cX6_turnFrom 18 = .ok (.invokestatic 81, 3) := by decide +kernel
theorem dX6_turnFrom_21 : decode cX6_turnFrom 21 = .ok (.istore 4, 2) := by decide +kernel
theorem dX6_turnFrom_23 : decode cX6_turnFrom 23 = .ok (.iload_n 2, 1) := by decide +kernel
theorem dX6_turnFrom_24 : decode cX6_turnFrom 24 = .ok (.iload 4, 2) := by decide +kernel
theorem dX6_turnFrom_26 : decode cX6_turnFrom 26 = .ok (.iconst 1, 1) := by decide +kernel
theorem dX6_turnFrom_27 : decode cX6_turnFrom 27 = .ok (.iconst 0, 1) := by decide +kernel
theorem dX6_turnFrom_28 : decode cX6_turnFrom 28 = .ok (.invokestatic 87, 3) := by decide +kernel
theorem dX6_turnFrom_31 : decode cX6_turnFrom 31 = .ok (.istore 5, 2) := by decide +kernel
theorem dX6_turnFrom_33 : decode cX6_turnFrom 33 = .ok (.iload_n 2, 1) := by decide +kernel
theorem dX6_turnFrom_34 : decode cX6_turnFrom 34 = .ok (.iload 4, 2) := by decide +kernel
theorem dX6_turnFrom_36 : decode cX6_turnFrom 36 = .ok (.iconst 1, 1) := by decide +kernel
theorem dX6_turnFrom_37 : decode cX6_turnFrom 37 = .ok (.iconst 0, 1) := by decide +kernel
theorem dX6_turnFrom_38 : decode cX6_turnFrom 38 = .ok (.invokestatic 91, 3) := by decide +kernel
theorem dX6_turnFrom_41 : decode cX6_turnFrom 41 = .ok (.istore 6, 2) := by decide +kernel
theorem dX6_turnFrom_43 : decode cX6_turnFrom 43 = .ok (.iload_n 2, 1) := by decide +kernel
theorem dX6_turnFrom_44 : decode cX6_turnFrom 44 = .ok (.iload 4, 2) := by decide +kernel
theorem dX6_turnFrom_46 : decode cX6_turnFrom 46 = .ok (.iconst 0, 1) := by decide +kernel
theorem dX6_turnFrom_47 : decode cX6_turnFrom 47 = .ok (.iconst 1, 1) := by decide +kernel
theorem dX6_turnFrom_48 : decode cX6_turnFrom 48 = .ok (.invokestatic 87, 3) := by decide +kernel
theorem dX6_turnFrom_51 : decode cX6_turnFrom 51 = .ok (.istore 7, 2) := by decide +kernel
theorem dX6_turnFrom_53 : decode cX6_turnFrom 53 = .ok (.iload_n 2, 1) := by decide +kernel
theorem dX6_turnFrom_54 : decode cX6_turnFrom 54 = .ok (.iload 4, 2) := by decide +kernel
theorem dX6_turnFrom_56 : decode cX6_turnFrom 56 = .ok (.iconst 0, 1) := by decide +kernel
theorem dX6_turnFrom_57 : decode cX6_turnFrom 57 = .ok (.iconst 1, 1) := by decide +kernel
theorem dX6_turnFrom_58 : decode cX6_turnFrom 58 = .ok (.invokestatic 91, 3) := by decide +kernel
theorem dX6_turnFrom_61 : decode cX6_turnFrom 61 = .ok (.istore 8, 2) := by decide +kernel
theorem dX6_turnFrom_63 : decode cX6_turnFrom 63 = .ok (.aload_n 1, 1) := by decide +kernel
theorem dX6_turnFrom_64 : decode cX6_turnFrom 64 = .ok (.aload_n 0, 1) := by decide +kernel
theorem dX6_turnFrom_65 : decode cX6_turnFrom 65 = .ok (.getfield 9, 3) := by decide +kernel
theorem dX6_turnFrom_68 : decode cX6_turnFrom 68 = .ok (.iload 5, 2) := by decide +kernel
theorem dX6_turnFrom_70 : decode cX6_turnFrom 70 = .ok (.imul, 1) := by decide +kernel
theorem dX6_turnFrom_71 : decode cX6_turnFrom 71 = .ok (.aload_n 0, 1) := by decide +kernel
theorem dX6_turnFrom_72 : decode cX6_turnFrom 72 = .ok (.getfield 9, 3) := by decide +kernel
theorem dX6_turnFrom_75 : decode cX6_turnFrom 75 = .ok (.iload 6, 2) := by decide +kernel
theorem dX6_turnFrom_77 : decode cX6_turnFrom 77 = .ok (.imul, 1) := by decide +kernel
theorem dX6_turnFrom_78 : decode cX6_turnFrom 78 = .ok (.invokevirtual 73, 3) := by decide +kernel
theorem dX6_turnFrom_81 : decode cX6_turnFrom 81 = .ok (.ifCond .eq 24, 3) := by decide +kernel
theorem dX6_turnFrom_84 : decode cX6_turnFrom 84 = .ok (.aload_n 1, 1) := by decide +kernel
theorem dX6_turnFrom_85 : decode cX6_turnFrom 85 = .ok (.aload_n 0, 1) := by decide +kernel
theorem dX6_turnFrom_86 : decode cX6_turnFrom 86 = .ok (.getfield 15, 3) := by decide +kernel
theorem dX6_turnFrom_89 : decode cX6_turnFrom 89 = .ok (.iload 7, 2) := by decide +kernel
theorem dX6_turnFrom_91 : decode cX6_turnFrom 91 = .ok (.imul, 1) := by decide +kernel
theorem dX6_turnFrom_92 : decode cX6_turnFrom 92 = .ok (.aload_n 0, 1) := by decide +kernel
theorem dX6_turnFrom_93 : decode cX6_turnFrom 93 = .ok (.getfield 15, 3) := by decide +kernel
theorem dX6_turnFrom_96 : decode cX6_turnFrom 96 = .ok (.iload 8, 2) := by decide +kernel
theorem dX6_turnFrom_98 : decode cX6_turnFrom 98 = .ok (.imul, 1) := by decide +kernel
theorem dX6_turnFrom_99 : decode cX6_turnFrom 99 = .ok (.invokevirtual 73, 3) := by decide +kernel
theorem dX6_turnFrom_102 : decode cX6_turnFrom 102 = .ok (.ifCond .ne 5, 3) := by decide +kernel
theorem dX6_turnFrom_105 : decode cX6_turnFrom 105 = .ok (.iconst 0, 1) := by decide +kernel
theorem dX6_turnFrom_106 : decode cX6_turnFrom 106 = .ok (.ireturn, 1) := by decide +kernel
theorem dX6_turnFrom_107 : decode cX6_turnFrom 107 = .ok (.iconst 0, 1) := by decide +kernel
theorem dX6_turnFrom_108 : decode cX6_turnFrom 108 = .ok (.istore 9, 2) := by decide +kernel
theorem dX6_turnFrom_110 : decode cX6_turnFrom 110 = .ok (.iload 9, 2) := by decide +kernel
theorem dX6_turnFrom_112 : decode cX6_turnFrom 112 = .ok (.aload_n 0, 1) := by decide +kernel
theorem dX6_turnFrom_113 : decode cX6_turnFrom 113 = .ok (.getfield 15, 3) := by decide +kernel
theorem dX6_turnFrom_116 : decode cX6_turnFrom 116 = .ok (.if_icmp .ge 121, 3) := by decide +kernel
theorem dX6_turnFrom_119 : decode cX6_turnFrom 119 = .ok (.iconst 0, 1) := by decide +kernel
theorem dX6_turnFrom_120 : decode cX6_turnFrom 120 = .ok (.istore 10, 2) := by decide +kernel
theorem dX6_turnFrom_122 : decode cX6_turnFrom 122 = .ok (.iload 10, 2) := by decide +kernel
theorem dX6_turnFrom_124 : decode cX6_turnFrom 124 = .ok (.aload_n 0, 1) := by decide +kernel
theorem dX6_turnFrom_125 : decode cX6_turnFrom 125 = .ok (.getfield 9, 3) := by decide +kernel
theorem dX6_turnFrom_128 : decode cX6_turnFrom 128 = .ok (.if_icmp .ge 103, 3) := by decide +kernel
theorem dX6_turnFrom_131 : decode cX6_turnFrom 131 = .ok (.bipush 8, 2) := by decide +kernel
theorem dX6_turnFrom_133 : decode cX6_turnFrom 133 = .ok (.iload 10, 2) := by decide +kernel
theorem dX6_turnFrom_135 : decode cX6_turnFrom 135 = .ok (.iload 6, 2) := by decide +kernel
theorem dX6_turnFrom_137 : decode cX6_turnFrom 137 = .ok (.imul, 1) := by decide +kernel
theorem dX6_turnFrom_138 : decode cX6_turnFrom 138 = .ok (.iload 9, 2) := by decide +kernel
theorem dX6_turnFrom_140 : decode cX6_turnFrom 140 = .ok (.iload 8, 2) := by decide +kernel
theorem dX6_turnFrom_142 : decode cX6_turnFrom 142 = .ok (.imul, 1) := by decide +kernel
theorem dX6_turnFrom_143 : decode cX6_turnFrom 143 = .ok (.iadd, 1) := by decide +kernel
theorem dX6_turnFrom_144 : decode cX6_turnFrom 144 = .ok (.aload_n 0, 1) := by decide +kernel
theorem dX6_turnFrom_145 : decode cX6_turnFrom 145 = .ok (.getfield 15, 3) := by decide +kernel
theorem dX6_turnFrom_148 : decode cX6_turnFrom 148 = .ok (.invokestatic 37, 3) := by decide +kernel
theorem dX6_turnFrom_151 : decode cX6_turnFrom 151 = .ok (.imul, 1) := by decide +kernel
theorem dX6_turnFrom_152 : decode cX6_turnFrom 152 = .ok (.iload 10, 2) := by decide +kernel
theorem dX6_turnFrom_154 : decode cX6_turnFrom 154 = .ok (.iload 5, 2) := by decide +kernel
theorem dX6_turnFrom_156 : decode cX6_turnFrom 156 = .ok (.imul, 1) := by decide +kernel
theorem dX6_turnFrom_157 : decode cX6_turnFrom 157 = .ok (.iload 9, 2) := by decide +kernel
theorem dX6_turnFrom_159 : decode cX6_turnFrom 159 = .ok (.iload 7, 2) := by decide +kernel
theorem dX6_turnFrom_161 : decode cX6_turnFrom 161 = .ok (.imul, 1) := by decide +kernel
theorem dX6_turnFrom_162 : decode cX6_turnFrom 162 = .ok (.iadd, 1) := by decide +kernel
theorem dX6_turnFrom_163 : decode cX6_turnFrom 163 = .ok (.aload_n 0, 1) := by decide +kernel
theorem dX6_turnFrom_164 : decode cX6_turnFrom 164 = .ok (.getfield 9, 3) := by decide +kernel
theorem dX6_turnFrom_167 : decode cX6_turnFrom 167 = .ok (.invokestatic 37, 3) := by decide +kernel
theorem dX6_turnFrom_170 : decode cX6_turnFrom 170 = .ok (.iadd, 1) := by decide +kernel
theorem dX6_turnFrom_171 : decode cX6_turnFrom 171 = .ok (.istore 11, 2) := by decide +kernel
theorem dX6_turnFrom_173 : decode cX6_turnFrom 173 = .ok (.bipush 8, 2) := by decide +kernel
theorem dX6_turnFrom_175 : decode cX6_turnFrom 175 = .ok (.iload 9, 2) := by decide +kernel
theorem dX6_turnFrom_177 : decode cX6_turnFrom 177 = .ok (.imul, 1) := by decide +kernel
theorem dX6_turnFrom_178 : decode cX6_turnFrom 178 = .ok (.iload 10, 2) := by decide +kernel
theorem dX6_turnFrom_180 : decode cX6_turnFrom 180 = .ok (.iadd, 1) := by decide +kernel
theorem dX6_turnFrom_181 : decode cX6_turnFrom 181 = .ok (.istore 12, 2) := by decide +kernel
theorem dX6_turnFrom_183 : decode cX6_turnFrom 183 = .ok (.aload_n 0, 1) := by decide +kernel
theorem dX6_turnFrom_184 : decode cX6_turnFrom 184 = .ok (.dup, 1) := by decide +kernel
theorem dX6_turnFrom_185 : decode cX6_turnFrom 185 = .ok (.getfield 22, 3) := by decide +kernel
theorem dX6_turnFrom_188 : decode cX6_turnFrom 188 = .ok (.aload_n 1, 1) := by decide +kernel
theorem dX6_turnFrom_189 : decode cX6_turnFrom 189 = .ok (.getfield 22, 3) := by decide +kernel
theorem dX6_turnFrom_192 : decode cX6_turnFrom 192 = .ok (.iload 11, 2) := by decide +kernel
theorem dX6_turnFrom_194 : decode cX6_turnFrom 194 = .ok (.lushr, 1) := by decide +kernel
theorem dX6_turnFrom_195 : decode cX6_turnFrom 195 = .ok (.lconst 1, 1) := by decide +kernel
theorem dX6_turnFrom_196 : decode cX6_turnFrom 196 = .ok (.land, 1) := by decide +kernel
theorem dX6_turnFrom_197 : decode cX6_turnFrom 197 = .ok (.iload 12, 2) := by decide +kernel
theorem dX6_turnFrom_199 : decode cX6_turnFrom 199 = .ok (.lshl, 1) := by decide +kernel
theorem dX6_turnFrom_200 : decode cX6_turnFrom 200 = .ok (.lor, 1) := by decide +kernel
theorem dX6_turnFrom_201 : decode cX6_turnFrom 201 = .ok (.putfield 22, 3) := by decide +kernel
theorem dX6_turnFrom_204 : decode cX6_turnFrom 204 = .ok (.aload_n 0, 1) := by decide +kernel
theorem dX6_turnFrom_205 : decode cX6_turnFrom 205 = .ok (.dup, 1) := by decide +kernel
theorem dX6_turnFrom_206 : decode cX6_turnFrom 206 = .ok (.getfield 26, 3) := by decide +kernel
theorem dX6_turnFrom_209 : decode cX6_turnFrom 209 = .ok (.aload_n 1, 1) := by decide +kernel
theorem dX6_turnFrom_210 : decode cX6_turnFrom 210 = .ok (.getfield 26, 3) := by decide +kernel
theorem dX6_turnFrom_213 : decode cX6_turnFrom 213 = .ok (.iload 11, 2) := by decide +kernel
theorem dX6_turnFrom_215 : decode cX6_turnFrom 215 = .ok (.lushr, 1) := by decide +kernel
theorem dX6_turnFrom_216 : decode cX6_turnFrom 216 = .ok (.lconst 1, 1) := by decide +kernel
theorem dX6_turnFrom_217 : decode cX6_turnFrom 217 = .ok (.land, 1) := by decide +kernel
theorem dX6_turnFrom_218 : decode cX6_turnFrom 218 = .ok (.iload 12, 2) := by decide +kernel
theorem dX6_turnFrom_220 : decode cX6_turnFrom 220 = .ok (.lshl, 1) := by decide +kernel
theorem dX6_turnFrom_221 : decode cX6_turnFrom 221 = .ok (.lor, 1) := by decide +kernel
theorem dX6_turnFrom_222 : decode cX6_turnFrom 222 = .ok (.putfield 26, 3) := by decide +kernel
theorem dX6_turnFrom_225 : decode cX6_turnFrom 225 = .ok (.iinc 10 1, 3) := by decide +kernel
theorem dX6_turnFrom_228 : decode cX6_turnFrom 228 = .ok (.goto (-106), 3) := by decide +kernel
theorem dX6_turnFrom_231 : decode cX6_turnFrom 231 = .ok (.iinc 9 1, 3) := by decide +kernel
theorem dX6_turnFrom_234 : decode cX6_turnFrom 234 = .ok (.goto (-124), 3) := by decide +kernel
theorem dX6_turnFrom_237 : decode cX6_turnFrom 237 = .ok (.iconst 1, 1) := by decide +kernel
theorem dX6_turnFrom_238 : decode cX6_turnFrom 238 = .ok (.ireturn, 1) := by decide +kernel
def fX6_turnFrom_231 (o_ones : Int64) (o_twos : Int64) (v9 : Int32) : Option ((Int32 × Int64 × Int64) ⊕ (Int32 × Int32 × Int32 × Int32 × Int64 × Int64)) :=
  some (.inl ((v9 + 1), o_ones, o_twos))
def fX6_turnFrom_122_b (p1_ones : Int64) (p1_twos : Int64) (o_wide : Int32) (o_high : Int32) (v5 : Int32) (v6 : Int32) (v7 : Int32) (v8 : Int32) (v9 : Int32) (v10 : Int32) (o_ones : Int64) (o_twos : Int64) : Option ((Int32 × Int64 × Int64) ⊕ ((Int32 × Int64 × Int64) ⊕ (Int32 × Int32 × Int32 × Int32 × Int64 × Int64))) :=
  if o_wide ≤ v10 then Option.bind (fX6_turnFrom_231 o_ones o_twos v9) fun z => some (.inr z) else Option.bind (fX7_rest ((v10 * v6) + (v9 * v8)) o_high) fun q148 => Option.bind (fX7_rest ((v10 * v5) + (v9 * v7)) o_wide) fun q167 => Option.bind (some ((o_ones ||| (ds_lshl ((ds_lushr p1_ones (((8 : Int32) * q148) + q167)) &&& (1 : Int64)) (((8 : Int32) * v9) + v10))))) fun x201 => Option.bind (some ((o_twos ||| (ds_lshl ((ds_lushr p1_twos (((8 : Int32) * q148) + q167)) &&& (1 : Int64)) (((8 : Int32) * v9) + v10))))) fun x222 => some (.inl ((v10 + 1), x201, x222))
def fX6_turnFrom_122 (p1_ones : Int64) (p1_twos : Int64) (o_wide : Int32) (o_high : Int32) (v5 : Int32) (v6 : Int32) (v7 : Int32) (v8 : Int32) (v9 : Int32) (v10 : Int32) (o_ones : Int64) (o_twos : Int64) : Option ((Int32 × Int64 × Int64) ⊕ (Int32 × Int32 × Int32 × Int32 × Int64 × Int64)) := ds_it (fun s => fX6_turnFrom_122_b p1_ones p1_twos o_wide o_high v5 v6 v7 v8 v9 s.1 s.2.1 s.2.2) 1000 (v10, o_ones, o_twos)
def fX6_turnFrom_110_b (p1_ones : Int64) (p1_twos : Int64) (o_wide : Int32) (o_high : Int32) (o_hex : Int32) (v5 : Int32) (v6 : Int32) (v7 : Int32) (v8 : Int32) (v9 : Int32) (o_ones : Int64) (o_twos : Int64) : Option ((Int32 × Int64 × Int64) ⊕ (Int32 × Int32 × Int32 × Int32 × Int64 × Int64)) :=
  if o_high ≤ v9 then some (.inr ((1 : Int32), o_wide, o_high, o_hex, o_ones, o_twos)) else fX6_turnFrom_122 p1_ones p1_twos o_wide o_high v5 v6 v7 v8 v9 (0 : Int32) o_ones o_twos
def fX6_turnFrom_110 (p1_ones : Int64) (p1_twos : Int64) (o_wide : Int32) (o_high : Int32) (o_hex : Int32) (v5 : Int32) (v6 : Int32) (v7 : Int32) (v8 : Int32) (v9 : Int32) (o_ones : Int64) (o_twos : Int64) : Option (Int32 × Int32 × Int32 × Int32 × Int64 × Int64) := ds_it (fun s => fX6_turnFrom_110_b p1_ones p1_twos o_wide o_high o_hex v5 v6 v7 v8 s.1 s.2.1 s.2.2) 1000 (v9, o_ones, o_twos)
def fX6_turnFrom (p1_wide : Int32) (p1_high : Int32) (p1_hex : Int32) (p1_ones : Int64) (p1_twos : Int64) (p2 : Int32) (p3 : Int32) : Option (Int32 × Int32 × Int32 × Int32 × Int64 × Int64) :=
  Option.bind (fX6_clear p1_wide p1_high p1_hex) fun q13 => Option.bind (fX1_inverse p2 p3) fun q18 => Option.bind (fX1_turnedX p2 q18 (1 : Int32) (0 : Int32)) fun q28 => Option.bind (fX1_turnedY p2 q18 (1 : Int32) (0 : Int32)) fun q38 => Option.bind (fX1_turnedX p2 q18 (0 : Int32) (1 : Int32)) fun q48 => Option.bind (fX1_turnedY p2 q18 (0 : Int32) (1 : Int32)) fun q58 => Option.bind (fX6_comesAgainBy p1_wide p1_high p1_ones p1_twos (q13.1 * q28) (q13.1 * q38)) fun q78 => if q78 = 0 then some ((0 : Int32), q13.1, q13.2.1, q13.2.2.1, q13.2.2.2.1, q13.2.2.2.2) else Option.bind (fX6_comesAgainBy p1_wide p1_high p1_ones p1_twos (q13.2.1 * q48) (q13.2.1 * q58)) fun q99 => if q99 = 0 then some ((0 : Int32), q13.1, q13.2.1, q13.2.2.1, q13.2.2.2.1, q13.2.2.2.2) else fX6_turnFrom_110 p1_ones p1_twos q13.1 q13.2.1 q13.2.2.1 q28 q38 q48 q58 (0 : Int32) q13.2.2.2.1 q13.2.2.2.2
set_option maxHeartbeats 4000000 in
set_option maxRecDepth 100000 in
theorem c_X6_turnFrom (l : Launch) (dC : Nat → ClassId) (dI : Nat → Nat → Nat) (ca : Nat → ClassId) (sa : Nat → Nat) (h_p1 : Nat) (h_o : Nat) (sz : Nat) (p1_wide : Int32) (p1_high : Int32) (p1_hex : Int32) (p1_ones : Int64) (p1_twos : Int64) (o_wide : Int32) (o_high : Int32) (o_hex : Int32) (o_ones : Int64) (o_twos : Int64) (p2 : Int32) (p3 : Int32) (res : Int32 × Int32 × Int32 × Int32 × Int64 × Int64) (hf : fX6_turnFrom p1_wide p1_high p1_hex p1_ones p1_twos p2 p3 = some res) : Met l yX6_turnFrom (Cond.code yX6_turnFrom cX6_turnFrom 13 (some .boolean) :: ds_gw) { frames := 4, cells := 0, slots := 0, locals := 95 } (va_Pc [.ref h_o, .ref h_p1, .int p2, .int p3] (ds_Pre dC dI ca sa [(h_p1, .inr (5, [.int p1_wide, .int p1_high, .int p1_hex, .long p1_ones, .long p1_twos])), (h_o, .inr (5, [.int o_wide, .int o_high, .int o_hex, .long o_ones, .long o_twos]))] sz)) (va_Qi (fun r (_ : Unit) => r = res.1) (ds_B dC dI (va_A [(h_p1, .inr (5, [.int p1_wide, .int p1_high, .int p1_hex, .long p1_ones, .long p1_twos])), (h_o, .inr (5, [.int o_wide, .int o_high, .int o_hex, .long o_ones, .long o_twos]))] sz) [(h_p1, .inr (5, [.int p1_wide, .int p1_high, .int p1_hex, .long p1_ones, .long p1_twos])), (h_o, .inr (5, [.int res.2.1, .int res.2.2.1, .int res.2.2.2.1, .long res.2.2.2.2.1, .long res.2.2.2.2.2]))]) (va_A [(h_p1, .inr (5, [.int p1_wide, .int p1_high, .int p1_hex, .long p1_ones, .long p1_twos])), (h_o, .inr (5, [.int o_wide, .int o_high, .int o_hex, .long o_ones, .long o_twos]))] sz)) 0 0 (va_A [(h_p1, .inr (5, [.int p1_wide, .int p1_high, .int p1_hex, .long p1_ones, .long p1_twos])), (h_o, .inr (5, [.int o_wide, .int o_high, .int o_hex, .long o_ones, .long o_twos]))] sz) := by
  refine Met.ofW (cc := cX6_turnFrom) (maxL := 13) (ret := (some .boolean)) (by decide) rfl ?_
  intro p e s m args below meth c s₁ B hml hv
  obtain ⟨rfl, hsz, hP, hK, hD0, hE⟩ := hv
  have hx := B.exec
  have hb := B.bytes
  have hr := B.returns
  have hts := atoms_spec (ws := Cond.code yX6_turnFrom cX6_turnFrom 13 (some .boolean) :: ds_gw) B.pre
  have hg : ∀ {w : Cond}, w ∈ ds_gw → w.before _ s = true := fun h => hts _ (List.mem_cons_of_mem _ h)
  have hown : s.vm.findClass RX6 = some m.cls := findClass_of_methodNamed B.named
  have hlocks := B.notSynchronized
  subst hsz
  have hD := hD0.self (sz := s.heap.size)
  generalize hAe : va_A [(h_p1, .inr (5, [.int p1_wide, .int p1_high, .int p1_hex, .long p1_ones, .long p1_twos])), (h_o, .inr (5, [.int o_wide, .int o_high, .int o_hex, .long o_ones, .long o_twos]))] s.heap.size = A at hD hE ⊢
  have hA : ∀ q : Nat, s.heap.size ≤ q → A q := fun q h => by rw [← hAe]; exact Or.inr h
  have hS : va_S A s.heap s.heap [] := va_S.rf
  have hl := lv_entry ([.ref h_o, .ref h_p1, .int p2, .int p3]) (n := 13) (Nat.le_of_ble_eq_true rfl)
  rw [lg_entry_eq]
  generalize (lg_sl ([.ref h_o, .ref h_p1, .int p2, .int p3]) ++ List.replicate (13 - (lg_sl ([.ref h_o, .ref h_p1, .int p2, .int p3])).length) Slot.unset).toArray = ls at hl ⊢
  have hl : lv_has ls 13 [(0, .ref h_o), (1, .ref h_p1), (2, .int p2), (3, .int p3)] := hl
  obtain ⟨G0, eG0⟩ : ∃ G : (Int32 × Int32 × Int32 × Int32 × Int64 × Int64) → Prop, G = (fun r => r = res) := ⟨_, rfl⟩
  obtain ⟨rr, hrr⟩ : ∃ z, z = res := ⟨_, rfl⟩
  rw [← hrr] at hf
  have hG : G0 rr := by subst eG0; exact hrr
  refine ds_cap (fun WW h1 h2 => ?_)
  have J_110 : ∀ (v5 : Int32) (v6 : Int32) (v7 : Int32) (v8 : Int32) (o_wide : Int32) (o_high : Int32) (o_hex : Int32) (n : Nat) (v9 : Int32) (o_ones : Int64) (o_twos : Int64) (rr : Int32 × Int32 × Int32 × Int32 × Int64 × Int64) (hf : ds_it (fun s => fX6_turnFrom_110_b p1_ones p1_twos o_wide o_high o_hex v5 v6 v7 v8 s.1 s.2.1 s.2.2) n (v9, o_ones, o_twos) = some rr) (hG : G0 rr) (H : Heap) (locs : List Loc) (hP : va_P (dC, dI) vwCl [(h_p1, .inr (5, [.int p1_wide, .int p1_high, .int p1_hex, .long p1_ones, .long p1_twos])), (h_o, .inr (5, [.int o_wide, .int o_high, .int o_hex, .long o_ones, .long o_twos]))] H) (hD : va_D A [(h_p1, .inr (5, [.int p1_wide, .int p1_high, .int p1_hex, .long p1_ones, .long p1_twos])), (h_o, .inr (5, [.int o_wide, .int o_high, .int o_hex, .long o_ones, .long o_twos]))]) (hS : va_S A s.heap H locs) (ls : Array Slot) (hl : lv_has ls 13 [(0, .ref h_o), (1, .ref h_p1), (5, .int v5), (6, .int v6), (7, .int v7), (8, .int v8), (9, .int v9)]), WW H locs (F0 m 110 ls []) := by
    intro v5 v6 v7 v8 o_wide o_high o_hex n
    induction n with
    | zero => intro v9 o_ones o_twos rr hf; exact (ds_it_zero hf).elim
    | succ n ih110 =>
      intro v9 o_ones o_twos rr hf hG H locs hP hD hS ls hl
      refine h2 ?_
      obtain ⟨rr, hf, hG⟩ := ds_it_succ hf hG
      replace hf : fX6_turnFrom_110_b p1_ones p1_twos o_wide o_high o_hex v5 v6 v7 v8 v9 o_ones o_twos = some rr := hf
      obtain ⟨G1, eG1⟩ : ∃ G : ((Int32 × Int64 × Int64) ⊕ (Int32 × Int32 × Int32 × Int32 × Int64 × Int64)) → Prop, G = ds_G (fun s' => ∃ r', ds_it (fun s => fX6_turnFrom_110_b p1_ones p1_twos o_wide o_high o_hex v5 v6 v7 v8 s.1 s.2.1 s.2.2) n s' = some r' ∧ G0 r') G0 := ⟨_, rfl⟩
      rw [← eG1] at hG
      have J_231 : ∀ (v9 : Int32) (o_ones : Int64) (o_twos : Int64) (rr : (Int32 × Int64 × Int64) ⊕ (Int32 × Int32 × Int32 × Int32 × Int64 × Int64)) (hf : fX6_turnFrom_231 o_ones o_twos v9 = some rr) (hG : G1 rr) (H : Heap) (locs : List Loc) (hP : va_P (dC, dI) vwCl [(h_p1, .inr (5, [.int p1_wide, .int p1_high, .int p1_hex, .long p1_ones, .long p1_twos])), (h_o, .inr (5, [.int o_wide, .int o_high, .int o_hex, .long o_ones, .long o_twos]))] H) (hD : va_D A [(h_p1, .inr (5, [.int p1_wide, .int p1_high, .int p1_hex, .long p1_ones, .long p1_twos])), (h_o, .inr (5, [.int o_wide, .int o_high, .int o_hex, .long o_ones, .long o_twos]))]) (hS : va_S A s.heap H locs) (ls : Array Slot) (hl : lv_has ls 13 [(0, .ref h_o), (1, .ref h_p1), (5, .int v5), (6, .int v6), (7, .int v7), (8, .int v8), (9, .int v9)]), WW H locs (F0 m 231 ls []) := by
        intro v9 o_ones o_twos rr hf hG H locs hP hD hS ls hl
        refine h2 ?_
        unfold fX6_turnFrom_231 at hf
        refine lv_iinc (v := (v9 + 1)) (lv' := [(9, .int (v9 + 1)), (0, .ref h_o), (1, .ref h_p1), (5, .int v5), (6, .int v6), (7, .int v7), (8, .int v8)]) hx hb dX6_turnFrom_231 hl (k := 6) rfl rfl (by decide) rfl (fun ls hl => ?_)
        refine lv_goto (tgt := 110) hx hb dX6_turnFrom_234 (by decide) ?_
        have hf := Option.some.inj hf
        subst hf
        rw [eG1] at hG
        obtain ⟨rr, hf, hG⟩ := hG
        exact h1 (ih110 (v9 + 1) o_ones o_twos rr hf hG _ _ hP hD hS _ (lv_sub hl [1, 2, 3, 4, 5, 6, 0] rfl))
      have J_122 : ∀ (v9 : Int32) (n : Nat) (v10 : Int32) (o_ones : Int64) (o_twos : Int64) (rr : (Int32 × Int64 × Int64) ⊕ (Int32 × Int32 × Int32 × Int32 × Int64 × Int64)) (hf : ds_it (fun s => fX6_turnFrom_122_b p1_ones p1_twos o_wide o_high v5 v6 v7 v8 v9 s.1 s.2.1 s.2.2) n (v10, o_ones, o_twos) = some rr) (hG : G1 rr) (H : Heap) (locs : List Loc) (hP : va_P (dC, dI) vwCl [(h_p1, .inr (5, [.int p1_wide, .int p1_high, .int p1_hex, .long p1_ones, .long p1_twos])), (h_o, .inr (5, [.int o_wide, .int o_high, .int o_hex, .long o_ones, .long o_twos]))] H) (hD : va_D A [(h_p1, .inr (5, [.int p1_wide, .int p1_high, .int p1_hex, .long p1_ones, .long p1_twos])), (h_o, .inr (5, [.int o_wide, .int o_high, .int o_hex, .long o_ones, .long o_twos]))]) (hS : va_S A s.heap H locs) (ls : Array Slot) (hl : lv_has ls 13 [(0, .ref h_o), (1, .ref h_p1), (5, .int v5), (6, .int v6), (7, .int v7), (8, .int v8), (9, .int v9), (10, .int v10)]), WW H locs (F0 m 122 ls []) := by
        intro v9 n
        induction n with
        | zero => intro v10 o_ones o_twos rr hf; exact (ds_it_zero hf).elim
        | succ n ih122 =>
          intro v10 o_ones o_twos rr hf hG H locs hP hD hS ls hl
          refine h2 ?_
          obtain ⟨rr, hf, hG⟩ := ds_it_succ hf hG
          replace hf : fX6_turnFrom_122_b p1_ones p1_twos o_wide o_high v5 v6 v7 v8 v9 v10 o_ones o_twos = some rr := hf
          obtain ⟨G2, eG2⟩ : ∃ G : ((Int32 × Int64 × Int64) ⊕ ((Int32 × Int64 × Int64) ⊕ (Int32 × Int32 × Int32 × Int32 × Int64 × Int64))) → Prop, G = ds_G (fun s' => ∃ r', ds_it (fun s => fX6_turnFrom_122_b p1_ones p1_twos o_wide o_high v5 v6 v7 v8 v9 s.1 s.2.1 s.2.2) n s' = some r' ∧ G1 r') G1 := ⟨_, rfl⟩
          rw [← eG2] at hG
          unfold fX6_turnFrom_122_b at hf
          refine lv_iload hx hb dX6_turnFrom_122 (lv_at hl 7 rfl) ?_
          refine lv_aload_n hx hb dX6_turnFrom_124 rfl (lv_at hl 0 rfl) ?_
          refine va_get (D := (dC, dI)) (ci := 5) (v := .int o_wide) (C := RX6) (T := TX6) (N := 5) hx hb hts (fun w h => List.mem_cons_of_mem _ (kc_X6 w h)) hown hK hP 1 rfl rfl 0 (by decide) (hg kw_48) (fun _ h9 => h9) rfl dX6_turnFrom_125 ?_
          refine lv_icmp_ge (tgt := 231) hx hb dX6_turnFrom_128 (by decide) (fun c_128 => ?_) (fun c_128 => ?_)
          · replace hf := ds_t c_128 hf
            obtain ⟨rr, hr_0, hf⟩ := ds_ob hf
            have hf := Option.some.inj hf
            subst hf
            rw [eG2] at hG
            replace hG : G1 rr := hG
            have hf := hr_0
            exact h1 (J_231 v9 o_ones o_twos _ hf hG _ _ hP hD hS _ (lv_sub hl [0, 1, 2, 3, 4, 5, 6] rfl))
          · replace hf := ds_f c_128 hf
            refine lv_bipush (v := 8) hx hb dX6_turnFrom_131 (by decide) ?_
            refine lv_iload hx hb dX6_turnFrom_133 (lv_at hl 7 rfl) ?_
            refine lv_iload hx hb dX6_turnFrom_135 (lv_at hl 3 rfl) ?_
            refine lv_imul hx hb dX6_turnFrom_137 ?_
            refine lv_iload hx hb dX6_turnFrom_138 (lv_at hl 6 rfl) ?_
            refine lv_iload hx hb dX6_turnFrom_140 (lv_at hl 5 rfl) ?_
            refine lv_imul hx hb dX6_turnFrom_142 ?_
            refine lv_iadd hx hb dX6_turnFrom_143 ?_
            refine lv_aload_n hx hb dX6_turnFrom_144 rfl (lv_at hl 0 rfl) ?_
            refine va_get (D := (dC, dI)) (ci := 5) (v := .int o_high) (C := RX6) (T := TX6) (N := 5) hx hb hts (fun w h => List.mem_cons_of_mem _ (kc_X6 w h)) hown hK hP 1 rfl rfl 1 (by decide) (hg kw_54) (fun _ h9 => h9) rfl dX6_turnFrom_145 ?_
            obtain ⟨q148, hq148, hf⟩ := ds_ob hf
            refine ds_calli (wr := [(h_p1, .inr (5, [.int p1_wide, .int p1_high, .int p1_hex, .long p1_ones, .long p1_twos])), (h_o, .inr (5, [.int o_wide, .int o_high, .int o_hex, .long o_ones, .long o_twos]))]) (va_runSN (As := [.int ((v10 * v6) + (v9 * v8)), .int o_high]) (rest := [.int (8 : Int32)]) ⟨hx, hb, hml, hown, hts⟩ (c_X7_rest l dC dI ca sa  H.size  ((v10 * v6) + (v9 * v8)) o_high q148 hq148) ⟨va_cnB 2 hts (ds_gN kw_70) rfl rfl rfl (hE.1 _ kw_69) (hg kw_71) (by decide +kernel) ⟨Nat.le_of_ble_eq_true rfl, Nat.le_of_ble_eq_true rfl⟩, hg kw_72, trivial⟩ ⟨ds_blind, ds_at hP hD hK hE hS hA [] rfl rfl _⟩ rfl rfl hl.1 rfl (lv_room (Nat.le_of_ble_eq_true rfl)) dX6_turnFrom_148 ⟨Nat.zero_le _, Nat.zero_le _⟩) hP hD hS hA [] [0, 1] rfl rfl rfl (by decide) (fun H locs hP hD hS => ?_)
            have hP : va_P (dC, dI) vwCl [(h_p1, .inr (5, [.int p1_wide, .int p1_high, .int p1_hex, .long p1_ones, .long p1_twos])), (h_o, .inr (5, [.int o_wide, .int o_high, .int o_hex, .long o_ones, .long o_twos]))] H := hP
            have hD : va_D A [(h_p1, .inr (5, [.int p1_wide, .int p1_high, .int p1_hex, .long p1_ones, .long p1_twos])), (h_o, .inr (5, [.int o_wide, .int o_high, .int o_hex, .long o_ones, .long o_twos]))] := hD
            refine lv_imul hx hb dX6_turnFrom_151 ?_
            refine lv_iload hx hb dX6_turnFrom_152 (lv_at hl 7 rfl) ?_
            refine lv_iload hx hb dX6_turnFrom_154 (lv_at hl 2 rfl) ?_
            refine lv_imul hx hb dX6_turnFrom_156 ?_
            refine lv_iload hx hb dX6_turnFrom_157 (lv_at hl 6 rfl) ?_
            refine lv_iload hx hb dX6_turnFrom_159 (lv_at hl 4 rfl) ?_
            refine lv_imul hx hb dX6_turnFrom_161 ?_
            refine lv_iadd hx hb dX6_turnFrom_162 ?_
            refine lv_aload_n hx hb dX6_turnFrom_163 rfl (lv_at hl 0 rfl) ?_
            refine va_get (D := (dC, dI)) (ci := 5) (v := .int o_wide) (C := RX6) (T := TX6) (N := 5) hx hb hts (fun w h => List.mem_cons_of_mem _ (kc_X6 w h)) hown hK hP 1 rfl rfl 0 (by decide) (hg kw_48) (fun _ h9 => h9) rfl dX6_turnFrom_164 ?_
            obtain ⟨q167, hq167, hf⟩ := ds_ob hf
            refine ds_calli (wr := [(h_p1, .inr (5, [.int p1_wide, .int p1_high, .int p1_hex, .long p1_ones, .long p1_twos])), (h_o, .inr (5, [.int o_wide, .int o_high, .int o_hex, .long o_ones, .long o_twos]))]) (va_runSN (As := [.int ((v10 * v5) + (v9 * v7)), .int o_wide]) (rest := [.int ((8 : Int32) * q148)]) ⟨hx, hb, hml, hown, hts⟩ (c_X7_rest l dC dI ca sa  H.size  ((v10 * v5) + (v9 * v7)) o_wide q167 hq167) ⟨va_cnB 2 hts (ds_gN kw_70) rfl rfl rfl (hE.1 _ kw_69) (hg kw_71) (by decide +kernel) ⟨Nat.le_of_ble_eq_true rfl, Nat.le_of_ble_eq_true rfl⟩, hg kw_72, trivial⟩ ⟨ds_blind, ds_at hP hD hK hE hS hA [] rfl rfl _⟩ rfl rfl hl.1 rfl (lv_room (Nat.le_of_ble_eq_true rfl)) dX6_turnFrom_167 ⟨Nat.zero_le _, Nat.zero_le _⟩) hP hD hS hA [] [0, 1] rfl rfl rfl (by decide) (fun H locs hP hD hS => ?_)
            have hP : va_P (dC, dI) vwCl [(h_p1, .inr (5, [.int p1_wide, .int p1_high, .int p1_hex, .long p1_ones, .long p1_twos])), (h_o, .inr (5, [.int o_wide, .int o_high, .int o_hex, .long o_ones, .long o_twos]))] H := hP
            have hD : va_D A [(h_p1, .inr (5, [.int p1_wide, .int p1_high, .int p1_hex, .long p1_ones, .long p1_twos])), (h_o, .inr (5, [.int o_wide, .int o_high, .int o_hex, .long o_ones, .long o_twos]))] := hD
            refine lv_iadd hx hb dX6_turnFrom_170 ?_
            refine lv_istore (lv' := [(11, .int (((8 : Int32) * q148) + q167)), (0, .ref h_o), (1, .ref h_p1), (5, .int v5), (6, .int v6), (7, .int v7), (8, .int v8), (9, .int v9), (10, .int v10)]) hx hb dX6_turnFrom_171 hl (by decide) rfl (fun ls hl => ?_)
            refine lv_bipush (v := 8) hx hb dX6_turnFrom_173 (by decide) ?_
            refine lv_iload hx hb dX6_turnFrom_175 (lv_at hl 7 rfl) ?_
            refine lv_imul hx hb dX6_turnFrom_177 ?_
            refine lv_iload hx hb dX6_turnFrom_178 (lv_at hl 8 rfl) ?_
            refine lv_iadd hx hb dX6_turnFrom_180 ?_
            refine lv_istore (lv' := [(12, .int (((8 : Int32) * v9) + v10)), (11, .int (((8 : Int32) * q148) + q167)), (0, .ref h_o), (1, .ref h_p1), (5, .int v5), (6, .int v6), (7, .int v7), (8, .int v8), (9, .int v9), (10, .int v10)]) hx hb dX6_turnFrom_181 hl (by decide) rfl (fun ls hl => ?_)
            refine lv_aload_n hx hb dX6_turnFrom_183 rfl (lv_at hl 2 rfl) ?_
            refine lv_dup hx hb dX6_turnFrom_184 rfl ?_
            refine va_get (D := (dC, dI)) (ci := 5) (v := .long o_ones) (C := RX6) (T := TX6) (N := 5) hx hb hts (fun w h => List.mem_cons_of_mem _ (kc_X6 w h)) hown hK hP 1 rfl rfl 3 (by decide) (hg kw_61) (fun _ h9 => h9) rfl dX6_turnFrom_185 ?_
            refine lv_aload_n hx hb dX6_turnFrom_188 rfl (lv_at hl 3 rfl) ?_
            refine va_get (D := (dC, dI)) (ci := 5) (v := .long p1_ones) (C := RX6) (T := TX6) (N := 5) hx hb hts (fun w h => List.mem_cons_of_mem _ (kc_X6 w h)) hown hK hP 0 rfl rfl 3 (by decide) (hg kw_61) (fun _ h9 => h9) rfl dX6_turnFrom_189 ?_
            refine lv_iload hx hb dX6_turnFrom_192 (lv_at hl 1 rfl) ?_
            refine lv_lushr (v := (ds_lushr p1_ones (((8 : Int32) * q148) + q167))) hx hb dX6_turnFrom_194 rfl ?_
            refine lv_lconst (v := 1) hx hb dX6_turnFrom_195 (by decide) ?_
            refine lv_land hx hb dX6_turnFrom_196 ?_
            refine lv_iload hx hb dX6_turnFrom_197 (lv_at hl 0 rfl) ?_
            refine lv_lshl (v := (ds_lshl ((ds_lushr p1_ones (((8 : Int32) * q148) + q167)) &&& (1 : Int64)) (((8 : Int32) * v9) + v10))) hx hb dX6_turnFrom_199 rfl ?_
            refine lv_lor hx hb dX6_turnFrom_200 ?_
            obtain ⟨x201, hx_201, hf⟩ := ds_ob hf
            refine ds_nml hx_201 ?_
            refine va_put (D := (dC, dI)) (ci := 5) (v := .long x201) (ty := tyX6 3) (C := RX6) (T := TX6) (N := 5) hx hb hts (fun w h => List.mem_cons_of_mem _ (kc_X6 w h)) tyX6 tyX6_ok nmX6 hown hK hP hD hS 1 rfl rfl 3 (by decide) (hg kw_61) (fun _ h9 => h9) rfl (by decide +kernel) rfl rfl (Nat.le_of_ble_eq_true rfl) dX6_turnFrom_201 (fun H locs hP hD hS => ?_)
            have hP : va_P (dC, dI) vwCl [(h_p1, .inr (5, [.int p1_wide, .int p1_high, .int p1_hex, .long p1_ones, .long p1_twos])), (h_o, .inr (5, [.int o_wide, .int o_high, .int o_hex, .long x201, .long o_twos]))] H := hP
            have hD : va_D A [(h_p1, .inr (5, [.int p1_wide, .int p1_high, .int p1_hex, .long p1_ones, .long p1_twos])), (h_o, .inr (5, [.int o_wide, .int o_high, .int o_hex, .long x201, .long o_twos]))] := hD
            refine lv_aload_n hx hb dX6_turnFrom_204 rfl (lv_at hl 2 rfl) ?_
            refine lv_dup hx hb dX6_turnFrom_205 rfl ?_
            refine va_get (D := (dC, dI)) (ci := 5) (v := .long o_twos) (C := RX6) (T := TX6) (N := 5) hx hb hts (fun w h => List.mem_cons_of_mem _ (kc_X6 w h)) hown hK hP 1 rfl rfl 4 (by decide) (hg kw_62) (fun _ h9 => h9) rfl dX6_turnFrom_206 ?_
            refine lv_aload_n hx hb dX6_turnFrom_209 rfl (lv_at hl 3 rfl) ?_
            refine va_get (D := (dC, dI)) (ci := 5) (v := .long p1_twos) (C := RX6) (T := TX6) (N := 5) hx hb hts (fun w h => List.mem_cons_of_mem _ (kc_X6 w h)) hown hK hP 0 rfl rfl 4 (by decide) (hg kw_62) (fun _ h9 => h9) rfl dX6_turnFrom_210 ?_
            refine lv_iload hx hb dX6_turnFrom_213 (lv_at hl 1 rfl) ?_
            refine lv_lushr (v := (ds_lushr p1_twos (((8 : Int32) * q148) + q167))) hx hb dX6_turnFrom_215 rfl ?_
            refine lv_lconst (v := 1) hx hb dX6_turnFrom_216 (by decide) ?_
            refine lv_land hx hb dX6_turnFrom_217 ?_
            refine lv_iload hx hb dX6_turnFrom_218 (lv_at hl 0 rfl) ?_
            refine lv_lshl (v := (ds_lshl ((ds_lushr p1_twos (((8 : Int32) * q148) + q167)) &&& (1 : Int64)) (((8 : Int32) * v9) + v10))) hx hb dX6_turnFrom_220 rfl ?_
            refine lv_lor hx hb dX6_turnFrom_221 ?_
            obtain ⟨x222, hx_222, hf⟩ := ds_ob hf
            refine ds_nml hx_222 ?_
            refine va_put (D := (dC, dI)) (ci := 5) (v := .long x222) (ty := tyX6 4) (C := RX6) (T := TX6) (N := 5) hx hb hts (fun w h => List.mem_cons_of_mem _ (kc_X6 w h)) tyX6 tyX6_ok nmX6 hown hK hP hD hS 1 rfl rfl 4 (by decide) (hg kw_62) (fun _ h9 => h9) rfl (by decide +kernel) rfl rfl (Nat.le_of_ble_eq_true rfl) dX6_turnFrom_222 (fun H locs hP hD hS => ?_)
            have hP : va_P (dC, dI) vwCl [(h_p1, .inr (5, [.int p1_wide, .int p1_high, .int p1_hex, .long p1_ones, .long p1_twos])), (h_o, .inr (5, [.int o_wide, .int o_high, .int o_hex, .long x201, .long x222]))] H := hP
            have hD : va_D A [(h_p1, .inr (5, [.int p1_wide, .int p1_high, .int p1_hex, .long p1_ones, .long p1_twos])), (h_o, .inr (5, [.int o_wide, .int o_high, .int o_hex, .long x201, .long x222]))] := hD
            refine lv_iinc (v := (v10 + 1)) (lv' := [(10, .int (v10 + 1)), (12, .int (((8 : Int32) * v9) + v10)), (11, .int (((8 : Int32) * q148) + q167)), (0, .ref h_o), (1, .ref h_p1), (5, .int v5), (6, .int v6), (7, .int v7), (8, .int v8), (9, .int v9)]) hx hb dX6_turnFrom_225 hl (k := 9) rfl rfl (by decide) rfl (fun ls hl => ?_)
            refine lv_goto (tgt := 122) hx hb dX6_turnFrom_228 (by decide) ?_
            have hf := Option.some.inj hf
            subst hf
            rw [eG2] at hG
            obtain ⟨rr, hf, hG⟩ := hG
            exact h1 (ih122 (v10 + 1) x201 x222 rr hf hG _ _ hP hD hS _ (lv_sub hl [3, 4, 5, 6, 7, 8, 9, 0] rfl))
      unfold fX6_turnFrom_110_b at hf
      refine lv_iload hx hb dX6_turnFrom_110 (lv_at hl 6 rfl) ?_
      refine lv_aload_n hx hb dX6_turnFrom_112 rfl (lv_at hl 0 rfl) ?_
      refine va_get (D := (dC, dI)) (ci := 5) (v := .int o_high) (C := RX6) (T := TX6) (N := 5) hx hb hts (fun w h => List.mem_cons_of_mem _ (kc_X6 w h)) hown hK hP 1 rfl rfl 1 (by decide) (hg kw_54) (fun _ h9 => h9) rfl dX6_turnFrom_113 ?_
      refine lv_icmp_ge (tgt := 237) hx hb dX6_turnFrom_116 (by decide) (fun c_116 => ?_) (fun c_116 => ?_)
      · replace hf := ds_t c_116 hf
        refine lv_iconst (v := 1) hx hb dX6_turnFrom_237 (by decide) ?_
        have hf := Option.some.inj hf
        subst hf
        rw [eG1] at hG
        replace hG : G0 _ := hG
        rw [eG0] at hG
        have hG : _ = res := hG
        subst hG
        exact W.zret (v := (1 : Int32)) (ty := .boolean) hx hb hr rfl (fun t ht hW => ⟨⟨(1 : Int32), (), rfl, rfl, by rw [ht]; exact hP, hD⟩, hS.F ht⟩) hS.2.2 dX6_turnFrom_238
      · replace hf := ds_f c_116 hf
        refine lv_iconst (v := 0) hx hb dX6_turnFrom_119 (by decide) ?_
        refine lv_istore (lv' := [(10, .int (0 : Int32)), (0, .ref h_o), (1, .ref h_p1), (5, .int v5), (6, .int v6), (7, .int v7), (8, .int v8), (9, .int v9)]) hx hb dX6_turnFrom_120 hl (by decide) rfl (fun ls hl => ?_)
        exact h1 (J_122 v9 1000 (0 : Int32) o_ones o_twos _ hf hG _ _ hP hD hS _ (lv_sub hl [1, 2, 3, 4, 5, 6, 7, 0] rfl))
  unfold fX6_turnFrom at hf
  refine lv_aload_n hx hb dX6_turnFrom_0 rfl (lv_at hl 0 rfl) ?_
  refine lv_aload_n hx hb dX6_turnFrom_1 rfl (lv_at hl 1 rfl) ?_
  refine va_get (D := (dC, dI)) (ci := 5) (v := .int p1_wide) (C := RX6) (T := TX6) (N := 5) hx hb hts (fun w h => List.mem_cons_of_mem _ (kc_X6 w h)) hown hK hP 0 rfl rfl 0 (by decide) (hg kw_48) (fun _ h9 => h9) rfl dX6_turnFrom_2 ?_
  refine lv_aload_n hx hb dX6_turnFrom_5 rfl (lv_at hl 1 rfl) ?_
  refine va_get (D := (dC, dI)) (ci := 5) (v := .int p1_high) (C := RX6) (T := TX6) (N := 5) hx hb hts (fun w h => List.mem_cons_of_mem _ (kc_X6 w h)) hown hK hP 0 rfl rfl 1 (by decide) (hg kw_54) (fun _ h9 => h9) rfl dX6_turnFrom_6 ?_
  refine lv_aload_n hx hb dX6_turnFrom_9 rfl (lv_at hl 1 rfl) ?_
  refine va_get (D := (dC, dI)) (ci := 5) (v := .int p1_hex) (C := RX6) (T := TX6) (N := 5) hx hb hts (fun w h => List.mem_cons_of_mem _ (kc_X6 w h)) hown hK hP 0 rfl rfl 2 (by decide) (hg kw_55) (fun _ h9 => h9) rfl dX6_turnFrom_10 ?_
  obtain ⟨q13, hq13, hf⟩ := ds_ob hf
  refine ds_callv (wr := [(h_p1, .inr (5, [.int p1_wide, .int p1_high, .int p1_hex, .long p1_ones, .long p1_twos]))]) (va_runV (As := [.int p1_wide, .int p1_high, .int p1_hex]) (rest := []) ⟨hx, hb, hml, hown, hts⟩ (c_X6_clear l dC dI ca sa h_o s.heap.size o_wide o_high o_hex o_ones o_twos p1_wide p1_high p1_hex q13 hq13) (cwV 3 hts (ds_gV kw_85 kw_86 kw_87 kw_59 kw_88) rfl rfl rfl (by decide +kernel) ⟨Nat.le_of_ble_eq_true rfl, Nat.le_of_ble_eq_true rfl⟩) ⟨ds_blind, va_recv hK hP (ci := 5) (q0 := 1) rfl rfl, ds_at hP hD hK hE hS hA [1] rfl rfl _⟩ rfl rfl hl.1 rfl (lv_room (Nat.le_of_ble_eq_true rfl)) dX6_turnFrom_13 ⟨Nat.zero_le _, Nat.zero_le _⟩) hP hD hS hA [1] [0] rfl rfl rfl (by decide) (fun H locs hP hD hS => ?_)
  have hP : va_P (dC, dI) vwCl [(h_p1, .inr (5, [.int p1_wide, .int p1_high, .int p1_hex, .long p1_ones, .long p1_twos])), (h_o, .inr (5, [.int q13.1, .int q13.2.1, .int q13.2.2.1, .long q13.2.2.2.1, .long q13.2.2.2.2]))] H := hP
  have hD : va_D A [(h_p1, .inr (5, [.int p1_wide, .int p1_high, .int p1_hex, .long p1_ones, .long p1_twos])), (h_o, .inr (5, [.int q13.1, .int q13.2.1, .int q13.2.2.1, .long q13.2.2.2.1, .long q13.2.2.2.2]))] := hD
  refine lv_iload_n hx hb dX6_turnFrom_16 rfl (lv_at hl 2 rfl) ?_
  refine lv_iload_n hx hb dX6_turnFrom_17 rfl (lv_at hl 3 rfl) ?_
  obtain ⟨q18, hq18, hf⟩ := ds_ob hf
  refine ds_calli (wr := [(h_p1, .inr (5, [.int p1_wide, .int p1_high, .int p1_hex, .long p1_ones, .long p1_twos])), (h_o, .inr (5, [.int q13.1, .int q13.2.1, .int q13.2.2.1, .long q13.2.2.2.1, .long q13.2.2.2.2]))]) (va_runS (As := [.int p2, .int p3]) (rest := []) ⟨hx, hb, hml, hown, hts⟩ (c_X1_inverse l dC dI ca sa  H.size  p2 p3 q18 hq18) (va_cwS 2 hts (ds_gS kw_89 kw_90 kw_2 kw_91) rfl rfl rfl (by decide +kernel) ⟨Nat.le_of_ble_eq_true rfl, Nat.le_of_ble_eq_true rfl⟩) ⟨ds_blind, ds_at hP hD hK hE hS hA [] rfl rfl _⟩ rfl rfl hl.1 rfl (lv_room (Nat.le_of_ble_eq_true rfl)) dX6_turnFrom_18 ⟨Nat.zero_le _, Nat.zero_le _⟩) hP hD hS hA [] [0, 1] rfl rfl rfl (by decide) (fun H locs hP hD hS => ?_)
  have hP : va_P (dC, dI) vwCl [(h_p1, .inr (5, [.int p1_wide, .int p1_high, .int p1_hex, .long p1_ones, .long p1_twos])), (h_o, .inr (5, [.int q13.1, .int q13.2.1, .int q13.2.2.1, .long q13.2.2.2.1, .long q13.2.2.2.2]))] H := hP
  have hD : va_D A [(h_p1, .inr (5, [.int p1_wide, .int p1_high, .int p1_hex, .long p1_ones, .long p1_twos])), (h_o, .inr (5, [.int q13.1, .int q13.2.1, .int q13.2.2.1, .long q13.2.2.2.1, .long q13.2.2.2.2]))] := hD
  refine lv_istore (lv' := [(4, .int q18), (0, .ref h_o), (1, .ref h_p1), (2, .int p2), (3, .int p3)]) hx hb dX6_turnFrom_21 hl (by decide) rfl (fun ls hl => ?_)
  refine lv_iload_n hx hb dX6_turnFrom_23 rfl (lv_at hl 3 rfl) ?_
  refine lv_iload hx hb dX6_turnFrom_24 (lv_at hl 0 rfl) ?_
  refine lv_iconst (v := 1) hx hb dX6_turnFrom_26 (by decide) ?_
  refine lv_iconst (v := 0) hx hb dX6_turnFrom_27 (by decide) ?_
  obtain ⟨q28, hq28, hf⟩ := ds_ob hf
  refine ds_calli (wr := [(h_p1, .inr (5, [.int p1_wide, .int p1_high, .int p1_hex, .long p1_ones, .long p1_twos])), (h_o, .inr (5, [.int q13.1, .int q13.2.1, .int q13.2.2.1, .long q13.2.2.2.1, .long q13.2.2.2.2]))]) (va_runS (As := [.int p2, .int q18, .int (1 : Int32), .int (0 : Int32)]) (rest := []) ⟨hx, hb, hml, hown, hts⟩ (c_X1_turnedX l dC dI ca sa  H.size  p2 q18 (1 : Int32) (0 : Int32) q28 hq28) (va_cwS 4 hts (ds_gS kw_92 kw_93 kw_2 kw_94) rfl rfl rfl (by decide +kernel) ⟨Nat.le_of_ble_eq_true rfl, Nat.le_of_ble_eq_true rfl⟩) ⟨ds_blind, ds_at hP hD hK hE hS hA [] rfl rfl _⟩ rfl rfl hl.1 rfl (lv_room (Nat.le_of_ble_eq_true rfl)) dX6_turnFrom_28 ⟨Nat.zero_le _, Nat.zero_le _⟩) hP hD hS hA [] [0, 1] rfl rfl rfl (by decide) (fun H locs hP hD hS => ?_)
  have hP : va_P (dC, dI) vwCl [(h_p1, .inr (5, [.int p1_wide, .int p1_high, .int p1_hex, .long p1_ones, .long p1_twos])), (h_o, .inr (5, [.int q13.1, .int q13.2.1, .int q13.2.2.1, .long q13.2.2.2.1, .long q13.2.2.2.2]))] H := hP
  have hD : va_D A [(h_p1, .inr (5, [.int p1_wide, .int p1_high, .int p1_hex, .long p1_ones, .long p1_twos])), (h_o, .inr (5, [.int q13.1, .int q13.2.1, .int q13.2.2.1, .long q13.2.2.2.1, .long q13.2.2.2.2]))] := hD
  refine lv_istore (lv' := [(5, .int q28), (4, .int q18), (0, .ref h_o), (1, .ref h_p1), (2, .int p2), (3, .int p3)]) hx hb dX6_turnFrom_31 hl (by decide) rfl (fun ls hl => ?_)
  refine lv_iload_n hx hb dX6_turnFrom_33 rfl (lv_at hl 4 rfl) ?_
  refine lv_iload hx hb dX6_turnFrom_34 (lv_at hl 1 rfl) ?_
  refine lv_iconst (v := 1) hx hb dX6_turnFrom_36 (by decide) ?_
  refine lv_iconst (v := 0) hx hb dX6_turnFrom_37 (by decide) ?_
  obtain ⟨q38, hq38, hf⟩ := ds_ob hf
  refine ds_calli (wr := [(h_p1, .inr (5, [.int p1_wide, .int p1_high, .int p1_hex, .long p1_ones, .long p1_twos])), (h_o, .inr (5, [.int q13.1, .int q13.2.1, .int q13.2.2.1, .long q13.2.2.2.1, .long q13.2.2.2.2]))]) (va_runS (As := [.int p2, .int q18, .int (1 : Int32), .int (0 : Int32)]) (rest := []) ⟨hx, hb, hml, hown, hts⟩ (c_X1_turnedY l dC dI ca sa  H.size  p2 q18 (1 : Int32) (0 : Int32) q38 hq38) (va_cwS 4 hts (ds_gS kw_95 kw_96 kw_2 kw_97) rfl rfl rfl (by decide +kernel) ⟨Nat.le_of_ble_eq_true rfl, Nat.le_of_ble_eq_true rfl⟩) ⟨ds_blind, ds_at hP hD hK hE hS hA [] rfl rfl _⟩ rfl rfl hl.1 rfl (lv_room (Nat.le_of_ble_eq_true rfl)) dX6_turnFrom_38 ⟨Nat.zero_le _, Nat.zero_le _⟩) hP hD hS hA [] [0, 1] rfl rfl rfl (by decide) (fun H locs hP hD hS => ?_)
  have hP : va_P (dC, dI) vwCl [(h_p1, .inr (5, [.int p1_wide, .int p1_high, .int p1_hex, .long p1_ones, .long p1_twos])), (h_o, .inr (5, [.int q13.1, .int q13.2.1, .int q13.2.2.1, .long q13.2.2.2.1, .long q13.2.2.2.2]))] H := hP
  have hD : va_D A [(h_p1, .inr (5, [.int p1_wide, .int p1_high, .int p1_hex, .long p1_ones, .long p1_twos])), (h_o, .inr (5, [.int q13.1, .int q13.2.1, .int q13.2.2.1, .long q13.2.2.2.1, .long q13.2.2.2.2]))] := hD
  refine lv_istore (lv' := [(6, .int q38), (5, .int q28), (4, .int q18), (0, .ref h_o), (1, .ref h_p1), (2, .int p2), (3, .int p3)]) hx hb dX6_turnFrom_41 hl (by decide) rfl (fun ls hl => ?_)
  refine lv_iload_n hx hb dX6_turnFrom_43 rfl (lv_at hl 5 rfl) ?_
  refine lv_iload hx hb dX6_turnFrom_44 (lv_at hl 2 rfl) ?_
  refine lv_iconst (v := 0) hx hb dX6_turnFrom_46 (by decide) ?_
  refine lv_iconst (v := 1) hx hb dX6_turnFrom_47 (by decide) ?_
  obtain ⟨q48, hq48, hf⟩ := ds_ob hf
  refine ds_calli (wr := [(h_p1, .inr (5, [.int p1_wide, .int p1_high, .int p1_hex, .long p1_ones, .long p1_twos])), (h_o, .inr (5, [.int q13.1, .int q13.2.1, .int q13.2.2.1, .long q13.2.2.2.1, .long q13.2.2.2.2]))]) (va_runS (As := [.int p2, .int q18, .int (0 : Int32), .int (1 : Int32)]) (rest := []) ⟨hx, hb, hml, hown, hts⟩ (c_X1_turnedX l dC dI ca sa  H.size  p2 q18 (0 : Int32) (1 : Int32) q48 hq48) (va_cwS 4 hts (ds_gS kw_92 kw_93 kw_2 kw_94) rfl rfl rfl (by decide +kernel) ⟨Nat.le_of_ble_eq_true rfl, Nat.le_of_ble_eq_true rfl⟩) ⟨ds_blind, ds_at hP hD hK hE hS hA [] rfl rfl _⟩ rfl rfl hl.1 rfl (lv_room (Nat.le_of_ble_eq_true rfl)) dX6_turnFrom_48 ⟨Nat.zero_le _, Nat.zero_le _⟩) hP hD hS hA [] [0, 1] rfl rfl rfl (by decide) (fun H locs hP hD hS => ?_)
  have hP : va_P (dC, dI) vwCl [(h_p1, .inr (5, [.int p1_wide, .int p1_high, .int p1_hex, .long p1_ones, .long p1_twos])), (h_o, .inr (5, [.int q13.1, .int q13.2.1, .int q13.2.2.1, .long q13.2.2.2.1, .long q13.2.2.2.2]))] H := hP
  have hD : va_D A [(h_p1, .inr (5, [.int p1_wide, .int p1_high, .int p1_hex, .long p1_ones, .long p1_twos])), (h_o, .inr (5, [.int q13.1, .int q13.2.1, .int q13.2.2.1, .long q13.2.2.2.1, .long q13.2.2.2.2]))] := hD
  refine lv_istore (lv' := [(7, .int q48), (6, .int q38), (5, .int q28), (4, .int q18), (0, .ref h_o), (1, .ref h_p1), (2, .int p2), (3, .int p3)]) hx hb dX6_turnFrom_51 hl (by decide) rfl (fun ls hl => ?_)
  refine lv_iload_n hx hb dX6_turnFrom_53 rfl (lv_at hl 6 rfl) ?_
  refine lv_iload hx hb dX6_turnFrom_54 (lv_at hl 3 rfl) ?_
  refine lv_iconst (v := 0) hx hb dX6_turnFrom_56 (by decide) ?_
  refine lv_iconst (v := 1) hx hb dX6_turnFrom_57 (by decide) ?_
  obtain ⟨q58, hq58, hf⟩ := ds_ob hf
  refine ds_calli (wr := [(h_p1, .inr (5, [.int p1_wide, .int p1_high, .int p1_hex, .long p1_ones, .long p1_twos])), (h_o, .inr (5, [.int q13.1, .int q13.2.1, .int q13.2.2.1, .long q13.2.2.2.1, .long q13.2.2.2.2]))]) (va_runS (As := [.int p2, .int q18, .int (0 : Int32), .int (1 : Int32)]) (rest := []) ⟨hx, hb, hml, hown, hts⟩ (c_X1_turnedY l dC dI ca sa  H.size  p2 q18 (0 : Int32) (1 : Int32) q58 hq58) (va_cwS 4 hts (ds_gS kw_95 kw_96 kw_2 kw_97) rfl rfl rfl (by decide +kernel) ⟨Nat.le_of_ble_eq_true rfl, Nat.le_of_ble_eq_true rfl⟩) ⟨ds_blind, ds_at hP hD hK hE hS hA [] rfl rfl _⟩ rfl rfl hl.1 rfl (lv_room (Nat.le_of_ble_eq_true rfl)) dX6_turnFrom_58 ⟨Nat.zero_le _, Nat.zero_le _⟩) hP hD hS hA [] [0, 1] rfl rfl rfl (by decide) (fun H locs hP hD hS => ?_)
  have hP : va_P (dC, dI) vwCl [(h_p1, .inr (5, [.int p1_wide, .int p1_high, .int p1_hex, .long p1_ones, .long p1_twos])), (h_o, .inr (5, [.int q13.1, .int q13.2.1, .int q13.2.2.1, .long q13.2.2.2.1, .long q13.2.2.2.2]))] H := hP
  have hD : va_D A [(h_p1, .inr (5, [.int p1_wide, .int p1_high, .int p1_hex, .long p1_ones, .long p1_twos])), (h_o, .inr (5, [.int q13.1, .int q13.2.1, .int q13.2.2.1, .long q13.2.2.2.1, .long q13.2.2.2.2]))] := hD
  refine lv_istore (lv' := [(8, .int q58), (7, .int q48), (6, .int q38), (5, .int q28), (4, .int q18), (0, .ref h_o), (1, .ref h_p1), (2, .int p2), (3, .int p3)]) hx hb dX6_turnFrom_61 hl (by decide) rfl (fun ls hl => ?_)
  refine lv_aload_n hx hb dX6_turnFrom_63 rfl (lv_at hl 6 rfl) ?_
  refine lv_aload_n hx hb dX6_turnFrom_64 rfl (lv_at hl 5 rfl) ?_
  refine va_get (D := (dC, dI)) (ci := 5) (v := .int q13.1) (C := RX6) (T := TX6) (N := 5) hx hb hts (fun w h => List.mem_cons_of_mem _ (kc_X6 w h)) hown hK hP 1 rfl rfl 0 (by decide) (hg kw_48) (fun _ h9 => h9) rfl dX6_turnFrom_65 ?_
  refine lv_iload hx hb dX6_turnFrom_68 (lv_at hl 3 rfl) ?_
  refine lv_imul hx hb dX6_turnFrom_70 ?_
  refine lv_aload_n hx hb dX6_turnFrom_71 rfl (lv_at hl 5 rfl) ?_
  refine va_get (D := (dC, dI)) (ci := 5) (v := .int q13.1) (C := RX6) (T := TX6) (N := 5) hx hb hts (fun w h => List.mem_cons_of_mem _ (kc_X6 w h)) hown hK hP 1 rfl rfl 0 (by decide) (hg kw_48) (fun _ h9 => h9) rfl dX6_turnFrom_72 ?_
  refine lv_iload hx hb dX6_turnFrom_75 (lv_at hl 2 rfl) ?_
  refine lv_imul hx hb dX6_turnFrom_77 ?_
  obtain ⟨q78, hq78, hf⟩ := ds_ob hf
  refine ds_calli (wr := [(h_o, .inr (5, [.int q13.1, .int q13.2.1, .int q13.2.2.1, .long q13.2.2.2.1, .long q13.2.2.2.2]))]) (va_runV (As := [.int (q13.1 * q28), .int (q13.1 * q38)]) (rest := []) ⟨hx, hb, hml, hown, hts⟩ (c_X6_comesAgainBy l dC dI ca sa h_p1 H.size p1_wide p1_high p1_hex p1_ones p1_twos (q13.1 * q28) (q13.1 * q38) q78 hq78) (cwV 2 hts (ds_gV kw_98 kw_99 kw_100 kw_59 kw_101) rfl rfl rfl (by decide +kernel) ⟨Nat.le_of_ble_eq_true rfl, Nat.le_of_ble_eq_true rfl⟩) ⟨ds_blind, va_recv hK hP (ci := 5) (q0 := 0) rfl rfl, ds_at hP hD hK hE hS hA [0] rfl rfl _⟩ rfl rfl hl.1 rfl (lv_room (Nat.le_of_ble_eq_true rfl)) dX6_turnFrom_78 ⟨Nat.zero_le _, Nat.zero_le _⟩) hP hD hS hA [0] [1] rfl rfl rfl (by decide) (fun H locs hP hD hS => ?_)
  have hP : va_P (dC, dI) vwCl [(h_o, .inr (5, [.int q13.1, .int q13.2.1, .int q13.2.2.1, .long q13.2.2.2.1, .long q13.2.2.2.2])), (h_p1, .inr (5, [.int p1_wide, .int p1_high, .int p1_hex, .long p1_ones, .long p1_twos]))] H := hP
  have hD : va_D A [(h_o, .inr (5, [.int q13.1, .int q13.2.1, .int q13.2.2.1, .long q13.2.2.2.1, .long q13.2.2.2.2])), (h_p1, .inr (5, [.int p1_wide, .int p1_high, .int p1_hex, .long p1_ones, .long p1_twos]))] := hD
  refine lv_if_eq (tgt := 105) hx hb dX6_turnFrom_81 (by decide) (fun c_81 => ?_) (fun c_81 => ?_)
  · replace hf := ds_t c_81 hf
    refine lv_iconst (v := 0) hx hb dX6_turnFrom_105 (by decide) ?_
    have hf := Option.some.inj hf
    subst hf
    rw [eG0] at hG
    have hG : _ = res := hG
    subst hG
    exact W.zret (v := (0 : Int32)) (ty := .boolean) hx hb hr rfl (fun t ht hW => ⟨⟨(0 : Int32), (), rfl, rfl, by rw [ht]; exact (hP.sub [1, 0] rfl), (hD.sub [1, 0] rfl rfl)⟩, hS.F ht⟩) hS.2.2 dX6_turnFrom_106
  · replace hf := ds_f c_81 hf
    refine lv_aload_n hx hb dX6_turnFrom_84 rfl (lv_at hl 6 rfl) ?_
    refine lv_aload_n hx hb dX6_turnFrom_85 rfl (lv_at hl 5 rfl) ?_
    refine va_get (D := (dC, dI)) (ci := 5) (v := .int q13.2.1) (C := RX6) (T := TX6) (N := 5) hx hb hts (fun w h => List.mem_cons_of_mem _ (kc_X6 w h)) hown hK hP 0 rfl rfl 1 (by decide) (hg kw_54) (fun _ h9 => h9) rfl dX6_turnFrom_86 ?_
    refine lv_iload hx hb dX6_turnFrom_89 (lv_at hl 1 rfl) ?_
    refine lv_imul hx hb dX6_turnFrom_91 ?_
    refine lv_aload_n hx hb dX6_turnFrom_92 rfl (lv_at hl 5 rfl) ?_
    refine va_get (D := (dC, dI)) (ci := 5) (v := .int q13.2.1) (C := RX6) (T := TX6) (N := 5) hx hb hts (fun w h => List.mem_cons_of_mem _ (kc_X6 w h)) hown hK hP 0 rfl rfl 1 (by decide) (hg kw_54) (fun _ h9 => h9) rfl dX6_turnFrom_93 ?_
    refine lv_iload hx hb dX6_turnFrom_96 (lv_at hl 0 rfl) ?_
    refine lv_imul hx hb dX6_turnFrom_98 ?_
    obtain ⟨q99, hq99, hf⟩ := ds_ob hf
    refine ds_calli (wr := [(h_o, .inr (5, [.int q13.1, .int q13.2.1, .int q13.2.2.1, .long q13.2.2.2.1, .long q13.2.2.2.2]))]) (va_runV (As := [.int (q13.2.1 * q48), .int (q13.2.1 * q58)]) (rest := []) ⟨hx, hb, hml, hown, hts⟩ (c_X6_comesAgainBy l dC dI ca sa h_p1 H.size p1_wide p1_high p1_hex p1_ones p1_twos (q13.2.1 * q48) (q13.2.1 * q58) q99 hq99) (cwV 2 hts (ds_gV kw_98 kw_99 kw_100 kw_59 kw_101) rfl rfl rfl (by decide +kernel) ⟨Nat.le_of_ble_eq_true rfl, Nat.le_of_ble_eq_true rfl⟩) ⟨ds_blind, va_recv hK hP (ci := 5) (q0 := 1) rfl rfl, ds_at hP hD hK hE hS hA [1] rfl rfl _⟩ rfl rfl hl.1 rfl (lv_room (Nat.le_of_ble_eq_true rfl)) dX6_turnFrom_99 ⟨Nat.zero_le _, Nat.zero_le _⟩) hP hD hS hA [1] [0] rfl rfl rfl (by decide) (fun H locs hP hD hS => ?_)
    have hP : va_P (dC, dI) vwCl [(h_o, .inr (5, [.int q13.1, .int q13.2.1, .int q13.2.2.1, .long q13.2.2.2.1, .long q13.2.2.2.2])), (h_p1, .inr (5, [.int p1_wide, .int p1_high, .int p1_hex, .long p1_ones, .long p1_twos]))] H := hP
    have hD : va_D A [(h_o, .inr (5, [.int q13.1, .int q13.2.1, .int q13.2.2.1, .long q13.2.2.2.1, .long q13.2.2.2.2])), (h_p1, .inr (5, [.int p1_wide, .int p1_high, .int p1_hex, .long p1_ones, .long p1_twos]))] := hD
    refine lv_if_ne (tgt := 107) hx hb dX6_turnFrom_102 (by decide) (fun c_102 => ?_) (fun c_102 => ?_)
    · replace hf := ds_f c_102 hf
      refine lv_iconst (v := 0) hx hb dX6_turnFrom_107 (by decide) ?_
      refine lv_istore (lv' := [(9, .int (0 : Int32)), (8, .int q58), (7, .int q48), (6, .int q38), (5, .int q28), (4, .int q18), (0, .ref h_o), (1, .ref h_p1), (2, .int p2), (3, .int p3)]) hx hb dX6_turnFrom_108 hl (by decide) rfl (fun ls hl => ?_)
      exact h1 (J_110 q28 q38 q48 q58 q13.1 q13.2.1 q13.2.2.1 1000 (0 : Int32) q13.2.2.2.1 q13.2.2.2.2 _ hf hG _ _ (hP.sub [1, 0] rfl) (hD.sub [1, 0] rfl rfl) hS _ (lv_sub hl [6, 7, 4, 3, 2, 1, 0] rfl))
    · replace hf := ds_t c_102 hf
      refine lv_iconst (v := 0) hx hb dX6_turnFrom_105 (by decide) ?_
      have hf := Option.some.inj hf
      subst hf
      rw [eG0] at hG
      have hG : _ = res := hG
      subst hG
      exact W.zret (v := (0 : Int32)) (ty := .boolean) hx hb hr rfl (fun t ht hW => ⟨⟨(0 : Int32), (), rfl, rfl, by rw [ht]; exact (hP.sub [1, 0] rfl), (hD.sub [1, 0] rfl rfl)⟩, hS.F ht⟩) hS.2.2 dX6_turnFrom_106
theorem dX6_bit_0 : decode cX6_bit 0 = .ok (.lconst 1, 1) := by decide +kernel
theorem dX6_bit_1 : decode cX6_bit 1 = .ok (.bipush 8, 2) := by decide +kernel
theorem dX6_bit_3 : decode cX6_bit 3 = .ok (.iload_n 1, 1) := by decide +kernel
theorem dX6_bit_4 : decode cX6_bit 4 = .ok (.imul, 1) := by decide +kernel
theorem dX6_bit_5 : decode cX6_bit 5 = .ok (.iload_n 0, 1) := by decide +kernel
theorem dX6_bit_6 : decode cX6_bit 6 = .ok (.iadd, 1) := by decide +kernel
theorem dX6_bit_7 : decode cX6_bit 7 = .ok (.lshl, 1) := by decide +kernel
theorem dX6_bit_8 : decode cX6_bit 8 = .ok (.lreturn, 1) := by decide +kernel
def fX6_bit (p1 : Int32) (p2 : Int32) : Option (Int64) :=
  some (ds_lshl (1 : Int64) (((8 : Int32) * p2) + p1))
set_option maxHeartbeats 4000000 in
set_option maxRecDepth 100000 in
theorem c_X6_bit (l : Launch) (dC : Nat → ClassId) (dI : Nat → Nat → Nat) (ca : Nat → ClassId) (sa : Nat → Nat) (sz : Nat) (p1 : Int32) (p2 : Int32) (res : Int64) (hf : fX6_bit p1 p2 = some res) : Met l yX6_bit (Cond.code yX6_bit cX6_bit 2 (some .long) :: ds_gw) { frames := 0, cells := 0, slots := 0, locals := 0 } (va_Pc [.int p1, .int p2] (ds_Pre dC dI ca sa [] sz)) (va_Ql (fun r (_ : Unit) => r = res) (ds_B dC dI (va_A [] sz) []) (va_A [] sz)) 0 0 (va_A [] sz) := by
  refine Met.ofW (cc := cX6_bit) (maxL := 2) (ret := (some .long)) (by decide) rfl ?_
  intro p e s m args below meth c s₁ B hml hv
  obtain ⟨rfl, hsz, hP, hK, hD0, hE⟩ := hv
  have hx := B.exec
  have hb := B.bytes
  have hr := B.returns
  have hts := atoms_spec (ws := Cond.code yX6_bit cX6_bit 2 (some .long) :: ds_gw) B.pre
  have hg : ∀ {w : Cond}, w ∈ ds_gw → w.before _ s = true := fun h => hts _ (List.mem_cons_of_mem _ h)
  have hown : s.vm.findClass RX6 = some m.cls := findClass_of_methodNamed B.named
  have hlocks := B.notSynchronized
  subst hsz
  have hD := hD0.self (sz := s.heap.size)
  generalize hAe : va_A [] s.heap.size = A at hD hE ⊢
  have hA : ∀ q : Nat, s.heap.size ≤ q → A q := fun q h => by rw [← hAe]; exact Or.inr h
  have hS : va_S A s.heap s.heap [] := va_S.rf
  have hl := lv_entry ([.int p1, .int p2]) (n := 2) (Nat.le_of_ble_eq_true rfl)
  rw [lg_entry_eq]
  generalize (lg_sl ([.int p1, .int p2]) ++ List.replicate (2 - (lg_sl ([.int p1, .int p2])).length) Slot.unset).toArray = ls at hl ⊢
  have hl : lv_has ls 2 [(0, .int p1), (1, .int p2)] := hl
  obtain ⟨G0, eG0⟩ : ∃ G : Int64 → Prop, G = (fun r => r = res) := ⟨_, rfl⟩
  obtain ⟨rr, hrr⟩ : ∃ z, z = res := ⟨_, rfl⟩
  rw [← hrr] at hf
  have hG : G0 rr := by subst eG0; exact hrr
  unfold fX6_bit at hf
  refine lv_lconst (v := 1) hx hb dX6_bit_0 (by decide) ?_
  refine lv_bipush (v := 8) hx hb dX6_bit_1 (by decide) ?_
  refine lv_iload_n hx hb dX6_bit_3 rfl (lv_at hl 1 rfl) ?_
  refine lv_imul hx hb dX6_bit_4 ?_
  refine lv_iload_n hx hb dX6_bit_5 rfl (lv_at hl 0 rfl) ?_
  refine lv_iadd hx hb dX6_bit_6 ?_
  refine lv_lshl (v := (ds_lshl (1 : Int64) (((8 : Int32) * p2) + p1))) hx hb dX6_bit_7 rfl ?_
  have hf := Option.some.inj hf
  subst hf
  rw [eG0] at hG
  have hG : _ = res := hG
  subst hG
  exact W.lret (v := (ds_lshl (1 : Int64) (((8 : Int32) * p2) + p1))) hx hb hr (fun t ht hW => ⟨⟨(ds_lshl (1 : Int64) (((8 : Int32) * p2) + p1)), (), rfl, rfl, by rw [ht]; exact hP, hD⟩, hS.F ht⟩) hS.2.2 dX6_bit_8
theorem dX6_stepsFrom_0 : decode cX6_stepsFrom 0 = .ok (.lconst 0, 1) := by decide +kernel
theorem dX6_stepsFrom_1 : decode cX6_stepsFrom 1 = .ok (.lstore_n 2, 1) := by decide +kernel
theorem dX6_stepsFrom_2 : decode cX6_stepsFrom 2 = .ok (.iconst 0, 1) := by decide +kernel
theorem dX6_stepsFrom_3 : decode cX6_stepsFrom 3 = .ok (.istore 4, 2) := by decide +kernel
theorem dX6_stepsFrom_5 : decode cX6_stepsFrom 5 = .ok (.iload 4, 2) := by decide +kernel
theorem dX6_stepsFrom_7 : decode cX6_stepsFrom 7 = .ok (.aload_n 0, 1) := by decide +kernel
theorem dX6_stepsFrom_8 : decode cX6_stepsFrom 8 = .ok (.getfield 15, 3) := by decide +kernel
theorem dX6_stepsFrom_11 : decode cX6_stepsFrom 11 = .ok (.if_icmp .ge 93, 3) := by decide +kernel
theorem dX6_stepsFrom_14 : decode cX6_stepsFrom 14 = .ok (.aload_n 0, 1) := by decide +kernel
theorem dX6_stepsFrom_15 : decode cX6_stepsFrom 15 = .ok (.aload_n 1, 1) := by decide +kernel
theorem dX6_stepsFrom_16 : decode cX6_stepsFrom 16 = .ok (.getfield 22, 3) := by decide +kernel
theorem dX6_stepsFrom_19 : decode cX6_stepsFrom 19 = .ok (.iload 4, 2) := by decide +kernel
theorem dX6_stepsFrom_21 : decode cX6_stepsFrom 21 = .ok (.invokevirtual 62, 3) := by decide +kernel
theorem dX6_stepsFrom_24 : decode cX6_stepsFrom 24 = .ok (.lstore 5, 2) := by decide +kernel
theorem dX6_stepsFrom_26 : decode cX6_stepsFrom 26 = .ok (.aload_n 0, 1) := by decide +kernel
theorem dX6_stepsFrom_27 : decode cX6_stepsFrom 27 = .ok (.aload_n 1, 1) := by decide +kernel
theorem dX6_stepsFrom_28 : decode cX6_stepsFrom 28 = .ok (.getfield 26, 3) := by decide +kernel
theorem dX6_stepsFrom_31 : decode cX6_stepsFrom 31 = .ok (.iload 4, 2) := by decide +kernel
theorem dX6_stepsFrom_33 : decode cX6_stepsFrom 33 = .ok (.invokevirtual 62, 3) := by decide +kernel
theorem dX6_stepsFrom_36 : decode cX6_stepsFrom 36 = .ok (.lstore 7, 2) := by decide +kernel
theorem dX6_stepsFrom_38 : decode cX6_stepsFrom 38 = .ok (.iconst 0, 1) := by decide +kernel
theorem dX6_stepsFrom_39 : decode cX6_stepsFrom 39 = .ok (.istore 9, 2) := by decide +kernel
theorem dX6_stepsFrom_41 : decode cX6_stepsFrom 41 = .ok (.iload 9, 2) := by decide +kernel
theorem dX6_stepsFrom_43 : decode cX6_stepsFrom 43 = .ok (.aload_n 0, 1) := by decide +kernel
theorem dX6_stepsFrom_44 : decode cX6_stepsFrom 44 = .ok (.getfield 9, 3) := by decide +kernel
theorem dX6_stepsFrom_47 : decode cX6_stepsFrom 47 = .ok (.if_icmp .ge 51, 3) := by decide +kernel
theorem dX6_stepsFrom_50 : decode cX6_stepsFrom 50 = .ok (.aload_n 0, 1) := by decide +kernel
theorem dX6_stepsFrom_51 : decode cX6_stepsFrom 51 = .ok (.lload 5, 2) := by decide +kernel
theorem dX6_stepsFrom_53 : decode cX6_stepsFrom 53 = .ok (.iload 9, 2) := by decide +kernel
theorem dX6_stepsFrom_55 : decode cX6_stepsFrom 55 = .ok (.invokevirtual 66, 3) := by decide +kernel
theorem dX6_stepsFrom_58 : decode cX6_stepsFrom 58 = .ok (.aload_n 0, 1) := by decide +kernel
theorem dX6_stepsFrom_59 : decode cX6_stepsFrom 59 = .ok (.getfield 22, 3) := by decide +kernel
theorem dX6_stepsFrom_62 : decode cX6_stepsFrom 62 = .ok (.lcmp, 1) := by decide +kernel
theorem dX6_stepsFrom_63 : decode cX6_stepsFrom 63 = .ok (.ifCond .ne 29, 3) := by decide +kernel
theorem dX6_stepsFrom_66 : decode cX6_stepsFrom 66 = .ok (.aload_n 0, 1) := by decide +kernel
theorem dX6_stepsFrom_67 : decode cX6_stepsFrom 67 = .ok (.lload 7, 2) := by decide +kernel
theorem dX6_stepsFrom_69 : decode cX6_stepsFrom 69 = .ok (.iload 9, 2) := by decide +kernel
theorem dX6_stepsFrom_71 : decode cX6_stepsFrom 71 = .ok (.invokevirtual 66, 3) := by decide +kernel
theorem dX6_stepsFrom_74 : decode cX6_stepsFrom 74 = .ok (.aload_n 0, 1) := by decide +kernel
theorem dX6_stepsFrom_75 : decode cX6_stepsFrom 75 = .ok (.getfield 26, 3) := by decide +kernel
theorem dX6_stepsFrom_78 : decode cX6_stepsFrom 78 = .ok (.lcmp, 1) := by decide +kernel
theorem dX6_stepsFrom_79 : decode cX6_stepsFrom 79 = .ok (.ifCond .ne 13, 3) := by decide +kernel
theorem dX6_stepsFrom_82 : decode cX6_stepsFrom 82 = .ok (.lload_n 2, 1) := by decide +kernel
theorem dX6_stepsFrom_83 : decode cX6_stepsFrom 83 = .ok (.iload 9, 2) := by decide +kernel
theorem dX6_stepsFrom_85 : decode cX6_stepsFrom 85 = .ok (.iload 4, 2) := by decide +kernel
theorem dX6_stepsFrom_87 : decode cX6_stepsFrom 87 = .ok (.invokestatic 41, 3) := by decide +kernel
theorem dX6_stepsFrom_90 : decode cX6_stepsFrom 90 = .ok (.lor, 1) := by decide +kernel
theorem dX6_stepsFrom_91 : decode cX6_stepsFrom 91 = .ok (.lstore_n 2, 1) := by decide +kernel
theorem dX6_stepsFrom_92 : decode cX6_stepsFrom 92 = .ok (.iinc 9 1, 3) := by decide +kernel
theorem dX6_stepsFrom_95 : decode cX6_stepsFrom 95 = .ok (.goto (-54), 3) := by decide +kernel
theorem dX6_stepsFrom_98 : decode cX6_stepsFrom 98 = .ok (.iinc 4 1, 3) := by decide +kernel
theorem dX6_stepsFrom_101 : decode cX6_stepsFrom 101 = .ok (.goto (-96), 3) := by decide +kernel
theorem dX6_stepsFrom_104 : decode cX6_stepsFrom 104 = .ok (.lload_n 2, 1) := by decide +kernel
theorem dX6_stepsFrom_105 : decode cX6_stepsFrom 105 = .ok (.lreturn, 1) := by decide +kernel
def fX6_stepsFrom_98 (u2 : Int64) (v4 : Int32) : Option ((Int64 × Int32) ⊕ (Int64)) :=
  some (.inl (u2, (v4 + 1)))
def fX6_stepsFrom_92 (u2 : Int64) (v9 : Int32) : Option ((Int64 × Int32) ⊕ ((Int64 × Int32) ⊕ (Int64))) :=
  some (.inl (u2, (v9 + 1)))
def fX6_stepsFrom_41_b (o_wide : Int32) (o_high : Int32) (o_ones : Int64) (o_twos : Int64) (v4 : Int32) (u5 : Int64) (u7 : Int64) (u2 : Int64) (v9 : Int32) : Option ((Int64 × Int32) ⊕ ((Int64 × Int32) ⊕ (Int64))) :=
  if o_wide ≤ v9 then Option.bind (fX6_stepsFrom_98 u2 v4) fun z => some (.inr z) else Option.bind (fX6_rolledAlong o_wide o_high u5 v9) fun q55 => if (lg_cmp q55 o_ones) = 0 then Option.bind (fX6_rolledAlong o_wide o_high u7 v9) fun q71 => if (lg_cmp q71 o_twos) = 0 then Option.bind (fX6_bit v9 v4) fun q87 => fX6_stepsFrom_92 (u2 ||| q87) v9 else fX6_stepsFrom_92 u2 v9 else fX6_stepsFrom_92 u2 v9
def fX6_stepsFrom_41 (o_wide : Int32) (o_high : Int32) (o_ones : Int64) (o_twos : Int64) (v4 : Int32) (u5 : Int64) (u7 : Int64) (u2 : Int64) (v9 : Int32) : Option ((Int64 × Int32) ⊕ (Int64)) := ds_it (fun s => fX6_stepsFrom_41_b o_wide o_high o_ones o_twos v4 u5 u7 s.1 s.2) 1000 (u2, v9)
def fX6_stepsFrom_5_b (o_wide : Int32) (o_high : Int32) (o_ones : Int64) (o_twos : Int64) (p1_ones : Int64) (p1_twos : Int64) (u2 : Int64) (v4 : Int32) : Option ((Int64 × Int32) ⊕ (Int64)) :=
  if o_high ≤ v4 then some (.inr u2) else Option.bind (fX6_rolledDown o_wide o_high p1_ones v4) fun q21 => Option.bind (fX6_rolledDown o_wide o_high p1_twos v4) fun q33 => fX6_stepsFrom_41 o_wide o_high o_ones o_twos v4 q21 q33 u2 (0 : Int32)
def fX6_stepsFrom_5 (o_wide : Int32) (o_high : Int32) (o_ones : Int64) (o_twos : Int64) (p1_ones : Int64) (p1_twos : Int64) (u2 : Int64) (v4 : Int32) : Option (Int64) := ds_it (fun s => fX6_stepsFrom_5_b o_wide o_high o_ones o_twos p1_ones p1_twos s.1 s.2) 1000 (u2, v4)
def fX6_stepsFrom (o_wide : Int32) (o_high : Int32) (o_ones : Int64) (o_twos : Int64) (p1_ones : Int64) (p1_twos : Int64) : Option (Int64) :=
  fX6_stepsFrom_5 o_wide o_high o_ones o_twos p1_ones p1_twos (0 : Int64) (0 : Int32)
set_option maxHeartbeats 4000000 in
set_option maxRecDepth 100000 in
theorem c_X6_stepsFrom (l : Launch) (dC : Nat → ClassId) (dI : Nat → Nat → Nat) (ca : Nat → ClassId) (sa : Nat → Nat) (h_o : Nat) (h_p1 : Nat) (sz : Nat) (o_wide : Int32) (o_high : Int32) (o_hex : Int32) (o_ones : Int64) (o_twos : Int64) (p1_wide : Int32) (p1_high : Int32) (p1_hex : Int32) (p1_ones : Int64) (p1_twos : Int64) (res : Int64) (hf : fX6_stepsFrom o_wide o_high o_ones o_twos p1_ones p1_twos = some res) : Met l yX6_stepsFrom (Cond.code yX6_stepsFrom cX6_stepsFrom 10 (some .long) :: ds_gw) { frames := 2, cells := 0, slots := 0, locals := 49 } (va_Pc [.ref h_o, .ref h_p1] (ds_Pre dC dI ca sa [(h_o, .inr (5, [.int o_wide, .int o_high, .int o_hex, .long o_ones, .long o_twos])), (h_p1, .inr (5, [.int p1_wide, .int p1_high, .int p1_hex, .long p1_ones, .long p1_twos]))] sz)) (va_Ql (fun r (_ : Unit) => r = res) (ds_B dC dI (va_A [(h_o, .inr (5, [.int o_wide, .int o_high, .int o_hex, .long o_ones, .long o_twos])), (h_p1, .inr (5, [.int p1_wide, .int p1_high, .int p1_hex, .long p1_ones, .long p1_twos]))] sz) [(h_o, .inr (5, [.int o_wide, .int o_high, .int o_hex, .long o_ones, .long o_twos])), (h_p1, .inr (5, [.int p1_wide, .int p1_high, .int p1_hex, .long p1_ones, .long p1_twos]))]) (va_A [(h_o, .inr (5, [.int o_wide, .int o_high, .int o_hex, .long o_ones, .long o_twos])), (h_p1, .inr (5, [.int p1_wide, .int p1_high, .int p1_hex, .long p1_ones, .long p1_twos]))] sz)) 0 0 (va_A [(h_o, .inr (5, [.int o_wide, .int o_high, .int o_hex, .long o_ones, .long o_twos])), (h_p1, .inr (5, [.int p1_wide, .int p1_high, .int p1_hex, .long p1_ones, .long p1_twos]))] sz) := by
  refine Met.ofW (cc := cX6_stepsFrom) (maxL := 10) (ret := (some .long)) (by decide) rfl ?_
  intro p e s m args below meth c s₁ B hml hv
  obtain ⟨rfl, hsz, hP, hK, hD0, hE⟩ := hv
  have hx := B.exec
  have hb := B.bytes
  have hr := B.returns
  have hts := atoms_spec (ws := Cond.code yX6_stepsFrom cX6_stepsFrom 10 (some .long) :: ds_gw) B.pre
  have hg : ∀ {w : Cond}, w ∈ ds_gw → w.before _ s = true := fun h => hts _ (List.mem_cons_of_mem _ h)
  have hown : s.vm.findClass RX6 = some m.cls := findClass_of_methodNamed B.named
  have hlocks := B.notSynchronized
  subst hsz
  have hD := hD0.self (sz := s.heap.size)
  generalize hAe : va_A [(h_o, .inr (5, [.int o_wide, .int o_high, .int o_hex, .long o_ones, .long o_twos])), (h_p1, .inr (5, [.int p1_wide, .int p1_high, .int p1_hex, .long p1_ones, .long p1_twos]))] s.heap.size = A at hD hE ⊢
  have hA : ∀ q : Nat, s.heap.size ≤ q → A q := fun q h => by rw [← hAe]; exact Or.inr h
  have hS : va_S A s.heap s.heap [] := va_S.rf
  have hl := lv_entry ([.ref h_o, .ref h_p1]) (n := 10) (Nat.le_of_ble_eq_true rfl)
  rw [lg_entry_eq]
  generalize (lg_sl ([.ref h_o, .ref h_p1]) ++ List.replicate (10 - (lg_sl ([.ref h_o, .ref h_p1])).length) Slot.unset).toArray = ls at hl ⊢
  have hl : lv_has ls 10 [(0, .ref h_o), (1, .ref h_p1)] := hl
  obtain ⟨G0, eG0⟩ : ∃ G : Int64 → Prop, G = (fun r => r = res) := ⟨_, rfl⟩
  obtain ⟨rr, hrr⟩ : ∃ z, z = res := ⟨_, rfl⟩
  rw [← hrr] at hf
  have hG : G0 rr := by subst eG0; exact hrr
  refine ds_cap (fun WW h1 h2 => ?_)
  have J_5 : ∀ (n : Nat) (u2 : Int64) (v4 : Int32) (rr : Int64) (hf : ds_it (fun s => fX6_stepsFrom_5_b o_wide o_high o_ones o_twos p1_ones p1_twos s.1 s.2) n (u2, v4) = some rr) (hG : G0 rr) (H : Heap) (locs : List Loc) (hP : va_P (dC, dI) vwCl [(h_o, .inr (5, [.int o_wide, .int o_high, .int o_hex, .long o_ones, .long o_twos])), (h_p1, .inr (5, [.int p1_wide, .int p1_high, .int p1_hex, .long p1_ones, .long p1_twos]))] H) (hD : va_D A [(h_o, .inr (5, [.int o_wide, .int o_high, .int o_hex, .long o_ones, .long o_twos])), (h_p1, .inr (5, [.int p1_wide, .int p1_high, .int p1_hex, .long p1_ones, .long p1_twos]))]) (hS : va_S A s.heap H locs) (ls : Array Slot) (hl : lv_has ls 10 [(0, .ref h_o), (1, .ref h_p1), (2, .long u2), (4, .int v4)]), WW H locs (F0 m 5 ls []) := by
    intro  n
    induction n with
    | zero => intro u2 v4 rr hf; exact (ds_it_zero hf).elim
    | succ n ih5 =>
      intro u2 v4 rr hf hG H locs hP hD hS ls hl
      refine h2 ?_
      obtain ⟨rr, hf, hG⟩ := ds_it_succ hf hG
      replace hf : fX6_stepsFrom_5_b o_wide o_high o_ones o_twos p1_ones p1_twos u2 v4 = some rr := hf
      obtain ⟨G1, eG1⟩ : ∃ G : ((Int64 × Int32) ⊕ (Int64)) → Prop, G = ds_G (fun s' => ∃ r', ds_it (fun s => fX6_stepsFrom_5_b o_wide o_high o_ones o_twos p1_ones p1_twos s.1 s.2) n s' = some r' ∧ G0 r') G0 := ⟨_, rfl⟩
      rw [← eG1] at hG
      have J_98 : ∀ (u2 : Int64) (v4 : Int32) (rr : (Int64 × Int32) ⊕ (Int64)) (hf : fX6_stepsFrom_98 u2 v4 = some rr) (hG : G1 rr) (H : Heap) (locs : List Loc) (hP : va_P (dC, dI) vwCl [(h_o, .inr (5, [.int o_wide, .int o_high, .int o_hex, .long o_ones, .long o_twos])), (h_p1, .inr (5, [.int p1_wide, .int p1_high, .int p1_hex, .long p1_ones, .long p1_twos]))] H) (hD : va_D A [(h_o, .inr (5, [.int o_wide, .int o_high, .int o_hex, .long o_ones, .long o_twos])), (h_p1, .inr (5, [.int p1_wide, .int p1_high, .int p1_hex, .long p1_ones, .long p1_twos]))]) (hS : va_S A s.heap H locs) (ls : Array Slot) (hl : lv_has ls 10 [(0, .ref h_o), (1, .ref h_p1), (2, .long u2), (4, .int v4)]), WW H locs (F0 m 98 ls []) := by
        intro u2 v4 rr hf hG H locs hP hD hS ls hl
        refine h2 ?_
        unfold fX6_stepsFrom_98 at hf
        refine lv_iinc (v := (v4 + 1)) (lv' := [(4, .int (v4 + 1)), (0, .ref h_o), (1, .ref h_p1), (2, .long u2)]) hx hb dX6_stepsFrom_98 hl (k := 3) rfl rfl (by decide) rfl (fun ls hl => ?_)
        refine lv_goto (tgt := 5) hx hb dX6_stepsFrom_101 (by decide) ?_
        have hf := Option.some.inj hf
        subst hf
        rw [eG1] at hG
        obtain ⟨rr, hf, hG⟩ := hG
        exact h1 (ih5 u2 (v4 + 1) rr hf hG _ _ hP hD hS _ (lv_sub hl [1, 2, 3, 0] rfl))
      have J_41 : ∀ (v4 : Int32) (u5 : Int64) (u7 : Int64) (n : Nat) (u2 : Int64) (v9 : Int32) (rr : (Int64 × Int32) ⊕ (Int64)) (hf : ds_it (fun s => fX6_stepsFrom_41_b o_wide o_high o_ones o_twos v4 u5 u7 s.1 s.2) n (u2, v9) = some rr) (hG : G1 rr) (H : Heap) (locs : List Loc) (hP : va_P (dC, dI) vwCl [(h_o, .inr (5, [.int o_wide, .int o_high, .int o_hex, .long o_ones, .long o_twos])), (h_p1, .inr (5, [.int p1_wide, .int p1_high, .int p1_hex, .long p1_ones, .long p1_twos]))] H) (hD : va_D A [(h_o, .inr (5, [.int o_wide, .int o_high, .int o_hex, .long o_ones, .long o_twos])), (h_p1, .inr (5, [.int p1_wide, .int p1_high, .int p1_hex, .long p1_ones, .long p1_twos]))]) (hS : va_S A s.heap H locs) (ls : Array Slot) (hl : lv_has ls 10 [(0, .ref h_o), (1, .ref h_p1), (2, .long u2), (4, .int v4), (5, .long u5), (7, .long u7), (9, .int v9)]), WW H locs (F0 m 41 ls []) := by
        intro v4 u5 u7 n
        induction n with
        | zero => intro u2 v9 rr hf; exact (ds_it_zero hf).elim
        | succ n ih41 =>
          intro u2 v9 rr hf hG H locs hP hD hS ls hl
          refine h2 ?_
          obtain ⟨rr, hf, hG⟩ := ds_it_succ hf hG
          replace hf : fX6_stepsFrom_41_b o_wide o_high o_ones o_twos v4 u5 u7 u2 v9 = some rr := hf
          obtain ⟨G2, eG2⟩ : ∃ G : ((Int64 × Int32) ⊕ ((Int64 × Int32) ⊕ (Int64))) → Prop, G = ds_G (fun s' => ∃ r', ds_it (fun s => fX6_stepsFrom_41_b o_wide o_high o_ones o_twos v4 u5 u7 s.1 s.2) n s' = some r' ∧ G1 r') G1 := ⟨_, rfl⟩
          rw [← eG2] at hG
          have J_92 : ∀ (u2 : Int64) (v9 : Int32) (rr : (Int64 × Int32) ⊕ ((Int64 × Int32) ⊕ (Int64))) (hf : fX6_stepsFrom_92 u2 v9 = some rr) (hG : G2 rr) (H : Heap) (locs : List Loc) (hP : va_P (dC, dI) vwCl [(h_o, .inr (5, [.int o_wide, .int o_high, .int o_hex, .long o_ones, .long o_twos])), (h_p1, .inr (5, [.int p1_wide, .int p1_high, .int p1_hex, .long p1_ones, .long p1_twos]))] H) (hD : va_D A [(h_o, .inr (5, [.int o_wide, .int o_high, .int o_hex, .long o_ones, .long o_twos])), (h_p1, .inr (5, [.int p1_wide, .int p1_high, .int p1_hex, .long p1_ones, .long p1_twos]))]) (hS : va_S A s.heap H locs) (ls : Array Slot) (hl : lv_has ls 10 [(0, .ref h_o), (1, .ref h_p1), (2, .long u2), (4, .int v4), (5, .long u5), (7, .long u7), (9, .int v9)]), WW H locs (F0 m 92 ls []) := by
            intro u2 v9 rr hf hG H locs hP hD hS ls hl
            refine h2 ?_
            unfold fX6_stepsFrom_92 at hf
            refine lv_iinc (v := (v9 + 1)) (lv' := [(9, .int (v9 + 1)), (0, .ref h_o), (1, .ref h_p1), (2, .long u2), (4, .int v4), (5, .long u5), (7, .long u7)]) hx hb dX6_stepsFrom_92 hl (k := 6) rfl rfl (by decide) rfl (fun ls hl => ?_)
            refine lv_goto (tgt := 41) hx hb dX6_stepsFrom_95 (by decide) ?_
            have hf := Option.some.inj hf
            subst hf
            rw [eG2] at hG
            obtain ⟨rr, hf, hG⟩ := hG
            exact h1 (ih41 u2 (v9 + 1) rr hf hG _ _ hP hD hS _ (lv_sub hl [1, 2, 3, 4, 5, 6, 0] rfl))
          unfold fX6_stepsFrom_41_b at hf
          refine lv_iload hx hb dX6_stepsFrom_41 (lv_at hl 6 rfl) ?_
          refine lv_aload_n hx hb dX6_stepsFrom_43 rfl (lv_at hl 0 rfl) ?_
          refine va_get (D := (dC, dI)) (ci := 5) (v := .int o_wide) (C := RX6) (T := TX6) (N := 5) hx hb hts (fun w h => List.mem_cons_of_mem _ (kc_X6 w h)) hown hK hP 0 rfl rfl 0 (by decide) (hg kw_48) (fun _ h9 => h9) rfl dX6_stepsFrom_44 ?_
          refine lv_icmp_ge (tgt := 98) hx hb dX6_stepsFrom_47 (by decide) (fun c_47 => ?_) (fun c_47 => ?_)
          · replace hf := ds_t c_47 hf
            obtain ⟨rr, hr_0, hf⟩ := ds_ob hf
            have hf := Option.some.inj hf
            subst hf
            rw [eG2] at hG
            replace hG : G1 rr := hG
            have hf := hr_0
            exact h1 (J_98 u2 v4 _ hf hG _ _ hP hD hS _ (lv_sub hl [0, 1, 2, 3] rfl))
          · replace hf := ds_f c_47 hf
            refine lv_aload_n hx hb dX6_stepsFrom_50 rfl (lv_at hl 0 rfl) ?_
            refine lv_lload hx hb dX6_stepsFrom_51 (lv_at hl 4 rfl) ?_
            refine lv_iload hx hb dX6_stepsFrom_53 (lv_at hl 6 rfl) ?_
            obtain ⟨q55, hq55, hf⟩ := ds_ob hf
            refine ds_calll (wr := [(h_p1, .inr (5, [.int p1_wide, .int p1_high, .int p1_hex, .long p1_ones, .long p1_twos]))]) (va_runV (As := [.long u5, .int v9]) (rest := []) ⟨hx, hb, hml, hown, hts⟩ (c_X6_rolledAlong l dC dI ca sa h_o H.size o_wide o_high o_hex o_ones o_twos u5 v9 q55 hq55) (cwV 2 hts (ds_gV kw_77 kw_78 kw_79 kw_59 kw_80) rfl rfl rfl (by decide +kernel) ⟨Nat.le_of_ble_eq_true rfl, Nat.le_of_ble_eq_true rfl⟩) ⟨ds_blind, va_recv hK hP (ci := 5) (q0 := 0) rfl rfl, ds_at hP hD hK hE hS hA [0] rfl rfl _⟩ rfl rfl hl.1 rfl (lv_room (Nat.le_of_ble_eq_true rfl)) dX6_stepsFrom_55 ⟨Nat.zero_le _, Nat.zero_le _⟩) hP hD hS hA [0] [1] rfl rfl rfl (by decide) (fun H locs hP hD hS => ?_)
            have hP : va_P (dC, dI) vwCl [(h_p1, .inr (5, [.int p1_wide, .int p1_high, .int p1_hex, .long p1_ones, .long p1_twos])), (h_o, .inr (5, [.int o_wide, .int o_high, .int o_hex, .long o_ones, .long o_twos]))] H := hP
            have hD : va_D A [(h_p1, .inr (5, [.int p1_wide, .int p1_high, .int p1_hex, .long p1_ones, .long p1_twos])), (h_o, .inr (5, [.int o_wide, .int o_high, .int o_hex, .long o_ones, .long o_twos]))] := hD
            refine lv_aload_n hx hb dX6_stepsFrom_58 rfl (lv_at hl 0 rfl) ?_
            refine va_get (D := (dC, dI)) (ci := 5) (v := .long o_ones) (C := RX6) (T := TX6) (N := 5) hx hb hts (fun w h => List.mem_cons_of_mem _ (kc_X6 w h)) hown hK hP 1 rfl rfl 3 (by decide) (hg kw_61) (fun _ h9 => h9) rfl dX6_stepsFrom_59 ?_
            refine W.lcmp hx hb dX6_stepsFrom_62 ?_
            refine lv_if_ne (tgt := 92) hx hb dX6_stepsFrom_63 (by decide) (fun c_63 => ?_) (fun c_63 => ?_)
            · replace hf := ds_f c_63 hf
              exact h1 (J_92 u2 v9 _ hf hG _ _ (hP.sub [1, 0] rfl) (hD.sub [1, 0] rfl rfl) hS _ (lv_sub hl [0, 1, 2, 3, 4, 5, 6] rfl))
            · replace hf := ds_t c_63 hf
              refine lv_aload_n hx hb dX6_stepsFrom_66 rfl (lv_at hl 0 rfl) ?_
              refine lv_lload hx hb dX6_stepsFrom_67 (lv_at hl 5 rfl) ?_
              refine lv_iload hx hb dX6_stepsFrom_69 (lv_at hl 6 rfl) ?_
              obtain ⟨q71, hq71, hf⟩ := ds_ob hf
              refine ds_calll (wr := [(h_p1, .inr (5, [.int p1_wide, .int p1_high, .int p1_hex, .long p1_ones, .long p1_twos]))]) (va_runV (As := [.long u7, .int v9]) (rest := []) ⟨hx, hb, hml, hown, hts⟩ (c_X6_rolledAlong l dC dI ca sa h_o H.size o_wide o_high o_hex o_ones o_twos u7 v9 q71 hq71) (cwV 2 hts (ds_gV kw_77 kw_78 kw_79 kw_59 kw_80) rfl rfl rfl (by decide +kernel) ⟨Nat.le_of_ble_eq_true rfl, Nat.le_of_ble_eq_true rfl⟩) ⟨ds_blind, va_recv hK hP (ci := 5) (q0 := 1) rfl rfl, ds_at hP hD hK hE hS hA [1] rfl rfl _⟩ rfl rfl hl.1 rfl (lv_room (Nat.le_of_ble_eq_true rfl)) dX6_stepsFrom_71 ⟨Nat.zero_le _, Nat.zero_le _⟩) hP hD hS hA [1] [0] rfl rfl rfl (by decide) (fun H locs hP hD hS => ?_)
              have hP : va_P (dC, dI) vwCl [(h_p1, .inr (5, [.int p1_wide, .int p1_high, .int p1_hex, .long p1_ones, .long p1_twos])), (h_o, .inr (5, [.int o_wide, .int o_high, .int o_hex, .long o_ones, .long o_twos]))] H := hP
              have hD : va_D A [(h_p1, .inr (5, [.int p1_wide, .int p1_high, .int p1_hex, .long p1_ones, .long p1_twos])), (h_o, .inr (5, [.int o_wide, .int o_high, .int o_hex, .long o_ones, .long o_twos]))] := hD
              refine lv_aload_n hx hb dX6_stepsFrom_74 rfl (lv_at hl 0 rfl) ?_
              refine va_get (D := (dC, dI)) (ci := 5) (v := .long o_twos) (C := RX6) (T := TX6) (N := 5) hx hb hts (fun w h => List.mem_cons_of_mem _ (kc_X6 w h)) hown hK hP 1 rfl rfl 4 (by decide) (hg kw_62) (fun _ h9 => h9) rfl dX6_stepsFrom_75 ?_
              refine W.lcmp hx hb dX6_stepsFrom_78 ?_
              refine lv_if_ne (tgt := 92) hx hb dX6_stepsFrom_79 (by decide) (fun c_79 => ?_) (fun c_79 => ?_)
              · replace hf := ds_f c_79 hf
                exact h1 (J_92 u2 v9 _ hf hG _ _ (hP.sub [1, 0] rfl) (hD.sub [1, 0] rfl rfl) hS _ (lv_sub hl [0, 1, 2, 3, 4, 5, 6] rfl))
              · replace hf := ds_t c_79 hf
                refine lv_lload_n hx hb dX6_stepsFrom_82 rfl (lv_at hl 2 rfl) ?_
                refine lv_iload hx hb dX6_stepsFrom_83 (lv_at hl 6 rfl) ?_
                refine lv_iload hx hb dX6_stepsFrom_85 (lv_at hl 3 rfl) ?_
                obtain ⟨q87, hq87, hf⟩ := ds_ob hf
                refine ds_calll (wr := [(h_p1, .inr (5, [.int p1_wide, .int p1_high, .int p1_hex, .long p1_ones, .long p1_twos])), (h_o, .inr (5, [.int o_wide, .int o_high, .int o_hex, .long o_ones, .long o_twos]))]) (va_runS (As := [.int v9, .int v4]) (rest := [.long u2]) ⟨hx, hb, hml, hown, hts⟩ (c_X6_bit l dC dI ca sa  H.size  v9 v4 q87 hq87) (va_cwS 2 hts (ds_gS kw_102 kw_103 kw_59 kw_104) rfl rfl rfl (by decide +kernel) ⟨Nat.le_of_ble_eq_true rfl, Nat.le_of_ble_eq_true rfl⟩) ⟨ds_blind, ds_at hP hD hK hE hS hA [] rfl rfl _⟩ rfl rfl hl.1 rfl (lv_room (Nat.le_of_ble_eq_true rfl)) dX6_stepsFrom_87 ⟨Nat.zero_le _, Nat.zero_le _⟩) hP hD hS hA [] [0, 1] rfl rfl rfl (by decide) (fun H locs hP hD hS => ?_)
                have hP : va_P (dC, dI) vwCl [(h_p1, .inr (5, [.int p1_wide, .int p1_high, .int p1_hex, .long p1_ones, .long p1_twos])), (h_o, .inr (5, [.int o_wide, .int o_high, .int o_hex, .long o_ones, .long o_twos]))] H := hP
                have hD : va_D A [(h_p1, .inr (5, [.int p1_wide, .int p1_high, .int p1_hex, .long p1_ones, .long p1_twos])), (h_o, .inr (5, [.int o_wide, .int o_high, .int o_hex, .long o_ones, .long o_twos]))] := hD
                refine lv_lor hx hb dX6_stepsFrom_90 ?_
                refine lv_lstore_n (lv' := [(2, .long (u2 ||| q87)), (0, .ref h_o), (1, .ref h_p1), (4, .int v4), (5, .long u5), (7, .long u7), (9, .int v9)]) hx hb dX6_stepsFrom_91 rfl hl (by decide) rfl (fun ls hl => ?_)
                exact h1 (J_92 (u2 ||| q87) v9 _ hf hG _ _ (hP.sub [1, 0] rfl) (hD.sub [1, 0] rfl rfl) hS _ (lv_sub hl [1, 2, 0, 3, 4, 5, 6] rfl))
      unfold fX6_stepsFrom_5_b at hf
      refine lv_iload hx hb dX6_stepsFrom_5 (lv_at hl 3 rfl) ?_
      refine lv_aload_n hx hb dX6_stepsFrom_7 rfl (lv_at hl 0 rfl) ?_
      refine va_get (D := (dC, dI)) (ci := 5) (v := .int o_high) (C := RX6) (T := TX6) (N := 5) hx hb hts (fun w h => List.mem_cons_of_mem _ (kc_X6 w h)) hown hK hP 0 rfl rfl 1 (by decide) (hg kw_54) (fun _ h9 => h9) rfl dX6_stepsFrom_8 ?_
      refine lv_icmp_ge (tgt := 104) hx hb dX6_stepsFrom_11 (by decide) (fun c_11 => ?_) (fun c_11 => ?_)
      · replace hf := ds_t c_11 hf
        refine lv_lload_n hx hb dX6_stepsFrom_104 rfl (lv_at hl 2 rfl) ?_
        have hf := Option.some.inj hf
        subst hf
        rw [eG1] at hG
        replace hG : G0 _ := hG
        rw [eG0] at hG
        have hG : _ = res := hG
        subst hG
        exact W.lret (v := u2) hx hb hr (fun t ht hW => ⟨⟨u2, (), rfl, rfl, by rw [ht]; exact hP, hD⟩, hS.F ht⟩) hS.2.2 dX6_stepsFrom_105
      · replace hf := ds_f c_11 hf
        refine lv_aload_n hx hb dX6_stepsFrom_14 rfl (lv_at hl 0 rfl) ?_
        refine lv_aload_n hx hb dX6_stepsFrom_15 rfl (lv_at hl 1 rfl) ?_
        refine va_get (D := (dC, dI)) (ci := 5) (v := .long p1_ones) (C := RX6) (T := TX6) (N := 5) hx hb hts (fun w h => List.mem_cons_of_mem _ (kc_X6 w h)) hown hK hP 1 rfl rfl 3 (by decide) (hg kw_61) (fun _ h9 => h9) rfl dX6_stepsFrom_16 ?_
        refine lv_iload hx hb dX6_stepsFrom_19 (lv_at hl 3 rfl) ?_
        obtain ⟨q21, hq21, hf⟩ := ds_ob hf
        refine ds_calll (wr := [(h_p1, .inr (5, [.int p1_wide, .int p1_high, .int p1_hex, .long p1_ones, .long p1_twos]))]) (va_runV (As := [.long p1_ones, .int v4]) (rest := []) ⟨hx, hb, hml, hown, hts⟩ (c_X6_rolledDown l dC dI ca sa h_o H.size o_wide o_high o_hex o_ones o_twos p1_ones v4 q21 hq21) (cwV 2 hts (ds_gV kw_73 kw_74 kw_75 kw_59 kw_76) rfl rfl rfl (by decide +kernel) ⟨Nat.le_of_ble_eq_true rfl, Nat.le_of_ble_eq_true rfl⟩) ⟨ds_blind, va_recv hK hP (ci := 5) (q0 := 0) rfl rfl, ds_at hP hD hK hE hS hA [0] rfl rfl _⟩ rfl rfl hl.1 rfl (lv_room (Nat.le_of_ble_eq_true rfl)) dX6_stepsFrom_21 ⟨Nat.zero_le _, Nat.zero_le _⟩) hP hD hS hA [0] [1] rfl rfl rfl (by decide) (fun H locs hP hD hS => ?_)
        have hP : va_P (dC, dI) vwCl [(h_p1, .inr (5, [.int p1_wide, .int p1_high, .int p1_hex, .long p1_ones, .long p1_twos])), (h_o, .inr (5, [.int o_wide, .int o_high, .int o_hex, .long o_ones, .long o_twos]))] H := hP
        have hD : va_D A [(h_p1, .inr (5, [.int p1_wide, .int p1_high, .int p1_hex, .long p1_ones, .long p1_twos])), (h_o, .inr (5, [.int o_wide, .int o_high, .int o_hex, .long o_ones, .long o_twos]))] := hD
        refine lv_lstore (lv' := [(5, .long q21), (0, .ref h_o), (1, .ref h_p1), (2, .long u2), (4, .int v4)]) hx hb dX6_stepsFrom_24 hl (by decide) rfl (fun ls hl => ?_)
        refine lv_aload_n hx hb dX6_stepsFrom_26 rfl (lv_at hl 1 rfl) ?_
        refine lv_aload_n hx hb dX6_stepsFrom_27 rfl (lv_at hl 2 rfl) ?_
        refine va_get (D := (dC, dI)) (ci := 5) (v := .long p1_twos) (C := RX6) (T := TX6) (N := 5) hx hb hts (fun w h => List.mem_cons_of_mem _ (kc_X6 w h)) hown hK hP 0 rfl rfl 4 (by decide) (hg kw_62) (fun _ h9 => h9) rfl dX6_stepsFrom_28 ?_
        refine lv_iload hx hb dX6_stepsFrom_31 (lv_at hl 4 rfl) ?_
        obtain ⟨q33, hq33, hf⟩ := ds_ob hf
        refine ds_calll (wr := [(h_p1, .inr (5, [.int p1_wide, .int p1_high, .int p1_hex, .long p1_ones, .long p1_twos]))]) (va_runV (As := [.long p1_twos, .int v4]) (rest := []) ⟨hx, hb, hml, hown, hts⟩ (c_X6_rolledDown l dC dI ca sa h_o H.size o_wide o_high o_hex o_ones o_twos p1_twos v4 q33 hq33) (cwV 2 hts (ds_gV kw_73 kw_74 kw_75 kw_59 kw_76) rfl rfl rfl (by decide +kernel) ⟨Nat.le_of_ble_eq_true rfl, Nat.le_of_ble_eq_true rfl⟩) ⟨ds_blind, va_recv hK hP (ci := 5) (q0 := 1) rfl rfl, ds_at hP hD hK hE hS hA [1] rfl rfl _⟩ rfl rfl hl.1 rfl (lv_room (Nat.le_of_ble_eq_true rfl)) dX6_stepsFrom_33 ⟨Nat.zero_le _, Nat.zero_le _⟩) hP hD hS hA [1] [0] rfl rfl rfl (by decide) (fun H locs hP hD hS => ?_)
        have hP : va_P (dC, dI) vwCl [(h_p1, .inr (5, [.int p1_wide, .int p1_high, .int p1_hex, .long p1_ones, .long p1_twos])), (h_o, .inr (5, [.int o_wide, .int o_high, .int o_hex, .long o_ones, .long o_twos]))] H := hP
        have hD : va_D A [(h_p1, .inr (5, [.int p1_wide, .int p1_high, .int p1_hex, .long p1_ones, .long p1_twos])), (h_o, .inr (5, [.int o_wide, .int o_high, .int o_hex, .long o_ones, .long o_twos]))] := hD
        refine lv_lstore (lv' := [(7, .long q33), (5, .long q21), (0, .ref h_o), (1, .ref h_p1), (2, .long u2), (4, .int v4)]) hx hb dX6_stepsFrom_36 hl (by decide) rfl (fun ls hl => ?_)
        refine lv_iconst (v := 0) hx hb dX6_stepsFrom_38 (by decide) ?_
        refine lv_istore (lv' := [(9, .int (0 : Int32)), (7, .long q33), (5, .long q21), (0, .ref h_o), (1, .ref h_p1), (2, .long u2), (4, .int v4)]) hx hb dX6_stepsFrom_39 hl (by decide) rfl (fun ls hl => ?_)
        exact h1 (J_41 v4 q21 q33 1000 u2 (0 : Int32) _ hf hG _ _ (hP.sub [1, 0] rfl) (hD.sub [1, 0] rfl rfl) hS _ (lv_sub hl [3, 4, 5, 6, 2, 1, 0] rfl))
  unfold fX6_stepsFrom at hf
  refine lv_lconst (v := 0) hx hb dX6_stepsFrom_0 (by decide) ?_
  refine lv_lstore_n (lv' := [(2, .long (0 : Int64)), (0, .ref h_o), (1, .ref h_p1)]) hx hb dX6_stepsFrom_1 rfl hl (by decide) rfl (fun ls hl => ?_)
  refine lv_iconst (v := 0) hx hb dX6_stepsFrom_2 (by decide) ?_
  refine lv_istore (lv' := [(4, .int (0 : Int32)), (2, .long (0 : Int64)), (0, .ref h_o), (1, .ref h_p1)]) hx hb dX6_stepsFrom_3 hl (by decide) rfl (fun ls hl => ?_)
  exact h1 (J_5  1000 (0 : Int64) (0 : Int32) _ hf hG _ _ hP hD hS _ (lv_sub hl [2, 3, 1, 0] rfl))
theorem dX6_bitOfPlane_0 : decode cX6_bitOfPlane 0 = .ok (.iload_n 1, 1) := by decide +kernel
theorem dX6_bitOfPlane_1 : decode cX6_bitOfPlane 1 = .ok (.aload_n 0, 1) := by decide +kernel
theorem dX6_bitOfPlane_2 : decode cX6_bitOfPlane 2 = .ok (.getfield 9, 3) := by decide +kernel
theorem dX6_bitOfPlane_5 : decode cX6_bitOfPlane 5 = .ok (.invokestatic 37, 3) := by decide +kernel
theorem dX6_bitOfPlane_8 : decode cX6_bitOfPlane 8 = .ok (.iload_n 2, 1) := by decide +kernel
theorem dX6_bitOfPlane_9 : decode cX6_bitOfPlane 9 = .ok (.aload_n 0, 1) := by decide +kernel
theorem dX6_bitOfPlane_10 : decode cX6_bitOfPlane 10 = .ok (.getfield 15, 3) := by decide +kernel
theorem dX6_bitOfPlane_13 : decode cX6_bitOfPlane 13 = .ok (.invokestatic 37, 3) := by decide +kernel
theorem dX6_bitOfPlane_16 : decode cX6_bitOfPlane 16 = .ok (.invokestatic 41, 3) := by decide +kernel
theorem dX6_bitOfPlane_19 : decode cX6_bitOfPlane 19 = .ok (.lreturn, 1) := by decide +kernel
def fX6_bitOfPlane (o_wide : Int32) (o_high : Int32) (p1 : Int32) (p2 : Int32) : Option (Int64) :=
  Option.bind (fX7_rest p1 o_wide) fun q5 => Option.bind (fX7_rest p2 o_high) fun q13 => Option.bind (fX6_bit q5 q13) fun q16 => some q16
set_option maxHeartbeats 4000000 in
set_option maxRecDepth 100000 in
theorem c_X6_bitOfPlane (l : Launch) (dC : Nat → ClassId) (dI : Nat → Nat → Nat) (ca : Nat → ClassId) (sa : Nat → Nat) (h_o : Nat) (sz : Nat) (o_wide : Int32) (o_high : Int32) (o_hex : Int32) (o_ones : Int64) (o_twos : Int64) (p1 : Int32) (p2 : Int32) (res : Int64) (hf : fX6_bitOfPlane o_wide o_high p1 p2 = some res) : Met l yX6_bitOfPlane (Cond.code yX6_bitOfPlane cX6_bitOfPlane 3 (some .long) :: ds_gw) { frames := 1, cells := 0, slots := 0, locals := 22 } (va_Pc [.ref h_o, .int p1, .int p2] (ds_Pre dC dI ca sa [(h_o, .inr (5, [.int o_wide, .int o_high, .int o_hex, .long o_ones, .long o_twos]))] sz)) (va_Ql (fun r (_ : Unit) => r = res) (ds_B dC dI (va_A [(h_o, .inr (5, [.int o_wide, .int o_high, .int o_hex, .long o_ones, .long o_twos]))] sz) [(h_o, .inr (5, [.int o_wide, .int o_high, .int o_hex, .long o_ones, .long o_twos]))]) (va_A [(h_o, .inr (5, [.int o_wide, .int o_high, .int o_hex, .long o_ones, .long o_twos]))] sz)) 0 0 (va_A [(h_o, .inr (5, [.int o_wide, .int o_high, .int o_hex, .long o_ones, .long o_twos]))] sz) := by
  refine Met.ofW (cc := cX6_bitOfPlane) (maxL := 3) (ret := (some .long)) (by decide) rfl ?_
  intro p e s m args below meth c s₁ B hml hv
  obtain ⟨rfl, hsz, hP, hK, hD0, hE⟩ := hv
  have hx := B.exec
  have hb := B.bytes
  have hr := B.returns
  have hts := atoms_spec (ws := Cond.code yX6_bitOfPlane cX6_bitOfPlane 3 (some .long) :: ds_gw) B.pre
  have hg : ∀ {w : Cond}, w ∈ ds_gw → w.before _ s = true := fun h => hts _ (List.mem_cons_of_mem _ h)
  have hown : s.vm.findClass RX6 = some m.cls := findClass_of_methodNamed B.named
  have hlocks := B.notSynchronized
  subst hsz
  have hD := hD0.self (sz := s.heap.size)
  generalize hAe : va_A [(h_o, .inr (5, [.int o_wide, .int o_high, .int o_hex, .long o_ones, .long o_twos]))] s.heap.size = A at hD hE ⊢
  have hA : ∀ q : Nat, s.heap.size ≤ q → A q := fun q h => by rw [← hAe]; exact Or.inr h
  have hS : va_S A s.heap s.heap [] := va_S.rf
  have hl := lv_entry ([.ref h_o, .int p1, .int p2]) (n := 3) (Nat.le_of_ble_eq_true rfl)
  rw [lg_entry_eq]
  generalize (lg_sl ([.ref h_o, .int p1, .int p2]) ++ List.replicate (3 - (lg_sl ([.ref h_o, .int p1, .int p2])).length) Slot.unset).toArray = ls at hl ⊢
  have hl : lv_has ls 3 [(0, .ref h_o), (1, .int p1), (2, .int p2)] := hl
  obtain ⟨G0, eG0⟩ : ∃ G : Int64 → Prop, G = (fun r => r = res) := ⟨_, rfl⟩
  obtain ⟨rr, hrr⟩ : ∃ z, z = res := ⟨_, rfl⟩
  rw [← hrr] at hf
  have hG : G0 rr := by subst eG0; exact hrr
  unfold fX6_bitOfPlane at hf
  refine lv_iload_n hx hb dX6_bitOfPlane_0 rfl (lv_at hl 1 rfl) ?_
  refine lv_aload_n hx hb dX6_bitOfPlane_1 rfl (lv_at hl 0 rfl) ?_
  refine va_get (D := (dC, dI)) (ci := 5) (v := .int o_wide) (C := RX6) (T := TX6) (N := 5) hx hb hts (fun w h => List.mem_cons_of_mem _ (kc_X6 w h)) hown hK hP 0 rfl rfl 0 (by decide) (hg kw_48) (fun _ h9 => h9) rfl dX6_bitOfPlane_2 ?_
  obtain ⟨q5, hq5, hf⟩ := ds_ob hf
  refine ds_calli (wr := [(h_o, .inr (5, [.int o_wide, .int o_high, .int o_hex, .long o_ones, .long o_twos]))]) (va_runSN (As := [.int p1, .int o_wide]) (rest := []) ⟨hx, hb, hml, hown, hts⟩ (c_X7_rest l dC dI ca sa  s.heap.size  p1 o_wide q5 hq5) ⟨va_cnB 2 hts (ds_gN kw_70) rfl rfl rfl (hE.1 _ kw_69) (hg kw_71) (by decide +kernel) ⟨Nat.le_of_ble_eq_true rfl, Nat.le_of_ble_eq_true rfl⟩, hg kw_72, trivial⟩ ⟨ds_blind, ds_at hP hD hK hE hS hA [] rfl rfl _⟩ rfl rfl hl.1 rfl (lv_room (Nat.le_of_ble_eq_true rfl)) dX6_bitOfPlane_5 ⟨Nat.zero_le _, Nat.zero_le _⟩) hP hD hS hA [] [0] rfl rfl rfl (by decide) (fun H locs hP hD hS => ?_)
  have hP : va_P (dC, dI) vwCl [(h_o, .inr (5, [.int o_wide, .int o_high, .int o_hex, .long o_ones, .long o_twos]))] H := hP
  have hD : va_D A [(h_o, .inr (5, [.int o_wide, .int o_high, .int o_hex, .long o_ones, .long o_twos]))] := hD
  refine lv_iload_n hx hb dX6_bitOfPlane_8 rfl (lv_at hl 2 rfl) ?_
  refine lv_aload_n hx hb dX6_bitOfPlane_9 rfl (lv_at hl 0 rfl) ?_
  refine va_get (D := (dC, dI)) (ci := 5) (v := .int o_high) (C := RX6) (T := TX6) (N := 5) hx hb hts (fun w h => List.mem_cons_of_mem _ (kc_X6 w h)) hown hK hP 0 rfl rfl 1 (by decide) (hg kw_54) (fun _ h9 => h9) rfl dX6_bitOfPlane_10 ?_
  obtain ⟨q13, hq13, hf⟩ := ds_ob hf
  refine ds_calli (wr := [(h_o, .inr (5, [.int o_wide, .int o_high, .int o_hex, .long o_ones, .long o_twos]))]) (va_runSN (As := [.int p2, .int o_high]) (rest := [.int q5]) ⟨hx, hb, hml, hown, hts⟩ (c_X7_rest l dC dI ca sa  H.size  p2 o_high q13 hq13) ⟨va_cnB 2 hts (ds_gN kw_70) rfl rfl rfl (hE.1 _ kw_69) (hg kw_71) (by decide +kernel) ⟨Nat.le_of_ble_eq_true rfl, Nat.le_of_ble_eq_true rfl⟩, hg kw_72, trivial⟩ ⟨ds_blind, ds_at hP hD hK hE hS hA [] rfl rfl _⟩ rfl rfl hl.1 rfl (lv_room (Nat.le_of_ble_eq_true rfl)) dX6_bitOfPlane_13 ⟨Nat.zero_le _, Nat.zero_le _⟩) hP hD hS hA [] [0] rfl rfl rfl (by decide) (fun H locs hP hD hS => ?_)
  have hP : va_P (dC, dI) vwCl [(h_o, .inr (5, [.int o_wide, .int o_high, .int o_hex, .long o_ones, .long o_twos]))] H := hP
  have hD : va_D A [(h_o, .inr (5, [.int o_wide, .int o_high, .int o_hex, .long o_ones, .long o_twos]))] := hD
  obtain ⟨q16, hq16, hf⟩ := ds_ob hf
  refine ds_calll (wr := [(h_o, .inr (5, [.int o_wide, .int o_high, .int o_hex, .long o_ones, .long o_twos]))]) (va_runS (As := [.int q5, .int q13]) (rest := []) ⟨hx, hb, hml, hown, hts⟩ (c_X6_bit l dC dI ca sa  H.size  q5 q13 q16 hq16) (va_cwS 2 hts (ds_gS kw_102 kw_103 kw_59 kw_104) rfl rfl rfl (by decide +kernel) ⟨Nat.le_of_ble_eq_true rfl, Nat.le_of_ble_eq_true rfl⟩) ⟨ds_blind, ds_at hP hD hK hE hS hA [] rfl rfl _⟩ rfl rfl hl.1 rfl (lv_room (Nat.le_of_ble_eq_true rfl)) dX6_bitOfPlane_16 ⟨Nat.zero_le _, Nat.zero_le _⟩) hP hD hS hA [] [0] rfl rfl rfl (by decide) (fun H locs hP hD hS => ?_)
  have hP : va_P (dC, dI) vwCl [(h_o, .inr (5, [.int o_wide, .int o_high, .int o_hex, .long o_ones, .long o_twos]))] H := hP
  have hD : va_D A [(h_o, .inr (5, [.int o_wide, .int o_high, .int o_hex, .long o_ones, .long o_twos]))] := hD
  have hf := Option.some.inj hf
  subst hf
  rw [eG0] at hG
  have hG : _ = res := hG
  subst hG
  exact W.lret (v := q16) hx hb hr (fun t ht hW => ⟨⟨q16, (), rfl, rfl, by rw [ht]; exact hP, hD⟩, hS.F ht⟩) hS.2.2 dX6_bitOfPlane_19
theorem dX6_cells_0 : decode cX6_cells 0 = .ok (.aload_n 0, 1) := by decide +kernel
theorem dX6_cells_1 : decode cX6_cells 1 = .ok (.getfield 9, 3) := by decide +kernel
theorem dX6_cells_4 : decode cX6_cells 4 = .ok (.aload_n 0, 1) := by decide +kernel
theorem dX6_cells_5 : decode cX6_cells 5 = .ok (.getfield 15, 3) := by decide +kernel
theorem dX6_cells_8 : decode cX6_cells 8 = .ok (.imul, 1) := by decide +kernel
theorem dX6_cells_9 : decode cX6_cells 9 = .ok (.ireturn, 1) := by decide +kernel
def fX6_cells (o_wide : Int32) (o_high : Int32) : Option (Int32) :=
  some (o_wide * o_high)
set_option maxHeartbeats 4000000 in
set_option maxRecDepth 100000 in
theorem c_X6_cells (l : Launch) (dC : Nat → ClassId) (dI : Nat → Nat → Nat) (ca : Nat → ClassId) (sa : Nat → Nat) (h_o : Nat) (sz : Nat) (o_wide : Int32) (o_high : Int32) (o_hex : Int32) (o_ones : Int64) (o_twos : Int64) (res : Int32) (hf : fX6_cells o_wide o_high = some res) : Met l yX6_cells (Cond.code yX6_cells cX6_cells 1 (some .int) :: ds_gw) { frames := 0, cells := 0, slots := 0, locals := 0 } (va_Pc [.ref h_o] (ds_Pre dC dI ca sa [(h_o, .inr (5, [.int o_wide, .int o_high, .int o_hex, .long o_ones, .long o_twos]))] sz)) (va_Qi (fun r (_ : Unit) => r = res) (ds_B dC dI (va_A [(h_o, .inr (5, [.int o_wide, .int o_high, .int o_hex, .long o_ones, .long o_twos]))] sz) [(h_o, .inr (5, [.int o_wide, .int o_high, .int o_hex, .long o_ones, .long o_twos]))]) (va_A [(h_o, .inr (5, [.int o_wide, .int o_high, .int o_hex, .long o_ones, .long o_twos]))] sz)) 0 0 (va_A [(h_o, .inr (5, [.int o_wide, .int o_high, .int o_hex, .long o_ones, .long o_twos]))] sz) := by
  refine Met.ofW (cc := cX6_cells) (maxL := 1) (ret := (some .int)) (by decide) rfl ?_
  intro p e s m args below meth c s₁ B hml hv
  obtain ⟨rfl, hsz, hP, hK, hD0, hE⟩ := hv
  have hx := B.exec
  have hb := B.bytes
  have hr := B.returns
  have hts := atoms_spec (ws := Cond.code yX6_cells cX6_cells 1 (some .int) :: ds_gw) B.pre
  have hg : ∀ {w : Cond}, w ∈ ds_gw → w.before _ s = true := fun h => hts _ (List.mem_cons_of_mem _ h)
  have hown : s.vm.findClass RX6 = some m.cls := findClass_of_methodNamed B.named
  have hlocks := B.notSynchronized
  subst hsz
  have hD := hD0.self (sz := s.heap.size)
  generalize hAe : va_A [(h_o, .inr (5, [.int o_wide, .int o_high, .int o_hex, .long o_ones, .long o_twos]))] s.heap.size = A at hD hE ⊢
  have hA : ∀ q : Nat, s.heap.size ≤ q → A q := fun q h => by rw [← hAe]; exact Or.inr h
  have hS : va_S A s.heap s.heap [] := va_S.rf
  have hl := lv_entry ([.ref h_o]) (n := 1) (Nat.le_of_ble_eq_true rfl)
  rw [lg_entry_eq]
  generalize (lg_sl ([.ref h_o]) ++ List.replicate (1 - (lg_sl ([.ref h_o])).length) Slot.unset).toArray = ls at hl ⊢
  have hl : lv_has ls 1 [(0, .ref h_o)] := hl
  obtain ⟨G0, eG0⟩ : ∃ G : Int32 → Prop, G = (fun r => r = res) := ⟨_, rfl⟩
  obtain ⟨rr, hrr⟩ : ∃ z, z = res := ⟨_, rfl⟩
  rw [← hrr] at hf
  have hG : G0 rr := by subst eG0; exact hrr
  unfold fX6_cells at hf
  refine lv_aload_n hx hb dX6_cells_0 rfl (lv_at hl 0 rfl) ?_
  refine va_get (D := (dC, dI)) (ci := 5) (v := .int o_wide) (C := RX6) (T := TX6) (N := 5) hx hb hts (fun w h => List.mem_cons_of_mem _ (kc_X6 w h)) hown hK hP 0 rfl rfl 0 (by decide) (hg kw_48) (fun _ h9 => h9) rfl dX6_cells_1 ?_
  refine lv_aload_n hx hb dX6_cells_4 rfl (lv_at hl 0 rfl) ?_
  refine va_get (D := (dC, dI)) (ci := 5) (v := .int o_high) (C := RX6) (T := TX6) (N := 5) hx hb hts (fun w h => List.mem_cons_of_mem _ (kc_X6 w h)) hown hK hP 0 rfl rfl 1 (by decide) (hg kw_54) (fun _ h9 => h9) rfl dX6_cells_5 ?_
  refine lv_imul hx hb dX6_cells_8 ?_
  have hf := Option.some.inj hf
  subst hf
  rw [eG0] at hG
  have hG : _ = res := hG
  subst hG
  exact W.iret (v := (o_wide * o_high)) hx hb hr (fun t ht hW => ⟨⟨(o_wide * o_high), (), rfl, rfl, by rw [ht]; exact hP, hD⟩, hS.F ht⟩) hS.2.2 dX6_cells_9
theorem dX6_ofColour_0 : decode cX6_ofColour 0 = .ok (.iload_n 1, 1) := by decide +kernel
theorem dX6_ofColour_1 : decode cX6_ofColour 1 = .ok (.iconst 1, 1) := by decide +kernel
theorem dX6_ofColour_2 : decode cX6_ofColour 2 = .ok (.iand, 1) := by decide +kernel
theorem dX6_ofColour_3 : decode cX6_ofColour 3 = .ok (.ifCond .eq 10, 3) := by decide +kernel
theorem dX6_ofColour_6 : decode cX6_ofColour 6 = .ok (.aload_n 0, 1) := by decide +kernel
theorem dX6_ofColour_7 : decode cX6_ofColour 7 = .ok (.getfield 22, 3) := by decide +kernel
theorem dX6_ofColour_10 : decode cX6_ofColour 10 = .ok (.goto 11, 3) := by decide +kernel
theorem dX6_ofColour_13 : decode cX6_ofColour 13 = .ok (.aload_n 0, 1) := by decide +kernel
theorem dX6_ofColour_14 : decode cX6_ofColour 14 = .ok (.getfield 22, 3) := by decide +kernel
theorem dX6_ofColour_17 : decode cX6_ofColour 17 = .ok (.ldc2_w 35, 3) := by decide +kernel
theorem dX6_ofColour_20 : decode cX6_ofColour 20 = .ok (.lxor, 1) := by decide +kernel
theorem dX6_ofColour_21 : decode cX6_ofColour 21 = .ok (.lstore_n 2, 1) := by decide +kernel
theorem dX6_ofColour_22 : decode cX6_ofColour 22 = .ok (.iload_n 1, 1) := by decide +kernel
theorem dX6_ofColour_23 : decode cX6_ofColour 23 = .ok (.iconst 2, 1) := by decide +kernel
theorem dX6_ofColour_24 : decode cX6_ofColour 24 = .ok (.iand, 1) := by decide +kernel
theorem dX6_ofColour_25 : decode cX6_ofColour 25 = .ok (.ifCond .eq 10, 3) := by decide +kernel
theorem dX6_ofColour_28 : decode cX6_ofColour 28 = .ok (.aload_n 0, 1) := by decide +kernel
theorem dX6_ofColour_29 : decode cX6_ofColour 29 = .ok (.getfield 26, 3) := by decide +kernel
theorem dX6_ofColour_32 : decode cX6_ofColour 32 = .ok (.goto 11, 3) := by decide +kernel
theorem dX6_ofColour_35 : decode cX6_ofColour 35 = .ok (.aload_n 0, 1) := by decide +kernel
theorem dX6_ofColour_36 : decode cX6_ofColour 36 = .ok (.getfield 26, 3) := by decide +kernel
theorem dX6_ofColour_39 : decode cX6_ofColour 39 = .ok (.ldc2_w 35, 3) := by decide +kernel
theorem dX6_ofColour_42 : decode cX6_ofColour 42 = .ok (.lxor, 1) := by decide +kernel
theorem dX6_ofColour_43 : decode cX6_ofColour 43 = .ok (.lstore 4, 2) := by decide +kernel
theorem dX6_ofColour_45 : decode cX6_ofColour 45 = .ok (.lload_n 2, 1) := by decide +kernel
theorem dX6_ofColour_46 : decode cX6_ofColour 46 = .ok (.lload 4, 2) := by decide +kernel
theorem dX6_ofColour_48 : decode cX6_ofColour 48 = .ok (.land, 1) := by decide +kernel
theorem dX6_ofColour_49 : decode cX6_ofColour 49 = .ok (.aload_n 0, 1) := by decide +kernel
theorem dX6_ofColour_50 : decode cX6_ofColour 50 = .ok (.invokevirtual 48, 3) := by decide +kernel
theorem dX6_ofColour_53 : decode cX6_ofColour 53 = .ok (.land, 1) := by decide +kernel
theorem dX6_ofColour_54 : decode cX6_ofColour 54 = .ok (.lreturn, 1) := by decide +kernel
def fX6_ofColour_43 (o_wide : Int32) (o_high : Int32) (u2 : Int64) (w0 : Int64) : Option (Int64) :=
  Option.bind (fX6_all o_wide o_high) fun q50 => some ((u2 &&& w0) &&& q50)
def fX6_ofColour_21 (o_wide : Int32) (o_high : Int32) (o_twos : Int64) (p1 : Int32) (w0 : Int64) : Option (Int64) :=
  if (p1 &&& (2 : Int32)) = 0 then fX6_ofColour_43 o_wide o_high w0 (o_twos ^^^ (-1 : Int64)) else fX6_ofColour_43 o_wide o_high w0 o_twos
def fX6_ofColour (o_wide : Int32) (o_high : Int32) (o_ones : Int64) (o_twos : Int64) (p1 : Int32) : Option (Int64) :=
  if (p1 &&& (1 : Int32)) = 0 then fX6_ofColour_21 o_wide o_high o_twos p1 (o_ones ^^^ (-1 : Int64)) else fX6_ofColour_21 o_wide o_high o_twos p1 o_ones
set_option maxHeartbeats 4000000 in
set_option maxRecDepth 100000 in
theorem c_X6_ofColour (l : Launch) (dC : Nat → ClassId) (dI : Nat → Nat → Nat) (ca : Nat → ClassId) (sa : Nat → Nat) (h_o : Nat) (sz : Nat) (o_wide : Int32) (o_high : Int32) (o_hex : Int32) (o_ones : Int64) (o_twos : Int64) (p1 : Int32) (res : Int64) (hf : fX6_ofColour o_wide o_high o_ones o_twos p1 = some res) : Met l yX6_ofColour (Cond.code yX6_ofColour cX6_ofColour 6 (some .long) :: ds_gw) { frames := 1, cells := 0, slots := 0, locals := 24 } (va_Pc [.ref h_o, .int p1] (ds_Pre dC dI ca sa [(h_o, .inr (5, [.int o_wide, .int o_high, .int o_hex, .long o_ones, .long o_twos]))] sz)) (va_Ql (fun r (_ : Unit) => r = res) (ds_B dC dI (va_A [(h_o, .inr (5, [.int o_wide, .int o_high, .int o_hex, .long o_ones, .long o_twos]))] sz) [(h_o, .inr (5, [.int o_wide, .int o_high, .int o_hex, .long o_ones, .long o_twos]))]) (va_A [(h_o, .inr (5, [.int o_wide, .int o_high, .int o_hex, .long o_ones, .long o_twos]))] sz)) 0 0 (va_A [(h_o, .inr (5, [.int o_wide, .int o_high, .int o_hex, .long o_ones, .long o_twos]))] sz) := by
  refine Met.ofW (cc := cX6_ofColour) (maxL := 6) (ret := (some .long)) (by decide) rfl ?_
  intro p e s m args below meth c s₁ B hml hv
  obtain ⟨rfl, hsz, hP, hK, hD0, hE⟩ := hv
  have hx := B.exec
  have hb := B.bytes
  have hr := B.returns
  have hts := atoms_spec (ws := Cond.code yX6_ofColour cX6_ofColour 6 (some .long) :: ds_gw) B.pre
  have hg : ∀ {w : Cond}, w ∈ ds_gw → w.before _ s = true := fun h => hts _ (List.mem_cons_of_mem _ h)
  have hown : s.vm.findClass RX6 = some m.cls := findClass_of_methodNamed B.named
  have hlocks := B.notSynchronized
  subst hsz
  have hD := hD0.self (sz := s.heap.size)
  generalize hAe : va_A [(h_o, .inr (5, [.int o_wide, .int o_high, .int o_hex, .long o_ones, .long o_twos]))] s.heap.size = A at hD hE ⊢
  have hA : ∀ q : Nat, s.heap.size ≤ q → A q := fun q h => by rw [← hAe]; exact Or.inr h
  have hS : va_S A s.heap s.heap [] := va_S.rf
  have hl := lv_entry ([.ref h_o, .int p1]) (n := 6) (Nat.le_of_ble_eq_true rfl)
  rw [lg_entry_eq]
  generalize (lg_sl ([.ref h_o, .int p1]) ++ List.replicate (6 - (lg_sl ([.ref h_o, .int p1])).length) Slot.unset).toArray = ls at hl ⊢
  have hl : lv_has ls 6 [(0, .ref h_o), (1, .int p1)] := hl
  obtain ⟨G0, eG0⟩ : ∃ G : Int64 → Prop, G = (fun r => r = res) := ⟨_, rfl⟩
  obtain ⟨rr, hrr⟩ : ∃ z, z = res := ⟨_, rfl⟩
  rw [← hrr] at hf
  have hG : G0 rr := by subst eG0; exact hrr
  refine ds_cap (fun WW h1 h2 => ?_)
  have J_43 : ∀ (u2 : Int64) (w0 : Int64) (rr : Int64) (hf : fX6_ofColour_43 o_wide o_high u2 w0 = some rr) (hG : G0 rr) (H : Heap) (locs : List Loc) (hP : va_P (dC, dI) vwCl [(h_o, .inr (5, [.int o_wide, .int o_high, .int o_hex, .long o_ones, .long o_twos]))] H) (hD : va_D A [(h_o, .inr (5, [.int o_wide, .int o_high, .int o_hex, .long o_ones, .long o_twos]))]) (hS : va_S A s.heap H locs) (ls : Array Slot) (hl : lv_has ls 6 [(0, .ref h_o), (2, .long u2)]), WW H locs (F0 m 43 ls [.long w0]) := by
    intro u2 w0 rr hf hG H locs hP hD hS ls hl
    refine h2 ?_
    unfold fX6_ofColour_43 at hf
    refine lv_lstore (lv' := [(4, .long w0), (0, .ref h_o), (2, .long u2)]) hx hb dX6_ofColour_43 hl (by decide) rfl (fun ls hl => ?_)
    refine lv_lload_n hx hb dX6_ofColour_45 rfl (lv_at hl 2 rfl) ?_
    refine lv_lload hx hb dX6_ofColour_46 (lv_at hl 0 rfl) ?_
    refine lv_land hx hb dX6_ofColour_48 ?_
    refine lv_aload_n hx hb dX6_ofColour_49 rfl (lv_at hl 1 rfl) ?_
    obtain ⟨q50, hq50, hf⟩ := ds_ob hf
    refine ds_calll (wr := []) (va_runV (As := []) (rest := [.long (u2 &&& w0)]) ⟨hx, hb, hml, hown, hts⟩ (c_X6_all l dC dI ca sa h_o H.size o_wide o_high o_hex o_ones o_twos  q50 hq50) (cwV 0 hts (ds_gV kw_65 kw_66 kw_67 kw_59 kw_68) rfl rfl rfl (by decide +kernel) ⟨Nat.le_of_ble_eq_true rfl, Nat.le_of_ble_eq_true rfl⟩) ⟨ds_blind, va_recv hK hP (ci := 5) (q0 := 0) rfl rfl, ds_at hP hD hK hE hS hA [0] rfl rfl _⟩ rfl rfl hl.1 rfl (lv_room (Nat.le_of_ble_eq_true rfl)) dX6_ofColour_50 ⟨Nat.zero_le _, Nat.zero_le _⟩) hP hD hS hA [0] [] rfl rfl rfl (by decide) (fun H locs hP hD hS => ?_)
    have hP : va_P (dC, dI) vwCl [(h_o, .inr (5, [.int o_wide, .int o_high, .int o_hex, .long o_ones, .long o_twos]))] H := hP
    have hD : va_D A [(h_o, .inr (5, [.int o_wide, .int o_high, .int o_hex, .long o_ones, .long o_twos]))] := hD
    refine lv_land hx hb dX6_ofColour_53 ?_
    have hf := Option.some.inj hf
    subst hf
    rw [eG0] at hG
    have hG : _ = res := hG
    subst hG
    exact W.lret (v := ((u2 &&& w0) &&& q50)) hx hb hr (fun t ht hW => ⟨⟨((u2 &&& w0) &&& q50), (), rfl, rfl, by rw [ht]; exact hP, hD⟩, hS.F ht⟩) hS.2.2 dX6_ofColour_54
  have J_21 : ∀ (w0 : Int64) (rr : Int64) (hf : fX6_ofColour_21 o_wide o_high o_twos p1 w0 = some rr) (hG : G0 rr) (H : Heap) (locs : List Loc) (hP : va_P (dC, dI) vwCl [(h_o, .inr (5, [.int o_wide, .int o_high, .int o_hex, .long o_ones, .long o_twos]))] H) (hD : va_D A [(h_o, .inr (5, [.int o_wide, .int o_high, .int o_hex, .long o_ones, .long o_twos]))]) (hS : va_S A s.heap H locs) (ls : Array Slot) (hl : lv_has ls 6 [(0, .ref h_o), (1, .int p1)]), WW H locs (F0 m 21 ls [.long w0]) := by
    intro w0 rr hf hG H locs hP hD hS ls hl
    refine h2 ?_
    unfold fX6_ofColour_21 at hf
    refine lv_lstore_n (lv' := [(2, .long w0), (0, .ref h_o), (1, .int p1)]) hx hb dX6_ofColour_21 rfl hl (by decide) rfl (fun ls hl => ?_)
    refine lv_iload_n hx hb dX6_ofColour_22 rfl (lv_at hl 2 rfl) ?_
    refine lv_iconst (v := 2) hx hb dX6_ofColour_23 (by decide) ?_
    refine lv_iand hx hb dX6_ofColour_24 ?_
    refine lv_if_eq (tgt := 35) hx hb dX6_ofColour_25 (by decide) (fun c_25 => ?_) (fun c_25 => ?_)
    · replace hf := ds_t c_25 hf
      refine lv_aload_n hx hb dX6_ofColour_35 rfl (lv_at hl 1 rfl) ?_
      refine va_get (D := (dC, dI)) (ci := 5) (v := .long o_twos) (C := RX6) (T := TX6) (N := 5) hx hb hts (fun w h => List.mem_cons_of_mem _ (kc_X6 w h)) hown hK hP 0 rfl rfl 4 (by decide) (hg kw_62) (fun _ h9 => h9) rfl dX6_ofColour_36 ?_
      refine lv_ldc2 (own := RX6) (v := -1) hx hb hown (hg kw_64) dX6_ofColour_39 ?_
      refine lv_lxor hx hb dX6_ofColour_42 ?_
      exact h1 (J_43 w0 (o_twos ^^^ (-1 : Int64)) _ hf hG _ _ hP hD hS _ (lv_sub hl [1, 0] rfl))
    · replace hf := ds_f c_25 hf
      refine lv_aload_n hx hb dX6_ofColour_28 rfl (lv_at hl 1 rfl) ?_
      refine va_get (D := (dC, dI)) (ci := 5) (v := .long o_twos) (C := RX6) (T := TX6) (N := 5) hx hb hts (fun w h => List.mem_cons_of_mem _ (kc_X6 w h)) hown hK hP 0 rfl rfl 4 (by decide) (hg kw_62) (fun _ h9 => h9) rfl dX6_ofColour_29 ?_
      refine lv_goto (tgt := 43) hx hb dX6_ofColour_32 (by decide) ?_
      exact h1 (J_43 w0 o_twos _ hf hG _ _ hP hD hS _ (lv_sub hl [1, 0] rfl))
  unfold fX6_ofColour at hf
  refine lv_iload_n hx hb dX6_ofColour_0 rfl (lv_at hl 1 rfl) ?_
  refine lv_iconst (v := 1) hx hb dX6_ofColour_1 (by decide) ?_
  refine lv_iand hx hb dX6_ofColour_2 ?_
  refine lv_if_eq (tgt := 13) hx hb dX6_ofColour_3 (by decide) (fun c_3 => ?_) (fun c_3 => ?_)
  · replace hf := ds_t c_3 hf
    refine lv_aload_n hx hb dX6_ofColour_13 rfl (lv_at hl 0 rfl) ?_
    refine va_get (D := (dC, dI)) (ci := 5) (v := .long o_ones) (C := RX6) (T := TX6) (N := 5) hx hb hts (fun w h => List.mem_cons_of_mem _ (kc_X6 w h)) hown hK hP 0 rfl rfl 3 (by decide) (hg kw_61) (fun _ h9 => h9) rfl dX6_ofColour_14 ?_
    refine lv_ldc2 (own := RX6) (v := -1) hx hb hown (hg kw_64) dX6_ofColour_17 ?_
    refine lv_lxor hx hb dX6_ofColour_20 ?_
    exact h1 (J_21 (o_ones ^^^ (-1 : Int64)) _ hf hG _ _ hP hD hS _ (lv_sub hl [0, 1] rfl))
  · replace hf := ds_f c_3 hf
    refine lv_aload_n hx hb dX6_ofColour_6 rfl (lv_at hl 0 rfl) ?_
    refine va_get (D := (dC, dI)) (ci := 5) (v := .long o_ones) (C := RX6) (T := TX6) (N := 5) hx hb hts (fun w h => List.mem_cons_of_mem _ (kc_X6 w h)) hown hK hP 0 rfl rfl 3 (by decide) (hg kw_61) (fun _ h9 => h9) rfl dX6_ofColour_7 ?_
    refine lv_goto (tgt := 21) hx hb dX6_ofColour_10 (by decide) ?_
    exact h1 (J_21 o_ones _ hf hG _ _ hP hD hS _ (lv_sub hl [0, 1] rfl))
theorem dX6_mostlyOf_0 : decode cX6_mostlyOf 0 = .ok (.iconst 0, 1) := by decide +kernel
theorem dX6_mostlyOf_1 : decode cX6_mostlyOf 1 = .ok (.istore_n 3, 1) := by decide +kernel
theorem dX6_mostlyOf_2 : decode cX6_mostlyOf 2 = .ok (.iconst 1, 1) := by decide +kernel
theorem dX6_mostlyOf_3 : decode cX6_mostlyOf 3 = .ok (.istore 4, 2) := by decide +kernel
theorem dX6_mostlyOf_5 : decode cX6_mostlyOf 5 = .ok (.iload 4, 2) := by decide +kernel
theorem dX6_mostlyOf_7 : decode cX6_mostlyOf 7 = .ok (.iconst 4, 1) := by decide +kernel
theorem dX6_mostlyOf_8 : decode cX6_mostlyOf 8 = .ok (.if_icmp .ge 36, 3) := by decide +kernel
theorem dX6_mostlyOf_11 : decode cX6_mostlyOf 11 = .ok (.lload_n 1, 1) := by decide +kernel
theorem dX6_mostlyOf_12 : decode cX6_mostlyOf 12 = .ok (.aload_n 0, 1) := by decide +kernel
theorem dX6_mostlyOf_13 : decode cX6_mostlyOf 13 = .ok (.iload 4, 2) := by decide +kernel
theorem dX6_mostlyOf_15 : decode cX6_mostlyOf 15 = .ok (.invokevirtual 52, 3) := by decide +kernel
theorem dX6_mostlyOf_18 : decode cX6_mostlyOf 18 = .ok (.land, 1) := by decide +kernel
theorem dX6_mostlyOf_19 : decode cX6_mostlyOf 19 = .ok (.invokestatic 56, 3) := by decide +kernel
theorem dX6_mostlyOf_22 : decode cX6_mostlyOf 22 = .ok (.lload_n 1, 1) := by decide +kernel
theorem dX6_mostlyOf_23 : decode cX6_mostlyOf 23 = .ok (.aload_n 0, 1) := by decide +kernel
theorem dX6_mostlyOf_24 : decode cX6_mostlyOf 24 = .ok (.iload_n 3, 1) := by decide +kernel
theorem dX6_mostlyOf_25 : decode cX6_mostlyOf 25 = .ok (.invokevirtual 52, 3) := by decide +kernel
theorem dX6_mostlyOf_28 : decode cX6_mostlyOf 28 = .ok (.land, 1) := by decide +kernel
theorem dX6_mostlyOf_29 : decode cX6_mostlyOf 29 = .ok (.invokestatic 56, 3) := by decide +kernel
theorem dX6_mostlyOf_32 : decode cX6_mostlyOf 32 = .ok (.if_icmp .le 6, 3) := by decide +kernel
theorem dX6_mostlyOf_35 : decode cX6_mostlyOf 35 = .ok (.iload 4, 2) := by decide +kernel
theorem dX6_mostlyOf_37 : decode cX6_mostlyOf 37 = .ok (.istore_n 3, 1) := by decide +kernel
theorem dX6_mostlyOf_38 : decode cX6_mostlyOf 38 = .ok (.iinc 4 1, 3) := by decide +kernel
theorem dX6_mostlyOf_41 : decode cX6_mostlyOf 41 = .ok (.goto (-36), 3) := by decide +kernel
theorem dX6_mostlyOf_44 : decode cX6_mostlyOf 44 = .ok (.iload_n 3, 1) := by decide +kernel
theorem dX6_mostlyOf_45 : decode cX6_mostlyOf 45 = .ok (.ireturn, 1) := by decide +kernel
def fX6_mostlyOf_38 (v3 : Int32) (v4 : Int32) : Option ((Int32 × Int32) ⊕ (Int32)) :=
  some (.inl (v3, (v4 + 1)))
def fX6_mostlyOf_5_b (o_wide : Int32) (o_high : Int32) (o_ones : Int64) (o_twos : Int64) (p1 : Int64) (v3 : Int32) (v4 : Int32) : Option ((Int32 × Int32) ⊕ (Int32)) :=
  if (4 : Int32) ≤ v4 then some (.inr v3) else Option.bind (fX6_ofColour o_wide o_high o_ones o_twos v4) fun q15 => Option.bind (fJ13_bitCount_95d88 (p1 &&& q15)) fun q19 => Option.bind (fX6_ofColour o_wide o_high o_ones o_twos v3) fun q25 => Option.bind (fJ13_bitCount_95d88 (p1 &&& q25)) fun q29 => if q19 ≤ q29 then fX6_mostlyOf_38 v3 v4 else fX6_mostlyOf_38 v4 v4
def fX6_mostlyOf_5 (o_wide : Int32) (o_high : Int32) (o_ones : Int64) (o_twos : Int64) (p1 : Int64) (v3 : Int32) (v4 : Int32) : Option (Int32) := ds_it (fun s => fX6_mostlyOf_5_b o_wide o_high o_ones o_twos p1 s.1 s.2) 1000 (v3, v4)
def fX6_mostlyOf (o_wide : Int32) (o_high : Int32) (o_ones : Int64) (o_twos : Int64) (p1 : Int64) : Option (Int32) :=
  fX6_mostlyOf_5 o_wide o_high o_ones o_twos p1 (0 : Int32) (1 : Int32)
set_option maxHeartbeats 4000000 in
set_option maxRecDepth 100000 in
theorem c_X6_mostlyOf (l : Launch) (dC : Nat → ClassId) (dI : Nat → Nat → Nat) (ca : Nat → ClassId) (sa : Nat → Nat) (h_o : Nat) (sz : Nat) (o_wide : Int32) (o_high : Int32) (o_hex : Int32) (o_ones : Int64) (o_twos : Int64) (p1 : Int64) (res : Int32) (hf : fX6_mostlyOf o_wide o_high o_ones o_twos p1 = some res) : Met l yX6_mostlyOf (Cond.code yX6_mostlyOf cX6_mostlyOf 5 (some .int) :: ds_gw) { frames := 2, cells := 0, slots := 0, locals := 49 } (va_Pc [.ref h_o, .long p1] (ds_Pre dC dI ca sa [(h_o, .inr (5, [.int o_wide, .int o_high, .int o_hex, .long o_ones, .long o_twos]))] sz)) (va_Qi (fun r (_ : Unit) => r = res) (ds_B dC dI (va_A [(h_o, .inr (5, [.int o_wide, .int o_high, .int o_hex, .long o_ones, .long o_twos]))] sz) [(h_o, .inr (5, [.int o_wide, .int o_high, .int o_hex, .long o_ones, .long o_twos]))]) (va_A [(h_o, .inr (5, [.int o_wide, .int o_high, .int o_hex, .long o_ones, .long o_twos]))] sz)) 0 0 (va_A [(h_o, .inr (5, [.int o_wide, .int o_high, .int o_hex, .long o_ones, .long o_twos]))] sz) := by
  refine Met.ofW (cc := cX6_mostlyOf) (maxL := 5) (ret := (some .int)) (by decide) rfl ?_
  intro p e s m args below meth c s₁ B hml hv
  obtain ⟨rfl, hsz, hP, hK, hD0, hE⟩ := hv
  have hx := B.exec
  have hb := B.bytes
  have hr := B.returns
  have hts := atoms_spec (ws := Cond.code yX6_mostlyOf cX6_mostlyOf 5 (some .int) :: ds_gw) B.pre
  have hg : ∀ {w : Cond}, w ∈ ds_gw → w.before _ s = true := fun h => hts _ (List.mem_cons_of_mem _ h)
  have hown : s.vm.findClass RX6 = some m.cls := findClass_of_methodNamed B.named
  have hlocks := B.notSynchronized
  subst hsz
  have hD := hD0.self (sz := s.heap.size)
  generalize hAe : va_A [(h_o, .inr (5, [.int o_wide, .int o_high, .int o_hex, .long o_ones, .long o_twos]))] s.heap.size = A at hD hE ⊢
  have hA : ∀ q : Nat, s.heap.size ≤ q → A q := fun q h => by rw [← hAe]; exact Or.inr h
  have hS : va_S A s.heap s.heap [] := va_S.rf
  have hl := lv_entry ([.ref h_o, .long p1]) (n := 5) (Nat.le_of_ble_eq_true rfl)
  rw [lg_entry_eq]
  generalize (lg_sl ([.ref h_o, .long p1]) ++ List.replicate (5 - (lg_sl ([.ref h_o, .long p1])).length) Slot.unset).toArray = ls at hl ⊢
  have hl : lv_has ls 5 [(0, .ref h_o), (1, .long p1)] := hl
  obtain ⟨G0, eG0⟩ : ∃ G : Int32 → Prop, G = (fun r => r = res) := ⟨_, rfl⟩
  obtain ⟨rr, hrr⟩ : ∃ z, z = res := ⟨_, rfl⟩
  rw [← hrr] at hf
  have hG : G0 rr := by subst eG0; exact hrr
  refine ds_cap (fun WW h1 h2 => ?_)
  have J_5 : ∀ (n : Nat) (v3 : Int32) (v4 : Int32) (rr : Int32) (hf : ds_it (fun s => fX6_mostlyOf_5_b o_wide o_high o_ones o_twos p1 s.1 s.2) n (v3, v4) = some rr) (hG : G0 rr) (H : Heap) (locs : List Loc) (hP : va_P (dC, dI) vwCl [(h_o, .inr (5, [.int o_wide, .int o_high, .int o_hex, .long o_ones, .long o_twos]))] H) (hD : va_D A [(h_o, .inr (5, [.int o_wide, .int o_high, .int o_hex, .long o_ones, .long o_twos]))]) (hS : va_S A s.heap H locs) (ls : Array Slot) (hl : lv_has ls 5 [(0, .ref h_o), (1, .long p1), (3, .int v3), (4, .int v4)]), WW H locs (F0 m 5 ls []) := by
    intro  n
    induction n with
    | zero => intro v3 v4 rr hf; exact (ds_it_zero hf).elim
    | succ n ih5 =>
      intro v3 v4 rr hf hG H locs hP hD hS ls hl
      refine h2 ?_
      obtain ⟨rr, hf, hG⟩ := ds_it_succ hf hG
      replace hf : fX6_mostlyOf_5_b o_wide o_high o_ones o_twos p1 v3 v4 = some rr := hf
      obtain ⟨G1, eG1⟩ : ∃ G : ((Int32 × Int32) ⊕ (Int32)) → Prop, G = ds_G (fun s' => ∃ r', ds_it (fun s => fX6_mostlyOf_5_b o_wide o_high o_ones o_twos p1 s.1 s.2) n s' = some r' ∧ G0 r') G0 := ⟨_, rfl⟩
      rw [← eG1] at hG
      have J_38 : ∀ (v3 : Int32) (v4 : Int32) (rr : (Int32 × Int32) ⊕ (Int32)) (hf : fX6_mostlyOf_38 v3 v4 = some rr) (hG : G1 rr) (H : Heap) (locs : List Loc) (hP : va_P (dC, dI) vwCl [(h_o, .inr (5, [.int o_wide, .int o_high, .int o_hex, .long o_ones, .long o_twos]))] H) (hD : va_D A [(h_o, .inr (5, [.int o_wide, .int o_high, .int o_hex, .long o_ones, .long o_twos]))]) (hS : va_S A s.heap H locs) (ls : Array Slot) (hl : lv_has ls 5 [(0, .ref h_o), (1, .long p1), (3, .int v3), (4, .int v4)]), WW H locs (F0 m 38 ls []) := by
        intro v3 v4 rr hf hG H locs hP hD hS ls hl
        refine h2 ?_
        unfold fX6_mostlyOf_38 at hf
        refine lv_iinc (v := (v4 + 1)) (lv' := [(4, .int (v4 + 1)), (0, .ref h_o), (1, .long p1), (3, .int v3)]) hx hb dX6_mostlyOf_38 hl (k := 3) rfl rfl (by decide) rfl (fun ls hl => ?_)
        refine lv_goto (tgt := 5) hx hb dX6_mostlyOf_41 (by decide) ?_
        have hf := Option.some.inj hf
        subst hf
        rw [eG1] at hG
        obtain ⟨rr, hf, hG⟩ := hG
        exact h1 (ih5 v3 (v4 + 1) rr hf hG _ _ hP hD hS _ (lv_sub hl [1, 2, 3, 0] rfl))
      unfold fX6_mostlyOf_5_b at hf
      refine lv_iload hx hb dX6_mostlyOf_5 (lv_at hl 3 rfl) ?_
      refine lv_iconst (v := 4) hx hb dX6_mostlyOf_7 (by decide) ?_
      refine lv_icmp_ge (tgt := 44) hx hb dX6_mostlyOf_8 (by decide) (fun c_8 => ?_) (fun c_8 => ?_)
      · replace hf := ds_t c_8 hf
        refine lv_iload_n hx hb dX6_mostlyOf_44 rfl (lv_at hl 2 rfl) ?_
        have hf := Option.some.inj hf
        subst hf
        rw [eG1] at hG
        replace hG : G0 _ := hG
        rw [eG0] at hG
        have hG : _ = res := hG
        subst hG
        exact W.iret (v := v3) hx hb hr (fun t ht hW => ⟨⟨v3, (), rfl, rfl, by rw [ht]; exact hP, hD⟩, hS.F ht⟩) hS.2.2 dX6_mostlyOf_45
      · replace hf := ds_f c_8 hf
        refine lv_lload_n hx hb dX6_mostlyOf_11 rfl (lv_at hl 1 rfl) ?_
        refine lv_aload_n hx hb dX6_mostlyOf_12 rfl (lv_at hl 0 rfl) ?_
        refine lv_iload hx hb dX6_mostlyOf_13 (lv_at hl 3 rfl) ?_
        obtain ⟨q15, hq15, hf⟩ := ds_ob hf
        refine ds_calll (wr := []) (va_runV (As := [.int v4]) (rest := [.long p1]) ⟨hx, hb, hml, hown, hts⟩ (c_X6_ofColour l dC dI ca sa h_o H.size o_wide o_high o_hex o_ones o_twos v4 q15 hq15) (cwV 1 hts (ds_gV kw_105 kw_106 kw_107 kw_59 kw_108) rfl rfl rfl (by decide +kernel) ⟨Nat.le_of_ble_eq_true rfl, Nat.le_of_ble_eq_true rfl⟩) ⟨ds_blind, va_recv hK hP (ci := 5) (q0 := 0) rfl rfl, ds_at hP hD hK hE hS hA [0] rfl rfl _⟩ rfl rfl hl.1 rfl (lv_room (Nat.le_of_ble_eq_true rfl)) dX6_mostlyOf_15 ⟨Nat.zero_le _, Nat.zero_le _⟩) hP hD hS hA [0] [] rfl rfl rfl (by decide) (fun H locs hP hD hS => ?_)
        have hP : va_P (dC, dI) vwCl [(h_o, .inr (5, [.int o_wide, .int o_high, .int o_hex, .long o_ones, .long o_twos]))] H := hP
        have hD : va_D A [(h_o, .inr (5, [.int o_wide, .int o_high, .int o_hex, .long o_ones, .long o_twos]))] := hD
        refine lv_land hx hb dX6_mostlyOf_18 ?_
        obtain ⟨q19, hq19, hf⟩ := ds_ob hf
        refine ds_calli (wr := [(h_o, .inr (5, [.int o_wide, .int o_high, .int o_hex, .long o_ones, .long o_twos]))]) (va_runS (As := [.long (p1 &&& q15)]) (rest := []) ⟨hx, hb, hml, hown, hts⟩ (c_J13_bitCount_95d88 l dC dI ca sa  H.size  (p1 &&& q15) q19 hq19) (va_cwS 1 hts (ds_gS kw_109 kw_110 kw_111 kw_112) rfl rfl rfl (by decide +kernel) ⟨Nat.le_of_ble_eq_true rfl, Nat.le_of_ble_eq_true rfl⟩) ⟨ds_blind, ds_at hP hD hK hE hS hA [] rfl rfl _⟩ rfl rfl hl.1 rfl (lv_room (Nat.le_of_ble_eq_true rfl)) dX6_mostlyOf_19 ⟨Nat.zero_le _, Nat.zero_le _⟩) hP hD hS hA [] [0] rfl rfl rfl (by decide) (fun H locs hP hD hS => ?_)
        have hP : va_P (dC, dI) vwCl [(h_o, .inr (5, [.int o_wide, .int o_high, .int o_hex, .long o_ones, .long o_twos]))] H := hP
        have hD : va_D A [(h_o, .inr (5, [.int o_wide, .int o_high, .int o_hex, .long o_ones, .long o_twos]))] := hD
        refine lv_lload_n hx hb dX6_mostlyOf_22 rfl (lv_at hl 1 rfl) ?_
        refine lv_aload_n hx hb dX6_mostlyOf_23 rfl (lv_at hl 0 rfl) ?_
        refine lv_iload_n hx hb dX6_mostlyOf_24 rfl (lv_at hl 2 rfl) ?_
        obtain ⟨q25, hq25, hf⟩ := ds_ob hf
        refine ds_calll (wr := []) (va_runV (As := [.int v3]) (rest := [.long p1, .int q19]) ⟨hx, hb, hml, hown, hts⟩ (c_X6_ofColour l dC dI ca sa h_o H.size o_wide o_high o_hex o_ones o_twos v3 q25 hq25) (cwV 1 hts (ds_gV kw_105 kw_106 kw_107 kw_59 kw_108) rfl rfl rfl (by decide +kernel) ⟨Nat.le_of_ble_eq_true rfl, Nat.le_of_ble_eq_true rfl⟩) ⟨ds_blind, va_recv hK hP (ci := 5) (q0 := 0) rfl rfl, ds_at hP hD hK hE hS hA [0] rfl rfl _⟩ rfl rfl hl.1 rfl (lv_room (Nat.le_of_ble_eq_true rfl)) dX6_mostlyOf_25 ⟨Nat.zero_le _, Nat.zero_le _⟩) hP hD hS hA [0] [] rfl rfl rfl (by decide) (fun H locs hP hD hS => ?_)
        have hP : va_P (dC, dI) vwCl [(h_o, .inr (5, [.int o_wide, .int o_high, .int o_hex, .long o_ones, .long o_twos]))] H := hP
        have hD : va_D A [(h_o, .inr (5, [.int o_wide, .int o_high, .int o_hex, .long o_ones, .long o_twos]))] := hD
        refine lv_land hx hb dX6_mostlyOf_28 ?_
        obtain ⟨q29, hq29, hf⟩ := ds_ob hf
        refine ds_calli (wr := [(h_o, .inr (5, [.int o_wide, .int o_high, .int o_hex, .long o_ones, .long o_twos]))]) (va_runS (As := [.long (p1 &&& q25)]) (rest := [.int q19]) ⟨hx, hb, hml, hown, hts⟩ (c_J13_bitCount_95d88 l dC dI ca sa  H.size  (p1 &&& q25) q29 hq29) (va_cwS 1 hts (ds_gS kw_109 kw_110 kw_111 kw_112) rfl rfl rfl (by decide +kernel) ⟨Nat.le_of_ble_eq_true rfl, Nat.le_of_ble_eq_true rfl⟩) ⟨ds_blind, ds_at hP hD hK hE hS hA [] rfl rfl _⟩ rfl rfl hl.1 rfl (lv_room (Nat.le_of_ble_eq_true rfl)) dX6_mostlyOf_29 ⟨Nat.zero_le _, Nat.zero_le _⟩) hP hD hS hA [] [0] rfl rfl rfl (by decide) (fun H locs hP hD hS => ?_)
        have hP : va_P (dC, dI) vwCl [(h_o, .inr (5, [.int o_wide, .int o_high, .int o_hex, .long o_ones, .long o_twos]))] H := hP
        have hD : va_D A [(h_o, .inr (5, [.int o_wide, .int o_high, .int o_hex, .long o_ones, .long o_twos]))] := hD
        refine lv_icmp_le (tgt := 38) hx hb dX6_mostlyOf_32 (by decide) (fun c_32 => ?_) (fun c_32 => ?_)
        · replace hf := ds_t c_32 hf
          exact h1 (J_38 v3 v4 _ hf hG _ _ hP hD hS _ (lv_sub hl [0, 1, 2, 3] rfl))
        · replace hf := ds_f c_32 hf
          refine lv_iload hx hb dX6_mostlyOf_35 (lv_at hl 3 rfl) ?_
          refine lv_istore_n (lv' := [(3, .int v4), (0, .ref h_o), (1, .long p1), (4, .int v4)]) hx hb dX6_mostlyOf_37 rfl hl (by decide) rfl (fun ls hl => ?_)
          exact h1 (J_38 v4 v4 _ hf hG _ _ hP hD hS _ (lv_sub hl [1, 2, 0, 3] rfl))
  unfold fX6_mostlyOf at hf
  refine lv_iconst (v := 0) hx hb dX6_mostlyOf_0 (by decide) ?_
  refine lv_istore_n (lv' := [(3, .int (0 : Int32)), (0, .ref h_o), (1, .long p1)]) hx hb dX6_mostlyOf_1 rfl hl (by decide) rfl (fun ls hl => ?_)
  refine lv_iconst (v := 1) hx hb dX6_mostlyOf_2 (by decide) ?_
  refine lv_istore (lv' := [(4, .int (1 : Int32)), (3, .int (0 : Int32)), (0, .ref h_o), (1, .long p1)]) hx hb dX6_mostlyOf_3 hl (by decide) rfl (fun ls hl => ?_)
  exact h1 (J_5  1000 (0 : Int32) (1 : Int32) _ hf hG _ _ hP hD hS _ (lv_sub hl [2, 3, 1, 0] rfl))
theorem dX6_colourCells_0 : decode cX6_colourCells 0 = .ok (.aload_n 0, 1) := by decide +kernel
theorem dX6_colourCells_1 : decode cX6_colourCells 1 = .ok (.iload_n 3, 1) := by decide +kernel
theorem dX6_colourCells_2 : decode cX6_colourCells 2 = .ok (.iconst 1, 1) := by decide +kernel
theorem dX6_colourCells_3 : decode cX6_colourCells 3 = .ok (.iand, 1) := by decide +kernel
theorem dX6_colourCells_4 : decode cX6_colourCells 4 = .ok (.ifCond .eq 12, 3) := by decide +kernel
theorem dX6_colourCells_7 : decode cX6_colourCells 7 = .ok (.aload_n 0, 1) := by decide +kernel
theorem dX6_colourCells_8 : decode cX6_colourCells 8 = .ok (.getfield 22, 3) := by decide +kernel
theorem dX6_colourCells_11 : decode cX6_colourCells 11 = .ok (.lload_n 1, 1) := by decide +kernel
theorem dX6_colourCells_12 : decode cX6_colourCells 12 = .ok (.lor, 1) := by decide +kernel
theorem dX6_colourCells_13 : decode cX6_colourCells 13 = .ok (.goto 13, 3) := by decide +kernel
theorem dX6_colourCells_16 : decode cX6_colourCells 16 = .ok (.aload_n 0, 1) := by decide +kernel
theorem dX6_colourCells_17 : decode cX6_colourCells 17 = .ok (.getfield 22, 3) := by decide +kernel
theorem dX6_colourCells_20 : decode cX6_colourCells 20 = .ok (.lload_n 1, 1) := by decide +kernel
theorem dX6_colourCells_21 : decode cX6_colourCells 21 = .ok (.ldc2_w 35, 3) := by decide +kernel
theorem dX6_colourCells_24 : decode cX6_colourCells 24 = .ok (.lxor, 1) := by decide +kernel
theorem dX6_colourCells_25 : decode cX6_colourCells 25 = .ok (.land, 1) := by decide +kernel
theorem dX6_colourCells_26 : decode cX6_colourCells 26 = .ok (.putfield 22, 3) := by decide +kernel
theorem dX6_colourCells_29 : decode cX6_colourCells 29 = .ok (.aload_n 0, 1) := by decide +kernel
theorem dX6_colourCells_30 : decode cX6_colourCells 30 = .ok (.iload_n 3, 1) := by decide +kernel
theorem dX6_colourCells_31 : decode cX6_colourCells 31 = .ok (.iconst 2, 1) := by decide +kernel
theorem dX6_colourCells_32 : decode cX6_colourCells 32 = .ok (.iand, 1) := by decide +kernel
theorem dX6_colourCells_33 : decode cX6_colourCells 33 = .ok (.ifCond .eq 12, 3) := by decide +kernel
theorem dX6_colourCells_36 : decode cX6_colourCells 36 = .ok (.aload_n 0, 1) := by decide +kernel
theorem dX6_colourCells_37 : decode cX6_colourCells 37 = .ok (.getfield 26, 3) := by decide +kernel
theorem dX6_colourCells_40 : decode cX6_colourCells 40 = .ok (.lload_n 1, 1) := by decide +kernel
theorem dX6_colourCells_41 : decode cX6_colourCells 41 = .ok (.lor, 1) := by decide +kernel
theorem dX6_colourCells_42 : decode cX6_colourCells 42 = .ok (.goto 13, 3) := by decide +kernel
theorem dX6_colourCells_45 : decode cX6_colourCells 45 = .ok (.aload_n 0, 1) := by decide +kernel
theorem dX6_colourCells_46 : decode cX6_colourCells 46 = .ok (.getfield 26, 3) := by decide +kernel
theorem dX6_colourCells_49 : decode cX6_colourCells 49 = .ok (.lload_n 1, 1) := by decide +kernel
theorem dX6_colourCells_50 : decode cX6_colourCells 50 = .ok (.ldc2_w 35, 3) := by decide +kernel
theorem dX6_colourCells_53 : decode cX6_colourCells 53 = .ok (.lxor, 1) := by decide +kernel
theorem dX6_colourCells_54 : decode cX6_colourCells 54 = .ok (.land, 1) := by decide +kernel
theorem dX6_colourCells_55 : decode cX6_colourCells 55 = .ok (.putfield 26, 3) := by decide +kernel
theorem dX6_colourCells_58 : decode cX6_colourCells 58 = .ok (.return_, 1) := by decide +kernel
def fX6_colourCells_55 (o_ones : Int64) (w0 : Int64) : Option (Int64 × Int64) :=
  some (o_ones, w0)
def fX6_colourCells_26 (o_twos : Int64) (p1 : Int64) (p2 : Int32) (w0 : Int64) : Option (Int64 × Int64) :=
  if (p2 &&& (2 : Int32)) = 0 then fX6_colourCells_55 w0 (o_twos &&& (p1 ^^^ (-1 : Int64))) else fX6_colourCells_55 w0 (o_twos ||| p1)
def fX6_colourCells (o_ones : Int64) (o_twos : Int64) (p1 : Int64) (p2 : Int32) : Option (Int64 × Int64) :=
  if (p2 &&& (1 : Int32)) = 0 then fX6_colourCells_26 o_twos p1 p2 (o_ones &&& (p1 ^^^ (-1 : Int64))) else fX6_colourCells_26 o_twos p1 p2 (o_ones ||| p1)
set_option maxHeartbeats 4000000 in
set_option maxRecDepth 100000 in
theorem c_X6_colourCells (l : Launch) (dC : Nat → ClassId) (dI : Nat → Nat → Nat) (ca : Nat → ClassId) (sa : Nat → Nat) (h_o : Nat) (sz : Nat) (o_wide : Int32) (o_high : Int32) (o_hex : Int32) (o_ones : Int64) (o_twos : Int64) (p1 : Int64) (p2 : Int32) (res : Int64 × Int64) (hf : fX6_colourCells o_ones o_twos p1 p2 = some res) : Met l yX6_colourCells (Cond.code yX6_colourCells cX6_colourCells 4 none :: ds_gw) { frames := 0, cells := 0, slots := 0, locals := 0 } (va_Pc [.ref h_o, .long p1, .int p2] (ds_Pre dC dI ca sa [(h_o, .inr (5, [.int o_wide, .int o_high, .int o_hex, .long o_ones, .long o_twos]))] sz)) (va_Qv (fun (_ : Unit) => True) (ds_B dC dI (va_A [(h_o, .inr (5, [.int o_wide, .int o_high, .int o_hex, .long o_ones, .long o_twos]))] sz) [(h_o, .inr (5, [.int o_wide, .int o_high, .int o_hex, .long res.1, .long res.2]))]) (va_A [(h_o, .inr (5, [.int o_wide, .int o_high, .int o_hex, .long o_ones, .long o_twos]))] sz)) 0 0 (va_A [(h_o, .inr (5, [.int o_wide, .int o_high, .int o_hex, .long o_ones, .long o_twos]))] sz) := by
  refine Met.ofW (cc := cX6_colourCells) (maxL := 4) (ret := none) (by decide) rfl ?_
  intro p e s m args below meth c s₁ B hml hv
  obtain ⟨rfl, hsz, hP, hK, hD0, hE⟩ := hv
  have hx := B.exec
  have hb := B.bytes
  have hr := B.returns
  have hts := atoms_spec (ws := Cond.code yX6_colourCells cX6_colourCells 4 none :: ds_gw) B.pre
  have hg : ∀ {w : Cond}, w ∈ ds_gw → w.before _ s = true := fun h => hts _ (List.mem_cons_of_mem _ h)
  have hown : s.vm.findClass RX6 = some m.cls := findClass_of_methodNamed B.named
  have hlocks := B.notSynchronized
  subst hsz
  have hD := hD0.self (sz := s.heap.size)
  generalize hAe : va_A [(h_o, .inr (5, [.int o_wide, .int o_high, .int o_hex, .long o_ones, .long o_twos]))] s.heap.size = A at hD hE ⊢
  have hA : ∀ q : Nat, s.heap.size ≤ q → A q := fun q h => by rw [← hAe]; exact Or.inr h
  have hS : va_S A s.heap s.heap [] := va_S.rf
  have hl := lv_entry ([.ref h_o, .long p1, .int p2]) (n := 4) (Nat.le_of_ble_eq_true rfl)
  rw [lg_entry_eq]
  generalize (lg_sl ([.ref h_o, .long p1, .int p2]) ++ List.replicate (4 - (lg_sl ([.ref h_o, .long p1, .int p2])).length) Slot.unset).toArray = ls at hl ⊢
  have hl : lv_has ls 4 [(0, .ref h_o), (1, .long p1), (3, .int p2)] := hl
  obtain ⟨G0, eG0⟩ : ∃ G : (Int64 × Int64) → Prop, G = (fun r => r = res) := ⟨_, rfl⟩
  obtain ⟨rr, hrr⟩ : ∃ z, z = res := ⟨_, rfl⟩
  rw [← hrr] at hf
  have hG : G0 rr := by subst eG0; exact hrr
  refine ds_cap (fun WW h1 h2 => ?_)
  have J_55 : ∀ (w0 : Int64) (o_ones : Int64) (o_twos : Int64) (rr : Int64 × Int64) (hf : fX6_colourCells_55 o_ones w0 = some rr) (hG : G0 rr) (H : Heap) (locs : List Loc) (hP : va_P (dC, dI) vwCl [(h_o, .inr (5, [.int o_wide, .int o_high, .int o_hex, .long o_ones, .long o_twos]))] H) (hD : va_D A [(h_o, .inr (5, [.int o_wide, .int o_high, .int o_hex, .long o_ones, .long o_twos]))]) (hS : va_S A s.heap H locs) (ls : Array Slot) (hl : lv_has ls 4 []), WW H locs (F0 m 55 ls [.long w0, .ref h_o]) := by
    intro w0 o_ones o_twos rr hf hG H locs hP hD hS ls hl
    refine h2 ?_
    unfold fX6_colourCells_55 at hf
    refine va_put (D := (dC, dI)) (ci := 5) (v := .long w0) (ty := tyX6 4) (C := RX6) (T := TX6) (N := 5) hx hb hts (fun w h => List.mem_cons_of_mem _ (kc_X6 w h)) tyX6 tyX6_ok nmX6 hown hK hP hD hS 0 rfl rfl 4 (by decide) (hg kw_62) (fun _ h9 => h9) rfl (by decide +kernel) rfl rfl (Nat.le_of_ble_eq_true rfl) dX6_colourCells_55 (fun H locs hP hD hS => ?_)
    have hP : va_P (dC, dI) vwCl [(h_o, .inr (5, [.int o_wide, .int o_high, .int o_hex, .long o_ones, .long w0]))] H := hP
    have hD : va_D A [(h_o, .inr (5, [.int o_wide, .int o_high, .int o_hex, .long o_ones, .long w0]))] := hD
    have hf := Option.some.inj hf
    subst hf
    rw [eG0] at hG
    have hG : _ = res := hG
    subst hG
    exact W.vret hx hb hr (fun t ht hW => ⟨⟨(), rfl, trivial, by rw [ht]; exact hP, hD⟩, hS.F ht⟩) hS.2.2 dX6_colourCells_58
  have J_26 : ∀ (w0 : Int64) (o_ones : Int64) (o_twos : Int64) (rr : Int64 × Int64) (hf : fX6_colourCells_26 o_twos p1 p2 w0 = some rr) (hG : G0 rr) (H : Heap) (locs : List Loc) (hP : va_P (dC, dI) vwCl [(h_o, .inr (5, [.int o_wide, .int o_high, .int o_hex, .long o_ones, .long o_twos]))] H) (hD : va_D A [(h_o, .inr (5, [.int o_wide, .int o_high, .int o_hex, .long o_ones, .long o_twos]))]) (hS : va_S A s.heap H locs) (ls : Array Slot) (hl : lv_has ls 4 [(0, .ref h_o), (1, .long p1), (3, .int p2)]), WW H locs (F0 m 26 ls [.long w0, .ref h_o]) := by
    intro w0 o_ones o_twos rr hf hG H locs hP hD hS ls hl
    refine h2 ?_
    unfold fX6_colourCells_26 at hf
    refine va_put (D := (dC, dI)) (ci := 5) (v := .long w0) (ty := tyX6 3) (C := RX6) (T := TX6) (N := 5) hx hb hts (fun w h => List.mem_cons_of_mem _ (kc_X6 w h)) tyX6 tyX6_ok nmX6 hown hK hP hD hS 0 rfl rfl 3 (by decide) (hg kw_61) (fun _ h9 => h9) rfl (by decide +kernel) rfl rfl (Nat.le_of_ble_eq_true rfl) dX6_colourCells_26 (fun H locs hP hD hS => ?_)
    have hP : va_P (dC, dI) vwCl [(h_o, .inr (5, [.int o_wide, .int o_high, .int o_hex, .long w0, .long o_twos]))] H := hP
    have hD : va_D A [(h_o, .inr (5, [.int o_wide, .int o_high, .int o_hex, .long w0, .long o_twos]))] := hD
    refine lv_aload_n hx hb dX6_colourCells_29 rfl (lv_at hl 0 rfl) ?_
    refine lv_iload_n hx hb dX6_colourCells_30 rfl (lv_at hl 2 rfl) ?_
    refine lv_iconst (v := 2) hx hb dX6_colourCells_31 (by decide) ?_
    refine lv_iand hx hb dX6_colourCells_32 ?_
    refine lv_if_eq (tgt := 45) hx hb dX6_colourCells_33 (by decide) (fun c_33 => ?_) (fun c_33 => ?_)
    · replace hf := ds_t c_33 hf
      refine lv_aload_n hx hb dX6_colourCells_45 rfl (lv_at hl 0 rfl) ?_
      refine va_get (D := (dC, dI)) (ci := 5) (v := .long o_twos) (C := RX6) (T := TX6) (N := 5) hx hb hts (fun w h => List.mem_cons_of_mem _ (kc_X6 w h)) hown hK hP 0 rfl rfl 4 (by decide) (hg kw_62) (fun _ h9 => h9) rfl dX6_colourCells_46 ?_
      refine lv_lload_n hx hb dX6_colourCells_49 rfl (lv_at hl 1 rfl) ?_
      refine lv_ldc2 (own := RX6) (v := -1) hx hb hown (hg kw_64) dX6_colourCells_50 ?_
      refine lv_lxor hx hb dX6_colourCells_53 ?_
      refine lv_land hx hb dX6_colourCells_54 ?_
      exact h1 (J_55 (o_twos &&& (p1 ^^^ (-1 : Int64))) w0 o_twos _ hf hG _ _ hP hD hS _ (lv_sub hl [] rfl))
    · replace hf := ds_f c_33 hf
      refine lv_aload_n hx hb dX6_colourCells_36 rfl (lv_at hl 0 rfl) ?_
      refine va_get (D := (dC, dI)) (ci := 5) (v := .long o_twos) (C := RX6) (T := TX6) (N := 5) hx hb hts (fun w h => List.mem_cons_of_mem _ (kc_X6 w h)) hown hK hP 0 rfl rfl 4 (by decide) (hg kw_62) (fun _ h9 => h9) rfl dX6_colourCells_37 ?_
      refine lv_lload_n hx hb dX6_colourCells_40 rfl (lv_at hl 1 rfl) ?_
      refine lv_lor hx hb dX6_colourCells_41 ?_
      refine lv_goto (tgt := 55) hx hb dX6_colourCells_42 (by decide) ?_
      exact h1 (J_55 (o_twos ||| p1) w0 o_twos _ hf hG _ _ hP hD hS _ (lv_sub hl [] rfl))
  unfold fX6_colourCells at hf
  refine lv_aload_n hx hb dX6_colourCells_0 rfl (lv_at hl 0 rfl) ?_
  refine lv_iload_n hx hb dX6_colourCells_1 rfl (lv_at hl 2 rfl) ?_
  refine lv_iconst (v := 1) hx hb dX6_colourCells_2 (by decide) ?_
  refine lv_iand hx hb dX6_colourCells_3 ?_
  refine lv_if_eq (tgt := 16) hx hb dX6_colourCells_4 (by decide) (fun c_4 => ?_) (fun c_4 => ?_)
  · replace hf := ds_t c_4 hf
    refine lv_aload_n hx hb dX6_colourCells_16 rfl (lv_at hl 0 rfl) ?_
    refine va_get (D := (dC, dI)) (ci := 5) (v := .long o_ones) (C := RX6) (T := TX6) (N := 5) hx hb hts (fun w h => List.mem_cons_of_mem _ (kc_X6 w h)) hown hK hP 0 rfl rfl 3 (by decide) (hg kw_61) (fun _ h9 => h9) rfl dX6_colourCells_17 ?_
    refine lv_lload_n hx hb dX6_colourCells_20 rfl (lv_at hl 1 rfl) ?_
    refine lv_ldc2 (own := RX6) (v := -1) hx hb hown (hg kw_64) dX6_colourCells_21 ?_
    refine lv_lxor hx hb dX6_colourCells_24 ?_
    refine lv_land hx hb dX6_colourCells_25 ?_
    exact h1 (J_26 (o_ones &&& (p1 ^^^ (-1 : Int64))) o_ones o_twos _ hf hG _ _ hP hD hS _ (lv_sub hl [0, 1, 2] rfl))
  · replace hf := ds_f c_4 hf
    refine lv_aload_n hx hb dX6_colourCells_7 rfl (lv_at hl 0 rfl) ?_
    refine va_get (D := (dC, dI)) (ci := 5) (v := .long o_ones) (C := RX6) (T := TX6) (N := 5) hx hb hts (fun w h => List.mem_cons_of_mem _ (kc_X6 w h)) hown hK hP 0 rfl rfl 3 (by decide) (hg kw_61) (fun _ h9 => h9) rfl dX6_colourCells_8 ?_
    refine lv_lload_n hx hb dX6_colourCells_11 rfl (lv_at hl 1 rfl) ?_
    refine lv_lor hx hb dX6_colourCells_12 ?_
    refine lv_goto (tgt := 26) hx hb dX6_colourCells_13 (by decide) ?_
    exact h1 (J_26 (o_ones ||| p1) o_ones o_twos _ hf hG _ _ hP hD hS _ (lv_sub hl [0, 1, 2] rfl))
theorem dX6_has_0 : decode cX6_has 0 = .ok (.iload_n 1, 1) := by decide +kernel
theorem dX6_has_1 : decode cX6_has 1 = .ok (.ifCond .lt 27, 3) := by decide +kernel
theorem dX6_has_4 : decode cX6_has 4 = .ok (.iload_n 1, 1) := by decide +kernel
theorem dX6_has_5 : decode cX6_has 5 = .ok (.aload_n 0, 1) := by decide +kernel
theorem dX6_has_6 : decode cX6_has 6 = .ok (.getfield 9, 3) := by decide +kernel
theorem dX6_has_9 : decode cX6_has 9 = .ok (.if_icmp .ge 19, 3) := by decide +kernel
theorem dX6_has_12 : decode cX6_has 12 = .ok (.iload_n 2, 1) := by decide +kernel
theorem dX6_has_13 : decode cX6_has 13 = .ok (.ifCond .lt 15, 3) := by decide +kernel
theorem dX6_has_16 : decode cX6_has 16 = .ok (.iload_n 2, 1) := by decide +kernel
theorem dX6_has_17 : decode cX6_has 17 = .ok (.aload_n 0, 1) := by decide +kernel
theorem dX6_has_18 : decode cX6_has 18 = .ok (.getfield 15, 3) := by decide +kernel
theorem dX6_has_21 : decode cX6_has 21 = .ok (.if_icmp .ge 7, 3) := by decide +kernel
theorem dX6_has_24 : decode cX6_has 24 = .ok (.iconst 1, 1) := by decide +kernel
theorem dX6_has_25 : decode cX6_has 25 = .ok (.goto 4, 3) := by decide +kernel
theorem dX6_has_28 : decode cX6_has 28 = .ok (.iconst 0, 1) := by decide +kernel
theorem dX6_has_29 : decode cX6_has 29 = .ok (.ireturn, 1) := by decide +kernel
def fX6_has (o_wide : Int32) (o_high : Int32) (p1 : Int32) (p2 : Int32) : Option (Int32) :=
  if p1 < 0 then some (0 : Int32) else if o_wide ≤ p1 then some (0 : Int32) else if p2 < 0 then some (0 : Int32) else if o_high ≤ p2 then some (0 : Int32) else some (1 : Int32)
set_option maxHeartbeats 4000000 in
set_option maxRecDepth 100000 in
theorem c_X6_has (l : Launch) (dC : Nat → ClassId) (dI : Nat → Nat → Nat) (ca : Nat → ClassId) (sa : Nat → Nat) (h_o : Nat) (sz : Nat) (o_wide : Int32) (o_high : Int32) (o_hex : Int32) (o_ones : Int64) (o_twos : Int64) (p1 : Int32) (p2 : Int32) (res : Int32) (hf : fX6_has o_wide o_high p1 p2 = some res) : Met l yX6_has (Cond.code yX6_has cX6_has 3 (some .boolean) :: ds_gw) { frames := 0, cells := 0, slots := 0, locals := 0 } (va_Pc [.ref h_o, .int p1, .int p2] (ds_Pre dC dI ca sa [(h_o, .inr (5, [.int o_wide, .int o_high, .int o_hex, .long o_ones, .long o_twos]))] sz)) (va_Qi (fun r (_ : Unit) => r = res) (ds_B dC dI (va_A [(h_o, .inr (5, [.int o_wide, .int o_high, .int o_hex, .long o_ones, .long o_twos]))] sz) [(h_o, .inr (5, [.int o_wide, .int o_high, .int o_hex, .long o_ones, .long o_twos]))]) (va_A [(h_o, .inr (5, [.int o_wide, .int o_high, .int o_hex, .long o_ones, .long o_twos]))] sz)) 0 0 (va_A [(h_o, .inr (5, [.int o_wide, .int o_high, .int o_hex, .long o_ones, .long o_twos]))] sz) := by
  refine Met.ofW (cc := cX6_has) (maxL := 3) (ret := (some .boolean)) (by decide) rfl ?_
  intro p e s m args below meth c s₁ B hml hv
  obtain ⟨rfl, hsz, hP, hK, hD0, hE⟩ := hv
  have hx := B.exec
  have hb := B.bytes
  have hr := B.returns
  have hts := atoms_spec (ws := Cond.code yX6_has cX6_has 3 (some .boolean) :: ds_gw) B.pre
  have hg : ∀ {w : Cond}, w ∈ ds_gw → w.before _ s = true := fun h => hts _ (List.mem_cons_of_mem _ h)
  have hown : s.vm.findClass RX6 = some m.cls := findClass_of_methodNamed B.named
  have hlocks := B.notSynchronized
  subst hsz
  have hD := hD0.self (sz := s.heap.size)
  generalize hAe : va_A [(h_o, .inr (5, [.int o_wide, .int o_high, .int o_hex, .long o_ones, .long o_twos]))] s.heap.size = A at hD hE ⊢
  have hA : ∀ q : Nat, s.heap.size ≤ q → A q := fun q h => by rw [← hAe]; exact Or.inr h
  have hS : va_S A s.heap s.heap [] := va_S.rf
  have hl := lv_entry ([.ref h_o, .int p1, .int p2]) (n := 3) (Nat.le_of_ble_eq_true rfl)
  rw [lg_entry_eq]
  generalize (lg_sl ([.ref h_o, .int p1, .int p2]) ++ List.replicate (3 - (lg_sl ([.ref h_o, .int p1, .int p2])).length) Slot.unset).toArray = ls at hl ⊢
  have hl : lv_has ls 3 [(0, .ref h_o), (1, .int p1), (2, .int p2)] := hl
  obtain ⟨G0, eG0⟩ : ∃ G : Int32 → Prop, G = (fun r => r = res) := ⟨_, rfl⟩
  obtain ⟨rr, hrr⟩ : ∃ z, z = res := ⟨_, rfl⟩
  rw [← hrr] at hf
  have hG : G0 rr := by subst eG0; exact hrr
  unfold fX6_has at hf
  refine lv_iload_n hx hb dX6_has_0 rfl (lv_at hl 1 rfl) ?_
  refine lv_if_lt (tgt := 28) hx hb dX6_has_1 (by decide) (fun c_1 => ?_) (fun c_1 => ?_)
  · replace hf := ds_t c_1 hf
    refine lv_iconst (v := 0) hx hb dX6_has_28 (by decide) ?_
    have hf := Option.some.inj hf
    subst hf
    rw [eG0] at hG
    have hG : _ = res := hG
    subst hG
    exact W.zret (v := (0 : Int32)) (ty := .boolean) hx hb hr rfl (fun t ht hW => ⟨⟨(0 : Int32), (), rfl, rfl, by rw [ht]; exact hP, hD⟩, hS.F ht⟩) hS.2.2 dX6_has_29
  · replace hf := ds_f c_1 hf
    refine lv_iload_n hx hb dX6_has_4 rfl (lv_at hl 1 rfl) ?_
    refine lv_aload_n hx hb dX6_has_5 rfl (lv_at hl 0 rfl) ?_
    refine va_get (D := (dC, dI)) (ci := 5) (v := .int o_wide) (C := RX6) (T := TX6) (N := 5) hx hb hts (fun w h => List.mem_cons_of_mem _ (kc_X6 w h)) hown hK hP 0 rfl rfl 0 (by decide) (hg kw_48) (fun _ h9 => h9) rfl dX6_has_6 ?_
    refine lv_icmp_ge (tgt := 28) hx hb dX6_has_9 (by decide) (fun c_9 => ?_) (fun c_9 => ?_)
    · replace hf := ds_t c_9 hf
      refine lv_iconst (v := 0) hx hb dX6_has_28 (by decide) ?_
      have hf := Option.some.inj hf
      subst hf
      rw [eG0] at hG
      have hG : _ = res := hG
      subst hG
      exact W.zret (v := (0 : Int32)) (ty := .boolean) hx hb hr rfl (fun t ht hW => ⟨⟨(0 : Int32), (), rfl, rfl, by rw [ht]; exact hP, hD⟩, hS.F ht⟩) hS.2.2 dX6_has_29
    · replace hf := ds_f c_9 hf
      refine lv_iload_n hx hb dX6_has_12 rfl (lv_at hl 2 rfl) ?_
      refine lv_if_lt (tgt := 28) hx hb dX6_has_13 (by decide) (fun c_13 => ?_) (fun c_13 => ?_)
      · replace hf := ds_t c_13 hf
        refine lv_iconst (v := 0) hx hb dX6_has_28 (by decide) ?_
        have hf := Option.some.inj hf
        subst hf
        rw [eG0] at hG
        have hG : _ = res := hG
        subst hG
        exact W.zret (v := (0 : Int32)) (ty := .boolean) hx hb hr rfl (fun t ht hW => ⟨⟨(0 : Int32), (), rfl, rfl, by rw [ht]; exact hP, hD⟩, hS.F ht⟩) hS.2.2 dX6_has_29
      · replace hf := ds_f c_13 hf
        refine lv_iload_n hx hb dX6_has_16 rfl (lv_at hl 2 rfl) ?_
        refine lv_aload_n hx hb dX6_has_17 rfl (lv_at hl 0 rfl) ?_
        refine va_get (D := (dC, dI)) (ci := 5) (v := .int o_high) (C := RX6) (T := TX6) (N := 5) hx hb hts (fun w h => List.mem_cons_of_mem _ (kc_X6 w h)) hown hK hP 0 rfl rfl 1 (by decide) (hg kw_54) (fun _ h9 => h9) rfl dX6_has_18 ?_
        refine lv_icmp_ge (tgt := 28) hx hb dX6_has_21 (by decide) (fun c_21 => ?_) (fun c_21 => ?_)
        · replace hf := ds_t c_21 hf
          refine lv_iconst (v := 0) hx hb dX6_has_28 (by decide) ?_
          have hf := Option.some.inj hf
          subst hf
          rw [eG0] at hG
          have hG : _ = res := hG
          subst hG
          exact W.zret (v := (0 : Int32)) (ty := .boolean) hx hb hr rfl (fun t ht hW => ⟨⟨(0 : Int32), (), rfl, rfl, by rw [ht]; exact hP, hD⟩, hS.F ht⟩) hS.2.2 dX6_has_29
        · replace hf := ds_f c_21 hf
          refine lv_iconst (v := 1) hx hb dX6_has_24 (by decide) ?_
          refine lv_goto (tgt := 29) hx hb dX6_has_25 (by decide) ?_
          have hf := Option.some.inj hf
          subst hf
          rw [eG0] at hG
          have hG : _ = res := hG
          subst hG
          exact W.zret (v := (1 : Int32)) (ty := .boolean) hx hb hr rfl (fun t ht hW => ⟨⟨(1 : Int32), (), rfl, rfl, by rw [ht]; exact hP, hD⟩, hS.F ht⟩) hS.2.2 dX6_has_29
theorem dX6_colourAt_0 : decode cX6_colourAt 0 = .ok (.aload_n 0, 1) := by decide +kernel
theorem dX6_colourAt_1 : decode cX6_colourAt 1 = .ok (.iload_n 1, 1) := by decide +kernel
theorem dX6_colourAt_2 : decode cX6_colourAt 2 = .ok (.iload_n 2, 1) := by decide +kernel
theorem dX6_colourAt_3 : decode cX6_colourAt 3 = .ok (.invokevirtual 45, 3) := by decide +kernel
theorem dX6_colourAt_6 : decode cX6_colourAt 6 = .ok (.lstore_n 3, 1) := by decide +kernel
theorem dX6_colourAt_7 : decode cX6_colourAt 7 = .ok (.aload_n 0, 1) := by decide +kernel
theorem dX6_colourAt_8 : decode cX6_colourAt 8 = .ok (.getfield 22, 3) := by decide +kernel
theorem dX6_colourAt_11 : decode cX6_colourAt 11 = .ok (.lload_n 3, 1) := by decide +kernel
theorem dX6_colourAt_12 : decode cX6_colourAt 12 = .ok (.land, 1) := by decide +kernel
theorem dX6_colourAt_13 : decode cX6_colourAt 13 = .ok (.lconst 0, 1) := by decide +kernel
theorem dX6_colourAt_14 : decode cX6_colourAt 14 = .ok (.lcmp, 1) := by decide +kernel
theorem dX6_colourAt_15 : decode cX6_colourAt 15 = .ok (.ifCond .eq 7, 3) := by decide +kernel
theorem dX6_colourAt_18 : decode cX6_colourAt 18 = .ok (.iconst 1, 1) := by decide +kernel
theorem dX6_colourAt_19 : decode cX6_colourAt 19 = .ok (.goto 4, 3) := by decide +kernel
theorem dX6_colourAt_22 : decode cX6_colourAt 22 = .ok (.iconst 0, 1) := by decide +kernel
theorem dX6_colourAt_23 : decode cX6_colourAt 23 = .ok (.aload_n 0, 1) := by decide +kernel
theorem dX6_colourAt_24 : decode cX6_colourAt 24 = .ok (.getfield 26, 3) := by decide +kernel
theorem dX6_colourAt_27 : decode cX6_colourAt 27 = .ok (.lload_n 3, 1) := by decide +kernel
theorem dX6_colourAt_28 : decode cX6_colourAt 28 = .ok (.land, 1) := by decide +kernel
theorem dX6_colourAt_29 : decode cX6_colourAt 29 = .ok (.lconst 0, 1) := by decide +kernel
theorem dX6_colourAt_30 : decode cX6_colourAt 30 = .ok (.lcmp, 1) := by decide +kernel
theorem dX6_colourAt_31 : decode cX6_colourAt 31 = .ok (.ifCond .eq 7, 3) := by decide +kernel
theorem dX6_colourAt_34 : decode cX6_colourAt 34 = .ok (.iconst 2, 1) := by decide +kernel
theorem dX6_colourAt_35 : decode cX6_colourAt 35 = .ok (.goto 4, 3) := by decide +kernel
theorem dX6_colourAt_38 : decode cX6_colourAt 38 = .ok (.iconst 0, 1) := by decide +kernel
theorem dX6_colourAt_39 : decode cX6_colourAt 39 = .ok (.iadd, 1) := by decide +kernel
theorem dX6_colourAt_40 : decode cX6_colourAt 40 = .ok (.ireturn, 1) := by decide +kernel
def fX6_colourAt_39 (s0 : Int32) (s1 : Int32) : Option (Int32) :=
  some (s1 + s0)
def fX6_colourAt_23 (o_twos : Int64) (s0 : Int32) (u3 : Int64) : Option (Int32) :=
  if (lg_cmp (o_twos &&& u3) (0 : Int64)) = 0 then fX6_colourAt_39 (0 : Int32) s0 else fX6_colourAt_39 (2 : Int32) s0
def fX6_colourAt (o_wide : Int32) (o_high : Int32) (o_ones : Int64) (o_twos : Int64) (p1 : Int32) (p2 : Int32) : Option (Int32) :=
  Option.bind (fX6_bitOfPlane o_wide o_high p1 p2) fun q3 => if (lg_cmp (o_ones &&& q3) (0 : Int64)) = 0 then fX6_colourAt_23 o_twos (0 : Int32) q3 else fX6_colourAt_23 o_twos (1 : Int32) q3
set_option maxHeartbeats 4000000 in
set_option maxRecDepth 100000 in
theorem c_X6_colourAt (l : Launch) (dC : Nat → ClassId) (dI : Nat → Nat → Nat) (ca : Nat → ClassId) (sa : Nat → Nat) (h_o : Nat) (sz : Nat) (o_wide : Int32) (o_high : Int32) (o_hex : Int32) (o_ones : Int64) (o_twos : Int64) (p1 : Int32) (p2 : Int32) (res : Int32) (hf : fX6_colourAt o_wide o_high o_ones o_twos p1 p2 = some res) : Met l yX6_colourAt (Cond.code yX6_colourAt cX6_colourAt 5 (some .int) :: ds_gw) { frames := 2, cells := 0, slots := 0, locals := 44 } (va_Pc [.ref h_o, .int p1, .int p2] (ds_Pre dC dI ca sa [(h_o, .inr (5, [.int o_wide, .int o_high, .int o_hex, .long o_ones, .long o_twos]))] sz)) (va_Qi (fun r (_ : Unit) => r = res) (ds_B dC dI (va_A [(h_o, .inr (5, [.int o_wide, .int o_high, .int o_hex, .long o_ones, .long o_twos]))] sz) [(h_o, .inr (5, [.int o_wide, .int o_high, .int o_hex, .long o_ones, .long o_twos]))]) (va_A [(h_o, .inr (5, [.int o_wide, .int o_high, .int o_hex, .long o_ones, .long o_twos]))] sz)) 0 0 (va_A [(h_o, .inr (5, [.int o_wide, .int o_high, .int o_hex, .long o_ones, .long o_twos]))] sz) := by
  refine Met.ofW (cc := cX6_colourAt) (maxL := 5) (ret := (some .int)) (by decide) rfl ?_
  intro p e s m args below meth c s₁ B hml hv
  obtain ⟨rfl, hsz, hP, hK, hD0, hE⟩ := hv
  have hx := B.exec
  have hb := B.bytes
  have hr := B.returns
  have hts := atoms_spec (ws := Cond.code yX6_colourAt cX6_colourAt 5 (some .int) :: ds_gw) B.pre
  have hg : ∀ {w : Cond}, w ∈ ds_gw → w.before _ s = true := fun h => hts _ (List.mem_cons_of_mem _ h)
  have hown : s.vm.findClass RX6 = some m.cls := findClass_of_methodNamed B.named
  have hlocks := B.notSynchronized
  subst hsz
  have hD := hD0.self (sz := s.heap.size)
  generalize hAe : va_A [(h_o, .inr (5, [.int o_wide, .int o_high, .int o_hex, .long o_ones, .long o_twos]))] s.heap.size = A at hD hE ⊢
  have hA : ∀ q : Nat, s.heap.size ≤ q → A q := fun q h => by rw [← hAe]; exact Or.inr h
  have hS : va_S A s.heap s.heap [] := va_S.rf
  have hl := lv_entry ([.ref h_o, .int p1, .int p2]) (n := 5) (Nat.le_of_ble_eq_true rfl)
  rw [lg_entry_eq]
  generalize (lg_sl ([.ref h_o, .int p1, .int p2]) ++ List.replicate (5 - (lg_sl ([.ref h_o, .int p1, .int p2])).length) Slot.unset).toArray = ls at hl ⊢
  have hl : lv_has ls 5 [(0, .ref h_o), (1, .int p1), (2, .int p2)] := hl
  obtain ⟨G0, eG0⟩ : ∃ G : Int32 → Prop, G = (fun r => r = res) := ⟨_, rfl⟩
  obtain ⟨rr, hrr⟩ : ∃ z, z = res := ⟨_, rfl⟩
  rw [← hrr] at hf
  have hG : G0 rr := by subst eG0; exact hrr
  refine ds_cap (fun WW h1 h2 => ?_)
  have J_39 : ∀ (s0 : Int32) (s1 : Int32) (rr : Int32) (hf : fX6_colourAt_39 s0 s1 = some rr) (hG : G0 rr) (H : Heap) (locs : List Loc) (hP : va_P (dC, dI) vwCl [(h_o, .inr (5, [.int o_wide, .int o_high, .int o_hex, .long o_ones, .long o_twos]))] H) (hD : va_D A [(h_o, .inr (5, [.int o_wide, .int o_high, .int o_hex, .long o_ones, .long o_twos]))]) (hS : va_S A s.heap H locs) (ls : Array Slot) (hl : lv_has ls 5 []), WW H locs (F0 m 39 ls [.int s0, .int s1]) := by
    intro s0 s1 rr hf hG H locs hP hD hS ls hl
    refine h2 ?_
    unfold fX6_colourAt_39 at hf
    refine lv_iadd hx hb dX6_colourAt_39 ?_
    have hf := Option.some.inj hf
    subst hf
    rw [eG0] at hG
    have hG : _ = res := hG
    subst hG
    exact W.iret (v := (s1 + s0)) hx hb hr (fun t ht hW => ⟨⟨(s1 + s0), (), rfl, rfl, by rw [ht]; exact hP, hD⟩, hS.F ht⟩) hS.2.2 dX6_colourAt_40
  have J_23 : ∀ (u3 : Int64) (s0 : Int32) (rr : Int32) (hf : fX6_colourAt_23 o_twos s0 u3 = some rr) (hG : G0 rr) (H : Heap) (locs : List Loc) (hP : va_P (dC, dI) vwCl [(h_o, .inr (5, [.int o_wide, .int o_high, .int o_hex, .long o_ones, .long o_twos]))] H) (hD : va_D A [(h_o, .inr (5, [.int o_wide, .int o_high, .int o_hex, .long o_ones, .long o_twos]))]) (hS : va_S A s.heap H locs) (ls : Array Slot) (hl : lv_has ls 5 [(0, .ref h_o), (3, .long u3)]), WW H locs (F0 m 23 ls [.int s0]) := by
    intro u3 s0 rr hf hG H locs hP hD hS ls hl
    refine h2 ?_
    unfold fX6_colourAt_23 at hf
    refine lv_aload_n hx hb dX6_colourAt_23 rfl (lv_at hl 0 rfl) ?_
    refine va_get (D := (dC, dI)) (ci := 5) (v := .long o_twos) (C := RX6) (T := TX6) (N := 5) hx hb hts (fun w h => List.mem_cons_of_mem _ (kc_X6 w h)) hown hK hP 0 rfl rfl 4 (by decide) (hg kw_62) (fun _ h9 => h9) rfl dX6_colourAt_24 ?_
    refine lv_lload_n hx hb dX6_colourAt_27 rfl (lv_at hl 1 rfl) ?_
    refine lv_land hx hb dX6_colourAt_28 ?_
    refine lv_lconst (v := 0) hx hb dX6_colourAt_29 (by decide) ?_
    refine W.lcmp hx hb dX6_colourAt_30 ?_
    refine lv_if_eq (tgt := 38) hx hb dX6_colourAt_31 (by decide) (fun c_31 => ?_) (fun c_31 => ?_)
    · replace hf := ds_t c_31 hf
      refine lv_iconst (v := 0) hx hb dX6_colourAt_38 (by decide) ?_
      exact h1 (J_39 (0 : Int32) s0 _ hf hG _ _ hP hD hS _ (lv_sub hl [] rfl))
    · replace hf := ds_f c_31 hf
      refine lv_iconst (v := 2) hx hb dX6_colourAt_34 (by decide) ?_
      refine lv_goto (tgt := 39) hx hb dX6_colourAt_35 (by decide) ?_
      exact h1 (J_39 (2 : Int32) s0 _ hf hG _ _ hP hD hS _ (lv_sub hl [] rfl))
  unfold fX6_colourAt at hf
  refine lv_aload_n hx hb dX6_colourAt_0 rfl (lv_at hl 0 rfl) ?_
  refine lv_iload_n hx hb dX6_colourAt_1 rfl (lv_at hl 1 rfl) ?_
  refine lv_iload_n hx hb dX6_colourAt_2 rfl (lv_at hl 2 rfl) ?_
  obtain ⟨q3, hq3, hf⟩ := ds_ob hf
  refine ds_calll (wr := []) (va_runV (As := [.int p1, .int p2]) (rest := []) ⟨hx, hb, hml, hown, hts⟩ (c_X6_bitOfPlane l dC dI ca sa h_o s.heap.size o_wide o_high o_hex o_ones o_twos p1 p2 q3 hq3) (cwV 2 hts (ds_gV kw_113 kw_114 kw_115 kw_59 kw_116) rfl rfl rfl (by decide +kernel) ⟨Nat.le_of_ble_eq_true rfl, Nat.le_of_ble_eq_true rfl⟩) ⟨ds_blind, va_recv hK hP (ci := 5) (q0 := 0) rfl rfl, ds_at hP hD hK hE hS hA [0] rfl rfl _⟩ rfl rfl hl.1 rfl (lv_room (Nat.le_of_ble_eq_true rfl)) dX6_colourAt_3 ⟨Nat.zero_le _, Nat.zero_le _⟩) hP hD hS hA [0] [] rfl rfl rfl (by decide) (fun H locs hP hD hS => ?_)
  have hP : va_P (dC, dI) vwCl [(h_o, .inr (5, [.int o_wide, .int o_high, .int o_hex, .long o_ones, .long o_twos]))] H := hP
  have hD : va_D A [(h_o, .inr (5, [.int o_wide, .int o_high, .int o_hex, .long o_ones, .long o_twos]))] := hD
  refine lv_lstore_n (lv' := [(3, .long q3), (0, .ref h_o), (1, .int p1), (2, .int p2)]) hx hb dX6_colourAt_6 rfl hl (by decide) rfl (fun ls hl => ?_)
  refine lv_aload_n hx hb dX6_colourAt_7 rfl (lv_at hl 1 rfl) ?_
  refine va_get (D := (dC, dI)) (ci := 5) (v := .long o_ones) (C := RX6) (T := TX6) (N := 5) hx hb hts (fun w h => List.mem_cons_of_mem _ (kc_X6 w h)) hown hK hP 0 rfl rfl 3 (by decide) (hg kw_61) (fun _ h9 => h9) rfl dX6_colourAt_8 ?_
  refine lv_lload_n hx hb dX6_colourAt_11 rfl (lv_at hl 0 rfl) ?_
  refine lv_land hx hb dX6_colourAt_12 ?_
  refine lv_lconst (v := 0) hx hb dX6_colourAt_13 (by decide) ?_
  refine W.lcmp hx hb dX6_colourAt_14 ?_
  refine lv_if_eq (tgt := 22) hx hb dX6_colourAt_15 (by decide) (fun c_15 => ?_) (fun c_15 => ?_)
  · replace hf := ds_t c_15 hf
    refine lv_iconst (v := 0) hx hb dX6_colourAt_22 (by decide) ?_
    exact h1 (J_23 q3 (0 : Int32) _ hf hG _ _ hP hD hS _ (lv_sub hl [1, 0] rfl))
  · replace hf := ds_f c_15 hf
    refine lv_iconst (v := 1) hx hb dX6_colourAt_18 (by decide) ?_
    refine lv_goto (tgt := 23) hx hb dX6_colourAt_19 (by decide) ?_
    exact h1 (J_23 q3 (1 : Int32) _ hf hG _ _ hP hD hS _ (lv_sub hl [1, 0] rfl))
theorem dX6_coloursUsed_0 : decode cX6_coloursUsed 0 = .ok (.iconst 0, 1) := by decide +kernel
theorem dX6_coloursUsed_1 : decode cX6_coloursUsed 1 = .ok (.istore_n 1, 1) := by decide +kernel
theorem dX6_coloursUsed_2 : decode cX6_coloursUsed 2 = .ok (.iconst 0, 1) := by decide +kernel
theorem dX6_coloursUsed_3 : decode cX6_coloursUsed 3 = .ok (.istore_n 2, 1) := by decide +kernel
theorem dX6_coloursUsed_4 : decode cX6_coloursUsed 4 = .ok (.iload_n 2, 1) := by decide +kernel
theorem dX6_coloursUsed_5 : decode cX6_coloursUsed 5 = .ok (.iconst 4, 1) := by decide +kernel
theorem dX6_coloursUsed_6 : decode cX6_coloursUsed 6 = .ok (.if_icmp .ge 22, 3) := by decide +kernel
theorem dX6_coloursUsed_9 : decode cX6_coloursUsed 9 = .ok (.aload_n 0, 1) := by decide +kernel
theorem dX6_coloursUsed_10 : decode cX6_coloursUsed 10 = .ok (.iload_n 2, 1) := by decide +kernel
theorem dX6_coloursUsed_11 : decode cX6_coloursUsed 11 = .ok (.invokevirtual 52, 3) := by decide +kernel
theorem dX6_coloursUsed_14 : decode cX6_coloursUsed 14 = .ok (.lconst 0, 1) := by decide +kernel
theorem dX6_coloursUsed_15 : decode cX6_coloursUsed 15 = .ok (.lcmp, 1) := by decide +kernel
theorem dX6_coloursUsed_16 : decode cX6_coloursUsed 16 = .ok (.ifCond .eq 6, 3) := by decide +kernel
theorem dX6_coloursUsed_19 : decode cX6_coloursUsed 19 = .ok (.iinc 1 1, 3) := by decide +kernel
theorem dX6_coloursUsed_22 : decode cX6_coloursUsed 22 = .ok (.iinc 2 1, 3) := by decide +kernel
theorem dX6_coloursUsed_25 : decode cX6_coloursUsed 25 = .ok (.goto (-21), 3) := by decide +kernel
theorem dX6_coloursUsed_28 : decode cX6_coloursUsed 28 = .ok (.iload_n 1, 1) := by decide +kernel
theorem dX6_coloursUsed_29 : decode cX6_coloursUsed 29 = .ok (.ireturn, 1) := by decide +kernel
def fX6_coloursUsed_22 (v1 : Int32) (v2 : Int32) : Option ((Int32 × Int32) ⊕ (Int32)) :=
  some (.inl (v1, (v2 + 1)))
def fX6_coloursUsed_4_b (o_wide : Int32) (o_high : Int32) (o_ones : Int64) (o_twos : Int64) (v1 : Int32) (v2 : Int32) : Option ((Int32 × Int32) ⊕ (Int32)) :=
  if (4 : Int32) ≤ v2 then some (.inr v1) else Option.bind (fX6_ofColour o_wide o_high o_ones o_twos v2) fun q11 => if (lg_cmp q11 (0 : Int64)) = 0 then fX6_coloursUsed_22 v1 v2 else fX6_coloursUsed_22 (v1 + 1) v2
def fX6_coloursUsed_4 (o_wide : Int32) (o_high : Int32) (o_ones : Int64) (o_twos : Int64) (v1 : Int32) (v2 : Int32) : Option (Int32) := ds_it (fun s => fX6_coloursUsed_4_b o_wide o_high o_ones o_twos s.1 s.2) 1000 (v1, v2)
def fX6_coloursUsed (o_wide : Int32) (o_high : Int32) (o_ones : Int64) (o_twos : Int64) : Option (Int32) :=
  fX6_coloursUsed_4 o_wide o_high o_ones o_twos (0 : Int32) (0 : Int32)
set_option maxHeartbeats 4000000 in
set_option maxRecDepth 100000 in
theorem c_X6_coloursUsed (l : Launch) (dC : Nat → ClassId) (dI : Nat → Nat → Nat) (ca : Nat → ClassId) (sa : Nat → Nat) (h_o : Nat) (sz : Nat) (o_wide : Int32) (o_high : Int32) (o_hex : Int32) (o_ones : Int64) (o_twos : Int64) (res : Int32) (hf : fX6_coloursUsed o_wide o_high o_ones o_twos = some res) : Met l yX6_coloursUsed (Cond.code yX6_coloursUsed cX6_coloursUsed 3 (some .int) :: ds_gw) { frames := 2, cells := 0, slots := 0, locals := 49 } (va_Pc [.ref h_o] (ds_Pre dC dI ca sa [(h_o, .inr (5, [.int o_wide, .int o_high, .int o_hex, .long o_ones, .long o_twos]))] sz)) (va_Qi (fun r (_ : Unit) => r = res) (ds_B dC dI (va_A [(h_o, .inr (5, [.int o_wide, .int o_high, .int o_hex, .long o_ones, .long o_twos]))] sz) [(h_o, .inr (5, [.int o_wide, .int o_high, .int o_hex, .long o_ones, .long o_twos]))]) (va_A [(h_o, .inr (5, [.int o_wide, .int o_high, .int o_hex, .long o_ones, .long o_twos]))] sz)) 0 0 (va_A [(h_o, .inr (5, [.int o_wide, .int o_high, .int o_hex, .long o_ones, .long o_twos]))] sz) := by
  refine Met.ofW (cc := cX6_coloursUsed) (maxL := 3) (ret := (some .int)) (by decide) rfl ?_
  intro p e s m args below meth c s₁ B hml hv
  obtain ⟨rfl, hsz, hP, hK, hD0, hE⟩ := hv
  have hx := B.exec
  have hb := B.bytes
  have hr := B.returns
  have hts := atoms_spec (ws := Cond.code yX6_coloursUsed cX6_coloursUsed 3 (some .int) :: ds_gw) B.pre
  have hg : ∀ {w : Cond}, w ∈ ds_gw → w.before _ s = true := fun h => hts _ (List.mem_cons_of_mem _ h)
  have hown : s.vm.findClass RX6 = some m.cls := findClass_of_methodNamed B.named
  have hlocks := B.notSynchronized
  subst hsz
  have hD := hD0.self (sz := s.heap.size)
  generalize hAe : va_A [(h_o, .inr (5, [.int o_wide, .int o_high, .int o_hex, .long o_ones, .long o_twos]))] s.heap.size = A at hD hE ⊢
  have hA : ∀ q : Nat, s.heap.size ≤ q → A q := fun q h => by rw [← hAe]; exact Or.inr h
  have hS : va_S A s.heap s.heap [] := va_S.rf
  have hl := lv_entry ([.ref h_o]) (n := 3) (Nat.le_of_ble_eq_true rfl)
  rw [lg_entry_eq]
  generalize (lg_sl ([.ref h_o]) ++ List.replicate (3 - (lg_sl ([.ref h_o])).length) Slot.unset).toArray = ls at hl ⊢
  have hl : lv_has ls 3 [(0, .ref h_o)] := hl
  obtain ⟨G0, eG0⟩ : ∃ G : Int32 → Prop, G = (fun r => r = res) := ⟨_, rfl⟩
  obtain ⟨rr, hrr⟩ : ∃ z, z = res := ⟨_, rfl⟩
  rw [← hrr] at hf
  have hG : G0 rr := by subst eG0; exact hrr
  refine ds_cap (fun WW h1 h2 => ?_)
  have J_4 : ∀ (n : Nat) (v1 : Int32) (v2 : Int32) (rr : Int32) (hf : ds_it (fun s => fX6_coloursUsed_4_b o_wide o_high o_ones o_twos s.1 s.2) n (v1, v2) = some rr) (hG : G0 rr) (H : Heap) (locs : List Loc) (hP : va_P (dC, dI) vwCl [(h_o, .inr (5, [.int o_wide, .int o_high, .int o_hex, .long o_ones, .long o_twos]))] H) (hD : va_D A [(h_o, .inr (5, [.int o_wide, .int o_high, .int o_hex, .long o_ones, .long o_twos]))]) (hS : va_S A s.heap H locs) (ls : Array Slot) (hl : lv_has ls 3 [(0, .ref h_o), (1, .int v1), (2, .int v2)]), WW H locs (F0 m 4 ls []) := by
    intro  n
    induction n with
    | zero => intro v1 v2 rr hf; exact (ds_it_zero hf).elim
    | succ n ih4 =>
      intro v1 v2 rr hf hG H locs hP hD hS ls hl
      refine h2 ?_
      obtain ⟨rr, hf, hG⟩ := ds_it_succ hf hG
      replace hf : fX6_coloursUsed_4_b o_wide o_high o_ones o_twos v1 v2 = some rr := hf
      obtain ⟨G1, eG1⟩ : ∃ G : ((Int32 × Int32) ⊕ (Int32)) → Prop, G = ds_G (fun s' => ∃ r', ds_it (fun s => fX6_coloursUsed_4_b o_wide o_high o_ones o_twos s.1 s.2) n s' = some r' ∧ G0 r') G0 := ⟨_, rfl⟩
      rw [← eG1] at hG
      have J_22 : ∀ (v1 : Int32) (v2 : Int32) (rr : (Int32 × Int32) ⊕ (Int32)) (hf : fX6_coloursUsed_22 v1 v2 = some rr) (hG : G1 rr) (H : Heap) (locs : List Loc) (hP : va_P (dC, dI) vwCl [(h_o, .inr (5, [.int o_wide, .int o_high, .int o_hex, .long o_ones, .long o_twos]))] H) (hD : va_D A [(h_o, .inr (5, [.int o_wide, .int o_high, .int o_hex, .long o_ones, .long o_twos]))]) (hS : va_S A s.heap H locs) (ls : Array Slot) (hl : lv_has ls 3 [(0, .ref h_o), (1, .int v1), (2, .int v2)]), WW H locs (F0 m 22 ls []) := by
        intro v1 v2 rr hf hG H locs hP hD hS ls hl
        refine h2 ?_
        unfold fX6_coloursUsed_22 at hf
        refine lv_iinc (v := (v2 + 1)) (lv' := [(2, .int (v2 + 1)), (0, .ref h_o), (1, .int v1)]) hx hb dX6_coloursUsed_22 hl (k := 2) rfl rfl (by decide) rfl (fun ls hl => ?_)
        refine lv_goto (tgt := 4) hx hb dX6_coloursUsed_25 (by decide) ?_
        have hf := Option.some.inj hf
        subst hf
        rw [eG1] at hG
        obtain ⟨rr, hf, hG⟩ := hG
        exact h1 (ih4 v1 (v2 + 1) rr hf hG _ _ hP hD hS _ (lv_sub hl [1, 2, 0] rfl))
      unfold fX6_coloursUsed_4_b at hf
      refine lv_iload_n hx hb dX6_coloursUsed_4 rfl (lv_at hl 2 rfl) ?_
      refine lv_iconst (v := 4) hx hb dX6_coloursUsed_5 (by decide) ?_
      refine lv_icmp_ge (tgt := 28) hx hb dX6_coloursUsed_6 (by decide) (fun c_6 => ?_) (fun c_6 => ?_)
      · replace hf := ds_t c_6 hf
        refine lv_iload_n hx hb dX6_coloursUsed_28 rfl (lv_at hl 1 rfl) ?_
        have hf := Option.some.inj hf
        subst hf
        rw [eG1] at hG
        replace hG : G0 _ := hG
        rw [eG0] at hG
        have hG : _ = res := hG
        subst hG
        exact W.iret (v := v1) hx hb hr (fun t ht hW => ⟨⟨v1, (), rfl, rfl, by rw [ht]; exact hP, hD⟩, hS.F ht⟩) hS.2.2 dX6_coloursUsed_29
      · replace hf := ds_f c_6 hf
        refine lv_aload_n hx hb dX6_coloursUsed_9 rfl (lv_at hl 0 rfl) ?_
        refine lv_iload_n hx hb dX6_coloursUsed_10 rfl (lv_at hl 2 rfl) ?_
        obtain ⟨q11, hq11, hf⟩ := ds_ob hf
        refine ds_calll (wr := []) (va_runV (As := [.int v2]) (rest := []) ⟨hx, hb, hml, hown, hts⟩ (c_X6_ofColour l dC dI ca sa h_o H.size o_wide o_high o_hex o_ones o_twos v2 q11 hq11) (cwV 1 hts (ds_gV kw_105 kw_106 kw_107 kw_59 kw_108) rfl rfl rfl (by decide +kernel) ⟨Nat.le_of_ble_eq_true rfl, Nat.le_of_ble_eq_true rfl⟩) ⟨ds_blind, va_recv hK hP (ci := 5) (q0 := 0) rfl rfl, ds_at hP hD hK hE hS hA [0] rfl rfl _⟩ rfl rfl hl.1 rfl (lv_room (Nat.le_of_ble_eq_true rfl)) dX6_coloursUsed_11 ⟨Nat.zero_le _, Nat.zero_le _⟩) hP hD hS hA [0] [] rfl rfl rfl (by decide) (fun H locs hP hD hS => ?_)
        have hP : va_P (dC, dI) vwCl [(h_o, .inr (5, [.int o_wide, .int o_high, .int o_hex, .long o_ones, .long o_twos]))] H := hP
        have hD : va_D A [(h_o, .inr (5, [.int o_wide, .int o_high, .int o_hex, .long o_ones, .long o_twos]))] := hD
        refine lv_lconst (v := 0) hx hb dX6_coloursUsed_14 (by decide) ?_
        refine W.lcmp hx hb dX6_coloursUsed_15 ?_
        refine lv_if_eq (tgt := 22) hx hb dX6_coloursUsed_16 (by decide) (fun c_16 => ?_) (fun c_16 => ?_)
        · replace hf := ds_t c_16 hf
          exact h1 (J_22 v1 v2 _ hf hG _ _ hP hD hS _ (lv_sub hl [0, 1, 2] rfl))
        · replace hf := ds_f c_16 hf
          refine lv_iinc (v := (v1 + 1)) (lv' := [(1, .int (v1 + 1)), (0, .ref h_o), (2, .int v2)]) hx hb dX6_coloursUsed_19 hl (k := 1) rfl rfl (by decide) rfl (fun ls hl => ?_)
          exact h1 (J_22 (v1 + 1) v2 _ hf hG _ _ hP hD hS _ (lv_sub hl [1, 0, 2] rfl))
  unfold fX6_coloursUsed at hf
  refine lv_iconst (v := 0) hx hb dX6_coloursUsed_0 (by decide) ?_
  refine lv_istore_n (lv' := [(1, .int (0 : Int32)), (0, .ref h_o)]) hx hb dX6_coloursUsed_1 rfl hl (by decide) rfl (fun ls hl => ?_)
  refine lv_iconst (v := 0) hx hb dX6_coloursUsed_2 (by decide) ?_
  refine lv_istore_n (lv' := [(2, .int (0 : Int32)), (1, .int (0 : Int32)), (0, .ref h_o)]) hx hb dX6_coloursUsed_3 rfl hl (by decide) rfl (fun ls hl => ?_)
  exact h1 (J_4  1000 (0 : Int32) (0 : Int32) _ hf hG _ _ hP hD hS _ (lv_sub hl [2, 1, 0] rfl))
theorem dX6_leastStepAlongX_0 : decode cX6_leastStepAlongX 0 = .ok (.iconst 1, 1) := by decide +kernel
theorem dX6_leastStepAlongX_1 : decode cX6_leastStepAlongX 1 = .ok (.istore_n 1, 1) := by decide +kernel
theorem dX6_leastStepAlongX_2 : decode cX6_leastStepAlongX 2 = .ok (.iload_n 1, 1) := by decide +kernel
theorem dX6_leastStepAlongX_3 : decode cX6_leastStepAlongX 3 = .ok (.aload_n 0, 1) := by decide +kernel
theorem dX6_leastStepAlongX_4 : decode cX6_leastStepAlongX 4 = .ok (.getfield 9, 3) := by decide +kernel
theorem dX6_leastStepAlongX_7 : decode cX6_leastStepAlongX 7 = .ok (.if_icmp .ge 18, 3) := by decide +kernel
theorem dX6_leastStepAlongX_10 : decode cX6_leastStepAlongX 10 = .ok (.aload_n 0, 1) := by decide +kernel
theorem dX6_leastStepAlongX_11 : decode cX6_leastStepAlongX 11 = .ok (.iload_n 1, 1) := by decide +kernel
theorem dX6_leastStepAlongX_12 : decode cX6_leastStepAlongX 12 = .ok (.iconst 0, 1) := by decide +kernel
theorem dX6_leastStepAlongX_13 : decode cX6_leastStepAlongX 13 = .ok (.invokevirtual 73, 3) := by decide +kernel
theorem dX6_leastStepAlongX_16 : decode cX6_leastStepAlongX 16 = .ok (.ifCond .ne 9, 3) := by decide +kernel
theorem dX6_leastStepAlongX_19 : decode cX6_leastStepAlongX 19 = .ok (.iinc 1 1, 3) := by decide +kernel
theorem dX6_leastStepAlongX_22 : decode cX6_leastStepAlongX 22 = .ok (.goto (-20), 3) := by decide +kernel
theorem dX6_leastStepAlongX_25 : decode cX6_leastStepAlongX 25 = .ok (.iload_n 1, 1) := by decide +kernel
theorem dX6_leastStepAlongX_26 : decode cX6_leastStepAlongX 26 = .ok (.ireturn, 1) := by decide +kernel
def fX6_leastStepAlongX_2_b (o_wide : Int32) (o_high : Int32) (o_ones : Int64) (o_twos : Int64) (v1 : Int32) : Option ((Int32) ⊕ (Int32)) :=
  if o_wide ≤ v1 then some (.inr v1) else Option.bind (fX6_comesAgainBy o_wide o_high o_ones o_twos v1 (0 : Int32)) fun q13 => if q13 = 0 then some (.inl (v1 + 1)) else some (.inr v1)
def fX6_leastStepAlongX_2 (o_wide : Int32) (o_high : Int32) (o_ones : Int64) (o_twos : Int64) (v1 : Int32) : Option (Int32) := ds_it (fun s => fX6_leastStepAlongX_2_b o_wide o_high o_ones o_twos s) 1000 v1
def fX6_leastStepAlongX (o_wide : Int32) (o_high : Int32) (o_ones : Int64) (o_twos : Int64) : Option (Int32) :=
  fX6_leastStepAlongX_2 o_wide o_high o_ones o_twos (1 : Int32)
set_option maxHeartbeats 4000000 in
set_option maxRecDepth 100000 in
theorem c_X6_leastStepAlongX (l : Launch) (dC : Nat → ClassId) (dI : Nat → Nat → Nat) (ca : Nat → ClassId) (sa : Nat → Nat) (h_o : Nat) (sz : Nat) (o_wide : Int32) (o_high : Int32) (o_hex : Int32) (o_ones : Int64) (o_twos : Int64) (res : Int32) (hf : fX6_leastStepAlongX o_wide o_high o_ones o_twos = some res) : Met l yX6_leastStepAlongX (Cond.code yX6_leastStepAlongX cX6_leastStepAlongX 2 (some .int) :: ds_gw) { frames := 4, cells := 0, slots := 0, locals := 95 } (va_Pc [.ref h_o] (ds_Pre dC dI ca sa [(h_o, .inr (5, [.int o_wide, .int o_high, .int o_hex, .long o_ones, .long o_twos]))] sz)) (va_Qi (fun r (_ : Unit) => r = res) (ds_B dC dI (va_A [(h_o, .inr (5, [.int o_wide, .int o_high, .int o_hex, .long o_ones, .long o_twos]))] sz) [(h_o, .inr (5, [.int o_wide, .int o_high, .int o_hex, .long o_ones, .long o_twos]))]) (va_A [(h_o, .inr (5, [.int o_wide, .int o_high, .int o_hex, .long o_ones, .long o_twos]))] sz)) 0 0 (va_A [(h_o, .inr (5, [.int o_wide, .int o_high, .int o_hex, .long o_ones, .long o_twos]))] sz) := by
  refine Met.ofW (cc := cX6_leastStepAlongX) (maxL := 2) (ret := (some .int)) (by decide) rfl ?_
  intro p e s m args below meth c s₁ B hml hv
  obtain ⟨rfl, hsz, hP, hK, hD0, hE⟩ := hv
  have hx := B.exec
  have hb := B.bytes
  have hr := B.returns
  have hts := atoms_spec (ws := Cond.code yX6_leastStepAlongX cX6_leastStepAlongX 2 (some .int) :: ds_gw) B.pre
  have hg : ∀ {w : Cond}, w ∈ ds_gw → w.before _ s = true := fun h => hts _ (List.mem_cons_of_mem _ h)
  have hown : s.vm.findClass RX6 = some m.cls := findClass_of_methodNamed B.named
  have hlocks := B.notSynchronized
  subst hsz
  have hD := hD0.self (sz := s.heap.size)
  generalize hAe : va_A [(h_o, .inr (5, [.int o_wide, .int o_high, .int o_hex, .long o_ones, .long o_twos]))] s.heap.size = A at hD hE ⊢
  have hA : ∀ q : Nat, s.heap.size ≤ q → A q := fun q h => by rw [← hAe]; exact Or.inr h
  have hS : va_S A s.heap s.heap [] := va_S.rf
  have hl := lv_entry ([.ref h_o]) (n := 2) (Nat.le_of_ble_eq_true rfl)
  rw [lg_entry_eq]
  generalize (lg_sl ([.ref h_o]) ++ List.replicate (2 - (lg_sl ([.ref h_o])).length) Slot.unset).toArray = ls at hl ⊢
  have hl : lv_has ls 2 [(0, .ref h_o)] := hl
  obtain ⟨G0, eG0⟩ : ∃ G : Int32 → Prop, G = (fun r => r = res) := ⟨_, rfl⟩
  obtain ⟨rr, hrr⟩ : ∃ z, z = res := ⟨_, rfl⟩
  rw [← hrr] at hf
  have hG : G0 rr := by subst eG0; exact hrr
  refine ds_cap (fun WW h1 h2 => ?_)
  have J_2 : ∀ (n : Nat) (v1 : Int32) (rr : Int32) (hf : ds_it (fun s => fX6_leastStepAlongX_2_b o_wide o_high o_ones o_twos s) n v1 = some rr) (hG : G0 rr) (H : Heap) (locs : List Loc) (hP : va_P (dC, dI) vwCl [(h_o, .inr (5, [.int o_wide, .int o_high, .int o_hex, .long o_ones, .long o_twos]))] H) (hD : va_D A [(h_o, .inr (5, [.int o_wide, .int o_high, .int o_hex, .long o_ones, .long o_twos]))]) (hS : va_S A s.heap H locs) (ls : Array Slot) (hl : lv_has ls 2 [(0, .ref h_o), (1, .int v1)]), WW H locs (F0 m 2 ls []) := by
    intro  n
    induction n with
    | zero => intro v1 rr hf; exact (ds_it_zero hf).elim
    | succ n ih2 =>
      intro v1 rr hf hG H locs hP hD hS ls hl
      refine h2 ?_
      obtain ⟨rr, hf, hG⟩ := ds_it_succ hf hG
      replace hf : fX6_leastStepAlongX_2_b o_wide o_high o_ones o_twos v1 = some rr := hf
      obtain ⟨G1, eG1⟩ : ∃ G : ((Int32) ⊕ (Int32)) → Prop, G = ds_G (fun s' => ∃ r', ds_it (fun s => fX6_leastStepAlongX_2_b o_wide o_high o_ones o_twos s) n s' = some r' ∧ G0 r') G0 := ⟨_, rfl⟩
      rw [← eG1] at hG
      unfold fX6_leastStepAlongX_2_b at hf
      refine lv_iload_n hx hb dX6_leastStepAlongX_2 rfl (lv_at hl 1 rfl) ?_
      refine lv_aload_n hx hb dX6_leastStepAlongX_3 rfl (lv_at hl 0 rfl) ?_
      refine va_get (D := (dC, dI)) (ci := 5) (v := .int o_wide) (C := RX6) (T := TX6) (N := 5) hx hb hts (fun w h => List.mem_cons_of_mem _ (kc_X6 w h)) hown hK hP 0 rfl rfl 0 (by decide) (hg kw_48) (fun _ h9 => h9) rfl dX6_leastStepAlongX_4 ?_
      refine lv_icmp_ge (tgt := 25) hx hb dX6_leastStepAlongX_7 (by decide) (fun c_7 => ?_) (fun c_7 => ?_)
      · replace hf := ds_t c_7 hf
        refine lv_iload_n hx hb dX6_leastStepAlongX_25 rfl (lv_at hl 1 rfl) ?_
        have hf := Option.some.inj hf
        subst hf
        rw [eG1] at hG
        replace hG : G0 _ := hG
        rw [eG0] at hG
        have hG : _ = res := hG
        subst hG
        exact W.iret (v := v1) hx hb hr (fun t ht hW => ⟨⟨v1, (), rfl, rfl, by rw [ht]; exact hP, hD⟩, hS.F ht⟩) hS.2.2 dX6_leastStepAlongX_26
      · replace hf := ds_f c_7 hf
        refine lv_aload_n hx hb dX6_leastStepAlongX_10 rfl (lv_at hl 0 rfl) ?_
        refine lv_iload_n hx hb dX6_leastStepAlongX_11 rfl (lv_at hl 1 rfl) ?_
        refine lv_iconst (v := 0) hx hb dX6_leastStepAlongX_12 (by decide) ?_
        obtain ⟨q13, hq13, hf⟩ := ds_ob hf
        refine ds_calli (wr := []) (va_runV (As := [.int v1, .int (0 : Int32)]) (rest := []) ⟨hx, hb, hml, hown, hts⟩ (c_X6_comesAgainBy l dC dI ca sa h_o H.size o_wide o_high o_hex o_ones o_twos v1 (0 : Int32) q13 hq13) (cwV 2 hts (ds_gV kw_98 kw_99 kw_100 kw_59 kw_101) rfl rfl rfl (by decide +kernel) ⟨Nat.le_of_ble_eq_true rfl, Nat.le_of_ble_eq_true rfl⟩) ⟨ds_blind, va_recv hK hP (ci := 5) (q0 := 0) rfl rfl, ds_at hP hD hK hE hS hA [0] rfl rfl _⟩ rfl rfl hl.1 rfl (lv_room (Nat.le_of_ble_eq_true rfl)) dX6_leastStepAlongX_13 ⟨Nat.zero_le _, Nat.zero_le _⟩) hP hD hS hA [0] [] rfl rfl rfl (by decide) (fun H locs hP hD hS => ?_)
        have hP : va_P (dC, dI) vwCl [(h_o, .inr (5, [.int o_wide, .int o_high, .int o_hex, .long o_ones, .long o_twos]))] H := hP
        have hD : va_D A [(h_o, .inr (5, [.int o_wide, .int o_high, .int o_hex, .long o_ones, .long o_twos]))] := hD
        refine lv_if_ne (tgt := 25) hx hb dX6_leastStepAlongX_16 (by decide) (fun c_16 => ?_) (fun c_16 => ?_)
        · replace hf := ds_f c_16 hf
          refine lv_iload_n hx hb dX6_leastStepAlongX_25 rfl (lv_at hl 1 rfl) ?_
          have hf := Option.some.inj hf
          subst hf
          rw [eG1] at hG
          replace hG : G0 _ := hG
          rw [eG0] at hG
          have hG : _ = res := hG
          subst hG
          exact W.iret (v := v1) hx hb hr (fun t ht hW => ⟨⟨v1, (), rfl, rfl, by rw [ht]; exact hP, hD⟩, hS.F ht⟩) hS.2.2 dX6_leastStepAlongX_26
        · replace hf := ds_t c_16 hf
          refine lv_iinc (v := (v1 + 1)) (lv' := [(1, .int (v1 + 1)), (0, .ref h_o)]) hx hb dX6_leastStepAlongX_19 hl (k := 1) rfl rfl (by decide) rfl (fun ls hl => ?_)
          refine lv_goto (tgt := 2) hx hb dX6_leastStepAlongX_22 (by decide) ?_
          have hf := Option.some.inj hf
          subst hf
          rw [eG1] at hG
          obtain ⟨rr, hf, hG⟩ := hG
          exact h1 (ih2 (v1 + 1) rr hf hG _ _ hP hD hS _ (lv_sub hl [1, 0] rfl))
  unfold fX6_leastStepAlongX at hf
  refine lv_iconst (v := 1) hx hb dX6_leastStepAlongX_0 (by decide) ?_
  refine lv_istore_n (lv' := [(1, .int (1 : Int32)), (0, .ref h_o)]) hx hb dX6_leastStepAlongX_1 rfl hl (by decide) rfl (fun ls hl => ?_)
  exact h1 (J_2  1000 (1 : Int32) _ hf hG _ _ hP hD hS _ (lv_sub hl [1, 0] rfl))
theorem dX6_leastStepAlongY_0 : decode cX6_leastStepAlongY 0 = .ok (.iconst 1, 1) := by decide +kernel
theorem dX6_leastStepAlongY_1 : decode cX6_leastStepAlongY 1 = .ok (.istore_n 1, 1) := by decide +kernel
theorem dX6_leastStepAlongY_2 : decode cX6_leastStepAlongY 2 = .ok (.iload_n 1, 1) := by decide +kernel
theorem dX6_leastStepAlongY_3 : decode cX6_leastStepAlongY 3 = .ok (.aload_n 0, 1) := by decide +kernel
theorem dX6_leastStepAlongY_4 : decode cX6_leastStepAlongY 4 = .ok (.getfield 15, 3) := by decide +kernel
theorem dX6_leastStepAlongY_7 : decode cX6_leastStepAlongY 7 = .ok (.if_icmp .ge 18, 3) := by decide +kernel
theorem dX6_leastStepAlongY_10 : decode cX6_leastStepAlongY 10 = .ok (.aload_n 0, 1) := by decide +kernel
theorem dX6_leastStepAlongY_11 : decode cX6_leastStepAlongY 11 = .ok (.iconst 0, 1) := by decide +kernel
theorem dX6_leastStepAlongY_12 : decode cX6_leastStepAlongY 12 = .ok (.iload_n 1, 1) := by decide +kernel
theorem dX6_leastStepAlongY_13 : decode cX6_leastStepAlongY 13 = .ok (.invokevirtual 73, 3) := by decide +kernel
theorem dX6_leastStepAlongY_16 : decode cX6_leastStepAlongY 16 = .ok (.ifCond .ne 9, 3) := by decide +kernel
theorem dX6_leastStepAlongY_19 : decode cX6_leastStepAlongY 19 = .ok (.iinc 1 1, 3) := by decide +kernel
theorem dX6_leastStepAlongY_22 : decode cX6_leastStepAlongY 22 = .ok (.goto (-20), 3) := by decide +kernel
theorem dX6_leastStepAlongY_25 : decode cX6_leastStepAlongY 25 = .ok (.iload_n 1, 1) := by decide +kernel
theorem dX6_leastStepAlongY_26 : decode cX6_leastStepAlongY 26 = .ok (.ireturn, 1) := by decide +kernel
def fX6_leastStepAlongY_2_b (o_wide : Int32) (o_high : Int32) (o_ones : Int64) (o_twos : Int64) (v1 : Int32) : Option ((Int32) ⊕ (Int32)) :=
  if o_high ≤ v1 then some (.inr v1) else Option.bind (fX6_comesAgainBy o_wide o_high o_ones o_twos (0 : Int32) v1) fun q13 => if q13 = 0 then some (.inl (v1 + 1)) else some (.inr v1)
def fX6_leastStepAlongY_2 (o_wide : Int32) (o_high : Int32) (o_ones : Int64) (o_twos : Int64) (v1 : Int32) : Option (Int32) := ds_it (fun s => fX6_leastStepAlongY_2_b o_wide o_high o_ones o_twos s) 1000 v1
def fX6_leastStepAlongY (o_wide : Int32) (o_high : Int32) (o_ones : Int64) (o_twos : Int64) : Option (Int32) :=
  fX6_leastStepAlongY_2 o_wide o_high o_ones o_twos (1 : Int32)
set_option maxHeartbeats 4000000 in
set_option maxRecDepth 100000 in
theorem c_X6_leastStepAlongY (l : Launch) (dC : Nat → ClassId) (dI : Nat → Nat → Nat) (ca : Nat → ClassId) (sa : Nat → Nat) (h_o : Nat) (sz : Nat) (o_wide : Int32) (o_high : Int32) (o_hex : Int32) (o_ones : Int64) (o_twos : Int64) (res : Int32) (hf : fX6_leastStepAlongY o_wide o_high o_ones o_twos = some res) : Met l yX6_leastStepAlongY (Cond.code yX6_leastStepAlongY cX6_leastStepAlongY 2 (some .int) :: ds_gw) { frames := 4, cells := 0, slots := 0, locals := 95 } (va_Pc [.ref h_o] (ds_Pre dC dI ca sa [(h_o, .inr (5, [.int o_wide, .int o_high, .int o_hex, .long o_ones, .long o_twos]))] sz)) (va_Qi (fun r (_ : Unit) => r = res) (ds_B dC dI (va_A [(h_o, .inr (5, [.int o_wide, .int o_high, .int o_hex, .long o_ones, .long o_twos]))] sz) [(h_o, .inr (5, [.int o_wide, .int o_high, .int o_hex, .long o_ones, .long o_twos]))]) (va_A [(h_o, .inr (5, [.int o_wide, .int o_high, .int o_hex, .long o_ones, .long o_twos]))] sz)) 0 0 (va_A [(h_o, .inr (5, [.int o_wide, .int o_high, .int o_hex, .long o_ones, .long o_twos]))] sz) := by
  refine Met.ofW (cc := cX6_leastStepAlongY) (maxL := 2) (ret := (some .int)) (by decide) rfl ?_
  intro p e s m args below meth c s₁ B hml hv
  obtain ⟨rfl, hsz, hP, hK, hD0, hE⟩ := hv
  have hx := B.exec
  have hb := B.bytes
  have hr := B.returns
  have hts := atoms_spec (ws := Cond.code yX6_leastStepAlongY cX6_leastStepAlongY 2 (some .int) :: ds_gw) B.pre
  have hg : ∀ {w : Cond}, w ∈ ds_gw → w.before _ s = true := fun h => hts _ (List.mem_cons_of_mem _ h)
  have hown : s.vm.findClass RX6 = some m.cls := findClass_of_methodNamed B.named
  have hlocks := B.notSynchronized
  subst hsz
  have hD := hD0.self (sz := s.heap.size)
  generalize hAe : va_A [(h_o, .inr (5, [.int o_wide, .int o_high, .int o_hex, .long o_ones, .long o_twos]))] s.heap.size = A at hD hE ⊢
  have hA : ∀ q : Nat, s.heap.size ≤ q → A q := fun q h => by rw [← hAe]; exact Or.inr h
  have hS : va_S A s.heap s.heap [] := va_S.rf
  have hl := lv_entry ([.ref h_o]) (n := 2) (Nat.le_of_ble_eq_true rfl)
  rw [lg_entry_eq]
  generalize (lg_sl ([.ref h_o]) ++ List.replicate (2 - (lg_sl ([.ref h_o])).length) Slot.unset).toArray = ls at hl ⊢
  have hl : lv_has ls 2 [(0, .ref h_o)] := hl
  obtain ⟨G0, eG0⟩ : ∃ G : Int32 → Prop, G = (fun r => r = res) := ⟨_, rfl⟩
  obtain ⟨rr, hrr⟩ : ∃ z, z = res := ⟨_, rfl⟩
  rw [← hrr] at hf
  have hG : G0 rr := by subst eG0; exact hrr
  refine ds_cap (fun WW h1 h2 => ?_)
  have J_2 : ∀ (n : Nat) (v1 : Int32) (rr : Int32) (hf : ds_it (fun s => fX6_leastStepAlongY_2_b o_wide o_high o_ones o_twos s) n v1 = some rr) (hG : G0 rr) (H : Heap) (locs : List Loc) (hP : va_P (dC, dI) vwCl [(h_o, .inr (5, [.int o_wide, .int o_high, .int o_hex, .long o_ones, .long o_twos]))] H) (hD : va_D A [(h_o, .inr (5, [.int o_wide, .int o_high, .int o_hex, .long o_ones, .long o_twos]))]) (hS : va_S A s.heap H locs) (ls : Array Slot) (hl : lv_has ls 2 [(0, .ref h_o), (1, .int v1)]), WW H locs (F0 m 2 ls []) := by
    intro  n
    induction n with
    | zero => intro v1 rr hf; exact (ds_it_zero hf).elim
    | succ n ih2 =>
      intro v1 rr hf hG H locs hP hD hS ls hl
      refine h2 ?_
      obtain ⟨rr, hf, hG⟩ := ds_it_succ hf hG
      replace hf : fX6_leastStepAlongY_2_b o_wide o_high o_ones o_twos v1 = some rr := hf
      obtain ⟨G1, eG1⟩ : ∃ G : ((Int32) ⊕ (Int32)) → Prop, G = ds_G (fun s' => ∃ r', ds_it (fun s => fX6_leastStepAlongY_2_b o_wide o_high o_ones o_twos s) n s' = some r' ∧ G0 r') G0 := ⟨_, rfl⟩
      rw [← eG1] at hG
      unfold fX6_leastStepAlongY_2_b at hf
      refine lv_iload_n hx hb dX6_leastStepAlongY_2 rfl (lv_at hl 1 rfl) ?_
      refine lv_aload_n hx hb dX6_leastStepAlongY_3 rfl (lv_at hl 0 rfl) ?_
      refine va_get (D := (dC, dI)) (ci := 5) (v := .int o_high) (C := RX6) (T := TX6) (N := 5) hx hb hts (fun w h => List.mem_cons_of_mem _ (kc_X6 w h)) hown hK hP 0 rfl rfl 1 (by decide) (hg kw_54) (fun _ h9 => h9) rfl dX6_leastStepAlongY_4 ?_
      refine lv_icmp_ge (tgt := 25) hx hb dX6_leastStepAlongY_7 (by decide) (fun c_7 => ?_) (fun c_7 => ?_)
      · replace hf := ds_t c_7 hf
        refine lv_iload_n hx hb dX6_leastStepAlongY_25 rfl (lv_at hl 1 rfl) ?_
        have hf := Option.some.inj hf
        subst hf
        rw [eG1] at hG
        replace hG : G0 _ := hG
        rw [eG0] at hG
        have hG : _ = res := hG
        subst hG
        exact W.iret (v := v1) hx hb hr (fun t ht hW => ⟨⟨v1, (), rfl, rfl, by rw [ht]; exact hP, hD⟩, hS.F ht⟩) hS.2.2 dX6_leastStepAlongY_26
      · replace hf := ds_f c_7 hf
        refine lv_aload_n hx hb dX6_leastStepAlongY_10 rfl (lv_at hl 0 rfl) ?_
        refine lv_iconst (v := 0) hx hb dX6_leastStepAlongY_11 (by decide) ?_
        refine lv_iload_n hx hb dX6_leastStepAlongY_12 rfl (lv_at hl 1 rfl) ?_
        obtain ⟨q13, hq13, hf⟩ := ds_ob hf
        refine ds_calli (wr := []) (va_runV (As := [.int (0 : Int32), .int v1]) (rest := []) ⟨hx, hb, hml, hown, hts⟩ (c_X6_comesAgainBy l dC dI ca sa h_o H.size o_wide o_high o_hex o_ones o_twos (0 : Int32) v1 q13 hq13) (cwV 2 hts (ds_gV kw_98 kw_99 kw_100 kw_59 kw_101) rfl rfl rfl (by decide +kernel) ⟨Nat.le_of_ble_eq_true rfl, Nat.le_of_ble_eq_true rfl⟩) ⟨ds_blind, va_recv hK hP (ci := 5) (q0 := 0) rfl rfl, ds_at hP hD hK hE hS hA [0] rfl rfl _⟩ rfl rfl hl.1 rfl (lv_room (Nat.le_of_ble_eq_true rfl)) dX6_leastStepAlongY_13 ⟨Nat.zero_le _, Nat.zero_le _⟩) hP hD hS hA [0] [] rfl rfl rfl (by decide) (fun H locs hP hD hS => ?_)
        have hP : va_P (dC, dI) vwCl [(h_o, .inr (5, [.int o_wide, .int o_high, .int o_hex, .long o_ones, .long o_twos]))] H := hP
        have hD : va_D A [(h_o, .inr (5, [.int o_wide, .int o_high, .int o_hex, .long o_ones, .long o_twos]))] := hD
        refine lv_if_ne (tgt := 25) hx hb dX6_leastStepAlongY_16 (by decide) (fun c_16 => ?_) (fun c_16 => ?_)
        · replace hf := ds_f c_16 hf
          refine lv_iload_n hx hb dX6_leastStepAlongY_25 rfl (lv_at hl 1 rfl) ?_
          have hf := Option.some.inj hf
          subst hf
          rw [eG1] at hG
          replace hG : G0 _ := hG
          rw [eG0] at hG
          have hG : _ = res := hG
          subst hG
          exact W.iret (v := v1) hx hb hr (fun t ht hW => ⟨⟨v1, (), rfl, rfl, by rw [ht]; exact hP, hD⟩, hS.F ht⟩) hS.2.2 dX6_leastStepAlongY_26
        · replace hf := ds_t c_16 hf
          refine lv_iinc (v := (v1 + 1)) (lv' := [(1, .int (v1 + 1)), (0, .ref h_o)]) hx hb dX6_leastStepAlongY_19 hl (k := 1) rfl rfl (by decide) rfl (fun ls hl => ?_)
          refine lv_goto (tgt := 2) hx hb dX6_leastStepAlongY_22 (by decide) ?_
          have hf := Option.some.inj hf
          subst hf
          rw [eG1] at hG
          obtain ⟨rr, hf, hG⟩ := hG
          exact h1 (ih2 (v1 + 1) rr hf hG _ _ hP hD hS _ (lv_sub hl [1, 0] rfl))
  unfold fX6_leastStepAlongY at hf
  refine lv_iconst (v := 1) hx hb dX6_leastStepAlongY_0 (by decide) ?_
  refine lv_istore_n (lv' := [(1, .int (1 : Int32)), (0, .ref h_o)]) hx hb dX6_leastStepAlongY_1 rfl hl (by decide) rfl (fun ls hl => ?_)
  exact h1 (J_2  1000 (1 : Int32) _ hf hG _ _ hP hD hS _ (lv_sub hl [1, 0] rfl))

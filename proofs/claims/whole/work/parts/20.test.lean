theorem dX6_has_0 : decode cX6_has 0 = .ok (.iload_n 1, 1) := by decide +kernel
theorem dX6_has_1 : decode cX6_has 1 = .ok (.ifCond .lt 27, 3) := by decide +kernel
theorem dX6_has_4 : decode cX6_has 4 = .ok (.iload_n 1, 1) := by decide +kernel
theorem dX6_has_5 : decode cX6_has 5 = .ok (.aload_n 0, 1) := by decide +kernel
theorem dX6_has_6 : decode cX6_has 6 = .ok (.getfield 9, 3) := by decide +kernel
theorem dX6_has_9 : decode cX6_has 9 = .ok (.if_icmp .ge 19, 3) := by decide +kernel
theorem dX6_has_12 : decode cX6_has 12 = .ok (.iload_n 2, 1) := by decide +kernel
theorem dX6_has_13 : decode cX6_has 13 = .ok (.ifCond .lt 15, 3) := by decide +kernel
theorem dX6_has_16 : decode cX6_has 16 = .ok (.iload_n 2, 1) := by decide +kernel
theorem dX6_has_17 : decode cX6_has 17 = .ok (.aload_n 0, 1) := by decide +kernel
theorem dX6_has_18 : decode cX6_has 18 = .ok (.getfield 15, 3) := by decide +kernel
theorem dX6_has_21 : decode cX6_has 21 = .ok (.if_icmp .ge 7, 3) := by decide +kernel
theorem dX6_has_24 : decode cX6_has 24 = .ok (.iconst 1, 1) := by decide +kernel
theorem dX6_has_25 : decode cX6_has 25 = .ok (.goto 4, 3) := by decide +kernel
theorem dX6_has_28 : decode cX6_has 28 = .ok (.iconst 0, 1) := by decide +kernel
theorem dX6_has_29 : decode cX6_has 29 = .ok (.ireturn, 1) := by decide +kernel
theorem kw_0 : Cond.fieldLink RX6 9 "OrnamentDesk$Tile" "wide" "I" ∈ ds_gw := ds_g (ds_t1 41 (by decide +kernel)) rfl
theorem kw_1 : u_lay RX6 TX6 0 ∈ ds_gw := ds_g (ds_t1 57 (by decide +kernel)) rfl
theorem kw_2 : u_lay RX6 TX6 1 ∈ ds_gw := ds_g (ds_t1 59 (by decide +kernel)) rfl
theorem kw_3 : u_lay RX6 TX6 2 ∈ ds_gw := ds_g (ds_t1 61 (by decide +kernel)) rfl
theorem kw_4 : u_lay RX6 TX6 3 ∈ ds_gw := ds_g (ds_t1 63 (by decide +kernel)) rfl
theorem kw_5 : u_lay RX6 TX6 4 ∈ ds_gw := ds_g (ds_t1 65 (by decide +kernel)) rfl
theorem kc_X6 : ∀ w ∈ u_ws RX6 TX6 5, w ∈ ds_gw := by
  intro w h
  obtain ⟨k, hk, rfl⟩ := List.mem_map.mp h
  have hk := List.mem_range.mp hk
  match k, hk with
  | 0, _ => exact kw_1
  | 1, _ => exact kw_2
  | 2, _ => exact kw_3
  | 3, _ => exact kw_4
  | 4, _ => exact kw_5
  | n + 5, hk => exact absurd hk (by omega)
theorem kw_6 : Cond.fieldLink RX6 15 "OrnamentDesk$Tile" "high" "I" ∈ ds_gw := ds_g (ds_t1 45 (by decide +kernel)) rfl
def fX6_has (o_wide : Int32) (o_high : Int32) (p1 : Int32) (p2 : Int32) : Option (Int32) :=
  if p1 < 0 then some (0 : Int32) else if o_wide ≤ p1 then some (0 : Int32) else if p2 < 0 then some (0 : Int32) else if o_high ≤ p2 then some (0 : Int32) else some (1 : Int32)
set_option maxHeartbeats 4000000 in
set_option maxRecDepth 100000 in
theorem c_X6_has (l : Launch) (dC : Nat → ClassId) (dI : Nat → Nat → Nat) (ca : Nat → ClassId) (sa : Nat → Nat) (h_o : Nat) (sz : Nat) (o_wide : Int32) (o_high : Int32) (o_hex : Int32) (o_ones : Int64) (o_twos : Int64) (p1 : Int32) (p2 : Int32) (res : Int32) (hf : fX6_has o_wide o_high p1 p2 = some res) : Met l yX6_has (Cond.code yX6_has cX6_has 3 (some .boolean) :: ds_gw) { frames := 0, cells := 0, slots := 0, locals := 0 } (va_Pc [.ref h_o, .int p1, .int p2] (ds_Pre dC dI ca sa [(h_o, .inr (5, [.int o_wide, .int o_high, .int o_hex, .long o_ones, .long o_twos]))] sz)) (va_Qi (fun r (_ : Unit) => r = res) (ds_B dC dI (va_A [(h_o, .inr (5, [.int o_wide, .int o_high, .int o_hex, .long o_ones, .long o_twos]))] sz) [(h_o, .inr (5, [.int o_wide, .int o_high, .int o_hex, .long o_ones, .long o_twos]))]) (va_A [(h_o, .inr (5, [.int o_wide, .int o_high, .int o_hex, .long o_ones, .long o_twos]))] sz)) 0 0 (va_A [(h_o, .inr (5, [.int o_wide, .int o_high, .int o_hex, .long o_ones, .long o_twos]))] sz) := by
  refine Met.ofW (cc := cX6_has) (maxL := 3) (ret := (some .boolean)) (by decide) rfl ?_
  intro p e s m args below meth c s₁ B hml hv
  obtain ⟨rfl, hsz, hP, hK, hD0, hE⟩ := hv
  have hx := B.exec
  have hb := B.bytes
  have hr := B.returns
  have hts := atoms_spec (ws := Cond.code yX6_has cX6_has 3 (some .boolean) :: ds_gw) B.pre
  have hg : ∀ {w : Cond}, w ∈ ds_gw → w.before _ s = true := fun h => hts _ (List.mem_cons_of_mem _ h)
  have hown : s.vm.findClass RX6 = some m.cls := findClass_of_methodNamed B.named
  have hlocks := B.notSynchronized
  subst hsz
  have hD := hD0.self (sz := s.heap.size)
  generalize hAe : va_A [(h_o, .inr (5, [.int o_wide, .int o_high, .int o_hex, .long o_ones, .long o_twos]))] s.heap.size = A at hD hE ⊢
  have hA : ∀ q : Nat, s.heap.size ≤ q → A q := fun q h => by rw [← hAe]; exact Or.inr h
  have hS : va_S A s.heap s.heap [] := va_S.rf
  have hl := lv_entry ([.ref h_o, .int p1, .int p2]) (n := 3) (Nat.le_of_ble_eq_true rfl)
  rw [lg_entry_eq]
  generalize (lg_sl ([.ref h_o, .int p1, .int p2]) ++ List.replicate (3 - (lg_sl ([.ref h_o, .int p1, .int p2])).length) Slot.unset).toArray = ls at hl ⊢
  have hl : lv_has ls 3 [(0, .ref h_o), (1, .int p1), (2, .int p2)] := hl
  obtain ⟨G0, eG0⟩ : ∃ G : Int32 → Prop, G = (fun r => r = res) := ⟨_, rfl⟩
  obtain ⟨rr, hrr⟩ : ∃ z, z = res := ⟨_, rfl⟩
  rw [← hrr] at hf
  have hG : G0 rr := by rw [eG0]; exact hrr
  unfold fX6_has at hf
  refine lv_iload_n hx hb dX6_has_0 rfl (lv_at hl 1 rfl) ?_
  refine lv_if_lt (tgt := 28) hx hb dX6_has_1 (by decide) (fun c_1 => ?_) (fun c_1 => ?_)
  · replace hf := ds_t c_1 hf
    refine lv_iconst (v := 0) hx hb dX6_has_28 (by decide) ?_
    have hf := Option.some.inj hf
    subst hf
    rw [eG0] at hG
    have hG : _ = res := hG
    subst hG
    exact W.zret (v := (0 : Int32)) (ty := .boolean) hx hb hr rfl (fun t ht hW => ⟨⟨(0 : Int32), (), rfl, rfl, by rw [ht]; exact hP, hD⟩, hS.F ht⟩) hS.2.2 dX6_has_29
  · replace hf := ds_f c_1 hf
    refine lv_iload_n hx hb dX6_has_4 rfl (lv_at hl 1 rfl) ?_
    refine lv_aload_n hx hb dX6_has_5 rfl (lv_at hl 0 rfl) ?_
    refine va_get (D := (dC, dI)) (ci := 5) (v := .int o_wide) (C := RX6) (T := TX6) (N := 5) hx hb hts (fun w h => List.mem_cons_of_mem _ (kc_X6 w h)) hown hK hP 0 rfl rfl 0 (by decide) (hg kw_0) (fun _ h9 => h9) rfl dX6_has_6 ?_
    refine lv_icmp_ge (tgt := 28) hx hb dX6_has_9 (by decide) (fun c_9 => ?_) (fun c_9 => ?_)
    · replace hf := ds_t c_9 hf
      refine lv_iconst (v := 0) hx hb dX6_has_28 (by decide) ?_
      have hf := Option.some.inj hf
      subst hf
      rw [eG0] at hG
      have hG : _ = res := hG
      subst hG
      exact W.zret (v := (0 : Int32)) (ty := .boolean) hx hb hr rfl (fun t ht hW => ⟨⟨(0 : Int32), (), rfl, rfl, by rw [ht]; exact hP, hD⟩, hS.F ht⟩) hS.2.2 dX6_has_29
    · replace hf := ds_f c_9 hf
      refine lv_iload_n hx hb dX6_has_12 rfl (lv_at hl 2 rfl) ?_
      refine lv_if_lt (tgt := 28) hx hb dX6_has_13 (by decide) (fun c_13 => ?_) (fun c_13 => ?_)
      · replace hf := ds_t c_13 hf
        refine lv_iconst (v := 0) hx hb dX6_has_28 (by decide) ?_
        have hf := Option.some.inj hf
        subst hf
        rw [eG0] at hG
        have hG : _ = res := hG
        subst hG
        exact W.zret (v := (0 : Int32)) (ty := .boolean) hx hb hr rfl (fun t ht hW => ⟨⟨(0 : Int32), (), rfl, rfl, by rw [ht]; exact hP, hD⟩, hS.F ht⟩) hS.2.2 dX6_has_29
      · replace hf := ds_f c_13 hf
        refine lv_iload_n hx hb dX6_has_16 rfl (lv_at hl 2 rfl) ?_
        refine lv_aload_n hx hb dX6_has_17 rfl (lv_at hl 0 rfl) ?_
        refine va_get (D := (dC, dI)) (ci := 5) (v := .int o_high) (C := RX6) (T := TX6) (N := 5) hx hb hts (fun w h => List.mem_cons_of_mem _ (kc_X6 w h)) hown hK hP 0 rfl rfl 1 (by decide) (hg kw_6) (fun _ h9 => h9) rfl dX6_has_18 ?_
        refine lv_icmp_ge (tgt := 28) hx hb dX6_has_21 (by decide) (fun c_21 => ?_) (fun c_21 => ?_)
        · replace hf := ds_t c_21 hf
          refine lv_iconst (v := 0) hx hb dX6_has_28 (by decide) ?_
          have hf := Option.some.inj hf
          subst hf
          rw [eG0] at hG
          have hG : _ = res := hG
          subst hG
          exact W.zret (v := (0 : Int32)) (ty := .boolean) hx hb hr rfl (fun t ht hW => ⟨⟨(0 : Int32), (), rfl, rfl, by rw [ht]; exact hP, hD⟩, hS.F ht⟩) hS.2.2 dX6_has_29
        · replace hf := ds_f c_21 hf
          refine lv_iconst (v := 1) hx hb dX6_has_24 (by decide) ?_
          refine lv_goto (tgt := 29) hx hb dX6_has_25 (by decide) ?_
          have hf := Option.some.inj hf
          subst hf
          rw [eG0] at hG
          have hG : _ = res := hG
          subst hG
          exact W.zret (v := (1 : Int32)) (ty := .boolean) hx hb hr rfl (fun t ht hW => ⟨⟨(1 : Int32), (), rfl, rfl, by rw [ht]; exact hP, hD⟩, hS.F ht⟩) hS.2.2 dX6_has_29
theorem dX1_turns_0 : decode cX1_turns 0 = .ok (.iload_n 0, 1) := by decide +kernel
theorem dX1_turns_1 : decode cX1_turns 1 = .ok (.ifCond .eq 8, 3) := by decide +kernel
theorem dX1_turns_4 : decode cX1_turns 4 = .ok (.bipush 6, 2) := by decide +kernel
theorem dX1_turns_6 : decode cX1_turns 6 = .ok (.goto 4, 3) := by decide +kernel
theorem dX1_turns_9 : decode cX1_turns 9 = .ok (.iconst 4, 1) := by decide +kernel
theorem dX1_turns_10 : decode cX1_turns 10 = .ok (.ireturn, 1) := by decide +kernel
def fX1_turns (p1 : Int32) : Option (Int32) :=
  if p1 = 0 then some (4 : Int32) else some (6 : Int32)
set_option maxHeartbeats 4000000 in
set_option maxRecDepth 100000 in
theorem c_X1_turns (l : Launch) (dC : Nat → ClassId) (dI : Nat → Nat → Nat) (ca : Nat → ClassId) (sa : Nat → Nat) (sz : Nat) (p1 : Int32) (res : Int32) (hf : fX1_turns p1 = some res) : Met l yX1_turns (Cond.code yX1_turns cX1_turns 1 (some .int) :: ds_gw) { frames := 0, cells := 0, slots := 0, locals := 0 } (va_Pc [.int p1] (ds_Pre dC dI ca sa [] sz)) (va_Qi (fun r (_ : Unit) => r = res) (ds_B dC dI (va_A [] sz) []) (va_A [] sz)) 0 0 (va_A [] sz) := by
  refine Met.ofW (cc := cX1_turns) (maxL := 1) (ret := (some .int)) (by decide) rfl ?_
  intro p e s m args below meth c s₁ B hml hv
  obtain ⟨rfl, hsz, hP, hK, hD0, hE⟩ := hv
  have hx := B.exec
  have hb := B.bytes
  have hr := B.returns
  have hts := atoms_spec (ws := Cond.code yX1_turns cX1_turns 1 (some .int) :: ds_gw) B.pre
  have hg : ∀ {w : Cond}, w ∈ ds_gw → w.before _ s = true := fun h => hts _ (List.mem_cons_of_mem _ h)
  have hown : s.vm.findClass RX1 = some m.cls := findClass_of_methodNamed B.named
  have hlocks := B.notSynchronized
  subst hsz
  have hD := hD0.self (sz := s.heap.size)
  generalize hAe : va_A [] s.heap.size = A at hD hE ⊢
  have hA : ∀ q : Nat, s.heap.size ≤ q → A q := fun q h => by rw [← hAe]; exact Or.inr h
  have hS : va_S A s.heap s.heap [] := va_S.rf
  have hl := lv_entry ([.int p1]) (n := 1) (Nat.le_of_ble_eq_true rfl)
  rw [lg_entry_eq]
  generalize (lg_sl ([.int p1]) ++ List.replicate (1 - (lg_sl ([.int p1])).length) Slot.unset).toArray = ls at hl ⊢
  have hl : lv_has ls 1 [(0, .int p1)] := hl
  obtain ⟨G0, eG0⟩ : ∃ G : Int32 → Prop, G = (fun r => r = res) := ⟨_, rfl⟩
  obtain ⟨rr, hrr⟩ : ∃ z, z = res := ⟨_, rfl⟩
  rw [← hrr] at hf
  have hG : G0 rr := by rw [eG0]; exact hrr
  unfold fX1_turns at hf
  refine lv_iload_n hx hb dX1_turns_0 rfl (lv_at hl 0 rfl) ?_
  refine lv_if_eq (tgt := 9) hx hb dX1_turns_1 (by decide) (fun c_1 => ?_) (fun c_1 => ?_)
  · replace hf := ds_t c_1 hf
    refine lv_iconst (v := 4) hx hb dX1_turns_9 (by decide) ?_
    have hf := Option.some.inj hf
    subst hf
    rw [eG0] at hG
    have hG : _ = res := hG
    subst hG
    exact W.iret (v := (4 : Int32)) hx hb hr (fun t ht hW => ⟨⟨(4 : Int32), (), rfl, rfl, by rw [ht]; exact hP, hD⟩, hS.F ht⟩) hS.2.2 dX1_turns_10
  · replace hf := ds_f c_1 hf
    refine lv_bipush (v := 6) hx hb dX1_turns_4 (by decide) ?_
    refine lv_goto (tgt := 10) hx hb dX1_turns_6 (by decide) ?_
    have hf := Option.some.inj hf
    subst hf
    rw [eG0] at hG
    have hG : _ = res := hG
    subst hG
    exact W.iret (v := (6 : Int32)) hx hb hr (fun t ht hW => ⟨⟨(6 : Int32), (), rfl, rfl, by rw [ht]; exact hP, hD⟩, hS.F ht⟩) hS.2.2 dX1_turns_10
theorem dX1_turnings_0 : decode cX1_turnings 0 = .ok (.iload_n 0, 1) := by decide +kernel
theorem dX1_turnings_1 : decode cX1_turnings 1 = .ok (.ifCond .eq 8, 3) := by decide +kernel
theorem dX1_turnings_4 : decode cX1_turnings 4 = .ok (.bipush 12, 2) := by decide +kernel
theorem dX1_turnings_6 : decode cX1_turnings 6 = .ok (.goto 5, 3) := by decide +kernel
theorem dX1_turnings_9 : decode cX1_turnings 9 = .ok (.bipush 8, 2) := by decide +kernel
theorem dX1_turnings_11 : decode cX1_turnings 11 = .ok (.ireturn, 1) := by decide +kernel
def fX1_turnings (p1 : Int32) : Option (Int32) :=
  if p1 = 0 then some (8 : Int32) else some (12 : Int32)
set_option maxHeartbeats 4000000 in
set_option maxRecDepth 100000 in
theorem c_X1_turnings (l : Launch) (dC : Nat → ClassId) (dI : Nat → Nat → Nat) (ca : Nat → ClassId) (sa : Nat → Nat) (sz : Nat) (p1 : Int32) (res : Int32) (hf : fX1_turnings p1 = some res) : Met l yX1_turnings (Cond.code yX1_turnings cX1_turnings 1 (some .int) :: ds_gw) { frames := 0, cells := 0, slots := 0, locals := 0 } (va_Pc [.int p1] (ds_Pre dC dI ca sa [] sz)) (va_Qi (fun r (_ : Unit) => r = res) (ds_B dC dI (va_A [] sz) []) (va_A [] sz)) 0 0 (va_A [] sz) := by
  refine Met.ofW (cc := cX1_turnings) (maxL := 1) (ret := (some .int)) (by decide) rfl ?_
  intro p e s m args below meth c s₁ B hml hv
  obtain ⟨rfl, hsz, hP, hK, hD0, hE⟩ := hv
  have hx := B.exec
  have hb := B.bytes
  have hr := B.returns
  have hts := atoms_spec (ws := Cond.code yX1_turnings cX1_turnings 1 (some .int) :: ds_gw) B.pre
  have hg : ∀ {w : Cond}, w ∈ ds_gw → w.before _ s = true := fun h => hts _ (List.mem_cons_of_mem _ h)
  have hown : s.vm.findClass RX1 = some m.cls := findClass_of_methodNamed B.named
  have hlocks := B.notSynchronized
  subst hsz
  have hD := hD0.self (sz := s.heap.size)
  generalize hAe : va_A [] s.heap.size = A at hD hE ⊢
  have hA : ∀ q : Nat, s.heap.size ≤ q → A q := fun q h => by rw [← hAe]; exact Or.inr h
  have hS : va_S A s.heap s.heap [] := va_S.rf
  have hl := lv_entry ([.int p1]) (n := 1) (Nat.le_of_ble_eq_true rfl)
  rw [lg_entry_eq]
  generalize (lg_sl ([.int p1]) ++ List.replicate (1 - (lg_sl ([.int p1])).length) Slot.unset).toArray = ls at hl ⊢
  have hl : lv_has ls 1 [(0, .int p1)] := hl
  obtain ⟨G0, eG0⟩ : ∃ G : Int32 → Prop, G = (fun r => r = res) := ⟨_, rfl⟩
  obtain ⟨rr, hrr⟩ : ∃ z, z = res := ⟨_, rfl⟩
  rw [← hrr] at hf
  have hG : G0 rr := by rw [eG0]; exact hrr
  unfold fX1_turnings at hf
  refine lv_iload_n hx hb dX1_turnings_0 rfl (lv_at hl 0 rfl) ?_
  refine lv_if_eq (tgt := 9) hx hb dX1_turnings_1 (by decide) (fun c_1 => ?_) (fun c_1 => ?_)
  · replace hf := ds_t c_1 hf
    refine lv_bipush (v := 8) hx hb dX1_turnings_9 (by decide) ?_
    have hf := Option.some.inj hf
    subst hf
    rw [eG0] at hG
    have hG : _ = res := hG
    subst hG
    exact W.iret (v := (8 : Int32)) hx hb hr (fun t ht hW => ⟨⟨(8 : Int32), (), rfl, rfl, by rw [ht]; exact hP, hD⟩, hS.F ht⟩) hS.2.2 dX1_turnings_11
  · replace hf := ds_f c_1 hf
    refine lv_bipush (v := 12) hx hb dX1_turnings_4 (by decide) ?_
    refine lv_goto (tgt := 11) hx hb dX1_turnings_6 (by decide) ?_
    have hf := Option.some.inj hf
    subst hf
    rw [eG0] at hG
    have hG : _ = res := hG
    subst hG
    exact W.iret (v := (12 : Int32)) hx hb hr (fun t ht hW => ⟨⟨(12 : Int32), (), rfl, rfl, by rw [ht]; exact hP, hD⟩, hS.F ht⟩) hS.2.2 dX1_turnings_11
theorem dX1_isTurning_0 : decode cX1_isTurning 0 = .ok (.iload_n 1, 1) := by decide +kernel
theorem dX1_isTurning_1 : decode cX1_isTurning 1 = .ok (.ifCond .lt 15, 3) := by decide +kernel
theorem dX1_isTurning_4 : decode cX1_isTurning 4 = .ok (.iload_n 1, 1) := by decide +kernel
theorem dX1_isTurning_5 : decode cX1_isTurning 5 = .ok (.iload_n 0, 1) := by decide +kernel
theorem dX1_isTurning_6 : decode cX1_isTurning 6 = .ok (.invokestatic 9, 3) := by decide +kernel
theorem dX1_isTurning_9 : decode cX1_isTurning 9 = .ok (.if_icmp .ge 7, 3) := by decide +kernel
theorem dX1_isTurning_12 : decode cX1_isTurning 12 = .ok (.iconst 1, 1) := by decide +kernel
theorem dX1_isTurning_13 : decode cX1_isTurning 13 = .ok (.goto 4, 3) := by decide +kernel
theorem dX1_isTurning_16 : decode cX1_isTurning 16 = .ok (.iconst 0, 1) := by decide +kernel
theorem dX1_isTurning_17 : decode cX1_isTurning 17 = .ok (.ireturn, 1) := by decide +kernel
theorem kw_7 : Cond.methodLink RX1 9 yX1_turnings ∈ ds_gw := ds_g (ds_t2 165 (by decide +kernel)) rfl
theorem kw_8 : Cond.static yX1_turnings ∈ ds_gw := ds_g (ds_t2 166 (by decide +kernel)) rfl
theorem kw_9 : Cond.initialized RX1 ∈ ds_gw := ds_g (ds_t1 14 (by decide +kernel)) rfl
theorem kw_10 : Cond.code yX1_turnings cX1_turnings 1 (some .int) ∈ ds_gw := ds_g (ds_t2 167 (by decide +kernel)) rfl
def fX1_isTurning (p1 : Int32) (p2 : Int32) : Option (Int32) :=
  if p2 < 0 then some (0 : Int32) else Option.bind (fX1_turnings p1) fun q6 => if q6 ≤ p2 then some (0 : Int32) else some (1 : Int32)
set_option maxHeartbeats 4000000 in
set_option maxRecDepth 100000 in
theorem c_X1_isTurning (l : Launch) (dC : Nat → ClassId) (dI : Nat → Nat → Nat) (ca : Nat → ClassId) (sa : Nat → Nat) (sz : Nat) (p1 : Int32) (p2 : Int32) (res : Int32) (hf : fX1_isTurning p1 p2 = some res) : Met l yX1_isTurning (Cond.code yX1_isTurning cX1_isTurning 2 (some .boolean) :: ds_gw) { frames := 1, cells := 0, slots := 0, locals := 20 } (va_Pc [.int p1, .int p2] (ds_Pre dC dI ca sa [] sz)) (va_Qi (fun r (_ : Unit) => r = res) (ds_B dC dI (va_A [] sz) []) (va_A [] sz)) 0 0 (va_A [] sz) := by
  refine Met.ofW (cc := cX1_isTurning) (maxL := 2) (ret := (some .boolean)) (by decide) rfl ?_
  intro p e s m args below meth c s₁ B hml hv
  obtain ⟨rfl, hsz, hP, hK, hD0, hE⟩ := hv
  have hx := B.exec
  have hb := B.bytes
  have hr := B.returns
  have hts := atoms_spec (ws := Cond.code yX1_isTurning cX1_isTurning 2 (some .boolean) :: ds_gw) B.pre
  have hg : ∀ {w : Cond}, w ∈ ds_gw → w.before _ s = true := fun h => hts _ (List.mem_cons_of_mem _ h)
  have hown : s.vm.findClass RX1 = some m.cls := findClass_of_methodNamed B.named
  have hlocks := B.notSynchronized
  subst hsz
  have hD := hD0.self (sz := s.heap.size)
  generalize hAe : va_A [] s.heap.size = A at hD hE ⊢
  have hA : ∀ q : Nat, s.heap.size ≤ q → A q := fun q h => by rw [← hAe]; exact Or.inr h
  have hS : va_S A s.heap s.heap [] := va_S.rf
  have hl := lv_entry ([.int p1, .int p2]) (n := 2) (Nat.le_of_ble_eq_true rfl)
  rw [lg_entry_eq]
  generalize (lg_sl ([.int p1, .int p2]) ++ List.replicate (2 - (lg_sl ([.int p1, .int p2])).length) Slot.unset).toArray = ls at hl ⊢
  have hl : lv_has ls 2 [(0, .int p1), (1, .int p2)] := hl
  obtain ⟨G0, eG0⟩ : ∃ G : Int32 → Prop, G = (fun r => r = res) := ⟨_, rfl⟩
  obtain ⟨rr, hrr⟩ : ∃ z, z = res := ⟨_, rfl⟩
  rw [← hrr] at hf
  have hG : G0 rr := by rw [eG0]; exact hrr
  unfold fX1_isTurning at hf
  refine lv_iload_n hx hb dX1_isTurning_0 rfl (lv_at hl 1 rfl) ?_
  refine lv_if_lt (tgt := 16) hx hb dX1_isTurning_1 (by decide) (fun c_1 => ?_) (fun c_1 => ?_)
  · replace hf := ds_t c_1 hf
    refine lv_iconst (v := 0) hx hb dX1_isTurning_16 (by decide) ?_
    have hf := Option.some.inj hf
    subst hf
    rw [eG0] at hG
    have hG : _ = res := hG
    subst hG
    exact W.zret (v := (0 : Int32)) (ty := .boolean) hx hb hr rfl (fun t ht hW => ⟨⟨(0 : Int32), (), rfl, rfl, by rw [ht]; exact hP, hD⟩, hS.F ht⟩) hS.2.2 dX1_isTurning_17
  · replace hf := ds_f c_1 hf
    refine lv_iload_n hx hb dX1_isTurning_4 rfl (lv_at hl 1 rfl) ?_
    refine lv_iload_n hx hb dX1_isTurning_5 rfl (lv_at hl 0 rfl) ?_
    obtain ⟨q6, hq6, hf⟩ := ds_ob hf
    refine ds_calli (wr := []) (va_runS (As := [.int p1]) (rest := [.int p2]) ⟨hx, hb, hml, hown, hts⟩ (c_X1_turnings l dC dI ca sa  s.heap.size  p1 q6 hq6) (va_cwS 1 hts (ds_gS kw_7 kw_8 kw_9 kw_10) rfl rfl rfl (by decide +kernel) ⟨Nat.le_of_ble_eq_true rfl, Nat.le_of_ble_eq_true rfl⟩) ⟨ds_blind, ds_at hP hD hK hE hS hA [] rfl rfl _⟩ rfl rfl hl.1 rfl (lv_room (Nat.le_of_ble_eq_true rfl)) dX1_isTurning_6 ⟨Nat.zero_le _, Nat.zero_le _⟩) hP hD hS hA [] [] rfl rfl rfl (by decide) (fun H locs hP hD hS => ?_)
    have hP : va_P (dC, dI) vwCl [] H := hP
    have hD : va_D A [] := hD
    refine lv_icmp_ge (tgt := 16) hx hb dX1_isTurning_9 (by decide) (fun c_9 => ?_) (fun c_9 => ?_)
    · replace hf := ds_t c_9 hf
      refine lv_iconst (v := 0) hx hb dX1_isTurning_16 (by decide) ?_
      have hf := Option.some.inj hf
      subst hf
      rw [eG0] at hG
      have hG : _ = res := hG
      subst hG
      exact W.zret (v := (0 : Int32)) (ty := .boolean) hx hb hr rfl (fun t ht hW => ⟨⟨(0 : Int32), (), rfl, rfl, by rw [ht]; exact hP, hD⟩, hS.F ht⟩) hS.2.2 dX1_isTurning_17
    · replace hf := ds_f c_9 hf
      refine lv_iconst (v := 1) hx hb dX1_isTurning_12 (by decide) ?_
      refine lv_goto (tgt := 17) hx hb dX1_isTurning_13 (by decide) ?_
      have hf := Option.some.inj hf
      subst hf
      rw [eG0] at hG
      have hG : _ = res := hG
      subst hG
      exact W.zret (v := (1 : Int32)) (ty := .boolean) hx hb hr rfl (fun t ht hW => ⟨⟨(1 : Int32), (), rfl, rfl, by rw [ht]; exact hP, hD⟩, hS.F ht⟩) hS.2.2 dX1_isTurning_17
theorem dX1_lengthOf_0 : decode cX1_lengthOf 0 = .ok (.iload_n 1, 1) := by decide +kernel
theorem dX1_lengthOf_1 : decode cX1_lengthOf 1 = .ok (.iload_n 1, 1) := by decide +kernel
theorem dX1_lengthOf_2 : decode cX1_lengthOf 2 = .ok (.imul, 1) := by decide +kernel
theorem dX1_lengthOf_3 : decode cX1_lengthOf 3 = .ok (.iload_n 2, 1) := by decide +kernel
theorem dX1_lengthOf_4 : decode cX1_lengthOf 4 = .ok (.iload_n 2, 1) := by decide +kernel
theorem dX1_lengthOf_5 : decode cX1_lengthOf 5 = .ok (.imul, 1) := by decide +kernel
theorem dX1_lengthOf_6 : decode cX1_lengthOf 6 = .ok (.iadd, 1) := by decide +kernel
theorem dX1_lengthOf_7 : decode cX1_lengthOf 7 = .ok (.iload_n 0, 1) := by decide +kernel
theorem dX1_lengthOf_8 : decode cX1_lengthOf 8 = .ok (.ifCond .eq 9, 3) := by decide +kernel
theorem dX1_lengthOf_11 : decode cX1_lengthOf 11 = .ok (.iload_n 1, 1) := by decide +kernel
theorem dX1_lengthOf_12 : decode cX1_lengthOf 12 = .ok (.iload_n 2, 1) := by decide +kernel
theorem dX1_lengthOf_13 : decode cX1_lengthOf 13 = .ok (.imul, 1) := by decide +kernel
theorem dX1_lengthOf_14 : decode cX1_lengthOf 14 = .ok (.goto 4, 3) := by decide +kernel
theorem dX1_lengthOf_17 : decode cX1_lengthOf 17 = .ok (.iconst 0, 1) := by decide +kernel
theorem dX1_lengthOf_18 : decode cX1_lengthOf 18 = .ok (.iadd, 1) := by decide +kernel
theorem dX1_lengthOf_19 : decode cX1_lengthOf 19 = .ok (.ireturn, 1) := by decide +kernel
def fX1_lengthOf_18 (s0 : Int32) (s1 : Int32) : Option (Int32) :=
  some (s1 + s0)
def fX1_lengthOf (p1 : Int32) (p2 : Int32) (p3 : Int32) : Option (Int32) :=
  if p1 = 0 then fX1_lengthOf_18 (0 : Int32) ((p2 * p2) + (p3 * p3)) else fX1_lengthOf_18 (p2 * p3) ((p2 * p2) + (p3 * p3))
set_option maxHeartbeats 4000000 in
set_option maxRecDepth 100000 in
theorem c_X1_lengthOf (l : Launch) (dC : Nat → ClassId) (dI : Nat → Nat → Nat) (ca : Nat → ClassId) (sa : Nat → Nat) (sz : Nat) (p1 : Int32) (p2 : Int32) (p3 : Int32) (res : Int32) (hf : fX1_lengthOf p1 p2 p3 = some res) : Met l yX1_lengthOf (Cond.code yX1_lengthOf cX1_lengthOf 3 (some .int) :: ds_gw) { frames := 0, cells := 0, slots := 0, locals := 0 } (va_Pc [.int p1, .int p2, .int p3] (ds_Pre dC dI ca sa [] sz)) (va_Qi (fun r (_ : Unit) => r = res) (ds_B dC dI (va_A [] sz) []) (va_A [] sz)) 0 0 (va_A [] sz) := by
  refine Met.ofW (cc := cX1_lengthOf) (maxL := 3) (ret := (some .int)) (by decide) rfl ?_
  intro p e s m args below meth c s₁ B hml hv
  obtain ⟨rfl, hsz, hP, hK, hD0, hE⟩ := hv
  have hx := B.exec
  have hb := B.bytes
  have hr := B.returns
  have hts := atoms_spec (ws := Cond.code yX1_lengthOf cX1_lengthOf 3 (some .int) :: ds_gw) B.pre
  have hg : ∀ {w : Cond}, w ∈ ds_gw → w.before _ s = true := fun h => hts _ (List.mem_cons_of_mem _ h)
  have hown : s.vm.findClass RX1 = some m.cls := findClass_of_methodNamed B.named
  have hlocks := B.notSynchronized
  subst hsz
  have hD := hD0.self (sz := s.heap.size)
  generalize hAe : va_A [] s.heap.size = A at hD hE ⊢
  have hA : ∀ q : Nat, s.heap.size ≤ q → A q := fun q h => by rw [← hAe]; exact Or.inr h
  have hS : va_S A s.heap s.heap [] := va_S.rf
  have hl := lv_entry ([.int p1, .int p2, .int p3]) (n := 3) (Nat.le_of_ble_eq_true rfl)
  rw [lg_entry_eq]
  generalize (lg_sl ([.int p1, .int p2, .int p3]) ++ List.replicate (3 - (lg_sl ([.int p1, .int p2, .int p3])).length) Slot.unset).toArray = ls at hl ⊢
  have hl : lv_has ls 3 [(0, .int p1), (1, .int p2), (2, .int p3)] := hl
  obtain ⟨G0, eG0⟩ : ∃ G : Int32 → Prop, G = (fun r => r = res) := ⟨_, rfl⟩
  obtain ⟨rr, hrr⟩ : ∃ z, z = res := ⟨_, rfl⟩
  rw [← hrr] at hf
  have hG : G0 rr := by rw [eG0]; exact hrr
  refine ds_cap (fun WW h1 h2 => ?_)
  have J_18 : ∀ (s0 : Int32) (s1 : Int32) (rr : Int32) (hf : fX1_lengthOf_18 s0 s1 = some rr) (hG : G0 rr) (H : Heap) (locs : List Loc) (hP : va_P (dC, dI) vwCl [] H) (hD : va_D A []) (hS : va_S A s.heap H locs) (ls : Array Slot) (hl : lv_has ls 3 []), WW H locs (F0 m 18 ls [.int s0, .int s1]) := by
    intro s0 s1 rr hf hG H locs hP hD hS ls hl
    refine h2 ?_
    unfold fX1_lengthOf_18 at hf
    refine lv_iadd hx hb dX1_lengthOf_18 ?_
    have hf := Option.some.inj hf
    subst hf
    rw [eG0] at hG
    have hG : _ = res := hG
    subst hG
    exact W.iret (v := (s1 + s0)) hx hb hr (fun t ht hW => ⟨⟨(s1 + s0), (), rfl, rfl, by rw [ht]; exact hP, hD⟩, hS.F ht⟩) hS.2.2 dX1_lengthOf_19
  unfold fX1_lengthOf at hf
  refine lv_iload_n hx hb dX1_lengthOf_0 rfl (lv_at hl 1 rfl) ?_
  refine lv_iload_n hx hb dX1_lengthOf_1 rfl (lv_at hl 1 rfl) ?_
  refine lv_imul hx hb dX1_lengthOf_2 ?_
  refine lv_iload_n hx hb dX1_lengthOf_3 rfl (lv_at hl 2 rfl) ?_
  refine lv_iload_n hx hb dX1_lengthOf_4 rfl (lv_at hl 2 rfl) ?_
  refine lv_imul hx hb dX1_lengthOf_5 ?_
  refine lv_iadd hx hb dX1_lengthOf_6 ?_
  refine lv_iload_n hx hb dX1_lengthOf_7 rfl (lv_at hl 0 rfl) ?_
  refine lv_if_eq (tgt := 17) hx hb dX1_lengthOf_8 (by decide) (fun c_8 => ?_) (fun c_8 => ?_)
  · replace hf := ds_t c_8 hf
    refine lv_iconst (v := 0) hx hb dX1_lengthOf_17 (by decide) ?_
    exact h1 (J_18 (0 : Int32) ((p2 * p2) + (p3 * p3)) _ hf hG _ _ hP hD hS _ (lv_sub hl [] rfl))
  · replace hf := ds_f c_8 hf
    refine lv_iload_n hx hb dX1_lengthOf_11 rfl (lv_at hl 1 rfl) ?_
    refine lv_iload_n hx hb dX1_lengthOf_12 rfl (lv_at hl 2 rfl) ?_
    refine lv_imul hx hb dX1_lengthOf_13 ?_
    refine lv_goto (tgt := 18) hx hb dX1_lengthOf_14 (by decide) ?_
    exact h1 (J_18 (p2 * p3) ((p2 * p2) + (p3 * p3)) _ hf hG _ _ hP hD hS _ (lv_sub hl [] rfl))
theorem dX6_copyFrom_0 : decode cX6_copyFrom 0 = .ok (.aload_n 0, 1) := by decide +kernel
theorem dX6_copyFrom_1 : decode cX6_copyFrom 1 = .ok (.aload_n 1, 1) := by decide +kernel
theorem dX6_copyFrom_2 : decode cX6_copyFrom 2 = .ok (.getfield 9, 3) := by decide +kernel
theorem dX6_copyFrom_5 : decode cX6_copyFrom 5 = .ok (.putfield 9, 3) := by decide +kernel
theorem dX6_copyFrom_8 : decode cX6_copyFrom 8 = .ok (.aload_n 0, 1) := by decide +kernel
theorem dX6_copyFrom_9 : decode cX6_copyFrom 9 = .ok (.aload_n 1, 1) := by decide +kernel
theorem dX6_copyFrom_10 : decode cX6_copyFrom 10 = .ok (.getfield 15, 3) := by decide +kernel
theorem dX6_copyFrom_13 : decode cX6_copyFrom 13 = .ok (.putfield 15, 3) := by decide +kernel
theorem dX6_copyFrom_16 : decode cX6_copyFrom 16 = .ok (.aload_n 0, 1) := by decide +kernel
theorem dX6_copyFrom_17 : decode cX6_copyFrom 17 = .ok (.aload_n 1, 1) := by decide +kernel
theorem dX6_copyFrom_18 : decode cX6_copyFrom 18 = .ok (.getfield 18, 3) := by decide +kernel
theorem dX6_copyFrom_21 : decode cX6_copyFrom 21 = .ok (.putfield 18, 3) := by decide +kernel
theorem dX6_copyFrom_24 : decode cX6_copyFrom 24 = .ok (.aload_n 0, 1) := by decide +kernel
theorem dX6_copyFrom_25 : decode cX6_copyFrom 25 = .ok (.aload_n 1, 1) := by decide +kernel
theorem dX6_copyFrom_26 : decode cX6_copyFrom 26 = .ok (.getfield 22, 3) := by decide +kernel
theorem dX6_copyFrom_29 : decode cX6_copyFrom 29 = .ok (.putfield 22, 3) := by decide +kernel
theorem dX6_copyFrom_32 : decode cX6_copyFrom 32 = .ok (.aload_n 0, 1) := by decide +kernel
theorem dX6_copyFrom_33 : decode cX6_copyFrom 33 = .ok (.aload_n 1, 1) := by decide +kernel
theorem dX6_copyFrom_34 : decode cX6_copyFrom 34 = .ok (.getfield 26, 3) := by decide +kernel
theorem dX6_copyFrom_37 : decode cX6_copyFrom 37 = .ok (.putfield 26, 3) := by decide +kernel
theorem dX6_copyFrom_40 : decode cX6_copyFrom 40 = .ok (.return_, 1) := by decide +kernel
theorem kw_11 : Cond.fieldLink RX6 18 "OrnamentDesk$Tile" "hex" "Z" ∈ ds_gw := ds_g (ds_t1 50 (by decide +kernel)) rfl
theorem kw_12 : Cond.fieldLink RX6 22 "OrnamentDesk$Tile" "ones" "J" ∈ ds_gw := ds_g (ds_t1 53 (by decide +kernel)) rfl
theorem kw_13 : Cond.fieldLink RX6 26 "OrnamentDesk$Tile" "twos" "J" ∈ ds_gw := ds_g (ds_t1 55 (by decide +kernel)) rfl
def fX6_copyFrom (p1_wide : Int32) (p1_high : Int32) (p1_hex : Int32) (p1_ones : Int64) (p1_twos : Int64) : Option (Int32 × Int32 × Int32 × Int64 × Int64) :=
  if p1_hex = 0 ∨ p1_hex = 1 then some (p1_wide, p1_high, p1_hex, p1_ones, p1_twos) else none
set_option maxHeartbeats 4000000 in
set_option maxRecDepth 100000 in
theorem c_X6_copyFrom (l : Launch) (dC : Nat → ClassId) (dI : Nat → Nat → Nat) (ca : Nat → ClassId) (sa : Nat → Nat) (h_p1 : Nat) (h_o : Nat) (sz : Nat) (p1_wide : Int32) (p1_high : Int32) (p1_hex : Int32) (p1_ones : Int64) (p1_twos : Int64) (o_wide : Int32) (o_high : Int32) (o_hex : Int32) (o_ones : Int64) (o_twos : Int64) (res : Int32 × Int32 × Int32 × Int64 × Int64) (hf : fX6_copyFrom p1_wide p1_high p1_hex p1_ones p1_twos = some res) : Met l yX6_copyFrom (Cond.code yX6_copyFrom cX6_copyFrom 2 none :: ds_gw) { frames := 0, cells := 0, slots := 0, locals := 0 } (va_Pc [.ref h_o, .ref h_p1] (ds_Pre dC dI ca sa [(h_p1, .inr (5, [.int p1_wide, .int p1_high, .int p1_hex, .long p1_ones, .long p1_twos])), (h_o, .inr (5, [.int o_wide, .int o_high, .int o_hex, .long o_ones, .long o_twos]))] sz)) (va_Qv (fun (_ : Unit) => True) (ds_B dC dI (va_A [(h_p1, .inr (5, [.int p1_wide, .int p1_high, .int p1_hex, .long p1_ones, .long p1_twos])), (h_o, .inr (5, [.int o_wide, .int o_high, .int o_hex, .long o_ones, .long o_twos]))] sz) [(h_p1, .inr (5, [.int p1_wide, .int p1_high, .int p1_hex, .long p1_ones, .long p1_twos])), (h_o, .inr (5, [.int res.1, .int res.2.1, .int res.2.2.1, .long res.2.2.2.1, .long res.2.2.2.2]))]) (va_A [(h_p1, .inr (5, [.int p1_wide, .int p1_high, .int p1_hex, .long p1_ones, .long p1_twos])), (h_o, .inr (5, [.int o_wide, .int o_high, .int o_hex, .long o_ones, .long o_twos]))] sz)) 0 0 (va_A [(h_p1, .inr (5, [.int p1_wide, .int p1_high, .int p1_hex, .long p1_ones, .long p1_twos])), (h_o, .inr (5, [.int o_wide, .int o_high, .int o_hex, .long o_ones, .long o_twos]))] sz) := by
  refine Met.ofW (cc := cX6_copyFrom) (maxL := 2) (ret := none) (by decide) rfl ?_
  intro p e s m args below meth c s₁ B hml hv
  obtain ⟨rfl, hsz, hP, hK, hD0, hE⟩ := hv
  have hx := B.exec
  have hb := B.bytes
  have hr := B.returns
  have hts := atoms_spec (ws := Cond.code yX6_copyFrom cX6_copyFrom 2 none :: ds_gw) B.pre
  have hg : ∀ {w : Cond}, w ∈ ds_gw → w.before _ s = true := fun h => hts _ (List.mem_cons_of_mem _ h)
  have hown : s.vm.findClass RX6 = some m.cls := findClass_of_methodNamed B.named
  have hlocks := B.notSynchronized
  subst hsz
  have hD := hD0.self (sz := s.heap.size)
  generalize hAe : va_A [(h_p1, .inr (5, [.int p1_wide, .int p1_high, .int p1_hex, .long p1_ones, .long p1_twos])), (h_o, .inr (5, [.int o_wide, .int o_high, .int o_hex, .long o_ones, .long o_twos]))] s.heap.size = A at hD hE ⊢
  have hA : ∀ q : Nat, s.heap.size ≤ q → A q := fun q h => by rw [← hAe]; exact Or.inr h
  have hS : va_S A s.heap s.heap [] := va_S.rf
  have hl := lv_entry ([.ref h_o, .ref h_p1]) (n := 2) (Nat.le_of_ble_eq_true rfl)
  rw [lg_entry_eq]
  generalize (lg_sl ([.ref h_o, .ref h_p1]) ++ List.replicate (2 - (lg_sl ([.ref h_o, .ref h_p1])).length) Slot.unset).toArray = ls at hl ⊢
  have hl : lv_has ls 2 [(0, .ref h_o), (1, .ref h_p1)] := hl
  obtain ⟨G0, eG0⟩ : ∃ G : (Int32 × Int32 × Int32 × Int64 × Int64) → Prop, G = (fun r => r = res) := ⟨_, rfl⟩
  obtain ⟨rr, hrr⟩ : ∃ z, z = res := ⟨_, rfl⟩
  rw [← hrr] at hf
  have hG : G0 rr := by rw [eG0]; exact hrr
  unfold fX6_copyFrom at hf
  refine lv_aload_n hx hb dX6_copyFrom_0 rfl (lv_at hl 0 rfl) ?_
  refine lv_aload_n hx hb dX6_copyFrom_1 rfl (lv_at hl 1 rfl) ?_
  refine va_get (D := (dC, dI)) (ci := 5) (v := .int p1_wide) (C := RX6) (T := TX6) (N := 5) hx hb hts (fun w h => List.mem_cons_of_mem _ (kc_X6 w h)) hown hK hP 0 rfl rfl 0 (by decide) (hg kw_0) (fun _ h9 => h9) rfl dX6_copyFrom_2 ?_
  refine va_put (D := (dC, dI)) (ci := 5) (v := .int p1_wide) (ty := tyX6 0) (C := RX6) (T := TX6) (N := 5) hx hb hts (fun w h => List.mem_cons_of_mem _ (kc_X6 w h)) tyX6 tyX6_ok nmX6 hown hK hP hD hS 1 rfl rfl 0 (by decide) (hg kw_0) (fun _ h9 => h9) rfl (by decide +kernel) rfl rfl (Nat.le_of_ble_eq_true rfl) dX6_copyFrom_5 (fun H locs hP hD hS => ?_)
  have hP : va_P (dC, dI) vwCl [(h_p1, .inr (5, [.int p1_wide, .int p1_high, .int p1_hex, .long p1_ones, .long p1_twos])), (h_o, .inr (5, [.int p1_wide, .int o_high, .int o_hex, .long o_ones, .long o_twos]))] H := hP
  have hD : va_D A [(h_p1, .inr (5, [.int p1_wide, .int p1_high, .int p1_hex, .long p1_ones, .long p1_twos])), (h_o, .inr (5, [.int p1_wide, .int o_high, .int o_hex, .long o_ones, .long o_twos]))] := hD
  refine lv_aload_n hx hb dX6_copyFrom_8 rfl (lv_at hl 0 rfl) ?_
  refine lv_aload_n hx hb dX6_copyFrom_9 rfl (lv_at hl 1 rfl) ?_
  refine va_get (D := (dC, dI)) (ci := 5) (v := .int p1_high) (C := RX6) (T := TX6) (N := 5) hx hb hts (fun w h => List.mem_cons_of_mem _ (kc_X6 w h)) hown hK hP 0 rfl rfl 1 (by decide) (hg kw_6) (fun _ h9 => h9) rfl dX6_copyFrom_10 ?_
  refine va_put (D := (dC, dI)) (ci := 5) (v := .int p1_high) (ty := tyX6 1) (C := RX6) (T := TX6) (N := 5) hx hb hts (fun w h => List.mem_cons_of_mem _ (kc_X6 w h)) tyX6 tyX6_ok nmX6 hown hK hP hD hS 1 rfl rfl 1 (by decide) (hg kw_6) (fun _ h9 => h9) rfl (by decide +kernel) rfl rfl (Nat.le_of_ble_eq_true rfl) dX6_copyFrom_13 (fun H locs hP hD hS => ?_)
  have hP : va_P (dC, dI) vwCl [(h_p1, .inr (5, [.int p1_wide, .int p1_high, .int p1_hex, .long p1_ones, .long p1_twos])), (h_o, .inr (5, [.int p1_wide, .int p1_high, .int o_hex, .long o_ones, .long o_twos]))] H := hP
  have hD : va_D A [(h_p1, .inr (5, [.int p1_wide, .int p1_high, .int p1_hex, .long p1_ones, .long p1_twos])), (h_o, .inr (5, [.int p1_wide, .int p1_high, .int o_hex, .long o_ones, .long o_twos]))] := hD
  refine lv_aload_n hx hb dX6_copyFrom_16 rfl (lv_at hl 0 rfl) ?_
  refine lv_aload_n hx hb dX6_copyFrom_17 rfl (lv_at hl 1 rfl) ?_
  refine va_get (D := (dC, dI)) (ci := 5) (v := .int p1_hex) (C := RX6) (T := TX6) (N := 5) hx hb hts (fun w h => List.mem_cons_of_mem _ (kc_X6 w h)) hown hK hP 0 rfl rfl 2 (by decide) (hg kw_11) (fun _ h9 => h9) rfl dX6_copyFrom_18 ?_
  obtain ⟨z_21, hf⟩ := ds_c hf
  refine va_put (D := (dC, dI)) (ci := 5) (v := .int p1_hex) (ty := tyX6 2) (C := RX6) (T := TX6) (N := 5) hx hb hts (fun w h => List.mem_cons_of_mem _ (kc_X6 w h)) tyX6 tyX6_ok nmX6 hown hK hP hD hS 1 rfl rfl 2 (by decide) (hg kw_11) (fun _ h9 => h9) rfl (by decide +kernel) (ds_zn z_21) (ds_zf z_21) (Nat.le_of_ble_eq_true rfl) dX6_copyFrom_21 (fun H locs hP hD hS => ?_)
  have hP : va_P (dC, dI) vwCl [(h_p1, .inr (5, [.int p1_wide, .int p1_high, .int p1_hex, .long p1_ones, .long p1_twos])), (h_o, .inr (5, [.int p1_wide, .int p1_high, .int p1_hex, .long o_ones, .long o_twos]))] H := hP
  have hD : va_D A [(h_p1, .inr (5, [.int p1_wide, .int p1_high, .int p1_hex, .long p1_ones, .long p1_twos])), (h_o, .inr (5, [.int p1_wide, .int p1_high, .int p1_hex, .long o_ones, .long o_twos]))] := hD
  refine lv_aload_n hx hb dX6_copyFrom_24 rfl (lv_at hl 0 rfl) ?_
  refine lv_aload_n hx hb dX6_copyFrom_25 rfl (lv_at hl 1 rfl) ?_
  refine va_get (D := (dC, dI)) (ci := 5) (v := .long p1_ones) (C := RX6) (T := TX6) (N := 5) hx hb hts (fun w h => List.mem_cons_of_mem _ (kc_X6 w h)) hown hK hP 0 rfl rfl 3 (by decide) (hg kw_12) (fun _ h9 => h9) rfl dX6_copyFrom_26 ?_
  refine va_put (D := (dC, dI)) (ci := 5) (v := .long p1_ones) (ty := tyX6 3) (C := RX6) (T := TX6) (N := 5) hx hb hts (fun w h => List.mem_cons_of_mem _ (kc_X6 w h)) tyX6 tyX6_ok nmX6 hown hK hP hD hS 1 rfl rfl 3 (by decide) (hg kw_12) (fun _ h9 => h9) rfl (by decide +kernel) rfl rfl (Nat.le_of_ble_eq_true rfl) dX6_copyFrom_29 (fun H locs hP hD hS => ?_)
  have hP : va_P (dC, dI) vwCl [(h_p1, .inr (5, [.int p1_wide, .int p1_high, .int p1_hex, .long p1_ones, .long p1_twos])), (h_o, .inr (5, [.int p1_wide, .int p1_high, .int p1_hex, .long p1_ones, .long o_twos]))] H := hP
  have hD : va_D A [(h_p1, .inr (5, [.int p1_wide, .int p1_high, .int p1_hex, .long p1_ones, .long p1_twos])), (h_o, .inr (5, [.int p1_wide, .int p1_high, .int p1_hex, .long p1_ones, .long o_twos]))] := hD
  refine lv_aload_n hx hb dX6_copyFrom_32 rfl (lv_at hl 0 rfl) ?_
  refine lv_aload_n hx hb dX6_copyFrom_33 rfl (lv_at hl 1 rfl) ?_
  refine va_get (D := (dC, dI)) (ci := 5) (v := .long p1_twos) (C := RX6) (T := TX6) (N := 5) hx hb hts (fun w h => List.mem_cons_of_mem _ (kc_X6 w h)) hown hK hP 0 rfl rfl 4 (by decide) (hg kw_13) (fun _ h9 => h9) rfl dX6_copyFrom_34 ?_
  refine va_put (D := (dC, dI)) (ci := 5) (v := .long p1_twos) (ty := tyX6 4) (C := RX6) (T := TX6) (N := 5) hx hb hts (fun w h => List.mem_cons_of_mem _ (kc_X6 w h)) tyX6 tyX6_ok nmX6 hown hK hP hD hS 1 rfl rfl 4 (by decide) (hg kw_13) (fun _ h9 => h9) rfl (by decide +kernel) rfl rfl (Nat.le_of_ble_eq_true rfl) dX6_copyFrom_37 (fun H locs hP hD hS => ?_)
  have hP : va_P (dC, dI) vwCl [(h_p1, .inr (5, [.int p1_wide, .int p1_high, .int p1_hex, .long p1_ones, .long p1_twos])), (h_o, .inr (5, [.int p1_wide, .int p1_high, .int p1_hex, .long p1_ones, .long p1_twos]))] H := hP
  have hD : va_D A [(h_p1, .inr (5, [.int p1_wide, .int p1_high, .int p1_hex, .long p1_ones, .long p1_twos])), (h_o, .inr (5, [.int p1_wide, .int p1_high, .int p1_hex, .long p1_ones, .long p1_twos]))] := hD
  have hf := Option.some.inj hf
  subst hf
  rw [eG0] at hG
  have hG : _ = res := hG
  subst hG
  exact W.vret hx hb hr (fun t ht hW => ⟨⟨(), rfl, trivial, by rw [ht]; exact hP, hD⟩, hS.F ht⟩) hS.2.2 dX6_copyFrom_40
theorem dX6_all_0 : decode cX6_all 0 = .ok (.ldc2_w 33, 3) := by decide +kernel
theorem dX6_all_3 : decode cX6_all 3 = .ok (.lconst 1, 1) := by decide +kernel
theorem dX6_all_4 : decode cX6_all 4 = .ok (.aload_n 0, 1) := by decide +kernel
theorem dX6_all_5 : decode cX6_all 5 = .ok (.getfield 9, 3) := by decide +kernel
theorem dX6_all_8 : decode cX6_all 8 = .ok (.lshl, 1) := by decide +kernel
theorem dX6_all_9 : decode cX6_all 9 = .ok (.lconst 1, 1) := by decide +kernel
theorem dX6_all_10 : decode cX6_all 10 = .ok (.lsub, 1) := by decide +kernel
theorem dX6_all_11 : decode cX6_all 11 = .ok (.lmul, 1) := by decide +kernel
theorem dX6_all_12 : decode cX6_all 12 = .ok (.lstore_n 1, 1) := by decide +kernel
theorem dX6_all_13 : decode cX6_all 13 = .ok (.ldc2_w 35, 3) := by decide +kernel
theorem dX6_all_16 : decode cX6_all 16 = .ok (.bipush 64, 2) := by decide +kernel
theorem dX6_all_18 : decode cX6_all 18 = .ok (.bipush 8, 2) := by decide +kernel
theorem dX6_all_20 : decode cX6_all 20 = .ok (.aload_n 0, 1) := by decide +kernel
theorem dX6_all_21 : decode cX6_all 21 = .ok (.getfield 15, 3) := by decide +kernel
theorem dX6_all_24 : decode cX6_all 24 = .ok (.imul, 1) := by decide +kernel
theorem dX6_all_25 : decode cX6_all 25 = .ok (.isub, 1) := by decide +kernel
theorem dX6_all_26 : decode cX6_all 26 = .ok (.lushr, 1) := by decide +kernel
theorem dX6_all_27 : decode cX6_all 27 = .ok (.lstore_n 3, 1) := by decide +kernel
theorem dX6_all_28 : decode cX6_all 28 = .ok (.lload_n 1, 1) := by decide +kernel
theorem dX6_all_29 : decode cX6_all 29 = .ok (.lload_n 3, 1) := by decide +kernel
theorem dX6_all_30 : decode cX6_all 30 = .ok (.land, 1) := by decide +kernel
theorem dX6_all_31 : decode cX6_all 31 = .ok (.lreturn, 1) := by decide +kernel
theorem kw_14 : Cond.constantLong RX6 33 (72340172838076673) ∈ ds_gw := ds_g (ds_t2 153 (by decide +kernel)) rfl
theorem kw_15 : Cond.constantLong RX6 35 (-1) ∈ ds_gw := ds_g (ds_t2 77 (by decide +kernel)) rfl
def fX6_all (o_wide : Int32) (o_high : Int32) : Option (Int64) :=
  Option.bind (some (((72340172838076673 : Int64) * ((ds_lshl (1 : Int64) o_wide) - (1 : Int64))))) fun x12 => Option.bind (some ((ds_lushr (-1 : Int64) ((64 : Int32) - ((8 : Int32) * o_high))))) fun x27 => some (x12 &&& x27)
set_option maxHeartbeats 4000000 in
set_option maxRecDepth 100000 in
theorem c_X6_all (l : Launch) (dC : Nat → ClassId) (dI : Nat → Nat → Nat) (ca : Nat → ClassId) (sa : Nat → Nat) (h_o : Nat) (sz : Nat) (o_wide : Int32) (o_high : Int32) (o_hex : Int32) (o_ones : Int64) (o_twos : Int64) (res : Int64) (hf : fX6_all o_wide o_high = some res) : Met l yX6_all (Cond.code yX6_all cX6_all 5 (some .long) :: ds_gw) { frames := 0, cells := 0, slots := 0, locals := 0 } (va_Pc [.ref h_o] (ds_Pre dC dI ca sa [(h_o, .inr (5, [.int o_wide, .int o_high, .int o_hex, .long o_ones, .long o_twos]))] sz)) (va_Ql (fun r (_ : Unit) => r = res) (ds_B dC dI (va_A [(h_o, .inr (5, [.int o_wide, .int o_high, .int o_hex, .long o_ones, .long o_twos]))] sz) [(h_o, .inr (5, [.int o_wide, .int o_high, .int o_hex, .long o_ones, .long o_twos]))]) (va_A [(h_o, .inr (5, [.int o_wide, .int o_high, .int o_hex, .long o_ones, .long o_twos]))] sz)) 0 0 (va_A [(h_o, .inr (5, [.int o_wide, .int o_high, .int o_hex, .long o_ones, .long o_twos]))] sz) := by
  refine Met.ofW (cc := cX6_all) (maxL := 5) (ret := (some .long)) (by decide) rfl ?_
  intro p e s m args below meth c s₁ B hml hv
  obtain ⟨rfl, hsz, hP, hK, hD0, hE⟩ := hv
  have hx := B.exec
  have hb := B.bytes
  have hr := B.returns
  have hts := atoms_spec (ws := Cond.code yX6_all cX6_all 5 (some .long) :: ds_gw) B.pre
  have hg : ∀ {w : Cond}, w ∈ ds_gw → w.before _ s = true := fun h => hts _ (List.mem_cons_of_mem _ h)
  have hown : s.vm.findClass RX6 = some m.cls := findClass_of_methodNamed B.named
  have hlocks := B.notSynchronized
  subst hsz
  have hD := hD0.self (sz := s.heap.size)
  generalize hAe : va_A [(h_o, .inr (5, [.int o_wide, .int o_high, .int o_hex, .long o_ones, .long o_twos]))] s.heap.size = A at hD hE ⊢
  have hA : ∀ q : Nat, s.heap.size ≤ q → A q := fun q h => by rw [← hAe]; exact Or.inr h
  have hS : va_S A s.heap s.heap [] := va_S.rf
  have hl := lv_entry ([.ref h_o]) (n := 5) (Nat.le_of_ble_eq_true rfl)
  rw [lg_entry_eq]
  generalize (lg_sl ([.ref h_o]) ++ List.replicate (5 - (lg_sl ([.ref h_o])).length) Slot.unset).toArray = ls at hl ⊢
  have hl : lv_has ls 5 [(0, .ref h_o)] := hl
  obtain ⟨G0, eG0⟩ : ∃ G : Int64 → Prop, G = (fun r => r = res) := ⟨_, rfl⟩
  obtain ⟨rr, hrr⟩ : ∃ z, z = res := ⟨_, rfl⟩
  rw [← hrr] at hf
  have hG : G0 rr := by rw [eG0]; exact hrr
  unfold fX6_all at hf
  refine lv_ldc2 (own := RX6) (v := 72340172838076673) hx hb hown (hg kw_14) dX6_all_0 ?_
  refine lv_lconst (v := 1) hx hb dX6_all_3 (by decide) ?_
  refine lv_aload_n hx hb dX6_all_4 rfl (lv_at hl 0 rfl) ?_
  refine va_get (D := (dC, dI)) (ci := 5) (v := .int o_wide) (C := RX6) (T := TX6) (N := 5) hx hb hts (fun w h => List.mem_cons_of_mem _ (kc_X6 w h)) hown hK hP 0 rfl rfl 0 (by decide) (hg kw_0) (fun _ h9 => h9) rfl dX6_all_5 ?_
  refine lv_lshl (v := (ds_lshl (1 : Int64) o_wide)) hx hb dX6_all_8 rfl ?_
  refine lv_lconst (v := 1) hx hb dX6_all_9 (by decide) ?_
  refine lv_lsub hx hb dX6_all_10 ?_
  refine lv_lmul hx hb dX6_all_11 ?_
  obtain ⟨x12, hx_12, hf⟩ := ds_ob hf
  refine ds_nml hx_12 ?_
  refine lv_lstore_n (lv' := [(1, .long x12), (0, .ref h_o)]) hx hb dX6_all_12 rfl hl (by decide) rfl (fun ls hl => ?_)
  refine lv_ldc2 (own := RX6) (v := -1) hx hb hown (hg kw_15) dX6_all_13 ?_
  refine lv_bipush (v := 64) hx hb dX6_all_16 (by decide) ?_
  refine lv_bipush (v := 8) hx hb dX6_all_18 (by decide) ?_
  refine lv_aload_n hx hb dX6_all_20 rfl (lv_at hl 1 rfl) ?_
  refine va_get (D := (dC, dI)) (ci := 5) (v := .int o_high) (C := RX6) (T := TX6) (N := 5) hx hb hts (fun w h => List.mem_cons_of_mem _ (kc_X6 w h)) hown hK hP 0 rfl rfl 1 (by decide) (hg kw_6) (fun _ h9 => h9) rfl dX6_all_21 ?_
  refine lv_imul hx hb dX6_all_24 ?_
  refine lv_isub hx hb dX6_all_25 ?_
  refine lv_lushr (v := (ds_lushr (-1 : Int64) ((64 : Int32) - ((8 : Int32) * o_high)))) hx hb dX6_all_26 rfl ?_
  obtain ⟨x27, hx_27, hf⟩ := ds_ob hf
  refine ds_nml hx_27 ?_
  refine lv_lstore_n (lv' := [(3, .long x27), (1, .long x12), (0, .ref h_o)]) hx hb dX6_all_27 rfl hl (by decide) rfl (fun ls hl => ?_)
  refine lv_lload_n hx hb dX6_all_28 rfl (lv_at hl 1 rfl) ?_
  refine lv_lload_n hx hb dX6_all_29 rfl (lv_at hl 0 rfl) ?_
  refine lv_land hx hb dX6_all_30 ?_
  have hf := Option.some.inj hf
  subst hf
  rw [eG0] at hG
  have hG : _ = res := hG
  subst hG
  exact W.lret (v := (x12 &&& x27)) hx hb hr (fun t ht hW => ⟨⟨(x12 &&& x27), (), rfl, rfl, by rw [ht]; exact hP, hD⟩, hS.F ht⟩) hS.2.2 dX6_all_31
theorem dX7_rest_0 : decode cX7_rest 0 = .ok (.iload_n 1, 1) := by decide +kernel
theorem dX7_rest_1 : decode cX7_rest 1 = .ok (.ifCond .gt 5, 3) := by decide +kernel
theorem dX7_rest_4 : decode cX7_rest 4 = .ok (.iconst 0, 1) := by decide +kernel
theorem dX7_rest_5 : decode cX7_rest 5 = .ok (.ireturn, 1) := by decide +kernel
theorem dX7_rest_6 : decode cX7_rest 6 = .ok (.iload_n 0, 1) := by decide +kernel
theorem dX7_rest_7 : decode cX7_rest 7 = .ok (.iload_n 1, 1) := by decide +kernel
theorem dX7_rest_8 : decode cX7_rest 8 = .ok (.irem, 1) := by decide +kernel
theorem dX7_rest_9 : decode cX7_rest 9 = .ok (.istore_n 2, 1) := by decide +kernel
theorem dX7_rest_10 : decode cX7_rest 10 = .ok (.iload_n 2, 1) := by decide +kernel
theorem dX7_rest_11 : decode cX7_rest 11 = .ok (.ifCond .ge 9, 3) := by decide +kernel
theorem dX7_rest_14 : decode cX7_rest 14 = .ok (.iload_n 2, 1) := by decide +kernel
theorem dX7_rest_15 : decode cX7_rest 15 = .ok (.iload_n 1, 1) := by decide +kernel
theorem dX7_rest_16 : decode cX7_rest 16 = .ok (.iadd, 1) := by decide +kernel
theorem dX7_rest_17 : decode cX7_rest 17 = .ok (.goto 4, 3) := by decide +kernel
theorem dX7_rest_20 : decode cX7_rest 20 = .ok (.iload_n 2, 1) := by decide +kernel
theorem dX7_rest_21 : decode cX7_rest 21 = .ok (.ireturn, 1) := by decide +kernel
def fX7_rest (p1 : Int32) (p2 : Int32) : Option (Int32) :=
  if 0 < p2 then if p2 = 0 then none else if 0 ≤ (ds_rem p1 p2) then some (ds_rem p1 p2) else some ((ds_rem p1 p2) + p2) else some (0 : Int32)
set_option maxHeartbeats 4000000 in
set_option maxRecDepth 100000 in
theorem c_X7_rest (l : Launch) (dC : Nat → ClassId) (dI : Nat → Nat → Nat) (ca : Nat → ClassId) (sa : Nat → Nat) (sz : Nat) (p1 : Int32) (p2 : Int32) (res : Int32) (hf : fX7_rest p1 p2 = some res) : Met l yX7_rest (Cond.code yX7_rest cX7_rest 3 (some .int) :: ds_gw) { frames := 0, cells := 0, slots := 0, locals := 0 } (va_Pc [.int p1, .int p2] (ds_Pre dC dI ca sa [] sz)) (va_Qi (fun r (_ : Unit) => r = res) (ds_B dC dI (va_A [] sz) []) (va_A [] sz)) 0 0 (va_A [] sz) := by
  refine Met.ofW (cc := cX7_rest) (maxL := 3) (ret := (some .int)) (by decide) rfl ?_
  intro p e s m args below meth c s₁ B hml hv
  obtain ⟨rfl, hsz, hP, hK, hD0, hE⟩ := hv
  have hx := B.exec
  have hb := B.bytes
  have hr := B.returns
  have hts := atoms_spec (ws := Cond.code yX7_rest cX7_rest 3 (some .int) :: ds_gw) B.pre
  have hg : ∀ {w : Cond}, w ∈ ds_gw → w.before _ s = true := fun h => hts _ (List.mem_cons_of_mem _ h)
  have hown : s.vm.findClass RX7 = some m.cls := findClass_of_methodNamed B.named
  have hlocks := B.notSynchronized
  subst hsz
  have hD := hD0.self (sz := s.heap.size)
  generalize hAe : va_A [] s.heap.size = A at hD hE ⊢
  have hA : ∀ q : Nat, s.heap.size ≤ q → A q := fun q h => by rw [← hAe]; exact Or.inr h
  have hS : va_S A s.heap s.heap [] := va_S.rf
  have hl := lv_entry ([.int p1, .int p2]) (n := 3) (Nat.le_of_ble_eq_true rfl)
  rw [lg_entry_eq]
  generalize (lg_sl ([.int p1, .int p2]) ++ List.replicate (3 - (lg_sl ([.int p1, .int p2])).length) Slot.unset).toArray = ls at hl ⊢
  have hl : lv_has ls 3 [(0, .int p1), (1, .int p2)] := hl
  obtain ⟨G0, eG0⟩ : ∃ G : Int32 → Prop, G = (fun r => r = res) := ⟨_, rfl⟩
  obtain ⟨rr, hrr⟩ : ∃ z, z = res := ⟨_, rfl⟩
  rw [← hrr] at hf
  have hG : G0 rr := by rw [eG0]; exact hrr
  unfold fX7_rest at hf
  refine lv_iload_n hx hb dX7_rest_0 rfl (lv_at hl 1 rfl) ?_
  refine lv_if_gt (tgt := 6) hx hb dX7_rest_1 (by decide) (fun c_1 => ?_) (fun c_1 => ?_)
  · replace hf := ds_t c_1 hf
    refine lv_iload_n hx hb dX7_rest_6 rfl (lv_at hl 0 rfl) ?_
    refine lv_iload_n hx hb dX7_rest_7 rfl (lv_at hl 1 rfl) ?_
    obtain ⟨n_8, hf⟩ := ds_cn hf
    refine lv_irem hx hb dX7_rest_8 n_8 ?_
    refine lv_istore_n (lv' := [(2, .int (ds_rem p1 p2)), (0, .int p1), (1, .int p2)]) hx hb dX7_rest_9 rfl hl (by decide) rfl (fun ls hl => ?_)
    refine lv_iload_n hx hb dX7_rest_10 rfl (lv_at hl 0 rfl) ?_
    refine lv_if_ge (tgt := 20) hx hb dX7_rest_11 (by decide) (fun c_11 => ?_) (fun c_11 => ?_)
    · replace hf := ds_t c_11 hf
      refine lv_iload_n hx hb dX7_rest_20 rfl (lv_at hl 0 rfl) ?_
      have hf := Option.some.inj hf
      subst hf
      rw [eG0] at hG
      have hG : _ = res := hG
      subst hG
      exact W.iret (v := (ds_rem p1 p2)) hx hb hr (fun t ht hW => ⟨⟨(ds_rem p1 p2), (), rfl, rfl, by rw [ht]; exact hP, hD⟩, hS.F ht⟩) hS.2.2 dX7_rest_21
    · replace hf := ds_f c_11 hf
      refine lv_iload_n hx hb dX7_rest_14 rfl (lv_at hl 0 rfl) ?_
      refine lv_iload_n hx hb dX7_rest_15 rfl (lv_at hl 2 rfl) ?_
      refine lv_iadd hx hb dX7_rest_16 ?_
      refine lv_goto (tgt := 21) hx hb dX7_rest_17 (by decide) ?_
      have hf := Option.some.inj hf
      subst hf
      rw [eG0] at hG
      have hG : _ = res := hG
      subst hG
      exact W.iret (v := ((ds_rem p1 p2) + p2)) hx hb hr (fun t ht hW => ⟨⟨((ds_rem p1 p2) + p2), (), rfl, rfl, by rw [ht]; exact hP, hD⟩, hS.F ht⟩) hS.2.2 dX7_rest_21
  · replace hf := ds_f c_1 hf
    refine lv_iconst (v := 0) hx hb dX7_rest_4 (by decide) ?_
    have hf := Option.some.inj hf
    subst hf
    rw [eG0] at hG
    have hG : _ = res := hG
    subst hG
    exact W.iret (v := (0 : Int32)) hx hb hr (fun t ht hW => ⟨⟨(0 : Int32), (), rfl, rfl, by rw [ht]; exact hP, hD⟩, hS.F ht⟩) hS.2.2 dX7_rest_5
theorem dX6_rolledDown_0 : decode cX6_rolledDown 0 = .ok (.iload_n 3, 1) := by decide +kernel
theorem dX6_rolledDown_1 : decode cX6_rolledDown 1 = .ok (.ifCond .ne 5, 3) := by decide +kernel
theorem dX6_rolledDown_4 : decode cX6_rolledDown 4 = .ok (.lload_n 1, 1) := by decide +kernel
theorem dX6_rolledDown_5 : decode cX6_rolledDown 5 = .ok (.lreturn, 1) := by decide +kernel
theorem dX6_rolledDown_6 : decode cX6_rolledDown 6 = .ok (.lload_n 1, 1) := by decide +kernel
theorem dX6_rolledDown_7 : decode cX6_rolledDown 7 = .ok (.bipush 8, 2) := by decide +kernel
theorem dX6_rolledDown_9 : decode cX6_rolledDown 9 = .ok (.iload_n 3, 1) := by decide +kernel
theorem dX6_rolledDown_10 : decode cX6_rolledDown 10 = .ok (.imul, 1) := by decide +kernel
theorem dX6_rolledDown_11 : decode cX6_rolledDown 11 = .ok (.lshl, 1) := by decide +kernel
theorem dX6_rolledDown_12 : decode cX6_rolledDown 12 = .ok (.aload_n 0, 1) := by decide +kernel
theorem dX6_rolledDown_13 : decode cX6_rolledDown 13 = .ok (.invokevirtual 48, 3) := by decide +kernel
theorem dX6_rolledDown_16 : decode cX6_rolledDown 16 = .ok (.land, 1) := by decide +kernel
theorem dX6_rolledDown_17 : decode cX6_rolledDown 17 = .ok (.lload_n 1, 1) := by decide +kernel
theorem dX6_rolledDown_18 : decode cX6_rolledDown 18 = .ok (.bipush 8, 2) := by decide +kernel
theorem dX6_rolledDown_20 : decode cX6_rolledDown 20 = .ok (.aload_n 0, 1) := by decide +kernel
theorem dX6_rolledDown_21 : decode cX6_rolledDown 21 = .ok (.getfield 15, 3) := by decide +kernel
theorem dX6_rolledDown_24 : decode cX6_rolledDown 24 = .ok (.iload_n 3, 1) := by decide +kernel
theorem dX6_rolledDown_25 : decode cX6_rolledDown 25 = .ok (.isub, 1) := by decide +kernel
theorem dX6_rolledDown_26 : decode cX6_rolledDown 26 = .ok (.imul, 1) := by decide +kernel
theorem dX6_rolledDown_27 : decode cX6_rolledDown 27 = .ok (.lushr, 1) := by decide +kernel
theorem dX6_rolledDown_28 : decode cX6_rolledDown 28 = .ok (.lor, 1) := by decide +kernel
theorem dX6_rolledDown_29 : decode cX6_rolledDown 29 = .ok (.lreturn, 1) := by decide +kernel
theorem kw_16 : Cond.methodLink RX6 48 yX6_all ∈ ds_gw := ds_g (ds_t2 149 (by decide +kernel)) rfl
theorem kw_17 : Cond.instanceMethod yX6_all ∈ ds_gw := ds_g (ds_t2 150 (by decide +kernel)) rfl
theorem kw_18 : Cond.selects RX6 yX6_all yX6_all ∈ ds_gw := ds_g (ds_t2 151 (by decide +kernel)) rfl
theorem kw_19 : Cond.initialized RX6 ∈ ds_gw := ds_g (ds_t1 3 (by decide +kernel)) rfl
theorem kw_20 : Cond.code yX6_all cX6_all 5 (some .long) ∈ ds_gw := ds_g (ds_t2 152 (by decide +kernel)) rfl
def fX6_rolledDown (o_wide : Int32) (o_high : Int32) (p1 : Int64) (p2 : Int32) : Option (Int64) :=
  if p2 = 0 then some p1 else Option.bind (fX6_all o_wide o_high) fun q13 => some (((ds_lshl p1 ((8 : Int32) * p2)) &&& q13) ||| (ds_lushr p1 ((8 : Int32) * (o_high - p2))))
set_option maxHeartbeats 4000000 in
set_option maxRecDepth 100000 in
theorem c_X6_rolledDown (l : Launch) (dC : Nat → ClassId) (dI : Nat → Nat → Nat) (ca : Nat → ClassId) (sa : Nat → Nat) (h_o : Nat) (sz : Nat) (o_wide : Int32) (o_high : Int32) (o_hex : Int32) (o_ones : Int64) (o_twos : Int64) (p1 : Int64) (p2 : Int32) (res : Int64) (hf : fX6_rolledDown o_wide o_high p1 p2 = some res) : Met l yX6_rolledDown (Cond.code yX6_rolledDown cX6_rolledDown 4 (some .long) :: ds_gw) { frames := 1, cells := 0, slots := 0, locals := 24 } (va_Pc [.ref h_o, .long p1, .int p2] (ds_Pre dC dI ca sa [(h_o, .inr (5, [.int o_wide, .int o_high, .int o_hex, .long o_ones, .long o_twos]))] sz)) (va_Ql (fun r (_ : Unit) => r = res) (ds_B dC dI (va_A [(h_o, .inr (5, [.int o_wide, .int o_high, .int o_hex, .long o_ones, .long o_twos]))] sz) [(h_o, .inr (5, [.int o_wide, .int o_high, .int o_hex, .long o_ones, .long o_twos]))]) (va_A [(h_o, .inr (5, [.int o_wide, .int o_high, .int o_hex, .long o_ones, .long o_twos]))] sz)) 0 0 (va_A [(h_o, .inr (5, [.int o_wide, .int o_high, .int o_hex, .long o_ones, .long o_twos]))] sz) := by
  refine Met.ofW (cc := cX6_rolledDown) (maxL := 4) (ret := (some .long)) (by decide) rfl ?_
  intro p e s m args below meth c s₁ B hml hv
  obtain ⟨rfl, hsz, hP, hK, hD0, hE⟩ := hv
  have hx := B.exec
  have hb := B.bytes
  have hr := B.returns
  have hts := atoms_spec (ws := Cond.code yX6_rolledDown cX6_rolledDown 4 (some .long) :: ds_gw) B.pre
  have hg : ∀ {w : Cond}, w ∈ ds_gw → w.before _ s = true := fun h => hts _ (List.mem_cons_of_mem _ h)
  have hown : s.vm.findClass RX6 = some m.cls := findClass_of_methodNamed B.named
  have hlocks := B.notSynchronized
  subst hsz
  have hD := hD0.self (sz := s.heap.size)
  generalize hAe : va_A [(h_o, .inr (5, [.int o_wide, .int o_high, .int o_hex, .long o_ones, .long o_twos]))] s.heap.size = A at hD hE ⊢
  have hA : ∀ q : Nat, s.heap.size ≤ q → A q := fun q h => by rw [← hAe]; exact Or.inr h
  have hS : va_S A s.heap s.heap [] := va_S.rf
  have hl := lv_entry ([.ref h_o, .long p1, .int p2]) (n := 4) (Nat.le_of_ble_eq_true rfl)
  rw [lg_entry_eq]
  generalize (lg_sl ([.ref h_o, .long p1, .int p2]) ++ List.replicate (4 - (lg_sl ([.ref h_o, .long p1, .int p2])).length) Slot.unset).toArray = ls at hl ⊢
  have hl : lv_has ls 4 [(0, .ref h_o), (1, .long p1), (3, .int p2)] := hl
  obtain ⟨G0, eG0⟩ : ∃ G : Int64 → Prop, G = (fun r => r = res) := ⟨_, rfl⟩
  obtain ⟨rr, hrr⟩ : ∃ z, z = res := ⟨_, rfl⟩
  rw [← hrr] at hf
  have hG : G0 rr := by rw [eG0]; exact hrr
  unfold fX6_rolledDown at hf
  refine lv_iload_n hx hb dX6_rolledDown_0 rfl (lv_at hl 2 rfl) ?_
  refine lv_if_ne (tgt := 6) hx hb dX6_rolledDown_1 (by decide) (fun c_1 => ?_) (fun c_1 => ?_)
  · replace hf := ds_f c_1 hf
    refine lv_lload_n hx hb dX6_rolledDown_6 rfl (lv_at hl 1 rfl) ?_
    refine lv_bipush (v := 8) hx hb dX6_rolledDown_7 (by decide) ?_
    refine lv_iload_n hx hb dX6_rolledDown_9 rfl (lv_at hl 2 rfl) ?_
    refine lv_imul hx hb dX6_rolledDown_10 ?_
    refine lv_lshl (v := (ds_lshl p1 ((8 : Int32) * p2))) hx hb dX6_rolledDown_11 rfl ?_
    refine lv_aload_n hx hb dX6_rolledDown_12 rfl (lv_at hl 0 rfl) ?_
    obtain ⟨q13, hq13, hf⟩ := ds_ob hf
    refine ds_calll (wr := []) (va_runV (As := []) (rest := [.long (ds_lshl p1 ((8 : Int32) * p2))]) ⟨hx, hb, hml, hown, hts⟩ (c_X6_all l dC dI ca sa h_o s.heap.size o_wide o_high o_hex o_ones o_twos  q13 hq13) (cwV 0 hts (ds_gV kw_16 kw_17 kw_18 kw_19 kw_20) rfl rfl rfl (by decide +kernel) ⟨Nat.le_of_ble_eq_true rfl, Nat.le_of_ble_eq_true rfl⟩) ⟨ds_blind, va_recv hK hP (ci := 5) (q0 := 0) rfl rfl, ds_at hP hD hK hE hS hA [0] rfl rfl _⟩ rfl rfl hl.1 rfl (lv_room (Nat.le_of_ble_eq_true rfl)) dX6_rolledDown_13 ⟨Nat.zero_le _, Nat.zero_le _⟩) hP hD hS hA [0] [] rfl rfl rfl (by decide) (fun H locs hP hD hS => ?_)
    have hP : va_P (dC, dI) vwCl [(h_o, .inr (5, [.int o_wide, .int o_high, .int o_hex, .long o_ones, .long o_twos]))] H := hP
    have hD : va_D A [(h_o, .inr (5, [.int o_wide, .int o_high, .int o_hex, .long o_ones, .long o_twos]))] := hD
    refine lv_land hx hb dX6_rolledDown_16 ?_
    refine lv_lload_n hx hb dX6_rolledDown_17 rfl (lv_at hl 1 rfl) ?_
    refine lv_bipush (v := 8) hx hb dX6_rolledDown_18 (by decide) ?_
    refine lv_aload_n hx hb dX6_rolledDown_20 rfl (lv_at hl 0 rfl) ?_
    refine va_get (D := (dC, dI)) (ci := 5) (v := .int o_high) (C := RX6) (T := TX6) (N := 5) hx hb hts (fun w h => List.mem_cons_of_mem _ (kc_X6 w h)) hown hK hP 0 rfl rfl 1 (by decide) (hg kw_6) (fun _ h9 => h9) rfl dX6_rolledDown_21 ?_
    refine lv_iload_n hx hb dX6_rolledDown_24 rfl (lv_at hl 2 rfl) ?_
    refine lv_isub hx hb dX6_rolledDown_25 ?_
    refine lv_imul hx hb dX6_rolledDown_26 ?_
    refine lv_lushr (v := (ds_lushr p1 ((8 : Int32) * (o_high - p2)))) hx hb dX6_rolledDown_27 rfl ?_
    refine lv_lor hx hb dX6_rolledDown_28 ?_
    have hf := Option.some.inj hf
    subst hf
    rw [eG0] at hG
    have hG : _ = res := hG
    subst hG
    exact W.lret (v := (((ds_lshl p1 ((8 : Int32) * p2)) &&& q13) ||| (ds_lushr p1 ((8 : Int32) * (o_high - p2))))) hx hb hr (fun t ht hW => ⟨⟨(((ds_lshl p1 ((8 : Int32) * p2)) &&& q13) ||| (ds_lushr p1 ((8 : Int32) * (o_high - p2)))), (), rfl, rfl, by rw [ht]; exact hP, hD⟩, hS.F ht⟩) hS.2.2 dX6_rolledDown_29
  · replace hf := ds_t c_1 hf
    refine lv_lload_n hx hb dX6_rolledDown_4 rfl (lv_at hl 1 rfl) ?_
    have hf := Option.some.inj hf
    subst hf
    rw [eG0] at hG
    have hG : _ = res := hG
    subst hG
    exact W.lret (v := p1) hx hb hr (fun t ht hW => ⟨⟨p1, (), rfl, rfl, by rw [ht]; exact hP, hD⟩, hS.F ht⟩) hS.2.2 dX6_rolledDown_5
theorem dX6_rolledAlong_0 : decode cX6_rolledAlong 0 = .ok (.iload_n 3, 1) := by decide +kernel
theorem dX6_rolledAlong_1 : decode cX6_rolledAlong 1 = .ok (.ifCond .ne 5, 3) := by decide +kernel
theorem dX6_rolledAlong_4 : decode cX6_rolledAlong 4 = .ok (.lload_n 1, 1) := by decide +kernel
theorem dX6_rolledAlong_5 : decode cX6_rolledAlong 5 = .ok (.lreturn, 1) := by decide +kernel
theorem dX6_rolledAlong_6 : decode cX6_rolledAlong 6 = .ok (.ldc2_w 33, 3) := by decide +kernel
theorem dX6_rolledAlong_9 : decode cX6_rolledAlong 9 = .ok (.lconst 1, 1) := by decide +kernel
theorem dX6_rolledAlong_10 : decode cX6_rolledAlong 10 = .ok (.iload_n 3, 1) := by decide +kernel
theorem dX6_rolledAlong_11 : decode cX6_rolledAlong 11 = .ok (.lshl, 1) := by decide +kernel
theorem dX6_rolledAlong_12 : decode cX6_rolledAlong 12 = .ok (.lconst 1, 1) := by decide +kernel
theorem dX6_rolledAlong_13 : decode cX6_rolledAlong 13 = .ok (.lsub, 1) := by decide +kernel
theorem dX6_rolledAlong_14 : decode cX6_rolledAlong 14 = .ok (.lmul, 1) := by decide +kernel
theorem dX6_rolledAlong_15 : decode cX6_rolledAlong 15 = .ok (.lstore 4, 2) := by decide +kernel
theorem dX6_rolledAlong_17 : decode cX6_rolledAlong 17 = .ok (.lload_n 1, 1) := by decide +kernel
theorem dX6_rolledAlong_18 : decode cX6_rolledAlong 18 = .ok (.iload_n 3, 1) := by decide +kernel
theorem dX6_rolledAlong_19 : decode cX6_rolledAlong 19 = .ok (.lshl, 1) := by decide +kernel
theorem dX6_rolledAlong_20 : decode cX6_rolledAlong 20 = .ok (.aload_n 0, 1) := by decide +kernel
theorem dX6_rolledAlong_21 : decode cX6_rolledAlong 21 = .ok (.invokevirtual 48, 3) := by decide +kernel
theorem dX6_rolledAlong_24 : decode cX6_rolledAlong 24 = .ok (.land, 1) := by decide +kernel
theorem dX6_rolledAlong_25 : decode cX6_rolledAlong 25 = .ok (.lload 4, 2) := by decide +kernel
theorem dX6_rolledAlong_27 : decode cX6_rolledAlong 27 = .ok (.ldc2_w 35, 3) := by decide +kernel
theorem dX6_rolledAlong_30 : decode cX6_rolledAlong 30 = .ok (.lxor, 1) := by decide +kernel
theorem dX6_rolledAlong_31 : decode cX6_rolledAlong 31 = .ok (.land, 1) := by decide +kernel
theorem dX6_rolledAlong_32 : decode cX6_rolledAlong 32 = .ok (.lload_n 1, 1) := by decide +kernel
theorem dX6_rolledAlong_33 : decode cX6_rolledAlong 33 = .ok (.aload_n 0, 1) := by decide +kernel
theorem dX6_rolledAlong_34 : decode cX6_rolledAlong 34 = .ok (.getfield 9, 3) := by decide +kernel
theorem dX6_rolledAlong_37 : decode cX6_rolledAlong 37 = .ok (.iload_n 3, 1) := by decide +kernel
theorem dX6_rolledAlong_38 : decode cX6_rolledAlong 38 = .ok (.isub, 1) := by decide +kernel
theorem dX6_rolledAlong_39 : decode cX6_rolledAlong 39 = .ok (.lushr, 1) := by decide +kernel
theorem dX6_rolledAlong_40 : decode cX6_rolledAlong 40 = .ok (.lload 4, 2) := by decide +kernel
theorem dX6_rolledAlong_42 : decode cX6_rolledAlong 42 = .ok (.land, 1) := by decide +kernel
theorem dX6_rolledAlong_43 : decode cX6_rolledAlong 43 = .ok (.lor, 1) := by decide +kernel
theorem dX6_rolledAlong_44 : decode cX6_rolledAlong 44 = .ok (.lreturn, 1) := by decide +kernel
def fX6_rolledAlong (o_wide : Int32) (o_high : Int32) (p1 : Int64) (p2 : Int32) : Option (Int64) :=
  if p2 = 0 then some p1 else Option.bind (some (((72340172838076673 : Int64) * ((ds_lshl (1 : Int64) p2) - (1 : Int64))))) fun x15 => Option.bind (fX6_all o_wide o_high) fun q21 => some ((((ds_lshl p1 p2) &&& q21) &&& (x15 ^^^ (-1 : Int64))) ||| ((ds_lushr p1 (o_wide - p2)) &&& x15))
set_option maxHeartbeats 4000000 in
set_option maxRecDepth 100000 in
theorem c_X6_rolledAlong (l : Launch) (dC : Nat → ClassId) (dI : Nat → Nat → Nat) (ca : Nat → ClassId) (sa : Nat → Nat) (h_o : Nat) (sz : Nat) (o_wide : Int32) (o_high : Int32) (o_hex : Int32) (o_ones : Int64) (o_twos : Int64) (p1 : Int64) (p2 : Int32) (res : Int64) (hf : fX6_rolledAlong o_wide o_high p1 p2 = some res) : Met l yX6_rolledAlong (Cond.code yX6_rolledAlong cX6_rolledAlong 6 (some .long) :: ds_gw) { frames := 1, cells := 0, slots := 0, locals := 24 } (va_Pc [.ref h_o, .long p1, .int p2] (ds_Pre dC dI ca sa [(h_o, .inr (5, [.int o_wide, .int o_high, .int o_hex, .long o_ones, .long o_twos]))] sz)) (va_Ql (fun r (_ : Unit) => r = res) (ds_B dC dI (va_A [(h_o, .inr (5, [.int o_wide, .int o_high, .int o_hex, .long o_ones, .long o_twos]))] sz) [(h_o, .inr (5, [.int o_wide, .int o_high, .int o_hex, .long o_ones, .long o_twos]))]) (va_A [(h_o, .inr (5, [.int o_wide, .int o_high, .int o_hex, .long o_ones, .long o_twos]))] sz)) 0 0 (va_A [(h_o, .inr (5, [.int o_wide, .int o_high, .int o_hex, .long o_ones, .long o_twos]))] sz) := by
  refine Met.ofW (cc := cX6_rolledAlong) (maxL := 6) (ret := (some .long)) (by decide) rfl ?_
  intro p e s m args below meth c s₁ B hml hv
  obtain ⟨rfl, hsz, hP, hK, hD0, hE⟩ := hv
  have hx := B.exec
  have hb := B.bytes
  have hr := B.returns
  have hts := atoms_spec (ws := Cond.code yX6_rolledAlong cX6_rolledAlong 6 (some .long) :: ds_gw) B.pre
  have hg : ∀ {w : Cond}, w ∈ ds_gw → w.before _ s = true := fun h => hts _ (List.mem_cons_of_mem _ h)
  have hown : s.vm.findClass RX6 = some m.cls := findClass_of_methodNamed B.named
  have hlocks := B.notSynchronized
  subst hsz
  have hD := hD0.self (sz := s.heap.size)
  generalize hAe : va_A [(h_o, .inr (5, [.int o_wide, .int o_high, .int o_hex, .long o_ones, .long o_twos]))] s.heap.size = A at hD hE ⊢
  have hA : ∀ q : Nat, s.heap.size ≤ q → A q := fun q h => by rw [← hAe]; exact Or.inr h
  have hS : va_S A s.heap s.heap [] := va_S.rf
  have hl := lv_entry ([.ref h_o, .long p1, .int p2]) (n := 6) (Nat.le_of_ble_eq_true rfl)
  rw [lg_entry_eq]
  generalize (lg_sl ([.ref h_o, .long p1, .int p2]) ++ List.replicate (6 - (lg_sl ([.ref h_o, .long p1, .int p2])).length) Slot.unset).toArray = ls at hl ⊢
  have hl : lv_has ls 6 [(0, .ref h_o), (1, .long p1), (3, .int p2)] := hl
  obtain ⟨G0, eG0⟩ : ∃ G : Int64 → Prop, G = (fun r => r = res) := ⟨_, rfl⟩
  obtain ⟨rr, hrr⟩ : ∃ z, z = res := ⟨_, rfl⟩
  rw [← hrr] at hf
  have hG : G0 rr := by rw [eG0]; exact hrr
  unfold fX6_rolledAlong at hf
  refine lv_iload_n hx hb dX6_rolledAlong_0 rfl (lv_at hl 2 rfl) ?_
  refine lv_if_ne (tgt := 6) hx hb dX6_rolledAlong_1 (by decide) (fun c_1 => ?_) (fun c_1 => ?_)
  · replace hf := ds_f c_1 hf
    refine lv_ldc2 (own := RX6) (v := 72340172838076673) hx hb hown (hg kw_14) dX6_rolledAlong_6 ?_
    refine lv_lconst (v := 1) hx hb dX6_rolledAlong_9 (by decide) ?_
    refine lv_iload_n hx hb dX6_rolledAlong_10 rfl (lv_at hl 2 rfl) ?_
    refine lv_lshl (v := (ds_lshl (1 : Int64) p2)) hx hb dX6_rolledAlong_11 rfl ?_
    refine lv_lconst (v := 1) hx hb dX6_rolledAlong_12 (by decide) ?_
    refine lv_lsub hx hb dX6_rolledAlong_13 ?_
    refine lv_lmul hx hb dX6_rolledAlong_14 ?_
    obtain ⟨x15, hx_15, hf⟩ := ds_ob hf
    refine ds_nml hx_15 ?_
    refine lv_lstore (lv' := [(4, .long x15), (0, .ref h_o), (1, .long p1), (3, .int p2)]) hx hb dX6_rolledAlong_15 hl (by decide) rfl (fun ls hl => ?_)
    refine lv_lload_n hx hb dX6_rolledAlong_17 rfl (lv_at hl 2 rfl) ?_
    refine lv_iload_n hx hb dX6_rolledAlong_18 rfl (lv_at hl 3 rfl) ?_
    refine lv_lshl (v := (ds_lshl p1 p2)) hx hb dX6_rolledAlong_19 rfl ?_
    refine lv_aload_n hx hb dX6_rolledAlong_20 rfl (lv_at hl 1 rfl) ?_
    obtain ⟨q21, hq21, hf⟩ := ds_ob hf
    refine ds_calll (wr := []) (va_runV (As := []) (rest := [.long (ds_lshl p1 p2)]) ⟨hx, hb, hml, hown, hts⟩ (c_X6_all l dC dI ca sa h_o s.heap.size o_wide o_high o_hex o_ones o_twos  q21 hq21) (cwV 0 hts (ds_gV kw_16 kw_17 kw_18 kw_19 kw_20) rfl rfl rfl (by decide +kernel) ⟨Nat.le_of_ble_eq_true rfl, Nat.le_of_ble_eq_true rfl⟩) ⟨ds_blind, va_recv hK hP (ci := 5) (q0 := 0) rfl rfl, ds_at hP hD hK hE hS hA [0] rfl rfl _⟩ rfl rfl hl.1 rfl (lv_room (Nat.le_of_ble_eq_true rfl)) dX6_rolledAlong_21 ⟨Nat.zero_le _, Nat.zero_le _⟩) hP hD hS hA [0] [] rfl rfl rfl (by decide) (fun H locs hP hD hS => ?_)
    have hP : va_P (dC, dI) vwCl [(h_o, .inr (5, [.int o_wide, .int o_high, .int o_hex, .long o_ones, .long o_twos]))] H := hP
    have hD : va_D A [(h_o, .inr (5, [.int o_wide, .int o_high, .int o_hex, .long o_ones, .long o_twos]))] := hD
    refine lv_land hx hb dX6_rolledAlong_24 ?_
    refine lv_lload hx hb dX6_rolledAlong_25 (lv_at hl 0 rfl) ?_
    refine lv_ldc2 (own := RX6) (v := -1) hx hb hown (hg kw_15) dX6_rolledAlong_27 ?_
    refine lv_lxor hx hb dX6_rolledAlong_30 ?_
    refine lv_land hx hb dX6_rolledAlong_31 ?_
    refine lv_lload_n hx hb dX6_rolledAlong_32 rfl (lv_at hl 2 rfl) ?_
    refine lv_aload_n hx hb dX6_rolledAlong_33 rfl (lv_at hl 1 rfl) ?_
    refine va_get (D := (dC, dI)) (ci := 5) (v := .int o_wide) (C := RX6) (T := TX6) (N := 5) hx hb hts (fun w h => List.mem_cons_of_mem _ (kc_X6 w h)) hown hK hP 0 rfl rfl 0 (by decide) (hg kw_0) (fun _ h9 => h9) rfl dX6_rolledAlong_34 ?_
    refine lv_iload_n hx hb dX6_rolledAlong_37 rfl (lv_at hl 3 rfl) ?_
    refine lv_isub hx hb dX6_rolledAlong_38 ?_
    refine lv_lushr (v := (ds_lushr p1 (o_wide - p2))) hx hb dX6_rolledAlong_39 rfl ?_
    refine lv_lload hx hb dX6_rolledAlong_40 (lv_at hl 0 rfl) ?_
    refine lv_land hx hb dX6_rolledAlong_42 ?_
    refine lv_lor hx hb dX6_rolledAlong_43 ?_
    have hf := Option.some.inj hf
    subst hf
    rw [eG0] at hG
    have hG : _ = res := hG
    subst hG
    exact W.lret (v := ((((ds_lshl p1 p2) &&& q21) &&& (x15 ^^^ (-1 : Int64))) ||| ((ds_lushr p1 (o_wide - p2)) &&& x15))) hx hb hr (fun t ht hW => ⟨⟨((((ds_lshl p1 p2) &&& q21) &&& (x15 ^^^ (-1 : Int64))) ||| ((ds_lushr p1 (o_wide - p2)) &&& x15)), (), rfl, rfl, by rw [ht]; exact hP, hD⟩, hS.F ht⟩) hS.2.2 dX6_rolledAlong_44
  · replace hf := ds_t c_1 hf
    refine lv_lload_n hx hb dX6_rolledAlong_4 rfl (lv_at hl 1 rfl) ?_
    have hf := Option.some.inj hf
    subst hf
    rw [eG0] at hG
    have hG : _ = res := hG
    subst hG
    exact W.lret (v := p1) hx hb hr (fun t ht hW => ⟨⟨p1, (), rfl, rfl, by rw [ht]; exact hP, hD⟩, hS.F ht⟩) hS.2.2 dX6_rolledAlong_5
theorem dX6_rolled_0 : decode cX6_rolled 0 = .ok (.aload_n 0, 1) := by decide +kernel
theorem dX6_rolled_1 : decode cX6_rolled 1 = .ok (.aload_n 0, 1) := by decide +kernel
theorem dX6_rolled_2 : decode cX6_rolled 2 = .ok (.lload_n 1, 1) := by decide +kernel
theorem dX6_rolled_3 : decode cX6_rolled 3 = .ok (.iload 4, 2) := by decide +kernel
theorem dX6_rolled_5 : decode cX6_rolled 5 = .ok (.aload_n 0, 1) := by decide +kernel
theorem dX6_rolled_6 : decode cX6_rolled 6 = .ok (.getfield 15, 3) := by decide +kernel
theorem dX6_rolled_9 : decode cX6_rolled 9 = .ok (.invokestatic 37, 3) := by decide +kernel
theorem dX6_rolled_12 : decode cX6_rolled 12 = .ok (.invokevirtual 62, 3) := by decide +kernel
theorem dX6_rolled_15 : decode cX6_rolled 15 = .ok (.iload_n 3, 1) := by decide +kernel
theorem dX6_rolled_16 : decode cX6_rolled 16 = .ok (.aload_n 0, 1) := by decide +kernel
theorem dX6_rolled_17 : decode cX6_rolled 17 = .ok (.getfield 9, 3) := by decide +kernel
theorem dX6_rolled_20 : decode cX6_rolled 20 = .ok (.invokestatic 37, 3) := by decide +kernel
theorem dX6_rolled_23 : decode cX6_rolled 23 = .ok (.invokevirtual 66, 3) := by decide +kernel
theorem dX6_rolled_26 : decode cX6_rolled 26 = .ok (.lreturn, 1) := by decide +kernel
theorem kw_21 : Cond.methodLinkNest RX6 37 yX7_rest "OrnamentDesk" ∈ ds_nw := ds_n (ds_t2 142 (by decide +kernel)) rfl
theorem kw_22 : Cond.code yX7_rest cX7_rest 3 (some .int) ∈ ds_gw := ds_g (ds_t2 144 (by decide +kernel)) rfl
theorem kw_23 : Cond.initialized RX7 ∈ ds_gw := ds_g (ds_t1 1 (by decide +kernel)) rfl
theorem kw_24 : Cond.static yX7_rest ∈ ds_gw := ds_g (ds_t2 143 (by decide +kernel)) rfl
theorem kw_25 : Cond.methodLink RX6 62 yX6_rolledDown ∈ ds_gw := ds_g (ds_t2 145 (by decide +kernel)) rfl
theorem kw_26 : Cond.instanceMethod yX6_rolledDown ∈ ds_gw := ds_g (ds_t2 147 (by decide +kernel)) rfl
theorem kw_27 : Cond.selects RX6 yX6_rolledDown yX6_rolledDown ∈ ds_gw := ds_g (ds_sel (y := yX6_rolledDown) 5 (ds_p1 8 (by decide +kernel))) rfl
theorem kw_28 : Cond.code yX6_rolledDown cX6_rolledDown 4 (some .long) ∈ ds_gw := ds_g (ds_t2 148 (by decide +kernel)) rfl
theorem kw_29 : Cond.methodLink RX6 66 yX6_rolledAlong ∈ ds_gw := ds_g (ds_t2 154 (by decide +kernel)) rfl
theorem kw_30 : Cond.instanceMethod yX6_rolledAlong ∈ ds_gw := ds_g (ds_t2 156 (by decide +kernel)) rfl
theorem kw_31 : Cond.selects RX6 yX6_rolledAlong yX6_rolledAlong ∈ ds_gw := ds_g (ds_sel (y := yX6_rolledAlong) 5 (ds_p1 9 (by decide +kernel))) rfl
theorem kw_32 : Cond.code yX6_rolledAlong cX6_rolledAlong 6 (some .long) ∈ ds_gw := ds_g (ds_t2 157 (by decide +kernel)) rfl
def fX6_rolled (o_wide : Int32) (o_high : Int32) (p1 : Int64) (p2 : Int32) (p3 : Int32) : Option (Int64) :=
  Option.bind (fX7_rest p3 o_high) fun q9 => Option.bind (fX6_rolledDown o_wide o_high p1 q9) fun q12 => Option.bind (fX7_rest p2 o_wide) fun q20 => Option.bind (fX6_rolledAlong o_wide o_high q12 q20) fun q23 => some q23
set_option maxHeartbeats 4000000 in
set_option maxRecDepth 100000 in
theorem c_X6_rolled (l : Launch) (dC : Nat → ClassId) (dI : Nat → Nat → Nat) (ca : Nat → ClassId) (sa : Nat → Nat) (h_o : Nat) (sz : Nat) (o_wide : Int32) (o_high : Int32) (o_hex : Int32) (o_ones : Int64) (o_twos : Int64) (p1 : Int64) (p2 : Int32) (p3 : Int32) (res : Int64) (hf : fX6_rolled o_wide o_high p1 p2 p3 = some res) : Met l yX6_rolled (Cond.code yX6_rolled cX6_rolled 5 (some .long) :: ds_gw) { frames := 2, cells := 0, slots := 0, locals := 49 } (va_Pc [.ref h_o, .long p1, .int p2, .int p3] (ds_Pre dC dI ca sa [(h_o, .inr (5, [.int o_wide, .int o_high, .int o_hex, .long o_ones, .long o_twos]))] sz)) (va_Ql (fun r (_ : Unit) => r = res) (ds_B dC dI (va_A [(h_o, .inr (5, [.int o_wide, .int o_high, .int o_hex, .long o_ones, .long o_twos]))] sz) [(h_o, .inr (5, [.int o_wide, .int o_high, .int o_hex, .long o_ones, .long o_twos]))]) (va_A [(h_o, .inr (5, [.int o_wide, .int o_high, .int o_hex, .long o_ones, .long o_twos]))] sz)) 0 0 (va_A [(h_o, .inr (5, [.int o_wide, .int o_high, .int o_hex, .long o_ones, .long o_twos]))] sz) := by
  refine Met.ofW (cc := cX6_rolled) (maxL := 5) (ret := (some .long)) (by decide) rfl ?_
  intro p e s m args below meth c s₁ B hml hv
  obtain ⟨rfl, hsz, hP, hK, hD0, hE⟩ := hv
  have hx := B.exec
  have hb := B.bytes
  have hr := B.returns
  have hts := atoms_spec (ws := Cond.code yX6_rolled cX6_rolled 5 (some .long) :: ds_gw) B.pre
  have hg : ∀ {w : Cond}, w ∈ ds_gw → w.before _ s = true := fun h => hts _ (List.mem_cons_of_mem _ h)
  have hown : s.vm.findClass RX6 = some m.cls := findClass_of_methodNamed B.named
  have hlocks := B.notSynchronized
  subst hsz
  have hD := hD0.self (sz := s.heap.size)
  generalize hAe : va_A [(h_o, .inr (5, [.int o_wide, .int o_high, .int o_hex, .long o_ones, .long o_twos]))] s.heap.size = A at hD hE ⊢
  have hA : ∀ q : Nat, s.heap.size ≤ q → A q := fun q h => by rw [← hAe]; exact Or.inr h
  have hS : va_S A s.heap s.heap [] := va_S.rf
  have hl := lv_entry ([.ref h_o, .long p1, .int p2, .int p3]) (n := 5) (Nat.le_of_ble_eq_true rfl)
  rw [lg_entry_eq]
  generalize (lg_sl ([.ref h_o, .long p1, .int p2, .int p3]) ++ List.replicate (5 - (lg_sl ([.ref h_o, .long p1, .int p2, .int p3])).length) Slot.unset).toArray = ls at hl ⊢
  have hl : lv_has ls 5 [(0, .ref h_o), (1, .long p1), (3, .int p2), (4, .int p3)] := hl
  obtain ⟨G0, eG0⟩ : ∃ G : Int64 → Prop, G = (fun r => r = res) := ⟨_, rfl⟩
  obtain ⟨rr, hrr⟩ : ∃ z, z = res := ⟨_, rfl⟩
  rw [← hrr] at hf
  have hG : G0 rr := by rw [eG0]; exact hrr
  unfold fX6_rolled at hf
  refine lv_aload_n hx hb dX6_rolled_0 rfl (lv_at hl 0 rfl) ?_
  refine lv_aload_n hx hb dX6_rolled_1 rfl (lv_at hl 0 rfl) ?_
  refine lv_lload_n hx hb dX6_rolled_2 rfl (lv_at hl 1 rfl) ?_
  refine lv_iload hx hb dX6_rolled_3 (lv_at hl 3 rfl) ?_
  refine lv_aload_n hx hb dX6_rolled_5 rfl (lv_at hl 0 rfl) ?_
  refine va_get (D := (dC, dI)) (ci := 5) (v := .int o_high) (C := RX6) (T := TX6) (N := 5) hx hb hts (fun w h => List.mem_cons_of_mem _ (kc_X6 w h)) hown hK hP 0 rfl rfl 1 (by decide) (hg kw_6) (fun _ h9 => h9) rfl dX6_rolled_6 ?_
  obtain ⟨q9, hq9, hf⟩ := ds_ob hf
  refine ds_calli (wr := [(h_o, .inr (5, [.int o_wide, .int o_high, .int o_hex, .long o_ones, .long o_twos]))]) (va_runSN (As := [.int p3, .int o_high]) (rest := [.long p1, .ref h_o, .ref h_o]) ⟨hx, hb, hml, hown, hts⟩ (c_X7_rest l dC dI ca sa  s.heap.size  p3 o_high q9 hq9) ⟨va_cnB 2 hts (ds_gN kw_22) rfl rfl rfl (hE.1 _ kw_21) (hg kw_23) (by decide +kernel) ⟨Nat.le_of_ble_eq_true rfl, Nat.le_of_ble_eq_true rfl⟩, hg kw_24, trivial⟩ ⟨ds_blind, ds_at hP hD hK hE hS hA [] rfl rfl _⟩ rfl rfl hl.1 rfl (lv_room (Nat.le_of_ble_eq_true rfl)) dX6_rolled_9 ⟨Nat.zero_le _, Nat.zero_le _⟩) hP hD hS hA [] [0] rfl rfl rfl (by decide) (fun H locs hP hD hS => ?_)
  have hP : va_P (dC, dI) vwCl [(h_o, .inr (5, [.int o_wide, .int o_high, .int o_hex, .long o_ones, .long o_twos]))] H := hP
  have hD : va_D A [(h_o, .inr (5, [.int o_wide, .int o_high, .int o_hex, .long o_ones, .long o_twos]))] := hD
  obtain ⟨q12, hq12, hf⟩ := ds_ob hf
  refine ds_calll (wr := []) (va_runV (As := [.long p1, .int q9]) (rest := [.ref h_o]) ⟨hx, hb, hml, hown, hts⟩ (c_X6_rolledDown l dC dI ca sa h_o H.size o_wide o_high o_hex o_ones o_twos p1 q9 q12 hq12) (cwV 2 hts (ds_gV kw_25 kw_26 kw_27 kw_19 kw_28) rfl rfl rfl (by decide +kernel) ⟨Nat.le_of_ble_eq_true rfl, Nat.le_of_ble_eq_true rfl⟩) ⟨ds_blind, va_recv hK hP (ci := 5) (q0 := 0) rfl rfl, ds_at hP hD hK hE hS hA [0] rfl rfl _⟩ rfl rfl hl.1 rfl (lv_room (Nat.le_of_ble_eq_true rfl)) dX6_rolled_12 ⟨Nat.zero_le _, Nat.zero_le _⟩) hP hD hS hA [0] [] rfl rfl rfl (by decide) (fun H locs hP hD hS => ?_)
  have hP : va_P (dC, dI) vwCl [(h_o, .inr (5, [.int o_wide, .int o_high, .int o_hex, .long o_ones, .long o_twos]))] H := hP
  have hD : va_D A [(h_o, .inr (5, [.int o_wide, .int o_high, .int o_hex, .long o_ones, .long o_twos]))] := hD
  refine lv_iload_n hx hb dX6_rolled_15 rfl (lv_at hl 2 rfl) ?_
  refine lv_aload_n hx hb dX6_rolled_16 rfl (lv_at hl 0 rfl) ?_
  refine va_get (D := (dC, dI)) (ci := 5) (v := .int o_wide) (C := RX6) (T := TX6) (N := 5) hx hb hts (fun w h => List.mem_cons_of_mem _ (kc_X6 w h)) hown hK hP 0 rfl rfl 0 (by decide) (hg kw_0) (fun _ h9 => h9) rfl dX6_rolled_17 ?_
  obtain ⟨q20, hq20, hf⟩ := ds_ob hf
  refine ds_calli (wr := [(h_o, .inr (5, [.int o_wide, .int o_high, .int o_hex, .long o_ones, .long o_twos]))]) (va_runSN (As := [.int p2, .int o_wide]) (rest := [.long q12, .ref h_o]) ⟨hx, hb, hml, hown, hts⟩ (c_X7_rest l dC dI ca sa  H.size  p2 o_wide q20 hq20) ⟨va_cnB 2 hts (ds_gN kw_22) rfl rfl rfl (hE.1 _ kw_21) (hg kw_23) (by decide +kernel) ⟨Nat.le_of_ble_eq_true rfl, Nat.le_of_ble_eq_true rfl⟩, hg kw_24, trivial⟩ ⟨ds_blind, ds_at hP hD hK hE hS hA [] rfl rfl _⟩ rfl rfl hl.1 rfl (lv_room (Nat.le_of_ble_eq_true rfl)) dX6_rolled_20 ⟨Nat.zero_le _, Nat.zero_le _⟩) hP hD hS hA [] [0] rfl rfl rfl (by decide) (fun H locs hP hD hS => ?_)
  have hP : va_P (dC, dI) vwCl [(h_o, .inr (5, [.int o_wide, .int o_high, .int o_hex, .long o_ones, .long o_twos]))] H := hP
  have hD : va_D A [(h_o, .inr (5, [.int o_wide, .int o_high, .int o_hex, .long o_ones, .long o_twos]))] := hD
  obtain ⟨q23, hq23, hf⟩ := ds_ob hf
  refine ds_calll (wr := []) (va_runV (As := [.long q12, .int q20]) (rest := []) ⟨hx, hb, hml, hown, hts⟩ (c_X6_rolledAlong l dC dI ca sa h_o H.size o_wide o_high o_hex o_ones o_twos q12 q20 q23 hq23) (cwV 2 hts (ds_gV kw_29 kw_30 kw_31 kw_19 kw_32) rfl rfl rfl (by decide +kernel) ⟨Nat.le_of_ble_eq_true rfl, Nat.le_of_ble_eq_true rfl⟩) ⟨ds_blind, va_recv hK hP (ci := 5) (q0 := 0) rfl rfl, ds_at hP hD hK hE hS hA [0] rfl rfl _⟩ rfl rfl hl.1 rfl (lv_room (Nat.le_of_ble_eq_true rfl)) dX6_rolled_23 ⟨Nat.zero_le _, Nat.zero_le _⟩) hP hD hS hA [0] [] rfl rfl rfl (by decide) (fun H locs hP hD hS => ?_)
  have hP : va_P (dC, dI) vwCl [(h_o, .inr (5, [.int o_wide, .int o_high, .int o_hex, .long o_ones, .long o_twos]))] H := hP
  have hD : va_D A [(h_o, .inr (5, [.int o_wide, .int o_high, .int o_hex, .long o_ones, .long o_twos]))] := hD
  have hf := Option.some.inj hf
  subst hf
  rw [eG0] at hG
  have hG : _ = res := hG
  subst hG
  exact W.lret (v := q23) hx hb hr (fun t ht hW => ⟨⟨q23, (), rfl, rfl, by rw [ht]; exact hP, hD⟩, hS.F ht⟩) hS.2.2 dX6_rolled_26
theorem dX6_comesAgainBy_0 : decode cX6_comesAgainBy 0 = .ok (.aload_n 0, 1) := by decide +kernel
theorem dX6_comesAgainBy_1 : decode cX6_comesAgainBy 1 = .ok (.aload_n 0, 1) := by decide +kernel
theorem dX6_comesAgainBy_2 : decode cX6_comesAgainBy 2 = .ok (.getfield 22, 3) := by decide +kernel
theorem dX6_comesAgainBy_5 : decode cX6_comesAgainBy 5 = .ok (.iload_n 1, 1) := by decide +kernel
theorem dX6_comesAgainBy_6 : decode cX6_comesAgainBy 6 = .ok (.iload_n 2, 1) := by decide +kernel
theorem dX6_comesAgainBy_7 : decode cX6_comesAgainBy 7 = .ok (.invokevirtual 69, 3) := by decide +kernel
theorem dX6_comesAgainBy_10 : decode cX6_comesAgainBy 10 = .ok (.aload_n 0, 1) := by decide +kernel
theorem dX6_comesAgainBy_11 : decode cX6_comesAgainBy 11 = .ok (.getfield 22, 3) := by decide +kernel
theorem dX6_comesAgainBy_14 : decode cX6_comesAgainBy 14 = .ok (.lcmp, 1) := by decide +kernel
theorem dX6_comesAgainBy_15 : decode cX6_comesAgainBy 15 = .ok (.ifCond .ne 25, 3) := by decide +kernel
theorem dX6_comesAgainBy_18 : decode cX6_comesAgainBy 18 = .ok (.aload_n 0, 1) := by decide +kernel
theorem dX6_comesAgainBy_19 : decode cX6_comesAgainBy 19 = .ok (.aload_n 0, 1) := by decide +kernel
theorem dX6_comesAgainBy_20 : decode cX6_comesAgainBy 20 = .ok (.getfield 26, 3) := by decide +kernel
theorem dX6_comesAgainBy_23 : decode cX6_comesAgainBy 23 = .ok (.iload_n 1, 1) := by decide +kernel
theorem dX6_comesAgainBy_24 : decode cX6_comesAgainBy 24 = .ok (.iload_n 2, 1) := by decide +kernel
theorem dX6_comesAgainBy_25 : decode cX6_comesAgainBy 25 = .ok (.invokevirtual 69, 3) := by decide +kernel
theorem dX6_comesAgainBy_28 : decode cX6_comesAgainBy 28 = .ok (.aload_n 0, 1) := by decide +kernel
theorem dX6_comesAgainBy_29 : decode cX6_comesAgainBy 29 = .ok (.getfield 26, 3) := by decide +kernel
theorem dX6_comesAgainBy_32 : decode cX6_comesAgainBy 32 = .ok (.lcmp, 1) := by decide +kernel
theorem dX6_comesAgainBy_33 : decode cX6_comesAgainBy 33 = .ok (.ifCond .ne 7, 3) := by decide +kernel
theorem dX6_comesAgainBy_36 : decode cX6_comesAgainBy 36 = .ok (.iconst 1, 1) := by decide +kernel
theorem dX6_comesAgainBy_37 : decode cX6_comesAgainBy 37 = .ok (.goto 4, 3) := by decide +kernel
theorem dX6_comesAgainBy_40 : decode cX6_comesAgainBy 40 = .ok (.iconst 0, 1) := by decide +kernel
theorem dX6_comesAgainBy_41 : decode cX6_comesAgainBy 41 = .ok (.ireturn, 1) := by decide +kernel
theorem kw_33 : Cond.methodLink RX6 69 yX6_rolled ∈ ds_gw := ds_g (ds_t2 200 (by decide +kernel)) rfl
theorem kw_34 : Cond.instanceMethod yX6_rolled ∈ ds_gw := ds_g (ds_t2 139 (by decide +kernel)) rfl
theorem kw_35 : Cond.selects RX6 yX6_rolled yX6_rolled ∈ ds_gw := ds_g (ds_t2 140 (by decide +kernel)) rfl
theorem kw_36 : Cond.code yX6_rolled cX6_rolled 5 (some .long) ∈ ds_gw := ds_g (ds_t2 141 (by decide +kernel)) rfl
def fX6_comesAgainBy (o_wide : Int32) (o_high : Int32) (o_ones : Int64) (o_twos : Int64) (p1 : Int32) (p2 : Int32) : Option (Int32) :=
  Option.bind (fX6_rolled o_wide o_high o_ones p1 p2) fun q7 => if (lg_cmp q7 o_ones) = 0 then Option.bind (fX6_rolled o_wide o_high o_twos p1 p2) fun q25 => if (lg_cmp q25 o_twos) = 0 then some (1 : Int32) else some (0 : Int32) else some (0 : Int32)
set_option maxHeartbeats 4000000 in
set_option maxRecDepth 100000 in
theorem c_X6_comesAgainBy (l : Launch) (dC : Nat → ClassId) (dI : Nat → Nat → Nat) (ca : Nat → ClassId) (sa : Nat → Nat) (h_o : Nat) (sz : Nat) (o_wide : Int32) (o_high : Int32) (o_hex : Int32) (o_ones : Int64) (o_twos : Int64) (p1 : Int32) (p2 : Int32) (res : Int32) (hf : fX6_comesAgainBy o_wide o_high o_ones o_twos p1 p2 = some res) : Met l yX6_comesAgainBy (Cond.code yX6_comesAgainBy cX6_comesAgainBy 3 (some .boolean) :: ds_gw) { frames := 3, cells := 0, slots := 0, locals := 73 } (va_Pc [.ref h_o, .int p1, .int p2] (ds_Pre dC dI ca sa [(h_o, .inr (5, [.int o_wide, .int o_high, .int o_hex, .long o_ones, .long o_twos]))] sz)) (va_Qi (fun r (_ : Unit) => r = res) (ds_B dC dI (va_A [(h_o, .inr (5, [.int o_wide, .int o_high, .int o_hex, .long o_ones, .long o_twos]))] sz) [(h_o, .inr (5, [.int o_wide, .int o_high, .int o_hex, .long o_ones, .long o_twos]))]) (va_A [(h_o, .inr (5, [.int o_wide, .int o_high, .int o_hex, .long o_ones, .long o_twos]))] sz)) 0 0 (va_A [(h_o, .inr (5, [.int o_wide, .int o_high, .int o_hex, .long o_ones, .long o_twos]))] sz) := by
  refine Met.ofW (cc := cX6_comesAgainBy) (maxL := 3) (ret := (some .boolean)) (by decide) rfl ?_
  intro p e s m args below meth c s₁ B hml hv
  obtain ⟨rfl, hsz, hP, hK, hD0, hE⟩ := hv
  have hx := B.exec
  have hb := B.bytes
  have hr := B.returns
  have hts := atoms_spec (ws := Cond.code yX6_comesAgainBy cX6_comesAgainBy 3 (some .boolean) :: ds_gw) B.pre
  have hg : ∀ {w : Cond}, w ∈ ds_gw → w.before _ s = true := fun h => hts _ (List.mem_cons_of_mem _ h)
  have hown : s.vm.findClass RX6 = some m.cls := findClass_of_methodNamed B.named
  have hlocks := B.notSynchronized
  subst hsz
  have hD := hD0.self (sz := s.heap.size)
  generalize hAe : va_A [(h_o, .inr (5, [.int o_wide, .int o_high, .int o_hex, .long o_ones, .long o_twos]))] s.heap.size = A at hD hE ⊢
  have hA : ∀ q : Nat, s.heap.size ≤ q → A q := fun q h => by rw [← hAe]; exact Or.inr h
  have hS : va_S A s.heap s.heap [] := va_S.rf
  have hl := lv_entry ([.ref h_o, .int p1, .int p2]) (n := 3) (Nat.le_of_ble_eq_true rfl)
  rw [lg_entry_eq]
  generalize (lg_sl ([.ref h_o, .int p1, .int p2]) ++ List.replicate (3 - (lg_sl ([.ref h_o, .int p1, .int p2])).length) Slot.unset).toArray = ls at hl ⊢
  have hl : lv_has ls 3 [(0, .ref h_o), (1, .int p1), (2, .int p2)] := hl
  obtain ⟨G0, eG0⟩ : ∃ G : Int32 → Prop, G = (fun r => r = res) := ⟨_, rfl⟩
  obtain ⟨rr, hrr⟩ : ∃ z, z = res := ⟨_, rfl⟩
  rw [← hrr] at hf
  have hG : G0 rr := by rw [eG0]; exact hrr
  unfold fX6_comesAgainBy at hf
  refine lv_aload_n hx hb dX6_comesAgainBy_0 rfl (lv_at hl 0 rfl) ?_
  refine lv_aload_n hx hb dX6_comesAgainBy_1 rfl (lv_at hl 0 rfl) ?_
  refine va_get (D := (dC, dI)) (ci := 5) (v := .long o_ones) (C := RX6) (T := TX6) (N := 5) hx hb hts (fun w h => List.mem_cons_of_mem _ (kc_X6 w h)) hown hK hP 0 rfl rfl 3 (by decide) (hg kw_12) (fun _ h9 => h9) rfl dX6_comesAgainBy_2 ?_
  refine lv_iload_n hx hb dX6_comesAgainBy_5 rfl (lv_at hl 1 rfl) ?_
  refine lv_iload_n hx hb dX6_comesAgainBy_6 rfl (lv_at hl 2 rfl) ?_
  obtain ⟨q7, hq7, hf⟩ := ds_ob hf
  refine ds_calll (wr := []) (va_runV (As := [.long o_ones, .int p1, .int p2]) (rest := []) ⟨hx, hb, hml, hown, hts⟩ (c_X6_rolled l dC dI ca sa h_o s.heap.size o_wide o_high o_hex o_ones o_twos o_ones p1 p2 q7 hq7) (cwV 3 hts (ds_gV kw_33 kw_34 kw_35 kw_19 kw_36) rfl rfl rfl (by decide +kernel) ⟨Nat.le_of_ble_eq_true rfl, Nat.le_of_ble_eq_true rfl⟩) ⟨ds_blind, va_recv hK hP (ci := 5) (q0 := 0) rfl rfl, ds_at hP hD hK hE hS hA [0] rfl rfl _⟩ rfl rfl hl.1 rfl (lv_room (Nat.le_of_ble_eq_true rfl)) dX6_comesAgainBy_7 ⟨Nat.zero_le _, Nat.zero_le _⟩) hP hD hS hA [0] [] rfl rfl rfl (by decide) (fun H locs hP hD hS => ?_)
  have hP : va_P (dC, dI) vwCl [(h_o, .inr (5, [.int o_wide, .int o_high, .int o_hex, .long o_ones, .long o_twos]))] H := hP
  have hD : va_D A [(h_o, .inr (5, [.int o_wide, .int o_high, .int o_hex, .long o_ones, .long o_twos]))] := hD
  refine lv_aload_n hx hb dX6_comesAgainBy_10 rfl (lv_at hl 0 rfl) ?_
  refine va_get (D := (dC, dI)) (ci := 5) (v := .long o_ones) (C := RX6) (T := TX6) (N := 5) hx hb hts (fun w h => List.mem_cons_of_mem _ (kc_X6 w h)) hown hK hP 0 rfl rfl 3 (by decide) (hg kw_12) (fun _ h9 => h9) rfl dX6_comesAgainBy_11 ?_
  refine W.lcmp hx hb dX6_comesAgainBy_14 ?_
  refine lv_if_ne (tgt := 40) hx hb dX6_comesAgainBy_15 (by decide) (fun c_15 => ?_) (fun c_15 => ?_)
  · replace hf := ds_f c_15 hf
    refine lv_iconst (v := 0) hx hb dX6_comesAgainBy_40 (by decide) ?_
    have hf := Option.some.inj hf
    subst hf
    rw [eG0] at hG
    have hG : _ = res := hG
    subst hG
    exact W.zret (v := (0 : Int32)) (ty := .boolean) hx hb hr rfl (fun t ht hW => ⟨⟨(0 : Int32), (), rfl, rfl, by rw [ht]; exact hP, hD⟩, hS.F ht⟩) hS.2.2 dX6_comesAgainBy_41
  · replace hf := ds_t c_15 hf
    refine lv_aload_n hx hb dX6_comesAgainBy_18 rfl (lv_at hl 0 rfl) ?_
    refine lv_aload_n hx hb dX6_comesAgainBy_19 rfl (lv_at hl 0 rfl) ?_
    refine va_get (D := (dC, dI)) (ci := 5) (v := .long o_twos) (C := RX6) (T := TX6) (N := 5) hx hb hts (fun w h => List.mem_cons_of_mem _ (kc_X6 w h)) hown hK hP 0 rfl rfl 4 (by decide) (hg kw_13) (fun _ h9 => h9) rfl dX6_comesAgainBy_20 ?_
    refine lv_iload_n hx hb dX6_comesAgainBy_23 rfl (lv_at hl 1 rfl) ?_
    refine lv_iload_n hx hb dX6_comesAgainBy_24 rfl (lv_at hl 2 rfl) ?_
    obtain ⟨q25, hq25, hf⟩ := ds_ob hf
    refine ds_calll (wr := []) (va_runV (As := [.long o_twos, .int p1, .int p2]) (rest := []) ⟨hx, hb, hml, hown, hts⟩ (c_X6_rolled l dC dI ca sa h_o H.size o_wide o_high o_hex o_ones o_twos o_twos p1 p2 q25 hq25) (cwV 3 hts (ds_gV kw_33 kw_34 kw_35 kw_19 kw_36) rfl rfl rfl (by decide +kernel) ⟨Nat.le_of_ble_eq_true rfl, Nat.le_of_ble_eq_true rfl⟩) ⟨ds_blind, va_recv hK hP (ci := 5) (q0 := 0) rfl rfl, ds_at hP hD hK hE hS hA [0] rfl rfl _⟩ rfl rfl hl.1 rfl (lv_room (Nat.le_of_ble_eq_true rfl)) dX6_comesAgainBy_25 ⟨Nat.zero_le _, Nat.zero_le _⟩) hP hD hS hA [0] [] rfl rfl rfl (by decide) (fun H locs hP hD hS => ?_)
    have hP : va_P (dC, dI) vwCl [(h_o, .inr (5, [.int o_wide, .int o_high, .int o_hex, .long o_ones, .long o_twos]))] H := hP
    have hD : va_D A [(h_o, .inr (5, [.int o_wide, .int o_high, .int o_hex, .long o_ones, .long o_twos]))] := hD
    refine lv_aload_n hx hb dX6_comesAgainBy_28 rfl (lv_at hl 0 rfl) ?_
    refine va_get (D := (dC, dI)) (ci := 5) (v := .long o_twos) (C := RX6) (T := TX6) (N := 5) hx hb hts (fun w h => List.mem_cons_of_mem _ (kc_X6 w h)) hown hK hP 0 rfl rfl 4 (by decide) (hg kw_13) (fun _ h9 => h9) rfl dX6_comesAgainBy_29 ?_
    refine W.lcmp hx hb dX6_comesAgainBy_32 ?_
    refine lv_if_ne (tgt := 40) hx hb dX6_comesAgainBy_33 (by decide) (fun c_33 => ?_) (fun c_33 => ?_)
    · replace hf := ds_f c_33 hf
      refine lv_iconst (v := 0) hx hb dX6_comesAgainBy_40 (by decide) ?_
      have hf := Option.some.inj hf
      subst hf
      rw [eG0] at hG
      have hG : _ = res := hG
      subst hG
      exact W.zret (v := (0 : Int32)) (ty := .boolean) hx hb hr rfl (fun t ht hW => ⟨⟨(0 : Int32), (), rfl, rfl, by rw [ht]; exact hP, hD⟩, hS.F ht⟩) hS.2.2 dX6_comesAgainBy_41
    · replace hf := ds_t c_33 hf
      refine lv_iconst (v := 1) hx hb dX6_comesAgainBy_36 (by decide) ?_
      refine lv_goto (tgt := 41) hx hb dX6_comesAgainBy_37 (by decide) ?_
      have hf := Option.some.inj hf
      subst hf
      rw [eG0] at hG
      have hG : _ = res := hG
      subst hG
      exact W.zret (v := (1 : Int32)) (ty := .boolean) hx hb hr rfl (fun t ht hW => ⟨⟨(1 : Int32), (), rfl, rfl, by rw [ht]; exact hP, hD⟩, hS.F ht⟩) hS.2.2 dX6_comesAgainBy_41
theorem dX6_leastStepAlongX_0 : decode cX6_leastStepAlongX 0 = .ok (.iconst 1, 1) := by decide +kernel
theorem dX6_leastStepAlongX_1 : decode cX6_leastStepAlongX 1 = .ok (.istore_n 1, 1) := by decide +kernel
theorem dX6_leastStepAlongX_2 : decode cX6_leastStepAlongX 2 = .ok (.iload_n 1, 1) := by decide +kernel
theorem dX6_leastStepAlongX_3 : decode cX6_leastStepAlongX 3 = .ok (.aload_n 0, 1) := by decide +kernel
theorem dX6_leastStepAlongX_4 : decode cX6_leastStepAlongX 4 = .ok (.getfield 9, 3) := by decide +kernel
theorem dX6_leastStepAlongX_7 : decode cX6_leastStepAlongX 7 = .ok (.if_icmp .ge 18, 3) := by decide +kernel
theorem dX6_leastStepAlongX_10 : decode cX6_leastStepAlongX 10 = .ok (.aload_n 0, 1) := by decide +kernel
theorem dX6_leastStepAlongX_11 : decode cX6_leastStepAlongX 11 = .ok (.iload_n 1, 1) := by decide +kernel
theorem dX6_leastStepAlongX_12 : decode cX6_leastStepAlongX 12 = .ok (.iconst 0, 1) := by decide +kernel
theorem dX6_leastStepAlongX_13 : decode cX6_leastStepAlongX 13 = .ok (.invokevirtual 73, 3) := by decide +kernel
theorem dX6_leastStepAlongX_16 : decode cX6_leastStepAlongX 16 = .ok (.ifCond .ne 9, 3) := by decide +kernel
theorem dX6_leastStepAlongX_19 : decode cX6_leastStepAlongX 19 = .ok (.iinc 1 1, 3) := by decide +kernel
theorem dX6_leastStepAlongX_22 : decode cX6_leastStepAlongX 22 = .ok (.goto (-20), 3) := by decide +kernel
theorem dX6_leastStepAlongX_25 : decode cX6_leastStepAlongX 25 = .ok (.iload_n 1, 1) := by decide +kernel
theorem dX6_leastStepAlongX_26 : decode cX6_leastStepAlongX 26 = .ok (.ireturn, 1) := by decide +kernel
theorem kw_37 : Cond.methodLink RX6 73 yX6_comesAgainBy ∈ ds_gw := ds_g (ds_t2 196 (by decide +kernel)) rfl
theorem kw_38 : Cond.instanceMethod yX6_comesAgainBy ∈ ds_gw := ds_g (ds_t2 197 (by decide +kernel)) rfl
theorem kw_39 : Cond.selects RX6 yX6_comesAgainBy yX6_comesAgainBy ∈ ds_gw := ds_g (ds_t2 198 (by decide +kernel)) rfl
theorem kw_40 : Cond.code yX6_comesAgainBy cX6_comesAgainBy 3 (some .boolean) ∈ ds_gw := ds_g (ds_t2 199 (by decide +kernel)) rfl
def fX6_leastStepAlongX_2_b (o_wide : Int32) (o_high : Int32) (o_ones : Int64) (o_twos : Int64) (v1 : Int32) : Option ((Int32) ⊕ (Int32)) :=
  if o_wide ≤ v1 then some (.inr v1) else Option.bind (fX6_comesAgainBy o_wide o_high o_ones o_twos v1 (0 : Int32)) fun q13 => if q13 = 0 then some (.inl (v1 + 1)) else some (.inr v1)
def fX6_leastStepAlongX_2 (o_wide : Int32) (o_high : Int32) (o_ones : Int64) (o_twos : Int64) (v1 : Int32) : Option (Int32) := ds_it (fun s => fX6_leastStepAlongX_2_b o_wide o_high o_ones o_twos s) 1000 v1
def fX6_leastStepAlongX (o_wide : Int32) (o_high : Int32) (o_ones : Int64) (o_twos : Int64) : Option (Int32) :=
  fX6_leastStepAlongX_2 o_wide o_high o_ones o_twos (1 : Int32)
set_option maxHeartbeats 4000000 in
set_option maxRecDepth 100000 in
theorem c_X6_leastStepAlongX (l : Launch) (dC : Nat → ClassId) (dI : Nat → Nat → Nat) (ca : Nat → ClassId) (sa : Nat → Nat) (h_o : Nat) (sz : Nat) (o_wide : Int32) (o_high : Int32) (o_hex : Int32) (o_ones : Int64) (o_twos : Int64) (res : Int32) (hf : fX6_leastStepAlongX o_wide o_high o_ones o_twos = some res) : Met l yX6_leastStepAlongX (Cond.code yX6_leastStepAlongX cX6_leastStepAlongX 2 (some .int) :: ds_gw) { frames := 4, cells := 0, slots := 0, locals := 95 } (va_Pc [.ref h_o] (ds_Pre dC dI ca sa [(h_o, .inr (5, [.int o_wide, .int o_high, .int o_hex, .long o_ones, .long o_twos]))] sz)) (va_Qi (fun r (_ : Unit) => r = res) (ds_B dC dI (va_A [(h_o, .inr (5, [.int o_wide, .int o_high, .int o_hex, .long o_ones, .long o_twos]))] sz) [(h_o, .inr (5, [.int o_wide, .int o_high, .int o_hex, .long o_ones, .long o_twos]))]) (va_A [(h_o, .inr (5, [.int o_wide, .int o_high, .int o_hex, .long o_ones, .long o_twos]))] sz)) 0 0 (va_A [(h_o, .inr (5, [.int o_wide, .int o_high, .int o_hex, .long o_ones, .long o_twos]))] sz) := by
  refine Met.ofW (cc := cX6_leastStepAlongX) (maxL := 2) (ret := (some .int)) (by decide) rfl ?_
  intro p e s m args below meth c s₁ B hml hv
  obtain ⟨rfl, hsz, hP, hK, hD0, hE⟩ := hv
  have hx := B.exec
  have hb := B.bytes
  have hr := B.returns
  have hts := atoms_spec (ws := Cond.code yX6_leastStepAlongX cX6_leastStepAlongX 2 (some .int) :: ds_gw) B.pre
  have hg : ∀ {w : Cond}, w ∈ ds_gw → w.before _ s = true := fun h => hts _ (List.mem_cons_of_mem _ h)
  have hown : s.vm.findClass RX6 = some m.cls := findClass_of_methodNamed B.named
  have hlocks := B.notSynchronized
  subst hsz
  have hD := hD0.self (sz := s.heap.size)
  generalize hAe : va_A [(h_o, .inr (5, [.int o_wide, .int o_high, .int o_hex, .long o_ones, .long o_twos]))] s.heap.size = A at hD hE ⊢
  have hA : ∀ q : Nat, s.heap.size ≤ q → A q := fun q h => by rw [← hAe]; exact Or.inr h
  have hS : va_S A s.heap s.heap [] := va_S.rf
  have hl := lv_entry ([.ref h_o]) (n := 2) (Nat.le_of_ble_eq_true rfl)
  rw [lg_entry_eq]
  generalize (lg_sl ([.ref h_o]) ++ List.replicate (2 - (lg_sl ([.ref h_o])).length) Slot.unset).toArray = ls at hl ⊢
  have hl : lv_has ls 2 [(0, .ref h_o)] := hl
  obtain ⟨G0, eG0⟩ : ∃ G : Int32 → Prop, G = (fun r => r = res) := ⟨_, rfl⟩
  obtain ⟨rr, hrr⟩ : ∃ z, z = res := ⟨_, rfl⟩
  rw [← hrr] at hf
  have hG : G0 rr := by rw [eG0]; exact hrr
  refine ds_cap (fun WW h1 h2 => ?_)
  have J_2 : ∀ (n : Nat) (v1 : Int32) (rr : Int32) (hf : ds_it (fun s => fX6_leastStepAlongX_2_b o_wide o_high o_ones o_twos s) n v1 = some rr) (hG : G0 rr) (H : Heap) (locs : List Loc) (hP : va_P (dC, dI) vwCl [(h_o, .inr (5, [.int o_wide, .int o_high, .int o_hex, .long o_ones, .long o_twos]))] H) (hD : va_D A [(h_o, .inr (5, [.int o_wide, .int o_high, .int o_hex, .long o_ones, .long o_twos]))]) (hS : va_S A s.heap H locs) (ls : Array Slot) (hl : lv_has ls 2 [(0, .ref h_o), (1, .int v1)]), WW H locs (F0 m 2 ls []) := by
    intro  n
    induction n with
    | zero => intro v1 rr hf; exact (ds_it_zero hf).elim
    | succ n ih2 =>
      intro v1 rr hf hG H locs hP hD hS ls hl
      refine h2 ?_
      obtain ⟨rr, hf, hG⟩ := ds_it_succ hf hG
      replace hf : fX6_leastStepAlongX_2_b o_wide o_high o_ones o_twos v1 = some rr := hf
      obtain ⟨G1, eG1⟩ : ∃ G : ((Int32) ⊕ (Int32)) → Prop, G = ds_G (fun s' => ∃ r', ds_it (fun s => fX6_leastStepAlongX_2_b o_wide o_high o_ones o_twos s) n s' = some r' ∧ G0 r') G0 := ⟨_, rfl⟩
      rw [← eG1] at hG
      unfold fX6_leastStepAlongX_2_b at hf
      refine lv_iload_n hx hb dX6_leastStepAlongX_2 rfl (lv_at hl 1 rfl) ?_
      refine lv_aload_n hx hb dX6_leastStepAlongX_3 rfl (lv_at hl 0 rfl) ?_
      refine va_get (D := (dC, dI)) (ci := 5) (v := .int o_wide) (C := RX6) (T := TX6) (N := 5) hx hb hts (fun w h => List.mem_cons_of_mem _ (kc_X6 w h)) hown hK hP 0 rfl rfl 0 (by decide) (hg kw_0) (fun _ h9 => h9) rfl dX6_leastStepAlongX_4 ?_
      refine lv_icmp_ge (tgt := 25) hx hb dX6_leastStepAlongX_7 (by decide) (fun c_7 => ?_) (fun c_7 => ?_)
      · replace hf := ds_t c_7 hf
        refine lv_iload_n hx hb dX6_leastStepAlongX_25 rfl (lv_at hl 1 rfl) ?_
        have hf := Option.some.inj hf
        subst hf
        rw [eG1] at hG
        replace hG : G0 _ := hG
        rw [eG0] at hG
        have hG : _ = res := hG
        subst hG
        exact W.iret (v := v1) hx hb hr (fun t ht hW => ⟨⟨v1, (), rfl, rfl, by rw [ht]; exact hP, hD⟩, hS.F ht⟩) hS.2.2 dX6_leastStepAlongX_26
      · replace hf := ds_f c_7 hf
        refine lv_aload_n hx hb dX6_leastStepAlongX_10 rfl (lv_at hl 0 rfl) ?_
        refine lv_iload_n hx hb dX6_leastStepAlongX_11 rfl (lv_at hl 1 rfl) ?_
        refine lv_iconst (v := 0) hx hb dX6_leastStepAlongX_12 (by decide) ?_
        obtain ⟨q13, hq13, hf⟩ := ds_ob hf
        refine ds_calli (wr := []) (va_runV (As := [.int v1, .int (0 : Int32)]) (rest := []) ⟨hx, hb, hml, hown, hts⟩ (c_X6_comesAgainBy l dC dI ca sa h_o H.size o_wide o_high o_hex o_ones o_twos v1 (0 : Int32) q13 hq13) (cwV 2 hts (ds_gV kw_37 kw_38 kw_39 kw_19 kw_40) rfl rfl rfl (by decide +kernel) ⟨Nat.le_of_ble_eq_true rfl, Nat.le_of_ble_eq_true rfl⟩) ⟨ds_blind, va_recv hK hP (ci := 5) (q0 := 0) rfl rfl, ds_at hP hD hK hE hS hA [0] rfl rfl _⟩ rfl rfl hl.1 rfl (lv_room (Nat.le_of_ble_eq_true rfl)) dX6_leastStepAlongX_13 ⟨Nat.zero_le _, Nat.zero_le _⟩) hP hD hS hA [0] [] rfl rfl rfl (by decide) (fun H locs hP hD hS => ?_)
        have hP : va_P (dC, dI) vwCl [(h_o, .inr (5, [.int o_wide, .int o_high, .int o_hex, .long o_ones, .long o_twos]))] H := hP
        have hD : va_D A [(h_o, .inr (5, [.int o_wide, .int o_high, .int o_hex, .long o_ones, .long o_twos]))] := hD
        refine lv_if_ne (tgt := 25) hx hb dX6_leastStepAlongX_16 (by decide) (fun c_16 => ?_) (fun c_16 => ?_)
        · replace hf := ds_f c_16 hf
          refine lv_iload_n hx hb dX6_leastStepAlongX_25 rfl (lv_at hl 1 rfl) ?_
          have hf := Option.some.inj hf
          subst hf
          rw [eG1] at hG
          replace hG : G0 _ := hG
          rw [eG0] at hG
          have hG : _ = res := hG
          subst hG
          exact W.iret (v := v1) hx hb hr (fun t ht hW => ⟨⟨v1, (), rfl, rfl, by rw [ht]; exact hP, hD⟩, hS.F ht⟩) hS.2.2 dX6_leastStepAlongX_26
        · replace hf := ds_t c_16 hf
          refine lv_iinc (v := (v1 + 1)) (lv' := [(1, .int (v1 + 1)), (0, .ref h_o)]) hx hb dX6_leastStepAlongX_19 hl (k := 1) rfl rfl (by decide) rfl (fun ls hl => ?_)
          refine lv_goto (tgt := 2) hx hb dX6_leastStepAlongX_22 (by decide) ?_
          have hf := Option.some.inj hf
          subst hf
          rw [eG1] at hG
          obtain ⟨rr, hf, hG⟩ := hG
          exact h1 (ih2 (v1 + 1) rr hf hG _ _ hP hD hS _ (lv_sub hl [1, 0] rfl))
  unfold fX6_leastStepAlongX at hf
  refine lv_iconst (v := 1) hx hb dX6_leastStepAlongX_0 (by decide) ?_
  refine lv_istore_n (lv' := [(1, .int (1 : Int32)), (0, .ref h_o)]) hx hb dX6_leastStepAlongX_1 rfl hl (by decide) rfl (fun ls hl => ?_)
  exact h1 (J_2  1000 (1 : Int32) _ hf hG _ _ hP hD hS _ (lv_sub hl [1, 0] rfl))
theorem dX6_bit_0 : decode cX6_bit 0 = .ok (.lconst 1, 1) := by decide +kernel
theorem dX6_bit_1 : decode cX6_bit 1 = .ok (.bipush 8, 2) := by decide +kernel
theorem dX6_bit_3 : decode cX6_bit 3 = .ok (.iload_n 1, 1) := by decide +kernel
theorem dX6_bit_4 : decode cX6_bit 4 = .ok (.imul, 1) := by decide +kernel
theorem dX6_bit_5 : decode cX6_bit 5 = .ok (.iload_n 0, 1) := by decide +kernel
theorem dX6_bit_6 : decode cX6_bit 6 = .ok (.iadd, 1) := by decide +kernel
theorem dX6_bit_7 : decode cX6_bit 7 = .ok (.lshl, 1) := by decide +kernel
theorem dX6_bit_8 : decode cX6_bit 8 = .ok (.lreturn, 1) := by decide +kernel
def fX6_bit (p1 : Int32) (p2 : Int32) : Option (Int64) :=
  some (ds_lshl (1 : Int64) (((8 : Int32) * p2) + p1))
set_option maxHeartbeats 4000000 in
set_option maxRecDepth 100000 in
theorem c_X6_bit (l : Launch) (dC : Nat → ClassId) (dI : Nat → Nat → Nat) (ca : Nat → ClassId) (sa : Nat → Nat) (sz : Nat) (p1 : Int32) (p2 : Int32) (res : Int64) (hf : fX6_bit p1 p2 = some res) : Met l yX6_bit (Cond.code yX6_bit cX6_bit 2 (some .long) :: ds_gw) { frames := 0, cells := 0, slots := 0, locals := 0 } (va_Pc [.int p1, .int p2] (ds_Pre dC dI ca sa [] sz)) (va_Ql (fun r (_ : Unit) => r = res) (ds_B dC dI (va_A [] sz) []) (va_A [] sz)) 0 0 (va_A [] sz) := by
  refine Met.ofW (cc := cX6_bit) (maxL := 2) (ret := (some .long)) (by decide) rfl ?_
  intro p e s m args below meth c s₁ B hml hv
  obtain ⟨rfl, hsz, hP, hK, hD0, hE⟩ := hv
  have hx := B.exec
  have hb := B.bytes
  have hr := B.returns
  have hts := atoms_spec (ws := Cond.code yX6_bit cX6_bit 2 (some .long) :: ds_gw) B.pre
  have hg : ∀ {w : Cond}, w ∈ ds_gw → w.before _ s = true := fun h => hts _ (List.mem_cons_of_mem _ h)
  have hown : s.vm.findClass RX6 = some m.cls := findClass_of_methodNamed B.named
  have hlocks := B.notSynchronized
  subst hsz
  have hD := hD0.self (sz := s.heap.size)
  generalize hAe : va_A [] s.heap.size = A at hD hE ⊢
  have hA : ∀ q : Nat, s.heap.size ≤ q → A q := fun q h => by rw [← hAe]; exact Or.inr h
  have hS : va_S A s.heap s.heap [] := va_S.rf
  have hl := lv_entry ([.int p1, .int p2]) (n := 2) (Nat.le_of_ble_eq_true rfl)
  rw [lg_entry_eq]
  generalize (lg_sl ([.int p1, .int p2]) ++ List.replicate (2 - (lg_sl ([.int p1, .int p2])).length) Slot.unset).toArray = ls at hl ⊢
  have hl : lv_has ls 2 [(0, .int p1), (1, .int p2)] := hl
  obtain ⟨G0, eG0⟩ : ∃ G : Int64 → Prop, G = (fun r => r = res) := ⟨_, rfl⟩
  obtain ⟨rr, hrr⟩ : ∃ z, z = res := ⟨_, rfl⟩
  rw [← hrr] at hf
  have hG : G0 rr := by rw [eG0]; exact hrr
  unfold fX6_bit at hf
  refine lv_lconst (v := 1) hx hb dX6_bit_0 (by decide) ?_
  refine lv_bipush (v := 8) hx hb dX6_bit_1 (by decide) ?_
  refine lv_iload_n hx hb dX6_bit_3 rfl (lv_at hl 1 rfl) ?_
  refine lv_imul hx hb dX6_bit_4 ?_
  refine lv_iload_n hx hb dX6_bit_5 rfl (lv_at hl 0 rfl) ?_
  refine lv_iadd hx hb dX6_bit_6 ?_
  refine lv_lshl (v := (ds_lshl (1 : Int64) (((8 : Int32) * p2) + p1))) hx hb dX6_bit_7 rfl ?_
  have hf := Option.some.inj hf
  subst hf
  rw [eG0] at hG
  have hG : _ = res := hG
  subst hG
  exact W.lret (v := (ds_lshl (1 : Int64) (((8 : Int32) * p2) + p1))) hx hb hr (fun t ht hW => ⟨⟨(ds_lshl (1 : Int64) (((8 : Int32) * p2) + p1)), (), rfl, rfl, by rw [ht]; exact hP, hD⟩, hS.F ht⟩) hS.2.2 dX6_bit_8
theorem dX6_stepsFrom_0 : decode cX6_stepsFrom 0 = .ok (.lconst 0, 1) := by decide +kernel
theorem dX6_stepsFrom_1 : decode cX6_stepsFrom 1 = .ok (.lstore_n 2, 1) := by decide +kernel
theorem dX6_stepsFrom_2 : decode cX6_stepsFrom 2 = .ok (.iconst 0, 1) := by decide +kernel
theorem dX6_stepsFrom_3 : decode cX6_stepsFrom 3 = .ok (.istore 4, 2) := by decide +kernel
theorem dX6_stepsFrom_5 : decode cX6_stepsFrom 5 = .ok (.iload 4, 2) := by decide +kernel
theorem dX6_stepsFrom_7 : decode cX6_stepsFrom 7 = .ok (.aload_n 0, 1) := by decide +kernel
theorem dX6_stepsFrom_8 : decode cX6_stepsFrom 8 = .ok (.getfield 15, 3) := by decide +kernel
theorem dX6_stepsFrom_11 : decode cX6_stepsFrom 11 = .ok (.if_icmp .ge 93, 3) := by decide +kernel
theorem dX6_stepsFrom_14 : decode cX6_stepsFrom 14 = .ok (.aload_n 0, 1) := by decide +kernel
theorem dX6_stepsFrom_15 : decode cX6_stepsFrom 15 = .ok (.aload_n 1, 1) := by decide +kernel
theorem dX6_stepsFrom_16 : decode cX6_stepsFrom 16 = .ok (.getfield 22, 3) := by decide +kernel
theorem dX6_stepsFrom_19 : decode cX6_stepsFrom 19 = .ok (.iload 4, 2) := by decide +kernel
theorem dX6_stepsFrom_21 : decode cX6_stepsFrom 21 = .ok (.invokevirtual 62, 3) := by decide +kernel
theorem dX6_stepsFrom_24 : decode cX6_stepsFrom 24 = .ok (.lstore 5, 2) := by decide +kernel
theorem dX6_stepsFrom_26 : decode cX6_stepsFrom 26 = .ok (.aload_n 0, 1) := by decide +kernel
theorem dX6_stepsFrom_27 : decode cX6_stepsFrom 27 = .ok (.aload_n 1, 1) := by decide +kernel
theorem dX6_stepsFrom_28 : decode cX6_stepsFrom 28 = .ok (.getfield 26, 3) := by decide +kernel
theorem dX6_stepsFrom_31 : decode cX6_stepsFrom 31 = .ok (.iload 4, 2) := by decide +kernel
theorem dX6_stepsFrom_33 : decode cX6_stepsFrom 33 = .ok (.invokevirtual 62, 3) := by decide +kernel
theorem dX6_stepsFrom_36 : decode cX6_stepsFrom 36 = .ok (.lstore 7, 2) := by decide +kernel
theorem dX6_stepsFrom_38 : decode cX6_stepsFrom 38 = .ok (.iconst 0, 1) := by decide +kernel
theorem dX6_stepsFrom_39 : decode cX6_stepsFrom 39 = .ok (.istore 9, 2) := by decide +kernel
theorem dX6_stepsFrom_41 : decode cX6_stepsFrom 41 = .ok (.iload 9, 2) := by decide +kernel
theorem dX6_stepsFrom_43 : decode cX6_stepsFrom 43 = .ok (.aload_n 0, 1) := by decide +kernel
theorem dX6_stepsFrom_44 : decode cX6_stepsFrom 44 = .ok (.getfield 9, 3) := by decide +kernel
theorem dX6_stepsFrom_47 : decode cX6_stepsFrom 47 = .ok (.if_icmp .ge 51, 3) := by decide +kernel
theorem dX6_stepsFrom_50 : decode cX6_stepsFrom 50 = .ok (.aload_n 0, 1) := by decide +kernel
theorem dX6_stepsFrom_51 : decode cX6_stepsFrom 51 = .ok (.lload 5, 2) := by decide +kernel
theorem dX6_stepsFrom_53 : decode cX6_stepsFrom 53 = .ok (.iload 9, 2) := by decide +kernel
theorem dX6_stepsFrom_55 : decode cX6_stepsFrom 55 = .ok (.invokevirtual 66, 3) := by decide +kernel
theorem dX6_stepsFrom_58 : decode cX6_stepsFrom 58 = .ok (.aload_n 0, 1) := by decide +kernel
theorem dX6_stepsFrom_59 : decode cX6_stepsFrom 59 = .ok (.getfield 22, 3) := by decide +kernel
theorem dX6_stepsFrom_62 : decode cX6_stepsFrom 62 = .ok (.lcmp, 1) := by decide +kernel
theorem dX6_stepsFrom_63 : decode cX6_stepsFrom 63 = .ok (.ifCond .ne 29, 3) := by decide +kernel
theorem dX6_stepsFrom_66 : decode cX6_stepsFrom 66 = .ok (.aload_n 0, 1) := by decide +kernel
theorem dX6_stepsFrom_67 : decode cX6_stepsFrom 67 = .ok (.lload 7, 2) := by decide +kernel
theorem dX6_stepsFrom_69 : decode cX6_stepsFrom 69 = .ok (.iload 9, 2) := by decide +kernel
theorem dX6_stepsFrom_71 : decode cX6_stepsFrom 71 = .ok (.invokevirtual 66, 3) := by decide +kernel
theorem dX6_stepsFrom_74 : decode cX6_stepsFrom 74 = .ok (.aload_n 0, 1) := by decide +kernel
theorem dX6_stepsFrom_75 : decode cX6_stepsFrom 75 = .ok (.getfield 26, 3) := by decide +kernel
theorem dX6_stepsFrom_78 : decode cX6_stepsFrom 78 = .ok (.lcmp, 1) := by decide +kernel
theorem dX6_stepsFrom_79 : decode cX6_stepsFrom 79 = .ok (.ifCond .ne 13, 3) := by decide +kernel
theorem dX6_stepsFrom_82 : decode cX6_stepsFrom 82 = .ok (.lload_n 2, 1) := by decide +kernel
theorem dX6_stepsFrom_83 : decode cX6_stepsFrom 83 = .ok (.iload 9, 2) := by decide +kernel
theorem dX6_stepsFrom_85 : decode cX6_stepsFrom 85 = .ok (.iload 4, 2) := by decide +kernel
theorem dX6_stepsFrom_87 : decode cX6_stepsFrom 87 = .ok (.invokestatic 41, 3) := by decide +kernel
theorem dX6_stepsFrom_90 : decode cX6_stepsFrom 90 = .ok (.lor, 1) := by decide +kernel
theorem dX6_stepsFrom_91 : decode cX6_stepsFrom 91 = .ok (.lstore_n 2, 1) := by decide +kernel
theorem dX6_stepsFrom_92 : decode cX6_stepsFrom 92 = .ok (.iinc 9 1, 3) := by decide +kernel
theorem dX6_stepsFrom_95 : decode cX6_stepsFrom 95 = .ok (.goto (-54), 3) := by decide +kernel
theorem dX6_stepsFrom_98 : decode cX6_stepsFrom 98 = .ok (.iinc 4 1, 3) := by decide +kernel
theorem dX6_stepsFrom_101 : decode cX6_stepsFrom 101 = .ok (.goto (-96), 3) := by decide +kernel
theorem dX6_stepsFrom_104 : decode cX6_stepsFrom 104 = .ok (.lload_n 2, 1) := by decide +kernel
theorem dX6_stepsFrom_105 : decode cX6_stepsFrom 105 = .ok (.lreturn, 1) := by decide +kernel
theorem kw_41 : Cond.methodLink RX6 41 yX6_bit ∈ ds_gw := ds_g (ds_t3 73 (by decide +kernel)) rfl
theorem kw_42 : Cond.static yX6_bit ∈ ds_gw := ds_g (ds_t2 71 (by decide +kernel)) rfl
theorem kw_43 : Cond.code yX6_bit cX6_bit 2 (some .long) ∈ ds_gw := ds_g (ds_t2 72 (by decide +kernel)) rfl
def fX6_stepsFrom_98 (v2 : Int64) (v4 : Int32) : Option ((Int64 × Int32) ⊕ (Int64)) :=
  some (.inl (v2, (v4 + 1)))
def fX6_stepsFrom_92 (v2 : Int64) (v9 : Int32) : Option ((Int64 × Int32) ⊕ ((Int64 × Int32) ⊕ (Int64))) :=
  some (.inl (v2, (v9 + 1)))
def fX6_stepsFrom_41_b (o_wide : Int32) (o_high : Int32) (o_ones : Int64) (o_twos : Int64) (v4 : Int32) (v5 : Int64) (v7 : Int64) (v2 : Int64) (v9 : Int32) : Option ((Int64 × Int32) ⊕ ((Int64 × Int32) ⊕ (Int64))) :=
  if o_wide ≤ v9 then Option.bind (fX6_stepsFrom_98 v2 v4) fun z => some (.inr z) else Option.bind (fX6_rolledAlong o_wide o_high v5 v9) fun q55 => if (lg_cmp q55 o_ones) = 0 then Option.bind (fX6_rolledAlong o_wide o_high v7 v9) fun q71 => if (lg_cmp q71 o_twos) = 0 then Option.bind (fX6_bit v9 v4) fun q87 => fX6_stepsFrom_92 (v2 ||| q87) v9 else fX6_stepsFrom_92 v2 v9 else fX6_stepsFrom_92 v2 v9
def fX6_stepsFrom_41 (o_wide : Int32) (o_high : Int32) (o_ones : Int64) (o_twos : Int64) (v4 : Int32) (v5 : Int64) (v7 : Int64) (v2 : Int64) (v9 : Int32) : Option ((Int64 × Int32) ⊕ (Int64)) := ds_it (fun s => fX6_stepsFrom_41_b o_wide o_high o_ones o_twos v4 v5 v7 s.1 s.2) 1000 (v2, v9)
def fX6_stepsFrom_5_b (o_wide : Int32) (o_high : Int32) (o_ones : Int64) (o_twos : Int64) (p1_ones : Int64) (p1_twos : Int64) (v2 : Int64) (v4 : Int32) : Option ((Int64 × Int32) ⊕ (Int64)) :=
  if o_high ≤ v4 then some (.inr v2) else Option.bind (fX6_rolledDown o_wide o_high p1_ones v4) fun q21 => Option.bind (fX6_rolledDown o_wide o_high p1_twos v4) fun q33 => fX6_stepsFrom_41 o_wide o_high o_ones o_twos v4 q21 q33 v2 (0 : Int32)
def fX6_stepsFrom_5 (o_wide : Int32) (o_high : Int32) (o_ones : Int64) (o_twos : Int64) (p1_ones : Int64) (p1_twos : Int64) (v2 : Int64) (v4 : Int32) : Option (Int64) := ds_it (fun s => fX6_stepsFrom_5_b o_wide o_high o_ones o_twos p1_ones p1_twos s.1 s.2) 1000 (v2, v4)
def fX6_stepsFrom (o_wide : Int32) (o_high : Int32) (o_ones : Int64) (o_twos : Int64) (p1_ones : Int64) (p1_twos : Int64) : Option (Int64) :=
  fX6_stepsFrom_5 o_wide o_high o_ones o_twos p1_ones p1_twos (0 : Int64) (0 : Int32)
set_option maxHeartbeats 4000000 in
set_option maxRecDepth 100000 in
theorem c_X6_stepsFrom (l : Launch) (dC : Nat → ClassId) (dI : Nat → Nat → Nat) (ca : Nat → ClassId) (sa : Nat → Nat) (h_o : Nat) (h_p1 : Nat) (sz : Nat) (o_wide : Int32) (o_high : Int32) (o_hex : Int32) (o_ones : Int64) (o_twos : Int64) (p1_wide : Int32) (p1_high : Int32) (p1_hex : Int32) (p1_ones : Int64) (p1_twos : Int64) (res : Int64) (hf : fX6_stepsFrom o_wide o_high o_ones o_twos p1_ones p1_twos = some res) : Met l yX6_stepsFrom (Cond.code yX6_stepsFrom cX6_stepsFrom 10 (some .long) :: ds_gw) { frames := 2, cells := 0, slots := 0, locals := 49 } (va_Pc [.ref h_o, .ref h_p1] (ds_Pre dC dI ca sa [(h_o, .inr (5, [.int o_wide, .int o_high, .int o_hex, .long o_ones, .long o_twos])), (h_p1, .inr (5, [.int p1_wide, .int p1_high, .int p1_hex, .long p1_ones, .long p1_twos]))] sz)) (va_Ql (fun r (_ : Unit) => r = res) (ds_B dC dI (va_A [(h_o, .inr (5, [.int o_wide, .int o_high, .int o_hex, .long o_ones, .long o_twos])), (h_p1, .inr (5, [.int p1_wide, .int p1_high, .int p1_hex, .long p1_ones, .long p1_twos]))] sz) [(h_o, .inr (5, [.int o_wide, .int o_high, .int o_hex, .long o_ones, .long o_twos])), (h_p1, .inr (5, [.int p1_wide, .int p1_high, .int p1_hex, .long p1_ones, .long p1_twos]))]) (va_A [(h_o, .inr (5, [.int o_wide, .int o_high, .int o_hex, .long o_ones, .long o_twos])), (h_p1, .inr (5, [.int p1_wide, .int p1_high, .int p1_hex, .long p1_ones, .long p1_twos]))] sz)) 0 0 (va_A [(h_o, .inr (5, [.int o_wide, .int o_high, .int o_hex, .long o_ones, .long o_twos])), (h_p1, .inr (5, [.int p1_wide, .int p1_high, .int p1_hex, .long p1_ones, .long p1_twos]))] sz) := by
  refine Met.ofW (cc := cX6_stepsFrom) (maxL := 10) (ret := (some .long)) (by decide) rfl ?_
  intro p e s m args below meth c s₁ B hml hv
  obtain ⟨rfl, hsz, hP, hK, hD0, hE⟩ := hv
  have hx := B.exec
  have hb := B.bytes
  have hr := B.returns
  have hts := atoms_spec (ws := Cond.code yX6_stepsFrom cX6_stepsFrom 10 (some .long) :: ds_gw) B.pre
  have hg : ∀ {w : Cond}, w ∈ ds_gw → w.before _ s = true := fun h => hts _ (List.mem_cons_of_mem _ h)
  have hown : s.vm.findClass RX6 = some m.cls := findClass_of_methodNamed B.named
  have hlocks := B.notSynchronized
  subst hsz
  have hD := hD0.self (sz := s.heap.size)
  generalize hAe : va_A [(h_o, .inr (5, [.int o_wide, .int o_high, .int o_hex, .long o_ones, .long o_twos])), (h_p1, .inr (5, [.int p1_wide, .int p1_high, .int p1_hex, .long p1_ones, .long p1_twos]))] s.heap.size = A at hD hE ⊢
  have hA : ∀ q : Nat, s.heap.size ≤ q → A q := fun q h => by rw [← hAe]; exact Or.inr h
  have hS : va_S A s.heap s.heap [] := va_S.rf
  have hl := lv_entry ([.ref h_o, .ref h_p1]) (n := 10) (Nat.le_of_ble_eq_true rfl)
  rw [lg_entry_eq]
  generalize (lg_sl ([.ref h_o, .ref h_p1]) ++ List.replicate (10 - (lg_sl ([.ref h_o, .ref h_p1])).length) Slot.unset).toArray = ls at hl ⊢
  have hl : lv_has ls 10 [(0, .ref h_o), (1, .ref h_p1)] := hl
  obtain ⟨G0, eG0⟩ : ∃ G : Int64 → Prop, G = (fun r => r = res) := ⟨_, rfl⟩
  obtain ⟨rr, hrr⟩ : ∃ z, z = res := ⟨_, rfl⟩
  rw [← hrr] at hf
  have hG : G0 rr := by rw [eG0]; exact hrr
  refine ds_cap (fun WW h1 h2 => ?_)
  have J_5 : ∀ (n : Nat) (v2 : Int64) (v4 : Int32) (rr : Int64) (hf : ds_it (fun s => fX6_stepsFrom_5_b o_wide o_high o_ones o_twos p1_ones p1_twos s.1 s.2) n (v2, v4) = some rr) (hG : G0 rr) (H : Heap) (locs : List Loc) (hP : va_P (dC, dI) vwCl [(h_o, .inr (5, [.int o_wide, .int o_high, .int o_hex, .long o_ones, .long o_twos])), (h_p1, .inr (5, [.int p1_wide, .int p1_high, .int p1_hex, .long p1_ones, .long p1_twos]))] H) (hD : va_D A [(h_o, .inr (5, [.int o_wide, .int o_high, .int o_hex, .long o_ones, .long o_twos])), (h_p1, .inr (5, [.int p1_wide, .int p1_high, .int p1_hex, .long p1_ones, .long p1_twos]))]) (hS : va_S A s.heap H locs) (ls : Array Slot) (hl : lv_has ls 10 [(0, .ref h_o), (1, .ref h_p1), (2, .long v2), (4, .int v4)]), WW H locs (F0 m 5 ls []) := by
    intro  n
    induction n with
    | zero => intro v2 v4 rr hf; exact (ds_it_zero hf).elim
    | succ n ih5 =>
      intro v2 v4 rr hf hG H locs hP hD hS ls hl
      refine h2 ?_
      obtain ⟨rr, hf, hG⟩ := ds_it_succ hf hG
      replace hf : fX6_stepsFrom_5_b o_wide o_high o_ones o_twos p1_ones p1_twos v2 v4 = some rr := hf
      obtain ⟨G1, eG1⟩ : ∃ G : ((Int64 × Int32) ⊕ (Int64)) → Prop, G = ds_G (fun s' => ∃ r', ds_it (fun s => fX6_stepsFrom_5_b o_wide o_high o_ones o_twos p1_ones p1_twos s.1 s.2) n s' = some r' ∧ G0 r') G0 := ⟨_, rfl⟩
      rw [← eG1] at hG
      have J_98 : ∀ (v2 : Int64) (v4 : Int32) (rr : (Int64 × Int32) ⊕ (Int64)) (hf : fX6_stepsFrom_98 v2 v4 = some rr) (hG : G1 rr) (H : Heap) (locs : List Loc) (hP : va_P (dC, dI) vwCl [(h_o, .inr (5, [.int o_wide, .int o_high, .int o_hex, .long o_ones, .long o_twos])), (h_p1, .inr (5, [.int p1_wide, .int p1_high, .int p1_hex, .long p1_ones, .long p1_twos]))] H) (hD : va_D A [(h_o, .inr (5, [.int o_wide, .int o_high, .int o_hex, .long o_ones, .long o_twos])), (h_p1, .inr (5, [.int p1_wide, .int p1_high, .int p1_hex, .long p1_ones, .long p1_twos]))]) (hS : va_S A s.heap H locs) (ls : Array Slot) (hl : lv_has ls 10 [(0, .ref h_o), (1, .ref h_p1), (2, .long v2), (4, .int v4)]), WW H locs (F0 m 98 ls []) := by
        intro v2 v4 rr hf hG H locs hP hD hS ls hl
        refine h2 ?_
        unfold fX6_stepsFrom_98 at hf
        refine lv_iinc (v := (v4 + 1)) (lv' := [(4, .int (v4 + 1)), (0, .ref h_o), (1, .ref h_p1), (2, .long v2)]) hx hb dX6_stepsFrom_98 hl (k := 3) rfl rfl (by decide) rfl (fun ls hl => ?_)
        refine lv_goto (tgt := 5) hx hb dX6_stepsFrom_101 (by decide) ?_
        have hf := Option.some.inj hf
        subst hf
        rw [eG1] at hG
        obtain ⟨rr, hf, hG⟩ := hG
        exact h1 (ih5 v2 (v4 + 1) rr hf hG _ _ hP hD hS _ (lv_sub hl [1, 2, 3, 0] rfl))
      have J_41 : ∀ (v4 : Int32) (v5 : Int64) (v7 : Int64) (n : Nat) (v2 : Int64) (v9 : Int32) (rr : (Int64 × Int32) ⊕ (Int64)) (hf : ds_it (fun s => fX6_stepsFrom_41_b o_wide o_high o_ones o_twos v4 v5 v7 s.1 s.2) n (v2, v9) = some rr) (hG : G1 rr) (H : Heap) (locs : List Loc) (hP : va_P (dC, dI) vwCl [(h_o, .inr (5, [.int o_wide, .int o_high, .int o_hex, .long o_ones, .long o_twos])), (h_p1, .inr (5, [.int p1_wide, .int p1_high, .int p1_hex, .long p1_ones, .long p1_twos]))] H) (hD : va_D A [(h_o, .inr (5, [.int o_wide, .int o_high, .int o_hex, .long o_ones, .long o_twos])), (h_p1, .inr (5, [.int p1_wide, .int p1_high, .int p1_hex, .long p1_ones, .long p1_twos]))]) (hS : va_S A s.heap H locs) (ls : Array Slot) (hl : lv_has ls 10 [(0, .ref h_o), (1, .ref h_p1), (2, .long v2), (4, .int v4), (5, .long v5), (7, .long v7), (9, .int v9)]), WW H locs (F0 m 41 ls []) := by
        intro v4 v5 v7 n
        induction n with
        | zero => intro v2 v9 rr hf; exact (ds_it_zero hf).elim
        | succ n ih41 =>
          intro v2 v9 rr hf hG H locs hP hD hS ls hl
          refine h2 ?_
          obtain ⟨rr, hf, hG⟩ := ds_it_succ hf hG
          replace hf : fX6_stepsFrom_41_b o_wide o_high o_ones o_twos v4 v5 v7 v2 v9 = some rr := hf
          obtain ⟨G2, eG2⟩ : ∃ G : ((Int64 × Int32) ⊕ ((Int64 × Int32) ⊕ (Int64))) → Prop, G = ds_G (fun s' => ∃ r', ds_it (fun s => fX6_stepsFrom_41_b o_wide o_high o_ones o_twos v4 v5 v7 s.1 s.2) n s' = some r' ∧ G1 r') G1 := ⟨_, rfl⟩
          rw [← eG2] at hG
          have J_92 : ∀ (v2 : Int64) (v9 : Int32) (rr : (Int64 × Int32) ⊕ ((Int64 × Int32) ⊕ (Int64))) (hf : fX6_stepsFrom_92 v2 v9 = some rr) (hG : G2 rr) (H : Heap) (locs : List Loc) (hP : va_P (dC, dI) vwCl [(h_o, .inr (5, [.int o_wide, .int o_high, .int o_hex, .long o_ones, .long o_twos])), (h_p1, .inr (5, [.int p1_wide, .int p1_high, .int p1_hex, .long p1_ones, .long p1_twos]))] H) (hD : va_D A [(h_o, .inr (5, [.int o_wide, .int o_high, .int o_hex, .long o_ones, .long o_twos])), (h_p1, .inr (5, [.int p1_wide, .int p1_high, .int p1_hex, .long p1_ones, .long p1_twos]))]) (hS : va_S A s.heap H locs) (ls : Array Slot) (hl : lv_has ls 10 [(0, .ref h_o), (1, .ref h_p1), (2, .long v2), (4, .int v4), (5, .long v5), (7, .long v7), (9, .int v9)]), WW H locs (F0 m 92 ls []) := by
            intro v2 v9 rr hf hG H locs hP hD hS ls hl
            refine h2 ?_
            unfold fX6_stepsFrom_92 at hf
            refine lv_iinc (v := (v9 + 1)) (lv' := [(9, .int (v9 + 1)), (0, .ref h_o), (1, .ref h_p1), (2, .long v2), (4, .int v4), (5, .long v5), (7, .long v7)]) hx hb dX6_stepsFrom_92 hl (k := 6) rfl rfl (by decide) rfl (fun ls hl => ?_)
            refine lv_goto (tgt := 41) hx hb dX6_stepsFrom_95 (by decide) ?_
            have hf := Option.some.inj hf
            subst hf
            rw [eG2] at hG
            obtain ⟨rr, hf, hG⟩ := hG
            exact h1 (ih41 v2 (v9 + 1) rr hf hG _ _ hP hD hS _ (lv_sub hl [1, 2, 3, 4, 5, 6, 0] rfl))
          unfold fX6_stepsFrom_41_b at hf
          refine lv_iload hx hb dX6_stepsFrom_41 (lv_at hl 6 rfl) ?_
          refine lv_aload_n hx hb dX6_stepsFrom_43 rfl (lv_at hl 0 rfl) ?_
          refine va_get (D := (dC, dI)) (ci := 5) (v := .int o_wide) (C := RX6) (T := TX6) (N := 5) hx hb hts (fun w h => List.mem_cons_of_mem _ (kc_X6 w h)) hown hK hP 0 rfl rfl 0 (by decide) (hg kw_0) (fun _ h9 => h9) rfl dX6_stepsFrom_44 ?_
          refine lv_icmp_ge (tgt := 98) hx hb dX6_stepsFrom_47 (by decide) (fun c_47 => ?_) (fun c_47 => ?_)
          · replace hf := ds_t c_47 hf
            obtain ⟨rr, hr_0, hf⟩ := ds_ob hf
            have hf := Option.some.inj hf
            subst hf
            rw [eG2] at hG
            replace hG : G1 rr := hG
            have hf := hr_0
            exact h1 (J_98 v2 v4 _ hf hG _ _ hP hD hS _ (lv_sub hl [0, 1, 2, 3] rfl))
          · replace hf := ds_f c_47 hf
            refine lv_aload_n hx hb dX6_stepsFrom_50 rfl (lv_at hl 0 rfl) ?_
            refine lv_lload hx hb dX6_stepsFrom_51 (lv_at hl 4 rfl) ?_
            refine lv_iload hx hb dX6_stepsFrom_53 (lv_at hl 6 rfl) ?_
            obtain ⟨q55, hq55, hf⟩ := ds_ob hf
            refine ds_calll (wr := [(h_p1, .inr (5, [.int p1_wide, .int p1_high, .int p1_hex, .long p1_ones, .long p1_twos]))]) (va_runV (As := [.long v5, .int v9]) (rest := []) ⟨hx, hb, hml, hown, hts⟩ (c_X6_rolledAlong l dC dI ca sa h_o H.size o_wide o_high o_hex o_ones o_twos v5 v9 q55 hq55) (cwV 2 hts (ds_gV kw_29 kw_30 kw_31 kw_19 kw_32) rfl rfl rfl (by decide +kernel) ⟨Nat.le_of_ble_eq_true rfl, Nat.le_of_ble_eq_true rfl⟩) ⟨ds_blind, va_recv hK hP (ci := 5) (q0 := 0) rfl rfl, ds_at hP hD hK hE hS hA [0] rfl rfl _⟩ rfl rfl hl.1 rfl (lv_room (Nat.le_of_ble_eq_true rfl)) dX6_stepsFrom_55 ⟨Nat.zero_le _, Nat.zero_le _⟩) hP hD hS hA [0] [1] rfl rfl rfl (by decide) (fun H locs hP hD hS => ?_)
            have hP : va_P (dC, dI) vwCl [(h_p1, .inr (5, [.int p1_wide, .int p1_high, .int p1_hex, .long p1_ones, .long p1_twos])), (h_o, .inr (5, [.int o_wide, .int o_high, .int o_hex, .long o_ones, .long o_twos]))] H := hP
            have hD : va_D A [(h_p1, .inr (5, [.int p1_wide, .int p1_high, .int p1_hex, .long p1_ones, .long p1_twos])), (h_o, .inr (5, [.int o_wide, .int o_high, .int o_hex, .long o_ones, .long o_twos]))] := hD
            refine lv_aload_n hx hb dX6_stepsFrom_58 rfl (lv_at hl 0 rfl) ?_
            refine va_get (D := (dC, dI)) (ci := 5) (v := .long o_ones) (C := RX6) (T := TX6) (N := 5) hx hb hts (fun w h => List.mem_cons_of_mem _ (kc_X6 w h)) hown hK hP 1 rfl rfl 3 (by decide) (hg kw_12) (fun _ h9 => h9) rfl dX6_stepsFrom_59 ?_
            refine W.lcmp hx hb dX6_stepsFrom_62 ?_
            refine lv_if_ne (tgt := 92) hx hb dX6_stepsFrom_63 (by decide) (fun c_63 => ?_) (fun c_63 => ?_)
            · replace hf := ds_f c_63 hf
              exact h1 (J_92 v2 v9 _ hf hG _ _ (hP.sub [1, 0] rfl) (hD.sub [1, 0] rfl rfl) hS _ (lv_sub hl [0, 1, 2, 3, 4, 5, 6] rfl))
            · replace hf := ds_t c_63 hf
              refine lv_aload_n hx hb dX6_stepsFrom_66 rfl (lv_at hl 0 rfl) ?_
              refine lv_lload hx hb dX6_stepsFrom_67 (lv_at hl 5 rfl) ?_
              refine lv_iload hx hb dX6_stepsFrom_69 (lv_at hl 6 rfl) ?_
              obtain ⟨q71, hq71, hf⟩ := ds_ob hf
              refine ds_calll (wr := [(h_p1, .inr (5, [.int p1_wide, .int p1_high, .int p1_hex, .long p1_ones, .long p1_twos]))]) (va_runV (As := [.long v7, .int v9]) (rest := []) ⟨hx, hb, hml, hown, hts⟩ (c_X6_rolledAlong l dC dI ca sa h_o H.size o_wide o_high o_hex o_ones o_twos v7 v9 q71 hq71) (cwV 2 hts (ds_gV kw_29 kw_30 kw_31 kw_19 kw_32) rfl rfl rfl (by decide +kernel) ⟨Nat.le_of_ble_eq_true rfl, Nat.le_of_ble_eq_true rfl⟩) ⟨ds_blind, va_recv hK hP (ci := 5) (q0 := 1) rfl rfl, ds_at hP hD hK hE hS hA [1] rfl rfl _⟩ rfl rfl hl.1 rfl (lv_room (Nat.le_of_ble_eq_true rfl)) dX6_stepsFrom_71 ⟨Nat.zero_le _, Nat.zero_le _⟩) hP hD hS hA [1] [0] rfl rfl rfl (by decide) (fun H locs hP hD hS => ?_)
              have hP : va_P (dC, dI) vwCl [(h_p1, .inr (5, [.int p1_wide, .int p1_high, .int p1_hex, .long p1_ones, .long p1_twos])), (h_o, .inr (5, [.int o_wide, .int o_high, .int o_hex, .long o_ones, .long o_twos]))] H := hP
              have hD : va_D A [(h_p1, .inr (5, [.int p1_wide, .int p1_high, .int p1_hex, .long p1_ones, .long p1_twos])), (h_o, .inr (5, [.int o_wide, .int o_high, .int o_hex, .long o_ones, .long o_twos]))] := hD
              refine lv_aload_n hx hb dX6_stepsFrom_74 rfl (lv_at hl 0 rfl) ?_
              refine va_get (D := (dC, dI)) (ci := 5) (v := .long o_twos) (C := RX6) (T := TX6) (N := 5) hx hb hts (fun w h => List.mem_cons_of_mem _ (kc_X6 w h)) hown hK hP 1 rfl rfl 4 (by decide) (hg kw_13) (fun _ h9 => h9) rfl dX6_stepsFrom_75 ?_
              refine W.lcmp hx hb dX6_stepsFrom_78 ?_
              refine lv_if_ne (tgt := 92) hx hb dX6_stepsFrom_79 (by decide) (fun c_79 => ?_) (fun c_79 => ?_)
              · replace hf := ds_f c_79 hf
                exact h1 (J_92 v2 v9 _ hf hG _ _ (hP.sub [1, 0] rfl) (hD.sub [1, 0] rfl rfl) hS _ (lv_sub hl [0, 1, 2, 3, 4, 5, 6] rfl))
              · replace hf := ds_t c_79 hf
                refine lv_lload_n hx hb dX6_stepsFrom_82 rfl (lv_at hl 2 rfl) ?_
                refine lv_iload hx hb dX6_stepsFrom_83 (lv_at hl 6 rfl) ?_
                refine lv_iload hx hb dX6_stepsFrom_85 (lv_at hl 3 rfl) ?_
                obtain ⟨q87, hq87, hf⟩ := ds_ob hf
                refine ds_calll (wr := [(h_p1, .inr (5, [.int p1_wide, .int p1_high, .int p1_hex, .long p1_ones, .long p1_twos])), (h_o, .inr (5, [.int o_wide, .int o_high, .int o_hex, .long o_ones, .long o_twos]))]) (va_runS (As := [.int v9, .int v4]) (rest := [.long v2]) ⟨hx, hb, hml, hown, hts⟩ (c_X6_bit l dC dI ca sa  H.size  v9 v4 q87 hq87) (va_cwS 2 hts (ds_gS kw_41 kw_42 kw_19 kw_43) rfl rfl rfl (by decide +kernel) ⟨Nat.le_of_ble_eq_true rfl, Nat.le_of_ble_eq_true rfl⟩) ⟨ds_blind, ds_at hP hD hK hE hS hA [] rfl rfl _⟩ rfl rfl hl.1 rfl (lv_room (Nat.le_of_ble_eq_true rfl)) dX6_stepsFrom_87 ⟨Nat.zero_le _, Nat.zero_le _⟩) hP hD hS hA [] [0, 1] rfl rfl rfl (by decide) (fun H locs hP hD hS => ?_)
                have hP : va_P (dC, dI) vwCl [(h_p1, .inr (5, [.int p1_wide, .int p1_high, .int p1_hex, .long p1_ones, .long p1_twos])), (h_o, .inr (5, [.int o_wide, .int o_high, .int o_hex, .long o_ones, .long o_twos]))] H := hP
                have hD : va_D A [(h_p1, .inr (5, [.int p1_wide, .int p1_high, .int p1_hex, .long p1_ones, .long p1_twos])), (h_o, .inr (5, [.int o_wide, .int o_high, .int o_hex, .long o_ones, .long o_twos]))] := hD
                refine lv_lor hx hb dX6_stepsFrom_90 ?_
                refine lv_lstore_n (lv' := [(2, .long (v2 ||| q87)), (0, .ref h_o), (1, .ref h_p1), (4, .int v4), (5, .long v5), (7, .long v7), (9, .int v9)]) hx hb dX6_stepsFrom_91 rfl hl (by decide) rfl (fun ls hl => ?_)
                exact h1 (J_92 (v2 ||| q87) v9 _ hf hG _ _ (hP.sub [1, 0] rfl) (hD.sub [1, 0] rfl rfl) hS _ (lv_sub hl [1, 2, 0, 3, 4, 5, 6] rfl))
      unfold fX6_stepsFrom_5_b at hf
      refine lv_iload hx hb dX6_stepsFrom_5 (lv_at hl 3 rfl) ?_
      refine lv_aload_n hx hb dX6_stepsFrom_7 rfl (lv_at hl 0 rfl) ?_
      refine va_get (D := (dC, dI)) (ci := 5) (v := .int o_high) (C := RX6) (T := TX6) (N := 5) hx hb hts (fun w h => List.mem_cons_of_mem _ (kc_X6 w h)) hown hK hP 0 rfl rfl 1 (by decide) (hg kw_6) (fun _ h9 => h9) rfl dX6_stepsFrom_8 ?_
      refine lv_icmp_ge (tgt := 104) hx hb dX6_stepsFrom_11 (by decide) (fun c_11 => ?_) (fun c_11 => ?_)
      · replace hf := ds_t c_11 hf
        refine lv_lload_n hx hb dX6_stepsFrom_104 rfl (lv_at hl 2 rfl) ?_
        have hf := Option.some.inj hf
        subst hf
        rw [eG1] at hG
        replace hG : G0 _ := hG
        rw [eG0] at hG
        have hG : _ = res := hG
        subst hG
        exact W.lret (v := v2) hx hb hr (fun t ht hW => ⟨⟨v2, (), rfl, rfl, by rw [ht]; exact hP, hD⟩, hS.F ht⟩) hS.2.2 dX6_stepsFrom_105
      · replace hf := ds_f c_11 hf
        refine lv_aload_n hx hb dX6_stepsFrom_14 rfl (lv_at hl 0 rfl) ?_
        refine lv_aload_n hx hb dX6_stepsFrom_15 rfl (lv_at hl 1 rfl) ?_
        refine va_get (D := (dC, dI)) (ci := 5) (v := .long p1_ones) (C := RX6) (T := TX6) (N := 5) hx hb hts (fun w h => List.mem_cons_of_mem _ (kc_X6 w h)) hown hK hP 1 rfl rfl 3 (by decide) (hg kw_12) (fun _ h9 => h9) rfl dX6_stepsFrom_16 ?_
        refine lv_iload hx hb dX6_stepsFrom_19 (lv_at hl 3 rfl) ?_
        obtain ⟨q21, hq21, hf⟩ := ds_ob hf
        refine ds_calll (wr := [(h_p1, .inr (5, [.int p1_wide, .int p1_high, .int p1_hex, .long p1_ones, .long p1_twos]))]) (va_runV (As := [.long p1_ones, .int v4]) (rest := []) ⟨hx, hb, hml, hown, hts⟩ (c_X6_rolledDown l dC dI ca sa h_o H.size o_wide o_high o_hex o_ones o_twos p1_ones v4 q21 hq21) (cwV 2 hts (ds_gV kw_25 kw_26 kw_27 kw_19 kw_28) rfl rfl rfl (by decide +kernel) ⟨Nat.le_of_ble_eq_true rfl, Nat.le_of_ble_eq_true rfl⟩) ⟨ds_blind, va_recv hK hP (ci := 5) (q0 := 0) rfl rfl, ds_at hP hD hK hE hS hA [0] rfl rfl _⟩ rfl rfl hl.1 rfl (lv_room (Nat.le_of_ble_eq_true rfl)) dX6_stepsFrom_21 ⟨Nat.zero_le _, Nat.zero_le _⟩) hP hD hS hA [0] [1] rfl rfl rfl (by decide) (fun H locs hP hD hS => ?_)
        have hP : va_P (dC, dI) vwCl [(h_p1, .inr (5, [.int p1_wide, .int p1_high, .int p1_hex, .long p1_ones, .long p1_twos])), (h_o, .inr (5, [.int o_wide, .int o_high, .int o_hex, .long o_ones, .long o_twos]))] H := hP
        have hD : va_D A [(h_p1, .inr (5, [.int p1_wide, .int p1_high, .int p1_hex, .long p1_ones, .long p1_twos])), (h_o, .inr (5, [.int o_wide, .int o_high, .int o_hex, .long o_ones, .long o_twos]))] := hD
        refine lv_lstore (lv' := [(5, .long q21), (0, .ref h_o), (1, .ref h_p1), (2, .long v2), (4, .int v4)]) hx hb dX6_stepsFrom_24 hl (by decide) rfl (fun ls hl => ?_)
        refine lv_aload_n hx hb dX6_stepsFrom_26 rfl (lv_at hl 1 rfl) ?_
        refine lv_aload_n hx hb dX6_stepsFrom_27 rfl (lv_at hl 2 rfl) ?_
        refine va_get (D := (dC, dI)) (ci := 5) (v := .long p1_twos) (C := RX6) (T := TX6) (N := 5) hx hb hts (fun w h => List.mem_cons_of_mem _ (kc_X6 w h)) hown hK hP 0 rfl rfl 4 (by decide) (hg kw_13) (fun _ h9 => h9) rfl dX6_stepsFrom_28 ?_
        refine lv_iload hx hb dX6_stepsFrom_31 (lv_at hl 4 rfl) ?_
        obtain ⟨q33, hq33, hf⟩ := ds_ob hf
        refine ds_calll (wr := [(h_p1, .inr (5, [.int p1_wide, .int p1_high, .int p1_hex, .long p1_ones, .long p1_twos]))]) (va_runV (As := [.long p1_twos, .int v4]) (rest := []) ⟨hx, hb, hml, hown, hts⟩ (c_X6_rolledDown l dC dI ca sa h_o H.size o_wide o_high o_hex o_ones o_twos p1_twos v4 q33 hq33) (cwV 2 hts (ds_gV kw_25 kw_26 kw_27 kw_19 kw_28) rfl rfl rfl (by decide +kernel) ⟨Nat.le_of_ble_eq_true rfl, Nat.le_of_ble_eq_true rfl⟩) ⟨ds_blind, va_recv hK hP (ci := 5) (q0 := 1) rfl rfl, ds_at hP hD hK hE hS hA [1] rfl rfl _⟩ rfl rfl hl.1 rfl (lv_room (Nat.le_of_ble_eq_true rfl)) dX6_stepsFrom_33 ⟨Nat.zero_le _, Nat.zero_le _⟩) hP hD hS hA [1] [0] rfl rfl rfl (by decide) (fun H locs hP hD hS => ?_)
        have hP : va_P (dC, dI) vwCl [(h_p1, .inr (5, [.int p1_wide, .int p1_high, .int p1_hex, .long p1_ones, .long p1_twos])), (h_o, .inr (5, [.int o_wide, .int o_high, .int o_hex, .long o_ones, .long o_twos]))] H := hP
        have hD : va_D A [(h_p1, .inr (5, [.int p1_wide, .int p1_high, .int p1_hex, .long p1_ones, .long p1_twos])), (h_o, .inr (5, [.int o_wide, .int o_high, .int o_hex, .long o_ones, .long o_twos]))] := hD
        refine lv_lstore (lv' := [(7, .long q33), (5, .long q21), (0, .ref h_o), (1, .ref h_p1), (2, .long v2), (4, .int v4)]) hx hb dX6_stepsFrom_36 hl (by decide) rfl (fun ls hl => ?_)
        refine lv_iconst (v := 0) hx hb dX6_stepsFrom_38 (by decide) ?_
        refine lv_istore (lv' := [(9, .int (0 : Int32)), (7, .long q33), (5, .long q21), (0, .ref h_o), (1, .ref h_p1), (2, .long v2), (4, .int v4)]) hx hb dX6_stepsFrom_39 hl (by decide) rfl (fun ls hl => ?_)
        exact h1 (J_41 v4 q21 q33 1000 v2 (0 : Int32) _ hf hG _ _ (hP.sub [1, 0] rfl) (hD.sub [1, 0] rfl rfl) hS _ (lv_sub hl [3, 4, 5, 6, 2, 1, 0] rfl))
  unfold fX6_stepsFrom at hf
  refine lv_lconst (v := 0) hx hb dX6_stepsFrom_0 (by decide) ?_
  refine lv_lstore_n (lv' := [(2, .long (0 : Int64)), (0, .ref h_o), (1, .ref h_p1)]) hx hb dX6_stepsFrom_1 rfl hl (by decide) rfl (fun ls hl => ?_)
  refine lv_iconst (v := 0) hx hb dX6_stepsFrom_2 (by decide) ?_
  refine lv_istore (lv' := [(4, .int (0 : Int32)), (2, .long (0 : Int64)), (0, .ref h_o), (1, .ref h_p1)]) hx hb dX6_stepsFrom_3 hl (by decide) rfl (fun ls hl => ?_)
  exact h1 (J_5  1000 (0 : Int64) (0 : Int32) _ hf hG _ _ hP hD hS _ (lv_sub hl [2, 3, 1, 0] rfl))
theorem dX1_lineOf_0 : decode cX1_lineOf 0 = .ok (.iload_n 0, 1) := by decide +kernel
theorem dX1_lineOf_1 : decode cX1_lineOf 1 = .ok (.ifCond .eq 10, 3) := by decide +kernel
theorem dX1_lineOf_4 : decode cX1_lineOf 4 = .ok (.bipush 8, 2) := by decide +kernel
theorem dX1_lineOf_6 : decode cX1_lineOf 6 = .ok (.iload_n 1, 1) := by decide +kernel
theorem dX1_lineOf_7 : decode cX1_lineOf 7 = .ok (.iadd, 1) := by decide +kernel
theorem dX1_lineOf_8 : decode cX1_lineOf 8 = .ok (.goto 4, 3) := by decide +kernel
theorem dX1_lineOf_11 : decode cX1_lineOf 11 = .ok (.iload_n 1, 1) := by decide +kernel
theorem dX1_lineOf_12 : decode cX1_lineOf 12 = .ok (.ireturn, 1) := by decide +kernel
def fX1_lineOf (p1 : Int32) (p2 : Int32) : Option (Int32) :=
  if p1 = 0 then some p2 else some ((8 : Int32) + p2)
set_option maxHeartbeats 4000000 in
set_option maxRecDepth 100000 in
theorem c_X1_lineOf (l : Launch) (dC : Nat → ClassId) (dI : Nat → Nat → Nat) (ca : Nat → ClassId) (sa : Nat → Nat) (sz : Nat) (p1 : Int32) (p2 : Int32) (res : Int32) (hf : fX1_lineOf p1 p2 = some res) : Met l yX1_lineOf (Cond.code yX1_lineOf cX1_lineOf 2 (some .int) :: ds_gw) { frames := 0, cells := 0, slots := 0, locals := 0 } (va_Pc [.int p1, .int p2] (ds_Pre dC dI ca sa [] sz)) (va_Qi (fun r (_ : Unit) => r = res) (ds_B dC dI (va_A [] sz) []) (va_A [] sz)) 0 0 (va_A [] sz) := by
  refine Met.ofW (cc := cX1_lineOf) (maxL := 2) (ret := (some .int)) (by decide) rfl ?_
  intro p e s m args below meth c s₁ B hml hv
  obtain ⟨rfl, hsz, hP, hK, hD0, hE⟩ := hv
  have hx := B.exec
  have hb := B.bytes
  have hr := B.returns
  have hts := atoms_spec (ws := Cond.code yX1_lineOf cX1_lineOf 2 (some .int) :: ds_gw) B.pre
  have hg : ∀ {w : Cond}, w ∈ ds_gw → w.before _ s = true := fun h => hts _ (List.mem_cons_of_mem _ h)
  have hown : s.vm.findClass RX1 = some m.cls := findClass_of_methodNamed B.named
  have hlocks := B.notSynchronized
  subst hsz
  have hD := hD0.self (sz := s.heap.size)
  generalize hAe : va_A [] s.heap.size = A at hD hE ⊢
  have hA : ∀ q : Nat, s.heap.size ≤ q → A q := fun q h => by rw [← hAe]; exact Or.inr h
  have hS : va_S A s.heap s.heap [] := va_S.rf
  have hl := lv_entry ([.int p1, .int p2]) (n := 2) (Nat.le_of_ble_eq_true rfl)
  rw [lg_entry_eq]
  generalize (lg_sl ([.int p1, .int p2]) ++ List.replicate (2 - (lg_sl ([.int p1, .int p2])).length) Slot.unset).toArray = ls at hl ⊢
  have hl : lv_has ls 2 [(0, .int p1), (1, .int p2)] := hl
  obtain ⟨G0, eG0⟩ : ∃ G : Int32 → Prop, G = (fun r => r = res) := ⟨_, rfl⟩
  obtain ⟨rr, hrr⟩ : ∃ z, z = res := ⟨_, rfl⟩
  rw [← hrr] at hf
  have hG : G0 rr := by rw [eG0]; exact hrr
  unfold fX1_lineOf at hf
  refine lv_iload_n hx hb dX1_lineOf_0 rfl (lv_at hl 0 rfl) ?_
  refine lv_if_eq (tgt := 11) hx hb dX1_lineOf_1 (by decide) (fun c_1 => ?_) (fun c_1 => ?_)
  · replace hf := ds_t c_1 hf
    refine lv_iload_n hx hb dX1_lineOf_11 rfl (lv_at hl 1 rfl) ?_
    have hf := Option.some.inj hf
    subst hf
    rw [eG0] at hG
    have hG : _ = res := hG
    subst hG
    exact W.iret (v := p2) hx hb hr (fun t ht hW => ⟨⟨p2, (), rfl, rfl, by rw [ht]; exact hP, hD⟩, hS.F ht⟩) hS.2.2 dX1_lineOf_12
  · replace hf := ds_f c_1 hf
    refine lv_bipush (v := 8) hx hb dX1_lineOf_4 (by decide) ?_
    refine lv_iload_n hx hb dX1_lineOf_6 rfl (lv_at hl 1 rfl) ?_
    refine lv_iadd hx hb dX1_lineOf_7 ?_
    refine lv_goto (tgt := 12) hx hb dX1_lineOf_8 (by decide) ?_
    have hf := Option.some.inj hf
    subst hf
    rw [eG0] at hG
    have hG : _ = res := hG
    subst hG
    exact W.iret (v := ((8 : Int32) + p2)) hx hb hr (fun t ht hW => ⟨⟨((8 : Int32) + p2), (), rfl, rfl, by rw [ht]; exact hP, hD⟩, hS.F ht⟩) hS.2.2 dX1_lineOf_12
theorem dX1_entry_0 : decode cX1_entry 0 = .ok (.iload_n 1, 1) := by decide +kernel
theorem dX1_entry_1 : decode cX1_entry 1 = .ok (.ifCond .lt 15, 3) := by decide +kernel
theorem dX1_entry_4 : decode cX1_entry 4 = .ok (.iload_n 1, 1) := by decide +kernel
theorem dX1_entry_5 : decode cX1_entry 5 = .ok (.aload_n 0, 1) := by decide +kernel
theorem dX1_entry_6 : decode cX1_entry 6 = .ok (.arraylength, 1) := by decide +kernel
theorem dX1_entry_7 : decode cX1_entry 7 = .ok (.if_icmp .ge 9, 3) := by decide +kernel
theorem dX1_entry_10 : decode cX1_entry 10 = .ok (.aload_n 0, 1) := by decide +kernel
theorem dX1_entry_11 : decode cX1_entry 11 = .ok (.iload_n 1, 1) := by decide +kernel
theorem dX1_entry_12 : decode cX1_entry 12 = .ok (.iaload, 1) := by decide +kernel
theorem dX1_entry_13 : decode cX1_entry 13 = .ok (.goto 4, 3) := by decide +kernel
theorem dX1_entry_16 : decode cX1_entry 16 = .ok (.iconst 0, 1) := by decide +kernel
theorem dX1_entry_17 : decode cX1_entry 17 = .ok (.ireturn, 1) := by decide +kernel
def fX1_entry_t0 (p2 : Int32) : Option (Int32) :=
  if p2 < 0 then some (0 : Int32) else if (80 : Int32) ≤ p2 then some (0 : Int32) else if ds_in p2 80 = true then some (ds_tabF p2.toNatClampNeg) else none
set_option maxHeartbeats 4000000 in
set_option maxRecDepth 100000 in
theorem c_X1_entry_t0 (l : Launch) (dC : Nat → ClassId) (dI : Nat → Nat → Nat) (ca : Nat → ClassId) (sa : Nat → Nat) (sz : Nat) (p2 : Int32) (res : Int32) (hf : fX1_entry_t0 p2 = some res) : Met l yX1_entry (Cond.code yX1_entry cX1_entry 2 (some .int) :: ds_gw) { frames := 0, cells := 0, slots := 0, locals := 0 } (va_Pc [.ref (sa 0), .int p2] (ds_Pre dC dI ca sa [] sz)) (va_Qi (fun r (_ : Unit) => r = res) (ds_B dC dI (va_A [] sz) []) (va_A [] sz)) 0 0 (va_A [] sz) := by
  refine Met.ofW (cc := cX1_entry) (maxL := 2) (ret := (some .int)) (by decide) rfl ?_
  intro p e s m args below meth c s₁ B hml hv
  obtain ⟨rfl, hsz, hP, hK, hD0, hE⟩ := hv
  have hx := B.exec
  have hb := B.bytes
  have hr := B.returns
  have hts := atoms_spec (ws := Cond.code yX1_entry cX1_entry 2 (some .int) :: ds_gw) B.pre
  have hg : ∀ {w : Cond}, w ∈ ds_gw → w.before _ s = true := fun h => hts _ (List.mem_cons_of_mem _ h)
  have hown : s.vm.findClass RX1 = some m.cls := findClass_of_methodNamed B.named
  have hlocks := B.notSynchronized
  subst hsz
  have hD := hD0.self (sz := s.heap.size)
  generalize hAe : va_A [] s.heap.size = A at hD hE ⊢
  have hA : ∀ q : Nat, s.heap.size ≤ q → A q := fun q h => by rw [← hAe]; exact Or.inr h
  have hS : va_S A s.heap s.heap [] := va_S.rf
  have hl := lv_entry ([.ref (sa 0), .int p2]) (n := 2) (Nat.le_of_ble_eq_true rfl)
  rw [lg_entry_eq]
  generalize (lg_sl ([.ref (sa 0), .int p2]) ++ List.replicate (2 - (lg_sl ([.ref (sa 0), .int p2])).length) Slot.unset).toArray = ls at hl ⊢
  have hl : lv_has ls 2 [(0, .ref (sa 0)), (1, .int p2)] := hl
  obtain ⟨G0, eG0⟩ : ∃ G : Int32 → Prop, G = (fun r => r = res) := ⟨_, rfl⟩
  obtain ⟨rr, hrr⟩ : ∃ z, z = res := ⟨_, rfl⟩
  rw [← hrr] at hf
  have hG : G0 rr := by rw [eG0]; exact hrr
  unfold fX1_entry_t0 at hf
  refine lv_iload_n hx hb dX1_entry_0 rfl (lv_at hl 1 rfl) ?_
  refine lv_if_lt (tgt := 16) hx hb dX1_entry_1 (by decide) (fun c_1 => ?_) (fun c_1 => ?_)
  · replace hf := ds_t c_1 hf
    refine lv_iconst (v := 0) hx hb dX1_entry_16 (by decide) ?_
    have hf := Option.some.inj hf
    subst hf
    rw [eG0] at hG
    have hG : _ = res := hG
    subst hG
    exact W.iret (v := (0 : Int32)) hx hb hr (fun t ht hW => ⟨⟨(0 : Int32), (), rfl, rfl, by rw [ht]; exact hP, hD⟩, hS.F ht⟩) hS.2.2 dX1_entry_17
  · replace hf := ds_f c_1 hf
    refine lv_iload_n hx hb dX1_entry_4 rfl (lv_at hl 1 rfl) ?_
    refine lv_aload_n hx hb dX1_entry_5 rfl (lv_at hl 0 rfl) ?_
    refine va_tlen (v := 80) hx hb hE.2.1.2 hS rfl dX1_entry_6 ?_
    refine lv_icmp_ge (tgt := 16) hx hb dX1_entry_7 (by decide) (fun c_7 => ?_) (fun c_7 => ?_)
    · replace hf := ds_t c_7 hf
      refine lv_iconst (v := 0) hx hb dX1_entry_16 (by decide) ?_
      have hf := Option.some.inj hf
      subst hf
      rw [eG0] at hG
      have hG : _ = res := hG
      subst hG
      exact W.iret (v := (0 : Int32)) hx hb hr (fun t ht hW => ⟨⟨(0 : Int32), (), rfl, rfl, by rw [ht]; exact hP, hD⟩, hS.F ht⟩) hS.2.2 dX1_entry_17
    · replace hf := ds_f c_7 hf
      refine lv_aload_n hx hb dX1_entry_10 rfl (lv_at hl 0 rfl) ?_
      refine lv_iload_n hx hb dX1_entry_11 rfl (lv_at hl 1 rfl) ?_
      obtain ⟨i_12, hf⟩ := ds_ci hf
      refine va_ti (v := .int (ds_tabF p2.toNatClampNeg)) hx hb hE.2.1.2 hS i_12 rfl dX1_entry_12 ?_
      refine lv_goto (tgt := 17) hx hb dX1_entry_13 (by decide) ?_
      have hf := Option.some.inj hf
      subst hf
      rw [eG0] at hG
      have hG : _ = res := hG
      subst hG
      exact W.iret (v := (ds_tabF p2.toNatClampNeg)) hx hb hr (fun t ht hW => ⟨⟨(ds_tabF p2.toNatClampNeg), (), rfl, rfl, by rw [ht]; exact hP, hD⟩, hS.F ht⟩) hS.2.2 dX1_entry_17
theorem dX1_turnedX_0 : decode cX1_turnedX 0 = .ok (.iconst 4, 1) := by decide +kernel
theorem dX1_turnedX_1 : decode cX1_turnedX 1 = .ok (.iload_n 0, 1) := by decide +kernel
theorem dX1_turnedX_2 : decode cX1_turnedX 2 = .ok (.iload_n 1, 1) := by decide +kernel
theorem dX1_turnedX_3 : decode cX1_turnedX 3 = .ok (.invokestatic 20, 3) := by decide +kernel
theorem dX1_turnedX_6 : decode cX1_turnedX 6 = .ok (.imul, 1) := by decide +kernel
theorem dX1_turnedX_7 : decode cX1_turnedX 7 = .ok (.istore 4, 2) := by decide +kernel
theorem dX1_turnedX_9 : decode cX1_turnedX 9 = .ok (.getstatic 24, 3) := by decide +kernel
theorem dX1_turnedX_12 : decode cX1_turnedX 12 = .ok (.iload 4, 2) := by decide +kernel
theorem dX1_turnedX_14 : decode cX1_turnedX 14 = .ok (.invokestatic 28, 3) := by decide +kernel
theorem dX1_turnedX_17 : decode cX1_turnedX 17 = .ok (.iload_n 2, 1) := by decide +kernel
theorem dX1_turnedX_18 : decode cX1_turnedX 18 = .ok (.imul, 1) := by decide +kernel
theorem dX1_turnedX_19 : decode cX1_turnedX 19 = .ok (.getstatic 24, 3) := by decide +kernel
theorem dX1_turnedX_22 : decode cX1_turnedX 22 = .ok (.iload 4, 2) := by decide +kernel
theorem dX1_turnedX_24 : decode cX1_turnedX 24 = .ok (.iconst 1, 1) := by decide +kernel
theorem dX1_turnedX_25 : decode cX1_turnedX 25 = .ok (.iadd, 1) := by decide +kernel
theorem dX1_turnedX_26 : decode cX1_turnedX 26 = .ok (.invokestatic 28, 3) := by decide +kernel
theorem dX1_turnedX_29 : decode cX1_turnedX 29 = .ok (.iload_n 3, 1) := by decide +kernel
theorem dX1_turnedX_30 : decode cX1_turnedX 30 = .ok (.imul, 1) := by decide +kernel
theorem dX1_turnedX_31 : decode cX1_turnedX 31 = .ok (.iadd, 1) := by decide +kernel
theorem dX1_turnedX_32 : decode cX1_turnedX 32 = .ok (.ireturn, 1) := by decide +kernel
theorem kw_44 : Cond.methodLink RX1 20 yX1_lineOf ∈ ds_gw := ds_g (ds_t2 185 (by decide +kernel)) rfl
theorem kw_45 : Cond.static yX1_lineOf ∈ ds_gw := ds_g (ds_t2 186 (by decide +kernel)) rfl
theorem kw_46 : Cond.code yX1_lineOf cX1_lineOf 2 (some .int) ∈ ds_gw := ds_g (ds_t2 187 (by decide +kernel)) rfl
theorem kw_47 : Cond.fieldLink RX1 24 "OrnamentDesk$Net" "TABLE" "[I" ∈ ds_gw := ds_g (ds_t2 188 (by decide +kernel)) rfl
theorem kw_48 : Cond.methodLink RX1 28 yX1_entry ∈ ds_gw := ds_g (ds_t2 190 (by decide +kernel)) rfl
theorem kw_49 : Cond.static yX1_entry ∈ ds_gw := ds_g (ds_t2 191 (by decide +kernel)) rfl
theorem kw_50 : Cond.code yX1_entry cX1_entry 2 (some .int) ∈ ds_gw := ds_g (ds_t2 192 (by decide +kernel)) rfl
def fX1_turnedX (p1 : Int32) (p2 : Int32) (p3 : Int32) (p4 : Int32) : Option (Int32) :=
  Option.bind (fX1_lineOf p1 p2) fun q3 => Option.bind (fX1_entry_t0 ((4 : Int32) * q3)) fun q14 => Option.bind (fX1_entry_t0 (((4 : Int32) * q3) + (1 : Int32))) fun q26 => some ((q14 * p3) + (q26 * p4))
set_option maxHeartbeats 4000000 in
set_option maxRecDepth 100000 in
theorem c_X1_turnedX (l : Launch) (dC : Nat → ClassId) (dI : Nat → Nat → Nat) (ca : Nat → ClassId) (sa : Nat → Nat) (sz : Nat) (p1 : Int32) (p2 : Int32) (p3 : Int32) (p4 : Int32) (res : Int32) (hf : fX1_turnedX p1 p2 p3 p4 = some res) : Met l yX1_turnedX (Cond.code yX1_turnedX cX1_turnedX 5 (some .int) :: ds_gw) { frames := 1, cells := 0, slots := 0, locals := 21 } (va_Pc [.int p1, .int p2, .int p3, .int p4] (ds_Pre dC dI ca sa [] sz)) (va_Qi (fun r (_ : Unit) => r = res) (ds_B dC dI (va_A [] sz) []) (va_A [] sz)) 0 0 (va_A [] sz) := by
  refine Met.ofW (cc := cX1_turnedX) (maxL := 5) (ret := (some .int)) (by decide) rfl ?_
  intro p e s m args below meth c s₁ B hml hv
  obtain ⟨rfl, hsz, hP, hK, hD0, hE⟩ := hv
  have hx := B.exec
  have hb := B.bytes
  have hr := B.returns
  have hts := atoms_spec (ws := Cond.code yX1_turnedX cX1_turnedX 5 (some .int) :: ds_gw) B.pre
  have hg : ∀ {w : Cond}, w ∈ ds_gw → w.before _ s = true := fun h => hts _ (List.mem_cons_of_mem _ h)
  have hown : s.vm.findClass RX1 = some m.cls := findClass_of_methodNamed B.named
  have hlocks := B.notSynchronized
  subst hsz
  have hD := hD0.self (sz := s.heap.size)
  generalize hAe : va_A [] s.heap.size = A at hD hE ⊢
  have hA : ∀ q : Nat, s.heap.size ≤ q → A q := fun q h => by rw [← hAe]; exact Or.inr h
  have hS : va_S A s.heap s.heap [] := va_S.rf
  have hl := lv_entry ([.int p1, .int p2, .int p3, .int p4]) (n := 5) (Nat.le_of_ble_eq_true rfl)
  rw [lg_entry_eq]
  generalize (lg_sl ([.int p1, .int p2, .int p3, .int p4]) ++ List.replicate (5 - (lg_sl ([.int p1, .int p2, .int p3, .int p4])).length) Slot.unset).toArray = ls at hl ⊢
  have hl : lv_has ls 5 [(0, .int p1), (1, .int p2), (2, .int p3), (3, .int p4)] := hl
  obtain ⟨G0, eG0⟩ : ∃ G : Int32 → Prop, G = (fun r => r = res) := ⟨_, rfl⟩
  obtain ⟨rr, hrr⟩ : ∃ z, z = res := ⟨_, rfl⟩
  rw [← hrr] at hf
  have hG : G0 rr := by rw [eG0]; exact hrr
  unfold fX1_turnedX at hf
  refine lv_iconst (v := 4) hx hb dX1_turnedX_0 (by decide) ?_
  refine lv_iload_n hx hb dX1_turnedX_1 rfl (lv_at hl 0 rfl) ?_
  refine lv_iload_n hx hb dX1_turnedX_2 rfl (lv_at hl 1 rfl) ?_
  obtain ⟨q3, hq3, hf⟩ := ds_ob hf
  refine ds_calli (wr := []) (va_runS (As := [.int p1, .int p2]) (rest := [.int (4 : Int32)]) ⟨hx, hb, hml, hown, hts⟩ (c_X1_lineOf l dC dI ca sa  s.heap.size  p1 p2 q3 hq3) (va_cwS 2 hts (ds_gS kw_44 kw_45 kw_9 kw_46) rfl rfl rfl (by decide +kernel) ⟨Nat.le_of_ble_eq_true rfl, Nat.le_of_ble_eq_true rfl⟩) ⟨ds_blind, ds_at hP hD hK hE hS hA [] rfl rfl _⟩ rfl rfl hl.1 rfl (lv_room (Nat.le_of_ble_eq_true rfl)) dX1_turnedX_3 ⟨Nat.zero_le _, Nat.zero_le _⟩) hP hD hS hA [] [] rfl rfl rfl (by decide) (fun H locs hP hD hS => ?_)
  have hP : va_P (dC, dI) vwCl [] H := hP
  have hD : va_D A [] := hD
  refine lv_imul hx hb dX1_turnedX_6 ?_
  refine lv_istore (lv' := [(4, .int ((4 : Int32) * q3)), (0, .int p1), (1, .int p2), (2, .int p3), (3, .int p4)]) hx hb dX1_turnedX_7 hl (by decide) rfl (fun ls hl => ?_)
  refine va_gets (C := RX1) (n := "TABLE") (d := "[I") (v := .ref (sa 0)) hx hb hE.2.1.1 hS hown (hg kw_47) (fun _ h9 => h9) dX1_turnedX_9 ?_
  refine lv_iload hx hb dX1_turnedX_12 (lv_at hl 0 rfl) ?_
  obtain ⟨q14, hq14, hf⟩ := ds_ob hf
  refine ds_calli (wr := []) (va_runS (As := [.ref (sa 0), .int ((4 : Int32) * q3)]) (rest := []) ⟨hx, hb, hml, hown, hts⟩ (c_X1_entry_t0 l dC dI ca sa  H.size  ((4 : Int32) * q3) q14 hq14) (va_cwS 2 hts (ds_gS kw_48 kw_49 kw_9 kw_50) rfl rfl rfl (by decide +kernel) ⟨Nat.le_of_ble_eq_true rfl, Nat.le_of_ble_eq_true rfl⟩) ⟨ds_blind, ds_at hP hD hK hE hS hA [] rfl rfl _⟩ rfl rfl hl.1 rfl (lv_room (Nat.le_of_ble_eq_true rfl)) dX1_turnedX_14 ⟨Nat.zero_le _, Nat.zero_le _⟩) hP hD hS hA [] [] rfl rfl rfl (by decide) (fun H locs hP hD hS => ?_)
  have hP : va_P (dC, dI) vwCl [] H := hP
  have hD : va_D A [] := hD
  refine lv_iload_n hx hb dX1_turnedX_17 rfl (lv_at hl 3 rfl) ?_
  refine lv_imul hx hb dX1_turnedX_18 ?_
  refine va_gets (C := RX1) (n := "TABLE") (d := "[I") (v := .ref (sa 0)) hx hb hE.2.1.1 hS hown (hg kw_47) (fun _ h9 => h9) dX1_turnedX_19 ?_
  refine lv_iload hx hb dX1_turnedX_22 (lv_at hl 0 rfl) ?_
  refine lv_iconst (v := 1) hx hb dX1_turnedX_24 (by decide) ?_
  refine lv_iadd hx hb dX1_turnedX_25 ?_
  obtain ⟨q26, hq26, hf⟩ := ds_ob hf
  refine ds_calli (wr := []) (va_runS (As := [.ref (sa 0), .int (((4 : Int32) * q3) + (1 : Int32))]) (rest := [.int (q14 * p3)]) ⟨hx, hb, hml, hown, hts⟩ (c_X1_entry_t0 l dC dI ca sa  H.size  (((4 : Int32) * q3) + (1 : Int32)) q26 hq26) (va_cwS 2 hts (ds_gS kw_48 kw_49 kw_9 kw_50) rfl rfl rfl (by decide +kernel) ⟨Nat.le_of_ble_eq_true rfl, Nat.le_of_ble_eq_true rfl⟩) ⟨ds_blind, ds_at hP hD hK hE hS hA [] rfl rfl _⟩ rfl rfl hl.1 rfl (lv_room (Nat.le_of_ble_eq_true rfl)) dX1_turnedX_26 ⟨Nat.zero_le _, Nat.zero_le _⟩) hP hD hS hA [] [] rfl rfl rfl (by decide) (fun H locs hP hD hS => ?_)
  have hP : va_P (dC, dI) vwCl [] H := hP
  have hD : va_D A [] := hD
  refine lv_iload_n hx hb dX1_turnedX_29 rfl (lv_at hl 4 rfl) ?_
  refine lv_imul hx hb dX1_turnedX_30 ?_
  refine lv_iadd hx hb dX1_turnedX_31 ?_
  have hf := Option.some.inj hf
  subst hf
  rw [eG0] at hG
  have hG : _ = res := hG
  subst hG
  exact W.iret (v := ((q14 * p3) + (q26 * p4))) hx hb hr (fun t ht hW => ⟨⟨((q14 * p3) + (q26 * p4)), (), rfl, rfl, by rw [ht]; exact hP, hD⟩, hS.F ht⟩) hS.2.2 dX1_turnedX_32

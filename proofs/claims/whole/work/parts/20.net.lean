theorem dX1_turnings_0 : decode cX1_turnings 0 = .ok (.iload_n 0, 1) := by decide +kernel
theorem dX1_turnings_1 : decode cX1_turnings 1 = .ok (.ifCond .eq 8, 3) := by decide +kernel
theorem dX1_turnings_4 : decode cX1_turnings 4 = .ok (.bipush 12, 2) := by decide +kernel
theorem dX1_turnings_6 : decode cX1_turnings 6 = .ok (.goto 5, 3) := by decide +kernel
theorem dX1_turnings_9 : decode cX1_turnings 9 = .ok (.bipush 8, 2) := by decide +kernel
theorem dX1_turnings_11 : decode cX1_turnings 11 = .ok (.ireturn, 1) := by decide +kernel
def fX1_turnings (p1 : Int32) : Option (Int32) :=
  if p1 = 0 then some (8 : Int32) else some (12 : Int32)
set_option maxHeartbeats 4000000 in
set_option maxRecDepth 100000 in
theorem c_X1_turnings (l : Launch) (dC : Nat → ClassId) (dI : Nat → Nat → Nat) (ca : Nat → ClassId) (sa : Nat → Nat) (sz : Nat) (p1 : Int32) (res : Int32) (hf : fX1_turnings p1 = some res) : Met l yX1_turnings (Cond.code yX1_turnings cX1_turnings 1 (some .int) :: ds_gw) { frames := 0, cells := 0, slots := 0, locals := 0 } (va_Pc [.int p1] (ds_Pre dC dI ca sa [] sz)) (va_Qi (fun r (_ : Unit) => r = res) (ds_B dC dI (va_A [] sz) []) (va_A [] sz)) 0 0 (va_A [] sz) := by
  refine Met.ofW (cc := cX1_turnings) (maxL := 1) (ret := (some .int)) (by decide) rfl ?_
  intro p e s m args below meth c s₁ B hml hv
  obtain ⟨rfl, hsz, hP, hK, hD0, hE⟩ := hv
  have hx := B.exec
  have hb := B.bytes
  have hr := B.returns
  have hts := atoms_spec (ws := Cond.code yX1_turnings cX1_turnings 1 (some .int) :: ds_gw) B.pre
  have hg : ∀ {w : Cond}, w ∈ ds_gw → w.before _ s = true := fun h => hts _ (List.mem_cons_of_mem _ h)
  have hown : s.vm.findClass RX1 = some m.cls := findClass_of_methodNamed B.named
  have hlocks := B.notSynchronized
  subst hsz
  have hD := hD0.self (sz := s.heap.size)
  generalize hAe : va_A [] s.heap.size = A at hD hE ⊢
  have hA : ∀ q : Nat, s.heap.size ≤ q → A q := fun q h => by rw [← hAe]; exact Or.inr h
  have hS : va_S A s.heap s.heap [] := va_S.rf
  have hl := lv_entry ([.int p1]) (n := 1) (Nat.le_of_ble_eq_true rfl)
  rw [lg_entry_eq]
  generalize (lg_sl ([.int p1]) ++ List.replicate (1 - (lg_sl ([.int p1])).length) Slot.unset).toArray = ls at hl ⊢
  have hl : lv_has ls 1 [(0, .int p1)] := hl
  obtain ⟨G0, eG0⟩ : ∃ G : Int32 → Prop, G = (fun r => r = res) := ⟨_, rfl⟩
  obtain ⟨rr, hrr⟩ : ∃ z, z = res := ⟨_, rfl⟩
  rw [← hrr] at hf
  have hG : G0 rr := by subst eG0; exact hrr
  unfold fX1_turnings at hf
  refine lv_iload_n hx hb dX1_turnings_0 rfl (lv_at hl 0 rfl) ?_
  refine lv_if_eq (tgt := 9) hx hb dX1_turnings_1 (by decide) (fun c_1 => ?_) (fun c_1 => ?_)
  · replace hf := ds_t c_1 hf
    refine lv_bipush (v := 8) hx hb dX1_turnings_9 (by decide) ?_
    have hf := Option.some.inj hf
    subst hf
    rw [eG0] at hG
    have hG : _ = res := hG
    subst hG
    exact W.iret (v := (8 : Int32)) hx hb hr (fun t ht hW => ⟨⟨(8 : Int32), (), rfl, rfl, by rw [ht]; exact hP, hD⟩, hS.F ht⟩) hS.2.2 dX1_turnings_11
  · replace hf := ds_f c_1 hf
    refine lv_bipush (v := 12) hx hb dX1_turnings_4 (by decide) ?_
    refine lv_goto (tgt := 11) hx hb dX1_turnings_6 (by decide) ?_
    have hf := Option.some.inj hf
    subst hf
    rw [eG0] at hG
    have hG : _ = res := hG
    subst hG
    exact W.iret (v := (12 : Int32)) hx hb hr (fun t ht hW => ⟨⟨(12 : Int32), (), rfl, rfl, by rw [ht]; exact hP, hD⟩, hS.F ht⟩) hS.2.2 dX1_turnings_11
theorem dX1_isTurning_0 : decode cX1_isTurning 0 = .ok (.iload_n 1, 1) := by decide +kernel
theorem dX1_isTurning_1 : decode cX1_isTurning 1 = .ok (.ifCond .lt 15, 3) := by decide +kernel
theorem dX1_isTurning_4 : decode cX1_isTurning 4 = .ok (.iload_n 1, 1) := by decide +kernel
theorem dX1_isTurning_5 : decode cX1_isTurning 5 = .ok (.iload_n 0, 1) := by decide +kernel
theorem dX1_isTurning_6 : decode cX1_isTurning 6 = .ok (.invokestatic 9, 3) := by decide +kernel
theorem dX1_isTurning_9 : decode cX1_isTurning 9 = .ok (.if_icmp .ge 7, 3) := by decide +kernel
theorem dX1_isTurning_12 : decode cX1_isTurning 12 = .ok (.iconst 1, 1) := by decide +kernel
theorem dX1_isTurning_13 : decode cX1_isTurning 13 = .ok (.goto 4, 3) := by decide +kernel
theorem dX1_isTurning_16 : decode cX1_isTurning 16 = .ok (.iconst 0, 1) := by decide +kernel
theorem dX1_isTurning_17 : decode cX1_isTurning 17 = .ok (.ireturn, 1) := by decide +kernel
def fX1_isTurning (p1 : Int32) (p2 : Int32) : Option (Int32) :=
  if p2 < 0 then some (0 : Int32) else Option.bind (fX1_turnings p1) fun q6 => if q6 ≤ p2 then some (0 : Int32) else some (1 : Int32)
set_option maxHeartbeats 4000000 in
set_option maxRecDepth 100000 in
theorem c_X1_isTurning (l : Launch) (dC : Nat → ClassId) (dI : Nat → Nat → Nat) (ca : Nat → ClassId) (sa : Nat → Nat) (sz : Nat) (p1 : Int32) (p2 : Int32) (res : Int32) (hf : fX1_isTurning p1 p2 = some res) : Met l yX1_isTurning (Cond.code yX1_isTurning cX1_isTurning 2 (some .boolean) :: ds_gw) { frames := 1, cells := 0, slots := 0, locals := 20 } (va_Pc [.int p1, .int p2] (ds_Pre dC dI ca sa [] sz)) (va_Qi (fun r (_ : Unit) => r = res) (ds_B dC dI (va_A [] sz) []) (va_A [] sz)) 0 0 (va_A [] sz) := by
  refine Met.ofW (cc := cX1_isTurning) (maxL := 2) (ret := (some .boolean)) (by decide) rfl ?_
  intro p e s m args below meth c s₁ B hml hv
  obtain ⟨rfl, hsz, hP, hK, hD0, hE⟩ := hv
  have hx := B.exec
  have hb := B.bytes
  have hr := B.returns
  have hts := atoms_spec (ws := Cond.code yX1_isTurning cX1_isTurning 2 (some .boolean) :: ds_gw) B.pre
  have hg : ∀ {w : Cond}, w ∈ ds_gw → w.before _ s = true := fun h => hts _ (List.mem_cons_of_mem _ h)
  have hown : s.vm.findClass RX1 = some m.cls := findClass_of_methodNamed B.named
  have hlocks := B.notSynchronized
  subst hsz
  have hD := hD0.self (sz := s.heap.size)
  generalize hAe : va_A [] s.heap.size = A at hD hE ⊢
  have hA : ∀ q : Nat, s.heap.size ≤ q → A q := fun q h => by rw [← hAe]; exact Or.inr h
  have hS : va_S A s.heap s.heap [] := va_S.rf
  have hl := lv_entry ([.int p1, .int p2]) (n := 2) (Nat.le_of_ble_eq_true rfl)
  rw [lg_entry_eq]
  generalize (lg_sl ([.int p1, .int p2]) ++ List.replicate (2 - (lg_sl ([.int p1, .int p2])).length) Slot.unset).toArray = ls at hl ⊢
  have hl : lv_has ls 2 [(0, .int p1), (1, .int p2)] := hl
  obtain ⟨G0, eG0⟩ : ∃ G : Int32 → Prop, G = (fun r => r = res) := ⟨_, rfl⟩
  obtain ⟨rr, hrr⟩ : ∃ z, z = res := ⟨_, rfl⟩
  rw [← hrr] at hf
  have hG : G0 rr := by subst eG0; exact hrr
  unfold fX1_isTurning at hf
  refine lv_iload_n hx hb dX1_isTurning_0 rfl (lv_at hl 1 rfl) ?_
  refine lv_if_lt (tgt := 16) hx hb dX1_isTurning_1 (by decide) (fun c_1 => ?_) (fun c_1 => ?_)
  · replace hf := ds_t c_1 hf
    refine lv_iconst (v := 0) hx hb dX1_isTurning_16 (by decide) ?_
    have hf := Option.some.inj hf
    subst hf
    rw [eG0] at hG
    have hG : _ = res := hG
    subst hG
    exact W.zret (v := (0 : Int32)) (ty := .boolean) hx hb hr rfl (fun t ht hW => ⟨⟨(0 : Int32), (), rfl, rfl, by rw [ht]; exact hP, hD⟩, hS.F ht⟩) hS.2.2 dX1_isTurning_17
  · replace hf := ds_f c_1 hf
    refine lv_iload_n hx hb dX1_isTurning_4 rfl (lv_at hl 1 rfl) ?_
    refine lv_iload_n hx hb dX1_isTurning_5 rfl (lv_at hl 0 rfl) ?_
    obtain ⟨q6, hq6, hf⟩ := ds_ob hf
    refine ds_calli (wr := []) (va_runS (As := [.int p1]) (rest := [.int p2]) ⟨hx, hb, hml, hown, hts⟩ (c_X1_turnings l dC dI ca sa  s.heap.size  p1 q6 hq6) (va_cwS 1 hts (ds_gS kw_0 kw_1 kw_2 kw_3) rfl rfl rfl (by decide +kernel) ⟨Nat.le_of_ble_eq_true rfl, Nat.le_of_ble_eq_true rfl⟩) ⟨ds_blind, ds_at hP hD hK hE hS hA [] rfl rfl _⟩ rfl rfl hl.1 rfl (lv_room (Nat.le_of_ble_eq_true rfl)) dX1_isTurning_6 ⟨Nat.zero_le _, Nat.zero_le _⟩) hP hD hS hA [] [] rfl rfl rfl (by decide) (fun H locs hP hD hS => ?_)
    have hP : va_P (dC, dI) vwCl [] H := hP
    have hD : va_D A [] := hD
    refine lv_icmp_ge (tgt := 16) hx hb dX1_isTurning_9 (by decide) (fun c_9 => ?_) (fun c_9 => ?_)
    · replace hf := ds_t c_9 hf
      refine lv_iconst (v := 0) hx hb dX1_isTurning_16 (by decide) ?_
      have hf := Option.some.inj hf
      subst hf
      rw [eG0] at hG
      have hG : _ = res := hG
      subst hG
      exact W.zret (v := (0 : Int32)) (ty := .boolean) hx hb hr rfl (fun t ht hW => ⟨⟨(0 : Int32), (), rfl, rfl, by rw [ht]; exact hP, hD⟩, hS.F ht⟩) hS.2.2 dX1_isTurning_17
    · replace hf := ds_f c_9 hf
      refine lv_iconst (v := 1) hx hb dX1_isTurning_12 (by decide) ?_
      refine lv_goto (tgt := 17) hx hb dX1_isTurning_13 (by decide) ?_
      have hf := Option.some.inj hf
      subst hf
      rw [eG0] at hG
      have hG : _ = res := hG
      subst hG
      exact W.zret (v := (1 : Int32)) (ty := .boolean) hx hb hr rfl (fun t ht hW => ⟨⟨(1 : Int32), (), rfl, rfl, by rw [ht]; exact hP, hD⟩, hS.F ht⟩) hS.2.2 dX1_isTurning_17
theorem dX1_turns_0 : decode cX1_turns 0 = .ok (.iload_n 0, 1) := by decide +kernel
theorem dX1_turns_1 : decode cX1_turns 1 = .ok (.ifCond .eq 8, 3) := by decide +kernel
theorem dX1_turns_4 : decode cX1_turns 4 = .ok (.bipush 6, 2) := by decide +kernel
theorem dX1_turns_6 : decode cX1_turns 6 = .ok (.goto 4, 3) := by decide +kernel
theorem dX1_turns_9 : decode cX1_turns 9 = .ok (.iconst 4, 1) := by decide +kernel
theorem dX1_turns_10 : decode cX1_turns 10 = .ok (.ireturn, 1) := by decide +kernel
def fX1_turns (p1 : Int32) : Option (Int32) :=
  if p1 = 0 then some (4 : Int32) else some (6 : Int32)
set_option maxHeartbeats 4000000 in
set_option maxRecDepth 100000 in
theorem c_X1_turns (l : Launch) (dC : Nat → ClassId) (dI : Nat → Nat → Nat) (ca : Nat → ClassId) (sa : Nat → Nat) (sz : Nat) (p1 : Int32) (res : Int32) (hf : fX1_turns p1 = some res) : Met l yX1_turns (Cond.code yX1_turns cX1_turns 1 (some .int) :: ds_gw) { frames := 0, cells := 0, slots := 0, locals := 0 } (va_Pc [.int p1] (ds_Pre dC dI ca sa [] sz)) (va_Qi (fun r (_ : Unit) => r = res) (ds_B dC dI (va_A [] sz) []) (va_A [] sz)) 0 0 (va_A [] sz) := by
  refine Met.ofW (cc := cX1_turns) (maxL := 1) (ret := (some .int)) (by decide) rfl ?_
  intro p e s m args below meth c s₁ B hml hv
  obtain ⟨rfl, hsz, hP, hK, hD0, hE⟩ := hv
  have hx := B.exec
  have hb := B.bytes
  have hr := B.returns
  have hts := atoms_spec (ws := Cond.code yX1_turns cX1_turns 1 (some .int) :: ds_gw) B.pre
  have hg : ∀ {w : Cond}, w ∈ ds_gw → w.before _ s = true := fun h => hts _ (List.mem_cons_of_mem _ h)
  have hown : s.vm.findClass RX1 = some m.cls := findClass_of_methodNamed B.named
  have hlocks := B.notSynchronized
  subst hsz
  have hD := hD0.self (sz := s.heap.size)
  generalize hAe : va_A [] s.heap.size = A at hD hE ⊢
  have hA : ∀ q : Nat, s.heap.size ≤ q → A q := fun q h => by rw [← hAe]; exact Or.inr h
  have hS : va_S A s.heap s.heap [] := va_S.rf
  have hl := lv_entry ([.int p1]) (n := 1) (Nat.le_of_ble_eq_true rfl)
  rw [lg_entry_eq]
  generalize (lg_sl ([.int p1]) ++ List.replicate (1 - (lg_sl ([.int p1])).length) Slot.unset).toArray = ls at hl ⊢
  have hl : lv_has ls 1 [(0, .int p1)] := hl
  obtain ⟨G0, eG0⟩ : ∃ G : Int32 → Prop, G = (fun r => r = res) := ⟨_, rfl⟩
  obtain ⟨rr, hrr⟩ : ∃ z, z = res := ⟨_, rfl⟩
  rw [← hrr] at hf
  have hG : G0 rr := by subst eG0; exact hrr
  unfold fX1_turns at hf
  refine lv_iload_n hx hb dX1_turns_0 rfl (lv_at hl 0 rfl) ?_
  refine lv_if_eq (tgt := 9) hx hb dX1_turns_1 (by decide) (fun c_1 => ?_) (fun c_1 => ?_)
  · replace hf := ds_t c_1 hf
    refine lv_iconst (v := 4) hx hb dX1_turns_9 (by decide) ?_
    have hf := Option.some.inj hf
    subst hf
    rw [eG0] at hG
    have hG : _ = res := hG
    subst hG
    exact W.iret (v := (4 : Int32)) hx hb hr (fun t ht hW => ⟨⟨(4 : Int32), (), rfl, rfl, by rw [ht]; exact hP, hD⟩, hS.F ht⟩) hS.2.2 dX1_turns_10
  · replace hf := ds_f c_1 hf
    refine lv_bipush (v := 6) hx hb dX1_turns_4 (by decide) ?_
    refine lv_goto (tgt := 10) hx hb dX1_turns_6 (by decide) ?_
    have hf := Option.some.inj hf
    subst hf
    rw [eG0] at hG
    have hG : _ = res := hG
    subst hG
    exact W.iret (v := (6 : Int32)) hx hb hr (fun t ht hW => ⟨⟨(6 : Int32), (), rfl, rfl, by rw [ht]; exact hP, hD⟩, hS.F ht⟩) hS.2.2 dX1_turns_10
theorem dX1_isFlip_0 : decode cX1_isFlip 0 = .ok (.iload_n 1, 1) := by decide +kernel
theorem dX1_isFlip_1 : decode cX1_isFlip 1 = .ok (.iload_n 0, 1) := by decide +kernel
theorem dX1_isFlip_2 : decode cX1_isFlip 2 = .ok (.invokestatic 13, 3) := by decide +kernel
theorem dX1_isFlip_5 : decode cX1_isFlip 5 = .ok (.if_icmp .lt 15, 3) := by decide +kernel
theorem dX1_isFlip_8 : decode cX1_isFlip 8 = .ok (.iload_n 1, 1) := by decide +kernel
theorem dX1_isFlip_9 : decode cX1_isFlip 9 = .ok (.iload_n 0, 1) := by decide +kernel
theorem dX1_isFlip_10 : decode cX1_isFlip 10 = .ok (.invokestatic 9, 3) := by decide +kernel
theorem dX1_isFlip_13 : decode cX1_isFlip 13 = .ok (.if_icmp .ge 7, 3) := by decide +kernel
theorem dX1_isFlip_16 : decode cX1_isFlip 16 = .ok (.iconst 1, 1) := by decide +kernel
theorem dX1_isFlip_17 : decode cX1_isFlip 17 = .ok (.goto 4, 3) := by decide +kernel
theorem dX1_isFlip_20 : decode cX1_isFlip 20 = .ok (.iconst 0, 1) := by decide +kernel
theorem dX1_isFlip_21 : decode cX1_isFlip 21 = .ok (.ireturn, 1) := by decide +kernel
def fX1_isFlip (p1 : Int32) (p2 : Int32) : Option (Int32) :=
  Option.bind (fX1_turns p1) fun q2 => if p2 < q2 then some (0 : Int32) else Option.bind (fX1_turnings p1) fun q10 => if q10 ≤ p2 then some (0 : Int32) else some (1 : Int32)
set_option maxHeartbeats 4000000 in
set_option maxRecDepth 100000 in
theorem c_X1_isFlip (l : Launch) (dC : Nat → ClassId) (dI : Nat → Nat → Nat) (ca : Nat → ClassId) (sa : Nat → Nat) (sz : Nat) (p1 : Int32) (p2 : Int32) (res : Int32) (hf : fX1_isFlip p1 p2 = some res) : Met l yX1_isFlip (Cond.code yX1_isFlip cX1_isFlip 2 (some .boolean) :: ds_gw) { frames := 1, cells := 0, slots := 0, locals := 20 } (va_Pc [.int p1, .int p2] (ds_Pre dC dI ca sa [] sz)) (va_Qi (fun r (_ : Unit) => r = res) (ds_B dC dI (va_A [] sz) []) (va_A [] sz)) 0 0 (va_A [] sz) := by
  refine Met.ofW (cc := cX1_isFlip) (maxL := 2) (ret := (some .boolean)) (by decide) rfl ?_
  intro p e s m args below meth c s₁ B hml hv
  obtain ⟨rfl, hsz, hP, hK, hD0, hE⟩ := hv
  have hx := B.exec
  have hb := B.bytes
  have hr := B.returns
  have hts := atoms_spec (ws := Cond.code yX1_isFlip cX1_isFlip 2 (some .boolean) :: ds_gw) B.pre
  have hg : ∀ {w : Cond}, w ∈ ds_gw → w.before _ s = true := fun h => hts _ (List.mem_cons_of_mem _ h)
  have hown : s.vm.findClass RX1 = some m.cls := findClass_of_methodNamed B.named
  have hlocks := B.notSynchronized
  subst hsz
  have hD := hD0.self (sz := s.heap.size)
  generalize hAe : va_A [] s.heap.size = A at hD hE ⊢
  have hA : ∀ q : Nat, s.heap.size ≤ q → A q := fun q h => by rw [← hAe]; exact Or.inr h
  have hS : va_S A s.heap s.heap [] := va_S.rf
  have hl := lv_entry ([.int p1, .int p2]) (n := 2) (Nat.le_of_ble_eq_true rfl)
  rw [lg_entry_eq]
  generalize (lg_sl ([.int p1, .int p2]) ++ List.replicate (2 - (lg_sl ([.int p1, .int p2])).length) Slot.unset).toArray = ls at hl ⊢
  have hl : lv_has ls 2 [(0, .int p1), (1, .int p2)] := hl
  obtain ⟨G0, eG0⟩ : ∃ G : Int32 → Prop, G = (fun r => r = res) := ⟨_, rfl⟩
  obtain ⟨rr, hrr⟩ : ∃ z, z = res := ⟨_, rfl⟩
  rw [← hrr] at hf
  have hG : G0 rr := by subst eG0; exact hrr
  unfold fX1_isFlip at hf
  refine lv_iload_n hx hb dX1_isFlip_0 rfl (lv_at hl 1 rfl) ?_
  refine lv_iload_n hx hb dX1_isFlip_1 rfl (lv_at hl 0 rfl) ?_
  obtain ⟨q2, hq2, hf⟩ := ds_ob hf
  refine ds_calli (wr := []) (va_runS (As := [.int p1]) (rest := [.int p2]) ⟨hx, hb, hml, hown, hts⟩ (c_X1_turns l dC dI ca sa  s.heap.size  p1 q2 hq2) (va_cwS 1 hts (ds_gS kw_4 kw_5 kw_2 kw_6) rfl rfl rfl (by decide +kernel) ⟨Nat.le_of_ble_eq_true rfl, Nat.le_of_ble_eq_true rfl⟩) ⟨ds_blind, ds_at hP hD hK hE hS hA [] rfl rfl _⟩ rfl rfl hl.1 rfl (lv_room (Nat.le_of_ble_eq_true rfl)) dX1_isFlip_2 ⟨Nat.zero_le _, Nat.zero_le _⟩) hP hD hS hA [] [] rfl rfl rfl (by decide) (fun H locs hP hD hS => ?_)
  have hP : va_P (dC, dI) vwCl [] H := hP
  have hD : va_D A [] := hD
  refine lv_icmp_lt (tgt := 20) hx hb dX1_isFlip_5 (by decide) (fun c_5 => ?_) (fun c_5 => ?_)
  · replace hf := ds_t c_5 hf
    refine lv_iconst (v := 0) hx hb dX1_isFlip_20 (by decide) ?_
    have hf := Option.some.inj hf
    subst hf
    rw [eG0] at hG
    have hG : _ = res := hG
    subst hG
    exact W.zret (v := (0 : Int32)) (ty := .boolean) hx hb hr rfl (fun t ht hW => ⟨⟨(0 : Int32), (), rfl, rfl, by rw [ht]; exact hP, hD⟩, hS.F ht⟩) hS.2.2 dX1_isFlip_21
  · replace hf := ds_f c_5 hf
    refine lv_iload_n hx hb dX1_isFlip_8 rfl (lv_at hl 1 rfl) ?_
    refine lv_iload_n hx hb dX1_isFlip_9 rfl (lv_at hl 0 rfl) ?_
    obtain ⟨q10, hq10, hf⟩ := ds_ob hf
    refine ds_calli (wr := []) (va_runS (As := [.int p1]) (rest := [.int p2]) ⟨hx, hb, hml, hown, hts⟩ (c_X1_turnings l dC dI ca sa  H.size  p1 q10 hq10) (va_cwS 1 hts (ds_gS kw_0 kw_1 kw_2 kw_3) rfl rfl rfl (by decide +kernel) ⟨Nat.le_of_ble_eq_true rfl, Nat.le_of_ble_eq_true rfl⟩) ⟨ds_blind, ds_at hP hD hK hE hS hA [] rfl rfl _⟩ rfl rfl hl.1 rfl (lv_room (Nat.le_of_ble_eq_true rfl)) dX1_isFlip_10 ⟨Nat.zero_le _, Nat.zero_le _⟩) hP hD hS hA [] [] rfl rfl rfl (by decide) (fun H locs hP hD hS => ?_)
    have hP : va_P (dC, dI) vwCl [] H := hP
    have hD : va_D A [] := hD
    refine lv_icmp_ge (tgt := 20) hx hb dX1_isFlip_13 (by decide) (fun c_13 => ?_) (fun c_13 => ?_)
    · replace hf := ds_t c_13 hf
      refine lv_iconst (v := 0) hx hb dX1_isFlip_20 (by decide) ?_
      have hf := Option.some.inj hf
      subst hf
      rw [eG0] at hG
      have hG : _ = res := hG
      subst hG
      exact W.zret (v := (0 : Int32)) (ty := .boolean) hx hb hr rfl (fun t ht hW => ⟨⟨(0 : Int32), (), rfl, rfl, by rw [ht]; exact hP, hD⟩, hS.F ht⟩) hS.2.2 dX1_isFlip_21
    · replace hf := ds_f c_13 hf
      refine lv_iconst (v := 1) hx hb dX1_isFlip_16 (by decide) ?_
      refine lv_goto (tgt := 21) hx hb dX1_isFlip_17 (by decide) ?_
      have hf := Option.some.inj hf
      subst hf
      rw [eG0] at hG
      have hG : _ = res := hG
      subst hG
      exact W.zret (v := (1 : Int32)) (ty := .boolean) hx hb hr rfl (fun t ht hW => ⟨⟨(1 : Int32), (), rfl, rfl, by rw [ht]; exact hP, hD⟩, hS.F ht⟩) hS.2.2 dX1_isFlip_21
theorem dX1_inverse_0 : decode cX1_inverse 0 = .ok (.iload_n 1, 1) := by decide +kernel
theorem dX1_inverse_1 : decode cX1_inverse 1 = .ok (.ifCond .le 11, 3) := by decide +kernel
theorem dX1_inverse_4 : decode cX1_inverse 4 = .ok (.iload_n 0, 1) := by decide +kernel
theorem dX1_inverse_5 : decode cX1_inverse 5 = .ok (.iload_n 1, 1) := by decide +kernel
theorem dX1_inverse_6 : decode cX1_inverse 6 = .ok (.invokestatic 16, 3) := by decide +kernel
theorem dX1_inverse_9 : decode cX1_inverse 9 = .ok (.ifCond .eq 5, 3) := by decide +kernel
theorem dX1_inverse_12 : decode cX1_inverse 12 = .ok (.iload_n 1, 1) := by decide +kernel
theorem dX1_inverse_13 : decode cX1_inverse 13 = .ok (.ireturn, 1) := by decide +kernel
theorem dX1_inverse_14 : decode cX1_inverse 14 = .ok (.iload_n 0, 1) := by decide +kernel
theorem dX1_inverse_15 : decode cX1_inverse 15 = .ok (.invokestatic 13, 3) := by decide +kernel
theorem dX1_inverse_18 : decode cX1_inverse 18 = .ok (.iload_n 1, 1) := by decide +kernel
theorem dX1_inverse_19 : decode cX1_inverse 19 = .ok (.isub, 1) := by decide +kernel
theorem dX1_inverse_20 : decode cX1_inverse 20 = .ok (.ireturn, 1) := by decide +kernel
def fX1_inverse (p1 : Int32) (p2 : Int32) : Option (Int32) :=
  if p2 ≤ 0 then some p2 else Option.bind (fX1_isFlip p1 p2) fun q6 => if q6 = 0 then Option.bind (fX1_turns p1) fun q15 => some (q15 - p2) else some p2
set_option maxHeartbeats 4000000 in
set_option maxRecDepth 100000 in
theorem c_X1_inverse (l : Launch) (dC : Nat → ClassId) (dI : Nat → Nat → Nat) (ca : Nat → ClassId) (sa : Nat → Nat) (sz : Nat) (p1 : Int32) (p2 : Int32) (res : Int32) (hf : fX1_inverse p1 p2 = some res) : Met l yX1_inverse (Cond.code yX1_inverse cX1_inverse 2 (some .int) :: ds_gw) { frames := 2, cells := 0, slots := 0, locals := 41 } (va_Pc [.int p1, .int p2] (ds_Pre dC dI ca sa [] sz)) (va_Qi (fun r (_ : Unit) => r = res) (ds_B dC dI (va_A [] sz) []) (va_A [] sz)) 0 0 (va_A [] sz) := by
  refine Met.ofW (cc := cX1_inverse) (maxL := 2) (ret := (some .int)) (by decide) rfl ?_
  intro p e s m args below meth c s₁ B hml hv
  obtain ⟨rfl, hsz, hP, hK, hD0, hE⟩ := hv
  have hx := B.exec
  have hb := B.bytes
  have hr := B.returns
  have hts := atoms_spec (ws := Cond.code yX1_inverse cX1_inverse 2 (some .int) :: ds_gw) B.pre
  have hg : ∀ {w : Cond}, w ∈ ds_gw → w.before _ s = true := fun h => hts _ (List.mem_cons_of_mem _ h)
  have hown : s.vm.findClass RX1 = some m.cls := findClass_of_methodNamed B.named
  have hlocks := B.notSynchronized
  subst hsz
  have hD := hD0.self (sz := s.heap.size)
  generalize hAe : va_A [] s.heap.size = A at hD hE ⊢
  have hA : ∀ q : Nat, s.heap.size ≤ q → A q := fun q h => by rw [← hAe]; exact Or.inr h
  have hS : va_S A s.heap s.heap [] := va_S.rf
  have hl := lv_entry ([.int p1, .int p2]) (n := 2) (Nat.le_of_ble_eq_true rfl)
  rw [lg_entry_eq]
  generalize (lg_sl ([.int p1, .int p2]) ++ List.replicate (2 - (lg_sl ([.int p1, .int p2])).length) Slot.unset).toArray = ls at hl ⊢
  have hl : lv_has ls 2 [(0, .int p1), (1, .int p2)] := hl
  obtain ⟨G0, eG0⟩ : ∃ G : Int32 → Prop, G = (fun r => r = res) := ⟨_, rfl⟩
  obtain ⟨rr, hrr⟩ : ∃ z, z = res := ⟨_, rfl⟩
  rw [← hrr] at hf
  have hG : G0 rr := by subst eG0; exact hrr
  unfold fX1_inverse at hf
  refine lv_iload_n hx hb dX1_inverse_0 rfl (lv_at hl 1 rfl) ?_
  refine lv_if_le (tgt := 12) hx hb dX1_inverse_1 (by decide) (fun c_1 => ?_) (fun c_1 => ?_)
  · replace hf := ds_t c_1 hf
    refine lv_iload_n hx hb dX1_inverse_12 rfl (lv_at hl 1 rfl) ?_
    have hf := Option.some.inj hf
    subst hf
    rw [eG0] at hG
    have hG : _ = res := hG
    subst hG
    exact W.iret (v := p2) hx hb hr (fun t ht hW => ⟨⟨p2, (), rfl, rfl, by rw [ht]; exact hP, hD⟩, hS.F ht⟩) hS.2.2 dX1_inverse_13
  · replace hf := ds_f c_1 hf
    refine lv_iload_n hx hb dX1_inverse_4 rfl (lv_at hl 0 rfl) ?_
    refine lv_iload_n hx hb dX1_inverse_5 rfl (lv_at hl 1 rfl) ?_
    obtain ⟨q6, hq6, hf⟩ := ds_ob hf
    refine ds_calli (wr := []) (va_runS (As := [.int p1, .int p2]) (rest := []) ⟨hx, hb, hml, hown, hts⟩ (c_X1_isFlip l dC dI ca sa  s.heap.size  p1 p2 q6 hq6) (va_cwS 2 hts (ds_gS kw_7 kw_8 kw_2 kw_9) rfl rfl rfl (by decide +kernel) ⟨Nat.le_of_ble_eq_true rfl, Nat.le_of_ble_eq_true rfl⟩) ⟨ds_blind, ds_at hP hD hK hE hS hA [] rfl rfl _⟩ rfl rfl hl.1 rfl (lv_room (Nat.le_of_ble_eq_true rfl)) dX1_inverse_6 ⟨Nat.zero_le _, Nat.zero_le _⟩) hP hD hS hA [] [] rfl rfl rfl (by decide) (fun H locs hP hD hS => ?_)
    have hP : va_P (dC, dI) vwCl [] H := hP
    have hD : va_D A [] := hD
    refine lv_if_eq (tgt := 14) hx hb dX1_inverse_9 (by decide) (fun c_9 => ?_) (fun c_9 => ?_)
    · replace hf := ds_t c_9 hf
      refine lv_iload_n hx hb dX1_inverse_14 rfl (lv_at hl 0 rfl) ?_
      obtain ⟨q15, hq15, hf⟩ := ds_ob hf
      refine ds_calli (wr := []) (va_runS (As := [.int p1]) (rest := []) ⟨hx, hb, hml, hown, hts⟩ (c_X1_turns l dC dI ca sa  H.size  p1 q15 hq15) (va_cwS 1 hts (ds_gS kw_4 kw_5 kw_2 kw_6) rfl rfl rfl (by decide +kernel) ⟨Nat.le_of_ble_eq_true rfl, Nat.le_of_ble_eq_true rfl⟩) ⟨ds_blind, ds_at hP hD hK hE hS hA [] rfl rfl _⟩ rfl rfl hl.1 rfl (lv_room (Nat.le_of_ble_eq_true rfl)) dX1_inverse_15 ⟨Nat.zero_le _, Nat.zero_le _⟩) hP hD hS hA [] [] rfl rfl rfl (by decide) (fun H locs hP hD hS => ?_)
      have hP : va_P (dC, dI) vwCl [] H := hP
      have hD : va_D A [] := hD
      refine lv_iload_n hx hb dX1_inverse_18 rfl (lv_at hl 1 rfl) ?_
      refine lv_isub hx hb dX1_inverse_19 ?_
      have hf := Option.some.inj hf
      subst hf
      rw [eG0] at hG
      have hG : _ = res := hG
      subst hG
      exact W.iret (v := (q15 - p2)) hx hb hr (fun t ht hW => ⟨⟨(q15 - p2), (), rfl, rfl, by rw [ht]; exact hP, hD⟩, hS.F ht⟩) hS.2.2 dX1_inverse_20
    · replace hf := ds_f c_9 hf
      refine lv_iload_n hx hb dX1_inverse_12 rfl (lv_at hl 1 rfl) ?_
      have hf := Option.some.inj hf
      subst hf
      rw [eG0] at hG
      have hG : _ = res := hG
      subst hG
      exact W.iret (v := p2) hx hb hr (fun t ht hW => ⟨⟨p2, (), rfl, rfl, by rw [ht]; exact hP, hD⟩, hS.F ht⟩) hS.2.2 dX1_inverse_13
theorem dX1_lineOf_0 : decode cX1_lineOf 0 = .ok (.iload_n 0, 1) := by decide +kernel
theorem dX1_lineOf_1 : decode cX1_lineOf 1 = .ok (.ifCond .eq 10, 3) := by decide +kernel
theorem dX1_lineOf_4 : decode cX1_lineOf 4 = .ok (.bipush 8, 2) := by decide +kernel
theorem dX1_lineOf_6 : decode cX1_lineOf 6 = .ok (.iload_n 1, 1) := by decide +kernel
theorem dX1_lineOf_7 : decode cX1_lineOf 7 = .ok (.iadd, 1) := by decide +kernel
theorem dX1_lineOf_8 : decode cX1_lineOf 8 = .ok (.goto 4, 3) := by decide +kernel
theorem dX1_lineOf_11 : decode cX1_lineOf 11 = .ok (.iload_n 1, 1) := by decide +kernel
theorem dX1_lineOf_12 : decode cX1_lineOf 12 = .ok (.ireturn, 1) := by decide +kernel
def fX1_lineOf (p1 : Int32) (p2 : Int32) : Option (Int32) :=
  if p1 = 0 then some p2 else some ((8 : Int32) + p2)
set_option maxHeartbeats 4000000 in
set_option maxRecDepth 100000 in
theorem c_X1_lineOf (l : Launch) (dC : Nat → ClassId) (dI : Nat → Nat → Nat) (ca : Nat → ClassId) (sa : Nat → Nat) (sz : Nat) (p1 : Int32) (p2 : Int32) (res : Int32) (hf : fX1_lineOf p1 p2 = some res) : Met l yX1_lineOf (Cond.code yX1_lineOf cX1_lineOf 2 (some .int) :: ds_gw) { frames := 0, cells := 0, slots := 0, locals := 0 } (va_Pc [.int p1, .int p2] (ds_Pre dC dI ca sa [] sz)) (va_Qi (fun r (_ : Unit) => r = res) (ds_B dC dI (va_A [] sz) []) (va_A [] sz)) 0 0 (va_A [] sz) := by
  refine Met.ofW (cc := cX1_lineOf) (maxL := 2) (ret := (some .int)) (by decide) rfl ?_
  intro p e s m args below meth c s₁ B hml hv
  obtain ⟨rfl, hsz, hP, hK, hD0, hE⟩ := hv
  have hx := B.exec
  have hb := B.bytes
  have hr := B.returns
  have hts := atoms_spec (ws := Cond.code yX1_lineOf cX1_lineOf 2 (some .int) :: ds_gw) B.pre
  have hg : ∀ {w : Cond}, w ∈ ds_gw → w.before _ s = true := fun h => hts _ (List.mem_cons_of_mem _ h)
  have hown : s.vm.findClass RX1 = some m.cls := findClass_of_methodNamed B.named
  have hlocks := B.notSynchronized
  subst hsz
  have hD := hD0.self (sz := s.heap.size)
  generalize hAe : va_A [] s.heap.size = A at hD hE ⊢
  have hA : ∀ q : Nat, s.heap.size ≤ q → A q := fun q h => by rw [← hAe]; exact Or.inr h
  have hS : va_S A s.heap s.heap [] := va_S.rf
  have hl := lv_entry ([.int p1, .int p2]) (n := 2) (Nat.le_of_ble_eq_true rfl)
  rw [lg_entry_eq]
  generalize (lg_sl ([.int p1, .int p2]) ++ List.replicate (2 - (lg_sl ([.int p1, .int p2])).length) Slot.unset).toArray = ls at hl ⊢
  have hl : lv_has ls 2 [(0, .int p1), (1, .int p2)] := hl
  obtain ⟨G0, eG0⟩ : ∃ G : Int32 → Prop, G = (fun r => r = res) := ⟨_, rfl⟩
  obtain ⟨rr, hrr⟩ : ∃ z, z = res := ⟨_, rfl⟩
  rw [← hrr] at hf
  have hG : G0 rr := by subst eG0; exact hrr
  unfold fX1_lineOf at hf
  refine lv_iload_n hx hb dX1_lineOf_0 rfl (lv_at hl 0 rfl) ?_
  refine lv_if_eq (tgt := 11) hx hb dX1_lineOf_1 (by decide) (fun c_1 => ?_) (fun c_1 => ?_)
  · replace hf := ds_t c_1 hf
    refine lv_iload_n hx hb dX1_lineOf_11 rfl (lv_at hl 1 rfl) ?_
    have hf := Option.some.inj hf
    subst hf
    rw [eG0] at hG
    have hG : _ = res := hG
    subst hG
    exact W.iret (v := p2) hx hb hr (fun t ht hW => ⟨⟨p2, (), rfl, rfl, by rw [ht]; exact hP, hD⟩, hS.F ht⟩) hS.2.2 dX1_lineOf_12
  · replace hf := ds_f c_1 hf
    refine lv_bipush (v := 8) hx hb dX1_lineOf_4 (by decide) ?_
    refine lv_iload_n hx hb dX1_lineOf_6 rfl (lv_at hl 1 rfl) ?_
    refine lv_iadd hx hb dX1_lineOf_7 ?_
    refine lv_goto (tgt := 12) hx hb dX1_lineOf_8 (by decide) ?_
    have hf := Option.some.inj hf
    subst hf
    rw [eG0] at hG
    have hG : _ = res := hG
    subst hG
    exact W.iret (v := ((8 : Int32) + p2)) hx hb hr (fun t ht hW => ⟨⟨((8 : Int32) + p2), (), rfl, rfl, by rw [ht]; exact hP, hD⟩, hS.F ht⟩) hS.2.2 dX1_lineOf_12
theorem dX1_entry_0 : decode cX1_entry 0 = .ok (.iload_n 1, 1) := by decide +kernel
theorem dX1_entry_1 : decode cX1_entry 1 = .ok (.ifCond .lt 15, 3) := by decide +kernel
theorem dX1_entry_4 : decode cX1_entry 4 = .ok (.iload_n 1, 1) := by decide +kernel
theorem dX1_entry_5 : decode cX1_entry 5 = .ok (.aload_n 0, 1) := by decide +kernel
theorem dX1_entry_6 : decode cX1_entry 6 = .ok (.arraylength, 1) := by decide +kernel
theorem dX1_entry_7 : decode cX1_entry 7 = .ok (.if_icmp .ge 9, 3) := by decide +kernel
theorem dX1_entry_10 : decode cX1_entry 10 = .ok (.aload_n 0, 1) := by decide +kernel
theorem dX1_entry_11 : decode cX1_entry 11 = .ok (.iload_n 1, 1) := by decide +kernel
theorem dX1_entry_12 : decode cX1_entry 12 = .ok (.iaload, 1) := by decide +kernel
theorem dX1_entry_13 : decode cX1_entry 13 = .ok (.goto 4, 3) := by decide +kernel
theorem dX1_entry_16 : decode cX1_entry 16 = .ok (.iconst 0, 1) := by decide +kernel
theorem dX1_entry_17 : decode cX1_entry 17 = .ok (.ireturn, 1) := by decide +kernel
def fX1_entry_t0 (p2 : Int32) : Option (Int32) :=
  if p2 < 0 then some (0 : Int32) else if (80 : Int32) ≤ p2 then some (0 : Int32) else if ds_in p2 80 = true then some (ds_tabF p2.toNatClampNeg) else none
set_option maxHeartbeats 4000000 in
set_option maxRecDepth 100000 in
theorem c_X1_entry_t0 (l : Launch) (dC : Nat → ClassId) (dI : Nat → Nat → Nat) (ca : Nat → ClassId) (sa : Nat → Nat) (sz : Nat) (p2 : Int32) (res : Int32) (hf : fX1_entry_t0 p2 = some res) : Met l yX1_entry (Cond.code yX1_entry cX1_entry 2 (some .int) :: ds_gw) { frames := 0, cells := 0, slots := 0, locals := 0 } (va_Pc [.ref (sa 0), .int p2] (ds_Pre dC dI ca sa [] sz)) (va_Qi (fun r (_ : Unit) => r = res) (ds_B dC dI (va_A [] sz) []) (va_A [] sz)) 0 0 (va_A [] sz) := by
  refine Met.ofW (cc := cX1_entry) (maxL := 2) (ret := (some .int)) (by decide) rfl ?_
  intro p e s m args below meth c s₁ B hml hv
  obtain ⟨rfl, hsz, hP, hK, hD0, hE⟩ := hv
  have hx := B.exec
  have hb := B.bytes
  have hr := B.returns
  have hts := atoms_spec (ws := Cond.code yX1_entry cX1_entry 2 (some .int) :: ds_gw) B.pre
  have hg : ∀ {w : Cond}, w ∈ ds_gw → w.before _ s = true := fun h => hts _ (List.mem_cons_of_mem _ h)
  have hown : s.vm.findClass RX1 = some m.cls := findClass_of_methodNamed B.named
  have hlocks := B.notSynchronized
  subst hsz
  have hD := hD0.self (sz := s.heap.size)
  generalize hAe : va_A [] s.heap.size = A at hD hE ⊢
  have hA : ∀ q : Nat, s.heap.size ≤ q → A q := fun q h => by rw [← hAe]; exact Or.inr h
  have hS : va_S A s.heap s.heap [] := va_S.rf
  have hl := lv_entry ([.ref (sa 0), .int p2]) (n := 2) (Nat.le_of_ble_eq_true rfl)
  rw [lg_entry_eq]
  generalize (lg_sl ([.ref (sa 0), .int p2]) ++ List.replicate (2 - (lg_sl ([.ref (sa 0), .int p2])).length) Slot.unset).toArray = ls at hl ⊢
  have hl : lv_has ls 2 [(0, .ref (sa 0)), (1, .int p2)] := hl
  obtain ⟨G0, eG0⟩ : ∃ G : Int32 → Prop, G = (fun r => r = res) := ⟨_, rfl⟩
  obtain ⟨rr, hrr⟩ : ∃ z, z = res := ⟨_, rfl⟩
  rw [← hrr] at hf
  have hG : G0 rr := by subst eG0; exact hrr
  unfold fX1_entry_t0 at hf
  refine lv_iload_n hx hb dX1_entry_0 rfl (lv_at hl 1 rfl) ?_
  refine lv_if_lt (tgt := 16) hx hb dX1_entry_1 (by decide) (fun c_1 => ?_) (fun c_1 => ?_)
  · replace hf := ds_t c_1 hf
    refine lv_iconst (v := 0) hx hb dX1_entry_16 (by decide) ?_
    have hf := Option.some.inj hf
    subst hf
    rw [eG0] at hG
    have hG : _ = res := hG
    subst hG
    exact W.iret (v := (0 : Int32)) hx hb hr (fun t ht hW => ⟨⟨(0 : Int32), (), rfl, rfl, by rw [ht]; exact hP, hD⟩, hS.F ht⟩) hS.2.2 dX1_entry_17
  · replace hf := ds_f c_1 hf
    refine lv_iload_n hx hb dX1_entry_4 rfl (lv_at hl 1 rfl) ?_
    refine lv_aload_n hx hb dX1_entry_5 rfl (lv_at hl 0 rfl) ?_
    refine va_tlen (v := 80) hx hb hE.2.1.2 hS rfl dX1_entry_6 ?_
    refine lv_icmp_ge (tgt := 16) hx hb dX1_entry_7 (by decide) (fun c_7 => ?_) (fun c_7 => ?_)
    · replace hf := ds_t c_7 hf
      refine lv_iconst (v := 0) hx hb dX1_entry_16 (by decide) ?_
      have hf := Option.some.inj hf
      subst hf
      rw [eG0] at hG
      have hG : _ = res := hG
      subst hG
      exact W.iret (v := (0 : Int32)) hx hb hr (fun t ht hW => ⟨⟨(0 : Int32), (), rfl, rfl, by rw [ht]; exact hP, hD⟩, hS.F ht⟩) hS.2.2 dX1_entry_17
    · replace hf := ds_f c_7 hf
      refine lv_aload_n hx hb dX1_entry_10 rfl (lv_at hl 0 rfl) ?_
      refine lv_iload_n hx hb dX1_entry_11 rfl (lv_at hl 1 rfl) ?_
      obtain ⟨i_12, hf⟩ := ds_ci hf
      refine va_ti (v := .int (ds_tabF p2.toNatClampNeg)) hx hb hE.2.1.2 hS i_12 rfl dX1_entry_12 ?_
      refine lv_goto (tgt := 17) hx hb dX1_entry_13 (by decide) ?_
      have hf := Option.some.inj hf
      subst hf
      rw [eG0] at hG
      have hG : _ = res := hG
      subst hG
      exact W.iret (v := (ds_tabF p2.toNatClampNeg)) hx hb hr (fun t ht hW => ⟨⟨(ds_tabF p2.toNatClampNeg), (), rfl, rfl, by rw [ht]; exact hP, hD⟩, hS.F ht⟩) hS.2.2 dX1_entry_17
def fX1_entry_t1 (p2 : Int32) : Option (Int32) :=
  if p2 < 0 then some (0 : Int32) else if (40 : Int32) ≤ p2 then some (0 : Int32) else if ds_in p2 40 = true then some (ds_acrF p2.toNatClampNeg) else none
set_option maxHeartbeats 4000000 in
set_option maxRecDepth 100000 in
theorem c_X1_entry_t1 (l : Launch) (dC : Nat → ClassId) (dI : Nat → Nat → Nat) (ca : Nat → ClassId) (sa : Nat → Nat) (sz : Nat) (p2 : Int32) (res : Int32) (hf : fX1_entry_t1 p2 = some res) : Met l yX1_entry (Cond.code yX1_entry cX1_entry 2 (some .int) :: ds_gw) { frames := 0, cells := 0, slots := 0, locals := 0 } (va_Pc [.ref (sa 1), .int p2] (ds_Pre dC dI ca sa [] sz)) (va_Qi (fun r (_ : Unit) => r = res) (ds_B dC dI (va_A [] sz) []) (va_A [] sz)) 0 0 (va_A [] sz) := by
  refine Met.ofW (cc := cX1_entry) (maxL := 2) (ret := (some .int)) (by decide) rfl ?_
  intro p e s m args below meth c s₁ B hml hv
  obtain ⟨rfl, hsz, hP, hK, hD0, hE⟩ := hv
  have hx := B.exec
  have hb := B.bytes
  have hr := B.returns
  have hts := atoms_spec (ws := Cond.code yX1_entry cX1_entry 2 (some .int) :: ds_gw) B.pre
  have hg : ∀ {w : Cond}, w ∈ ds_gw → w.before _ s = true := fun h => hts _ (List.mem_cons_of_mem _ h)
  have hown : s.vm.findClass RX1 = some m.cls := findClass_of_methodNamed B.named
  have hlocks := B.notSynchronized
  subst hsz
  have hD := hD0.self (sz := s.heap.size)
  generalize hAe : va_A [] s.heap.size = A at hD hE ⊢
  have hA : ∀ q : Nat, s.heap.size ≤ q → A q := fun q h => by rw [← hAe]; exact Or.inr h
  have hS : va_S A s.heap s.heap [] := va_S.rf
  have hl := lv_entry ([.ref (sa 1), .int p2]) (n := 2) (Nat.le_of_ble_eq_true rfl)
  rw [lg_entry_eq]
  generalize (lg_sl ([.ref (sa 1), .int p2]) ++ List.replicate (2 - (lg_sl ([.ref (sa 1), .int p2])).length) Slot.unset).toArray = ls at hl ⊢
  have hl : lv_has ls 2 [(0, .ref (sa 1)), (1, .int p2)] := hl
  obtain ⟨G0, eG0⟩ : ∃ G : Int32 → Prop, G = (fun r => r = res) := ⟨_, rfl⟩
  obtain ⟨rr, hrr⟩ : ∃ z, z = res := ⟨_, rfl⟩
  rw [← hrr] at hf
  have hG : G0 rr := by subst eG0; exact hrr
  unfold fX1_entry_t1 at hf
  refine lv_iload_n hx hb dX1_entry_0 rfl (lv_at hl 1 rfl) ?_
  refine lv_if_lt (tgt := 16) hx hb dX1_entry_1 (by decide) (fun c_1 => ?_) (fun c_1 => ?_)
  · replace hf := ds_t c_1 hf
    refine lv_iconst (v := 0) hx hb dX1_entry_16 (by decide) ?_
    have hf := Option.some.inj hf
    subst hf
    rw [eG0] at hG
    have hG : _ = res := hG
    subst hG
    exact W.iret (v := (0 : Int32)) hx hb hr (fun t ht hW => ⟨⟨(0 : Int32), (), rfl, rfl, by rw [ht]; exact hP, hD⟩, hS.F ht⟩) hS.2.2 dX1_entry_17
  · replace hf := ds_f c_1 hf
    refine lv_iload_n hx hb dX1_entry_4 rfl (lv_at hl 1 rfl) ?_
    refine lv_aload_n hx hb dX1_entry_5 rfl (lv_at hl 0 rfl) ?_
    refine va_tlen (v := 40) hx hb hE.2.2.1.2 hS rfl dX1_entry_6 ?_
    refine lv_icmp_ge (tgt := 16) hx hb dX1_entry_7 (by decide) (fun c_7 => ?_) (fun c_7 => ?_)
    · replace hf := ds_t c_7 hf
      refine lv_iconst (v := 0) hx hb dX1_entry_16 (by decide) ?_
      have hf := Option.some.inj hf
      subst hf
      rw [eG0] at hG
      have hG : _ = res := hG
      subst hG
      exact W.iret (v := (0 : Int32)) hx hb hr (fun t ht hW => ⟨⟨(0 : Int32), (), rfl, rfl, by rw [ht]; exact hP, hD⟩, hS.F ht⟩) hS.2.2 dX1_entry_17
    · replace hf := ds_f c_7 hf
      refine lv_aload_n hx hb dX1_entry_10 rfl (lv_at hl 0 rfl) ?_
      refine lv_iload_n hx hb dX1_entry_11 rfl (lv_at hl 1 rfl) ?_
      obtain ⟨i_12, hf⟩ := ds_ci hf
      refine va_ti (v := .int (ds_acrF p2.toNatClampNeg)) hx hb hE.2.2.1.2 hS i_12 rfl dX1_entry_12 ?_
      refine lv_goto (tgt := 17) hx hb dX1_entry_13 (by decide) ?_
      have hf := Option.some.inj hf
      subst hf
      rw [eG0] at hG
      have hG : _ = res := hG
      subst hG
      exact W.iret (v := (ds_acrF p2.toNatClampNeg)) hx hb hr (fun t ht hW => ⟨⟨(ds_acrF p2.toNatClampNeg), (), rfl, rfl, by rw [ht]; exact hP, hD⟩, hS.F ht⟩) hS.2.2 dX1_entry_17
theorem dX1_turnedX_0 : decode cX1_turnedX 0 = .ok (.iconst 4, 1) := by decide +kernel
theorem dX1_turnedX_1 : decode cX1_turnedX 1 = .ok (.iload_n 0, 1) := by decide +kernel
theorem dX1_turnedX_2 : decode cX1_turnedX 2 = .ok (.iload_n 1, 1) := by decide +kernel
theorem dX1_turnedX_3 : decode cX1_turnedX 3 = .ok (.invokestatic 20, 3) := by decide +kernel
theorem dX1_turnedX_6 : decode cX1_turnedX 6 = .ok (.imul, 1) := by decide +kernel
theorem dX1_turnedX_7 : decode cX1_turnedX 7 = .ok (.istore 4, 2) := by decide +kernel
theorem dX1_turnedX_9 : decode cX1_turnedX 9 = .ok (.getstatic 24, 3) := by decide +kernel
theorem dX1_turnedX_12 : decode cX1_turnedX 12 = .ok (.iload 4, 2) := by decide +kernel
theorem dX1_turnedX_14 : decode cX1_turnedX 14 = .ok (.invokestatic 28, 3) := by decide +kernel
theorem dX1_turnedX_17 : decode cX1_turnedX 17 = .ok (.iload_n 2, 1) := by decide +kernel
theorem dX1_turnedX_18 : decode cX1_turnedX 18 = .ok (.imul, 1) := by decide +kernel
theorem dX1_turnedX_19 : decode cX1_turnedX 19 = .ok (.getstatic 24, 3) := by decide +kernel
theorem dX1_turnedX_22 : decode cX1_turnedX 22 = .ok (.iload 4, 2) := by decide +kernel
theorem dX1_turnedX_24 : decode cX1_turnedX 24 = .ok (.iconst 1, 1) := by decide +kernel
theorem dX1_turnedX_25 : decode cX1_turnedX 25 = .ok (.iadd, 1) := by decide +kernel
theorem dX1_turnedX_26 : decode cX1_turnedX 26 = .ok (.invokestatic 28, 3) := by decide +kernel
theorem dX1_turnedX_29 : decode cX1_turnedX 29 = .ok (.iload_n 3, 1) := by decide +kernel
theorem dX1_turnedX_30 : decode cX1_turnedX 30 = .ok (.imul, 1) := by decide +kernel
theorem dX1_turnedX_31 : decode cX1_turnedX 31 = .ok (.iadd, 1) := by decide +kernel
theorem dX1_turnedX_32 : decode cX1_turnedX 32 = .ok (.ireturn, 1) := by decide +kernel
def fX1_turnedX (p1 : Int32) (p2 : Int32) (p3 : Int32) (p4 : Int32) : Option (Int32) :=
  Option.bind (fX1_lineOf p1 p2) fun q3 => Option.bind (fX1_entry_t0 ((4 : Int32) * q3)) fun q14 => Option.bind (fX1_entry_t0 (((4 : Int32) * q3) + (1 : Int32))) fun q26 => some ((q14 * p3) + (q26 * p4))
set_option maxHeartbeats 4000000 in
set_option maxRecDepth 100000 in
theorem c_X1_turnedX (l : Launch) (dC : Nat → ClassId) (dI : Nat → Nat → Nat) (ca : Nat → ClassId) (sa : Nat → Nat) (sz : Nat) (p1 : Int32) (p2 : Int32) (p3 : Int32) (p4 : Int32) (res : Int32) (hf : fX1_turnedX p1 p2 p3 p4 = some res) : Met l yX1_turnedX (Cond.code yX1_turnedX cX1_turnedX 5 (some .int) :: ds_gw) { frames := 1, cells := 0, slots := 0, locals := 21 } (va_Pc [.int p1, .int p2, .int p3, .int p4] (ds_Pre dC dI ca sa [] sz)) (va_Qi (fun r (_ : Unit) => r = res) (ds_B dC dI (va_A [] sz) []) (va_A [] sz)) 0 0 (va_A [] sz) := by
  refine Met.ofW (cc := cX1_turnedX) (maxL := 5) (ret := (some .int)) (by decide) rfl ?_
  intro p e s m args below meth c s₁ B hml hv
  obtain ⟨rfl, hsz, hP, hK, hD0, hE⟩ := hv
  have hx := B.exec
  have hb := B.bytes
  have hr := B.returns
  have hts := atoms_spec (ws := Cond.code yX1_turnedX cX1_turnedX 5 (some .int) :: ds_gw) B.pre
  have hg : ∀ {w : Cond}, w ∈ ds_gw → w.before _ s = true := fun h => hts _ (List.mem_cons_of_mem _ h)
  have hown : s.vm.findClass RX1 = some m.cls := findClass_of_methodNamed B.named
  have hlocks := B.notSynchronized
  subst hsz
  have hD := hD0.self (sz := s.heap.size)
  generalize hAe : va_A [] s.heap.size = A at hD hE ⊢
  have hA : ∀ q : Nat, s.heap.size ≤ q → A q := fun q h => by rw [← hAe]; exact Or.inr h
  have hS : va_S A s.heap s.heap [] := va_S.rf
  have hl := lv_entry ([.int p1, .int p2, .int p3, .int p4]) (n := 5) (Nat.le_of_ble_eq_true rfl)
  rw [lg_entry_eq]
  generalize (lg_sl ([.int p1, .int p2, .int p3, .int p4]) ++ List.replicate (5 - (lg_sl ([.int p1, .int p2, .int p3, .int p4])).length) Slot.unset).toArray = ls at hl ⊢
  have hl : lv_has ls 5 [(0, .int p1), (1, .int p2), (2, .int p3), (3, .int p4)] := hl
  obtain ⟨G0, eG0⟩ : ∃ G : Int32 → Prop, G = (fun r => r = res) := ⟨_, rfl⟩
  obtain ⟨rr, hrr⟩ : ∃ z, z = res := ⟨_, rfl⟩
  rw [← hrr] at hf
  have hG : G0 rr := by subst eG0; exact hrr
  unfold fX1_turnedX at hf
  refine lv_iconst (v := 4) hx hb dX1_turnedX_0 (by decide) ?_
  refine lv_iload_n hx hb dX1_turnedX_1 rfl (lv_at hl 0 rfl) ?_
  refine lv_iload_n hx hb dX1_turnedX_2 rfl (lv_at hl 1 rfl) ?_
  obtain ⟨q3, hq3, hf⟩ := ds_ob hf
  refine ds_calli (wr := []) (va_runS (As := [.int p1, .int p2]) (rest := [.int (4 : Int32)]) ⟨hx, hb, hml, hown, hts⟩ (c_X1_lineOf l dC dI ca sa  s.heap.size  p1 p2 q3 hq3) (va_cwS 2 hts (ds_gS kw_10 kw_11 kw_2 kw_12) rfl rfl rfl (by decide +kernel) ⟨Nat.le_of_ble_eq_true rfl, Nat.le_of_ble_eq_true rfl⟩) ⟨ds_blind, ds_at hP hD hK hE hS hA [] rfl rfl _⟩ rfl rfl hl.1 rfl (lv_room (Nat.le_of_ble_eq_true rfl)) dX1_turnedX_3 ⟨Nat.zero_le _, Nat.zero_le _⟩) hP hD hS hA [] [] rfl rfl rfl (by decide) (fun H locs hP hD hS => ?_)
  have hP : va_P (dC, dI) vwCl [] H := hP
  have hD : va_D A [] := hD
  refine lv_imul hx hb dX1_turnedX_6 ?_
  refine lv_istore (lv' := [(4, .int ((4 : Int32) * q3)), (0, .int p1), (1, .int p2), (2, .int p3), (3, .int p4)]) hx hb dX1_turnedX_7 hl (by decide) rfl (fun ls hl => ?_)
  refine va_gets (C := RX1) (n := "TABLE") (d := "[I") (v := .ref (sa 0)) hx hb hE.2.1.1 hS hown (hg kw_13) (fun _ h9 => h9) dX1_turnedX_9 ?_
  refine lv_iload hx hb dX1_turnedX_12 (lv_at hl 0 rfl) ?_
  obtain ⟨q14, hq14, hf⟩ := ds_ob hf
  refine ds_calli (wr := []) (va_runS (As := [.ref (sa 0), .int ((4 : Int32) * q3)]) (rest := []) ⟨hx, hb, hml, hown, hts⟩ (c_X1_entry_t0 l dC dI ca sa  H.size  ((4 : Int32) * q3) q14 hq14) (va_cwS 2 hts (ds_gS kw_14 kw_15 kw_2 kw_16) rfl rfl rfl (by decide +kernel) ⟨Nat.le_of_ble_eq_true rfl, Nat.le_of_ble_eq_true rfl⟩) ⟨ds_blind, ds_at hP hD hK hE hS hA [] rfl rfl _⟩ rfl rfl hl.1 rfl (lv_room (Nat.le_of_ble_eq_true rfl)) dX1_turnedX_14 ⟨Nat.zero_le _, Nat.zero_le _⟩) hP hD hS hA [] [] rfl rfl rfl (by decide) (fun H locs hP hD hS => ?_)
  have hP : va_P (dC, dI) vwCl [] H := hP
  have hD : va_D A [] := hD
  refine lv_iload_n hx hb dX1_turnedX_17 rfl (lv_at hl 3 rfl) ?_
  refine lv_imul hx hb dX1_turnedX_18 ?_
  refine va_gets (C := RX1) (n := "TABLE") (d := "[I") (v := .ref (sa 0)) hx hb hE.2.1.1 hS hown (hg kw_13) (fun _ h9 => h9) dX1_turnedX_19 ?_
  refine lv_iload hx hb dX1_turnedX_22 (lv_at hl 0 rfl) ?_
  refine lv_iconst (v := 1) hx hb dX1_turnedX_24 (by decide) ?_
  refine lv_iadd hx hb dX1_turnedX_25 ?_
  obtain ⟨q26, hq26, hf⟩ := ds_ob hf
  refine ds_calli (wr := []) (va_runS (As := [.ref (sa 0), .int (((4 : Int32) * q3) + (1 : Int32))]) (rest := [.int (q14 * p3)]) ⟨hx, hb, hml, hown, hts⟩ (c_X1_entry_t0 l dC dI ca sa  H.size  (((4 : Int32) * q3) + (1 : Int32)) q26 hq26) (va_cwS 2 hts (ds_gS kw_14 kw_15 kw_2 kw_16) rfl rfl rfl (by decide +kernel) ⟨Nat.le_of_ble_eq_true rfl, Nat.le_of_ble_eq_true rfl⟩) ⟨ds_blind, ds_at hP hD hK hE hS hA [] rfl rfl _⟩ rfl rfl hl.1 rfl (lv_room (Nat.le_of_ble_eq_true rfl)) dX1_turnedX_26 ⟨Nat.zero_le _, Nat.zero_le _⟩) hP hD hS hA [] [] rfl rfl rfl (by decide) (fun H locs hP hD hS => ?_)
  have hP : va_P (dC, dI) vwCl [] H := hP
  have hD : va_D A [] := hD
  refine lv_iload_n hx hb dX1_turnedX_29 rfl (lv_at hl 4 rfl) ?_
  refine lv_imul hx hb dX1_turnedX_30 ?_
  refine lv_iadd hx hb dX1_turnedX_31 ?_
  have hf := Option.some.inj hf
  subst hf
  rw [eG0] at hG
  have hG : _ = res := hG
  subst hG
  exact W.iret (v := ((q14 * p3) + (q26 * p4))) hx hb hr (fun t ht hW => ⟨⟨((q14 * p3) + (q26 * p4)), (), rfl, rfl, by rw [ht]; exact hP, hD⟩, hS.F ht⟩) hS.2.2 dX1_turnedX_32
theorem dX1_turnedY_0 : decode cX1_turnedY 0 = .ok (.iconst 4, 1) := by decide +kernel
theorem dX1_turnedY_1 : decode cX1_turnedY 1 = .ok (.iload_n 0, 1) := by decide +kernel
theorem dX1_turnedY_2 : decode cX1_turnedY 2 = .ok (.iload_n 1, 1) := by decide +kernel
theorem dX1_turnedY_3 : decode cX1_turnedY 3 = .ok (.invokestatic 20, 3) := by decide +kernel
theorem dX1_turnedY_6 : decode cX1_turnedY 6 = .ok (.imul, 1) := by decide +kernel
theorem dX1_turnedY_7 : decode cX1_turnedY 7 = .ok (.istore 4, 2) := by decide +kernel
theorem dX1_turnedY_9 : decode cX1_turnedY 9 = .ok (.getstatic 24, 3) := by decide +kernel
theorem dX1_turnedY_12 : decode cX1_turnedY 12 = .ok (.iload 4, 2) := by decide +kernel
theorem dX1_turnedY_14 : decode cX1_turnedY 14 = .ok (.iconst 2, 1) := by decide +kernel
theorem dX1_turnedY_15 : decode cX1_turnedY 15 = .ok (.iadd, 1) := by decide +kernel
theorem dX1_turnedY_16 : decode cX1_turnedY 16 = .ok (.invokestatic 28, 3) := by decide +kernel
theorem dX1_turnedY_19 : decode cX1_turnedY 19 = .ok (.iload_n 2, 1) := by decide +kernel
theorem dX1_turnedY_20 : decode cX1_turnedY 20 = .ok (.imul, 1) := by decide +kernel
theorem dX1_turnedY_21 : decode cX1_turnedY 21 = .ok (.getstatic 24, 3) := by decide +kernel
theorem dX1_turnedY_24 : decode cX1_turnedY 24 = .ok (.iload 4, 2) := by decide +kernel
theorem dX1_turnedY_26 : decode cX1_turnedY 26 = .ok (.iconst 3, 1) := by decide +kernel
theorem dX1_turnedY_27 : decode cX1_turnedY 27 = .ok (.iadd, 1) := by decide +kernel
theorem dX1_turnedY_28 : decode cX1_turnedY 28 = .ok (.invokestatic 28, 3) := by decide +kernel
theorem dX1_turnedY_31 : decode cX1_turnedY 31 = .ok (.iload_n 3, 1) := by decide +kernel
theorem dX1_turnedY_32 : decode cX1_turnedY 32 = .ok (.imul, 1) := by decide +kernel
theorem dX1_turnedY_33 : decode cX1_turnedY 33 = .ok (.iadd, 1) := by decide +kernel
theorem dX1_turnedY_34 : decode cX1_turnedY 34 = .ok (.ireturn, 1) := by decide +kernel
def fX1_turnedY (p1 : Int32) (p2 : Int32) (p3 : Int32) (p4 : Int32) : Option (Int32) :=
  Option.bind (fX1_lineOf p1 p2) fun q3 => Option.bind (fX1_entry_t0 (((4 : Int32) * q3) + (2 : Int32))) fun q16 => Option.bind (fX1_entry_t0 (((4 : Int32) * q3) + (3 : Int32))) fun q28 => some ((q16 * p3) + (q28 * p4))
set_option maxHeartbeats 4000000 in
set_option maxRecDepth 100000 in
theorem c_X1_turnedY (l : Launch) (dC : Nat → ClassId) (dI : Nat → Nat → Nat) (ca : Nat → ClassId) (sa : Nat → Nat) (sz : Nat) (p1 : Int32) (p2 : Int32) (p3 : Int32) (p4 : Int32) (res : Int32) (hf : fX1_turnedY p1 p2 p3 p4 = some res) : Met l yX1_turnedY (Cond.code yX1_turnedY cX1_turnedY 5 (some .int) :: ds_gw) { frames := 1, cells := 0, slots := 0, locals := 21 } (va_Pc [.int p1, .int p2, .int p3, .int p4] (ds_Pre dC dI ca sa [] sz)) (va_Qi (fun r (_ : Unit) => r = res) (ds_B dC dI (va_A [] sz) []) (va_A [] sz)) 0 0 (va_A [] sz) := by
  refine Met.ofW (cc := cX1_turnedY) (maxL := 5) (ret := (some .int)) (by decide) rfl ?_
  intro p e s m args below meth c s₁ B hml hv
  obtain ⟨rfl, hsz, hP, hK, hD0, hE⟩ := hv
  have hx := B.exec
  have hb := B.bytes
  have hr := B.returns
  have hts := atoms_spec (ws := Cond.code yX1_turnedY cX1_turnedY 5 (some .int) :: ds_gw) B.pre
  have hg : ∀ {w : Cond}, w ∈ ds_gw → w.before _ s = true := fun h => hts _ (List.mem_cons_of_mem _ h)
  have hown : s.vm.findClass RX1 = some m.cls := findClass_of_methodNamed B.named
  have hlocks := B.notSynchronized
  subst hsz
  have hD := hD0.self (sz := s.heap.size)
  generalize hAe : va_A [] s.heap.size = A at hD hE ⊢
  have hA : ∀ q : Nat, s.heap.size ≤ q → A q := fun q h => by rw [← hAe]; exact Or.inr h
  have hS : va_S A s.heap s.heap [] := va_S.rf
  have hl := lv_entry ([.int p1, .int p2, .int p3, .int p4]) (n := 5) (Nat.le_of_ble_eq_true rfl)
  rw [lg_entry_eq]
  generalize (lg_sl ([.int p1, .int p2, .int p3, .int p4]) ++ List.replicate (5 - (lg_sl ([.int p1, .int p2, .int p3, .int p4])).length) Slot.unset).toArray = ls at hl ⊢
  have hl : lv_has ls 5 [(0, .int p1), (1, .int p2), (2, .int p3), (3, .int p4)] := hl
  obtain ⟨G0, eG0⟩ : ∃ G : Int32 → Prop, G = (fun r => r = res) := ⟨_, rfl⟩
  obtain ⟨rr, hrr⟩ : ∃ z, z = res := ⟨_, rfl⟩
  rw [← hrr] at hf
  have hG : G0 rr := by subst eG0; exact hrr
  unfold fX1_turnedY at hf
  refine lv_iconst (v := 4) hx hb dX1_turnedY_0 (by decide) ?_
  refine lv_iload_n hx hb dX1_turnedY_1 rfl (lv_at hl 0 rfl) ?_
  refine lv_iload_n hx hb dX1_turnedY_2 rfl (lv_at hl 1 rfl) ?_
  obtain ⟨q3, hq3, hf⟩ := ds_ob hf
  refine ds_calli (wr := []) (va_runS (As := [.int p1, .int p2]) (rest := [.int (4 : Int32)]) ⟨hx, hb, hml, hown, hts⟩ (c_X1_lineOf l dC dI ca sa  s.heap.size  p1 p2 q3 hq3) (va_cwS 2 hts (ds_gS kw_10 kw_11 kw_2 kw_12) rfl rfl rfl (by decide +kernel) ⟨Nat.le_of_ble_eq_true rfl, Nat.le_of_ble_eq_true rfl⟩) ⟨ds_blind, ds_at hP hD hK hE hS hA [] rfl rfl _⟩ rfl rfl hl.1 rfl (lv_room (Nat.le_of_ble_eq_true rfl)) dX1_turnedY_3 ⟨Nat.zero_le _, Nat.zero_le _⟩) hP hD hS hA [] [] rfl rfl rfl (by decide) (fun H locs hP hD hS => ?_)
  have hP : va_P (dC, dI) vwCl [] H := hP
  have hD : va_D A [] := hD
  refine lv_imul hx hb dX1_turnedY_6 ?_
  refine lv_istore (lv' := [(4, .int ((4 : Int32) * q3)), (0, .int p1), (1, .int p2), (2, .int p3), (3, .int p4)]) hx hb dX1_turnedY_7 hl (by decide) rfl (fun ls hl => ?_)
  refine va_gets (C := RX1) (n := "TABLE") (d := "[I") (v := .ref (sa 0)) hx hb hE.2.1.1 hS hown (hg kw_13) (fun _ h9 => h9) dX1_turnedY_9 ?_
  refine lv_iload hx hb dX1_turnedY_12 (lv_at hl 0 rfl) ?_
  refine lv_iconst (v := 2) hx hb dX1_turnedY_14 (by decide) ?_
  refine lv_iadd hx hb dX1_turnedY_15 ?_
  obtain ⟨q16, hq16, hf⟩ := ds_ob hf
  refine ds_calli (wr := []) (va_runS (As := [.ref (sa 0), .int (((4 : Int32) * q3) + (2 : Int32))]) (rest := []) ⟨hx, hb, hml, hown, hts⟩ (c_X1_entry_t0 l dC dI ca sa  H.size  (((4 : Int32) * q3) + (2 : Int32)) q16 hq16) (va_cwS 2 hts (ds_gS kw_14 kw_15 kw_2 kw_16) rfl rfl rfl (by decide +kernel) ⟨Nat.le_of_ble_eq_true rfl, Nat.le_of_ble_eq_true rfl⟩) ⟨ds_blind, ds_at hP hD hK hE hS hA [] rfl rfl _⟩ rfl rfl hl.1 rfl (lv_room (Nat.le_of_ble_eq_true rfl)) dX1_turnedY_16 ⟨Nat.zero_le _, Nat.zero_le _⟩) hP hD hS hA [] [] rfl rfl rfl (by decide) (fun H locs hP hD hS => ?_)
  have hP : va_P (dC, dI) vwCl [] H := hP
  have hD : va_D A [] := hD
  refine lv_iload_n hx hb dX1_turnedY_19 rfl (lv_at hl 3 rfl) ?_
  refine lv_imul hx hb dX1_turnedY_20 ?_
  refine va_gets (C := RX1) (n := "TABLE") (d := "[I") (v := .ref (sa 0)) hx hb hE.2.1.1 hS hown (hg kw_13) (fun _ h9 => h9) dX1_turnedY_21 ?_
  refine lv_iload hx hb dX1_turnedY_24 (lv_at hl 0 rfl) ?_
  refine lv_iconst (v := 3) hx hb dX1_turnedY_26 (by decide) ?_
  refine lv_iadd hx hb dX1_turnedY_27 ?_
  obtain ⟨q28, hq28, hf⟩ := ds_ob hf
  refine ds_calli (wr := []) (va_runS (As := [.ref (sa 0), .int (((4 : Int32) * q3) + (3 : Int32))]) (rest := [.int (q16 * p3)]) ⟨hx, hb, hml, hown, hts⟩ (c_X1_entry_t0 l dC dI ca sa  H.size  (((4 : Int32) * q3) + (3 : Int32)) q28 hq28) (va_cwS 2 hts (ds_gS kw_14 kw_15 kw_2 kw_16) rfl rfl rfl (by decide +kernel) ⟨Nat.le_of_ble_eq_true rfl, Nat.le_of_ble_eq_true rfl⟩) ⟨ds_blind, ds_at hP hD hK hE hS hA [] rfl rfl _⟩ rfl rfl hl.1 rfl (lv_room (Nat.le_of_ble_eq_true rfl)) dX1_turnedY_28 ⟨Nat.zero_le _, Nat.zero_le _⟩) hP hD hS hA [] [] rfl rfl rfl (by decide) (fun H locs hP hD hS => ?_)
  have hP : va_P (dC, dI) vwCl [] H := hP
  have hD : va_D A [] := hD
  refine lv_iload_n hx hb dX1_turnedY_31 rfl (lv_at hl 4 rfl) ?_
  refine lv_imul hx hb dX1_turnedY_32 ?_
  refine lv_iadd hx hb dX1_turnedY_33 ?_
  have hf := Option.some.inj hf
  subst hf
  rw [eG0] at hG
  have hG : _ = res := hG
  subst hG
  exact W.iret (v := ((q16 * p3) + (q28 * p4))) hx hb hr (fun t ht hW => ⟨⟨((q16 * p3) + (q28 * p4)), (), rfl, rfl, by rw [ht]; exact hP, hD⟩, hS.F ht⟩) hS.2.2 dX1_turnedY_34
theorem dX7_rest_0 : decode cX7_rest 0 = .ok (.iload_n 1, 1) := by decide +kernel
theorem dX7_rest_1 : decode cX7_rest 1 = .ok (.ifCond .gt 5, 3) := by decide +kernel
theorem dX7_rest_4 : decode cX7_rest 4 = .ok (.iconst 0, 1) := by decide +kernel
theorem dX7_rest_5 : decode cX7_rest 5 = .ok (.ireturn, 1) := by decide +kernel
theorem dX7_rest_6 : decode cX7_rest 6 = .ok (.iload_n 0, 1) := by decide +kernel
theorem dX7_rest_7 : decode cX7_rest 7 = .ok (.iload_n 1, 1) := by decide +kernel
theorem dX7_rest_8 : decode cX7_rest 8 = .ok (.irem, 1) := by decide +kernel
theorem dX7_rest_9 : decode cX7_rest 9 = .ok (.istore_n 2, 1) := by decide +kernel
theorem dX7_rest_10 : decode cX7_rest 10 = .ok (.iload_n 2, 1) := by decide +kernel
theorem dX7_rest_11 : decode cX7_rest 11 = .ok (.ifCond .ge 9, 3) := by decide +kernel
theorem dX7_rest_14 : decode cX7_rest 14 = .ok (.iload_n 2, 1) := by decide +kernel
theorem dX7_rest_15 : decode cX7_rest 15 = .ok (.iload_n 1, 1) := by decide +kernel
theorem dX7_rest_16 : decode cX7_rest 16 = .ok (.iadd, 1) := by decide +kernel
theorem dX7_rest_17 : decode cX7_rest 17 = .ok (.goto 4, 3) := by decide +kernel
theorem dX7_rest_20 : decode cX7_rest 20 = .ok (.iload_n 2, 1) := by decide +kernel
theorem dX7_rest_21 : decode cX7_rest 21 = .ok (.ireturn, 1) := by decide +kernel
def fX7_rest (p1 : Int32) (p2 : Int32) : Option (Int32) :=
  if 0 < p2 then if p2 = 0 then none else if 0 ≤ (ds_rem p1 p2) then some (ds_rem p1 p2) else some ((ds_rem p1 p2) + p2) else some (0 : Int32)
set_option maxHeartbeats 4000000 in
set_option maxRecDepth 100000 in
theorem c_X7_rest (l : Launch) (dC : Nat → ClassId) (dI : Nat → Nat → Nat) (ca : Nat → ClassId) (sa : Nat → Nat) (sz : Nat) (p1 : Int32) (p2 : Int32) (res : Int32) (hf : fX7_rest p1 p2 = some res) : Met l yX7_rest (Cond.code yX7_rest cX7_rest 3 (some .int) :: ds_gw) { frames := 0, cells := 0, slots := 0, locals := 0 } (va_Pc [.int p1, .int p2] (ds_Pre dC dI ca sa [] sz)) (va_Qi (fun r (_ : Unit) => r = res) (ds_B dC dI (va_A [] sz) []) (va_A [] sz)) 0 0 (va_A [] sz) := by
  refine Met.ofW (cc := cX7_rest) (maxL := 3) (ret := (some .int)) (by decide) rfl ?_
  intro p e s m args below meth c s₁ B hml hv
  obtain ⟨rfl, hsz, hP, hK, hD0, hE⟩ := hv
  have hx := B.exec
  have hb := B.bytes
  have hr := B.returns
  have hts := atoms_spec (ws := Cond.code yX7_rest cX7_rest 3 (some .int) :: ds_gw) B.pre
  have hg : ∀ {w : Cond}, w ∈ ds_gw → w.before _ s = true := fun h => hts _ (List.mem_cons_of_mem _ h)
  have hown : s.vm.findClass RX7 = some m.cls := findClass_of_methodNamed B.named
  have hlocks := B.notSynchronized
  subst hsz
  have hD := hD0.self (sz := s.heap.size)
  generalize hAe : va_A [] s.heap.size = A at hD hE ⊢
  have hA : ∀ q : Nat, s.heap.size ≤ q → A q := fun q h => by rw [← hAe]; exact Or.inr h
  have hS : va_S A s.heap s.heap [] := va_S.rf
  have hl := lv_entry ([.int p1, .int p2]) (n := 3) (Nat.le_of_ble_eq_true rfl)
  rw [lg_entry_eq]
  generalize (lg_sl ([.int p1, .int p2]) ++ List.replicate (3 - (lg_sl ([.int p1, .int p2])).length) Slot.unset).toArray = ls at hl ⊢
  have hl : lv_has ls 3 [(0, .int p1), (1, .int p2)] := hl
  obtain ⟨G0, eG0⟩ : ∃ G : Int32 → Prop, G = (fun r => r = res) := ⟨_, rfl⟩
  obtain ⟨rr, hrr⟩ : ∃ z, z = res := ⟨_, rfl⟩
  rw [← hrr] at hf
  have hG : G0 rr := by subst eG0; exact hrr
  unfold fX7_rest at hf
  refine lv_iload_n hx hb dX7_rest_0 rfl (lv_at hl 1 rfl) ?_
  refine lv_if_gt (tgt := 6) hx hb dX7_rest_1 (by decide) (fun c_1 => ?_) (fun c_1 => ?_)
  · replace hf := ds_t c_1 hf
    refine lv_iload_n hx hb dX7_rest_6 rfl (lv_at hl 0 rfl) ?_
    refine lv_iload_n hx hb dX7_rest_7 rfl (lv_at hl 1 rfl) ?_
    obtain ⟨n_8, hf⟩ := ds_cn hf
    refine lv_irem hx hb dX7_rest_8 n_8 ?_
    refine lv_istore_n (lv' := [(2, .int (ds_rem p1 p2)), (0, .int p1), (1, .int p2)]) hx hb dX7_rest_9 rfl hl (by decide) rfl (fun ls hl => ?_)
    refine lv_iload_n hx hb dX7_rest_10 rfl (lv_at hl 0 rfl) ?_
    refine lv_if_ge (tgt := 20) hx hb dX7_rest_11 (by decide) (fun c_11 => ?_) (fun c_11 => ?_)
    · replace hf := ds_t c_11 hf
      refine lv_iload_n hx hb dX7_rest_20 rfl (lv_at hl 0 rfl) ?_
      have hf := Option.some.inj hf
      subst hf
      rw [eG0] at hG
      have hG : _ = res := hG
      subst hG
      exact W.iret (v := (ds_rem p1 p2)) hx hb hr (fun t ht hW => ⟨⟨(ds_rem p1 p2), (), rfl, rfl, by rw [ht]; exact hP, hD⟩, hS.F ht⟩) hS.2.2 dX7_rest_21
    · replace hf := ds_f c_11 hf
      refine lv_iload_n hx hb dX7_rest_14 rfl (lv_at hl 0 rfl) ?_
      refine lv_iload_n hx hb dX7_rest_15 rfl (lv_at hl 2 rfl) ?_
      refine lv_iadd hx hb dX7_rest_16 ?_
      refine lv_goto (tgt := 21) hx hb dX7_rest_17 (by decide) ?_
      have hf := Option.some.inj hf
      subst hf
      rw [eG0] at hG
      have hG : _ = res := hG
      subst hG
      exact W.iret (v := ((ds_rem p1 p2) + p2)) hx hb hr (fun t ht hW => ⟨⟨((ds_rem p1 p2) + p2), (), rfl, rfl, by rw [ht]; exact hP, hD⟩, hS.F ht⟩) hS.2.2 dX7_rest_21
  · replace hf := ds_f c_1 hf
    refine lv_iconst (v := 0) hx hb dX7_rest_4 (by decide) ?_
    have hf := Option.some.inj hf
    subst hf
    rw [eG0] at hG
    have hG : _ = res := hG
    subst hG
    exact W.iret (v := (0 : Int32)) hx hb hr (fun t ht hW => ⟨⟨(0 : Int32), (), rfl, rfl, by rw [ht]; exact hP, hD⟩, hS.F ht⟩) hS.2.2 dX7_rest_5
theorem dJ13_bitCount_95d88_0 : decode cJ13_bitCount_95d88 0 = .ok (.lload_n 0, 1) := by decide +kernel
theorem dJ13_bitCount_95d88_1 : decode cJ13_bitCount_95d88 1 = .ok (.lload_n 0, 1) := by decide +kernel
theorem dJ13_bitCount_95d88_2 : decode cJ13_bitCount_95d88 2 = .ok (.iconst 1, 1) := by decide +kernel
theorem dJ13_bitCount_95d88_3 : decode cJ13_bitCount_95d88 3 = .ok (.lushr, 1) := by decide +kernel
theorem dJ13_bitCount_95d88_4 : decode cJ13_bitCount_95d88 4 = .ok (.ldc2_w 314, 3) := by decide +kernel
theorem dJ13_bitCount_95d88_7 : decode cJ13_bitCount_95d88 7 = .ok (.land, 1) := by decide +kernel
theorem dJ13_bitCount_95d88_8 : decode cJ13_bitCount_95d88 8 = .ok (.lsub, 1) := by decide +kernel
theorem dJ13_bitCount_95d88_9 : decode cJ13_bitCount_95d88 9 = .ok (.lstore_n 0, 1) := by decide +kernel
theorem dJ13_bitCount_95d88_10 : decode cJ13_bitCount_95d88 10 = .ok (.lload_n 0, 1) := by decide +kernel
theorem dJ13_bitCount_95d88_11 : decode cJ13_bitCount_95d88 11 = .ok (.ldc2_w 316, 3) := by decide +kernel
theorem dJ13_bitCount_95d88_14 : decode cJ13_bitCount_95d88 14 = .ok (.land, 1) := by decide +kernel
theorem dJ13_bitCount_95d88_15 : decode cJ13_bitCount_95d88 15 = .ok (.lload_n 0, 1) := by decide +kernel
theorem dJ13_bitCount_95d88_16 : decode cJ13_bitCount_95d88 16 = .ok (.iconst 2, 1) := by decide +kernel
theorem dJ13_bitCount_95d88_17 : decode cJ13_bitCount_95d88 17 = .ok (.lushr, 1) := by decide +kernel
theorem dJ13_bitCount_95d88_18 : decode cJ13_bitCount_95d88 18 = .ok (.ldc2_w 316, 3) := by decide +kernel
theorem dJ13_bitCount_95d88_21 : decode cJ13_bitCount_95d88 21 = .ok (.land, 1) := by decide +kernel
theorem dJ13_bitCount_95d88_22 : decode cJ13_bitCount_95d88 22 = .ok (.ladd, 1) := by decide +kernel
theorem dJ13_bitCount_95d88_23 : decode cJ13_bitCount_95d88 23 = .ok (.lstore_n 0, 1) := by decide +kernel
theorem dJ13_bitCount_95d88_24 : decode cJ13_bitCount_95d88 24 = .ok (.lload_n 0, 1) := by decide +kernel
theorem dJ13_bitCount_95d88_25 : decode cJ13_bitCount_95d88 25 = .ok (.lload_n 0, 1) := by decide +kernel
theorem dJ13_bitCount_95d88_26 : decode cJ13_bitCount_95d88 26 = .ok (.iconst 4, 1) := by decide +kernel
theorem dJ13_bitCount_95d88_27 : decode cJ13_bitCount_95d88 27 = .ok (.lushr, 1) := by decide +kernel
theorem dJ13_bitCount_95d88_28 : decode cJ13_bitCount_95d88 28 = .ok (.ladd, 1) := by decide +kernel
theorem dJ13_bitCount_95d88_29 : decode cJ13_bitCount_95d88 29 = .ok (.ldc2_w 318, 3) := by decide +kernel
theorem dJ13_bitCount_95d88_32 : decode cJ13_bitCount_95d88 32 = .ok (.land, 1) := by decide +kernel
theorem dJ13_bitCount_95d88_33 : decode cJ13_bitCount_95d88 33 = .ok (.lstore_n 0, 1) := by decide +kernel
theorem dJ13_bitCount_95d88_34 : decode cJ13_bitCount_95d88 34 = .ok (.lload_n 0, 1) := by decide +kernel
theorem dJ13_bitCount_95d88_35 : decode cJ13_bitCount_95d88 35 = .ok (.lload_n 0, 1) := by decide +kernel
theorem dJ13_bitCount_95d88_36 : decode cJ13_bitCount_95d88 36 = .ok (.bipush 8, 2) := by decide +kernel
theorem dJ13_bitCount_95d88_38 : decode cJ13_bitCount_95d88 38 = .ok (.lushr, 1) := by decide +kernel
theorem dJ13_bitCount_95d88_39 : decode cJ13_bitCount_95d88 39 = .ok (.ladd, 1) := by decide +kernel
theorem dJ13_bitCount_95d88_40 : decode cJ13_bitCount_95d88 40 = .ok (.lstore_n 0, 1) := by decide +kernel
theorem dJ13_bitCount_95d88_41 : decode cJ13_bitCount_95d88 41 = .ok (.lload_n 0, 1) := by decide +kernel
theorem dJ13_bitCount_95d88_42 : decode cJ13_bitCount_95d88 42 = .ok (.lload_n 0, 1) := by decide +kernel
theorem dJ13_bitCount_95d88_43 : decode cJ13_bitCount_95d88 43 = .ok (.bipush 16, 2) := by decide +kernel
theorem dJ13_bitCount_95d88_45 : decode cJ13_bitCount_95d88 45 = .ok (.lushr, 1) := by decide +kernel
theorem dJ13_bitCount_95d88_46 : decode cJ13_bitCount_95d88 46 = .ok (.ladd, 1) := by decide +kernel
theorem dJ13_bitCount_95d88_47 : decode cJ13_bitCount_95d88 47 = .ok (.lstore_n 0, 1) := by decide +kernel
theorem dJ13_bitCount_95d88_48 : decode cJ13_bitCount_95d88 48 = .ok (.lload_n 0, 1) := by decide +kernel
theorem dJ13_bitCount_95d88_49 : decode cJ13_bitCount_95d88 49 = .ok (.lload_n 0, 1) := by decide +kernel
theorem dJ13_bitCount_95d88_50 : decode cJ13_bitCount_95d88 50 = .ok (.bipush 32, 2) := by decide +kernel
theorem dJ13_bitCount_95d88_52 : decode cJ13_bitCount_95d88 52 = .ok (.lushr, 1) := by decide +kernel
theorem dJ13_bitCount_95d88_53 : decode cJ13_bitCount_95d88 53 = .ok (.ladd, 1) := by decide +kernel
theorem dJ13_bitCount_95d88_54 : decode cJ13_bitCount_95d88 54 = .ok (.lstore_n 0, 1) := by decide +kernel
theorem dJ13_bitCount_95d88_55 : decode cJ13_bitCount_95d88 55 = .ok (.lload_n 0, 1) := by decide +kernel
theorem dJ13_bitCount_95d88_56 : decode cJ13_bitCount_95d88 56 = .ok (.l2i, 1) := by decide +kernel
theorem dJ13_bitCount_95d88_57 : decode cJ13_bitCount_95d88 57 = .ok (.bipush 127, 2) := by decide +kernel
theorem dJ13_bitCount_95d88_59 : decode cJ13_bitCount_95d88 59 = .ok (.iand, 1) := by decide +kernel
theorem dJ13_bitCount_95d88_60 : decode cJ13_bitCount_95d88 60 = .ok (.ireturn, 1) := by decide +kernel
def fJ13_bitCount_95d88 (p1 : Int64) : Option (Int32) :=
  Option.bind (some ((p1 - ((ds_lushr p1 (1 : Int32)) &&& (6148914691236517205 : Int64))))) fun x9 => Option.bind (some (((x9 &&& (3689348814741910323 : Int64)) + ((ds_lushr x9 (2 : Int32)) &&& (3689348814741910323 : Int64))))) fun x23 => Option.bind (some (((x23 + (ds_lushr x23 (4 : Int32))) &&& (1085102592571150095 : Int64)))) fun x33 => Option.bind (some (((x33 + (ds_lushr x33 (8 : Int32))) + (ds_lushr (x33 + (ds_lushr x33 (8 : Int32))) (16 : Int32))))) fun x47 => some ((x47 + (ds_lushr x47 (32 : Int32))).toInt32 &&& (127 : Int32))
set_option maxHeartbeats 4000000 in
set_option maxRecDepth 100000 in
theorem c_J13_bitCount_95d88 (l : Launch) (dC : Nat → ClassId) (dI : Nat → Nat → Nat) (ca : Nat → ClassId) (sa : Nat → Nat) (sz : Nat) (p1 : Int64) (res : Int32) (hf : fJ13_bitCount_95d88 p1 = some res) : Met l yJ13_bitCount_95d88 (Cond.code yJ13_bitCount_95d88 cJ13_bitCount_95d88 2 (some .int) :: ds_gw) { frames := 0, cells := 0, slots := 0, locals := 0 } (va_Pc [.long p1] (ds_Pre dC dI ca sa [] sz)) (va_Qi (fun r (_ : Unit) => r = res) (ds_B dC dI (va_A [] sz) []) (va_A [] sz)) 0 0 (va_A [] sz) := by
  refine Met.ofW (cc := cJ13_bitCount_95d88) (maxL := 2) (ret := (some .int)) (by decide) rfl ?_
  intro p e s m args below meth c s₁ B hml hv
  obtain ⟨rfl, hsz, hP, hK, hD0, hE⟩ := hv
  have hx := B.exec
  have hb := B.bytes
  have hr := B.returns
  have hts := atoms_spec (ws := Cond.code yJ13_bitCount_95d88 cJ13_bitCount_95d88 2 (some .int) :: ds_gw) B.pre
  have hg : ∀ {w : Cond}, w ∈ ds_gw → w.before _ s = true := fun h => hts _ (List.mem_cons_of_mem _ h)
  have hown : s.vm.findClass RJ13 = some m.cls := findClass_of_methodNamed B.named
  have hlocks := B.notSynchronized
  subst hsz
  have hD := hD0.self (sz := s.heap.size)
  generalize hAe : va_A [] s.heap.size = A at hD hE ⊢
  have hA : ∀ q : Nat, s.heap.size ≤ q → A q := fun q h => by rw [← hAe]; exact Or.inr h
  have hS : va_S A s.heap s.heap [] := va_S.rf
  have hl := lv_entry ([.long p1]) (n := 2) (Nat.le_of_ble_eq_true rfl)
  rw [lg_entry_eq]
  generalize (lg_sl ([.long p1]) ++ List.replicate (2 - (lg_sl ([.long p1])).length) Slot.unset).toArray = ls at hl ⊢
  have hl : lv_has ls 2 [(0, .long p1)] := hl
  obtain ⟨G0, eG0⟩ : ∃ G : Int32 → Prop, G = (fun r => r = res) := ⟨_, rfl⟩
  obtain ⟨rr, hrr⟩ : ∃ z, z = res := ⟨_, rfl⟩
  rw [← hrr] at hf
  have hG : G0 rr := by subst eG0; exact hrr
  unfold fJ13_bitCount_95d88 at hf
  refine lv_lload_n hx hb dJ13_bitCount_95d88_0 rfl (lv_at hl 0 rfl) ?_
  refine lv_lload_n hx hb dJ13_bitCount_95d88_1 rfl (lv_at hl 0 rfl) ?_
  refine lv_iconst (v := 1) hx hb dJ13_bitCount_95d88_2 (by decide) ?_
  refine lv_lushr (v := (ds_lushr p1 (1 : Int32))) hx hb dJ13_bitCount_95d88_3 rfl ?_
  refine lv_ldc2 (own := RJ13) (v := 6148914691236517205) hx hb hown (hg kw_17) dJ13_bitCount_95d88_4 ?_
  refine lv_land hx hb dJ13_bitCount_95d88_7 ?_
  refine lv_lsub hx hb dJ13_bitCount_95d88_8 ?_
  obtain ⟨x9, hx_9, hf⟩ := ds_ob hf
  refine ds_nml hx_9 ?_
  refine lv_lstore_n (lv' := [(0, .long x9)]) hx hb dJ13_bitCount_95d88_9 rfl hl (by decide) rfl (fun ls hl => ?_)
  refine lv_lload_n hx hb dJ13_bitCount_95d88_10 rfl (lv_at hl 0 rfl) ?_
  refine lv_ldc2 (own := RJ13) (v := 3689348814741910323) hx hb hown (hg kw_18) dJ13_bitCount_95d88_11 ?_
  refine lv_land hx hb dJ13_bitCount_95d88_14 ?_
  refine lv_lload_n hx hb dJ13_bitCount_95d88_15 rfl (lv_at hl 0 rfl) ?_
  refine lv_iconst (v := 2) hx hb dJ13_bitCount_95d88_16 (by decide) ?_
  refine lv_lushr (v := (ds_lushr x9 (2 : Int32))) hx hb dJ13_bitCount_95d88_17 rfl ?_
  refine lv_ldc2 (own := RJ13) (v := 3689348814741910323) hx hb hown (hg kw_18) dJ13_bitCount_95d88_18 ?_
  refine lv_land hx hb dJ13_bitCount_95d88_21 ?_
  refine lv_ladd hx hb dJ13_bitCount_95d88_22 ?_
  obtain ⟨x23, hx_23, hf⟩ := ds_ob hf
  refine ds_nml hx_23 ?_
  refine lv_lstore_n (lv' := [(0, .long x23)]) hx hb dJ13_bitCount_95d88_23 rfl hl (by decide) rfl (fun ls hl => ?_)
  refine lv_lload_n hx hb dJ13_bitCount_95d88_24 rfl (lv_at hl 0 rfl) ?_
  refine lv_lload_n hx hb dJ13_bitCount_95d88_25 rfl (lv_at hl 0 rfl) ?_
  refine lv_iconst (v := 4) hx hb dJ13_bitCount_95d88_26 (by decide) ?_
  refine lv_lushr (v := (ds_lushr x23 (4 : Int32))) hx hb dJ13_bitCount_95d88_27 rfl ?_
  refine lv_ladd hx hb dJ13_bitCount_95d88_28 ?_
  refine lv_ldc2 (own := RJ13) (v := 1085102592571150095) hx hb hown (hg kw_19) dJ13_bitCount_95d88_29 ?_
  refine lv_land hx hb dJ13_bitCount_95d88_32 ?_
  obtain ⟨x33, hx_33, hf⟩ := ds_ob hf
  refine ds_nml hx_33 ?_
  refine lv_lstore_n (lv' := [(0, .long x33)]) hx hb dJ13_bitCount_95d88_33 rfl hl (by decide) rfl (fun ls hl => ?_)
  refine lv_lload_n hx hb dJ13_bitCount_95d88_34 rfl (lv_at hl 0 rfl) ?_
  refine lv_lload_n hx hb dJ13_bitCount_95d88_35 rfl (lv_at hl 0 rfl) ?_
  refine lv_bipush (v := 8) hx hb dJ13_bitCount_95d88_36 (by decide) ?_
  refine lv_lushr (v := (ds_lushr x33 (8 : Int32))) hx hb dJ13_bitCount_95d88_38 rfl ?_
  refine lv_ladd hx hb dJ13_bitCount_95d88_39 ?_
  refine lv_lstore_n (lv' := [(0, .long (x33 + (ds_lushr x33 (8 : Int32))))]) hx hb dJ13_bitCount_95d88_40 rfl hl (by decide) rfl (fun ls hl => ?_)
  refine lv_lload_n hx hb dJ13_bitCount_95d88_41 rfl (lv_at hl 0 rfl) ?_
  refine lv_lload_n hx hb dJ13_bitCount_95d88_42 rfl (lv_at hl 0 rfl) ?_
  refine lv_bipush (v := 16) hx hb dJ13_bitCount_95d88_43 (by decide) ?_
  refine lv_lushr (v := (ds_lushr (x33 + (ds_lushr x33 (8 : Int32))) (16 : Int32))) hx hb dJ13_bitCount_95d88_45 rfl ?_
  refine lv_ladd hx hb dJ13_bitCount_95d88_46 ?_
  obtain ⟨x47, hx_47, hf⟩ := ds_ob hf
  refine ds_nml hx_47 ?_
  refine lv_lstore_n (lv' := [(0, .long x47)]) hx hb dJ13_bitCount_95d88_47 rfl hl (by decide) rfl (fun ls hl => ?_)
  refine lv_lload_n hx hb dJ13_bitCount_95d88_48 rfl (lv_at hl 0 rfl) ?_
  refine lv_lload_n hx hb dJ13_bitCount_95d88_49 rfl (lv_at hl 0 rfl) ?_
  refine lv_bipush (v := 32) hx hb dJ13_bitCount_95d88_50 (by decide) ?_
  refine lv_lushr (v := (ds_lushr x47 (32 : Int32))) hx hb dJ13_bitCount_95d88_52 rfl ?_
  refine lv_ladd hx hb dJ13_bitCount_95d88_53 ?_
  refine lv_lstore_n (lv' := [(0, .long (x47 + (ds_lushr x47 (32 : Int32))))]) hx hb dJ13_bitCount_95d88_54 rfl hl (by decide) rfl (fun ls hl => ?_)
  refine lv_lload_n hx hb dJ13_bitCount_95d88_55 rfl (lv_at hl 0 rfl) ?_
  refine lv_l2i (v := (x47 + (ds_lushr x47 (32 : Int32))).toInt32) hx hb dJ13_bitCount_95d88_56 rfl ?_
  refine lv_bipush (v := 127) hx hb dJ13_bitCount_95d88_57 (by decide) ?_
  refine lv_iand hx hb dJ13_bitCount_95d88_59 ?_
  have hf := Option.some.inj hf
  subst hf
  rw [eG0] at hG
  have hG : _ = res := hG
  subst hG
  exact W.iret (v := ((x47 + (ds_lushr x47 (32 : Int32))).toInt32 &&& (127 : Int32))) hx hb hr (fun t ht hW => ⟨⟨((x47 + (ds_lushr x47 (32 : Int32))).toInt32 &&& (127 : Int32)), (), rfl, rfl, by rw [ht]; exact hP, hD⟩, hS.F ht⟩) hS.2.2 dJ13_bitCount_95d88_60
theorem dJ6_bitCount_0f7a4_0 : decode cJ6_bitCount_0f7a4 0 = .ok (.iload_n 0, 1) := by decide +kernel
theorem dJ6_bitCount_0f7a4_1 : decode cJ6_bitCount_0f7a4 1 = .ok (.iload_n 0, 1) := by decide +kernel
theorem dJ6_bitCount_0f7a4_2 : decode cJ6_bitCount_0f7a4 2 = .ok (.iconst 1, 1) := by decide +kernel
theorem dJ6_bitCount_0f7a4_3 : decode cJ6_bitCount_0f7a4 3 = .ok (.iushr, 1) := by decide +kernel
theorem dJ6_bitCount_0f7a4_4 : decode cJ6_bitCount_0f7a4 4 = .ok (.ldc_w 265, 3) := by decide +kernel
theorem dJ6_bitCount_0f7a4_7 : decode cJ6_bitCount_0f7a4 7 = .ok (.iand, 1) := by decide +kernel
theorem dJ6_bitCount_0f7a4_8 : decode cJ6_bitCount_0f7a4 8 = .ok (.isub, 1) := by decide +kernel
theorem dJ6_bitCount_0f7a4_9 : decode cJ6_bitCount_0f7a4 9 = .ok (.istore_n 0, 1) := by decide +kernel
theorem dJ6_bitCount_0f7a4_10 : decode cJ6_bitCount_0f7a4 10 = .ok (.iload_n 0, 1) := by decide +kernel
theorem dJ6_bitCount_0f7a4_11 : decode cJ6_bitCount_0f7a4 11 = .ok (.ldc_w 266, 3) := by decide +kernel
theorem dJ6_bitCount_0f7a4_14 : decode cJ6_bitCount_0f7a4 14 = .ok (.iand, 1) := by decide +kernel
theorem dJ6_bitCount_0f7a4_15 : decode cJ6_bitCount_0f7a4 15 = .ok (.iload_n 0, 1) := by decide +kernel
theorem dJ6_bitCount_0f7a4_16 : decode cJ6_bitCount_0f7a4 16 = .ok (.iconst 2, 1) := by decide +kernel
theorem dJ6_bitCount_0f7a4_17 : decode cJ6_bitCount_0f7a4 17 = .ok (.iushr, 1) := by decide +kernel
theorem dJ6_bitCount_0f7a4_18 : decode cJ6_bitCount_0f7a4 18 = .ok (.ldc_w 266, 3) := by decide +kernel
theorem dJ6_bitCount_0f7a4_21 : decode cJ6_bitCount_0f7a4 21 = .ok (.iand, 1) := by decide +kernel
theorem dJ6_bitCount_0f7a4_22 : decode cJ6_bitCount_0f7a4 22 = .ok (.iadd, 1) := by decide +kernel
theorem dJ6_bitCount_0f7a4_23 : decode cJ6_bitCount_0f7a4 23 = .ok (.istore_n 0, 1) := by decide +kernel
theorem dJ6_bitCount_0f7a4_24 : decode cJ6_bitCount_0f7a4 24 = .ok (.iload_n 0, 1) := by decide +kernel
theorem dJ6_bitCount_0f7a4_25 : decode cJ6_bitCount_0f7a4 25 = .ok (.iload_n 0, 1) := by decide +kernel
theorem dJ6_bitCount_0f7a4_26 : decode cJ6_bitCount_0f7a4 26 = .ok (.iconst 4, 1) := by decide +kernel
theorem dJ6_bitCount_0f7a4_27 : decode cJ6_bitCount_0f7a4 27 = .ok (.iushr, 1) := by decide +kernel
theorem dJ6_bitCount_0f7a4_28 : decode cJ6_bitCount_0f7a4 28 = .ok (.iadd, 1) := by decide +kernel
theorem dJ6_bitCount_0f7a4_29 : decode cJ6_bitCount_0f7a4 29 = .ok (.ldc_w 267, 3) := by decide +kernel
theorem dJ6_bitCount_0f7a4_32 : decode cJ6_bitCount_0f7a4 32 = .ok (.iand, 1) := by decide +kernel
theorem dJ6_bitCount_0f7a4_33 : decode cJ6_bitCount_0f7a4 33 = .ok (.istore_n 0, 1) := by decide +kernel
theorem dJ6_bitCount_0f7a4_34 : decode cJ6_bitCount_0f7a4 34 = .ok (.iload_n 0, 1) := by decide +kernel
theorem dJ6_bitCount_0f7a4_35 : decode cJ6_bitCount_0f7a4 35 = .ok (.iload_n 0, 1) := by decide +kernel
theorem dJ6_bitCount_0f7a4_36 : decode cJ6_bitCount_0f7a4 36 = .ok (.bipush 8, 2) := by decide +kernel
theorem dJ6_bitCount_0f7a4_38 : decode cJ6_bitCount_0f7a4 38 = .ok (.iushr, 1) := by decide +kernel
theorem dJ6_bitCount_0f7a4_39 : decode cJ6_bitCount_0f7a4 39 = .ok (.iadd, 1) := by decide +kernel
theorem dJ6_bitCount_0f7a4_40 : decode cJ6_bitCount_0f7a4 40 = .ok (.istore_n 0, 1) := by decide +kernel
theorem dJ6_bitCount_0f7a4_41 : decode cJ6_bitCount_0f7a4 41 = .ok (.iload_n 0, 1) := by decide +kernel
theorem dJ6_bitCount_0f7a4_42 : decode cJ6_bitCount_0f7a4 42 = .ok (.iload_n 0, 1) := by decide +kernel
theorem dJ6_bitCount_0f7a4_43 : decode cJ6_bitCount_0f7a4 43 = .ok (.bipush 16, 2) := by decide +kernel
theorem dJ6_bitCount_0f7a4_45 : decode cJ6_bitCount_0f7a4 45 = .ok (.iushr, 1) := by decide +kernel
theorem dJ6_bitCount_0f7a4_46 : decode cJ6_bitCount_0f7a4 46 = .ok (.iadd, 1) := by decide +kernel
theorem dJ6_bitCount_0f7a4_47 : decode cJ6_bitCount_0f7a4 47 = .ok (.istore_n 0, 1) := by decide +kernel
theorem dJ6_bitCount_0f7a4_48 : decode cJ6_bitCount_0f7a4 48 = .ok (.iload_n 0, 1) := by decide +kernel
theorem dJ6_bitCount_0f7a4_49 : decode cJ6_bitCount_0f7a4 49 = .ok (.bipush 63, 2) := by decide +kernel
theorem dJ6_bitCount_0f7a4_51 : decode cJ6_bitCount_0f7a4 51 = .ok (.iand, 1) := by decide +kernel
theorem dJ6_bitCount_0f7a4_52 : decode cJ6_bitCount_0f7a4 52 = .ok (.ireturn, 1) := by decide +kernel
def fJ6_bitCount_0f7a4 (p1 : Int32) : Option (Int32) :=
  Option.bind (some ((p1 - ((ds_iushr p1 (1 : Int32)) &&& (1431655765 : Int32))))) fun x9 => Option.bind (some (((x9 &&& (858993459 : Int32)) + ((ds_iushr x9 (2 : Int32)) &&& (858993459 : Int32))))) fun x23 => Option.bind (some (((x23 + (ds_iushr x23 (4 : Int32))) &&& (252645135 : Int32)))) fun x33 => Option.bind (some (((x33 + (ds_iushr x33 (8 : Int32))) + (ds_iushr (x33 + (ds_iushr x33 (8 : Int32))) (16 : Int32))))) fun x47 => some (x47 &&& (63 : Int32))
set_option maxHeartbeats 4000000 in
set_option maxRecDepth 100000 in
theorem c_J6_bitCount_0f7a4 (l : Launch) (dC : Nat → ClassId) (dI : Nat → Nat → Nat) (ca : Nat → ClassId) (sa : Nat → Nat) (sz : Nat) (p1 : Int32) (res : Int32) (hf : fJ6_bitCount_0f7a4 p1 = some res) : Met l yJ6_bitCount_0f7a4 (Cond.code yJ6_bitCount_0f7a4 cJ6_bitCount_0f7a4 1 (some .int) :: ds_gw) { frames := 0, cells := 0, slots := 0, locals := 0 } (va_Pc [.int p1] (ds_Pre dC dI ca sa [] sz)) (va_Qi (fun r (_ : Unit) => r = res) (ds_B dC dI (va_A [] sz) []) (va_A [] sz)) 0 0 (va_A [] sz) := by
  refine Met.ofW (cc := cJ6_bitCount_0f7a4) (maxL := 1) (ret := (some .int)) (by decide) rfl ?_
  intro p e s m args below meth c s₁ B hml hv
  obtain ⟨rfl, hsz, hP, hK, hD0, hE⟩ := hv
  have hx := B.exec
  have hb := B.bytes
  have hr := B.returns
  have hts := atoms_spec (ws := Cond.code yJ6_bitCount_0f7a4 cJ6_bitCount_0f7a4 1 (some .int) :: ds_gw) B.pre
  have hg : ∀ {w : Cond}, w ∈ ds_gw → w.before _ s = true := fun h => hts _ (List.mem_cons_of_mem _ h)
  have hown : s.vm.findClass RJ6 = some m.cls := findClass_of_methodNamed B.named
  have hlocks := B.notSynchronized
  subst hsz
  have hD := hD0.self (sz := s.heap.size)
  generalize hAe : va_A [] s.heap.size = A at hD hE ⊢
  have hA : ∀ q : Nat, s.heap.size ≤ q → A q := fun q h => by rw [← hAe]; exact Or.inr h
  have hS : va_S A s.heap s.heap [] := va_S.rf
  have hl := lv_entry ([.int p1]) (n := 1) (Nat.le_of_ble_eq_true rfl)
  rw [lg_entry_eq]
  generalize (lg_sl ([.int p1]) ++ List.replicate (1 - (lg_sl ([.int p1])).length) Slot.unset).toArray = ls at hl ⊢
  have hl : lv_has ls 1 [(0, .int p1)] := hl
  obtain ⟨G0, eG0⟩ : ∃ G : Int32 → Prop, G = (fun r => r = res) := ⟨_, rfl⟩
  obtain ⟨rr, hrr⟩ : ∃ z, z = res := ⟨_, rfl⟩
  rw [← hrr] at hf
  have hG : G0 rr := by subst eG0; exact hrr
  unfold fJ6_bitCount_0f7a4 at hf
  refine lv_iload_n hx hb dJ6_bitCount_0f7a4_0 rfl (lv_at hl 0 rfl) ?_
  refine lv_iload_n hx hb dJ6_bitCount_0f7a4_1 rfl (lv_at hl 0 rfl) ?_
  refine lv_iconst (v := 1) hx hb dJ6_bitCount_0f7a4_2 (by decide) ?_
  refine lv_iushr (v := (ds_iushr p1 (1 : Int32))) hx hb dJ6_bitCount_0f7a4_3 rfl ?_
  refine lv_ldcw (own := RJ6) (v := 1431655765) hx hb hown (hg kw_20) dJ6_bitCount_0f7a4_4 ?_
  refine lv_iand hx hb dJ6_bitCount_0f7a4_7 ?_
  refine lv_isub hx hb dJ6_bitCount_0f7a4_8 ?_
  obtain ⟨x9, hx_9, hf⟩ := ds_ob hf
  refine ds_nmi hx_9 ?_
  refine lv_istore_n (lv' := [(0, .int x9)]) hx hb dJ6_bitCount_0f7a4_9 rfl hl (by decide) rfl (fun ls hl => ?_)
  refine lv_iload_n hx hb dJ6_bitCount_0f7a4_10 rfl (lv_at hl 0 rfl) ?_
  refine lv_ldcw (own := RJ6) (v := 858993459) hx hb hown (hg kw_21) dJ6_bitCount_0f7a4_11 ?_
  refine lv_iand hx hb dJ6_bitCount_0f7a4_14 ?_
  refine lv_iload_n hx hb dJ6_bitCount_0f7a4_15 rfl (lv_at hl 0 rfl) ?_
  refine lv_iconst (v := 2) hx hb dJ6_bitCount_0f7a4_16 (by decide) ?_
  refine lv_iushr (v := (ds_iushr x9 (2 : Int32))) hx hb dJ6_bitCount_0f7a4_17 rfl ?_
  refine lv_ldcw (own := RJ6) (v := 858993459) hx hb hown (hg kw_21) dJ6_bitCount_0f7a4_18 ?_
  refine lv_iand hx hb dJ6_bitCount_0f7a4_21 ?_
  refine lv_iadd hx hb dJ6_bitCount_0f7a4_22 ?_
  obtain ⟨x23, hx_23, hf⟩ := ds_ob hf
  refine ds_nmi hx_23 ?_
  refine lv_istore_n (lv' := [(0, .int x23)]) hx hb dJ6_bitCount_0f7a4_23 rfl hl (by decide) rfl (fun ls hl => ?_)
  refine lv_iload_n hx hb dJ6_bitCount_0f7a4_24 rfl (lv_at hl 0 rfl) ?_
  refine lv_iload_n hx hb dJ6_bitCount_0f7a4_25 rfl (lv_at hl 0 rfl) ?_
  refine lv_iconst (v := 4) hx hb dJ6_bitCount_0f7a4_26 (by decide) ?_
  refine lv_iushr (v := (ds_iushr x23 (4 : Int32))) hx hb dJ6_bitCount_0f7a4_27 rfl ?_
  refine lv_iadd hx hb dJ6_bitCount_0f7a4_28 ?_
  refine lv_ldcw (own := RJ6) (v := 252645135) hx hb hown (hg kw_22) dJ6_bitCount_0f7a4_29 ?_
  refine lv_iand hx hb dJ6_bitCount_0f7a4_32 ?_
  obtain ⟨x33, hx_33, hf⟩ := ds_ob hf
  refine ds_nmi hx_33 ?_
  refine lv_istore_n (lv' := [(0, .int x33)]) hx hb dJ6_bitCount_0f7a4_33 rfl hl (by decide) rfl (fun ls hl => ?_)
  refine lv_iload_n hx hb dJ6_bitCount_0f7a4_34 rfl (lv_at hl 0 rfl) ?_
  refine lv_iload_n hx hb dJ6_bitCount_0f7a4_35 rfl (lv_at hl 0 rfl) ?_
  refine lv_bipush (v := 8) hx hb dJ6_bitCount_0f7a4_36 (by decide) ?_
  refine lv_iushr (v := (ds_iushr x33 (8 : Int32))) hx hb dJ6_bitCount_0f7a4_38 rfl ?_
  refine lv_iadd hx hb dJ6_bitCount_0f7a4_39 ?_
  refine lv_istore_n (lv' := [(0, .int (x33 + (ds_iushr x33 (8 : Int32))))]) hx hb dJ6_bitCount_0f7a4_40 rfl hl (by decide) rfl (fun ls hl => ?_)
  refine lv_iload_n hx hb dJ6_bitCount_0f7a4_41 rfl (lv_at hl 0 rfl) ?_
  refine lv_iload_n hx hb dJ6_bitCount_0f7a4_42 rfl (lv_at hl 0 rfl) ?_
  refine lv_bipush (v := 16) hx hb dJ6_bitCount_0f7a4_43 (by decide) ?_
  refine lv_iushr (v := (ds_iushr (x33 + (ds_iushr x33 (8 : Int32))) (16 : Int32))) hx hb dJ6_bitCount_0f7a4_45 rfl ?_
  refine lv_iadd hx hb dJ6_bitCount_0f7a4_46 ?_
  obtain ⟨x47, hx_47, hf⟩ := ds_ob hf
  refine ds_nmi hx_47 ?_
  refine lv_istore_n (lv' := [(0, .int x47)]) hx hb dJ6_bitCount_0f7a4_47 rfl hl (by decide) rfl (fun ls hl => ?_)
  refine lv_iload_n hx hb dJ6_bitCount_0f7a4_48 rfl (lv_at hl 0 rfl) ?_
  refine lv_bipush (v := 63) hx hb dJ6_bitCount_0f7a4_49 (by decide) ?_
  refine lv_iand hx hb dJ6_bitCount_0f7a4_51 ?_
  have hf := Option.some.inj hf
  subst hf
  rw [eG0] at hG
  have hG : _ = res := hG
  subst hG
  exact W.iret (v := (x47 &&& (63 : Int32))) hx hb hr (fun t ht hW => ⟨⟨(x47 &&& (63 : Int32)), (), rfl, rfl, by rw [ht]; exact hP, hD⟩, hS.F ht⟩) hS.2.2 dJ6_bitCount_0f7a4_52
theorem dX1_acrossX_0 : decode cX1_acrossX 0 = .ok (.getstatic 32, 3) := by decide +kernel
theorem dX1_acrossX_3 : decode cX1_acrossX 3 = .ok (.iconst 2, 1) := by decide +kernel
theorem dX1_acrossX_4 : decode cX1_acrossX 4 = .ok (.iload_n 0, 1) := by decide +kernel
theorem dX1_acrossX_5 : decode cX1_acrossX 5 = .ok (.iload_n 1, 1) := by decide +kernel
theorem dX1_acrossX_6 : decode cX1_acrossX 6 = .ok (.invokestatic 20, 3) := by decide +kernel
theorem dX1_acrossX_9 : decode cX1_acrossX 9 = .ok (.imul, 1) := by decide +kernel
theorem dX1_acrossX_10 : decode cX1_acrossX 10 = .ok (.invokestatic 28, 3) := by decide +kernel
theorem dX1_acrossX_13 : decode cX1_acrossX 13 = .ok (.ireturn, 1) := by decide +kernel
def fX1_acrossX (p1 : Int32) (p2 : Int32) : Option (Int32) :=
  Option.bind (fX1_lineOf p1 p2) fun q6 => Option.bind (fX1_entry_t1 ((2 : Int32) * q6)) fun q10 => some q10
set_option maxHeartbeats 4000000 in
set_option maxRecDepth 100000 in
theorem c_X1_acrossX (l : Launch) (dC : Nat → ClassId) (dI : Nat → Nat → Nat) (ca : Nat → ClassId) (sa : Nat → Nat) (sz : Nat) (p1 : Int32) (p2 : Int32) (res : Int32) (hf : fX1_acrossX p1 p2 = some res) : Met l yX1_acrossX (Cond.code yX1_acrossX cX1_acrossX 2 (some .int) :: ds_gw) { frames := 1, cells := 0, slots := 0, locals := 21 } (va_Pc [.int p1, .int p2] (ds_Pre dC dI ca sa [] sz)) (va_Qi (fun r (_ : Unit) => r = res) (ds_B dC dI (va_A [] sz) []) (va_A [] sz)) 0 0 (va_A [] sz) := by
  refine Met.ofW (cc := cX1_acrossX) (maxL := 2) (ret := (some .int)) (by decide) rfl ?_
  intro p e s m args below meth c s₁ B hml hv
  obtain ⟨rfl, hsz, hP, hK, hD0, hE⟩ := hv
  have hx := B.exec
  have hb := B.bytes
  have hr := B.returns
  have hts := atoms_spec (ws := Cond.code yX1_acrossX cX1_acrossX 2 (some .int) :: ds_gw) B.pre
  have hg : ∀ {w : Cond}, w ∈ ds_gw → w.before _ s = true := fun h => hts _ (List.mem_cons_of_mem _ h)
  have hown : s.vm.findClass RX1 = some m.cls := findClass_of_methodNamed B.named
  have hlocks := B.notSynchronized
  subst hsz
  have hD := hD0.self (sz := s.heap.size)
  generalize hAe : va_A [] s.heap.size = A at hD hE ⊢
  have hA : ∀ q : Nat, s.heap.size ≤ q → A q := fun q h => by rw [← hAe]; exact Or.inr h
  have hS : va_S A s.heap s.heap [] := va_S.rf
  have hl := lv_entry ([.int p1, .int p2]) (n := 2) (Nat.le_of_ble_eq_true rfl)
  rw [lg_entry_eq]
  generalize (lg_sl ([.int p1, .int p2]) ++ List.replicate (2 - (lg_sl ([.int p1, .int p2])).length) Slot.unset).toArray = ls at hl ⊢
  have hl : lv_has ls 2 [(0, .int p1), (1, .int p2)] := hl
  obtain ⟨G0, eG0⟩ : ∃ G : Int32 → Prop, G = (fun r => r = res) := ⟨_, rfl⟩
  obtain ⟨rr, hrr⟩ : ∃ z, z = res := ⟨_, rfl⟩
  rw [← hrr] at hf
  have hG : G0 rr := by subst eG0; exact hrr
  unfold fX1_acrossX at hf
  refine va_gets (C := RX1) (n := "ACROSS") (d := "[I") (v := .ref (sa 1)) hx hb hE.2.2.1.1 hS hown (hg kw_23) (fun _ h9 => h9) dX1_acrossX_0 ?_
  refine lv_iconst (v := 2) hx hb dX1_acrossX_3 (by decide) ?_
  refine lv_iload_n hx hb dX1_acrossX_4 rfl (lv_at hl 0 rfl) ?_
  refine lv_iload_n hx hb dX1_acrossX_5 rfl (lv_at hl 1 rfl) ?_
  obtain ⟨q6, hq6, hf⟩ := ds_ob hf
  refine ds_calli (wr := []) (va_runS (As := [.int p1, .int p2]) (rest := [.int (2 : Int32), .ref (sa 1)]) ⟨hx, hb, hml, hown, hts⟩ (c_X1_lineOf l dC dI ca sa  s.heap.size  p1 p2 q6 hq6) (va_cwS 2 hts (ds_gS kw_10 kw_11 kw_2 kw_12) rfl rfl rfl (by decide +kernel) ⟨Nat.le_of_ble_eq_true rfl, Nat.le_of_ble_eq_true rfl⟩) ⟨ds_blind, ds_at hP hD hK hE hS hA [] rfl rfl _⟩ rfl rfl hl.1 rfl (lv_room (Nat.le_of_ble_eq_true rfl)) dX1_acrossX_6 ⟨Nat.zero_le _, Nat.zero_le _⟩) hP hD hS hA [] [] rfl rfl rfl (by decide) (fun H locs hP hD hS => ?_)
  have hP : va_P (dC, dI) vwCl [] H := hP
  have hD : va_D A [] := hD
  refine lv_imul hx hb dX1_acrossX_9 ?_
  obtain ⟨q10, hq10, hf⟩ := ds_ob hf
  refine ds_calli (wr := []) (va_runS (As := [.ref (sa 1), .int ((2 : Int32) * q6)]) (rest := []) ⟨hx, hb, hml, hown, hts⟩ (c_X1_entry_t1 l dC dI ca sa  H.size  ((2 : Int32) * q6) q10 hq10) (va_cwS 2 hts (ds_gS kw_14 kw_15 kw_2 kw_16) rfl rfl rfl (by decide +kernel) ⟨Nat.le_of_ble_eq_true rfl, Nat.le_of_ble_eq_true rfl⟩) ⟨ds_blind, ds_at hP hD hK hE hS hA [] rfl rfl _⟩ rfl rfl hl.1 rfl (lv_room (Nat.le_of_ble_eq_true rfl)) dX1_acrossX_10 ⟨Nat.zero_le _, Nat.zero_le _⟩) hP hD hS hA [] [] rfl rfl rfl (by decide) (fun H locs hP hD hS => ?_)
  have hP : va_P (dC, dI) vwCl [] H := hP
  have hD : va_D A [] := hD
  have hf := Option.some.inj hf
  subst hf
  rw [eG0] at hG
  have hG : _ = res := hG
  subst hG
  exact W.iret (v := q10) hx hb hr (fun t ht hW => ⟨⟨q10, (), rfl, rfl, by rw [ht]; exact hP, hD⟩, hS.F ht⟩) hS.2.2 dX1_acrossX_13
theorem dX1_acrossY_0 : decode cX1_acrossY 0 = .ok (.getstatic 32, 3) := by decide +kernel
theorem dX1_acrossY_3 : decode cX1_acrossY 3 = .ok (.iconst 2, 1) := by decide +kernel
theorem dX1_acrossY_4 : decode cX1_acrossY 4 = .ok (.iload_n 0, 1) := by decide +kernel
theorem dX1_acrossY_5 : decode cX1_acrossY 5 = .ok (.iload_n 1, 1) := by decide +kernel
theorem dX1_acrossY_6 : decode cX1_acrossY 6 = .ok (.invokestatic 20, 3) := by decide +kernel
theorem dX1_acrossY_9 : decode cX1_acrossY 9 = .ok (.imul, 1) := by decide +kernel
theorem dX1_acrossY_10 : decode cX1_acrossY 10 = .ok (.iconst 1, 1) := by decide +kernel
theorem dX1_acrossY_11 : decode cX1_acrossY 11 = .ok (.iadd, 1) := by decide +kernel
theorem dX1_acrossY_12 : decode cX1_acrossY 12 = .ok (.invokestatic 28, 3) := by decide +kernel
theorem dX1_acrossY_15 : decode cX1_acrossY 15 = .ok (.ireturn, 1) := by decide +kernel
def fX1_acrossY (p1 : Int32) (p2 : Int32) : Option (Int32) :=
  Option.bind (fX1_lineOf p1 p2) fun q6 => Option.bind (fX1_entry_t1 (((2 : Int32) * q6) + (1 : Int32))) fun q12 => some q12
set_option maxHeartbeats 4000000 in
set_option maxRecDepth 100000 in
theorem c_X1_acrossY (l : Launch) (dC : Nat → ClassId) (dI : Nat → Nat → Nat) (ca : Nat → ClassId) (sa : Nat → Nat) (sz : Nat) (p1 : Int32) (p2 : Int32) (res : Int32) (hf : fX1_acrossY p1 p2 = some res) : Met l yX1_acrossY (Cond.code yX1_acrossY cX1_acrossY 2 (some .int) :: ds_gw) { frames := 1, cells := 0, slots := 0, locals := 21 } (va_Pc [.int p1, .int p2] (ds_Pre dC dI ca sa [] sz)) (va_Qi (fun r (_ : Unit) => r = res) (ds_B dC dI (va_A [] sz) []) (va_A [] sz)) 0 0 (va_A [] sz) := by
  refine Met.ofW (cc := cX1_acrossY) (maxL := 2) (ret := (some .int)) (by decide) rfl ?_
  intro p e s m args below meth c s₁ B hml hv
  obtain ⟨rfl, hsz, hP, hK, hD0, hE⟩ := hv
  have hx := B.exec
  have hb := B.bytes
  have hr := B.returns
  have hts := atoms_spec (ws := Cond.code yX1_acrossY cX1_acrossY 2 (some .int) :: ds_gw) B.pre
  have hg : ∀ {w : Cond}, w ∈ ds_gw → w.before _ s = true := fun h => hts _ (List.mem_cons_of_mem _ h)
  have hown : s.vm.findClass RX1 = some m.cls := findClass_of_methodNamed B.named
  have hlocks := B.notSynchronized
  subst hsz
  have hD := hD0.self (sz := s.heap.size)
  generalize hAe : va_A [] s.heap.size = A at hD hE ⊢
  have hA : ∀ q : Nat, s.heap.size ≤ q → A q := fun q h => by rw [← hAe]; exact Or.inr h
  have hS : va_S A s.heap s.heap [] := va_S.rf
  have hl := lv_entry ([.int p1, .int p2]) (n := 2) (Nat.le_of_ble_eq_true rfl)
  rw [lg_entry_eq]
  generalize (lg_sl ([.int p1, .int p2]) ++ List.replicate (2 - (lg_sl ([.int p1, .int p2])).length) Slot.unset).toArray = ls at hl ⊢
  have hl : lv_has ls 2 [(0, .int p1), (1, .int p2)] := hl
  obtain ⟨G0, eG0⟩ : ∃ G : Int32 → Prop, G = (fun r => r = res) := ⟨_, rfl⟩
  obtain ⟨rr, hrr⟩ : ∃ z, z = res := ⟨_, rfl⟩
  rw [← hrr] at hf
  have hG : G0 rr := by subst eG0; exact hrr
  unfold fX1_acrossY at hf
  refine va_gets (C := RX1) (n := "ACROSS") (d := "[I") (v := .ref (sa 1)) hx hb hE.2.2.1.1 hS hown (hg kw_23) (fun _ h9 => h9) dX1_acrossY_0 ?_
  refine lv_iconst (v := 2) hx hb dX1_acrossY_3 (by decide) ?_
  refine lv_iload_n hx hb dX1_acrossY_4 rfl (lv_at hl 0 rfl) ?_
  refine lv_iload_n hx hb dX1_acrossY_5 rfl (lv_at hl 1 rfl) ?_
  obtain ⟨q6, hq6, hf⟩ := ds_ob hf
  refine ds_calli (wr := []) (va_runS (As := [.int p1, .int p2]) (rest := [.int (2 : Int32), .ref (sa 1)]) ⟨hx, hb, hml, hown, hts⟩ (c_X1_lineOf l dC dI ca sa  s.heap.size  p1 p2 q6 hq6) (va_cwS 2 hts (ds_gS kw_10 kw_11 kw_2 kw_12) rfl rfl rfl (by decide +kernel) ⟨Nat.le_of_ble_eq_true rfl, Nat.le_of_ble_eq_true rfl⟩) ⟨ds_blind, ds_at hP hD hK hE hS hA [] rfl rfl _⟩ rfl rfl hl.1 rfl (lv_room (Nat.le_of_ble_eq_true rfl)) dX1_acrossY_6 ⟨Nat.zero_le _, Nat.zero_le _⟩) hP hD hS hA [] [] rfl rfl rfl (by decide) (fun H locs hP hD hS => ?_)
  have hP : va_P (dC, dI) vwCl [] H := hP
  have hD : va_D A [] := hD
  refine lv_imul hx hb dX1_acrossY_9 ?_
  refine lv_iconst (v := 1) hx hb dX1_acrossY_10 (by decide) ?_
  refine lv_iadd hx hb dX1_acrossY_11 ?_
  obtain ⟨q12, hq12, hf⟩ := ds_ob hf
  refine ds_calli (wr := []) (va_runS (As := [.ref (sa 1), .int (((2 : Int32) * q6) + (1 : Int32))]) (rest := []) ⟨hx, hb, hml, hown, hts⟩ (c_X1_entry_t1 l dC dI ca sa  H.size  (((2 : Int32) * q6) + (1 : Int32)) q12 hq12) (va_cwS 2 hts (ds_gS kw_14 kw_15 kw_2 kw_16) rfl rfl rfl (by decide +kernel) ⟨Nat.le_of_ble_eq_true rfl, Nat.le_of_ble_eq_true rfl⟩) ⟨ds_blind, ds_at hP hD hK hE hS hA [] rfl rfl _⟩ rfl rfl hl.1 rfl (lv_room (Nat.le_of_ble_eq_true rfl)) dX1_acrossY_12 ⟨Nat.zero_le _, Nat.zero_le _⟩) hP hD hS hA [] [] rfl rfl rfl (by decide) (fun H locs hP hD hS => ?_)
  have hP : va_P (dC, dI) vwCl [] H := hP
  have hD : va_D A [] := hD
  have hf := Option.some.inj hf
  subst hf
  rw [eG0] at hG
  have hG : _ = res := hG
  subst hG
  exact W.iret (v := q12) hx hb hr (fun t ht hW => ⟨⟨q12, (), rfl, rfl, by rw [ht]; exact hP, hD⟩, hS.F ht⟩) hS.2.2 dX1_acrossY_15
theorem dX1_lengthOf_0 : decode cX1_lengthOf 0 = .ok (.iload_n 1, 1) := by decide +kernel
theorem dX1_lengthOf_1 : decode cX1_lengthOf 1 = .ok (.iload_n 1, 1) := by decide +kernel
theorem dX1_lengthOf_2 : decode cX1_lengthOf 2 = .ok (.imul, 1) := by decide +kernel
theorem dX1_lengthOf_3 : decode cX1_lengthOf 3 = .ok (.iload_n 2, 1) := by decide +kernel
theorem dX1_lengthOf_4 : decode cX1_lengthOf 4 = .ok (.iload_n 2, 1) := by decide +kernel
theorem dX1_lengthOf_5 : decode cX1_lengthOf 5 = .ok (.imul, 1) := by decide +kernel
theorem dX1_lengthOf_6 : decode cX1_lengthOf 6 = .ok (.iadd, 1) := by decide +kernel
theorem dX1_lengthOf_7 : decode cX1_lengthOf 7 = .ok (.iload_n 0, 1) := by decide +kernel
theorem dX1_lengthOf_8 : decode cX1_lengthOf 8 = .ok (.ifCond .eq 9, 3) := by decide +kernel
theorem dX1_lengthOf_11 : decode cX1_lengthOf 11 = .ok (.iload_n 1, 1) := by decide +kernel
theorem dX1_lengthOf_12 : decode cX1_lengthOf 12 = .ok (.iload_n 2, 1) := by decide +kernel
theorem dX1_lengthOf_13 : decode cX1_lengthOf 13 = .ok (.imul, 1) := by decide +kernel
theorem dX1_lengthOf_14 : decode cX1_lengthOf 14 = .ok (.goto 4, 3) := by decide +kernel
theorem dX1_lengthOf_17 : decode cX1_lengthOf 17 = .ok (.iconst 0, 1) := by decide +kernel
theorem dX1_lengthOf_18 : decode cX1_lengthOf 18 = .ok (.iadd, 1) := by decide +kernel
theorem dX1_lengthOf_19 : decode cX1_lengthOf 19 = .ok (.ireturn, 1) := by decide +kernel
def fX1_lengthOf_18 (s0 : Int32) (s1 : Int32) : Option (Int32) :=
  some (s1 + s0)
def fX1_lengthOf (p1 : Int32) (p2 : Int32) (p3 : Int32) : Option (Int32) :=
  if p1 = 0 then fX1_lengthOf_18 (0 : Int32) ((p2 * p2) + (p3 * p3)) else fX1_lengthOf_18 (p2 * p3) ((p2 * p2) + (p3 * p3))
set_option maxHeartbeats 4000000 in
set_option maxRecDepth 100000 in
theorem c_X1_lengthOf (l : Launch) (dC : Nat → ClassId) (dI : Nat → Nat → Nat) (ca : Nat → ClassId) (sa : Nat → Nat) (sz : Nat) (p1 : Int32) (p2 : Int32) (p3 : Int32) (res : Int32) (hf : fX1_lengthOf p1 p2 p3 = some res) : Met l yX1_lengthOf (Cond.code yX1_lengthOf cX1_lengthOf 3 (some .int) :: ds_gw) { frames := 0, cells := 0, slots := 0, locals := 0 } (va_Pc [.int p1, .int p2, .int p3] (ds_Pre dC dI ca sa [] sz)) (va_Qi (fun r (_ : Unit) => r = res) (ds_B dC dI (va_A [] sz) []) (va_A [] sz)) 0 0 (va_A [] sz) := by
  refine Met.ofW (cc := cX1_lengthOf) (maxL := 3) (ret := (some .int)) (by decide) rfl ?_
  intro p e s m args below meth c s₁ B hml hv
  obtain ⟨rfl, hsz, hP, hK, hD0, hE⟩ := hv
  have hx := B.exec
  have hb := B.bytes
  have hr := B.returns
  have hts := atoms_spec (ws := Cond.code yX1_lengthOf cX1_lengthOf 3 (some .int) :: ds_gw) B.pre
  have hg : ∀ {w : Cond}, w ∈ ds_gw → w.before _ s = true := fun h => hts _ (List.mem_cons_of_mem _ h)
  have hown : s.vm.findClass RX1 = some m.cls := findClass_of_methodNamed B.named
  have hlocks := B.notSynchronized
  subst hsz
  have hD := hD0.self (sz := s.heap.size)
  generalize hAe : va_A [] s.heap.size = A at hD hE ⊢
  have hA : ∀ q : Nat, s.heap.size ≤ q → A q := fun q h => by rw [← hAe]; exact Or.inr h
  have hS : va_S A s.heap s.heap [] := va_S.rf
  have hl := lv_entry ([.int p1, .int p2, .int p3]) (n := 3) (Nat.le_of_ble_eq_true rfl)
  rw [lg_entry_eq]
  generalize (lg_sl ([.int p1, .int p2, .int p3]) ++ List.replicate (3 - (lg_sl ([.int p1, .int p2, .int p3])).length) Slot.unset).toArray = ls at hl ⊢
  have hl : lv_has ls 3 [(0, .int p1), (1, .int p2), (2, .int p3)] := hl
  obtain ⟨G0, eG0⟩ : ∃ G : Int32 → Prop, G = (fun r => r = res) := ⟨_, rfl⟩
  obtain ⟨rr, hrr⟩ : ∃ z, z = res := ⟨_, rfl⟩
  rw [← hrr] at hf
  have hG : G0 rr := by subst eG0; exact hrr
  refine ds_cap (fun WW h1 h2 => ?_)
  have J_18 : ∀ (s0 : Int32) (s1 : Int32) (rr : Int32) (hf : fX1_lengthOf_18 s0 s1 = some rr) (hG : G0 rr) (H : Heap) (locs : List Loc) (hP : va_P (dC, dI) vwCl [] H) (hD : va_D A []) (hS : va_S A s.heap H locs) (ls : Array Slot) (hl : lv_has ls 3 []), WW H locs (F0 m 18 ls [.int s0, .int s1]) := by
    intro s0 s1 rr hf hG H locs hP hD hS ls hl
    refine h2 ?_
    unfold fX1_lengthOf_18 at hf
    refine lv_iadd hx hb dX1_lengthOf_18 ?_
    have hf := Option.some.inj hf
    subst hf
    rw [eG0] at hG
    have hG : _ = res := hG
    subst hG
    exact W.iret (v := (s1 + s0)) hx hb hr (fun t ht hW => ⟨⟨(s1 + s0), (), rfl, rfl, by rw [ht]; exact hP, hD⟩, hS.F ht⟩) hS.2.2 dX1_lengthOf_19
  unfold fX1_lengthOf at hf
  refine lv_iload_n hx hb dX1_lengthOf_0 rfl (lv_at hl 1 rfl) ?_
  refine lv_iload_n hx hb dX1_lengthOf_1 rfl (lv_at hl 1 rfl) ?_
  refine lv_imul hx hb dX1_lengthOf_2 ?_
  refine lv_iload_n hx hb dX1_lengthOf_3 rfl (lv_at hl 2 rfl) ?_
  refine lv_iload_n hx hb dX1_lengthOf_4 rfl (lv_at hl 2 rfl) ?_
  refine lv_imul hx hb dX1_lengthOf_5 ?_
  refine lv_iadd hx hb dX1_lengthOf_6 ?_
  refine lv_iload_n hx hb dX1_lengthOf_7 rfl (lv_at hl 0 rfl) ?_
  refine lv_if_eq (tgt := 17) hx hb dX1_lengthOf_8 (by decide) (fun c_8 => ?_) (fun c_8 => ?_)
  · replace hf := ds_t c_8 hf
    refine lv_iconst (v := 0) hx hb dX1_lengthOf_17 (by decide) ?_
    exact h1 (J_18 (0 : Int32) ((p2 * p2) + (p3 * p3)) _ hf hG _ _ hP hD hS _ (lv_sub hl [] rfl))
  · replace hf := ds_f c_8 hf
    refine lv_iload_n hx hb dX1_lengthOf_11 rfl (lv_at hl 1 rfl) ?_
    refine lv_iload_n hx hb dX1_lengthOf_12 rfl (lv_at hl 2 rfl) ?_
    refine lv_imul hx hb dX1_lengthOf_13 ?_
    refine lv_goto (tgt := 18) hx hb dX1_lengthOf_14 (by decide) ?_
    exact h1 (J_18 (p2 * p3) ((p2 * p2) + (p3 * p3)) _ hf hG _ _ hP hD hS _ (lv_sub hl [] rfl))
theorem dX1_turningOfWay_0 : decode cX1_turningOfWay 0 = .ok (.iload_n 0, 1) := by decide +kernel
theorem dX1_turningOfWay_1 : decode cX1_turningOfWay 1 = .ok (.tableswitch 33 1 3 #[27, 29, 31], 27) := by decide +kernel
theorem dX1_turningOfWay_28 : decode cX1_turningOfWay 28 = .ok (.iconst 5, 1) := by decide +kernel
theorem dX1_turningOfWay_29 : decode cX1_turningOfWay 29 = .ok (.ireturn, 1) := by decide +kernel
theorem dX1_turningOfWay_30 : decode cX1_turningOfWay 30 = .ok (.iconst 4, 1) := by decide +kernel
theorem dX1_turningOfWay_31 : decode cX1_turningOfWay 31 = .ok (.ireturn, 1) := by decide +kernel
theorem dX1_turningOfWay_32 : decode cX1_turningOfWay 32 = .ok (.iconst 2, 1) := by decide +kernel
theorem dX1_turningOfWay_33 : decode cX1_turningOfWay 33 = .ok (.ireturn, 1) := by decide +kernel
theorem dX1_turningOfWay_34 : decode cX1_turningOfWay 34 = .ok (.iconst 0, 1) := by decide +kernel
theorem dX1_turningOfWay_35 : decode cX1_turningOfWay 35 = .ok (.ireturn, 1) := by decide +kernel
def fX1_turningOfWay (p1 : Int32) : Option (Int32) :=
  if p1 = 1 then some (5 : Int32) else if p1 = 2 then some (4 : Int32) else if p1 = 3 then some (2 : Int32) else some (0 : Int32)
set_option maxHeartbeats 4000000 in
set_option maxRecDepth 100000 in
theorem c_X1_turningOfWay (l : Launch) (dC : Nat → ClassId) (dI : Nat → Nat → Nat) (ca : Nat → ClassId) (sa : Nat → Nat) (sz : Nat) (p1 : Int32) (res : Int32) (hf : fX1_turningOfWay p1 = some res) : Met l yX1_turningOfWay (Cond.code yX1_turningOfWay cX1_turningOfWay 1 (some .int) :: ds_gw) { frames := 0, cells := 0, slots := 0, locals := 0 } (va_Pc [.int p1] (ds_Pre dC dI ca sa [] sz)) (va_Qi (fun r (_ : Unit) => r = res) (ds_B dC dI (va_A [] sz) []) (va_A [] sz)) 0 0 (va_A [] sz) := by
  refine Met.ofW (cc := cX1_turningOfWay) (maxL := 1) (ret := (some .int)) (by decide) rfl ?_
  intro p e s m args below meth c s₁ B hml hv
  obtain ⟨rfl, hsz, hP, hK, hD0, hE⟩ := hv
  have hx := B.exec
  have hb := B.bytes
  have hr := B.returns
  have hts := atoms_spec (ws := Cond.code yX1_turningOfWay cX1_turningOfWay 1 (some .int) :: ds_gw) B.pre
  have hg : ∀ {w : Cond}, w ∈ ds_gw → w.before _ s = true := fun h => hts _ (List.mem_cons_of_mem _ h)
  have hown : s.vm.findClass RX1 = some m.cls := findClass_of_methodNamed B.named
  have hlocks := B.notSynchronized
  subst hsz
  have hD := hD0.self (sz := s.heap.size)
  generalize hAe : va_A [] s.heap.size = A at hD hE ⊢
  have hA : ∀ q : Nat, s.heap.size ≤ q → A q := fun q h => by rw [← hAe]; exact Or.inr h
  have hS : va_S A s.heap s.heap [] := va_S.rf
  have hl := lv_entry ([.int p1]) (n := 1) (Nat.le_of_ble_eq_true rfl)
  rw [lg_entry_eq]
  generalize (lg_sl ([.int p1]) ++ List.replicate (1 - (lg_sl ([.int p1])).length) Slot.unset).toArray = ls at hl ⊢
  have hl : lv_has ls 1 [(0, .int p1)] := hl
  obtain ⟨G0, eG0⟩ : ∃ G : Int32 → Prop, G = (fun r => r = res) := ⟨_, rfl⟩
  obtain ⟨rr, hrr⟩ : ∃ z, z = res := ⟨_, rfl⟩
  rw [← hrr] at hf
  have hG : G0 rr := by subst eG0; exact hrr
  unfold fX1_turningOfWay at hf
  refine lv_iload_n hx hb dX1_turningOfWay_0 rfl (lv_at hl 0 rfl) ?_
  by_cases c_1_1 : p1 = 1
  · replace hf := ds_t c_1_1 hf
    refine lv_tableIn (off := 27) (tgt := 28) hx hb dX1_turningOfWay_1 (by rw [c_1_1]; decide) (by rw [c_1_1]; decide) (by rw [c_1_1]; decide) (by decide) ?_
    refine lv_iconst (v := 5) hx hb dX1_turningOfWay_28 (by decide) ?_
    have hf := Option.some.inj hf
    subst hf
    rw [eG0] at hG
    have hG : _ = res := hG
    subst hG
    exact W.iret (v := (5 : Int32)) hx hb hr (fun t ht hW => ⟨⟨(5 : Int32), (), rfl, rfl, by rw [ht]; exact hP, hD⟩, hS.F ht⟩) hS.2.2 dX1_turningOfWay_29
  replace hf := ds_f c_1_1 hf
  by_cases c_1_2 : p1 = 2
  · replace hf := ds_t c_1_2 hf
    refine lv_tableIn (off := 29) (tgt := 30) hx hb dX1_turningOfWay_1 (by rw [c_1_2]; decide) (by rw [c_1_2]; decide) (by rw [c_1_2]; decide) (by decide) ?_
    refine lv_iconst (v := 4) hx hb dX1_turningOfWay_30 (by decide) ?_
    have hf := Option.some.inj hf
    subst hf
    rw [eG0] at hG
    have hG : _ = res := hG
    subst hG
    exact W.iret (v := (4 : Int32)) hx hb hr (fun t ht hW => ⟨⟨(4 : Int32), (), rfl, rfl, by rw [ht]; exact hP, hD⟩, hS.F ht⟩) hS.2.2 dX1_turningOfWay_31
  replace hf := ds_f c_1_2 hf
  by_cases c_1_3 : p1 = 3
  · replace hf := ds_t c_1_3 hf
    refine lv_tableIn (off := 31) (tgt := 32) hx hb dX1_turningOfWay_1 (by rw [c_1_3]; decide) (by rw [c_1_3]; decide) (by rw [c_1_3]; decide) (by decide) ?_
    refine lv_iconst (v := 2) hx hb dX1_turningOfWay_32 (by decide) ?_
    have hf := Option.some.inj hf
    subst hf
    rw [eG0] at hG
    have hG : _ = res := hG
    subst hG
    exact W.iret (v := (2 : Int32)) hx hb hr (fun t ht hW => ⟨⟨(2 : Int32), (), rfl, rfl, by rw [ht]; exact hP, hD⟩, hS.F ht⟩) hS.2.2 dX1_turningOfWay_33
  replace hf := ds_f c_1_3 hf
  have n_1_1 := ds_toInt_ne c_1_1
  have n_1_2 := ds_toInt_ne c_1_2
  have n_1_3 := ds_toInt_ne c_1_3
  refine lv_tableOut (tgt := 34) hx hb dX1_turningOfWay_1 (by rw [show (1 : Int32).toInt = 1 by decide] at n_1_1; rw [show (2 : Int32).toInt = 2 by decide] at n_1_2; rw [show (3 : Int32).toInt = 3 by decide] at n_1_3; omega) (by decide) ?_
  refine lv_iconst (v := 0) hx hb dX1_turningOfWay_34 (by decide) ?_
  have hf := Option.some.inj hf
  subst hf
  rw [eG0] at hG
  have hG : _ = res := hG
  subst hG
  exact W.iret (v := (0 : Int32)) hx hb hr (fun t ht hW => ⟨⟨(0 : Int32), (), rfl, rfl, by rw [ht]; exact hP, hD⟩, hS.F ht⟩) hS.2.2 dX1_turningOfWay_35
theorem dJ0_coder_7d493_0 : decode cJ0_coder_7d493 0 = .ok (.getstatic 38, 3) := by decide +kernel
theorem dJ0_coder_7d493_3 : decode cJ0_coder_7d493 3 = .ok (.ifCond .eq 10, 3) := by decide +kernel
theorem dJ0_coder_7d493_6 : decode cJ0_coder_7d493 6 = .ok (.aload_n 0, 1) := by decide +kernel
theorem dJ0_coder_7d493_7 : decode cJ0_coder_7d493 7 = .ok (.getfield 15, 3) := by decide +kernel
theorem dJ0_coder_7d493_10 : decode cJ0_coder_7d493 10 = .ok (.goto 4, 3) := by decide +kernel
theorem dJ0_coder_7d493_13 : decode cJ0_coder_7d493 13 = .ok (.iconst 1, 1) := by decide +kernel
theorem dJ0_coder_7d493_14 : decode cJ0_coder_7d493 14 = .ok (.ireturn, 1) := by decide +kernel
def fJ0_coder_7d493_s0 : Option (Int32) :=
  if (1 : Int32) = 0 then if vp_nar .byte (1 : Int32) = (1 : Int32) then some (1 : Int32) else none else if vp_nar .byte (0 : Int32) = (0 : Int32) then some (0 : Int32) else none
set_option maxHeartbeats 4000000 in
set_option maxRecDepth 100000 in
theorem c_J0_coder_7d493_s0 (l : Launch) (dC : Nat → ClassId) (dI : Nat → Nat → Nat) (ca : Nat → ClassId) (sa : Nat → Nat) (sz : Nat) (res : Int32) (hf : fJ0_coder_7d493_s0 = some res) : Met l yJ0_coder_7d493 (Cond.code yJ0_coder_7d493 cJ0_coder_7d493 1 (some .byte) :: ds_gw) { frames := 0, cells := 0, slots := 0, locals := 0 } (va_Pc [.ref (sa 3)] (ds_Pre dC dI ca sa [] sz)) (va_Qi (fun r (_ : Unit) => r = res) (ds_B dC dI (va_A [] sz) []) (va_A [] sz)) 0 0 (va_A [] sz) := by
  refine Met.ofW (cc := cJ0_coder_7d493) (maxL := 1) (ret := (some .byte)) (by decide) rfl ?_
  intro p e s m args below meth c s₁ B hml hv
  obtain ⟨rfl, hsz, hP, hK, hD0, hE⟩ := hv
  have hx := B.exec
  have hb := B.bytes
  have hr := B.returns
  have hts := atoms_spec (ws := Cond.code yJ0_coder_7d493 cJ0_coder_7d493 1 (some .byte) :: ds_gw) B.pre
  have hg : ∀ {w : Cond}, w ∈ ds_gw → w.before _ s = true := fun h => hts _ (List.mem_cons_of_mem _ h)
  have hown : s.vm.findClass RJ0 = some m.cls := findClass_of_methodNamed B.named
  have hlocks := B.notSynchronized
  subst hsz
  have hD := hD0.self (sz := s.heap.size)
  generalize hAe : va_A [] s.heap.size = A at hD hE ⊢
  have hA : ∀ q : Nat, s.heap.size ≤ q → A q := fun q h => by rw [← hAe]; exact Or.inr h
  have hS : va_S A s.heap s.heap [] := va_S.rf
  have hl := lv_entry ([.ref (sa 3)]) (n := 1) (Nat.le_of_ble_eq_true rfl)
  rw [lg_entry_eq]
  generalize (lg_sl ([.ref (sa 3)]) ++ List.replicate (1 - (lg_sl ([.ref (sa 3)])).length) Slot.unset).toArray = ls at hl ⊢
  have hl : lv_has ls 1 [(0, .ref (sa 3))] := hl
  obtain ⟨G0, eG0⟩ : ∃ G : Int32 → Prop, G = (fun r => r = res) := ⟨_, rfl⟩
  obtain ⟨rr, hrr⟩ : ∃ z, z = res := ⟨_, rfl⟩
  rw [← hrr] at hf
  have hG : G0 rr := by subst eG0; exact hrr
  unfold fJ0_coder_7d493_s0 at hf
  refine va_gets (C := "java/lang/String") (n := "COMPACT_STRINGS") (d := "Z") (v := .int 1) hx hb hE.2.2.2.2.1.1 hS hown (hg kw_24) (fun _ h9 => h9) dJ0_coder_7d493_0 ?_
  refine lv_if_eq (tgt := 13) hx hb dJ0_coder_7d493_3 (by decide) (fun c_3 => ?_) (fun c_3 => ?_)
  · replace hf := ds_t c_3 hf
    refine lv_iconst (v := 1) hx hb dJ0_coder_7d493_13 (by decide) ?_
    obtain ⟨z_14, hf⟩ := ds_c hf
    have hf := Option.some.inj hf
    subst hf
    rw [eG0] at hG
    have hG : _ = res := hG
    subst hG
    exact W.zret (v := (1 : Int32)) (ty := .byte) hx hb hr (ds_nar_byte z_14) (fun t ht hW => ⟨⟨(1 : Int32), (), rfl, rfl, by rw [ht]; exact hP, hD⟩, hS.F ht⟩) hS.2.2 dJ0_coder_7d493_14
  · replace hf := ds_f c_3 hf
    refine lv_aload_n hx hb dJ0_coder_7d493_6 rfl (lv_at hl 0 rfl) ?_
    refine vk_getf hx hb (hE.2.2.2.2.2.2.1.1 0 (by decide)).2.1 hS hown (hg kw_25) (fun _ h9 => h9) dJ0_coder_7d493_7 ?_
    refine lv_goto (tgt := 14) hx hb dJ0_coder_7d493_10 (by decide) ?_
    obtain ⟨z_14, hf⟩ := ds_c hf
    have hf := Option.some.inj hf
    subst hf
    rw [eG0] at hG
    have hG : _ = res := hG
    subst hG
    exact W.zret (v := (0 : Int32)) (ty := .byte) hx hb hr (ds_nar_byte z_14) (fun t ht hW => ⟨⟨(0 : Int32), (), rfl, rfl, by rw [ht]; exact hP, hD⟩, hS.F ht⟩) hS.2.2 dJ0_coder_7d493_14
def fJ0_coder_7d493_s1 : Option (Int32) :=
  if (1 : Int32) = 0 then if vp_nar .byte (1 : Int32) = (1 : Int32) then some (1 : Int32) else none else if vp_nar .byte (0 : Int32) = (0 : Int32) then some (0 : Int32) else none
set_option maxHeartbeats 4000000 in
set_option maxRecDepth 100000 in
theorem c_J0_coder_7d493_s1 (l : Launch) (dC : Nat → ClassId) (dI : Nat → Nat → Nat) (ca : Nat → ClassId) (sa : Nat → Nat) (sz : Nat) (res : Int32) (hf : fJ0_coder_7d493_s1 = some res) : Met l yJ0_coder_7d493 (Cond.code yJ0_coder_7d493 cJ0_coder_7d493 1 (some .byte) :: ds_gw) { frames := 0, cells := 0, slots := 0, locals := 0 } (va_Pc [.ref (sa 4)] (ds_Pre dC dI ca sa [] sz)) (va_Qi (fun r (_ : Unit) => r = res) (ds_B dC dI (va_A [] sz) []) (va_A [] sz)) 0 0 (va_A [] sz) := by
  refine Met.ofW (cc := cJ0_coder_7d493) (maxL := 1) (ret := (some .byte)) (by decide) rfl ?_
  intro p e s m args below meth c s₁ B hml hv
  obtain ⟨rfl, hsz, hP, hK, hD0, hE⟩ := hv
  have hx := B.exec
  have hb := B.bytes
  have hr := B.returns
  have hts := atoms_spec (ws := Cond.code yJ0_coder_7d493 cJ0_coder_7d493 1 (some .byte) :: ds_gw) B.pre
  have hg : ∀ {w : Cond}, w ∈ ds_gw → w.before _ s = true := fun h => hts _ (List.mem_cons_of_mem _ h)
  have hown : s.vm.findClass RJ0 = some m.cls := findClass_of_methodNamed B.named
  have hlocks := B.notSynchronized
  subst hsz
  have hD := hD0.self (sz := s.heap.size)
  generalize hAe : va_A [] s.heap.size = A at hD hE ⊢
  have hA : ∀ q : Nat, s.heap.size ≤ q → A q := fun q h => by rw [← hAe]; exact Or.inr h
  have hS : va_S A s.heap s.heap [] := va_S.rf
  have hl := lv_entry ([.ref (sa 4)]) (n := 1) (Nat.le_of_ble_eq_true rfl)
  rw [lg_entry_eq]
  generalize (lg_sl ([.ref (sa 4)]) ++ List.replicate (1 - (lg_sl ([.ref (sa 4)])).length) Slot.unset).toArray = ls at hl ⊢
  have hl : lv_has ls 1 [(0, .ref (sa 4))] := hl
  obtain ⟨G0, eG0⟩ : ∃ G : Int32 → Prop, G = (fun r => r = res) := ⟨_, rfl⟩
  obtain ⟨rr, hrr⟩ : ∃ z, z = res := ⟨_, rfl⟩
  rw [← hrr] at hf
  have hG : G0 rr := by subst eG0; exact hrr
  unfold fJ0_coder_7d493_s1 at hf
  refine va_gets (C := "java/lang/String") (n := "COMPACT_STRINGS") (d := "Z") (v := .int 1) hx hb hE.2.2.2.2.1.1 hS hown (hg kw_24) (fun _ h9 => h9) dJ0_coder_7d493_0 ?_
  refine lv_if_eq (tgt := 13) hx hb dJ0_coder_7d493_3 (by decide) (fun c_3 => ?_) (fun c_3 => ?_)
  · replace hf := ds_t c_3 hf
    refine lv_iconst (v := 1) hx hb dJ0_coder_7d493_13 (by decide) ?_
    obtain ⟨z_14, hf⟩ := ds_c hf
    have hf := Option.some.inj hf
    subst hf
    rw [eG0] at hG
    have hG : _ = res := hG
    subst hG
    exact W.zret (v := (1 : Int32)) (ty := .byte) hx hb hr (ds_nar_byte z_14) (fun t ht hW => ⟨⟨(1 : Int32), (), rfl, rfl, by rw [ht]; exact hP, hD⟩, hS.F ht⟩) hS.2.2 dJ0_coder_7d493_14
  · replace hf := ds_f c_3 hf
    refine lv_aload_n hx hb dJ0_coder_7d493_6 rfl (lv_at hl 0 rfl) ?_
    refine vk_getf hx hb (hE.2.2.2.2.2.2.1.1 1 (by decide)).2.1 hS hown (hg kw_25) (fun _ h9 => h9) dJ0_coder_7d493_7 ?_
    refine lv_goto (tgt := 14) hx hb dJ0_coder_7d493_10 (by decide) ?_
    obtain ⟨z_14, hf⟩ := ds_c hf
    have hf := Option.some.inj hf
    subst hf
    rw [eG0] at hG
    have hG : _ = res := hG
    subst hG
    exact W.zret (v := (0 : Int32)) (ty := .byte) hx hb hr (ds_nar_byte z_14) (fun t ht hW => ⟨⟨(0 : Int32), (), rfl, rfl, by rw [ht]; exact hP, hD⟩, hS.F ht⟩) hS.2.2 dJ0_coder_7d493_14
theorem dJ0_length_8abf5_0 : decode cJ0_length_8abf5 0 = .ok (.aload_n 0, 1) := by decide +kernel
theorem dJ0_length_8abf5_1 : decode cJ0_length_8abf5 1 = .ok (.getfield 9, 3) := by decide +kernel
theorem dJ0_length_8abf5_4 : decode cJ0_length_8abf5 4 = .ok (.arraylength, 1) := by decide +kernel
theorem dJ0_length_8abf5_5 : decode cJ0_length_8abf5 5 = .ok (.aload_n 0, 1) := by decide +kernel
theorem dJ0_length_8abf5_6 : decode cJ0_length_8abf5 6 = .ok (.invokevirtual 335, 3) := by decide +kernel
theorem dJ0_length_8abf5_9 : decode cJ0_length_8abf5 9 = .ok (.ishr, 1) := by decide +kernel
theorem dJ0_length_8abf5_10 : decode cJ0_length_8abf5 10 = .ok (.ireturn, 1) := by decide +kernel
def fJ0_length_8abf5_s0 : Option (Int32) :=
  Option.bind (fJ0_coder_7d493_s0) fun q6 => some ((3 : Int32) >>> (q6 &&& 31))
set_option maxHeartbeats 4000000 in
set_option maxRecDepth 100000 in
theorem c_J0_length_8abf5_s0 (l : Launch) (dC : Nat → ClassId) (dI : Nat → Nat → Nat) (ca : Nat → ClassId) (sa : Nat → Nat) (sz : Nat) (res : Int32) (hf : fJ0_length_8abf5_s0 = some res) : Met l yJ0_length_8abf5 (Cond.code yJ0_length_8abf5 cJ0_length_8abf5 1 (some .int) :: ds_gw) { frames := 1, cells := 0, slots := 0, locals := 20 } (va_Pc [.ref (sa 3)] (ds_Pre dC dI ca sa [] sz)) (va_Qi (fun r (_ : Unit) => r = res) (ds_B dC dI (va_A [] sz) []) (va_A [] sz)) 0 0 (va_A [] sz) := by
  refine Met.ofW (cc := cJ0_length_8abf5) (maxL := 1) (ret := (some .int)) (by decide) rfl ?_
  intro p e s m args below meth c s₁ B hml hv
  obtain ⟨rfl, hsz, hP, hK, hD0, hE⟩ := hv
  have hx := B.exec
  have hb := B.bytes
  have hr := B.returns
  have hts := atoms_spec (ws := Cond.code yJ0_length_8abf5 cJ0_length_8abf5 1 (some .int) :: ds_gw) B.pre
  have hg : ∀ {w : Cond}, w ∈ ds_gw → w.before _ s = true := fun h => hts _ (List.mem_cons_of_mem _ h)
  have hown : s.vm.findClass RJ0 = some m.cls := findClass_of_methodNamed B.named
  have hlocks := B.notSynchronized
  subst hsz
  have hD := hD0.self (sz := s.heap.size)
  generalize hAe : va_A [] s.heap.size = A at hD hE ⊢
  have hA : ∀ q : Nat, s.heap.size ≤ q → A q := fun q h => by rw [← hAe]; exact Or.inr h
  have hS : va_S A s.heap s.heap [] := va_S.rf
  have hl := lv_entry ([.ref (sa 3)]) (n := 1) (Nat.le_of_ble_eq_true rfl)
  rw [lg_entry_eq]
  generalize (lg_sl ([.ref (sa 3)]) ++ List.replicate (1 - (lg_sl ([.ref (sa 3)])).length) Slot.unset).toArray = ls at hl ⊢
  have hl : lv_has ls 1 [(0, .ref (sa 3))] := hl
  obtain ⟨G0, eG0⟩ : ∃ G : Int32 → Prop, G = (fun r => r = res) := ⟨_, rfl⟩
  obtain ⟨rr, hrr⟩ : ∃ z, z = res := ⟨_, rfl⟩
  rw [← hrr] at hf
  have hG : G0 rr := by subst eG0; exact hrr
  unfold fJ0_length_8abf5_s0 at hf
  refine lv_aload_n hx hb dJ0_length_8abf5_0 rfl (lv_at hl 0 rfl) ?_
  refine vk_getf hx hb (hE.2.2.2.2.2.2.1.1 0 (by decide)).2.2.1 hS hown (hg kw_26) (fun _ h9 => h9) dJ0_length_8abf5_1 ?_
  refine va_tlen (v := 3) hx hb (hE.2.2.2.2.2.2.1.1 0 (by decide)).2.2.2 hS rfl dJ0_length_8abf5_4 ?_
  refine lv_aload_n hx hb dJ0_length_8abf5_5 rfl (lv_at hl 0 rfl) ?_
  obtain ⟨q6, hq6, hf⟩ := ds_ob hf
  refine ds_calli (wr := []) (va_runV (As := []) (rest := [.int (3 : Int32)]) ⟨hx, hb, hml, hown, hts⟩ (c_J0_coder_7d493_s0 l dC dI ca sa  s.heap.size   q6 hq6) (cwV 0 hts (ds_gV kw_27 kw_28 kw_29 kw_30 kw_31) rfl rfl rfl (by decide +kernel) ⟨Nat.le_of_ble_eq_true rfl, Nat.le_of_ble_eq_true rfl⟩) ⟨ds_blind, vk_recv hE.2.2.2.2.2.2.1 (i := 0) (by decide) hS, ds_at hP hD hK hE hS hA [] rfl rfl _⟩ rfl rfl hl.1 rfl (lv_room (Nat.le_of_ble_eq_true rfl)) dJ0_length_8abf5_6 ⟨Nat.zero_le _, Nat.zero_le _⟩) hP hD hS hA [] [] rfl rfl rfl (by decide) (fun H locs hP hD hS => ?_)
  have hP : va_P (dC, dI) vwCl [] H := hP
  have hD : va_D A [] := hD
  refine lv_ishr hx hb dJ0_length_8abf5_9 ?_
  have hf := Option.some.inj hf
  subst hf
  rw [eG0] at hG
  have hG : _ = res := hG
  subst hG
  exact W.iret (v := ((3 : Int32) >>> (q6 &&& 31))) hx hb hr (fun t ht hW => ⟨⟨((3 : Int32) >>> (q6 &&& 31)), (), rfl, rfl, by rw [ht]; exact hP, hD⟩, hS.F ht⟩) hS.2.2 dJ0_length_8abf5_10
def fJ0_length_8abf5_s1 : Option (Int32) :=
  Option.bind (fJ0_coder_7d493_s1) fun q6 => some ((6 : Int32) >>> (q6 &&& 31))
set_option maxHeartbeats 4000000 in
set_option maxRecDepth 100000 in
theorem c_J0_length_8abf5_s1 (l : Launch) (dC : Nat → ClassId) (dI : Nat → Nat → Nat) (ca : Nat → ClassId) (sa : Nat → Nat) (sz : Nat) (res : Int32) (hf : fJ0_length_8abf5_s1 = some res) : Met l yJ0_length_8abf5 (Cond.code yJ0_length_8abf5 cJ0_length_8abf5 1 (some .int) :: ds_gw) { frames := 1, cells := 0, slots := 0, locals := 20 } (va_Pc [.ref (sa 4)] (ds_Pre dC dI ca sa [] sz)) (va_Qi (fun r (_ : Unit) => r = res) (ds_B dC dI (va_A [] sz) []) (va_A [] sz)) 0 0 (va_A [] sz) := by
  refine Met.ofW (cc := cJ0_length_8abf5) (maxL := 1) (ret := (some .int)) (by decide) rfl ?_
  intro p e s m args below meth c s₁ B hml hv
  obtain ⟨rfl, hsz, hP, hK, hD0, hE⟩ := hv
  have hx := B.exec
  have hb := B.bytes
  have hr := B.returns
  have hts := atoms_spec (ws := Cond.code yJ0_length_8abf5 cJ0_length_8abf5 1 (some .int) :: ds_gw) B.pre
  have hg : ∀ {w : Cond}, w ∈ ds_gw → w.before _ s = true := fun h => hts _ (List.mem_cons_of_mem _ h)
  have hown : s.vm.findClass RJ0 = some m.cls := findClass_of_methodNamed B.named
  have hlocks := B.notSynchronized
  subst hsz
  have hD := hD0.self (sz := s.heap.size)
  generalize hAe : va_A [] s.heap.size = A at hD hE ⊢
  have hA : ∀ q : Nat, s.heap.size ≤ q → A q := fun q h => by rw [← hAe]; exact Or.inr h
  have hS : va_S A s.heap s.heap [] := va_S.rf
  have hl := lv_entry ([.ref (sa 4)]) (n := 1) (Nat.le_of_ble_eq_true rfl)
  rw [lg_entry_eq]
  generalize (lg_sl ([.ref (sa 4)]) ++ List.replicate (1 - (lg_sl ([.ref (sa 4)])).length) Slot.unset).toArray = ls at hl ⊢
  have hl : lv_has ls 1 [(0, .ref (sa 4))] := hl
  obtain ⟨G0, eG0⟩ : ∃ G : Int32 → Prop, G = (fun r => r = res) := ⟨_, rfl⟩
  obtain ⟨rr, hrr⟩ : ∃ z, z = res := ⟨_, rfl⟩
  rw [← hrr] at hf
  have hG : G0 rr := by subst eG0; exact hrr
  unfold fJ0_length_8abf5_s1 at hf
  refine lv_aload_n hx hb dJ0_length_8abf5_0 rfl (lv_at hl 0 rfl) ?_
  refine vk_getf hx hb (hE.2.2.2.2.2.2.1.1 1 (by decide)).2.2.1 hS hown (hg kw_26) (fun _ h9 => h9) dJ0_length_8abf5_1 ?_
  refine va_tlen (v := 6) hx hb (hE.2.2.2.2.2.2.1.1 1 (by decide)).2.2.2 hS rfl dJ0_length_8abf5_4 ?_
  refine lv_aload_n hx hb dJ0_length_8abf5_5 rfl (lv_at hl 0 rfl) ?_
  obtain ⟨q6, hq6, hf⟩ := ds_ob hf
  refine ds_calli (wr := []) (va_runV (As := []) (rest := [.int (6 : Int32)]) ⟨hx, hb, hml, hown, hts⟩ (c_J0_coder_7d493_s1 l dC dI ca sa  s.heap.size   q6 hq6) (cwV 0 hts (ds_gV kw_27 kw_28 kw_29 kw_30 kw_31) rfl rfl rfl (by decide +kernel) ⟨Nat.le_of_ble_eq_true rfl, Nat.le_of_ble_eq_true rfl⟩) ⟨ds_blind, vk_recv hE.2.2.2.2.2.2.1 (i := 1) (by decide) hS, ds_at hP hD hK hE hS hA [] rfl rfl _⟩ rfl rfl hl.1 rfl (lv_room (Nat.le_of_ble_eq_true rfl)) dJ0_length_8abf5_6 ⟨Nat.zero_le _, Nat.zero_le _⟩) hP hD hS hA [] [] rfl rfl rfl (by decide) (fun H locs hP hD hS => ?_)
  have hP : va_P (dC, dI) vwCl [] H := hP
  have hD : va_D A [] := hD
  refine lv_ishr hx hb dJ0_length_8abf5_9 ?_
  have hf := Option.some.inj hf
  subst hf
  rw [eG0] at hG
  have hG : _ = res := hG
  subst hG
  exact W.iret (v := ((6 : Int32) >>> (q6 &&& 31))) hx hb hr (fun t ht hW => ⟨⟨((6 : Int32) >>> (q6 &&& 31)), (), rfl, rfl, by rw [ht]; exact hP, hD⟩, hS.F ht⟩) hS.2.2 dJ0_length_8abf5_10
theorem dJ0_isLatin1_aae02_0 : decode cJ0_isLatin1_aae02 0 = .ok (.getstatic 38, 3) := by decide +kernel
theorem dJ0_isLatin1_aae02_3 : decode cJ0_isLatin1_aae02 3 = .ok (.ifCond .eq 14, 3) := by decide +kernel
theorem dJ0_isLatin1_aae02_6 : decode cJ0_isLatin1_aae02 6 = .ok (.aload_n 0, 1) := by decide +kernel
theorem dJ0_isLatin1_aae02_7 : decode cJ0_isLatin1_aae02 7 = .ok (.getfield 15, 3) := by decide +kernel
theorem dJ0_isLatin1_aae02_10 : decode cJ0_isLatin1_aae02 10 = .ok (.ifCond .ne 7, 3) := by decide +kernel
theorem dJ0_isLatin1_aae02_13 : decode cJ0_isLatin1_aae02 13 = .ok (.iconst 1, 1) := by decide +kernel
theorem dJ0_isLatin1_aae02_14 : decode cJ0_isLatin1_aae02 14 = .ok (.goto 4, 3) := by decide +kernel
theorem dJ0_isLatin1_aae02_17 : decode cJ0_isLatin1_aae02 17 = .ok (.iconst 0, 1) := by decide +kernel
theorem dJ0_isLatin1_aae02_18 : decode cJ0_isLatin1_aae02 18 = .ok (.ireturn, 1) := by decide +kernel
def fJ0_isLatin1_aae02_s0 : Option (Int32) :=
  if (1 : Int32) = 0 then some (0 : Int32) else if (0 : Int32) = 0 then some (1 : Int32) else some (0 : Int32)
set_option maxHeartbeats 4000000 in
set_option maxRecDepth 100000 in
theorem c_J0_isLatin1_aae02_s0 (l : Launch) (dC : Nat → ClassId) (dI : Nat → Nat → Nat) (ca : Nat → ClassId) (sa : Nat → Nat) (sz : Nat) (res : Int32) (hf : fJ0_isLatin1_aae02_s0 = some res) : Met l yJ0_isLatin1_aae02 (Cond.code yJ0_isLatin1_aae02 cJ0_isLatin1_aae02 1 (some .boolean) :: ds_gw) { frames := 0, cells := 0, slots := 0, locals := 0 } (va_Pc [.ref (sa 3)] (ds_Pre dC dI ca sa [] sz)) (va_Qi (fun r (_ : Unit) => r = res) (ds_B dC dI (va_A [] sz) []) (va_A [] sz)) 0 0 (va_A [] sz) := by
  refine Met.ofW (cc := cJ0_isLatin1_aae02) (maxL := 1) (ret := (some .boolean)) (by decide) rfl ?_
  intro p e s m args below meth c s₁ B hml hv
  obtain ⟨rfl, hsz, hP, hK, hD0, hE⟩ := hv
  have hx := B.exec
  have hb := B.bytes
  have hr := B.returns
  have hts := atoms_spec (ws := Cond.code yJ0_isLatin1_aae02 cJ0_isLatin1_aae02 1 (some .boolean) :: ds_gw) B.pre
  have hg : ∀ {w : Cond}, w ∈ ds_gw → w.before _ s = true := fun h => hts _ (List.mem_cons_of_mem _ h)
  have hown : s.vm.findClass RJ0 = some m.cls := findClass_of_methodNamed B.named
  have hlocks := B.notSynchronized
  subst hsz
  have hD := hD0.self (sz := s.heap.size)
  generalize hAe : va_A [] s.heap.size = A at hD hE ⊢
  have hA : ∀ q : Nat, s.heap.size ≤ q → A q := fun q h => by rw [← hAe]; exact Or.inr h
  have hS : va_S A s.heap s.heap [] := va_S.rf
  have hl := lv_entry ([.ref (sa 3)]) (n := 1) (Nat.le_of_ble_eq_true rfl)
  rw [lg_entry_eq]
  generalize (lg_sl ([.ref (sa 3)]) ++ List.replicate (1 - (lg_sl ([.ref (sa 3)])).length) Slot.unset).toArray = ls at hl ⊢
  have hl : lv_has ls 1 [(0, .ref (sa 3))] := hl
  obtain ⟨G0, eG0⟩ : ∃ G : Int32 → Prop, G = (fun r => r = res) := ⟨_, rfl⟩
  obtain ⟨rr, hrr⟩ : ∃ z, z = res := ⟨_, rfl⟩
  rw [← hrr] at hf
  have hG : G0 rr := by subst eG0; exact hrr
  unfold fJ0_isLatin1_aae02_s0 at hf
  refine va_gets (C := "java/lang/String") (n := "COMPACT_STRINGS") (d := "Z") (v := .int 1) hx hb hE.2.2.2.2.1.1 hS hown (hg kw_24) (fun _ h9 => h9) dJ0_isLatin1_aae02_0 ?_
  refine lv_if_eq (tgt := 17) hx hb dJ0_isLatin1_aae02_3 (by decide) (fun c_3 => ?_) (fun c_3 => ?_)
  · replace hf := ds_t c_3 hf
    refine lv_iconst (v := 0) hx hb dJ0_isLatin1_aae02_17 (by decide) ?_
    have hf := Option.some.inj hf
    subst hf
    rw [eG0] at hG
    have hG : _ = res := hG
    subst hG
    exact W.zret (v := (0 : Int32)) (ty := .boolean) hx hb hr rfl (fun t ht hW => ⟨⟨(0 : Int32), (), rfl, rfl, by rw [ht]; exact hP, hD⟩, hS.F ht⟩) hS.2.2 dJ0_isLatin1_aae02_18
  · replace hf := ds_f c_3 hf
    refine lv_aload_n hx hb dJ0_isLatin1_aae02_6 rfl (lv_at hl 0 rfl) ?_
    refine vk_getf hx hb (hE.2.2.2.2.2.2.1.1 0 (by decide)).2.1 hS hown (hg kw_25) (fun _ h9 => h9) dJ0_isLatin1_aae02_7 ?_
    refine lv_if_ne (tgt := 17) hx hb dJ0_isLatin1_aae02_10 (by decide) (fun c_10 => ?_) (fun c_10 => ?_)
    · replace hf := ds_f c_10 hf
      refine lv_iconst (v := 0) hx hb dJ0_isLatin1_aae02_17 (by decide) ?_
      have hf := Option.some.inj hf
      subst hf
      rw [eG0] at hG
      have hG : _ = res := hG
      subst hG
      exact W.zret (v := (0 : Int32)) (ty := .boolean) hx hb hr rfl (fun t ht hW => ⟨⟨(0 : Int32), (), rfl, rfl, by rw [ht]; exact hP, hD⟩, hS.F ht⟩) hS.2.2 dJ0_isLatin1_aae02_18
    · replace hf := ds_t c_10 hf
      refine lv_iconst (v := 1) hx hb dJ0_isLatin1_aae02_13 (by decide) ?_
      refine lv_goto (tgt := 18) hx hb dJ0_isLatin1_aae02_14 (by decide) ?_
      have hf := Option.some.inj hf
      subst hf
      rw [eG0] at hG
      have hG : _ = res := hG
      subst hG
      exact W.zret (v := (1 : Int32)) (ty := .boolean) hx hb hr rfl (fun t ht hW => ⟨⟨(1 : Int32), (), rfl, rfl, by rw [ht]; exact hP, hD⟩, hS.F ht⟩) hS.2.2 dJ0_isLatin1_aae02_18
def fJ0_isLatin1_aae02_s1 : Option (Int32) :=
  if (1 : Int32) = 0 then some (0 : Int32) else if (0 : Int32) = 0 then some (1 : Int32) else some (0 : Int32)
set_option maxHeartbeats 4000000 in
set_option maxRecDepth 100000 in
theorem c_J0_isLatin1_aae02_s1 (l : Launch) (dC : Nat → ClassId) (dI : Nat → Nat → Nat) (ca : Nat → ClassId) (sa : Nat → Nat) (sz : Nat) (res : Int32) (hf : fJ0_isLatin1_aae02_s1 = some res) : Met l yJ0_isLatin1_aae02 (Cond.code yJ0_isLatin1_aae02 cJ0_isLatin1_aae02 1 (some .boolean) :: ds_gw) { frames := 0, cells := 0, slots := 0, locals := 0 } (va_Pc [.ref (sa 4)] (ds_Pre dC dI ca sa [] sz)) (va_Qi (fun r (_ : Unit) => r = res) (ds_B dC dI (va_A [] sz) []) (va_A [] sz)) 0 0 (va_A [] sz) := by
  refine Met.ofW (cc := cJ0_isLatin1_aae02) (maxL := 1) (ret := (some .boolean)) (by decide) rfl ?_
  intro p e s m args below meth c s₁ B hml hv
  obtain ⟨rfl, hsz, hP, hK, hD0, hE⟩ := hv
  have hx := B.exec
  have hb := B.bytes
  have hr := B.returns
  have hts := atoms_spec (ws := Cond.code yJ0_isLatin1_aae02 cJ0_isLatin1_aae02 1 (some .boolean) :: ds_gw) B.pre
  have hg : ∀ {w : Cond}, w ∈ ds_gw → w.before _ s = true := fun h => hts _ (List.mem_cons_of_mem _ h)
  have hown : s.vm.findClass RJ0 = some m.cls := findClass_of_methodNamed B.named
  have hlocks := B.notSynchronized
  subst hsz
  have hD := hD0.self (sz := s.heap.size)
  generalize hAe : va_A [] s.heap.size = A at hD hE ⊢
  have hA : ∀ q : Nat, s.heap.size ≤ q → A q := fun q h => by rw [← hAe]; exact Or.inr h
  have hS : va_S A s.heap s.heap [] := va_S.rf
  have hl := lv_entry ([.ref (sa 4)]) (n := 1) (Nat.le_of_ble_eq_true rfl)
  rw [lg_entry_eq]
  generalize (lg_sl ([.ref (sa 4)]) ++ List.replicate (1 - (lg_sl ([.ref (sa 4)])).length) Slot.unset).toArray = ls at hl ⊢
  have hl : lv_has ls 1 [(0, .ref (sa 4))] := hl
  obtain ⟨G0, eG0⟩ : ∃ G : Int32 → Prop, G = (fun r => r = res) := ⟨_, rfl⟩
  obtain ⟨rr, hrr⟩ : ∃ z, z = res := ⟨_, rfl⟩
  rw [← hrr] at hf
  have hG : G0 rr := by subst eG0; exact hrr
  unfold fJ0_isLatin1_aae02_s1 at hf
  refine va_gets (C := "java/lang/String") (n := "COMPACT_STRINGS") (d := "Z") (v := .int 1) hx hb hE.2.2.2.2.1.1 hS hown (hg kw_24) (fun _ h9 => h9) dJ0_isLatin1_aae02_0 ?_
  refine lv_if_eq (tgt := 17) hx hb dJ0_isLatin1_aae02_3 (by decide) (fun c_3 => ?_) (fun c_3 => ?_)
  · replace hf := ds_t c_3 hf
    refine lv_iconst (v := 0) hx hb dJ0_isLatin1_aae02_17 (by decide) ?_
    have hf := Option.some.inj hf
    subst hf
    rw [eG0] at hG
    have hG : _ = res := hG
    subst hG
    exact W.zret (v := (0 : Int32)) (ty := .boolean) hx hb hr rfl (fun t ht hW => ⟨⟨(0 : Int32), (), rfl, rfl, by rw [ht]; exact hP, hD⟩, hS.F ht⟩) hS.2.2 dJ0_isLatin1_aae02_18
  · replace hf := ds_f c_3 hf
    refine lv_aload_n hx hb dJ0_isLatin1_aae02_6 rfl (lv_at hl 0 rfl) ?_
    refine vk_getf hx hb (hE.2.2.2.2.2.2.1.1 1 (by decide)).2.1 hS hown (hg kw_25) (fun _ h9 => h9) dJ0_isLatin1_aae02_7 ?_
    refine lv_if_ne (tgt := 17) hx hb dJ0_isLatin1_aae02_10 (by decide) (fun c_10 => ?_) (fun c_10 => ?_)
    · replace hf := ds_f c_10 hf
      refine lv_iconst (v := 0) hx hb dJ0_isLatin1_aae02_17 (by decide) ?_
      have hf := Option.some.inj hf
      subst hf
      rw [eG0] at hG
      have hG : _ = res := hG
      subst hG
      exact W.zret (v := (0 : Int32)) (ty := .boolean) hx hb hr rfl (fun t ht hW => ⟨⟨(0 : Int32), (), rfl, rfl, by rw [ht]; exact hP, hD⟩, hS.F ht⟩) hS.2.2 dJ0_isLatin1_aae02_18
    · replace hf := ds_t c_10 hf
      refine lv_iconst (v := 1) hx hb dJ0_isLatin1_aae02_13 (by decide) ?_
      refine lv_goto (tgt := 18) hx hb dJ0_isLatin1_aae02_14 (by decide) ?_
      have hf := Option.some.inj hf
      subst hf
      rw [eG0] at hG
      have hG : _ = res := hG
      subst hG
      exact W.zret (v := (1 : Int32)) (ty := .boolean) hx hb hr rfl (fun t ht hW => ⟨⟨(1 : Int32), (), rfl, rfl, by rw [ht]; exact hP, hD⟩, hS.F ht⟩) hS.2.2 dJ0_isLatin1_aae02_18
theorem dJ3_checkIndex_8e157_0 : decode cJ3_checkIndex_8e157 0 = .ok (.iload_n 0, 1) := by decide +kernel
theorem dJ3_checkIndex_8e157_1 : decode cJ3_checkIndex_8e157 1 = .ok (.ifCond .lt 8, 3) := by decide +kernel
theorem dJ3_checkIndex_8e157_4 : decode cJ3_checkIndex_8e157 4 = .ok (.iload_n 0, 1) := by decide +kernel
theorem dJ3_checkIndex_8e157_5 : decode cJ3_checkIndex_8e157 5 = .ok (.iload_n 1, 1) := by decide +kernel
theorem dJ3_checkIndex_8e157_6 : decode cJ3_checkIndex_8e157 6 = .ok (.if_icmp .lt 10, 3) := by decide +kernel
theorem dJ3_checkIndex_8e157_9 : decode cJ3_checkIndex_8e157 9 = .ok (.aload_n 2, 1) := by decide +kernel
theorem dJ3_checkIndex_8e157_10 : decode cJ3_checkIndex_8e157 10 = .ok (.iload_n 0, 1) := by decide +kernel
theorem dJ3_checkIndex_8e157_11 : decode cJ3_checkIndex_8e157 11 = .ok (.iload_n 1, 1) := by decide +kernel
theorem dJ3_checkIndex_8e157_12 : decode cJ3_checkIndex_8e157 12 = .ok (.invokestatic 95, 3) := by decide +kernel
theorem dJ3_checkIndex_8e157_15 : decode cJ3_checkIndex_8e157 15 = .ok (.athrow, 1) := by decide +kernel
theorem dJ3_checkIndex_8e157_16 : decode cJ3_checkIndex_8e157 16 = .ok (.iload_n 0, 1) := by decide +kernel
theorem dJ3_checkIndex_8e157_17 : decode cJ3_checkIndex_8e157 17 = .ok (.ireturn, 1) := by decide +kernel
def fJ3_checkIndex_8e157_tz_9 : Option (Int32) :=
  none
def fJ3_checkIndex_8e157_tz (p1 : Int32) (p2 : Int32) : Option (Int32) :=
  if p1 < 0 then fJ3_checkIndex_8e157_tz_9 else if p1 < p2 then some p1 else fJ3_checkIndex_8e157_tz_9
set_option maxHeartbeats 4000000 in
set_option maxRecDepth 100000 in
theorem c_J3_checkIndex_8e157_tz0 (l : Launch) (dC : Nat → ClassId) (dI : Nat → Nat → Nat) (ca : Nat → ClassId) (sa : Nat → Nat) (sz : Nat) (p1 : Int32) (p2 : Int32) (res : Int32) (hf : fJ3_checkIndex_8e157_tz p1 p2 = some res) : Met l yJ3_checkIndex_8e157 (Cond.code yJ3_checkIndex_8e157 cJ3_checkIndex_8e157 3 (some .int) :: ds_gw) { frames := 0, cells := 0, slots := 0, locals := 0 } (va_Pc [.int p1, .int p2, .null] (ds_Pre dC dI ca sa [] sz)) (va_Qi (fun r (_ : Unit) => r = res) (ds_B dC dI (va_A [] sz) []) (va_A [] sz)) 0 0 (va_A [] sz) := by
  refine Met.ofW (cc := cJ3_checkIndex_8e157) (maxL := 3) (ret := (some .int)) (by decide) rfl ?_
  intro p e s m args below meth c s₁ B hml hv
  obtain ⟨rfl, hsz, hP, hK, hD0, hE⟩ := hv
  have hx := B.exec
  have hb := B.bytes
  have hr := B.returns
  have hts := atoms_spec (ws := Cond.code yJ3_checkIndex_8e157 cJ3_checkIndex_8e157 3 (some .int) :: ds_gw) B.pre
  have hg : ∀ {w : Cond}, w ∈ ds_gw → w.before _ s = true := fun h => hts _ (List.mem_cons_of_mem _ h)
  have hown : s.vm.findClass RJ3 = some m.cls := findClass_of_methodNamed B.named
  have hlocks := B.notSynchronized
  subst hsz
  have hD := hD0.self (sz := s.heap.size)
  generalize hAe : va_A [] s.heap.size = A at hD hE ⊢
  have hA : ∀ q : Nat, s.heap.size ≤ q → A q := fun q h => by rw [← hAe]; exact Or.inr h
  have hS : va_S A s.heap s.heap [] := va_S.rf
  have hl := lv_entry ([.int p1, .int p2, .null]) (n := 3) (Nat.le_of_ble_eq_true rfl)
  rw [lg_entry_eq]
  generalize (lg_sl ([.int p1, .int p2, .null]) ++ List.replicate (3 - (lg_sl ([.int p1, .int p2, .null])).length) Slot.unset).toArray = ls at hl ⊢
  have hl : lv_has ls 3 [(0, .int p1), (1, .int p2), (2, .null)] := hl
  obtain ⟨G0, eG0⟩ : ∃ G : Int32 → Prop, G = (fun r => r = res) := ⟨_, rfl⟩
  obtain ⟨rr, hrr⟩ : ∃ z, z = res := ⟨_, rfl⟩
  rw [← hrr] at hf
  have hG : G0 rr := by subst eG0; exact hrr
  refine ds_cap (fun WW h1 h2 => ?_)
  have J_9 : ∀ (rr : Int32) (hf : fJ3_checkIndex_8e157_tz_9 = some rr) (hG : G0 rr) (H : Heap) (locs : List Loc) (hP : va_P (dC, dI) vwCl [] H) (hD : va_D A []) (hS : va_S A s.heap H locs) (ls : Array Slot) (hl : lv_has ls 3 [(0, .int p1), (1, .int p2), (2, .null)]), WW H locs (F0 m 9 ls []) := by
    intro  rr hf hG H locs hP hD hS ls hl
    refine h2 ?_
    unfold fJ3_checkIndex_8e157_tz_9 at hf
    cases hf
  unfold fJ3_checkIndex_8e157_tz at hf
  refine lv_iload_n hx hb dJ3_checkIndex_8e157_0 rfl (lv_at hl 0 rfl) ?_
  refine lv_if_lt (tgt := 9) hx hb dJ3_checkIndex_8e157_1 (by decide) (fun c_1 => ?_) (fun c_1 => ?_)
  · replace hf := ds_t c_1 hf
    exact h1 (J_9  _ hf hG _ _ hP hD hS _ (lv_sub hl [0, 1, 2] rfl))
  · replace hf := ds_f c_1 hf
    refine lv_iload_n hx hb dJ3_checkIndex_8e157_4 rfl (lv_at hl 0 rfl) ?_
    refine lv_iload_n hx hb dJ3_checkIndex_8e157_5 rfl (lv_at hl 1 rfl) ?_
    refine lv_icmp_lt (tgt := 16) hx hb dJ3_checkIndex_8e157_6 (by decide) (fun c_6 => ?_) (fun c_6 => ?_)
    · replace hf := ds_t c_6 hf
      refine lv_iload_n hx hb dJ3_checkIndex_8e157_16 rfl (lv_at hl 0 rfl) ?_
      have hf := Option.some.inj hf
      subst hf
      rw [eG0] at hG
      have hG : _ = res := hG
      subst hG
      exact W.iret (v := p1) hx hb hr (fun t ht hW => ⟨⟨p1, (), rfl, rfl, by rw [ht]; exact hP, hD⟩, hS.F ht⟩) hS.2.2 dJ3_checkIndex_8e157_17
    · replace hf := ds_f c_6 hf
      exact h1 (J_9  _ hf hG _ _ hP hD hS _ (lv_sub hl [0, 1, 2] rfl))
set_option maxHeartbeats 4000000 in
set_option maxRecDepth 100000 in
theorem c_J3_checkIndex_8e157_tz1 (l : Launch) (dC : Nat → ClassId) (dI : Nat → Nat → Nat) (ca : Nat → ClassId) (sa : Nat → Nat) (sz : Nat) (p1 : Int32) (p2 : Int32) (res : Int32) (hf : fJ3_checkIndex_8e157_tz p1 p2 = some res) : Met l yJ3_checkIndex_8e157 (Cond.code yJ3_checkIndex_8e157 cJ3_checkIndex_8e157 3 (some .int) :: ds_gw) { frames := 0, cells := 0, slots := 0, locals := 0 } (va_Pc [.int p1, .int p2, .ref (sa 8)] (ds_Pre dC dI ca sa [] sz)) (va_Qi (fun r (_ : Unit) => r = res) (ds_B dC dI (va_A [] sz) []) (va_A [] sz)) 0 0 (va_A [] sz) := by
  refine Met.ofW (cc := cJ3_checkIndex_8e157) (maxL := 3) (ret := (some .int)) (by decide) rfl ?_
  intro p e s m args below meth c s₁ B hml hv
  obtain ⟨rfl, hsz, hP, hK, hD0, hE⟩ := hv
  have hx := B.exec
  have hb := B.bytes
  have hr := B.returns
  have hts := atoms_spec (ws := Cond.code yJ3_checkIndex_8e157 cJ3_checkIndex_8e157 3 (some .int) :: ds_gw) B.pre
  have hg : ∀ {w : Cond}, w ∈ ds_gw → w.before _ s = true := fun h => hts _ (List.mem_cons_of_mem _ h)
  have hown : s.vm.findClass RJ3 = some m.cls := findClass_of_methodNamed B.named
  have hlocks := B.notSynchronized
  subst hsz
  have hD := hD0.self (sz := s.heap.size)
  generalize hAe : va_A [] s.heap.size = A at hD hE ⊢
  have hA : ∀ q : Nat, s.heap.size ≤ q → A q := fun q h => by rw [← hAe]; exact Or.inr h
  have hS : va_S A s.heap s.heap [] := va_S.rf
  have hl := lv_entry ([.int p1, .int p2, .ref (sa 8)]) (n := 3) (Nat.le_of_ble_eq_true rfl)
  rw [lg_entry_eq]
  generalize (lg_sl ([.int p1, .int p2, .ref (sa 8)]) ++ List.replicate (3 - (lg_sl ([.int p1, .int p2, .ref (sa 8)])).length) Slot.unset).toArray = ls at hl ⊢
  have hl : lv_has ls 3 [(0, .int p1), (1, .int p2), (2, .ref (sa 8))] := hl
  obtain ⟨G0, eG0⟩ : ∃ G : Int32 → Prop, G = (fun r => r = res) := ⟨_, rfl⟩
  obtain ⟨rr, hrr⟩ : ∃ z, z = res := ⟨_, rfl⟩
  rw [← hrr] at hf
  have hG : G0 rr := by subst eG0; exact hrr
  refine ds_cap (fun WW h1 h2 => ?_)
  have J_9 : ∀ (rr : Int32) (hf : fJ3_checkIndex_8e157_tz_9 = some rr) (hG : G0 rr) (H : Heap) (locs : List Loc) (hP : va_P (dC, dI) vwCl [] H) (hD : va_D A []) (hS : va_S A s.heap H locs) (ls : Array Slot) (hl : lv_has ls 3 [(0, .int p1), (1, .int p2), (2, .ref (sa 8))]), WW H locs (F0 m 9 ls []) := by
    intro  rr hf hG H locs hP hD hS ls hl
    refine h2 ?_
    unfold fJ3_checkIndex_8e157_tz_9 at hf
    cases hf
  unfold fJ3_checkIndex_8e157_tz at hf
  refine lv_iload_n hx hb dJ3_checkIndex_8e157_0 rfl (lv_at hl 0 rfl) ?_
  refine lv_if_lt (tgt := 9) hx hb dJ3_checkIndex_8e157_1 (by decide) (fun c_1 => ?_) (fun c_1 => ?_)
  · replace hf := ds_t c_1 hf
    exact h1 (J_9  _ hf hG _ _ hP hD hS _ (lv_sub hl [0, 1, 2] rfl))
  · replace hf := ds_f c_1 hf
    refine lv_iload_n hx hb dJ3_checkIndex_8e157_4 rfl (lv_at hl 0 rfl) ?_
    refine lv_iload_n hx hb dJ3_checkIndex_8e157_5 rfl (lv_at hl 1 rfl) ?_
    refine lv_icmp_lt (tgt := 16) hx hb dJ3_checkIndex_8e157_6 (by decide) (fun c_6 => ?_) (fun c_6 => ?_)
    · replace hf := ds_t c_6 hf
      refine lv_iload_n hx hb dJ3_checkIndex_8e157_16 rfl (lv_at hl 0 rfl) ?_
      have hf := Option.some.inj hf
      subst hf
      rw [eG0] at hG
      have hG : _ = res := hG
      subst hG
      exact W.iret (v := p1) hx hb hr (fun t ht hW => ⟨⟨p1, (), rfl, rfl, by rw [ht]; exact hP, hD⟩, hS.F ht⟩) hS.2.2 dJ3_checkIndex_8e157_17
    · replace hf := ds_f c_6 hf
      exact h1 (J_9  _ hf hG _ _ hP hD hS _ (lv_sub hl [0, 1, 2] rfl))
theorem c_J3_checkIndex_8e157_tz (l : Launch) (dC : Nat → ClassId) (dI : Nat → Nat → Nat) (ca : Nat → ClassId) (sa : Nat → Nat) (sz : Nat) (p1 : Int32) (p2 : Int32) (res : Int32) (hf : fJ3_checkIndex_8e157_tz p1 p2 = some res) : Met l yJ3_checkIndex_8e157 (Cond.code yJ3_checkIndex_8e157 cJ3_checkIndex_8e157 3 (some .int) :: ds_gw) { frames := 0, cells := 0, slots := 0, locals := 0 } (va_Pc [.int p1, .int p2, va_rf (ds_fz sa)] (ds_Pre dC dI ca sa [] sz)) (va_Qi (fun r (_ : Unit) => r = res) (ds_B dC dI (va_A [] sz) []) (va_A [] sz)) 0 0 (va_A [] sz) := by
  by_cases hz : sa 7 = 0
  · have e : ds_fz sa = none := if_pos hz
    rw [e]
    exact c_J3_checkIndex_8e157_tz0 l dC dI ca sa sz p1 p2 res hf
  · have e : ds_fz sa = some (sa 8) := if_neg hz
    rw [e]
    exact c_J3_checkIndex_8e157_tz1 l dC dI ca sa sz p1 p2 res hf
theorem dJ0_checkIndex_df160_0 : decode cJ0_checkIndex_df160 0 = .ok (.iload_n 0, 1) := by decide +kernel
theorem dJ0_checkIndex_df160_1 : decode cJ0_checkIndex_df160 1 = .ok (.iload_n 1, 1) := by decide +kernel
theorem dJ0_checkIndex_df160_2 : decode cJ0_checkIndex_df160 2 = .ok (.getstatic 1053, 3) := by decide +kernel
theorem dJ0_checkIndex_df160_5 : decode cJ0_checkIndex_df160 5 = .ok (.invokestatic 1059, 3) := by decide +kernel
theorem dJ0_checkIndex_df160_8 : decode cJ0_checkIndex_df160 8 = .ok (.pop, 1) := by decide +kernel
theorem dJ0_checkIndex_df160_9 : decode cJ0_checkIndex_df160 9 = .ok (.return_, 1) := by decide +kernel
def fJ0_checkIndex_df160 (p1 : Int32) (p2 : Int32) : Option (Unit) :=
  Option.bind (fJ3_checkIndex_8e157_tz p1 p2) fun q5 => some ()
set_option maxHeartbeats 4000000 in
set_option maxRecDepth 100000 in
theorem c_J0_checkIndex_df160 (l : Launch) (dC : Nat → ClassId) (dI : Nat → Nat → Nat) (ca : Nat → ClassId) (sa : Nat → Nat) (sz : Nat) (p1 : Int32) (p2 : Int32) (res : Unit) (hf : fJ0_checkIndex_df160 p1 p2 = some res) : Met l yJ0_checkIndex_df160 (Cond.code yJ0_checkIndex_df160 cJ0_checkIndex_df160 2 none :: ds_gw) { frames := 1, cells := 0, slots := 0, locals := 22 } (va_Pc [.int p1, .int p2] (ds_Pre dC dI ca sa [] sz)) (va_Qv (fun (_ : Unit) => True) (ds_B dC dI (va_A [] sz) []) (va_A [] sz)) 0 0 (va_A [] sz) := by
  refine Met.ofW (cc := cJ0_checkIndex_df160) (maxL := 2) (ret := none) (by decide) rfl ?_
  intro p e s m args below meth c s₁ B hml hv
  obtain ⟨rfl, hsz, hP, hK, hD0, hE⟩ := hv
  have hx := B.exec
  have hb := B.bytes
  have hr := B.returns
  have hts := atoms_spec (ws := Cond.code yJ0_checkIndex_df160 cJ0_checkIndex_df160 2 none :: ds_gw) B.pre
  have hg : ∀ {w : Cond}, w ∈ ds_gw → w.before _ s = true := fun h => hts _ (List.mem_cons_of_mem _ h)
  have hown : s.vm.findClass RJ0 = some m.cls := findClass_of_methodNamed B.named
  have hlocks := B.notSynchronized
  subst hsz
  have hD := hD0.self (sz := s.heap.size)
  generalize hAe : va_A [] s.heap.size = A at hD hE ⊢
  have hA : ∀ q : Nat, s.heap.size ≤ q → A q := fun q h => by rw [← hAe]; exact Or.inr h
  have hS : va_S A s.heap s.heap [] := va_S.rf
  have hl := lv_entry ([.int p1, .int p2]) (n := 2) (Nat.le_of_ble_eq_true rfl)
  rw [lg_entry_eq]
  generalize (lg_sl ([.int p1, .int p2]) ++ List.replicate (2 - (lg_sl ([.int p1, .int p2])).length) Slot.unset).toArray = ls at hl ⊢
  have hl : lv_has ls 2 [(0, .int p1), (1, .int p2)] := hl
  obtain ⟨G0, eG0⟩ : ∃ G : Unit → Prop, G = (fun r => r = res) := ⟨_, rfl⟩
  obtain ⟨rr, hrr⟩ : ∃ z, z = res := ⟨_, rfl⟩
  rw [← hrr] at hf
  have hG : G0 rr := by subst eG0; exact hrr
  unfold fJ0_checkIndex_df160 at hf
  refine lv_iload_n hx hb dJ0_checkIndex_df160_0 rfl (lv_at hl 0 rfl) ?_
  refine lv_iload_n hx hb dJ0_checkIndex_df160_1 rfl (lv_at hl 1 rfl) ?_
  refine va_gets (v := va_rf (ds_fz sa)) hx hb hE.2.2.2.2.1.2 hS hown (hg kw_32) (fun _ h9 => h9) dJ0_checkIndex_df160_2 ?_
  obtain ⟨q5, hq5, hf⟩ := ds_ob hf
  refine ds_calli (wr := []) (va_runS (As := [.int p1, .int p2, va_rf (ds_fz sa)]) (rest := []) ⟨hx, hb, hml, hown, hts⟩ (c_J3_checkIndex_8e157_tz l dC dI ca sa  s.heap.size  p1 p2 q5 hq5) (va_cwS 3 hts (ds_gS kw_33 kw_34 kw_35 kw_36) rfl rfl rfl (by decide +kernel) ⟨Nat.le_of_ble_eq_true rfl, Nat.le_of_ble_eq_true rfl⟩) ⟨ds_blind, ds_at hP hD hK hE hS hA [] rfl rfl _⟩ rfl rfl hl.1 rfl (lv_room (Nat.le_of_ble_eq_true rfl)) dJ0_checkIndex_df160_5 ⟨Nat.zero_le _, Nat.zero_le _⟩) hP hD hS hA [] [] rfl rfl rfl (by decide) (fun H locs hP hD hS => ?_)
  have hP : va_P (dC, dI) vwCl [] H := hP
  have hD : va_D A [] := hD
  refine lv_pop hx hb dJ0_checkIndex_df160_8 rfl ?_
  have hf := Option.some.inj hf
  subst hf
  rw [eG0] at hG
  have hG : _ = res := hG
  subst hG
  exact W.vret hx hb hr (fun t ht hW => ⟨⟨(), rfl, trivial, by rw [ht]; exact hP, hD⟩, hS.F ht⟩) hS.2.2 dJ0_checkIndex_df160_9
theorem dJ1_charAt_3b067_0 : decode cJ1_charAt_3b067 0 = .ok (.iload_n 1, 1) := by decide +kernel
theorem dJ1_charAt_3b067_1 : decode cJ1_charAt_3b067 1 = .ok (.aload_n 0, 1) := by decide +kernel
theorem dJ1_charAt_3b067_2 : decode cJ1_charAt_3b067 2 = .ok (.arraylength, 1) := by decide +kernel
theorem dJ1_charAt_3b067_3 : decode cJ1_charAt_3b067 3 = .ok (.invokestatic 9, 3) := by decide +kernel
theorem dJ1_charAt_3b067_6 : decode cJ1_charAt_3b067 6 = .ok (.aload_n 0, 1) := by decide +kernel
theorem dJ1_charAt_3b067_7 : decode cJ1_charAt_3b067 7 = .ok (.iload_n 1, 1) := by decide +kernel
theorem dJ1_charAt_3b067_8 : decode cJ1_charAt_3b067 8 = .ok (.baload, 1) := by decide +kernel
theorem dJ1_charAt_3b067_9 : decode cJ1_charAt_3b067 9 = .ok (.sipush 255, 3) := by decide +kernel
theorem dJ1_charAt_3b067_12 : decode cJ1_charAt_3b067 12 = .ok (.iand, 1) := by decide +kernel
theorem dJ1_charAt_3b067_13 : decode cJ1_charAt_3b067 13 = .ok (.i2c, 1) := by decide +kernel
theorem dJ1_charAt_3b067_14 : decode cJ1_charAt_3b067 14 = .ok (.ireturn, 1) := by decide +kernel
def fJ1_charAt_3b067_tv0 (p2 : Int32) : Option (Int32) :=
  Option.bind (fJ0_checkIndex_df160 p2 (3 : Int32)) fun q3 => if ds_in p2 3 = true then if vp_nar .char (((((ds_byt.getD 0 []).getD p2.toNatClampNeg 0) &&& (255 : Int32)).toUInt32 % 65536).toInt32) = ((((ds_byt.getD 0 []).getD p2.toNatClampNeg 0) &&& (255 : Int32)).toUInt32 % 65536).toInt32 then some (((((ds_byt.getD 0 []).getD p2.toNatClampNeg 0) &&& (255 : Int32)).toUInt32 % 65536).toInt32) else none else none
set_option maxHeartbeats 4000000 in
set_option maxRecDepth 100000 in
theorem c_J1_charAt_3b067_tv0 (l : Launch) (dC : Nat → ClassId) (dI : Nat → Nat → Nat) (ca : Nat → ClassId) (sa : Nat → Nat) (sz : Nat) (p2 : Int32) (res : Int32) (hf : fJ1_charAt_3b067_tv0 p2 = some res) : Met l yJ1_charAt_3b067 (Cond.code yJ1_charAt_3b067 cJ1_charAt_3b067 2 (some .char) :: ds_gw) { frames := 2, cells := 0, slots := 0, locals := 43 } (va_Pc [.ref (sa 5), .int p2] (ds_Pre dC dI ca sa [] sz)) (va_Qi (fun r (_ : Unit) => r = res) (ds_B dC dI (va_A [] sz) []) (va_A [] sz)) 0 0 (va_A [] sz) := by
  refine Met.ofW (cc := cJ1_charAt_3b067) (maxL := 2) (ret := (some .char)) (by decide) rfl ?_
  intro p e s m args below meth c s₁ B hml hv
  obtain ⟨rfl, hsz, hP, hK, hD0, hE⟩ := hv
  have hx := B.exec
  have hb := B.bytes
  have hr := B.returns
  have hts := atoms_spec (ws := Cond.code yJ1_charAt_3b067 cJ1_charAt_3b067 2 (some .char) :: ds_gw) B.pre
  have hg : ∀ {w : Cond}, w ∈ ds_gw → w.before _ s = true := fun h => hts _ (List.mem_cons_of_mem _ h)
  have hown : s.vm.findClass RJ1 = some m.cls := findClass_of_methodNamed B.named
  have hlocks := B.notSynchronized
  subst hsz
  have hD := hD0.self (sz := s.heap.size)
  generalize hAe : va_A [] s.heap.size = A at hD hE ⊢
  have hA : ∀ q : Nat, s.heap.size ≤ q → A q := fun q h => by rw [← hAe]; exact Or.inr h
  have hS : va_S A s.heap s.heap [] := va_S.rf
  have hl := lv_entry ([.ref (sa 5), .int p2]) (n := 2) (Nat.le_of_ble_eq_true rfl)
  rw [lg_entry_eq]
  generalize (lg_sl ([.ref (sa 5), .int p2]) ++ List.replicate (2 - (lg_sl ([.ref (sa 5), .int p2])).length) Slot.unset).toArray = ls at hl ⊢
  have hl : lv_has ls 2 [(0, .ref (sa 5)), (1, .int p2)] := hl
  obtain ⟨G0, eG0⟩ : ∃ G : Int32 → Prop, G = (fun r => r = res) := ⟨_, rfl⟩
  obtain ⟨rr, hrr⟩ : ∃ z, z = res := ⟨_, rfl⟩
  rw [← hrr] at hf
  have hG : G0 rr := by subst eG0; exact hrr
  unfold fJ1_charAt_3b067_tv0 at hf
  refine lv_iload_n hx hb dJ1_charAt_3b067_0 rfl (lv_at hl 1 rfl) ?_
  refine lv_aload_n hx hb dJ1_charAt_3b067_1 rfl (lv_at hl 0 rfl) ?_
  refine va_tlen (v := 3) hx hb (hE.2.2.2.2.2.2.1.1 0 (by decide)).2.2.2 hS rfl dJ1_charAt_3b067_2 ?_
  obtain ⟨q3, hq3, hf⟩ := ds_ob hf
  refine ds_callv (wr := []) (va_runS (As := [.int p2, .int (3 : Int32)]) (rest := []) ⟨hx, hb, hml, hown, hts⟩ (c_J0_checkIndex_df160 l dC dI ca sa  s.heap.size  p2 (3 : Int32) q3 hq3) (va_cwS 2 hts (ds_gS kw_37 kw_38 kw_30 kw_39) rfl rfl rfl (by decide +kernel) ⟨Nat.le_of_ble_eq_true rfl, Nat.le_of_ble_eq_true rfl⟩) ⟨ds_blind, ds_at hP hD hK hE hS hA [] rfl rfl _⟩ rfl rfl hl.1 rfl (lv_room (Nat.le_of_ble_eq_true rfl)) dJ1_charAt_3b067_3 ⟨Nat.zero_le _, Nat.zero_le _⟩) hP hD hS hA [] [] rfl rfl rfl (by decide) (fun H locs hP hD hS => ?_)
  have hP : va_P (dC, dI) vwCl [] H := hP
  have hD : va_D A [] := hD
  refine lv_aload_n hx hb dJ1_charAt_3b067_6 rfl (lv_at hl 0 rfl) ?_
  refine lv_iload_n hx hb dJ1_charAt_3b067_7 rfl (lv_at hl 1 rfl) ?_
  obtain ⟨i_8, hf⟩ := ds_ci hf
  refine va_tb (v := .int ((ds_byt.getD 0 []).getD p2.toNatClampNeg 0)) hx hb (hE.2.2.2.2.2.2.1.1 0 (by decide)).2.2.2 hS i_8 rfl dJ1_charAt_3b067_8 ?_
  refine lv_sipush (v := 255) hx hb dJ1_charAt_3b067_9 (by decide) ?_
  refine lv_iand hx hb dJ1_charAt_3b067_12 ?_
  refine lv_i2c (v := ((((ds_byt.getD 0 []).getD p2.toNatClampNeg 0) &&& (255 : Int32)).toUInt32 % 65536).toInt32) hx hb dJ1_charAt_3b067_13 rfl ?_
  obtain ⟨z_14, hf⟩ := ds_c hf
  have hf := Option.some.inj hf
  subst hf
  rw [eG0] at hG
  have hG : _ = res := hG
  subst hG
  exact W.zret (v := ((((ds_byt.getD 0 []).getD p2.toNatClampNeg 0) &&& (255 : Int32)).toUInt32 % 65536).toInt32) (ty := .char) hx hb hr (ds_nar_char z_14) (fun t ht hW => ⟨⟨((((ds_byt.getD 0 []).getD p2.toNatClampNeg 0) &&& (255 : Int32)).toUInt32 % 65536).toInt32, (), rfl, rfl, by rw [ht]; exact hP, hD⟩, hS.F ht⟩) hS.2.2 dJ1_charAt_3b067_14
def fJ1_charAt_3b067_tv1 (p2 : Int32) : Option (Int32) :=
  Option.bind (fJ0_checkIndex_df160 p2 (6 : Int32)) fun q3 => if ds_in p2 6 = true then if vp_nar .char (((((ds_byt.getD 1 []).getD p2.toNatClampNeg 0) &&& (255 : Int32)).toUInt32 % 65536).toInt32) = ((((ds_byt.getD 1 []).getD p2.toNatClampNeg 0) &&& (255 : Int32)).toUInt32 % 65536).toInt32 then some (((((ds_byt.getD 1 []).getD p2.toNatClampNeg 0) &&& (255 : Int32)).toUInt32 % 65536).toInt32) else none else none
set_option maxHeartbeats 4000000 in
set_option maxRecDepth 100000 in
theorem c_J1_charAt_3b067_tv1 (l : Launch) (dC : Nat → ClassId) (dI : Nat → Nat → Nat) (ca : Nat → ClassId) (sa : Nat → Nat) (sz : Nat) (p2 : Int32) (res : Int32) (hf : fJ1_charAt_3b067_tv1 p2 = some res) : Met l yJ1_charAt_3b067 (Cond.code yJ1_charAt_3b067 cJ1_charAt_3b067 2 (some .char) :: ds_gw) { frames := 2, cells := 0, slots := 0, locals := 43 } (va_Pc [.ref (sa 6), .int p2] (ds_Pre dC dI ca sa [] sz)) (va_Qi (fun r (_ : Unit) => r = res) (ds_B dC dI (va_A [] sz) []) (va_A [] sz)) 0 0 (va_A [] sz) := by
  refine Met.ofW (cc := cJ1_charAt_3b067) (maxL := 2) (ret := (some .char)) (by decide) rfl ?_
  intro p e s m args below meth c s₁ B hml hv
  obtain ⟨rfl, hsz, hP, hK, hD0, hE⟩ := hv
  have hx := B.exec
  have hb := B.bytes
  have hr := B.returns
  have hts := atoms_spec (ws := Cond.code yJ1_charAt_3b067 cJ1_charAt_3b067 2 (some .char) :: ds_gw) B.pre
  have hg : ∀ {w : Cond}, w ∈ ds_gw → w.before _ s = true := fun h => hts _ (List.mem_cons_of_mem _ h)
  have hown : s.vm.findClass RJ1 = some m.cls := findClass_of_methodNamed B.named
  have hlocks := B.notSynchronized
  subst hsz
  have hD := hD0.self (sz := s.heap.size)
  generalize hAe : va_A [] s.heap.size = A at hD hE ⊢
  have hA : ∀ q : Nat, s.heap.size ≤ q → A q := fun q h => by rw [← hAe]; exact Or.inr h
  have hS : va_S A s.heap s.heap [] := va_S.rf
  have hl := lv_entry ([.ref (sa 6), .int p2]) (n := 2) (Nat.le_of_ble_eq_true rfl)
  rw [lg_entry_eq]
  generalize (lg_sl ([.ref (sa 6), .int p2]) ++ List.replicate (2 - (lg_sl ([.ref (sa 6), .int p2])).length) Slot.unset).toArray = ls at hl ⊢
  have hl : lv_has ls 2 [(0, .ref (sa 6)), (1, .int p2)] := hl
  obtain ⟨G0, eG0⟩ : ∃ G : Int32 → Prop, G = (fun r => r = res) := ⟨_, rfl⟩
  obtain ⟨rr, hrr⟩ : ∃ z, z = res := ⟨_, rfl⟩
  rw [← hrr] at hf
  have hG : G0 rr := by subst eG0; exact hrr
  unfold fJ1_charAt_3b067_tv1 at hf
  refine lv_iload_n hx hb dJ1_charAt_3b067_0 rfl (lv_at hl 1 rfl) ?_
  refine lv_aload_n hx hb dJ1_charAt_3b067_1 rfl (lv_at hl 0 rfl) ?_
  refine va_tlen (v := 6) hx hb (hE.2.2.2.2.2.2.1.1 1 (by decide)).2.2.2 hS rfl dJ1_charAt_3b067_2 ?_
  obtain ⟨q3, hq3, hf⟩ := ds_ob hf
  refine ds_callv (wr := []) (va_runS (As := [.int p2, .int (6 : Int32)]) (rest := []) ⟨hx, hb, hml, hown, hts⟩ (c_J0_checkIndex_df160 l dC dI ca sa  s.heap.size  p2 (6 : Int32) q3 hq3) (va_cwS 2 hts (ds_gS kw_37 kw_38 kw_30 kw_39) rfl rfl rfl (by decide +kernel) ⟨Nat.le_of_ble_eq_true rfl, Nat.le_of_ble_eq_true rfl⟩) ⟨ds_blind, ds_at hP hD hK hE hS hA [] rfl rfl _⟩ rfl rfl hl.1 rfl (lv_room (Nat.le_of_ble_eq_true rfl)) dJ1_charAt_3b067_3 ⟨Nat.zero_le _, Nat.zero_le _⟩) hP hD hS hA [] [] rfl rfl rfl (by decide) (fun H locs hP hD hS => ?_)
  have hP : va_P (dC, dI) vwCl [] H := hP
  have hD : va_D A [] := hD
  refine lv_aload_n hx hb dJ1_charAt_3b067_6 rfl (lv_at hl 0 rfl) ?_
  refine lv_iload_n hx hb dJ1_charAt_3b067_7 rfl (lv_at hl 1 rfl) ?_
  obtain ⟨i_8, hf⟩ := ds_ci hf
  refine va_tb (v := .int ((ds_byt.getD 1 []).getD p2.toNatClampNeg 0)) hx hb (hE.2.2.2.2.2.2.1.1 1 (by decide)).2.2.2 hS i_8 rfl dJ1_charAt_3b067_8 ?_
  refine lv_sipush (v := 255) hx hb dJ1_charAt_3b067_9 (by decide) ?_
  refine lv_iand hx hb dJ1_charAt_3b067_12 ?_
  refine lv_i2c (v := ((((ds_byt.getD 1 []).getD p2.toNatClampNeg 0) &&& (255 : Int32)).toUInt32 % 65536).toInt32) hx hb dJ1_charAt_3b067_13 rfl ?_
  obtain ⟨z_14, hf⟩ := ds_c hf
  have hf := Option.some.inj hf
  subst hf
  rw [eG0] at hG
  have hG : _ = res := hG
  subst hG
  exact W.zret (v := ((((ds_byt.getD 1 []).getD p2.toNatClampNeg 0) &&& (255 : Int32)).toUInt32 % 65536).toInt32) (ty := .char) hx hb hr (ds_nar_char z_14) (fun t ht hW => ⟨⟨((((ds_byt.getD 1 []).getD p2.toNatClampNeg 0) &&& (255 : Int32)).toUInt32 % 65536).toInt32, (), rfl, rfl, by rw [ht]; exact hP, hD⟩, hS.F ht⟩) hS.2.2 dJ1_charAt_3b067_14
theorem dJ0_charAt_5068e_0 : decode cJ0_charAt_5068e 0 = .ok (.aload_n 0, 1) := by decide +kernel
theorem dJ0_charAt_5068e_1 : decode cJ0_charAt_5068e 1 = .ok (.invokevirtual 492, 3) := by decide +kernel
theorem dJ0_charAt_5068e_4 : decode cJ0_charAt_5068e 4 = .ok (.ifCond .eq 12, 3) := by decide +kernel
theorem dJ0_charAt_5068e_7 : decode cJ0_charAt_5068e 7 = .ok (.aload_n 0, 1) := by decide +kernel
theorem dJ0_charAt_5068e_8 : decode cJ0_charAt_5068e 8 = .ok (.getfield 9, 3) := by decide +kernel
theorem dJ0_charAt_5068e_11 : decode cJ0_charAt_5068e 11 = .ok (.iload_n 1, 1) := by decide +kernel
theorem dJ0_charAt_5068e_12 : decode cJ0_charAt_5068e 12 = .ok (.invokestatic 495, 3) := by decide +kernel
theorem dJ0_charAt_5068e_15 : decode cJ0_charAt_5068e 15 = .ok (.ireturn, 1) := by decide +kernel
theorem dJ0_charAt_5068e_16 : decode cJ0_charAt_5068e 16 = .ok (.aload_n 0, 1) := by decide +kernel
theorem dJ0_charAt_5068e_17 : decode cJ0_charAt_5068e 17 = .ok (.getfield 9, 3) := by decide +kernel
theorem dJ0_charAt_5068e_20 : decode cJ0_charAt_5068e 20 = .ok (.iload_n 1, 1) := by decide +kernel
theorem dJ0_charAt_5068e_21 : decode cJ0_charAt_5068e 21 = .ok (.invokestatic 498, 3) := by decide +kernel
theorem dJ0_charAt_5068e_24 : decode cJ0_charAt_5068e 24 = .ok (.ireturn, 1) := by decide +kernel
def fJ0_charAt_5068e_s0 (p1 : Int32) : Option (Int32) :=
  Option.bind (fJ0_isLatin1_aae02_s0) fun q1 => if q1 = 0 then none else Option.bind (fJ1_charAt_3b067_tv0 p1) fun q12 => if vp_nar .char q12 = q12 then some q12 else none
set_option maxHeartbeats 4000000 in
set_option maxRecDepth 100000 in
theorem c_J0_charAt_5068e_s0 (l : Launch) (dC : Nat → ClassId) (dI : Nat → Nat → Nat) (ca : Nat → ClassId) (sa : Nat → Nat) (sz : Nat) (p1 : Int32) (res : Int32) (hf : fJ0_charAt_5068e_s0 p1 = some res) : Met l yJ0_charAt_5068e (Cond.code yJ0_charAt_5068e cJ0_charAt_5068e 2 (some .char) :: ds_gw) { frames := 3, cells := 0, slots := 0, locals := 64 } (va_Pc [.ref (sa 3), .int p1] (ds_Pre dC dI ca sa [] sz)) (va_Qi (fun r (_ : Unit) => r = res) (ds_B dC dI (va_A [] sz) []) (va_A [] sz)) 0 0 (va_A [] sz) := by
  refine Met.ofW (cc := cJ0_charAt_5068e) (maxL := 2) (ret := (some .char)) (by decide) rfl ?_
  intro p e s m args below meth c s₁ B hml hv
  obtain ⟨rfl, hsz, hP, hK, hD0, hE⟩ := hv
  have hx := B.exec
  have hb := B.bytes
  have hr := B.returns
  have hts := atoms_spec (ws := Cond.code yJ0_charAt_5068e cJ0_charAt_5068e 2 (some .char) :: ds_gw) B.pre
  have hg : ∀ {w : Cond}, w ∈ ds_gw → w.before _ s = true := fun h => hts _ (List.mem_cons_of_mem _ h)
  have hown : s.vm.findClass RJ0 = some m.cls := findClass_of_methodNamed B.named
  have hlocks := B.notSynchronized
  subst hsz
  have hD := hD0.self (sz := s.heap.size)
  generalize hAe : va_A [] s.heap.size = A at hD hE ⊢
  have hA : ∀ q : Nat, s.heap.size ≤ q → A q := fun q h => by rw [← hAe]; exact Or.inr h
  have hS : va_S A s.heap s.heap [] := va_S.rf
  have hl := lv_entry ([.ref (sa 3), .int p1]) (n := 2) (Nat.le_of_ble_eq_true rfl)
  rw [lg_entry_eq]
  generalize (lg_sl ([.ref (sa 3), .int p1]) ++ List.replicate (2 - (lg_sl ([.ref (sa 3), .int p1])).length) Slot.unset).toArray = ls at hl ⊢
  have hl : lv_has ls 2 [(0, .ref (sa 3)), (1, .int p1)] := hl
  obtain ⟨G0, eG0⟩ : ∃ G : Int32 → Prop, G = (fun r => r = res) := ⟨_, rfl⟩
  obtain ⟨rr, hrr⟩ : ∃ z, z = res := ⟨_, rfl⟩
  rw [← hrr] at hf
  have hG : G0 rr := by subst eG0; exact hrr
  unfold fJ0_charAt_5068e_s0 at hf
  refine lv_aload_n hx hb dJ0_charAt_5068e_0 rfl (lv_at hl 0 rfl) ?_
  obtain ⟨q1, hq1, hf⟩ := ds_ob hf
  refine ds_calli (wr := []) (va_runV (As := []) (rest := []) ⟨hx, hb, hml, hown, hts⟩ (c_J0_isLatin1_aae02_s0 l dC dI ca sa  s.heap.size   q1 hq1) (cwV 0 hts (ds_gV kw_40 kw_41 kw_42 kw_30 kw_43) rfl rfl rfl (by decide +kernel) ⟨Nat.le_of_ble_eq_true rfl, Nat.le_of_ble_eq_true rfl⟩) ⟨ds_blind, vk_recv hE.2.2.2.2.2.2.1 (i := 0) (by decide) hS, ds_at hP hD hK hE hS hA [] rfl rfl _⟩ rfl rfl hl.1 rfl (lv_room (Nat.le_of_ble_eq_true rfl)) dJ0_charAt_5068e_1 ⟨Nat.zero_le _, Nat.zero_le _⟩) hP hD hS hA [] [] rfl rfl rfl (by decide) (fun H locs hP hD hS => ?_)
  have hP : va_P (dC, dI) vwCl [] H := hP
  have hD : va_D A [] := hD
  refine lv_if_eq (tgt := 16) hx hb dJ0_charAt_5068e_4 (by decide) (fun c_4 => ?_) (fun c_4 => ?_)
  · replace hf := ds_t c_4 hf
    cases hf
  · replace hf := ds_f c_4 hf
    refine lv_aload_n hx hb dJ0_charAt_5068e_7 rfl (lv_at hl 0 rfl) ?_
    refine vk_getf hx hb (hE.2.2.2.2.2.2.1.1 0 (by decide)).2.2.1 hS hown (hg kw_26) (fun _ h9 => h9) dJ0_charAt_5068e_8 ?_
    refine lv_iload_n hx hb dJ0_charAt_5068e_11 rfl (lv_at hl 1 rfl) ?_
    obtain ⟨q12, hq12, hf⟩ := ds_ob hf
    refine ds_calli (wr := []) (va_runS (As := [.ref (sa 5), .int p1]) (rest := []) ⟨hx, hb, hml, hown, hts⟩ (c_J1_charAt_3b067_tv0 l dC dI ca sa  H.size  p1 q12 hq12) (va_cwS 2 hts (ds_gS kw_44 kw_45 kw_46 kw_47) rfl rfl rfl (by decide +kernel) ⟨Nat.le_of_ble_eq_true rfl, Nat.le_of_ble_eq_true rfl⟩) ⟨ds_blind, ds_at hP hD hK hE hS hA [] rfl rfl _⟩ rfl rfl hl.1 rfl (lv_room (Nat.le_of_ble_eq_true rfl)) dJ0_charAt_5068e_12 ⟨Nat.zero_le _, Nat.zero_le _⟩) hP hD hS hA [] [] rfl rfl rfl (by decide) (fun H locs hP hD hS => ?_)
    have hP : va_P (dC, dI) vwCl [] H := hP
    have hD : va_D A [] := hD
    obtain ⟨z_15, hf⟩ := ds_c hf
    have hf := Option.some.inj hf
    subst hf
    rw [eG0] at hG
    have hG : _ = res := hG
    subst hG
    exact W.zret (v := q12) (ty := .char) hx hb hr (ds_nar_char z_15) (fun t ht hW => ⟨⟨q12, (), rfl, rfl, by rw [ht]; exact hP, hD⟩, hS.F ht⟩) hS.2.2 dJ0_charAt_5068e_15
def fJ0_charAt_5068e_s1 (p1 : Int32) : Option (Int32) :=
  Option.bind (fJ0_isLatin1_aae02_s1) fun q1 => if q1 = 0 then none else Option.bind (fJ1_charAt_3b067_tv1 p1) fun q12 => if vp_nar .char q12 = q12 then some q12 else none
set_option maxHeartbeats 4000000 in
set_option maxRecDepth 100000 in
theorem c_J0_charAt_5068e_s1 (l : Launch) (dC : Nat → ClassId) (dI : Nat → Nat → Nat) (ca : Nat → ClassId) (sa : Nat → Nat) (sz : Nat) (p1 : Int32) (res : Int32) (hf : fJ0_charAt_5068e_s1 p1 = some res) : Met l yJ0_charAt_5068e (Cond.code yJ0_charAt_5068e cJ0_charAt_5068e 2 (some .char) :: ds_gw) { frames := 3, cells := 0, slots := 0, locals := 64 } (va_Pc [.ref (sa 4), .int p1] (ds_Pre dC dI ca sa [] sz)) (va_Qi (fun r (_ : Unit) => r = res) (ds_B dC dI (va_A [] sz) []) (va_A [] sz)) 0 0 (va_A [] sz) := by
  refine Met.ofW (cc := cJ0_charAt_5068e) (maxL := 2) (ret := (some .char)) (by decide) rfl ?_
  intro p e s m args below meth c s₁ B hml hv
  obtain ⟨rfl, hsz, hP, hK, hD0, hE⟩ := hv
  have hx := B.exec
  have hb := B.bytes
  have hr := B.returns
  have hts := atoms_spec (ws := Cond.code yJ0_charAt_5068e cJ0_charAt_5068e 2 (some .char) :: ds_gw) B.pre
  have hg : ∀ {w : Cond}, w ∈ ds_gw → w.before _ s = true := fun h => hts _ (List.mem_cons_of_mem _ h)
  have hown : s.vm.findClass RJ0 = some m.cls := findClass_of_methodNamed B.named
  have hlocks := B.notSynchronized
  subst hsz
  have hD := hD0.self (sz := s.heap.size)
  generalize hAe : va_A [] s.heap.size = A at hD hE ⊢
  have hA : ∀ q : Nat, s.heap.size ≤ q → A q := fun q h => by rw [← hAe]; exact Or.inr h
  have hS : va_S A s.heap s.heap [] := va_S.rf
  have hl := lv_entry ([.ref (sa 4), .int p1]) (n := 2) (Nat.le_of_ble_eq_true rfl)
  rw [lg_entry_eq]
  generalize (lg_sl ([.ref (sa 4), .int p1]) ++ List.replicate (2 - (lg_sl ([.ref (sa 4), .int p1])).length) Slot.unset).toArray = ls at hl ⊢
  have hl : lv_has ls 2 [(0, .ref (sa 4)), (1, .int p1)] := hl
  obtain ⟨G0, eG0⟩ : ∃ G : Int32 → Prop, G = (fun r => r = res) := ⟨_, rfl⟩
  obtain ⟨rr, hrr⟩ : ∃ z, z = res := ⟨_, rfl⟩
  rw [← hrr] at hf
  have hG : G0 rr := by subst eG0; exact hrr
  unfold fJ0_charAt_5068e_s1 at hf
  refine lv_aload_n hx hb dJ0_charAt_5068e_0 rfl (lv_at hl 0 rfl) ?_
  obtain ⟨q1, hq1, hf⟩ := ds_ob hf
  refine ds_calli (wr := []) (va_runV (As := []) (rest := []) ⟨hx, hb, hml, hown, hts⟩ (c_J0_isLatin1_aae02_s1 l dC dI ca sa  s.heap.size   q1 hq1) (cwV 0 hts (ds_gV kw_40 kw_41 kw_42 kw_30 kw_43) rfl rfl rfl (by decide +kernel) ⟨Nat.le_of_ble_eq_true rfl, Nat.le_of_ble_eq_true rfl⟩) ⟨ds_blind, vk_recv hE.2.2.2.2.2.2.1 (i := 1) (by decide) hS, ds_at hP hD hK hE hS hA [] rfl rfl _⟩ rfl rfl hl.1 rfl (lv_room (Nat.le_of_ble_eq_true rfl)) dJ0_charAt_5068e_1 ⟨Nat.zero_le _, Nat.zero_le _⟩) hP hD hS hA [] [] rfl rfl rfl (by decide) (fun H locs hP hD hS => ?_)
  have hP : va_P (dC, dI) vwCl [] H := hP
  have hD : va_D A [] := hD
  refine lv_if_eq (tgt := 16) hx hb dJ0_charAt_5068e_4 (by decide) (fun c_4 => ?_) (fun c_4 => ?_)
  · replace hf := ds_t c_4 hf
    cases hf
  · replace hf := ds_f c_4 hf
    refine lv_aload_n hx hb dJ0_charAt_5068e_7 rfl (lv_at hl 0 rfl) ?_
    refine vk_getf hx hb (hE.2.2.2.2.2.2.1.1 1 (by decide)).2.2.1 hS hown (hg kw_26) (fun _ h9 => h9) dJ0_charAt_5068e_8 ?_
    refine lv_iload_n hx hb dJ0_charAt_5068e_11 rfl (lv_at hl 1 rfl) ?_
    obtain ⟨q12, hq12, hf⟩ := ds_ob hf
    refine ds_calli (wr := []) (va_runS (As := [.ref (sa 6), .int p1]) (rest := []) ⟨hx, hb, hml, hown, hts⟩ (c_J1_charAt_3b067_tv1 l dC dI ca sa  H.size  p1 q12 hq12) (va_cwS 2 hts (ds_gS kw_44 kw_45 kw_46 kw_47) rfl rfl rfl (by decide +kernel) ⟨Nat.le_of_ble_eq_true rfl, Nat.le_of_ble_eq_true rfl⟩) ⟨ds_blind, ds_at hP hD hK hE hS hA [] rfl rfl _⟩ rfl rfl hl.1 rfl (lv_room (Nat.le_of_ble_eq_true rfl)) dJ0_charAt_5068e_12 ⟨Nat.zero_le _, Nat.zero_le _⟩) hP hD hS hA [] [] rfl rfl rfl (by decide) (fun H locs hP hD hS => ?_)
    have hP : va_P (dC, dI) vwCl [] H := hP
    have hD : va_D A [] := hD
    obtain ⟨z_15, hf⟩ := ds_c hf
    have hf := Option.some.inj hf
    subst hf
    rw [eG0] at hG
    have hG : _ = res := hG
    subst hG
    exact W.zret (v := q12) (ty := .char) hx hb hr (ds_nar_char z_15) (fun t ht hW => ⟨⟨q12, (), rfl, rfl, by rw [ht]; exact hP, hD⟩, hS.F ht⟩) hS.2.2 dJ0_charAt_5068e_15

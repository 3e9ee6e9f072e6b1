theorem dX8_image_0 : decode cX8_image 0 = .ok (.aload_n 0, 1) := by decide +kernel
theorem dX8_image_1 : decode cX8_image 1 = .ok (.iconst 0, 1) := by decide +kernel
theorem dX8_image_2 : decode cX8_image 2 = .ok (.putfield 51, 3) := by decide +kernel
theorem dX8_image_5 : decode cX8_image 5 = .ok (.iload_n 1, 1) := by decide +kernel
theorem dX8_image_6 : decode cX8_image 6 = .ok (.iconst 0, 1) := by decide +kernel
theorem dX8_image_7 : decode cX8_image 7 = .ok (.iconst 2, 1) := by decide +kernel
theorem dX8_image_8 : decode cX8_image 8 = .ok (.invokestatic 90, 3) := by decide +kernel
theorem dX8_image_11 : decode cX8_image 11 = .ok (.ifCond .ne 5, 3) := by decide +kernel
theorem dX8_image_14 : decode cX8_image 14 = .ok (.iconst 0, 1) := by decide +kernel
theorem dX8_image_15 : decode cX8_image 15 = .ok (.ireturn, 1) := by decide +kernel
theorem dX8_image_16 : decode cX8_image 16 = .ok (.aload_n 0, 1) := by decide +kernel
theorem dX8_image_17 : decode cX8_image 17 = .ok (.iconst 0, 1) := by decide +kernel
theorem dX8_image_18 : decode cX8_image 18 = .ok (.iload_n 1, 1) := by decide +kernel
theorem dX8_image_19 : decode cX8_image 19 = .ok (.iconst 1, 1) := by decide +kernel
theorem dX8_image_20 : decode cX8_image 20 = .ok (.iadd, 1) := by decide +kernel
theorem dX8_image_21 : decode cX8_image 21 = .ok (.invokevirtual 307, 3) := by decide +kernel
theorem dX8_image_24 : decode cX8_image 24 = .ok (.aload_n 0, 1) := by decide +kernel
theorem dX8_image_25 : decode cX8_image 25 = .ok (.getfield 26, 3) := by decide +kernel
theorem dX8_image_28 : decode cX8_image 28 = .ok (.iload_n 1, 1) := by decide +kernel
theorem dX8_image_29 : decode cX8_image 29 = .ok (.iconst 1, 1) := by decide +kernel
theorem dX8_image_30 : decode cX8_image 30 = .ok (.bastore, 1) := by decide +kernel
theorem dX8_image_31 : decode cX8_image 31 = .ok (.iconst 1, 1) := by decide +kernel
theorem dX8_image_32 : decode cX8_image 32 = .ok (.ireturn, 1) := by decide +kernel
def fX8_image (o_all_r : Nat → Int32) (o_text_r : Nat → Int32) (o_saved_r : Nat → Int32) (p1 : Int32) : Option (Int32 × Int32 × (Nat → Int32) × (Nat → Int32) × (Nat → Int32)) :=
  Option.bind (fX8_in p1 (0 : Int32) (2 : Int32)) fun q8 => if q8 = 0 then some ((0 : Int32), (0 : Int32), o_all_r, o_text_r, o_saved_r) else Option.bind (fX8_copiesText o_all_r o_text_r (0 : Int32) (p1 + (1 : Int32))) fun q21 => if ds_in p1 3 = true then some ((1 : Int32), (0 : Int32), q21.1, q21.2, (upd o_saved_r p1.toNatClampNeg (vp_nar .boolean (1 : Int32)))) else none
set_option maxHeartbeats 4000000 in
set_option maxRecDepth 100000 in
theorem c_X8_image (l : Launch) (dC : Nat → ClassId) (dI : Nat → Nat → Nat) (ca : Nat → ClassId) (sa : Nat → Nat) (h_o : Nat) (h_o_plans : Nat) (h_o_makers : Nat) (h_o_halves : Nat) (h_o_all : Nat) (h_o_text : Nat) (h_o_saved : Nat) (h_o_undone : Nat) (h_o_told : Nat) (h_o_shift : Nat) (h_o_rootOf : Nat) (h_o_becomes : Nat) (h_o_comes : Nat) (h_o_next : Nat) (sz : Nat) (o_raised : Int32) (o_undos : Int32) (o_reached : Int32) (o_length : Int32) (o_begin : Int32) (o_letters : Int32) (o_sort : Int32) (o_word : Int64) (o_wrongAt : Int32) (o_badAt : Int32) (o_bad : Int32) (o_firstX : Int32) (o_firstY : Int32) (o_secondX : Int32) (o_secondY : Int32) (o_x : Int32) (o_all_r : Nat → Int32) (o_text_r : Nat → Int32) (o_saved_r : Nat → Int32) (p1 : Int32) (res : Int32 × Int32 × (Nat → Int32) × (Nat → Int32) × (Nat → Int32)) (hf : fX8_image o_all_r o_text_r o_saved_r p1 = some res) : Met l yX8_image (Cond.code yX8_image cX8_image 2 (some .boolean) :: ds_gw) { frames := 1, cells := 0, slots := 0, locals := 23 } (va_Pc [.ref h_o, .int p1] (ds_Pre dC dI ca sa [(h_o, .inr (7, [.ref h_o_plans, .ref h_o_makers, .ref h_o_halves, .int o_raised, .ref h_o_all, .ref h_o_text, .ref h_o_saved, .ref h_o_undone, .int o_undos, .int o_reached, .int o_length, .int o_begin, .int o_letters, .int o_sort, .long o_word, .int o_wrongAt, .int o_badAt, .int o_bad, .ref h_o_told, .ref h_o_shift, .int o_firstX, .int o_firstY, .int o_secondX, .int o_secondY, .ref h_o_rootOf, .ref h_o_becomes, .ref h_o_comes, .ref h_o_next, .int o_x])), (h_o_all, .inl (ca 0, 350, .inl o_all_r)), (h_o_text, .inl (ca 2, 1000, .inl o_text_r)), (h_o_saved, .inl (ca 3, 3, .inl o_saved_r))] sz)) (va_Qi (fun r (_ : Unit) => r = res.1) (ds_B dC dI (va_A [(h_o, .inr (7, [.ref h_o_plans, .ref h_o_makers, .ref h_o_halves, .int o_raised, .ref h_o_all, .ref h_o_text, .ref h_o_saved, .ref h_o_undone, .int o_undos, .int o_reached, .int o_length, .int o_begin, .int o_letters, .int o_sort, .long o_word, .int o_wrongAt, .int o_badAt, .int o_bad, .ref h_o_told, .ref h_o_shift, .int o_firstX, .int o_firstY, .int o_secondX, .int o_secondY, .ref h_o_rootOf, .ref h_o_becomes, .ref h_o_comes, .ref h_o_next, .int o_x])), (h_o_all, .inl (ca 0, 350, .inl o_all_r)), (h_o_text, .inl (ca 2, 1000, .inl o_text_r)), (h_o_saved, .inl (ca 3, 3, .inl o_saved_r))] sz) [(h_o, .inr (7, [.ref h_o_plans, .ref h_o_makers, .ref h_o_halves, .int res.2.1, .ref h_o_all, .ref h_o_text, .ref h_o_saved, .ref h_o_undone, .int o_undos, .int o_reached, .int o_length, .int o_begin, .int o_letters, .int o_sort, .long o_word, .int o_wrongAt, .int o_badAt, .int o_bad, .ref h_o_told, .ref h_o_shift, .int o_firstX, .int o_firstY, .int o_secondX, .int o_secondY, .ref h_o_rootOf, .ref h_o_becomes, .ref h_o_comes, .ref h_o_next, .int o_x])), (h_o_all, .inl (ca 0, 350, .inl res.2.2.1)), (h_o_text, .inl (ca 2, 1000, .inl res.2.2.2.1)), (h_o_saved, .inl (ca 3, 3, .inl res.2.2.2.2))]) (va_A [(h_o, .inr (7, [.ref h_o_plans, .ref h_o_makers, .ref h_o_halves, .int o_raised, .ref h_o_all, .ref h_o_text, .ref h_o_saved, .ref h_o_undone, .int o_undos, .int o_reached, .int o_length, .int o_begin, .int o_letters, .int o_sort, .long o_word, .int o_wrongAt, .int o_badAt, .int o_bad, .ref h_o_told, .ref h_o_shift, .int o_firstX, .int o_firstY, .int o_secondX, .int o_secondY, .ref h_o_rootOf, .ref h_o_becomes, .ref h_o_comes, .ref h_o_next, .int o_x])), (h_o_all, .inl (ca 0, 350, .inl o_all_r)), (h_o_text, .inl (ca 2, 1000, .inl o_text_r)), (h_o_saved, .inl (ca 3, 3, .inl o_saved_r))] sz)) 0 0 (va_A [(h_o, .inr (7, [.ref h_o_plans, .ref h_o_makers, .ref h_o_halves, .int o_raised, .ref h_o_all, .ref h_o_text, .ref h_o_saved, .ref h_o_undone, .int o_undos, .int o_reached, .int o_length, .int o_begin, .int o_letters, .int o_sort, .long o_word, .int o_wrongAt, .int o_badAt, .int o_bad, .ref h_o_told, .ref h_o_shift, .int o_firstX, .int o_firstY, .int o_secondX, .int o_secondY, .ref h_o_rootOf, .ref h_o_becomes, .ref h_o_comes, .ref h_o_next, .int o_x])), (h_o_all, .inl (ca 0, 350, .inl o_all_r)), (h_o_text, .inl (ca 2, 1000, .inl o_text_r)), (h_o_saved, .inl (ca 3, 3, .inl o_saved_r))] sz) := by
  refine Met.ofW (cc := cX8_image) (maxL := 2) (ret := (some .boolean)) (by decide) rfl ?_
  intro p e s m args below meth c s₁ B hml hv
  obtain ⟨rfl, hsz, hP, hK, hD0, hE⟩ := hv
  have hx := B.exec
  have hb := B.bytes
  have hr := B.returns
  have hts := atoms_spec (ws := Cond.code yX8_image cX8_image 2 (some .boolean) :: ds_gw) B.pre
  have hg : ∀ {w : Cond}, w ∈ ds_gw → w.before _ s = true := fun h => hts _ (List.mem_cons_of_mem _ h)
  have hown : s.vm.findClass RX8 = some m.cls := findClass_of_methodNamed B.named
  have hlocks := B.notSynchronized
  subst hsz
  have hD := hD0.self (sz := s.heap.size)
  generalize hAe : va_A [(h_o, .inr (7, [.ref h_o_plans, .ref h_o_makers, .ref h_o_halves, .int o_raised, .ref h_o_all, .ref h_o_text, .ref h_o_saved, .ref h_o_undone, .int o_undos, .int o_reached, .int o_length, .int o_begin, .int o_letters, .int o_sort, .long o_word, .int o_wrongAt, .int o_badAt, .int o_bad, .ref h_o_told, .ref h_o_shift, .int o_firstX, .int o_firstY, .int o_secondX, .int o_secondY, .ref h_o_rootOf, .ref h_o_becomes, .ref h_o_comes, .ref h_o_next, .int o_x])), (h_o_all, .inl (ca 0, 350, .inl o_all_r)), (h_o_text, .inl (ca 2, 1000, .inl o_text_r)), (h_o_saved, .inl (ca 3, 3, .inl o_saved_r))] s.heap.size = A at hD hE ⊢
  have hA : ∀ q : Nat, s.heap.size ≤ q → A q := fun q h => by rw [← hAe]; exact Or.inr h
  have hS : va_S A s.heap s.heap [] := va_S.rf
  have hl := lv_entry ([.ref h_o, .int p1]) (n := 2) (Nat.le_of_ble_eq_true rfl)
  rw [lg_entry_eq]
  generalize (lg_sl ([.ref h_o, .int p1]) ++ List.replicate (2 - (lg_sl ([.ref h_o, .int p1])).length) Slot.unset).toArray = ls at hl ⊢
  have hl : lv_has ls 2 [(0, .ref h_o), (1, .int p1)] := hl
  obtain ⟨G0, eG0⟩ : ∃ G : (Int32 × Int32 × (Nat → Int32) × (Nat → Int32) × (Nat → Int32)) → Prop, G = (fun r => r = res) := ⟨_, rfl⟩
  obtain ⟨rr, hrr⟩ : ∃ z, z = res := ⟨_, rfl⟩
  rw [← hrr] at hf
  have hG : G0 rr := by subst eG0; exact hrr
  unfold fX8_image at hf
  refine lv_aload_n hx hb dX8_image_0 rfl (lv_at hl 0 rfl) ?_
  refine lv_iconst (v := 0) hx hb dX8_image_1 (by decide) ?_
  refine va_put (D := (dC, dI)) (ci := 7) (v := .int (0 : Int32)) (ty := tyX8 3) (C := RX8) (T := TX8) (N := 29) hx hb hts (fun w h => List.mem_cons_of_mem _ (kc_X8 w h)) tyX8 tyX8_ok nmX8 hown hK hP hD hS 0 rfl rfl 3 (by decide) (hg kw_564) (fun _ h9 => h9) rfl (by decide +kernel) rfl rfl (Nat.le_of_ble_eq_true rfl) dX8_image_2 (fun H locs hP hD hS => ?_)
  have hP : va_P (dC, dI) vwCl [(h_o, .inr (7, [.ref h_o_plans, .ref h_o_makers, .ref h_o_halves, .int (0 : Int32), .ref h_o_all, .ref h_o_text, .ref h_o_saved, .ref h_o_undone, .int o_undos, .int o_reached, .int o_length, .int o_begin, .int o_letters, .int o_sort, .long o_word, .int o_wrongAt, .int o_badAt, .int o_bad, .ref h_o_told, .ref h_o_shift, .int o_firstX, .int o_firstY, .int o_secondX, .int o_secondY, .ref h_o_rootOf, .ref h_o_becomes, .ref h_o_comes, .ref h_o_next, .int o_x])), (h_o_all, .inl (ca 0, 350, .inl o_all_r)), (h_o_text, .inl (ca 2, 1000, .inl o_text_r)), (h_o_saved, .inl (ca 3, 3, .inl o_saved_r))] H := hP
  have hD : va_D A [(h_o, .inr (7, [.ref h_o_plans, .ref h_o_makers, .ref h_o_halves, .int (0 : Int32), .ref h_o_all, .ref h_o_text, .ref h_o_saved, .ref h_o_undone, .int o_undos, .int o_reached, .int o_length, .int o_begin, .int o_letters, .int o_sort, .long o_word, .int o_wrongAt, .int o_badAt, .int o_bad, .ref h_o_told, .ref h_o_shift, .int o_firstX, .int o_firstY, .int o_secondX, .int o_secondY, .ref h_o_rootOf, .ref h_o_becomes, .ref h_o_comes, .ref h_o_next, .int o_x])), (h_o_all, .inl (ca 0, 350, .inl o_all_r)), (h_o_text, .inl (ca 2, 1000, .inl o_text_r)), (h_o_saved, .inl (ca 3, 3, .inl o_saved_r))] := hD
  refine lv_iload_n hx hb dX8_image_5 rfl (lv_at hl 1 rfl) ?_
  refine lv_iconst (v := 0) hx hb dX8_image_6 (by decide) ?_
  refine lv_iconst (v := 2) hx hb dX8_image_7 (by decide) ?_
  obtain ⟨q8, hq8, hf⟩ := ds_ob hf
  refine ds_calli (wr := [(h_o, .inr (7, [.ref h_o_plans, .ref h_o_makers, .ref h_o_halves, .int (0 : Int32), .ref h_o_all, .ref h_o_text, .ref h_o_saved, .ref h_o_undone, .int o_undos, .int o_reached, .int o_length, .int o_begin, .int o_letters, .int o_sort, .long o_word, .int o_wrongAt, .int o_badAt, .int o_bad, .ref h_o_told, .ref h_o_shift, .int o_firstX, .int o_firstY, .int o_secondX, .int o_secondY, .ref h_o_rootOf, .ref h_o_becomes, .ref h_o_comes, .ref h_o_next, .int o_x])), (h_o_all, .inl (ca 0, 350, .inl o_all_r)), (h_o_text, .inl (ca 2, 1000, .inl o_text_r)), (h_o_saved, .inl (ca 3, 3, .inl o_saved_r))]) (va_runS (As := [.int p1, .int (0 : Int32), .int (2 : Int32)]) (rest := []) ⟨hx, hb, hml, hown, hts⟩ (c_X8_in l dC dI ca sa  H.size  p1 (0 : Int32) (2 : Int32) q8 hq8) (va_cwS 3 hts (ds_gS kw_619 kw_620 kw_597 kw_621) rfl rfl rfl (by decide +kernel) ⟨Nat.le_of_ble_eq_true rfl, Nat.le_of_ble_eq_true rfl⟩) ⟨ds_blind, ds_at hP hD hK hE hS hA [] rfl rfl _⟩ rfl rfl hl.1 rfl (lv_room (Nat.le_of_ble_eq_true rfl)) dX8_image_8 ⟨Nat.zero_le _, Nat.zero_le _⟩) hP hD hS hA [] [0, 1, 2, 3] rfl rfl rfl (by decide) (fun H locs hP hD hS => ?_)
  have hP : va_P (dC, dI) vwCl [(h_o, .inr (7, [.ref h_o_plans, .ref h_o_makers, .ref h_o_halves, .int (0 : Int32), .ref h_o_all, .ref h_o_text, .ref h_o_saved, .ref h_o_undone, .int o_undos, .int o_reached, .int o_length, .int o_begin, .int o_letters, .int o_sort, .long o_word, .int o_wrongAt, .int o_badAt, .int o_bad, .ref h_o_told, .ref h_o_shift, .int o_firstX, .int o_firstY, .int o_secondX, .int o_secondY, .ref h_o_rootOf, .ref h_o_becomes, .ref h_o_comes, .ref h_o_next, .int o_x])), (h_o_all, .inl (ca 0, 350, .inl o_all_r)), (h_o_text, .inl (ca 2, 1000, .inl o_text_r)), (h_o_saved, .inl (ca 3, 3, .inl o_saved_r))] H := hP
  have hD : va_D A [(h_o, .inr (7, [.ref h_o_plans, .ref h_o_makers, .ref h_o_halves, .int (0 : Int32), .ref h_o_all, .ref h_o_text, .ref h_o_saved, .ref h_o_undone, .int o_undos, .int o_reached, .int o_length, .int o_begin, .int o_letters, .int o_sort, .long o_word, .int o_wrongAt, .int o_badAt, .int o_bad, .ref h_o_told, .ref h_o_shift, .int o_firstX, .int o_firstY, .int o_secondX, .int o_secondY, .ref h_o_rootOf, .ref h_o_becomes, .ref h_o_comes, .ref h_o_next, .int o_x])), (h_o_all, .inl (ca 0, 350, .inl o_all_r)), (h_o_text, .inl (ca 2, 1000, .inl o_text_r)), (h_o_saved, .inl (ca 3, 3, .inl o_saved_r))] := hD
  refine lv_if_ne (tgt := 16) hx hb dX8_image_11 (by decide) (fun c_11 => ?_) (fun c_11 => ?_)
  · replace hf := ds_f c_11 hf
    refine lv_aload_n hx hb dX8_image_16 rfl (lv_at hl 0 rfl) ?_
    refine lv_iconst (v := 0) hx hb dX8_image_17 (by decide) ?_
    refine lv_iload_n hx hb dX8_image_18 rfl (lv_at hl 1 rfl) ?_
    refine lv_iconst (v := 1) hx hb dX8_image_19 (by decide) ?_
    refine lv_iadd hx hb dX8_image_20 ?_
    obtain ⟨q21, hq21, hf⟩ := ds_ob hf
    refine ds_callv (wr := [(h_o_saved, .inl (ca 3, 3, .inl o_saved_r))]) (va_runV (As := [.int (0 : Int32), .int (p1 + (1 : Int32))]) (rest := []) ⟨hx, hb, hml, hown, hts⟩ (c_X8_copiesText l dC dI ca sa h_o h_o_plans h_o_makers h_o_halves h_o_all h_o_text h_o_saved h_o_undone h_o_told h_o_shift h_o_rootOf h_o_becomes h_o_comes h_o_next H.size (0 : Int32) o_undos o_reached o_length o_begin o_letters o_sort o_word o_wrongAt o_badAt o_bad o_firstX o_firstY o_secondX o_secondY o_x o_all_r o_text_r (0 : Int32) (p1 + (1 : Int32)) q21 hq21) (cwV 2 hts (ds_gV kw_872 kw_873 kw_874 kw_597 kw_875) rfl rfl rfl (by decide +kernel) ⟨Nat.le_of_ble_eq_true rfl, Nat.le_of_ble_eq_true rfl⟩) ⟨ds_blind, va_recv hK hP (ci := 7) (q0 := 0) rfl rfl, ds_at hP hD hK hE hS hA [0, 1, 2] rfl rfl _⟩ rfl rfl hl.1 rfl (lv_room (Nat.le_of_ble_eq_true rfl)) dX8_image_21 ⟨Nat.zero_le _, Nat.zero_le _⟩) hP hD hS hA [0, 1, 2] [3] rfl rfl rfl (by decide) (fun H locs hP hD hS => ?_)
    have hP : va_P (dC, dI) vwCl [(h_o_saved, .inl (ca 3, 3, .inl o_saved_r)), (h_o, .inr (7, [.ref h_o_plans, .ref h_o_makers, .ref h_o_halves, .int (0 : Int32), .ref h_o_all, .ref h_o_text, .ref h_o_saved, .ref h_o_undone, .int o_undos, .int o_reached, .int o_length, .int o_begin, .int o_letters, .int o_sort, .long o_word, .int o_wrongAt, .int o_badAt, .int o_bad, .ref h_o_told, .ref h_o_shift, .int o_firstX, .int o_firstY, .int o_secondX, .int o_secondY, .ref h_o_rootOf, .ref h_o_becomes, .ref h_o_comes, .ref h_o_next, .int o_x])), (h_o_all, .inl (ca 0, 350, .inl q21.1)), (h_o_text, .inl (ca 2, 1000, .inl q21.2))] H := hP
    have hD : va_D A [(h_o_saved, .inl (ca 3, 3, .inl o_saved_r)), (h_o, .inr (7, [.ref h_o_plans, .ref h_o_makers, .ref h_o_halves, .int (0 : Int32), .ref h_o_all, .ref h_o_text, .ref h_o_saved, .ref h_o_undone, .int o_undos, .int o_reached, .int o_length, .int o_begin, .int o_letters, .int o_sort, .long o_word, .int o_wrongAt, .int o_badAt, .int o_bad, .ref h_o_told, .ref h_o_shift, .int o_firstX, .int o_firstY, .int o_secondX, .int o_secondY, .ref h_o_rootOf, .ref h_o_becomes, .ref h_o_comes, .ref h_o_next, .int o_x])), (h_o_all, .inl (ca 0, 350, .inl q21.1)), (h_o_text, .inl (ca 2, 1000, .inl q21.2))] := hD
    refine lv_aload_n hx hb dX8_image_24 rfl (lv_at hl 0 rfl) ?_
    refine va_get (D := (dC, dI)) (ci := 7) (v := .ref h_o_saved) (C := RX8) (T := TX8) (N := 29) hx hb hts (fun w h => List.mem_cons_of_mem _ (kc_X8 w h)) hown hK hP 1 rfl rfl 6 (by decide) (hg kw_813) (fun _ h9 => h9) rfl dX8_image_25 ?_
    refine lv_iload_n hx hb dX8_image_28 rfl (lv_at hl 1 rfl) ?_
    refine lv_iconst (v := 1) hx hb dX8_image_29 (by decide) ?_
    obtain ⟨i_30, hf⟩ := ds_ci hf
    refine va_zast hx hb hK hP hD hS 0 3 rfl rfl i_30 dX8_image_30 (fun H locs hP hD hS => ?_)
    have hP : va_P (dC, dI) vwCl [(h_o_saved, .inl (ca 3, 3, .inl (upd o_saved_r p1.toNatClampNeg (vp_nar .boolean (1 : Int32))))), (h_o, .inr (7, [.ref h_o_plans, .ref h_o_makers, .ref h_o_halves, .int (0 : Int32), .ref h_o_all, .ref h_o_text, .ref h_o_saved, .ref h_o_undone, .int o_undos, .int o_reached, .int o_length, .int o_begin, .int o_letters, .int o_sort, .long o_word, .int o_wrongAt, .int o_badAt, .int o_bad, .ref h_o_told, .ref h_o_shift, .int o_firstX, .int o_firstY, .int o_secondX, .int o_secondY, .ref h_o_rootOf, .ref h_o_becomes, .ref h_o_comes, .ref h_o_next, .int o_x])), (h_o_all, .inl (ca 0, 350, .inl q21.1)), (h_o_text, .inl (ca 2, 1000, .inl q21.2))] H := hP
    have hD : va_D A [(h_o_saved, .inl (ca 3, 3, .inl (upd o_saved_r p1.toNatClampNeg (vp_nar .boolean (1 : Int32))))), (h_o, .inr (7, [.ref h_o_plans, .ref h_o_makers, .ref h_o_halves, .int (0 : Int32), .ref h_o_all, .ref h_o_text, .ref h_o_saved, .ref h_o_undone, .int o_undos, .int o_reached, .int o_length, .int o_begin, .int o_letters, .int o_sort, .long o_word, .int o_wrongAt, .int o_badAt, .int o_bad, .ref h_o_told, .ref h_o_shift, .int o_firstX, .int o_firstY, .int o_secondX, .int o_secondY, .ref h_o_rootOf, .ref h_o_becomes, .ref h_o_comes, .ref h_o_next, .int o_x])), (h_o_all, .inl (ca 0, 350, .inl q21.1)), (h_o_text, .inl (ca 2, 1000, .inl q21.2))] := hD
    refine lv_iconst (v := 1) hx hb dX8_image_31 (by decide) ?_
    have hf := Option.some.inj hf
    subst hf
    rw [eG0] at hG
    have hG : _ = res := hG
    subst hG
    exact W.zret (v := (1 : Int32)) (ty := .boolean) hx hb hr rfl (fun t ht hW => ⟨⟨(1 : Int32), (), rfl, rfl, by rw [ht]; exact (hP.sub [1, 2, 3, 0] rfl), (hD.sub [1, 2, 3, 0] rfl rfl)⟩, hS.F ht⟩) hS.2.2 dX8_image_32
  · replace hf := ds_t c_11 hf
    refine lv_iconst (v := 0) hx hb dX8_image_14 (by decide) ?_
    have hf := Option.some.inj hf
    subst hf
    rw [eG0] at hG
    have hG : _ = res := hG
    subst hG
    exact W.zret (v := (0 : Int32)) (ty := .boolean) hx hb hr rfl (fun t ht hW => ⟨⟨(0 : Int32), (), rfl, rfl, by rw [ht]; exact hP, hD⟩, hS.F ht⟩) hS.2.2 dX8_image_15
theorem dX8_again_0 : decode cX8_again 0 = .ok (.aload_n 0, 1) := by decide +kernel
theorem dX8_again_1 : decode cX8_again 1 = .ok (.iconst 0, 1) := by decide +kernel
theorem dX8_again_2 : decode cX8_again 2 = .ok (.putfield 51, 3) := by decide +kernel
theorem dX8_again_5 : decode cX8_again 5 = .ok (.iload_n 1, 1) := by decide +kernel
theorem dX8_again_6 : decode cX8_again 6 = .ok (.iconst 0, 1) := by decide +kernel
theorem dX8_again_7 : decode cX8_again 7 = .ok (.iconst 2, 1) := by decide +kernel
theorem dX8_again_8 : decode cX8_again 8 = .ok (.invokestatic 90, 3) := by decide +kernel
theorem dX8_again_11 : decode cX8_again 11 = .ok (.ifCond .eq 12, 3) := by decide +kernel
theorem dX8_again_14 : decode cX8_again 14 = .ok (.aload_n 0, 1) := by decide +kernel
theorem dX8_again_15 : decode cX8_again 15 = .ok (.getfield 26, 3) := by decide +kernel
theorem dX8_again_18 : decode cX8_again 18 = .ok (.iload_n 1, 1) := by decide +kernel
theorem dX8_again_19 : decode cX8_again 19 = .ok (.baload, 1) := by decide +kernel
theorem dX8_again_20 : decode cX8_again 20 = .ok (.ifCond .ne 5, 3) := by decide +kernel
theorem dX8_again_23 : decode cX8_again 23 = .ok (.iconst 0, 1) := by decide +kernel
theorem dX8_again_24 : decode cX8_again 24 = .ok (.ireturn, 1) := by decide +kernel
theorem dX8_again_25 : decode cX8_again 25 = .ok (.aload_n 0, 1) := by decide +kernel
theorem dX8_again_26 : decode cX8_again 26 = .ok (.iload_n 1, 1) := by decide +kernel
theorem dX8_again_27 : decode cX8_again 27 = .ok (.iconst 1, 1) := by decide +kernel
theorem dX8_again_28 : decode cX8_again 28 = .ok (.iadd, 1) := by decide +kernel
theorem dX8_again_29 : decode cX8_again 29 = .ok (.iconst 0, 1) := by decide +kernel
theorem dX8_again_30 : decode cX8_again 30 = .ok (.invokevirtual 307, 3) := by decide +kernel
theorem dX8_again_33 : decode cX8_again 33 = .ok (.aload_n 0, 1) := by decide +kernel
theorem dX8_again_34 : decode cX8_again 34 = .ok (.iconst 0, 1) := by decide +kernel
theorem dX8_again_35 : decode cX8_again 35 = .ok (.putfield 124, 3) := by decide +kernel
theorem dX8_again_38 : decode cX8_again 38 = .ok (.iconst 1, 1) := by decide +kernel
theorem dX8_again_39 : decode cX8_again 39 = .ok (.ireturn, 1) := by decide +kernel
def fX8_again (o_undos : Int32) (o_saved_r : Nat → Int32) (o_all_r : Nat → Int32) (o_text_r : Nat → Int32) (p1 : Int32) : Option (Int32 × Int32 × Int32 × (Nat → Int32) × (Nat → Int32)) :=
  Option.bind (fX8_in p1 (0 : Int32) (2 : Int32)) fun q8 => if q8 = 0 then some ((0 : Int32), (0 : Int32), o_undos, o_all_r, o_text_r) else if ds_in p1 3 = true then if (o_saved_r p1.toNatClampNeg) = 0 then some ((0 : Int32), (0 : Int32), o_undos, o_all_r, o_text_r) else Option.bind (fX8_copiesText o_all_r o_text_r (p1 + (1 : Int32)) (0 : Int32)) fun q30 => some ((1 : Int32), (0 : Int32), (0 : Int32), q30.1, q30.2) else none
set_option maxHeartbeats 4000000 in
set_option maxRecDepth 100000 in
theorem c_X8_again (l : Launch) (dC : Nat → ClassId) (dI : Nat → Nat → Nat) (ca : Nat → ClassId) (sa : Nat → Nat) (h_o : Nat) (h_o_plans : Nat) (h_o_makers : Nat) (h_o_halves : Nat) (h_o_all : Nat) (h_o_text : Nat) (h_o_saved : Nat) (h_o_undone : Nat) (h_o_told : Nat) (h_o_shift : Nat) (h_o_rootOf : Nat) (h_o_becomes : Nat) (h_o_comes : Nat) (h_o_next : Nat) (sz : Nat) (o_raised : Int32) (o_undos : Int32) (o_reached : Int32) (o_length : Int32) (o_begin : Int32) (o_letters : Int32) (o_sort : Int32) (o_word : Int64) (o_wrongAt : Int32) (o_badAt : Int32) (o_bad : Int32) (o_firstX : Int32) (o_firstY : Int32) (o_secondX : Int32) (o_secondY : Int32) (o_x : Int32) (o_saved_r : Nat → Int32) (o_all_r : Nat → Int32) (o_text_r : Nat → Int32) (p1 : Int32) (res : Int32 × Int32 × Int32 × (Nat → Int32) × (Nat → Int32)) (hf : fX8_again o_undos o_saved_r o_all_r o_text_r p1 = some res) : Met l yX8_again (Cond.code yX8_again cX8_again 2 (some .boolean) :: ds_gw) { frames := 1, cells := 0, slots := 0, locals := 23 } (va_Pc [.ref h_o, .int p1] (ds_Pre dC dI ca sa [(h_o, .inr (7, [.ref h_o_plans, .ref h_o_makers, .ref h_o_halves, .int o_raised, .ref h_o_all, .ref h_o_text, .ref h_o_saved, .ref h_o_undone, .int o_undos, .int o_reached, .int o_length, .int o_begin, .int o_letters, .int o_sort, .long o_word, .int o_wrongAt, .int o_badAt, .int o_bad, .ref h_o_told, .ref h_o_shift, .int o_firstX, .int o_firstY, .int o_secondX, .int o_secondY, .ref h_o_rootOf, .ref h_o_becomes, .ref h_o_comes, .ref h_o_next, .int o_x])), (h_o_saved, .inl (ca 3, 3, .inl o_saved_r)), (h_o_all, .inl (ca 0, 350, .inl o_all_r)), (h_o_text, .inl (ca 2, 1000, .inl o_text_r))] sz)) (va_Qi (fun r (_ : Unit) => r = res.1) (ds_B dC dI (va_A [(h_o, .inr (7, [.ref h_o_plans, .ref h_o_makers, .ref h_o_halves, .int o_raised, .ref h_o_all, .ref h_o_text, .ref h_o_saved, .ref h_o_undone, .int o_undos, .int o_reached, .int o_length, .int o_begin, .int o_letters, .int o_sort, .long o_word, .int o_wrongAt, .int o_badAt, .int o_bad, .ref h_o_told, .ref h_o_shift, .int o_firstX, .int o_firstY, .int o_secondX, .int o_secondY, .ref h_o_rootOf, .ref h_o_becomes, .ref h_o_comes, .ref h_o_next, .int o_x])), (h_o_saved, .inl (ca 3, 3, .inl o_saved_r)), (h_o_all, .inl (ca 0, 350, .inl o_all_r)), (h_o_text, .inl (ca 2, 1000, .inl o_text_r))] sz) [(h_o, .inr (7, [.ref h_o_plans, .ref h_o_makers, .ref h_o_halves, .int res.2.1, .ref h_o_all, .ref h_o_text, .ref h_o_saved, .ref h_o_undone, .int res.2.2.1, .int o_reached, .int o_length, .int o_begin, .int o_letters, .int o_sort, .long o_word, .int o_wrongAt, .int o_badAt, .int o_bad, .ref h_o_told, .ref h_o_shift, .int o_firstX, .int o_firstY, .int o_secondX, .int o_secondY, .ref h_o_rootOf, .ref h_o_becomes, .ref h_o_comes, .ref h_o_next, .int o_x])), (h_o_saved, .inl (ca 3, 3, .inl o_saved_r)), (h_o_all, .inl (ca 0, 350, .inl res.2.2.2.1)), (h_o_text, .inl (ca 2, 1000, .inl res.2.2.2.2))]) (va_A [(h_o, .inr (7, [.ref h_o_plans, .ref h_o_makers, .ref h_o_halves, .int o_raised, .ref h_o_all, .ref h_o_text, .ref h_o_saved, .ref h_o_undone, .int o_undos, .int o_reached, .int o_length, .int o_begin, .int o_letters, .int o_sort, .long o_word, .int o_wrongAt, .int o_badAt, .int o_bad, .ref h_o_told, .ref h_o_shift, .int o_firstX, .int o_firstY, .int o_secondX, .int o_secondY, .ref h_o_rootOf, .ref h_o_becomes, .ref h_o_comes, .ref h_o_next, .int o_x])), (h_o_saved, .inl (ca 3, 3, .inl o_saved_r)), (h_o_all, .inl (ca 0, 350, .inl o_all_r)), (h_o_text, .inl (ca 2, 1000, .inl o_text_r))] sz)) 0 0 (va_A [(h_o, .inr (7, [.ref h_o_plans, .ref h_o_makers, .ref h_o_halves, .int o_raised, .ref h_o_all, .ref h_o_text, .ref h_o_saved, .ref h_o_undone, .int o_undos, .int o_reached, .int o_length, .int o_begin, .int o_letters, .int o_sort, .long o_word, .int o_wrongAt, .int o_badAt, .int o_bad, .ref h_o_told, .ref h_o_shift, .int o_firstX, .int o_firstY, .int o_secondX, .int o_secondY, .ref h_o_rootOf, .ref h_o_becomes, .ref h_o_comes, .ref h_o_next, .int o_x])), (h_o_saved, .inl (ca 3, 3, .inl o_saved_r)), (h_o_all, .inl (ca 0, 350, .inl o_all_r)), (h_o_text, .inl (ca 2, 1000, .inl o_text_r))] sz) := by
  refine Met.ofW (cc := cX8_again) (maxL := 2) (ret := (some .boolean)) (by decide) rfl ?_
  intro p e s m args below meth c s₁ B hml hv
  obtain ⟨rfl, hsz, hP, hK, hD0, hE⟩ := hv
  have hx := B.exec
  have hb := B.bytes
  have hr := B.returns
  have hts := atoms_spec (ws := Cond.code yX8_again cX8_again 2 (some .boolean) :: ds_gw) B.pre
  have hg : ∀ {w : Cond}, w ∈ ds_gw → w.before _ s = true := fun h => hts _ (List.mem_cons_of_mem _ h)
  have hown : s.vm.findClass RX8 = some m.cls := findClass_of_methodNamed B.named
  have hlocks := B.notSynchronized
  subst hsz
  have hD := hD0.self (sz := s.heap.size)
  generalize hAe : va_A [(h_o, .inr (7, [.ref h_o_plans, .ref h_o_makers, .ref h_o_halves, .int o_raised, .ref h_o_all, .ref h_o_text, .ref h_o_saved, .ref h_o_undone, .int o_undos, .int o_reached, .int o_length, .int o_begin, .int o_letters, .int o_sort, .long o_word, .int o_wrongAt, .int o_badAt, .int o_bad, .ref h_o_told, .ref h_o_shift, .int o_firstX, .int o_firstY, .int o_secondX, .int o_secondY, .ref h_o_rootOf, .ref h_o_becomes, .ref h_o_comes, .ref h_o_next, .int o_x])), (h_o_saved, .inl (ca 3, 3, .inl o_saved_r)), (h_o_all, .inl (ca 0, 350, .inl o_all_r)), (h_o_text, .inl (ca 2, 1000, .inl o_text_r))] s.heap.size = A at hD hE ⊢
  have hA : ∀ q : Nat, s.heap.size ≤ q → A q := fun q h => by rw [← hAe]; exact Or.inr h
  have hS : va_S A s.heap s.heap [] := va_S.rf
  have hl := lv_entry ([.ref h_o, .int p1]) (n := 2) (Nat.le_of_ble_eq_true rfl)
  rw [lg_entry_eq]
  generalize (lg_sl ([.ref h_o, .int p1]) ++ List.replicate (2 - (lg_sl ([.ref h_o, .int p1])).length) Slot.unset).toArray = ls at hl ⊢
  have hl : lv_has ls 2 [(0, .ref h_o), (1, .int p1)] := hl
  obtain ⟨G0, eG0⟩ : ∃ G : (Int32 × Int32 × Int32 × (Nat → Int32) × (Nat → Int32)) → Prop, G = (fun r => r = res) := ⟨_, rfl⟩
  obtain ⟨rr, hrr⟩ : ∃ z, z = res := ⟨_, rfl⟩
  rw [← hrr] at hf
  have hG : G0 rr := by subst eG0; exact hrr
  unfold fX8_again at hf
  refine lv_aload_n hx hb dX8_again_0 rfl (lv_at hl 0 rfl) ?_
  refine lv_iconst (v := 0) hx hb dX8_again_1 (by decide) ?_
  refine va_put (D := (dC, dI)) (ci := 7) (v := .int (0 : Int32)) (ty := tyX8 3) (C := RX8) (T := TX8) (N := 29) hx hb hts (fun w h => List.mem_cons_of_mem _ (kc_X8 w h)) tyX8 tyX8_ok nmX8 hown hK hP hD hS 0 rfl rfl 3 (by decide) (hg kw_564) (fun _ h9 => h9) rfl (by decide +kernel) rfl rfl (Nat.le_of_ble_eq_true rfl) dX8_again_2 (fun H locs hP hD hS => ?_)
  have hP : va_P (dC, dI) vwCl [(h_o, .inr (7, [.ref h_o_plans, .ref h_o_makers, .ref h_o_halves, .int (0 : Int32), .ref h_o_all, .ref h_o_text, .ref h_o_saved, .ref h_o_undone, .int o_undos, .int o_reached, .int o_length, .int o_begin, .int o_letters, .int o_sort, .long o_word, .int o_wrongAt, .int o_badAt, .int o_bad, .ref h_o_told, .ref h_o_shift, .int o_firstX, .int o_firstY, .int o_secondX, .int o_secondY, .ref h_o_rootOf, .ref h_o_becomes, .ref h_o_comes, .ref h_o_next, .int o_x])), (h_o_saved, .inl (ca 3, 3, .inl o_saved_r)), (h_o_all, .inl (ca 0, 350, .inl o_all_r)), (h_o_text, .inl (ca 2, 1000, .inl o_text_r))] H := hP
  have hD : va_D A [(h_o, .inr (7, [.ref h_o_plans, .ref h_o_makers, .ref h_o_halves, .int (0 : Int32), .ref h_o_all, .ref h_o_text, .ref h_o_saved, .ref h_o_undone, .int o_undos, .int o_reached, .int o_length, .int o_begin, .int o_letters, .int o_sort, .long o_word, .int o_wrongAt, .int o_badAt, .int o_bad, .ref h_o_told, .ref h_o_shift, .int o_firstX, .int o_firstY, .int o_secondX, .int o_secondY, .ref h_o_rootOf, .ref h_o_becomes, .ref h_o_comes, .ref h_o_next, .int o_x])), (h_o_saved, .inl (ca 3, 3, .inl o_saved_r)), (h_o_all, .inl (ca 0, 350, .inl o_all_r)), (h_o_text, .inl (ca 2, 1000, .inl o_text_r))] := hD
  refine lv_iload_n hx hb dX8_again_5 rfl (lv_at hl 1 rfl) ?_
  refine lv_iconst (v := 0) hx hb dX8_again_6 (by decide) ?_
  refine lv_iconst (v := 2) hx hb dX8_again_7 (by decide) ?_
  obtain ⟨q8, hq8, hf⟩ := ds_ob hf
  refine ds_calli (wr := [(h_o, .inr (7, [.ref h_o_plans, .ref h_o_makers, .ref h_o_halves, .int (0 : Int32), .ref h_o_all, .ref h_o_text, .ref h_o_saved, .ref h_o_undone, .int o_undos, .int o_reached, .int o_length, .int o_begin, .int o_letters, .int o_sort, .long o_word, .int o_wrongAt, .int o_badAt, .int o_bad, .ref h_o_told, .ref h_o_shift, .int o_firstX, .int o_firstY, .int o_secondX, .int o_secondY, .ref h_o_rootOf, .ref h_o_becomes, .ref h_o_comes, .ref h_o_next, .int o_x])), (h_o_saved, .inl (ca 3, 3, .inl o_saved_r)), (h_o_all, .inl (ca 0, 350, .inl o_all_r)), (h_o_text, .inl (ca 2, 1000, .inl o_text_r))]) (va_runS (As := [.int p1, .int (0 : Int32), .int (2 : Int32)]) (rest := []) ⟨hx, hb, hml, hown, hts⟩ (c_X8_in l dC dI ca sa  H.size  p1 (0 : Int32) (2 : Int32) q8 hq8) (va_cwS 3 hts (ds_gS kw_619 kw_620 kw_597 kw_621) rfl rfl rfl (by decide +kernel) ⟨Nat.le_of_ble_eq_true rfl, Nat.le_of_ble_eq_true rfl⟩) ⟨ds_blind, ds_at hP hD hK hE hS hA [] rfl rfl _⟩ rfl rfl hl.1 rfl (lv_room (Nat.le_of_ble_eq_true rfl)) dX8_again_8 ⟨Nat.zero_le _, Nat.zero_le _⟩) hP hD hS hA [] [0, 1, 2, 3] rfl rfl rfl (by decide) (fun H locs hP hD hS => ?_)
  have hP : va_P (dC, dI) vwCl [(h_o, .inr (7, [.ref h_o_plans, .ref h_o_makers, .ref h_o_halves, .int (0 : Int32), .ref h_o_all, .ref h_o_text, .ref h_o_saved, .ref h_o_undone, .int o_undos, .int o_reached, .int o_length, .int o_begin, .int o_letters, .int o_sort, .long o_word, .int o_wrongAt, .int o_badAt, .int o_bad, .ref h_o_told, .ref h_o_shift, .int o_firstX, .int o_firstY, .int o_secondX, .int o_secondY, .ref h_o_rootOf, .ref h_o_becomes, .ref h_o_comes, .ref h_o_next, .int o_x])), (h_o_saved, .inl (ca 3, 3, .inl o_saved_r)), (h_o_all, .inl (ca 0, 350, .inl o_all_r)), (h_o_text, .inl (ca 2, 1000, .inl o_text_r))] H := hP
  have hD : va_D A [(h_o, .inr (7, [.ref h_o_plans, .ref h_o_makers, .ref h_o_halves, .int (0 : Int32), .ref h_o_all, .ref h_o_text, .ref h_o_saved, .ref h_o_undone, .int o_undos, .int o_reached, .int o_length, .int o_begin, .int o_letters, .int o_sort, .long o_word, .int o_wrongAt, .int o_badAt, .int o_bad, .ref h_o_told, .ref h_o_shift, .int o_firstX, .int o_firstY, .int o_secondX, .int o_secondY, .ref h_o_rootOf, .ref h_o_becomes, .ref h_o_comes, .ref h_o_next, .int o_x])), (h_o_saved, .inl (ca 3, 3, .inl o_saved_r)), (h_o_all, .inl (ca 0, 350, .inl o_all_r)), (h_o_text, .inl (ca 2, 1000, .inl o_text_r))] := hD
  refine lv_if_eq (tgt := 23) hx hb dX8_again_11 (by decide) (fun c_11 => ?_) (fun c_11 => ?_)
  · replace hf := ds_t c_11 hf
    refine lv_iconst (v := 0) hx hb dX8_again_23 (by decide) ?_
    have hf := Option.some.inj hf
    subst hf
    rw [eG0] at hG
    have hG : _ = res := hG
    subst hG
    exact W.zret (v := (0 : Int32)) (ty := .boolean) hx hb hr rfl (fun t ht hW => ⟨⟨(0 : Int32), (), rfl, rfl, by rw [ht]; exact hP, hD⟩, hS.F ht⟩) hS.2.2 dX8_again_24
  · replace hf := ds_f c_11 hf
    refine lv_aload_n hx hb dX8_again_14 rfl (lv_at hl 0 rfl) ?_
    refine va_get (D := (dC, dI)) (ci := 7) (v := .ref h_o_saved) (C := RX8) (T := TX8) (N := 29) hx hb hts (fun w h => List.mem_cons_of_mem _ (kc_X8 w h)) hown hK hP 0 rfl rfl 6 (by decide) (hg kw_813) (fun _ h9 => h9) rfl dX8_again_15 ?_
    refine lv_iload_n hx hb dX8_again_18 rfl (lv_at hl 1 rfl) ?_
    obtain ⟨i_19, hf⟩ := ds_ci hf
    refine va_zald hx hb hK hP 1 3 rfl rfl i_19 dX8_again_19 ?_
    refine lv_if_ne (tgt := 25) hx hb dX8_again_20 (by decide) (fun c_20 => ?_) (fun c_20 => ?_)
    · replace hf := ds_f c_20 hf
      refine lv_aload_n hx hb dX8_again_25 rfl (lv_at hl 0 rfl) ?_
      refine lv_iload_n hx hb dX8_again_26 rfl (lv_at hl 1 rfl) ?_
      refine lv_iconst (v := 1) hx hb dX8_again_27 (by decide) ?_
      refine lv_iadd hx hb dX8_again_28 ?_
      refine lv_iconst (v := 0) hx hb dX8_again_29 (by decide) ?_
      obtain ⟨q30, hq30, hf⟩ := ds_ob hf
      refine ds_callv (wr := [(h_o_saved, .inl (ca 3, 3, .inl o_saved_r))]) (va_runV (As := [.int (p1 + (1 : Int32)), .int (0 : Int32)]) (rest := []) ⟨hx, hb, hml, hown, hts⟩ (c_X8_copiesText l dC dI ca sa h_o h_o_plans h_o_makers h_o_halves h_o_all h_o_text h_o_saved h_o_undone h_o_told h_o_shift h_o_rootOf h_o_becomes h_o_comes h_o_next H.size (0 : Int32) o_undos o_reached o_length o_begin o_letters o_sort o_word o_wrongAt o_badAt o_bad o_firstX o_firstY o_secondX o_secondY o_x o_all_r o_text_r (p1 + (1 : Int32)) (0 : Int32) q30 hq30) (cwV 2 hts (ds_gV kw_872 kw_873 kw_874 kw_597 kw_875) rfl rfl rfl (by decide +kernel) ⟨Nat.le_of_ble_eq_true rfl, Nat.le_of_ble_eq_true rfl⟩) ⟨ds_blind, va_recv hK hP (ci := 7) (q0 := 0) rfl rfl, ds_at hP hD hK hE hS hA [0, 2, 3] rfl rfl _⟩ rfl rfl hl.1 rfl (lv_room (Nat.le_of_ble_eq_true rfl)) dX8_again_30 ⟨Nat.zero_le _, Nat.zero_le _⟩) hP hD hS hA [0, 2, 3] [1] rfl rfl rfl (by decide) (fun H locs hP hD hS => ?_)
      have hP : va_P (dC, dI) vwCl [(h_o_saved, .inl (ca 3, 3, .inl o_saved_r)), (h_o, .inr (7, [.ref h_o_plans, .ref h_o_makers, .ref h_o_halves, .int (0 : Int32), .ref h_o_all, .ref h_o_text, .ref h_o_saved, .ref h_o_undone, .int o_undos, .int o_reached, .int o_length, .int o_begin, .int o_letters, .int o_sort, .long o_word, .int o_wrongAt, .int o_badAt, .int o_bad, .ref h_o_told, .ref h_o_shift, .int o_firstX, .int o_firstY, .int o_secondX, .int o_secondY, .ref h_o_rootOf, .ref h_o_becomes, .ref h_o_comes, .ref h_o_next, .int o_x])), (h_o_all, .inl (ca 0, 350, .inl q30.1)), (h_o_text, .inl (ca 2, 1000, .inl q30.2))] H := hP
      have hD : va_D A [(h_o_saved, .inl (ca 3, 3, .inl o_saved_r)), (h_o, .inr (7, [.ref h_o_plans, .ref h_o_makers, .ref h_o_halves, .int (0 : Int32), .ref h_o_all, .ref h_o_text, .ref h_o_saved, .ref h_o_undone, .int o_undos, .int o_reached, .int o_length, .int o_begin, .int o_letters, .int o_sort, .long o_word, .int o_wrongAt, .int o_badAt, .int o_bad, .ref h_o_told, .ref h_o_shift, .int o_firstX, .int o_firstY, .int o_secondX, .int o_secondY, .ref h_o_rootOf, .ref h_o_becomes, .ref h_o_comes, .ref h_o_next, .int o_x])), (h_o_all, .inl (ca 0, 350, .inl q30.1)), (h_o_text, .inl (ca 2, 1000, .inl q30.2))] := hD
      refine lv_aload_n hx hb dX8_again_33 rfl (lv_at hl 0 rfl) ?_
      refine lv_iconst (v := 0) hx hb dX8_again_34 (by decide) ?_
      refine va_put (D := (dC, dI)) (ci := 7) (v := .int (0 : Int32)) (ty := tyX8 8) (C := RX8) (T := TX8) (N := 29) hx hb hts (fun w h => List.mem_cons_of_mem _ (kc_X8 w h)) tyX8 tyX8_ok nmX8 hown hK hP hD hS 1 rfl rfl 8 (by decide) (hg kw_645) (fun _ h9 => h9) rfl (by decide +kernel) rfl rfl (Nat.le_of_ble_eq_true rfl) dX8_again_35 (fun H locs hP hD hS => ?_)
      have hP : va_P (dC, dI) vwCl [(h_o_saved, .inl (ca 3, 3, .inl o_saved_r)), (h_o, .inr (7, [.ref h_o_plans, .ref h_o_makers, .ref h_o_halves, .int (0 : Int32), .ref h_o_all, .ref h_o_text, .ref h_o_saved, .ref h_o_undone, .int (0 : Int32), .int o_reached, .int o_length, .int o_begin, .int o_letters, .int o_sort, .long o_word, .int o_wrongAt, .int o_badAt, .int o_bad, .ref h_o_told, .ref h_o_shift, .int o_firstX, .int o_firstY, .int o_secondX, .int o_secondY, .ref h_o_rootOf, .ref h_o_becomes, .ref h_o_comes, .ref h_o_next, .int o_x])), (h_o_all, .inl (ca 0, 350, .inl q30.1)), (h_o_text, .inl (ca 2, 1000, .inl q30.2))] H := hP
      have hD : va_D A [(h_o_saved, .inl (ca 3, 3, .inl o_saved_r)), (h_o, .inr (7, [.ref h_o_plans, .ref h_o_makers, .ref h_o_halves, .int (0 : Int32), .ref h_o_all, .ref h_o_text, .ref h_o_saved, .ref h_o_undone, .int (0 : Int32), .int o_reached, .int o_length, .int o_begin, .int o_letters, .int o_sort, .long o_word, .int o_wrongAt, .int o_badAt, .int o_bad, .ref h_o_told, .ref h_o_shift, .int o_firstX, .int o_firstY, .int o_secondX, .int o_secondY, .ref h_o_rootOf, .ref h_o_becomes, .ref h_o_comes, .ref h_o_next, .int o_x])), (h_o_all, .inl (ca 0, 350, .inl q30.1)), (h_o_text, .inl (ca 2, 1000, .inl q30.2))] := hD
      refine lv_iconst (v := 1) hx hb dX8_again_38 (by decide) ?_
      have hf := Option.some.inj hf
      subst hf
      rw [eG0] at hG
      have hG : _ = res := hG
      subst hG
      exact W.zret (v := (1 : Int32)) (ty := .boolean) hx hb hr rfl (fun t ht hW => ⟨⟨(1 : Int32), (), rfl, rfl, by rw [ht]; exact (hP.sub [1, 0, 2, 3] rfl), (hD.sub [1, 0, 2, 3] rfl rfl)⟩, hS.F ht⟩) hS.2.2 dX8_again_39
    · replace hf := ds_t c_20 hf
      refine lv_iconst (v := 0) hx hb dX8_again_23 (by decide) ?_
      have hf := Option.some.inj hf
      subst hf
      rw [eG0] at hG
      have hG : _ = res := hG
      subst hG
      exact W.zret (v := (0 : Int32)) (ty := .boolean) hx hb hr rfl (fun t ht hW => ⟨⟨(0 : Int32), (), rfl, rfl, by rw [ht]; exact hP, hD⟩, hS.F ht⟩) hS.2.2 dX8_again_24

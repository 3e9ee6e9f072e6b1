theorem dX8_isOther_0 : decode cX8_isOther 0 = .ok (.iconst 0, 1) := by decide +kernel
theorem dX8_isOther_1 : decode cX8_isOther 1 = .ok (.istore_n 1, 1) := by decide +kernel
theorem dX8_isOther_2 : decode cX8_isOther 2 = .ok (.iconst 0, 1) := by decide +kernel
theorem dX8_isOther_3 : decode cX8_isOther 3 = .ok (.istore_n 2, 1) := by decide +kernel
theorem dX8_isOther_4 : decode cX8_isOther 4 = .ok (.iload_n 2, 1) := by decide +kernel
theorem dX8_isOther_5 : decode cX8_isOther 5 = .ok (.bipush 64, 2) := by decide +kernel
theorem dX8_isOther_7 : decode cX8_isOther 7 = .ok (.if_icmp .ge 36, 3) := by decide +kernel
theorem dX8_isOther_10 : decode cX8_isOther 10 = .ok (.iload_n 1, 1) := by decide +kernel
theorem dX8_isOther_11 : decode cX8_isOther 11 = .ok (.ifCond .ne 20, 3) := by decide +kernel
theorem dX8_isOther_14 : decode cX8_isOther 14 = .ok (.aload_n 0, 1) := by decide +kernel
theorem dX8_isOther_15 : decode cX8_isOther 15 = .ok (.getfield 48, 3) := by decide +kernel
theorem dX8_isOther_18 : decode cX8_isOther 18 = .ok (.iload_n 2, 1) := by decide +kernel
theorem dX8_isOther_19 : decode cX8_isOther 19 = .ok (.iaload, 1) := by decide +kernel
theorem dX8_isOther_20 : decode cX8_isOther 20 = .ok (.aload_n 0, 1) := by decide +kernel
theorem dX8_isOther_21 : decode cX8_isOther 21 = .ok (.getfield 19, 3) := by decide +kernel
theorem dX8_isOther_24 : decode cX8_isOther 24 = .ok (.iconst 3, 1) := by decide +kernel
theorem dX8_isOther_25 : decode cX8_isOther 25 = .ok (.iload_n 2, 1) := by decide +kernel
theorem dX8_isOther_26 : decode cX8_isOther 26 = .ok (.iadd, 1) := by decide +kernel
theorem dX8_isOther_27 : decode cX8_isOther 27 = .ok (.iaload, 1) := by decide +kernel
theorem dX8_isOther_28 : decode cX8_isOther 28 = .ok (.if_icmp .eq 7, 3) := by decide +kernel
theorem dX8_isOther_31 : decode cX8_isOther 31 = .ok (.iconst 1, 1) := by decide +kernel
theorem dX8_isOther_32 : decode cX8_isOther 32 = .ok (.goto 4, 3) := by decide +kernel
theorem dX8_isOther_35 : decode cX8_isOther 35 = .ok (.iconst 0, 1) := by decide +kernel
theorem dX8_isOther_36 : decode cX8_isOther 36 = .ok (.istore_n 1, 1) := by decide +kernel
theorem dX8_isOther_37 : decode cX8_isOther 37 = .ok (.iinc 2 1, 3) := by decide +kernel
theorem dX8_isOther_40 : decode cX8_isOther 40 = .ok (.goto (-36), 3) := by decide +kernel
theorem dX8_isOther_43 : decode cX8_isOther 43 = .ok (.iload_n 1, 1) := by decide +kernel
theorem dX8_isOther_44 : decode cX8_isOther 44 = .ok (.ifCond .ne 5, 3) := by decide +kernel
theorem dX8_isOther_47 : decode cX8_isOther 47 = .ok (.iconst 0, 1) := by decide +kernel
theorem dX8_isOther_48 : decode cX8_isOther 48 = .ok (.ireturn, 1) := by decide +kernel
theorem dX8_isOther_49 : decode cX8_isOther 49 = .ok (.aload_n 0, 1) := by decide +kernel
theorem dX8_isOther_50 : decode cX8_isOther 50 = .ok (.invokevirtual 287, 3) := by decide +kernel
theorem dX8_isOther_53 : decode cX8_isOther 53 = .ok (.iconst 0, 1) := by decide +kernel
theorem dX8_isOther_54 : decode cX8_isOther 54 = .ok (.istore_n 2, 1) := by decide +kernel
theorem dX8_isOther_55 : decode cX8_isOther 55 = .ok (.iload_n 2, 1) := by decide +kernel
theorem dX8_isOther_56 : decode cX8_isOther 56 = .ok (.bipush 64, 2) := by decide +kernel
theorem dX8_isOther_58 : decode cX8_isOther 58 = .ok (.if_icmp .ge 23, 3) := by decide +kernel
theorem dX8_isOther_61 : decode cX8_isOther 61 = .ok (.aload_n 0, 1) := by decide +kernel
theorem dX8_isOther_62 : decode cX8_isOther 62 = .ok (.getfield 19, 3) := by decide +kernel
theorem dX8_isOther_65 : decode cX8_isOther 65 = .ok (.iconst 3, 1) := by decide +kernel
theorem dX8_isOther_66 : decode cX8_isOther 66 = .ok (.iload_n 2, 1) := by decide +kernel
theorem dX8_isOther_67 : decode cX8_isOther 67 = .ok (.iadd, 1) := by decide +kernel
theorem dX8_isOther_68 : decode cX8_isOther 68 = .ok (.aload_n 0, 1) := by decide +kernel
theorem dX8_isOther_69 : decode cX8_isOther 69 = .ok (.getfield 48, 3) := by decide +kernel
theorem dX8_isOther_72 : decode cX8_isOther 72 = .ok (.iload_n 2, 1) := by decide +kernel
theorem dX8_isOther_73 : decode cX8_isOther 73 = .ok (.iaload, 1) := by decide +kernel
theorem dX8_isOther_74 : decode cX8_isOther 74 = .ok (.iastore, 1) := by decide +kernel
theorem dX8_isOther_75 : decode cX8_isOther 75 = .ok (.iinc 2 1, 3) := by decide +kernel
theorem dX8_isOther_78 : decode cX8_isOther 78 = .ok (.goto (-23), 3) := by decide +kernel
theorem dX8_isOther_81 : decode cX8_isOther 81 = .ok (.iconst 1, 1) := by decide +kernel
theorem dX8_isOther_82 : decode cX8_isOther 82 = .ok (.ireturn, 1) := by decide +kernel
def fX8_isOther_55_b (o_undos : Int32) (o_next_r : Nat → Int32) (o_undone_r : Nat → Int32) (v2 : Int32) (o_all_r : Nat → Int32) : Option ((Int32 × (Nat → Int32)) ⊕ (Int32 × Int32 × (Nat → Int32) × (Nat → Int32))) :=
  if (64 : Int32) ≤ v2 then some (.inr ((1 : Int32), o_undos, o_all_r, o_undone_r)) else if ds_in v2 64 = true then if ds_in ((3 : Int32) + v2) 350 = true then some (.inl ((v2 + 1), (upd o_all_r (((3 : Int32) + v2).toNatClampNeg) (o_next_r v2.toNatClampNeg)))) else none else none
def fX8_isOther_55 (o_undos : Int32) (o_next_r : Nat → Int32) (o_undone_r : Nat → Int32) (v2 : Int32) (o_all_r : Nat → Int32) : Option (Int32 × Int32 × (Nat → Int32) × (Nat → Int32)) := ds_it (fun s => fX8_isOther_55_b o_undos o_next_r o_undone_r s.1 s.2) 1000 (v2, o_all_r)
def fX8_isOther_43 (o_undos : Int32) (o_next_r : Nat → Int32) (o_all_r : Nat → Int32) (o_undone_r : Nat → Int32) (v1 : Int32) : Option (Int32 × Int32 × (Nat → Int32) × (Nat → Int32)) :=
  if v1 = 0 then some ((0 : Int32), o_undos, o_all_r, o_undone_r) else Option.bind (fX8_keeps o_undos o_undone_r o_all_r) fun q50 => fX8_isOther_55 q50.1 o_next_r q50.2 (0 : Int32) o_all_r
def fX8_isOther_36 (v2 : Int32) (s0 : Int32) : Option ((Int32 × Int32) ⊕ (Int32 × Int32 × (Nat → Int32) × (Nat → Int32))) :=
  some (.inl (s0, (v2 + 1)))
def fX8_isOther_31 (v2 : Int32) : Option ((Int32 × Int32) ⊕ (Int32 × Int32 × (Nat → Int32) × (Nat → Int32))) :=
  fX8_isOther_36 v2 (1 : Int32)
def fX8_isOther_4_b (o_undos : Int32) (o_next_r : Nat → Int32) (o_all_r : Nat → Int32) (o_undone_r : Nat → Int32) (v1 : Int32) (v2 : Int32) : Option ((Int32 × Int32) ⊕ (Int32 × Int32 × (Nat → Int32) × (Nat → Int32))) :=
  if (64 : Int32) ≤ v2 then Option.bind (fX8_isOther_43 o_undos o_next_r o_all_r o_undone_r v1) fun z => some (.inr z) else if v1 = 0 then if ds_in v2 64 = true then if ds_in ((3 : Int32) + v2) 350 = true then if (o_next_r v2.toNatClampNeg) = (o_all_r ((3 : Int32) + v2).toNatClampNeg) then fX8_isOther_36 v2 (0 : Int32) else fX8_isOther_31 v2 else none else none else fX8_isOther_31 v2
def fX8_isOther_4 (o_undos : Int32) (o_next_r : Nat → Int32) (o_all_r : Nat → Int32) (o_undone_r : Nat → Int32) (v1 : Int32) (v2 : Int32) : Option (Int32 × Int32 × (Nat → Int32) × (Nat → Int32)) := ds_it (fun s => fX8_isOther_4_b o_undos o_next_r o_all_r o_undone_r s.1 s.2) 1000 (v1, v2)
def fX8_isOther (o_undos : Int32) (o_next_r : Nat → Int32) (o_all_r : Nat → Int32) (o_undone_r : Nat → Int32) : Option (Int32 × Int32 × (Nat → Int32) × (Nat → Int32)) :=
  fX8_isOther_4 o_undos o_next_r o_all_r o_undone_r (0 : Int32) (0 : Int32)
set_option maxHeartbeats 4000000 in
set_option maxRecDepth 100000 in
theorem c_X8_isOther (l : Launch) (dC : Nat → ClassId) (dI : Nat → Nat → Nat) (ca : Nat → ClassId) (sa : Nat → Nat) (h_o : Nat) (h_o_plans : Nat) (h_o_makers : Nat) (h_o_halves : Nat) (h_o_all : Nat) (h_o_text : Nat) (h_o_saved : Nat) (h_o_undone : Nat) (h_o_told : Nat) (h_o_shift : Nat) (h_o_rootOf : Nat) (h_o_becomes : Nat) (h_o_comes : Nat) (h_o_next : Nat) (sz : Nat) (o_raised : Int32) (o_undos : Int32) (o_reached : Int32) (o_length : Int32) (o_begin : Int32) (o_letters : Int32) (o_sort : Int32) (o_word : Int64) (o_wrongAt : Int32) (o_badAt : Int32) (o_bad : Int32) (o_firstX : Int32) (o_firstY : Int32) (o_secondX : Int32) (o_secondY : Int32) (o_x : Int32) (o_next_r : Nat → Int32) (o_all_r : Nat → Int32) (o_undone_r : Nat → Int32) (res : Int32 × Int32 × (Nat → Int32) × (Nat → Int32)) (hf : fX8_isOther o_undos o_next_r o_all_r o_undone_r = some res) : Met l yX8_isOther (Cond.code yX8_isOther cX8_isOther 3 (some .boolean) :: ds_gw) { frames := 1, cells := 0, slots := 0, locals := 21 } (va_Pc [.ref h_o] (ds_Pre dC dI ca sa [(h_o, .inr (7, [.ref h_o_plans, .ref h_o_makers, .ref h_o_halves, .int o_raised, .ref h_o_all, .ref h_o_text, .ref h_o_saved, .ref h_o_undone, .int o_undos, .int o_reached, .int o_length, .int o_begin, .int o_letters, .int o_sort, .long o_word, .int o_wrongAt, .int o_badAt, .int o_bad, .ref h_o_told, .ref h_o_shift, .int o_firstX, .int o_firstY, .int o_secondX, .int o_secondY, .ref h_o_rootOf, .ref h_o_becomes, .ref h_o_comes, .ref h_o_next, .int o_x])), (h_o_next, .inl (ca 0, 64, .inl o_next_r)), (h_o_all, .inl (ca 0, 350, .inl o_all_r)), (h_o_undone, .inl (ca 0, 536, .inl o_undone_r))] sz)) (va_Qi (fun r (_ : Unit) => r = res.1) (ds_B dC dI (va_A [(h_o, .inr (7, [.ref h_o_plans, .ref h_o_makers, .ref h_o_halves, .int o_raised, .ref h_o_all, .ref h_o_text, .ref h_o_saved, .ref h_o_undone, .int o_undos, .int o_reached, .int o_length, .int o_begin, .int o_letters, .int o_sort, .long o_word, .int o_wrongAt, .int o_badAt, .int o_bad, .ref h_o_told, .ref h_o_shift, .int o_firstX, .int o_firstY, .int o_secondX, .int o_secondY, .ref h_o_rootOf, .ref h_o_becomes, .ref h_o_comes, .ref h_o_next, .int o_x])), (h_o_next, .inl (ca 0, 64, .inl o_next_r)), (h_o_all, .inl (ca 0, 350, .inl o_all_r)), (h_o_undone, .inl (ca 0, 536, .inl o_undone_r))] sz) [(h_o, .inr (7, [.ref h_o_plans, .ref h_o_makers, .ref h_o_halves, .int o_raised, .ref h_o_all, .ref h_o_text, .ref h_o_saved, .ref h_o_undone, .int res.2.1, .int o_reached, .int o_length, .int o_begin, .int o_letters, .int o_sort, .long o_word, .int o_wrongAt, .int o_badAt, .int o_bad, .ref h_o_told, .ref h_o_shift, .int o_firstX, .int o_firstY, .int o_secondX, .int o_secondY, .ref h_o_rootOf, .ref h_o_becomes, .ref h_o_comes, .ref h_o_next, .int o_x])), (h_o_next, .inl (ca 0, 64, .inl o_next_r)), (h_o_all, .inl (ca 0, 350, .inl res.2.2.1)), (h_o_undone, .inl (ca 0, 536, .inl res.2.2.2))]) (va_A [(h_o, .inr (7, [.ref h_o_plans, .ref h_o_makers, .ref h_o_halves, .int o_raised, .ref h_o_all, .ref h_o_text, .ref h_o_saved, .ref h_o_undone, .int o_undos, .int o_reached, .int o_length, .int o_begin, .int o_letters, .int o_sort, .long o_word, .int o_wrongAt, .int o_badAt, .int o_bad, .ref h_o_told, .ref h_o_shift, .int o_firstX, .int o_firstY, .int o_secondX, .int o_secondY, .ref h_o_rootOf, .ref h_o_becomes, .ref h_o_comes, .ref h_o_next, .int o_x])), (h_o_next, .inl (ca 0, 64, .inl o_next_r)), (h_o_all, .inl (ca 0, 350, .inl o_all_r)), (h_o_undone, .inl (ca 0, 536, .inl o_undone_r))] sz)) 0 0 (va_A [(h_o, .inr (7, [.ref h_o_plans, .ref h_o_makers, .ref h_o_halves, .int o_raised, .ref h_o_all, .ref h_o_text, .ref h_o_saved, .ref h_o_undone, .int o_undos, .int o_reached, .int o_length, .int o_begin, .int o_letters, .int o_sort, .long o_word, .int o_wrongAt, .int o_badAt, .int o_bad, .ref h_o_told, .ref h_o_shift, .int o_firstX, .int o_firstY, .int o_secondX, .int o_secondY, .ref h_o_rootOf, .ref h_o_becomes, .ref h_o_comes, .ref h_o_next, .int o_x])), (h_o_next, .inl (ca 0, 64, .inl o_next_r)), (h_o_all, .inl (ca 0, 350, .inl o_all_r)), (h_o_undone, .inl (ca 0, 536, .inl o_undone_r))] sz) := by
  refine Met.ofW (cc := cX8_isOther) (maxL := 3) (ret := (some .boolean)) (by decide) rfl ?_
  intro p e s m args below meth c s₁ B hml hv
  obtain ⟨rfl, hsz, hP, hK, hD0, hE⟩ := hv
  have hx := B.exec
  have hb := B.bytes
  have hr := B.returns
  have hts := atoms_spec (ws := Cond.code yX8_isOther cX8_isOther 3 (some .boolean) :: ds_gw) B.pre
  have hg : ∀ {w : Cond}, w ∈ ds_gw → w.before _ s = true := fun h => hts _ (List.mem_cons_of_mem _ h)
  have hown : s.vm.findClass RX8 = some m.cls := findClass_of_methodNamed B.named
  have hlocks := B.notSynchronized
  subst hsz
  have hD := hD0.self (sz := s.heap.size)
  generalize hAe : va_A [(h_o, .inr (7, [.ref h_o_plans, .ref h_o_makers, .ref h_o_halves, .int o_raised, .ref h_o_all, .ref h_o_text, .ref h_o_saved, .ref h_o_undone, .int o_undos, .int o_reached, .int o_length, .int o_begin, .int o_letters, .int o_sort, .long o_word, .int o_wrongAt, .int o_badAt, .int o_bad, .ref h_o_told, .ref h_o_shift, .int o_firstX, .int o_firstY, .int o_secondX, .int o_secondY, .ref h_o_rootOf, .ref h_o_becomes, .ref h_o_comes, .ref h_o_next, .int o_x])), (h_o_next, .inl (ca 0, 64, .inl o_next_r)), (h_o_all, .inl (ca 0, 350, .inl o_all_r)), (h_o_undone, .inl (ca 0, 536, .inl o_undone_r))] s.heap.size = A at hD hE ⊢
  have hA : ∀ q : Nat, s.heap.size ≤ q → A q := fun q h => by rw [← hAe]; exact Or.inr h
  have hS : va_S A s.heap s.heap [] := va_S.rf
  have hl := lv_entry ([.ref h_o]) (n := 3) (Nat.le_of_ble_eq_true rfl)
  rw [lg_entry_eq]
  generalize (lg_sl ([.ref h_o]) ++ List.replicate (3 - (lg_sl ([.ref h_o])).length) Slot.unset).toArray = ls at hl ⊢
  have hl : lv_has ls 3 [(0, .ref h_o)] := hl
  obtain ⟨G0, eG0⟩ : ∃ G : (Int32 × Int32 × (Nat → Int32) × (Nat → Int32)) → Prop, G = (fun r => r = res) := ⟨_, rfl⟩
  obtain ⟨rr, hrr⟩ : ∃ z, z = res := ⟨_, rfl⟩
  rw [← hrr] at hf
  have hG : G0 rr := by subst eG0; exact hrr
  refine ds_cap (fun WW h1 h2 => ?_)
  have J_55 : ∀ (o_undos : Int32) (o_undone_r : Nat → Int32) (n : Nat) (v2 : Int32) (o_all_r : Nat → Int32) (rr : Int32 × Int32 × (Nat → Int32) × (Nat → Int32)) (hf : ds_it (fun s => fX8_isOther_55_b o_undos o_next_r o_undone_r s.1 s.2) n (v2, o_all_r) = some rr) (hG : G0 rr) (H : Heap) (locs : List Loc) (hP : va_P (dC, dI) vwCl [(h_o, .inr (7, [.ref h_o_plans, .ref h_o_makers, .ref h_o_halves, .int o_raised, .ref h_o_all, .ref h_o_text, .ref h_o_saved, .ref h_o_undone, .int o_undos, .int o_reached, .int o_length, .int o_begin, .int o_letters, .int o_sort, .long o_word, .int o_wrongAt, .int o_badAt, .int o_bad, .ref h_o_told, .ref h_o_shift, .int o_firstX, .int o_firstY, .int o_secondX, .int o_secondY, .ref h_o_rootOf, .ref h_o_becomes, .ref h_o_comes, .ref h_o_next, .int o_x])), (h_o_next, .inl (ca 0, 64, .inl o_next_r)), (h_o_all, .inl (ca 0, 350, .inl o_all_r)), (h_o_undone, .inl (ca 0, 536, .inl o_undone_r))] H) (hD : va_D A [(h_o, .inr (7, [.ref h_o_plans, .ref h_o_makers, .ref h_o_halves, .int o_raised, .ref h_o_all, .ref h_o_text, .ref h_o_saved, .ref h_o_undone, .int o_undos, .int o_reached, .int o_length, .int o_begin, .int o_letters, .int o_sort, .long o_word, .int o_wrongAt, .int o_badAt, .int o_bad, .ref h_o_told, .ref h_o_shift, .int o_firstX, .int o_firstY, .int o_secondX, .int o_secondY, .ref h_o_rootOf, .ref h_o_becomes, .ref h_o_comes, .ref h_o_next, .int o_x])), (h_o_next, .inl (ca 0, 64, .inl o_next_r)), (h_o_all, .inl (ca 0, 350, .inl o_all_r)), (h_o_undone, .inl (ca 0, 536, .inl o_undone_r))]) (hS : va_S A s.heap H locs) (ls : Array Slot) (hl : lv_has ls 3 [(0, .ref h_o), (2, .int v2)]), WW H locs (F0 m 55 ls []) := by
    intro o_undos o_undone_r n
    induction n with
    | zero => intro v2 o_all_r rr hf; exact (ds_it_zero hf).elim
    | succ n ih55 =>
      intro v2 o_all_r rr hf hG H locs hP hD hS ls hl
      refine h2 ?_
      obtain ⟨rr, hf, hG⟩ := ds_it_succ hf hG
      replace hf : fX8_isOther_55_b o_undos o_next_r o_undone_r v2 o_all_r = some rr := hf
      obtain ⟨G1, eG1⟩ : ∃ G : ((Int32 × (Nat → Int32)) ⊕ (Int32 × Int32 × (Nat → Int32) × (Nat → Int32))) → Prop, G = ds_G (fun s' => ∃ r', ds_it (fun s => fX8_isOther_55_b o_undos o_next_r o_undone_r s.1 s.2) n s' = some r' ∧ G0 r') G0 := ⟨_, rfl⟩
      rw [← eG1] at hG
      unfold fX8_isOther_55_b at hf
      refine lv_iload_n hx hb dX8_isOther_55 rfl (lv_at hl 1 rfl) ?_
      refine lv_bipush (v := 64) hx hb dX8_isOther_56 (by decide) ?_
      refine lv_icmp_ge (tgt := 81) hx hb dX8_isOther_58 (by decide) (fun c_58 => ?_) (fun c_58 => ?_)
      · replace hf := ds_t c_58 hf
        refine lv_iconst (v := 1) hx hb dX8_isOther_81 (by decide) ?_
        have hf := Option.some.inj hf
        subst hf
        rw [eG1] at hG
        replace hG : G0 _ := hG
        rw [eG0] at hG
        have hG : _ = res := hG
        subst hG
        exact W.zret (v := (1 : Int32)) (ty := .boolean) hx hb hr rfl (fun t ht hW => ⟨⟨(1 : Int32), (), rfl, rfl, by rw [ht]; exact hP, hD⟩, hS.F ht⟩) hS.2.2 dX8_isOther_82
      · replace hf := ds_f c_58 hf
        refine lv_aload_n hx hb dX8_isOther_61 rfl (lv_at hl 0 rfl) ?_
        refine va_get (D := (dC, dI)) (ci := 7) (v := .ref h_o_all) (C := RX8) (T := TX8) (N := 29) hx hb hts (fun w h => List.mem_cons_of_mem _ (kc_X8 w h)) hown hK hP 0 rfl rfl 4 (by decide) (hg kw_594) (fun _ h9 => h9) rfl dX8_isOther_62 ?_
        refine lv_iconst (v := 3) hx hb dX8_isOther_65 (by decide) ?_
        refine lv_iload_n hx hb dX8_isOther_66 rfl (lv_at hl 1 rfl) ?_
        refine lv_iadd hx hb dX8_isOther_67 ?_
        refine lv_aload_n hx hb dX8_isOther_68 rfl (lv_at hl 0 rfl) ?_
        refine va_get (D := (dC, dI)) (ci := 7) (v := .ref h_o_next) (C := RX8) (T := TX8) (N := 29) hx hb hts (fun w h => List.mem_cons_of_mem _ (kc_X8 w h)) hown hK hP 0 rfl rfl 27 (by decide) (hg kw_853) (fun _ h9 => h9) rfl dX8_isOther_69 ?_
        refine lv_iload_n hx hb dX8_isOther_72 rfl (lv_at hl 1 rfl) ?_
        obtain ⟨i_73, hf⟩ := ds_ci hf
        refine va_iald hx hb hK hP 1 0 rfl rfl i_73 dX8_isOther_73 ?_
        obtain ⟨i_74, hf⟩ := ds_ci hf
        refine va_iast hx hb hK hP hD hS 2 0 rfl rfl i_74 dX8_isOther_74 (fun H locs hP hD hS => ?_)
        have hP : va_P (dC, dI) vwCl [(h_o, .inr (7, [.ref h_o_plans, .ref h_o_makers, .ref h_o_halves, .int o_raised, .ref h_o_all, .ref h_o_text, .ref h_o_saved, .ref h_o_undone, .int o_undos, .int o_reached, .int o_length, .int o_begin, .int o_letters, .int o_sort, .long o_word, .int o_wrongAt, .int o_badAt, .int o_bad, .ref h_o_told, .ref h_o_shift, .int o_firstX, .int o_firstY, .int o_secondX, .int o_secondY, .ref h_o_rootOf, .ref h_o_becomes, .ref h_o_comes, .ref h_o_next, .int o_x])), (h_o_next, .inl (ca 0, 64, .inl o_next_r)), (h_o_all, .inl (ca 0, 350, .inl (upd o_all_r (((3 : Int32) + v2).toNatClampNeg) (o_next_r v2.toNatClampNeg)))), (h_o_undone, .inl (ca 0, 536, .inl o_undone_r))] H := hP
        have hD : va_D A [(h_o, .inr (7, [.ref h_o_plans, .ref h_o_makers, .ref h_o_halves, .int o_raised, .ref h_o_all, .ref h_o_text, .ref h_o_saved, .ref h_o_undone, .int o_undos, .int o_reached, .int o_length, .int o_begin, .int o_letters, .int o_sort, .long o_word, .int o_wrongAt, .int o_badAt, .int o_bad, .ref h_o_told, .ref h_o_shift, .int o_firstX, .int o_firstY, .int o_secondX, .int o_secondY, .ref h_o_rootOf, .ref h_o_becomes, .ref h_o_comes, .ref h_o_next, .int o_x])), (h_o_next, .inl (ca 0, 64, .inl o_next_r)), (h_o_all, .inl (ca 0, 350, .inl (upd o_all_r (((3 : Int32) + v2).toNatClampNeg) (o_next_r v2.toNatClampNeg)))), (h_o_undone, .inl (ca 0, 536, .inl o_undone_r))] := hD
        refine lv_iinc (v := (v2 + 1)) (lv' := [(2, .int (v2 + 1)), (0, .ref h_o)]) hx hb dX8_isOther_75 hl (k := 1) rfl rfl (by decide) rfl (fun ls hl => ?_)
        refine lv_goto (tgt := 55) hx hb dX8_isOther_78 (by decide) ?_
        have hf := Option.some.inj hf
        subst hf
        rw [eG1] at hG
        obtain ⟨rr, hf, hG⟩ := hG
        exact h1 (ih55 (v2 + 1) (upd o_all_r (((3 : Int32) + v2).toNatClampNeg) (o_next_r v2.toNatClampNeg)) rr hf hG _ _ hP hD hS _ (lv_sub hl [1, 0] rfl))
  have J_43 : ∀ (v1 : Int32) (o_undos : Int32) (o_all_r : Nat → Int32) (o_undone_r : Nat → Int32) (rr : Int32 × Int32 × (Nat → Int32) × (Nat → Int32)) (hf : fX8_isOther_43 o_undos o_next_r o_all_r o_undone_r v1 = some rr) (hG : G0 rr) (H : Heap) (locs : List Loc) (hP : va_P (dC, dI) vwCl [(h_o, .inr (7, [.ref h_o_plans, .ref h_o_makers, .ref h_o_halves, .int o_raised, .ref h_o_all, .ref h_o_text, .ref h_o_saved, .ref h_o_undone, .int o_undos, .int o_reached, .int o_length, .int o_begin, .int o_letters, .int o_sort, .long o_word, .int o_wrongAt, .int o_badAt, .int o_bad, .ref h_o_told, .ref h_o_shift, .int o_firstX, .int o_firstY, .int o_secondX, .int o_secondY, .ref h_o_rootOf, .ref h_o_becomes, .ref h_o_comes, .ref h_o_next, .int o_x])), (h_o_next, .inl (ca 0, 64, .inl o_next_r)), (h_o_all, .inl (ca 0, 350, .inl o_all_r)), (h_o_undone, .inl (ca 0, 536, .inl o_undone_r))] H) (hD : va_D A [(h_o, .inr (7, [.ref h_o_plans, .ref h_o_makers, .ref h_o_halves, .int o_raised, .ref h_o_all, .ref h_o_text, .ref h_o_saved, .ref h_o_undone, .int o_undos, .int o_reached, .int o_length, .int o_begin, .int o_letters, .int o_sort, .long o_word, .int o_wrongAt, .int o_badAt, .int o_bad, .ref h_o_told, .ref h_o_shift, .int o_firstX, .int o_firstY, .int o_secondX, .int o_secondY, .ref h_o_rootOf, .ref h_o_becomes, .ref h_o_comes, .ref h_o_next, .int o_x])), (h_o_next, .inl (ca 0, 64, .inl o_next_r)), (h_o_all, .inl (ca 0, 350, .inl o_all_r)), (h_o_undone, .inl (ca 0, 536, .inl o_undone_r))]) (hS : va_S A s.heap H locs) (ls : Array Slot) (hl : lv_has ls 3 [(0, .ref h_o), (1, .int v1)]), WW H locs (F0 m 43 ls []) := by
    intro v1 o_undos o_all_r o_undone_r rr hf hG H locs hP hD hS ls hl
    refine h2 ?_
    unfold fX8_isOther_43 at hf
    refine lv_iload_n hx hb dX8_isOther_43 rfl (lv_at hl 1 rfl) ?_
    refine lv_if_ne (tgt := 49) hx hb dX8_isOther_44 (by decide) (fun c_44 => ?_) (fun c_44 => ?_)
    · replace hf := ds_f c_44 hf
      refine lv_aload_n hx hb dX8_isOther_49 rfl (lv_at hl 0 rfl) ?_
      obtain ⟨q50, hq50, hf⟩ := ds_ob hf
      refine ds_callv (wr := [(h_o_next, .inl (ca 0, 64, .inl o_next_r))]) (va_runV (As := []) (rest := []) ⟨hx, hb, hml, hown, hts⟩ (c_X8_keeps l dC dI ca sa h_o h_o_plans h_o_makers h_o_halves h_o_all h_o_text h_o_saved h_o_undone h_o_told h_o_shift h_o_rootOf h_o_becomes h_o_comes h_o_next H.size o_raised o_undos o_reached o_length o_begin o_letters o_sort o_word o_wrongAt o_badAt o_bad o_firstX o_firstY o_secondX o_secondY o_x o_undone_r o_all_r  q50 hq50) (cwV 0 hts (ds_gV kw_849 kw_850 kw_851 kw_597 kw_852) rfl rfl rfl (by decide +kernel) ⟨Nat.le_of_ble_eq_true rfl, Nat.le_of_ble_eq_true rfl⟩) ⟨ds_blind, va_recv hK hP (ci := 7) (q0 := 0) rfl rfl, ds_at hP hD hK hE hS hA [0, 3, 2] rfl rfl _⟩ rfl rfl hl.1 rfl (lv_room (Nat.le_of_ble_eq_true rfl)) dX8_isOther_50 ⟨Nat.zero_le _, Nat.zero_le _⟩) hP hD hS hA [0, 3, 2] [1] rfl rfl rfl (by decide) (fun H locs hP hD hS => ?_)
      have hP : va_P (dC, dI) vwCl [(h_o_next, .inl (ca 0, 64, .inl o_next_r)), (h_o, .inr (7, [.ref h_o_plans, .ref h_o_makers, .ref h_o_halves, .int o_raised, .ref h_o_all, .ref h_o_text, .ref h_o_saved, .ref h_o_undone, .int q50.1, .int o_reached, .int o_length, .int o_begin, .int o_letters, .int o_sort, .long o_word, .int o_wrongAt, .int o_badAt, .int o_bad, .ref h_o_told, .ref h_o_shift, .int o_firstX, .int o_firstY, .int o_secondX, .int o_secondY, .ref h_o_rootOf, .ref h_o_becomes, .ref h_o_comes, .ref h_o_next, .int o_x])), (h_o_undone, .inl (ca 0, 536, .inl q50.2)), (h_o_all, .inl (ca 0, 350, .inl o_all_r))] H := hP
      have hD : va_D A [(h_o_next, .inl (ca 0, 64, .inl o_next_r)), (h_o, .inr (7, [.ref h_o_plans, .ref h_o_makers, .ref h_o_halves, .int o_raised, .ref h_o_all, .ref h_o_text, .ref h_o_saved, .ref h_o_undone, .int q50.1, .int o_reached, .int o_length, .int o_begin, .int o_letters, .int o_sort, .long o_word, .int o_wrongAt, .int o_badAt, .int o_bad, .ref h_o_told, .ref h_o_shift, .int o_firstX, .int o_firstY, .int o_secondX, .int o_secondY, .ref h_o_rootOf, .ref h_o_becomes, .ref h_o_comes, .ref h_o_next, .int o_x])), (h_o_undone, .inl (ca 0, 536, .inl q50.2)), (h_o_all, .inl (ca 0, 350, .inl o_all_r))] := hD
      refine lv_iconst (v := 0) hx hb dX8_isOther_53 (by decide) ?_
      refine lv_istore_n (lv' := [(2, .int (0 : Int32)), (0, .ref h_o), (1, .int v1)]) hx hb dX8_isOther_54 rfl hl (by decide) rfl (fun ls hl => ?_)
      exact h1 (J_55 q50.1 q50.2 1000 (0 : Int32) o_all_r _ hf hG _ _ (hP.sub [1, 0, 3, 2] rfl) (hD.sub [1, 0, 3, 2] rfl rfl) hS _ (lv_sub hl [1, 0] rfl))
    · replace hf := ds_t c_44 hf
      refine lv_iconst (v := 0) hx hb dX8_isOther_47 (by decide) ?_
      have hf := Option.some.inj hf
      subst hf
      rw [eG0] at hG
      have hG : _ = res := hG
      subst hG
      exact W.zret (v := (0 : Int32)) (ty := .boolean) hx hb hr rfl (fun t ht hW => ⟨⟨(0 : Int32), (), rfl, rfl, by rw [ht]; exact hP, hD⟩, hS.F ht⟩) hS.2.2 dX8_isOther_48
  have J_4 : ∀ (o_undos : Int32) (o_all_r : Nat → Int32) (o_undone_r : Nat → Int32) (n : Nat) (v1 : Int32) (v2 : Int32) (rr : Int32 × Int32 × (Nat → Int32) × (Nat → Int32)) (hf : ds_it (fun s => fX8_isOther_4_b o_undos o_next_r o_all_r o_undone_r s.1 s.2) n (v1, v2) = some rr) (hG : G0 rr) (H : Heap) (locs : List Loc) (hP : va_P (dC, dI) vwCl [(h_o, .inr (7, [.ref h_o_plans, .ref h_o_makers, .ref h_o_halves, .int o_raised, .ref h_o_all, .ref h_o_text, .ref h_o_saved, .ref h_o_undone, .int o_undos, .int o_reached, .int o_length, .int o_begin, .int o_letters, .int o_sort, .long o_word, .int o_wrongAt, .int o_badAt, .int o_bad, .ref h_o_told, .ref h_o_shift, .int o_firstX, .int o_firstY, .int o_secondX, .int o_secondY, .ref h_o_rootOf, .ref h_o_becomes, .ref h_o_comes, .ref h_o_next, .int o_x])), (h_o_next, .inl (ca 0, 64, .inl o_next_r)), (h_o_all, .inl (ca 0, 350, .inl o_all_r)), (h_o_undone, .inl (ca 0, 536, .inl o_undone_r))] H) (hD : va_D A [(h_o, .inr (7, [.ref h_o_plans, .ref h_o_makers, .ref h_o_halves, .int o_raised, .ref h_o_all, .ref h_o_text, .ref h_o_saved, .ref h_o_undone, .int o_undos, .int o_reached, .int o_length, .int o_begin, .int o_letters, .int o_sort, .long o_word, .int o_wrongAt, .int o_badAt, .int o_bad, .ref h_o_told, .ref h_o_shift, .int o_firstX, .int o_firstY, .int o_secondX, .int o_secondY, .ref h_o_rootOf, .ref h_o_becomes, .ref h_o_comes, .ref h_o_next, .int o_x])), (h_o_next, .inl (ca 0, 64, .inl o_next_r)), (h_o_all, .inl (ca 0, 350, .inl o_all_r)), (h_o_undone, .inl (ca 0, 536, .inl o_undone_r))]) (hS : va_S A s.heap H locs) (ls : Array Slot) (hl : lv_has ls 3 [(0, .ref h_o), (1, .int v1), (2, .int v2)]), WW H locs (F0 m 4 ls []) := by
    intro o_undos o_all_r o_undone_r n
    induction n with
    | zero => intro v1 v2 rr hf; exact (ds_it_zero hf).elim
    | succ n ih4 =>
      intro v1 v2 rr hf hG H locs hP hD hS ls hl
      refine h2 ?_
      obtain ⟨rr, hf, hG⟩ := ds_it_succ hf hG
      replace hf : fX8_isOther_4_b o_undos o_next_r o_all_r o_undone_r v1 v2 = some rr := hf
      obtain ⟨G1, eG1⟩ : ∃ G : ((Int32 × Int32) ⊕ (Int32 × Int32 × (Nat → Int32) × (Nat → Int32))) → Prop, G = ds_G (fun s' => ∃ r', ds_it (fun s => fX8_isOther_4_b o_undos o_next_r o_all_r o_undone_r s.1 s.2) n s' = some r' ∧ G0 r') G0 := ⟨_, rfl⟩
      rw [← eG1] at hG
      have J_36 : ∀ (v2 : Int32) (s0 : Int32) (rr : (Int32 × Int32) ⊕ (Int32 × Int32 × (Nat → Int32) × (Nat → Int32))) (hf : fX8_isOther_36 v2 s0 = some rr) (hG : G1 rr) (H : Heap) (locs : List Loc) (hP : va_P (dC, dI) vwCl [(h_o, .inr (7, [.ref h_o_plans, .ref h_o_makers, .ref h_o_halves, .int o_raised, .ref h_o_all, .ref h_o_text, .ref h_o_saved, .ref h_o_undone, .int o_undos, .int o_reached, .int o_length, .int o_begin, .int o_letters, .int o_sort, .long o_word, .int o_wrongAt, .int o_badAt, .int o_bad, .ref h_o_told, .ref h_o_shift, .int o_firstX, .int o_firstY, .int o_secondX, .int o_secondY, .ref h_o_rootOf, .ref h_o_becomes, .ref h_o_comes, .ref h_o_next, .int o_x])), (h_o_next, .inl (ca 0, 64, .inl o_next_r)), (h_o_all, .inl (ca 0, 350, .inl o_all_r)), (h_o_undone, .inl (ca 0, 536, .inl o_undone_r))] H) (hD : va_D A [(h_o, .inr (7, [.ref h_o_plans, .ref h_o_makers, .ref h_o_halves, .int o_raised, .ref h_o_all, .ref h_o_text, .ref h_o_saved, .ref h_o_undone, .int o_undos, .int o_reached, .int o_length, .int o_begin, .int o_letters, .int o_sort, .long o_word, .int o_wrongAt, .int o_badAt, .int o_bad, .ref h_o_told, .ref h_o_shift, .int o_firstX, .int o_firstY, .int o_secondX, .int o_secondY, .ref h_o_rootOf, .ref h_o_becomes, .ref h_o_comes, .ref h_o_next, .int o_x])), (h_o_next, .inl (ca 0, 64, .inl o_next_r)), (h_o_all, .inl (ca 0, 350, .inl o_all_r)), (h_o_undone, .inl (ca 0, 536, .inl o_undone_r))]) (hS : va_S A s.heap H locs) (ls : Array Slot) (hl : lv_has ls 3 [(0, .ref h_o), (2, .int v2)]), WW H locs (F0 m 36 ls [.int s0]) := by
        intro v2 s0 rr hf hG H locs hP hD hS ls hl
        refine h2 ?_
        unfold fX8_isOther_36 at hf
        refine lv_istore_n (lv' := [(1, .int s0), (0, .ref h_o), (2, .int v2)]) hx hb dX8_isOther_36 rfl hl (by decide) rfl (fun ls hl => ?_)
        refine lv_iinc (v := (v2 + 1)) (lv' := [(2, .int (v2 + 1)), (1, .int s0), (0, .ref h_o)]) hx hb dX8_isOther_37 hl (k := 2) rfl rfl (by decide) rfl (fun ls hl => ?_)
        refine lv_goto (tgt := 4) hx hb dX8_isOther_40 (by decide) ?_
        have hf := Option.some.inj hf
        subst hf
        rw [eG1] at hG
        obtain ⟨rr, hf, hG⟩ := hG
        exact h1 (ih4 s0 (v2 + 1) rr hf hG _ _ hP hD hS _ (lv_sub hl [2, 1, 0] rfl))
      have J_31 : ∀ (v2 : Int32) (rr : (Int32 × Int32) ⊕ (Int32 × Int32 × (Nat → Int32) × (Nat → Int32))) (hf : fX8_isOther_31 v2 = some rr) (hG : G1 rr) (H : Heap) (locs : List Loc) (hP : va_P (dC, dI) vwCl [(h_o, .inr (7, [.ref h_o_plans, .ref h_o_makers, .ref h_o_halves, .int o_raised, .ref h_o_all, .ref h_o_text, .ref h_o_saved, .ref h_o_undone, .int o_undos, .int o_reached, .int o_length, .int o_begin, .int o_letters, .int o_sort, .long o_word, .int o_wrongAt, .int o_badAt, .int o_bad, .ref h_o_told, .ref h_o_shift, .int o_firstX, .int o_firstY, .int o_secondX, .int o_secondY, .ref h_o_rootOf, .ref h_o_becomes, .ref h_o_comes, .ref h_o_next, .int o_x])), (h_o_next, .inl (ca 0, 64, .inl o_next_r)), (h_o_all, .inl (ca 0, 350, .inl o_all_r)), (h_o_undone, .inl (ca 0, 536, .inl o_undone_r))] H) (hD : va_D A [(h_o, .inr (7, [.ref h_o_plans, .ref h_o_makers, .ref h_o_halves, .int o_raised, .ref h_o_all, .ref h_o_text, .ref h_o_saved, .ref h_o_undone, .int o_undos, .int o_reached, .int o_length, .int o_begin, .int o_letters, .int o_sort, .long o_word, .int o_wrongAt, .int o_badAt, .int o_bad, .ref h_o_told, .ref h_o_shift, .int o_firstX, .int o_firstY, .int o_secondX, .int o_secondY, .ref h_o_rootOf, .ref h_o_becomes, .ref h_o_comes, .ref h_o_next, .int o_x])), (h_o_next, .inl (ca 0, 64, .inl o_next_r)), (h_o_all, .inl (ca 0, 350, .inl o_all_r)), (h_o_undone, .inl (ca 0, 536, .inl o_undone_r))]) (hS : va_S A s.heap H locs) (ls : Array Slot) (hl : lv_has ls 3 [(0, .ref h_o), (2, .int v2)]), WW H locs (F0 m 31 ls []) := by
        intro v2 rr hf hG H locs hP hD hS ls hl
        refine h2 ?_
        unfold fX8_isOther_31 at hf
        refine lv_iconst (v := 1) hx hb dX8_isOther_31 (by decide) ?_
        refine lv_goto (tgt := 36) hx hb dX8_isOther_32 (by decide) ?_
        exact h1 (J_36 v2 (1 : Int32) _ hf hG _ _ hP hD hS _ (lv_sub hl [0, 1] rfl))
      unfold fX8_isOther_4_b at hf
      refine lv_iload_n hx hb dX8_isOther_4 rfl (lv_at hl 2 rfl) ?_
      refine lv_bipush (v := 64) hx hb dX8_isOther_5 (by decide) ?_
      refine lv_icmp_ge (tgt := 43) hx hb dX8_isOther_7 (by decide) (fun c_7 => ?_) (fun c_7 => ?_)
      · replace hf := ds_t c_7 hf
        obtain ⟨rr, hr_0, hf⟩ := ds_ob hf
        have hf := Option.some.inj hf
        subst hf
        rw [eG1] at hG
        replace hG : G0 rr := hG
        have hf := hr_0
        exact h1 (J_43 v1 o_undos o_all_r o_undone_r _ hf hG _ _ hP hD hS _ (lv_sub hl [0, 1] rfl))
      · replace hf := ds_f c_7 hf
        refine lv_iload_n hx hb dX8_isOther_10 rfl (lv_at hl 1 rfl) ?_
        refine lv_if_ne (tgt := 31) hx hb dX8_isOther_11 (by decide) (fun c_11 => ?_) (fun c_11 => ?_)
        · replace hf := ds_f c_11 hf
          exact h1 (J_31 v2 _ hf hG _ _ hP hD hS _ (lv_sub hl [0, 2] rfl))
        · replace hf := ds_t c_11 hf
          refine lv_aload_n hx hb dX8_isOther_14 rfl (lv_at hl 0 rfl) ?_
          refine va_get (D := (dC, dI)) (ci := 7) (v := .ref h_o_next) (C := RX8) (T := TX8) (N := 29) hx hb hts (fun w h => List.mem_cons_of_mem _ (kc_X8 w h)) hown hK hP 0 rfl rfl 27 (by decide) (hg kw_853) (fun _ h9 => h9) rfl dX8_isOther_15 ?_
          refine lv_iload_n hx hb dX8_isOther_18 rfl (lv_at hl 2 rfl) ?_
          obtain ⟨i_19, hf⟩ := ds_ci hf
          refine va_iald hx hb hK hP 1 0 rfl rfl i_19 dX8_isOther_19 ?_
          refine lv_aload_n hx hb dX8_isOther_20 rfl (lv_at hl 0 rfl) ?_
          refine va_get (D := (dC, dI)) (ci := 7) (v := .ref h_o_all) (C := RX8) (T := TX8) (N := 29) hx hb hts (fun w h => List.mem_cons_of_mem _ (kc_X8 w h)) hown hK hP 0 rfl rfl 4 (by decide) (hg kw_594) (fun _ h9 => h9) rfl dX8_isOther_21 ?_
          refine lv_iconst (v := 3) hx hb dX8_isOther_24 (by decide) ?_
          refine lv_iload_n hx hb dX8_isOther_25 rfl (lv_at hl 2 rfl) ?_
          refine lv_iadd hx hb dX8_isOther_26 ?_
          obtain ⟨i_27, hf⟩ := ds_ci hf
          refine va_iald hx hb hK hP 2 0 rfl rfl i_27 dX8_isOther_27 ?_
          refine lv_icmp_eq (tgt := 35) hx hb dX8_isOther_28 (by decide) (fun c_28 => ?_) (fun c_28 => ?_)
          · replace hf := ds_t c_28 hf
            refine lv_iconst (v := 0) hx hb dX8_isOther_35 (by decide) ?_
            exact h1 (J_36 v2 (0 : Int32) _ hf hG _ _ hP hD hS _ (lv_sub hl [0, 2] rfl))
          · replace hf := ds_f c_28 hf
            exact h1 (J_31 v2 _ hf hG _ _ hP hD hS _ (lv_sub hl [0, 2] rfl))
  unfold fX8_isOther at hf
  refine lv_iconst (v := 0) hx hb dX8_isOther_0 (by decide) ?_
  refine lv_istore_n (lv' := [(1, .int (0 : Int32)), (0, .ref h_o)]) hx hb dX8_isOther_1 rfl hl (by decide) rfl (fun ls hl => ?_)
  refine lv_iconst (v := 0) hx hb dX8_isOther_2 (by decide) ?_
  refine lv_istore_n (lv' := [(2, .int (0 : Int32)), (1, .int (0 : Int32)), (0, .ref h_o)]) hx hb dX8_isOther_3 rfl hl (by decide) rfl (fun ls hl => ?_)
  exact h1 (J_4 o_undos o_all_r o_undone_r 1000 (0 : Int32) (0 : Int32) _ hf hG _ _ hP hD hS _ (lv_sub hl [2, 1, 0] rfl))
theorem dX8_shift_0 : decode cX8_shift 0 = .ok (.aload_n 0, 1) := by decide +kernel
theorem dX8_shift_1 : decode cX8_shift 1 = .ok (.iconst 0, 1) := by decide +kernel
theorem dX8_shift_2 : decode cX8_shift 2 = .ok (.putfield 51, 3) := by decide +kernel
theorem dX8_shift_5 : decode cX8_shift 5 = .ok (.iload_n 1, 1) := by decide +kernel
theorem dX8_shift_6 : decode cX8_shift 6 = .ok (.bipush (-100), 2) := by decide +kernel
theorem dX8_shift_8 : decode cX8_shift 8 = .ok (.bipush 100, 2) := by decide +kernel
theorem dX8_shift_10 : decode cX8_shift 10 = .ok (.invokestatic 90, 3) := by decide +kernel
theorem dX8_shift_13 : decode cX8_shift 13 = .ok (.ifCond .eq 14, 3) := by decide +kernel
theorem dX8_shift_16 : decode cX8_shift 16 = .ok (.iload_n 2, 1) := by decide +kernel
theorem dX8_shift_17 : decode cX8_shift 17 = .ok (.bipush (-100), 2) := by decide +kernel
theorem dX8_shift_19 : decode cX8_shift 19 = .ok (.bipush 100, 2) := by decide +kernel
theorem dX8_shift_21 : decode cX8_shift 21 = .ok (.invokestatic 90, 3) := by decide +kernel
theorem dX8_shift_24 : decode cX8_shift 24 = .ok (.ifCond .ne 5, 3) := by decide +kernel
theorem dX8_shift_27 : decode cX8_shift 27 = .ok (.iconst 0, 1) := by decide +kernel
theorem dX8_shift_28 : decode cX8_shift 28 = .ok (.ireturn, 1) := by decide +kernel
theorem dX8_shift_29 : decode cX8_shift 29 = .ok (.aload_n 0, 1) := by decide +kernel
theorem dX8_shift_30 : decode cX8_shift 30 = .ok (.invokevirtual 290, 3) := by decide +kernel
theorem dX8_shift_33 : decode cX8_shift 33 = .ok (.iconst 0, 1) := by decide +kernel
theorem dX8_shift_34 : decode cX8_shift 34 = .ok (.istore_n 3, 1) := by decide +kernel
theorem dX8_shift_35 : decode cX8_shift 35 = .ok (.iload_n 3, 1) := by decide +kernel
theorem dX8_shift_36 : decode cX8_shift 36 = .ok (.aload_n 0, 1) := by decide +kernel
theorem dX8_shift_37 : decode cX8_shift 37 = .ok (.getfield 19, 3) := by decide +kernel
theorem dX8_shift_40 : decode cX8_shift 40 = .ok (.iconst 1, 1) := by decide +kernel
theorem dX8_shift_41 : decode cX8_shift 41 = .ok (.iaload, 1) := by decide +kernel
theorem dX8_shift_42 : decode cX8_shift 42 = .ok (.if_icmp .ge 52, 3) := by decide +kernel
theorem dX8_shift_45 : decode cX8_shift 45 = .ok (.iconst 0, 1) := by decide +kernel
theorem dX8_shift_46 : decode cX8_shift 46 = .ok (.istore 4, 2) := by decide +kernel
theorem dX8_shift_48 : decode cX8_shift 48 = .ok (.iload 4, 2) := by decide +kernel
theorem dX8_shift_50 : decode cX8_shift 50 = .ok (.aload_n 0, 1) := by decide +kernel
theorem dX8_shift_51 : decode cX8_shift 51 = .ok (.getfield 19, 3) := by decide +kernel
theorem dX8_shift_54 : decode cX8_shift 54 = .ok (.iconst 0, 1) := by decide +kernel
theorem dX8_shift_55 : decode cX8_shift 55 = .ok (.iaload, 1) := by decide +kernel
theorem dX8_shift_56 : decode cX8_shift 56 = .ok (.if_icmp .ge 32, 3) := by decide +kernel
theorem dX8_shift_59 : decode cX8_shift 59 = .ok (.aload_n 0, 1) := by decide +kernel
theorem dX8_shift_60 : decode cX8_shift 60 = .ok (.getfield 48, 3) := by decide +kernel
theorem dX8_shift_63 : decode cX8_shift 63 = .ok (.aload_n 0, 1) := by decide +kernel
theorem dX8_shift_64 : decode cX8_shift 64 = .ok (.iload 4, 2) := by decide +kernel
theorem dX8_shift_66 : decode cX8_shift 66 = .ok (.iload_n 1, 1) := by decide +kernel
theorem dX8_shift_67 : decode cX8_shift 67 = .ok (.iadd, 1) := by decide +kernel
theorem dX8_shift_68 : decode cX8_shift 68 = .ok (.iload_n 3, 1) := by decide +kernel
theorem dX8_shift_69 : decode cX8_shift 69 = .ok (.iload_n 2, 1) := by decide +kernel
theorem dX8_shift_70 : decode cX8_shift 70 = .ok (.iadd, 1) := by decide +kernel
theorem dX8_shift_71 : decode cX8_shift 71 = .ok (.invokevirtual 59, 3) := by decide +kernel
theorem dX8_shift_74 : decode cX8_shift 74 = .ok (.aload_n 0, 1) := by decide +kernel
theorem dX8_shift_75 : decode cX8_shift 75 = .ok (.iload 4, 2) := by decide +kernel
theorem dX8_shift_77 : decode cX8_shift 77 = .ok (.iload_n 3, 1) := by decide +kernel
theorem dX8_shift_78 : decode cX8_shift 78 = .ok (.invokevirtual 127, 3) := by decide +kernel
theorem dX8_shift_81 : decode cX8_shift 81 = .ok (.iastore, 1) := by decide +kernel
theorem dX8_shift_82 : decode cX8_shift 82 = .ok (.iinc 4 1, 3) := by decide +kernel
theorem dX8_shift_85 : decode cX8_shift 85 = .ok (.goto (-37), 3) := by decide +kernel
theorem dX8_shift_88 : decode cX8_shift 88 = .ok (.iinc 3 1, 3) := by decide +kernel
theorem dX8_shift_91 : decode cX8_shift 91 = .ok (.goto (-56), 3) := by decide +kernel
theorem dX8_shift_94 : decode cX8_shift 94 = .ok (.aload_n 0, 1) := by decide +kernel
theorem dX8_shift_95 : decode cX8_shift 95 = .ok (.invokevirtual 293, 3) := by decide +kernel
theorem dX8_shift_98 : decode cX8_shift 98 = .ok (.ireturn, 1) := by decide +kernel
def fX8_shift_94 (o_raised : Int32) (o_undos : Int32) (o_all_r : Nat → Int32) (o_next_r : Nat → Int32) (o_undone_r : Nat → Int32) : Option (Int32 × Int32 × Int32 × (Nat → Int32) × (Nat → Int32) × (Nat → Int32)) :=
  Option.bind (fX8_isOther o_undos o_next_r o_all_r o_undone_r) fun q95 => if q95.1 = 0 ∨ q95.1 = 1 then some (q95.1, o_raised, q95.2.1, q95.2.2.1, o_next_r, q95.2.2.2) else none
def fX8_shift_88 (o_next_r : Nat → Int32) (v3 : Int32) : Option ((Int32 × (Nat → Int32)) ⊕ (Int32 × Int32 × Int32 × (Nat → Int32) × (Nat → Int32) × (Nat → Int32))) :=
  some (.inl ((v3 + 1), o_next_r))
def fX8_shift_48_b (o_all_r : Nat → Int32) (p1 : Int32) (p2 : Int32) (v3 : Int32) (v4 : Int32) (o_next_r : Nat → Int32) : Option ((Int32 × (Nat → Int32)) ⊕ ((Int32 × (Nat → Int32)) ⊕ (Int32 × Int32 × Int32 × (Nat → Int32) × (Nat → Int32) × (Nat → Int32)))) :=
  if (o_all_r (0 : Int32).toNatClampNeg) ≤ v4 then Option.bind (fX8_shift_88 o_next_r v3) fun z => some (.inr z) else Option.bind (fX8_at o_all_r (v4 + p1) (v3 + p2)) fun q71 => Option.bind (fX8_colour o_all_r v4 v3) fun q78 => if ds_in q71 64 = true then some (.inl ((v4 + 1), (upd o_next_r q71.toNatClampNeg q78))) else none
def fX8_shift_48 (o_all_r : Nat → Int32) (p1 : Int32) (p2 : Int32) (v3 : Int32) (v4 : Int32) (o_next_r : Nat → Int32) : Option ((Int32 × (Nat → Int32)) ⊕ (Int32 × Int32 × Int32 × (Nat → Int32) × (Nat → Int32) × (Nat → Int32))) := ds_it (fun s => fX8_shift_48_b o_all_r p1 p2 v3 s.1 s.2) 1000 (v4, o_next_r)
def fX8_shift_35_b (o_raised : Int32) (o_undos : Int32) (o_all_r : Nat → Int32) (o_undone_r : Nat → Int32) (p1 : Int32) (p2 : Int32) (v3 : Int32) (o_next_r : Nat → Int32) : Option ((Int32 × (Nat → Int32)) ⊕ (Int32 × Int32 × Int32 × (Nat → Int32) × (Nat → Int32) × (Nat → Int32))) :=
  if (o_all_r (1 : Int32).toNatClampNeg) ≤ v3 then Option.bind (fX8_shift_94 o_raised o_undos o_all_r o_next_r o_undone_r) fun z => some (.inr z) else fX8_shift_48 o_all_r p1 p2 v3 (0 : Int32) o_next_r
def fX8_shift_35 (o_raised : Int32) (o_undos : Int32) (o_all_r : Nat → Int32) (o_undone_r : Nat → Int32) (p1 : Int32) (p2 : Int32) (v3 : Int32) (o_next_r : Nat → Int32) : Option (Int32 × Int32 × Int32 × (Nat → Int32) × (Nat → Int32) × (Nat → Int32)) := ds_it (fun s => fX8_shift_35_b o_raised o_undos o_all_r o_undone_r p1 p2 s.1 s.2) 1000 (v3, o_next_r)
def fX8_shift (o_undos : Int32) (o_all_r : Nat → Int32) (o_next_r : Nat → Int32) (o_undone_r : Nat → Int32) (p1 : Int32) (p2 : Int32) : Option (Int32 × Int32 × Int32 × (Nat → Int32) × (Nat → Int32) × (Nat → Int32)) :=
  Option.bind (fX8_in p1 (-100 : Int32) (100 : Int32)) fun q10 => if q10 = 0 then some ((0 : Int32), (0 : Int32), o_undos, o_all_r, o_next_r, o_undone_r) else Option.bind (fX8_in p2 (-100 : Int32) (100 : Int32)) fun q21 => if q21 = 0 then some ((0 : Int32), (0 : Int32), o_undos, o_all_r, o_next_r, o_undone_r) else Option.bind (fX8_keepsNext o_all_r o_next_r) fun q30 => fX8_shift_35 (0 : Int32) o_undos o_all_r o_undone_r p1 p2 (0 : Int32) q30
set_option maxHeartbeats 4000000 in
set_option maxRecDepth 100000 in
theorem c_X8_shift (l : Launch) (dC : Nat → ClassId) (dI : Nat → Nat → Nat) (ca : Nat → ClassId) (sa : Nat → Nat) (h_o : Nat) (h_o_plans : Nat) (h_o_makers : Nat) (h_o_halves : Nat) (h_o_all : Nat) (h_o_text : Nat) (h_o_saved : Nat) (h_o_undone : Nat) (h_o_told : Nat) (h_o_shift : Nat) (h_o_rootOf : Nat) (h_o_becomes : Nat) (h_o_comes : Nat) (h_o_next : Nat) (sz : Nat) (o_raised : Int32) (o_undos : Int32) (o_reached : Int32) (o_length : Int32) (o_begin : Int32) (o_letters : Int32) (o_sort : Int32) (o_word : Int64) (o_wrongAt : Int32) (o_badAt : Int32) (o_bad : Int32) (o_firstX : Int32) (o_firstY : Int32) (o_secondX : Int32) (o_secondY : Int32) (o_x : Int32) (o_all_r : Nat → Int32) (o_next_r : Nat → Int32) (o_undone_r : Nat → Int32) (p1 : Int32) (p2 : Int32) (res : Int32 × Int32 × Int32 × (Nat → Int32) × (Nat → Int32) × (Nat → Int32)) (hf : fX8_shift o_undos o_all_r o_next_r o_undone_r p1 p2 = some res) : Met l yX8_shift (Cond.code yX8_shift cX8_shift 5 (some .boolean) :: ds_gw) { frames := 3, cells := 0, slots := 0, locals := 66 } (va_Pc [.ref h_o, .int p1, .int p2] (ds_Pre dC dI ca sa [(h_o, .inr (7, [.ref h_o_plans, .ref h_o_makers, .ref h_o_halves, .int o_raised, .ref h_o_all, .ref h_o_text, .ref h_o_saved, .ref h_o_undone, .int o_undos, .int o_reached, .int o_length, .int o_begin, .int o_letters, .int o_sort, .long o_word, .int o_wrongAt, .int o_badAt, .int o_bad, .ref h_o_told, .ref h_o_shift, .int o_firstX, .int o_firstY, .int o_secondX, .int o_secondY, .ref h_o_rootOf, .ref h_o_becomes, .ref h_o_comes, .ref h_o_next, .int o_x])), (h_o_all, .inl (ca 0, 350, .inl o_all_r)), (h_o_next, .inl (ca 0, 64, .inl o_next_r)), (h_o_undone, .inl (ca 0, 536, .inl o_undone_r))] sz)) (va_Qi (fun r (_ : Unit) => r = res.1) (ds_B dC dI (va_A [(h_o, .inr (7, [.ref h_o_plans, .ref h_o_makers, .ref h_o_halves, .int o_raised, .ref h_o_all, .ref h_o_text, .ref h_o_saved, .ref h_o_undone, .int o_undos, .int o_reached, .int o_length, .int o_begin, .int o_letters, .int o_sort, .long o_word, .int o_wrongAt, .int o_badAt, .int o_bad, .ref h_o_told, .ref h_o_shift, .int o_firstX, .int o_firstY, .int o_secondX, .int o_secondY, .ref h_o_rootOf, .ref h_o_becomes, .ref h_o_comes, .ref h_o_next, .int o_x])), (h_o_all, .inl (ca 0, 350, .inl o_all_r)), (h_o_next, .inl (ca 0, 64, .inl o_next_r)), (h_o_undone, .inl (ca 0, 536, .inl o_undone_r))] sz) [(h_o, .inr (7, [.ref h_o_plans, .ref h_o_makers, .ref h_o_halves, .int res.2.1, .ref h_o_all, .ref h_o_text, .ref h_o_saved, .ref h_o_undone, .int res.2.2.1, .int o_reached, .int o_length, .int o_begin, .int o_letters, .int o_sort, .long o_word, .int o_wrongAt, .int o_badAt, .int o_bad, .ref h_o_told, .ref h_o_shift, .int o_firstX, .int o_firstY, .int o_secondX, .int o_secondY, .ref h_o_rootOf, .ref h_o_becomes, .ref h_o_comes, .ref h_o_next, .int o_x])), (h_o_all, .inl (ca 0, 350, .inl res.2.2.2.1)), (h_o_next, .inl (ca 0, 64, .inl res.2.2.2.2.1)), (h_o_undone, .inl (ca 0, 536, .inl res.2.2.2.2.2))]) (va_A [(h_o, .inr (7, [.ref h_o_plans, .ref h_o_makers, .ref h_o_halves, .int o_raised, .ref h_o_all, .ref h_o_text, .ref h_o_saved, .ref h_o_undone, .int o_undos, .int o_reached, .int o_length, .int o_begin, .int o_letters, .int o_sort, .long o_word, .int o_wrongAt, .int o_badAt, .int o_bad, .ref h_o_told, .ref h_o_shift, .int o_firstX, .int o_firstY, .int o_secondX, .int o_secondY, .ref h_o_rootOf, .ref h_o_becomes, .ref h_o_comes, .ref h_o_next, .int o_x])), (h_o_all, .inl (ca 0, 350, .inl o_all_r)), (h_o_next, .inl (ca 0, 64, .inl o_next_r)), (h_o_undone, .inl (ca 0, 536, .inl o_undone_r))] sz)) 0 0 (va_A [(h_o, .inr (7, [.ref h_o_plans, .ref h_o_makers, .ref h_o_halves, .int o_raised, .ref h_o_all, .ref h_o_text, .ref h_o_saved, .ref h_o_undone, .int o_undos, .int o_reached, .int o_length, .int o_begin, .int o_letters, .int o_sort, .long o_word, .int o_wrongAt, .int o_badAt, .int o_bad, .ref h_o_told, .ref h_o_shift, .int o_firstX, .int o_firstY, .int o_secondX, .int o_secondY, .ref h_o_rootOf, .ref h_o_becomes, .ref h_o_comes, .ref h_o_next, .int o_x])), (h_o_all, .inl (ca 0, 350, .inl o_all_r)), (h_o_next, .inl (ca 0, 64, .inl o_next_r)), (h_o_undone, .inl (ca 0, 536, .inl o_undone_r))] sz) := by
  refine Met.ofW (cc := cX8_shift) (maxL := 5) (ret := (some .boolean)) (by decide) rfl ?_
  intro p e s m args below meth c s₁ B hml hv
  obtain ⟨rfl, hsz, hP, hK, hD0, hE⟩ := hv
  have hx := B.exec
  have hb := B.bytes
  have hr := B.returns
  have hts := atoms_spec (ws := Cond.code yX8_shift cX8_shift 5 (some .boolean) :: ds_gw) B.pre
  have hg : ∀ {w : Cond}, w ∈ ds_gw → w.before _ s = true := fun h => hts _ (List.mem_cons_of_mem _ h)
  have hown : s.vm.findClass RX8 = some m.cls := findClass_of_methodNamed B.named
  have hlocks := B.notSynchronized
  subst hsz
  have hD := hD0.self (sz := s.heap.size)
  generalize hAe : va_A [(h_o, .inr (7, [.ref h_o_plans, .ref h_o_makers, .ref h_o_halves, .int o_raised, .ref h_o_all, .ref h_o_text, .ref h_o_saved, .ref h_o_undone, .int o_undos, .int o_reached, .int o_length, .int o_begin, .int o_letters, .int o_sort, .long o_word, .int o_wrongAt, .int o_badAt, .int o_bad, .ref h_o_told, .ref h_o_shift, .int o_firstX, .int o_firstY, .int o_secondX, .int o_secondY, .ref h_o_rootOf, .ref h_o_becomes, .ref h_o_comes, .ref h_o_next, .int o_x])), (h_o_all, .inl (ca 0, 350, .inl o_all_r)), (h_o_next, .inl (ca 0, 64, .inl o_next_r)), (h_o_undone, .inl (ca 0, 536, .inl o_undone_r))] s.heap.size = A at hD hE ⊢
  have hA : ∀ q : Nat, s.heap.size ≤ q → A q := fun q h => by rw [← hAe]; exact Or.inr h
  have hS : va_S A s.heap s.heap [] := va_S.rf
  have hl := lv_entry ([.ref h_o, .int p1, .int p2]) (n := 5) (Nat.le_of_ble_eq_true rfl)
  rw [lg_entry_eq]
  generalize (lg_sl ([.ref h_o, .int p1, .int p2]) ++ List.replicate (5 - (lg_sl ([.ref h_o, .int p1, .int p2])).length) Slot.unset).toArray = ls at hl ⊢
  have hl : lv_has ls 5 [(0, .ref h_o), (1, .int p1), (2, .int p2)] := hl
  obtain ⟨G0, eG0⟩ : ∃ G : (Int32 × Int32 × Int32 × (Nat → Int32) × (Nat → Int32) × (Nat → Int32)) → Prop, G = (fun r => r = res) := ⟨_, rfl⟩
  obtain ⟨rr, hrr⟩ : ∃ z, z = res := ⟨_, rfl⟩
  rw [← hrr] at hf
  have hG : G0 rr := by subst eG0; exact hrr
  refine ds_cap (fun WW h1 h2 => ?_)
  have J_94 : ∀ (o_raised : Int32) (o_undos : Int32) (o_all_r : Nat → Int32) (o_next_r : Nat → Int32) (o_undone_r : Nat → Int32) (rr : Int32 × Int32 × Int32 × (Nat → Int32) × (Nat → Int32) × (Nat → Int32)) (hf : fX8_shift_94 o_raised o_undos o_all_r o_next_r o_undone_r = some rr) (hG : G0 rr) (H : Heap) (locs : List Loc) (hP : va_P (dC, dI) vwCl [(h_o, .inr (7, [.ref h_o_plans, .ref h_o_makers, .ref h_o_halves, .int o_raised, .ref h_o_all, .ref h_o_text, .ref h_o_saved, .ref h_o_undone, .int o_undos, .int o_reached, .int o_length, .int o_begin, .int o_letters, .int o_sort, .long o_word, .int o_wrongAt, .int o_badAt, .int o_bad, .ref h_o_told, .ref h_o_shift, .int o_firstX, .int o_firstY, .int o_secondX, .int o_secondY, .ref h_o_rootOf, .ref h_o_becomes, .ref h_o_comes, .ref h_o_next, .int o_x])), (h_o_all, .inl (ca 0, 350, .inl o_all_r)), (h_o_next, .inl (ca 0, 64, .inl o_next_r)), (h_o_undone, .inl (ca 0, 536, .inl o_undone_r))] H) (hD : va_D A [(h_o, .inr (7, [.ref h_o_plans, .ref h_o_makers, .ref h_o_halves, .int o_raised, .ref h_o_all, .ref h_o_text, .ref h_o_saved, .ref h_o_undone, .int o_undos, .int o_reached, .int o_length, .int o_begin, .int o_letters, .int o_sort, .long o_word, .int o_wrongAt, .int o_badAt, .int o_bad, .ref h_o_told, .ref h_o_shift, .int o_firstX, .int o_firstY, .int o_secondX, .int o_secondY, .ref h_o_rootOf, .ref h_o_becomes, .ref h_o_comes, .ref h_o_next, .int o_x])), (h_o_all, .inl (ca 0, 350, .inl o_all_r)), (h_o_next, .inl (ca 0, 64, .inl o_next_r)), (h_o_undone, .inl (ca 0, 536, .inl o_undone_r))]) (hS : va_S A s.heap H locs) (ls : Array Slot) (hl : lv_has ls 5 [(0, .ref h_o)]), WW H locs (F0 m 94 ls []) := by
    intro o_raised o_undos o_all_r o_next_r o_undone_r rr hf hG H locs hP hD hS ls hl
    refine h2 ?_
    unfold fX8_shift_94 at hf
    refine lv_aload_n hx hb dX8_shift_94 rfl (lv_at hl 0 rfl) ?_
    obtain ⟨q95, hq95, hf⟩ := ds_ob hf
    refine ds_calli (wr := []) (va_runV (As := []) (rest := []) ⟨hx, hb, hml, hown, hts⟩ (c_X8_isOther l dC dI ca sa h_o h_o_plans h_o_makers h_o_halves h_o_all h_o_text h_o_saved h_o_undone h_o_told h_o_shift h_o_rootOf h_o_becomes h_o_comes h_o_next H.size o_raised o_undos o_reached o_length o_begin o_letters o_sort o_word o_wrongAt o_badAt o_bad o_firstX o_firstY o_secondX o_secondY o_x o_next_r o_all_r o_undone_r  q95 hq95) (cwV 0 hts (ds_gV kw_854 kw_855 kw_856 kw_597 kw_857) rfl rfl rfl (by decide +kernel) ⟨Nat.le_of_ble_eq_true rfl, Nat.le_of_ble_eq_true rfl⟩) ⟨ds_blind, va_recv hK hP (ci := 7) (q0 := 0) rfl rfl, ds_at hP hD hK hE hS hA [0, 2, 1, 3] rfl rfl _⟩ rfl rfl hl.1 rfl (lv_room (Nat.le_of_ble_eq_true rfl)) dX8_shift_95 ⟨Nat.zero_le _, Nat.zero_le _⟩) hP hD hS hA [0, 2, 1, 3] [] rfl rfl rfl (by decide) (fun H locs hP hD hS => ?_)
    have hP : va_P (dC, dI) vwCl [(h_o, .inr (7, [.ref h_o_plans, .ref h_o_makers, .ref h_o_halves, .int o_raised, .ref h_o_all, .ref h_o_text, .ref h_o_saved, .ref h_o_undone, .int q95.2.1, .int o_reached, .int o_length, .int o_begin, .int o_letters, .int o_sort, .long o_word, .int o_wrongAt, .int o_badAt, .int o_bad, .ref h_o_told, .ref h_o_shift, .int o_firstX, .int o_firstY, .int o_secondX, .int o_secondY, .ref h_o_rootOf, .ref h_o_becomes, .ref h_o_comes, .ref h_o_next, .int o_x])), (h_o_next, .inl (ca 0, 64, .inl o_next_r)), (h_o_all, .inl (ca 0, 350, .inl q95.2.2.1)), (h_o_undone, .inl (ca 0, 536, .inl q95.2.2.2))] H := hP
    have hD : va_D A [(h_o, .inr (7, [.ref h_o_plans, .ref h_o_makers, .ref h_o_halves, .int o_raised, .ref h_o_all, .ref h_o_text, .ref h_o_saved, .ref h_o_undone, .int q95.2.1, .int o_reached, .int o_length, .int o_begin, .int o_letters, .int o_sort, .long o_word, .int o_wrongAt, .int o_badAt, .int o_bad, .ref h_o_told, .ref h_o_shift, .int o_firstX, .int o_firstY, .int o_secondX, .int o_secondY, .ref h_o_rootOf, .ref h_o_becomes, .ref h_o_comes, .ref h_o_next, .int o_x])), (h_o_next, .inl (ca 0, 64, .inl o_next_r)), (h_o_all, .inl (ca 0, 350, .inl q95.2.2.1)), (h_o_undone, .inl (ca 0, 536, .inl q95.2.2.2))] := hD
    obtain ⟨z_98, hf⟩ := ds_c hf
    have hf := Option.some.inj hf
    subst hf
    rw [eG0] at hG
    have hG : _ = res := hG
    subst hG
    exact W.zret (v := q95.1) (ty := .boolean) hx hb hr (ds_zn z_98) (fun t ht hW => ⟨⟨q95.1, (), rfl, rfl, by rw [ht]; exact (hP.sub [0, 2, 1, 3] rfl), (hD.sub [0, 2, 1, 3] rfl rfl)⟩, hS.F ht⟩) hS.2.2 dX8_shift_98
  have J_35 : ∀ (o_raised : Int32) (o_undos : Int32) (o_all_r : Nat → Int32) (o_undone_r : Nat → Int32) (n : Nat) (v3 : Int32) (o_next_r : Nat → Int32) (rr : Int32 × Int32 × Int32 × (Nat → Int32) × (Nat → Int32) × (Nat → Int32)) (hf : ds_it (fun s => fX8_shift_35_b o_raised o_undos o_all_r o_undone_r p1 p2 s.1 s.2) n (v3, o_next_r) = some rr) (hG : G0 rr) (H : Heap) (locs : List Loc) (hP : va_P (dC, dI) vwCl [(h_o, .inr (7, [.ref h_o_plans, .ref h_o_makers, .ref h_o_halves, .int o_raised, .ref h_o_all, .ref h_o_text, .ref h_o_saved, .ref h_o_undone, .int o_undos, .int o_reached, .int o_length, .int o_begin, .int o_letters, .int o_sort, .long o_word, .int o_wrongAt, .int o_badAt, .int o_bad, .ref h_o_told, .ref h_o_shift, .int o_firstX, .int o_firstY, .int o_secondX, .int o_secondY, .ref h_o_rootOf, .ref h_o_becomes, .ref h_o_comes, .ref h_o_next, .int o_x])), (h_o_all, .inl (ca 0, 350, .inl o_all_r)), (h_o_next, .inl (ca 0, 64, .inl o_next_r)), (h_o_undone, .inl (ca 0, 536, .inl o_undone_r))] H) (hD : va_D A [(h_o, .inr (7, [.ref h_o_plans, .ref h_o_makers, .ref h_o_halves, .int o_raised, .ref h_o_all, .ref h_o_text, .ref h_o_saved, .ref h_o_undone, .int o_undos, .int o_reached, .int o_length, .int o_begin, .int o_letters, .int o_sort, .long o_word, .int o_wrongAt, .int o_badAt, .int o_bad, .ref h_o_told, .ref h_o_shift, .int o_firstX, .int o_firstY, .int o_secondX, .int o_secondY, .ref h_o_rootOf, .ref h_o_becomes, .ref h_o_comes, .ref h_o_next, .int o_x])), (h_o_all, .inl (ca 0, 350, .inl o_all_r)), (h_o_next, .inl (ca 0, 64, .inl o_next_r)), (h_o_undone, .inl (ca 0, 536, .inl o_undone_r))]) (hS : va_S A s.heap H locs) (ls : Array Slot) (hl : lv_has ls 5 [(0, .ref h_o), (1, .int p1), (2, .int p2), (3, .int v3)]), WW H locs (F0 m 35 ls []) := by
    intro o_raised o_undos o_all_r o_undone_r n
    induction n with
    | zero => intro v3 o_next_r rr hf; exact (ds_it_zero hf).elim
    | succ n ih35 =>
      intro v3 o_next_r rr hf hG H locs hP hD hS ls hl
      refine h2 ?_
      obtain ⟨rr, hf, hG⟩ := ds_it_succ hf hG
      replace hf : fX8_shift_35_b o_raised o_undos o_all_r o_undone_r p1 p2 v3 o_next_r = some rr := hf
      obtain ⟨G1, eG1⟩ : ∃ G : ((Int32 × (Nat → Int32)) ⊕ (Int32 × Int32 × Int32 × (Nat → Int32) × (Nat → Int32) × (Nat → Int32))) → Prop, G = ds_G (fun s' => ∃ r', ds_it (fun s => fX8_shift_35_b o_raised o_undos o_all_r o_undone_r p1 p2 s.1 s.2) n s' = some r' ∧ G0 r') G0 := ⟨_, rfl⟩
      rw [← eG1] at hG
      have J_88 : ∀ (v3 : Int32) (o_next_r : Nat → Int32) (rr : (Int32 × (Nat → Int32)) ⊕ (Int32 × Int32 × Int32 × (Nat → Int32) × (Nat → Int32) × (Nat → Int32))) (hf : fX8_shift_88 o_next_r v3 = some rr) (hG : G1 rr) (H : Heap) (locs : List Loc) (hP : va_P (dC, dI) vwCl [(h_o, .inr (7, [.ref h_o_plans, .ref h_o_makers, .ref h_o_halves, .int o_raised, .ref h_o_all, .ref h_o_text, .ref h_o_saved, .ref h_o_undone, .int o_undos, .int o_reached, .int o_length, .int o_begin, .int o_letters, .int o_sort, .long o_word, .int o_wrongAt, .int o_badAt, .int o_bad, .ref h_o_told, .ref h_o_shift, .int o_firstX, .int o_firstY, .int o_secondX, .int o_secondY, .ref h_o_rootOf, .ref h_o_becomes, .ref h_o_comes, .ref h_o_next, .int o_x])), (h_o_all, .inl (ca 0, 350, .inl o_all_r)), (h_o_next, .inl (ca 0, 64, .inl o_next_r)), (h_o_undone, .inl (ca 0, 536, .inl o_undone_r))] H) (hD : va_D A [(h_o, .inr (7, [.ref h_o_plans, .ref h_o_makers, .ref h_o_halves, .int o_raised, .ref h_o_all, .ref h_o_text, .ref h_o_saved, .ref h_o_undone, .int o_undos, .int o_reached, .int o_length, .int o_begin, .int o_letters, .int o_sort, .long o_word, .int o_wrongAt, .int o_badAt, .int o_bad, .ref h_o_told, .ref h_o_shift, .int o_firstX, .int o_firstY, .int o_secondX, .int o_secondY, .ref h_o_rootOf, .ref h_o_becomes, .ref h_o_comes, .ref h_o_next, .int o_x])), (h_o_all, .inl (ca 0, 350, .inl o_all_r)), (h_o_next, .inl (ca 0, 64, .inl o_next_r)), (h_o_undone, .inl (ca 0, 536, .inl o_undone_r))]) (hS : va_S A s.heap H locs) (ls : Array Slot) (hl : lv_has ls 5 [(0, .ref h_o), (1, .int p1), (2, .int p2), (3, .int v3)]), WW H locs (F0 m 88 ls []) := by
        intro v3 o_next_r rr hf hG H locs hP hD hS ls hl
        refine h2 ?_
        unfold fX8_shift_88 at hf
        refine lv_iinc (v := (v3 + 1)) (lv' := [(3, .int (v3 + 1)), (0, .ref h_o), (1, .int p1), (2, .int p2)]) hx hb dX8_shift_88 hl (k := 3) rfl rfl (by decide) rfl (fun ls hl => ?_)
        refine lv_goto (tgt := 35) hx hb dX8_shift_91 (by decide) ?_
        have hf := Option.some.inj hf
        subst hf
        rw [eG1] at hG
        obtain ⟨rr, hf, hG⟩ := hG
        exact h1 (ih35 (v3 + 1) o_next_r rr hf hG _ _ hP hD hS _ (lv_sub hl [1, 2, 3, 0] rfl))
      have J_48 : ∀ (v3 : Int32) (n : Nat) (v4 : Int32) (o_next_r : Nat → Int32) (rr : (Int32 × (Nat → Int32)) ⊕ (Int32 × Int32 × Int32 × (Nat → Int32) × (Nat → Int32) × (Nat → Int32))) (hf : ds_it (fun s => fX8_shift_48_b o_all_r p1 p2 v3 s.1 s.2) n (v4, o_next_r) = some rr) (hG : G1 rr) (H : Heap) (locs : List Loc) (hP : va_P (dC, dI) vwCl [(h_o, .inr (7, [.ref h_o_plans, .ref h_o_makers, .ref h_o_halves, .int o_raised, .ref h_o_all, .ref h_o_text, .ref h_o_saved, .ref h_o_undone, .int o_undos, .int o_reached, .int o_length, .int o_begin, .int o_letters, .int o_sort, .long o_word, .int o_wrongAt, .int o_badAt, .int o_bad, .ref h_o_told, .ref h_o_shift, .int o_firstX, .int o_firstY, .int o_secondX, .int o_secondY, .ref h_o_rootOf, .ref h_o_becomes, .ref h_o_comes, .ref h_o_next, .int o_x])), (h_o_all, .inl (ca 0, 350, .inl o_all_r)), (h_o_next, .inl (ca 0, 64, .inl o_next_r)), (h_o_undone, .inl (ca 0, 536, .inl o_undone_r))] H) (hD : va_D A [(h_o, .inr (7, [.ref h_o_plans, .ref h_o_makers, .ref h_o_halves, .int o_raised, .ref h_o_all, .ref h_o_text, .ref h_o_saved, .ref h_o_undone, .int o_undos, .int o_reached, .int o_length, .int o_begin, .int o_letters, .int o_sort, .long o_word, .int o_wrongAt, .int o_badAt, .int o_bad, .ref h_o_told, .ref h_o_shift, .int o_firstX, .int o_firstY, .int o_secondX, .int o_secondY, .ref h_o_rootOf, .ref h_o_becomes, .ref h_o_comes, .ref h_o_next, .int o_x])), (h_o_all, .inl (ca 0, 350, .inl o_all_r)), (h_o_next, .inl (ca 0, 64, .inl o_next_r)), (h_o_undone, .inl (ca 0, 536, .inl o_undone_r))]) (hS : va_S A s.heap H locs) (ls : Array Slot) (hl : lv_has ls 5 [(0, .ref h_o), (1, .int p1), (2, .int p2), (3, .int v3), (4, .int v4)]), WW H locs (F0 m 48 ls []) := by
        intro v3 n
        induction n with
        | zero => intro v4 o_next_r rr hf; exact (ds_it_zero hf).elim
        | succ n ih48 =>
          intro v4 o_next_r rr hf hG H locs hP hD hS ls hl
          refine h2 ?_
          obtain ⟨rr, hf, hG⟩ := ds_it_succ hf hG
          replace hf : fX8_shift_48_b o_all_r p1 p2 v3 v4 o_next_r = some rr := hf
          obtain ⟨G2, eG2⟩ : ∃ G : ((Int32 × (Nat → Int32)) ⊕ ((Int32 × (Nat → Int32)) ⊕ (Int32 × Int32 × Int32 × (Nat → Int32) × (Nat → Int32) × (Nat → Int32)))) → Prop, G = ds_G (fun s' => ∃ r', ds_it (fun s => fX8_shift_48_b o_all_r p1 p2 v3 s.1 s.2) n s' = some r' ∧ G1 r') G1 := ⟨_, rfl⟩
          rw [← eG2] at hG
          unfold fX8_shift_48_b at hf
          refine lv_iload hx hb dX8_shift_48 (lv_at hl 4 rfl) ?_
          refine lv_aload_n hx hb dX8_shift_50 rfl (lv_at hl 0 rfl) ?_
          refine va_get (D := (dC, dI)) (ci := 7) (v := .ref h_o_all) (C := RX8) (T := TX8) (N := 29) hx hb hts (fun w h => List.mem_cons_of_mem _ (kc_X8 w h)) hown hK hP 0 rfl rfl 4 (by decide) (hg kw_594) (fun _ h9 => h9) rfl dX8_shift_51 ?_
          refine lv_iconst (v := 0) hx hb dX8_shift_54 (by decide) ?_
          refine va_iald hx hb hK hP 1 0 rfl rfl (ds_in_ok (i := 0) (n := 350) (by decide)) dX8_shift_55 ?_
          refine lv_icmp_ge (tgt := 88) hx hb dX8_shift_56 (by decide) (fun c_56 => ?_) (fun c_56 => ?_)
          · replace hf := ds_t c_56 hf
            obtain ⟨rr, hr_0, hf⟩ := ds_ob hf
            have hf := Option.some.inj hf
            subst hf
            rw [eG2] at hG
            replace hG : G1 rr := hG
            have hf := hr_0
            exact h1 (J_88 v3 o_next_r _ hf hG _ _ hP hD hS _ (lv_sub hl [0, 1, 2, 3] rfl))
          · replace hf := ds_f c_56 hf
            refine lv_aload_n hx hb dX8_shift_59 rfl (lv_at hl 0 rfl) ?_
            refine va_get (D := (dC, dI)) (ci := 7) (v := .ref h_o_next) (C := RX8) (T := TX8) (N := 29) hx hb hts (fun w h => List.mem_cons_of_mem _ (kc_X8 w h)) hown hK hP 0 rfl rfl 27 (by decide) (hg kw_853) (fun _ h9 => h9) rfl dX8_shift_60 ?_
            refine lv_aload_n hx hb dX8_shift_63 rfl (lv_at hl 0 rfl) ?_
            refine lv_iload hx hb dX8_shift_64 (lv_at hl 4 rfl) ?_
            refine lv_iload_n hx hb dX8_shift_66 rfl (lv_at hl 1 rfl) ?_
            refine lv_iadd hx hb dX8_shift_67 ?_
            refine lv_iload_n hx hb dX8_shift_68 rfl (lv_at hl 3 rfl) ?_
            refine lv_iload_n hx hb dX8_shift_69 rfl (lv_at hl 2 rfl) ?_
            refine lv_iadd hx hb dX8_shift_70 ?_
            obtain ⟨q71, hq71, hf⟩ := ds_ob hf
            refine ds_calli (wr := [(h_o_next, .inl (ca 0, 64, .inl o_next_r)), (h_o_undone, .inl (ca 0, 536, .inl o_undone_r))]) (va_runV (As := [.int (v4 + p1), .int (v3 + p2)]) (rest := [.ref h_o_next]) ⟨hx, hb, hml, hown, hts⟩ (c_X8_at l dC dI ca sa h_o h_o_plans h_o_makers h_o_halves h_o_all h_o_text h_o_saved h_o_undone h_o_told h_o_shift h_o_rootOf h_o_becomes h_o_comes h_o_next H.size o_raised o_undos o_reached o_length o_begin o_letters o_sort o_word o_wrongAt o_badAt o_bad o_firstX o_firstY o_secondX o_secondY o_x o_all_r (v4 + p1) (v3 + p2) q71 hq71) (cwV 2 hts (ds_gV kw_599 kw_600 kw_601 kw_597 kw_602) rfl rfl rfl (by decide +kernel) ⟨Nat.le_of_ble_eq_true rfl, Nat.le_of_ble_eq_true rfl⟩) ⟨ds_blind, va_recv hK hP (ci := 7) (q0 := 0) rfl rfl, ds_at hP hD hK hE hS hA [0, 1] rfl rfl _⟩ rfl rfl hl.1 rfl (lv_room (Nat.le_of_ble_eq_true rfl)) dX8_shift_71 ⟨Nat.zero_le _, Nat.zero_le _⟩) hP hD hS hA [0, 1] [2, 3] rfl rfl rfl (by decide) (fun H locs hP hD hS => ?_)
            have hP : va_P (dC, dI) vwCl [(h_o_next, .inl (ca 0, 64, .inl o_next_r)), (h_o_undone, .inl (ca 0, 536, .inl o_undone_r)), (h_o, .inr (7, [.ref h_o_plans, .ref h_o_makers, .ref h_o_halves, .int o_raised, .ref h_o_all, .ref h_o_text, .ref h_o_saved, .ref h_o_undone, .int o_undos, .int o_reached, .int o_length, .int o_begin, .int o_letters, .int o_sort, .long o_word, .int o_wrongAt, .int o_badAt, .int o_bad, .ref h_o_told, .ref h_o_shift, .int o_firstX, .int o_firstY, .int o_secondX, .int o_secondY, .ref h_o_rootOf, .ref h_o_becomes, .ref h_o_comes, .ref h_o_next, .int o_x])), (h_o_all, .inl (ca 0, 350, .inl o_all_r))] H := hP
            have hD : va_D A [(h_o_next, .inl (ca 0, 64, .inl o_next_r)), (h_o_undone, .inl (ca 0, 536, .inl o_undone_r)), (h_o, .inr (7, [.ref h_o_plans, .ref h_o_makers, .ref h_o_halves, .int o_raised, .ref h_o_all, .ref h_o_text, .ref h_o_saved, .ref h_o_undone, .int o_undos, .int o_reached, .int o_length, .int o_begin, .int o_letters, .int o_sort, .long o_word, .int o_wrongAt, .int o_badAt, .int o_bad, .ref h_o_told, .ref h_o_shift, .int o_firstX, .int o_firstY, .int o_secondX, .int o_secondY, .ref h_o_rootOf, .ref h_o_becomes, .ref h_o_comes, .ref h_o_next, .int o_x])), (h_o_all, .inl (ca 0, 350, .inl o_all_r))] := hD
            refine lv_aload_n hx hb dX8_shift_74 rfl (lv_at hl 0 rfl) ?_
            refine lv_iload hx hb dX8_shift_75 (lv_at hl 4 rfl) ?_
            refine lv_iload_n hx hb dX8_shift_77 rfl (lv_at hl 3 rfl) ?_
            obtain ⟨q78, hq78, hf⟩ := ds_ob hf
            refine ds_calli (wr := [(h_o_next, .inl (ca 0, 64, .inl o_next_r)), (h_o_undone, .inl (ca 0, 536, .inl o_undone_r))]) (va_runV (As := [.int v4, .int v3]) (rest := [.int q71, .ref h_o_next]) ⟨hx, hb, hml, hown, hts⟩ (c_X8_colour l dC dI ca sa h_o h_o_plans h_o_makers h_o_halves h_o_all h_o_text h_o_saved h_o_undone h_o_told h_o_shift h_o_rootOf h_o_becomes h_o_comes h_o_next H.size o_raised o_undos o_reached o_length o_begin o_letters o_sort o_word o_wrongAt o_badAt o_bad o_firstX o_firstY o_secondX o_secondY o_x o_all_r v4 v3 q78 hq78) (cwV 2 hts (ds_gV kw_651 kw_652 kw_653 kw_597 kw_654) rfl rfl rfl (by decide +kernel) ⟨Nat.le_of_ble_eq_true rfl, Nat.le_of_ble_eq_true rfl⟩) ⟨ds_blind, va_recv hK hP (ci := 7) (q0 := 2) rfl rfl, ds_at hP hD hK hE hS hA [2, 3] rfl rfl _⟩ rfl rfl hl.1 rfl (lv_room (Nat.le_of_ble_eq_true rfl)) dX8_shift_78 ⟨Nat.zero_le _, Nat.zero_le _⟩) hP hD hS hA [2, 3] [0, 1] rfl rfl rfl (by decide) (fun H locs hP hD hS => ?_)
            have hP : va_P (dC, dI) vwCl [(h_o_next, .inl (ca 0, 64, .inl o_next_r)), (h_o_undone, .inl (ca 0, 536, .inl o_undone_r)), (h_o, .inr (7, [.ref h_o_plans, .ref h_o_makers, .ref h_o_halves, .int o_raised, .ref h_o_all, .ref h_o_text, .ref h_o_saved, .ref h_o_undone, .int o_undos, .int o_reached, .int o_length, .int o_begin, .int o_letters, .int o_sort, .long o_word, .int o_wrongAt, .int o_badAt, .int o_bad, .ref h_o_told, .ref h_o_shift, .int o_firstX, .int o_firstY, .int o_secondX, .int o_secondY, .ref h_o_rootOf, .ref h_o_becomes, .ref h_o_comes, .ref h_o_next, .int o_x])), (h_o_all, .inl (ca 0, 350, .inl o_all_r))] H := hP
            have hD : va_D A [(h_o_next, .inl (ca 0, 64, .inl o_next_r)), (h_o_undone, .inl (ca 0, 536, .inl o_undone_r)), (h_o, .inr (7, [.ref h_o_plans, .ref h_o_makers, .ref h_o_halves, .int o_raised, .ref h_o_all, .ref h_o_text, .ref h_o_saved, .ref h_o_undone, .int o_undos, .int o_reached, .int o_length, .int o_begin, .int o_letters, .int o_sort, .long o_word, .int o_wrongAt, .int o_badAt, .int o_bad, .ref h_o_told, .ref h_o_shift, .int o_firstX, .int o_firstY, .int o_secondX, .int o_secondY, .ref h_o_rootOf, .ref h_o_becomes, .ref h_o_comes, .ref h_o_next, .int o_x])), (h_o_all, .inl (ca 0, 350, .inl o_all_r))] := hD
            obtain ⟨i_81, hf⟩ := ds_ci hf
            refine va_iast hx hb hK hP hD hS 0 0 rfl rfl i_81 dX8_shift_81 (fun H locs hP hD hS => ?_)
            have hP : va_P (dC, dI) vwCl [(h_o_next, .inl (ca 0, 64, .inl (upd o_next_r q71.toNatClampNeg q78))), (h_o_undone, .inl (ca 0, 536, .inl o_undone_r)), (h_o, .inr (7, [.ref h_o_plans, .ref h_o_makers, .ref h_o_halves, .int o_raised, .ref h_o_all, .ref h_o_text, .ref h_o_saved, .ref h_o_undone, .int o_undos, .int o_reached, .int o_length, .int o_begin, .int o_letters, .int o_sort, .long o_word, .int o_wrongAt, .int o_badAt, .int o_bad, .ref h_o_told, .ref h_o_shift, .int o_firstX, .int o_firstY, .int o_secondX, .int o_secondY, .ref h_o_rootOf, .ref h_o_becomes, .ref h_o_comes, .ref h_o_next, .int o_x])), (h_o_all, .inl (ca 0, 350, .inl o_all_r))] H := hP
            have hD : va_D A [(h_o_next, .inl (ca 0, 64, .inl (upd o_next_r q71.toNatClampNeg q78))), (h_o_undone, .inl (ca 0, 536, .inl o_undone_r)), (h_o, .inr (7, [.ref h_o_plans, .ref h_o_makers, .ref h_o_halves, .int o_raised, .ref h_o_all, .ref h_o_text, .ref h_o_saved, .ref h_o_undone, .int o_undos, .int o_reached, .int o_length, .int o_begin, .int o_letters, .int o_sort, .long o_word, .int o_wrongAt, .int o_badAt, .int o_bad, .ref h_o_told, .ref h_o_shift, .int o_firstX, .int o_firstY, .int o_secondX, .int o_secondY, .ref h_o_rootOf, .ref h_o_becomes, .ref h_o_comes, .ref h_o_next, .int o_x])), (h_o_all, .inl (ca 0, 350, .inl o_all_r))] := hD
            refine lv_iinc (v := (v4 + 1)) (lv' := [(4, .int (v4 + 1)), (0, .ref h_o), (1, .int p1), (2, .int p2), (3, .int v3)]) hx hb dX8_shift_82 hl (k := 4) rfl rfl (by decide) rfl (fun ls hl => ?_)
            refine lv_goto (tgt := 48) hx hb dX8_shift_85 (by decide) ?_
            have hf := Option.some.inj hf
            subst hf
            rw [eG2] at hG
            obtain ⟨rr, hf, hG⟩ := hG
            exact h1 (ih48 (v4 + 1) (upd o_next_r q71.toNatClampNeg q78) rr hf hG _ _ (hP.sub [2, 3, 0, 1] rfl) (hD.sub [2, 3, 0, 1] rfl rfl) hS _ (lv_sub hl [1, 2, 3, 4, 0] rfl))
      unfold fX8_shift_35_b at hf
      refine lv_iload_n hx hb dX8_shift_35 rfl (lv_at hl 3 rfl) ?_
      refine lv_aload_n hx hb dX8_shift_36 rfl (lv_at hl 0 rfl) ?_
      refine va_get (D := (dC, dI)) (ci := 7) (v := .ref h_o_all) (C := RX8) (T := TX8) (N := 29) hx hb hts (fun w h => List.mem_cons_of_mem _ (kc_X8 w h)) hown hK hP 0 rfl rfl 4 (by decide) (hg kw_594) (fun _ h9 => h9) rfl dX8_shift_37 ?_
      refine lv_iconst (v := 1) hx hb dX8_shift_40 (by decide) ?_
      refine va_iald hx hb hK hP 1 0 rfl rfl (ds_in_ok (i := 1) (n := 350) (by decide)) dX8_shift_41 ?_
      refine lv_icmp_ge (tgt := 94) hx hb dX8_shift_42 (by decide) (fun c_42 => ?_) (fun c_42 => ?_)
      · replace hf := ds_t c_42 hf
        obtain ⟨rr, hr_0, hf⟩ := ds_ob hf
        have hf := Option.some.inj hf
        subst hf
        rw [eG1] at hG
        replace hG : G0 rr := hG
        have hf := hr_0
        exact h1 (J_94 o_raised o_undos o_all_r o_next_r o_undone_r _ hf hG _ _ hP hD hS _ (lv_sub hl [0] rfl))
      · replace hf := ds_f c_42 hf
        refine lv_iconst (v := 0) hx hb dX8_shift_45 (by decide) ?_
        refine lv_istore (lv' := [(4, .int (0 : Int32)), (0, .ref h_o), (1, .int p1), (2, .int p2), (3, .int v3)]) hx hb dX8_shift_46 hl (by decide) rfl (fun ls hl => ?_)
        exact h1 (J_48 v3 1000 (0 : Int32) o_next_r _ hf hG _ _ hP hD hS _ (lv_sub hl [1, 2, 3, 4, 0] rfl))
  unfold fX8_shift at hf
  refine lv_aload_n hx hb dX8_shift_0 rfl (lv_at hl 0 rfl) ?_
  refine lv_iconst (v := 0) hx hb dX8_shift_1 (by decide) ?_
  refine va_put (D := (dC, dI)) (ci := 7) (v := .int (0 : Int32)) (ty := tyX8 3) (C := RX8) (T := TX8) (N := 29) hx hb hts (fun w h => List.mem_cons_of_mem _ (kc_X8 w h)) tyX8 tyX8_ok nmX8 hown hK hP hD hS 0 rfl rfl 3 (by decide) (hg kw_564) (fun _ h9 => h9) rfl (by decide +kernel) rfl rfl (Nat.le_of_ble_eq_true rfl) dX8_shift_2 (fun H locs hP hD hS => ?_)
  have hP : va_P (dC, dI) vwCl [(h_o, .inr (7, [.ref h_o_plans, .ref h_o_makers, .ref h_o_halves, .int (0 : Int32), .ref h_o_all, .ref h_o_text, .ref h_o_saved, .ref h_o_undone, .int o_undos, .int o_reached, .int o_length, .int o_begin, .int o_letters, .int o_sort, .long o_word, .int o_wrongAt, .int o_badAt, .int o_bad, .ref h_o_told, .ref h_o_shift, .int o_firstX, .int o_firstY, .int o_secondX, .int o_secondY, .ref h_o_rootOf, .ref h_o_becomes, .ref h_o_comes, .ref h_o_next, .int o_x])), (h_o_all, .inl (ca 0, 350, .inl o_all_r)), (h_o_next, .inl (ca 0, 64, .inl o_next_r)), (h_o_undone, .inl (ca 0, 536, .inl o_undone_r))] H := hP
  have hD : va_D A [(h_o, .inr (7, [.ref h_o_plans, .ref h_o_makers, .ref h_o_halves, .int (0 : Int32), .ref h_o_all, .ref h_o_text, .ref h_o_saved, .ref h_o_undone, .int o_undos, .int o_reached, .int o_length, .int o_begin, .int o_letters, .int o_sort, .long o_word, .int o_wrongAt, .int o_badAt, .int o_bad, .ref h_o_told, .ref h_o_shift, .int o_firstX, .int o_firstY, .int o_secondX, .int o_secondY, .ref h_o_rootOf, .ref h_o_becomes, .ref h_o_comes, .ref h_o_next, .int o_x])), (h_o_all, .inl (ca 0, 350, .inl o_all_r)), (h_o_next, .inl (ca 0, 64, .inl o_next_r)), (h_o_undone, .inl (ca 0, 536, .inl o_undone_r))] := hD
  refine lv_iload_n hx hb dX8_shift_5 rfl (lv_at hl 1 rfl) ?_
  refine lv_bipush (v := -100) hx hb dX8_shift_6 (by decide) ?_
  refine lv_bipush (v := 100) hx hb dX8_shift_8 (by decide) ?_
  obtain ⟨q10, hq10, hf⟩ := ds_ob hf
  refine ds_calli (wr := [(h_o, .inr (7, [.ref h_o_plans, .ref h_o_makers, .ref h_o_halves, .int (0 : Int32), .ref h_o_all, .ref h_o_text, .ref h_o_saved, .ref h_o_undone, .int o_undos, .int o_reached, .int o_length, .int o_begin, .int o_letters, .int o_sort, .long o_word, .int o_wrongAt, .int o_badAt, .int o_bad, .ref h_o_told, .ref h_o_shift, .int o_firstX, .int o_firstY, .int o_secondX, .int o_secondY, .ref h_o_rootOf, .ref h_o_becomes, .ref h_o_comes, .ref h_o_next, .int o_x])), (h_o_all, .inl (ca 0, 350, .inl o_all_r)), (h_o_next, .inl (ca 0, 64, .inl o_next_r)), (h_o_undone, .inl (ca 0, 536, .inl o_undone_r))]) (va_runS (As := [.int p1, .int (-100 : Int32), .int (100 : Int32)]) (rest := []) ⟨hx, hb, hml, hown, hts⟩ (c_X8_in l dC dI ca sa  H.size  p1 (-100 : Int32) (100 : Int32) q10 hq10) (va_cwS 3 hts (ds_gS kw_619 kw_620 kw_597 kw_621) rfl rfl rfl (by decide +kernel) ⟨Nat.le_of_ble_eq_true rfl, Nat.le_of_ble_eq_true rfl⟩) ⟨ds_blind, ds_at hP hD hK hE hS hA [] rfl rfl _⟩ rfl rfl hl.1 rfl (lv_room (Nat.le_of_ble_eq_true rfl)) dX8_shift_10 ⟨Nat.zero_le _, Nat.zero_le _⟩) hP hD hS hA [] [0, 1, 2, 3] rfl rfl rfl (by decide) (fun H locs hP hD hS => ?_)
  have hP : va_P (dC, dI) vwCl [(h_o, .inr (7, [.ref h_o_plans, .ref h_o_makers, .ref h_o_halves, .int (0 : Int32), .ref h_o_all, .ref h_o_text, .ref h_o_saved, .ref h_o_undone, .int o_undos, .int o_reached, .int o_length, .int o_begin, .int o_letters, .int o_sort, .long o_word, .int o_wrongAt, .int o_badAt, .int o_bad, .ref h_o_told, .ref h_o_shift, .int o_firstX, .int o_firstY, .int o_secondX, .int o_secondY, .ref h_o_rootOf, .ref h_o_becomes, .ref h_o_comes, .ref h_o_next, .int o_x])), (h_o_all, .inl (ca 0, 350, .inl o_all_r)), (h_o_next, .inl (ca 0, 64, .inl o_next_r)), (h_o_undone, .inl (ca 0, 536, .inl o_undone_r))] H := hP
  have hD : va_D A [(h_o, .inr (7, [.ref h_o_plans, .ref h_o_makers, .ref h_o_halves, .int (0 : Int32), .ref h_o_all, .ref h_o_text, .ref h_o_saved, .ref h_o_undone, .int o_undos, .int o_reached, .int o_length, .int o_begin, .int o_letters, .int o_sort, .long o_word, .int o_wrongAt, .int o_badAt, .int o_bad, .ref h_o_told, .ref h_o_shift, .int o_firstX, .int o_firstY, .int o_secondX, .int o_secondY, .ref h_o_rootOf, .ref h_o_becomes, .ref h_o_comes, .ref h_o_next, .int o_x])), (h_o_all, .inl (ca 0, 350, .inl o_all_r)), (h_o_next, .inl (ca 0, 64, .inl o_next_r)), (h_o_undone, .inl (ca 0, 536, .inl o_undone_r))] := hD
  refine lv_if_eq (tgt := 27) hx hb dX8_shift_13 (by decide) (fun c_13 => ?_) (fun c_13 => ?_)
  · replace hf := ds_t c_13 hf
    refine lv_iconst (v := 0) hx hb dX8_shift_27 (by decide) ?_
    have hf := Option.some.inj hf
    subst hf
    rw [eG0] at hG
    have hG : _ = res := hG
    subst hG
    exact W.zret (v := (0 : Int32)) (ty := .boolean) hx hb hr rfl (fun t ht hW => ⟨⟨(0 : Int32), (), rfl, rfl, by rw [ht]; exact hP, hD⟩, hS.F ht⟩) hS.2.2 dX8_shift_28
  · replace hf := ds_f c_13 hf
    refine lv_iload_n hx hb dX8_shift_16 rfl (lv_at hl 2 rfl) ?_
    refine lv_bipush (v := -100) hx hb dX8_shift_17 (by decide) ?_
    refine lv_bipush (v := 100) hx hb dX8_shift_19 (by decide) ?_
    obtain ⟨q21, hq21, hf⟩ := ds_ob hf
    refine ds_calli (wr := [(h_o, .inr (7, [.ref h_o_plans, .ref h_o_makers, .ref h_o_halves, .int (0 : Int32), .ref h_o_all, .ref h_o_text, .ref h_o_saved, .ref h_o_undone, .int o_undos, .int o_reached, .int o_length, .int o_begin, .int o_letters, .int o_sort, .long o_word, .int o_wrongAt, .int o_badAt, .int o_bad, .ref h_o_told, .ref h_o_shift, .int o_firstX, .int o_firstY, .int o_secondX, .int o_secondY, .ref h_o_rootOf, .ref h_o_becomes, .ref h_o_comes, .ref h_o_next, .int o_x])), (h_o_all, .inl (ca 0, 350, .inl o_all_r)), (h_o_next, .inl (ca 0, 64, .inl o_next_r)), (h_o_undone, .inl (ca 0, 536, .inl o_undone_r))]) (va_runS (As := [.int p2, .int (-100 : Int32), .int (100 : Int32)]) (rest := []) ⟨hx, hb, hml, hown, hts⟩ (c_X8_in l dC dI ca sa  H.size  p2 (-100 : Int32) (100 : Int32) q21 hq21) (va_cwS 3 hts (ds_gS kw_619 kw_620 kw_597 kw_621) rfl rfl rfl (by decide +kernel) ⟨Nat.le_of_ble_eq_true rfl, Nat.le_of_ble_eq_true rfl⟩) ⟨ds_blind, ds_at hP hD hK hE hS hA [] rfl rfl _⟩ rfl rfl hl.1 rfl (lv_room (Nat.le_of_ble_eq_true rfl)) dX8_shift_21 ⟨Nat.zero_le _, Nat.zero_le _⟩) hP hD hS hA [] [0, 1, 2, 3] rfl rfl rfl (by decide) (fun H locs hP hD hS => ?_)
    have hP : va_P (dC, dI) vwCl [(h_o, .inr (7, [.ref h_o_plans, .ref h_o_makers, .ref h_o_halves, .int (0 : Int32), .ref h_o_all, .ref h_o_text, .ref h_o_saved, .ref h_o_undone, .int o_undos, .int o_reached, .int o_length, .int o_begin, .int o_letters, .int o_sort, .long o_word, .int o_wrongAt, .int o_badAt, .int o_bad, .ref h_o_told, .ref h_o_shift, .int o_firstX, .int o_firstY, .int o_secondX, .int o_secondY, .ref h_o_rootOf, .ref h_o_becomes, .ref h_o_comes, .ref h_o_next, .int o_x])), (h_o_all, .inl (ca 0, 350, .inl o_all_r)), (h_o_next, .inl (ca 0, 64, .inl o_next_r)), (h_o_undone, .inl (ca 0, 536, .inl o_undone_r))] H := hP
    have hD : va_D A [(h_o, .inr (7, [.ref h_o_plans, .ref h_o_makers, .ref h_o_halves, .int (0 : Int32), .ref h_o_all, .ref h_o_text, .ref h_o_saved, .ref h_o_undone, .int o_undos, .int o_reached, .int o_length, .int o_begin, .int o_letters, .int o_sort, .long o_word, .int o_wrongAt, .int o_badAt, .int o_bad, .ref h_o_told, .ref h_o_shift, .int o_firstX, .int o_firstY, .int o_secondX, .int o_secondY, .ref h_o_rootOf, .ref h_o_becomes, .ref h_o_comes, .ref h_o_next, .int o_x])), (h_o_all, .inl (ca 0, 350, .inl o_all_r)), (h_o_next, .inl (ca 0, 64, .inl o_next_r)), (h_o_undone, .inl (ca 0, 536, .inl o_undone_r))] := hD
    refine lv_if_ne (tgt := 29) hx hb dX8_shift_24 (by decide) (fun c_24 => ?_) (fun c_24 => ?_)
    · replace hf := ds_f c_24 hf
      refine lv_aload_n hx hb dX8_shift_29 rfl (lv_at hl 0 rfl) ?_
      obtain ⟨q30, hq30, hf⟩ := ds_ob hf
      refine ds_callv (wr := [(h_o_undone, .inl (ca 0, 536, .inl o_undone_r))]) (va_runV (As := []) (rest := []) ⟨hx, hb, hml, hown, hts⟩ (c_X8_keepsNext l dC dI ca sa h_o h_o_plans h_o_makers h_o_halves h_o_all h_o_text h_o_saved h_o_undone h_o_told h_o_shift h_o_rootOf h_o_becomes h_o_comes h_o_next H.size (0 : Int32) o_undos o_reached o_length o_begin o_letters o_sort o_word o_wrongAt o_badAt o_bad o_firstX o_firstY o_secondX o_secondY o_x o_all_r o_next_r  q30 hq30) (cwV 0 hts (ds_gV kw_858 kw_859 kw_860 kw_597 kw_861) rfl rfl rfl (by decide +kernel) ⟨Nat.le_of_ble_eq_true rfl, Nat.le_of_ble_eq_true rfl⟩) ⟨ds_blind, va_recv hK hP (ci := 7) (q0 := 0) rfl rfl, ds_at hP hD hK hE hS hA [0, 1, 2] rfl rfl _⟩ rfl rfl hl.1 rfl (lv_room (Nat.le_of_ble_eq_true rfl)) dX8_shift_30 ⟨Nat.zero_le _, Nat.zero_le _⟩) hP hD hS hA [0, 1, 2] [3] rfl rfl rfl (by decide) (fun H locs hP hD hS => ?_)
      have hP : va_P (dC, dI) vwCl [(h_o_undone, .inl (ca 0, 536, .inl o_undone_r)), (h_o, .inr (7, [.ref h_o_plans, .ref h_o_makers, .ref h_o_halves, .int (0 : Int32), .ref h_o_all, .ref h_o_text, .ref h_o_saved, .ref h_o_undone, .int o_undos, .int o_reached, .int o_length, .int o_begin, .int o_letters, .int o_sort, .long o_word, .int o_wrongAt, .int o_badAt, .int o_bad, .ref h_o_told, .ref h_o_shift, .int o_firstX, .int o_firstY, .int o_secondX, .int o_secondY, .ref h_o_rootOf, .ref h_o_becomes, .ref h_o_comes, .ref h_o_next, .int o_x])), (h_o_all, .inl (ca 0, 350, .inl o_all_r)), (h_o_next, .inl (ca 0, 64, .inl q30))] H := hP
      have hD : va_D A [(h_o_undone, .inl (ca 0, 536, .inl o_undone_r)), (h_o, .inr (7, [.ref h_o_plans, .ref h_o_makers, .ref h_o_halves, .int (0 : Int32), .ref h_o_all, .ref h_o_text, .ref h_o_saved, .ref h_o_undone, .int o_undos, .int o_reached, .int o_length, .int o_begin, .int o_letters, .int o_sort, .long o_word, .int o_wrongAt, .int o_badAt, .int o_bad, .ref h_o_told, .ref h_o_shift, .int o_firstX, .int o_firstY, .int o_secondX, .int o_secondY, .ref h_o_rootOf, .ref h_o_becomes, .ref h_o_comes, .ref h_o_next, .int o_x])), (h_o_all, .inl (ca 0, 350, .inl o_all_r)), (h_o_next, .inl (ca 0, 64, .inl q30))] := hD
      refine lv_iconst (v := 0) hx hb dX8_shift_33 (by decide) ?_
      refine lv_istore_n (lv' := [(3, .int (0 : Int32)), (0, .ref h_o), (1, .int p1), (2, .int p2)]) hx hb dX8_shift_34 rfl hl (by decide) rfl (fun ls hl => ?_)
      exact h1 (J_35 (0 : Int32) o_undos o_all_r o_undone_r 1000 (0 : Int32) q30 _ hf hG _ _ (hP.sub [1, 2, 3, 0] rfl) (hD.sub [1, 2, 3, 0] rfl rfl) hS _ (lv_sub hl [1, 2, 3, 0] rfl))
    · replace hf := ds_t c_24 hf
      refine lv_iconst (v := 0) hx hb dX8_shift_27 (by decide) ?_
      have hf := Option.some.inj hf
      subst hf
      rw [eG0] at hG
      have hG : _ = res := hG
      subst hG
      exact W.zret (v := (0 : Int32)) (ty := .boolean) hx hb hr rfl (fun t ht hW => ⟨⟨(0 : Int32), (), rfl, rfl, by rw [ht]; exact hP, hD⟩, hS.F ht⟩) hS.2.2 dX8_shift_28
theorem dX8_turn_0 : decode cX8_turn 0 = .ok (.aload_n 0, 1) := by decide +kernel
theorem dX8_turn_1 : decode cX8_turn 1 = .ok (.iconst 0, 1) := by decide +kernel
theorem dX8_turn_2 : decode cX8_turn 2 = .ok (.putfield 51, 3) := by decide +kernel
theorem dX8_turn_5 : decode cX8_turn 5 = .ok (.iload_n 1, 1) := by decide +kernel
theorem dX8_turn_6 : decode cX8_turn 6 = .ok (.iconst 0, 1) := by decide +kernel
theorem dX8_turn_7 : decode cX8_turn 7 = .ok (.aload_n 0, 1) := by decide +kernel
theorem dX8_turn_8 : decode cX8_turn 8 = .ok (.invokevirtual 62, 3) := by decide +kernel
theorem dX8_turn_11 : decode cX8_turn 11 = .ok (.iconst 1, 1) := by decide +kernel
theorem dX8_turn_12 : decode cX8_turn 12 = .ok (.isub, 1) := by decide +kernel
theorem dX8_turn_13 : decode cX8_turn 13 = .ok (.invokestatic 90, 3) := by decide +kernel
theorem dX8_turn_16 : decode cX8_turn 16 = .ok (.ifCond .eq 18, 3) := by decide +kernel
theorem dX8_turn_19 : decode cX8_turn 19 = .ok (.aload_n 0, 1) := by decide +kernel
theorem dX8_turn_20 : decode cX8_turn 20 = .ok (.getfield 19, 3) := by decide +kernel
theorem dX8_turn_23 : decode cX8_turn 23 = .ok (.iconst 0, 1) := by decide +kernel
theorem dX8_turn_24 : decode cX8_turn 24 = .ok (.iaload, 1) := by decide +kernel
theorem dX8_turn_25 : decode cX8_turn 25 = .ok (.aload_n 0, 1) := by decide +kernel
theorem dX8_turn_26 : decode cX8_turn 26 = .ok (.getfield 19, 3) := by decide +kernel
theorem dX8_turn_29 : decode cX8_turn 29 = .ok (.iconst 1, 1) := by decide +kernel
theorem dX8_turn_30 : decode cX8_turn 30 = .ok (.iaload, 1) := by decide +kernel
theorem dX8_turn_31 : decode cX8_turn 31 = .ok (.if_icmp .eq 5, 3) := by decide +kernel
theorem dX8_turn_34 : decode cX8_turn 34 = .ok (.iconst 0, 1) := by decide +kernel
theorem dX8_turn_35 : decode cX8_turn 35 = .ok (.ireturn, 1) := by decide +kernel
theorem dX8_turn_36 : decode cX8_turn 36 = .ok (.aload_n 0, 1) := by decide +kernel
theorem dX8_turn_37 : decode cX8_turn 37 = .ok (.invokevirtual 290, 3) := by decide +kernel
theorem dX8_turn_40 : decode cX8_turn 40 = .ok (.iconst 0, 1) := by decide +kernel
theorem dX8_turn_41 : decode cX8_turn 41 = .ok (.istore_n 2, 1) := by decide +kernel
theorem dX8_turn_42 : decode cX8_turn 42 = .ok (.iload_n 2, 1) := by decide +kernel
theorem dX8_turn_43 : decode cX8_turn 43 = .ok (.aload_n 0, 1) := by decide +kernel
theorem dX8_turn_44 : decode cX8_turn 44 = .ok (.getfield 19, 3) := by decide +kernel
theorem dX8_turn_47 : decode cX8_turn 47 = .ok (.iconst 1, 1) := by decide +kernel
theorem dX8_turn_48 : decode cX8_turn 48 = .ok (.iaload, 1) := by decide +kernel
theorem dX8_turn_49 : decode cX8_turn 49 = .ok (.if_icmp .ge 56, 3) := by decide +kernel
theorem dX8_turn_52 : decode cX8_turn 52 = .ok (.iconst 0, 1) := by decide +kernel
theorem dX8_turn_53 : decode cX8_turn 53 = .ok (.istore_n 3, 1) := by decide +kernel
theorem dX8_turn_54 : decode cX8_turn 54 = .ok (.iload_n 3, 1) := by decide +kernel
theorem dX8_turn_55 : decode cX8_turn 55 = .ok (.aload_n 0, 1) := by decide +kernel
theorem dX8_turn_56 : decode cX8_turn 56 = .ok (.getfield 19, 3) := by decide +kernel
theorem dX8_turn_59 : decode cX8_turn 59 = .ok (.iconst 0, 1) := by decide +kernel
theorem dX8_turn_60 : decode cX8_turn 60 = .ok (.iaload, 1) := by decide +kernel
theorem dX8_turn_61 : decode cX8_turn 61 = .ok (.if_icmp .ge 38, 3) := by decide +kernel
theorem dX8_turn_64 : decode cX8_turn 64 = .ok (.aload_n 0, 1) := by decide +kernel
theorem dX8_turn_65 : decode cX8_turn 65 = .ok (.getfield 48, 3) := by decide +kernel
theorem dX8_turn_68 : decode cX8_turn 68 = .ok (.aload_n 0, 1) := by decide +kernel
theorem dX8_turn_69 : decode cX8_turn 69 = .ok (.aload_n 0, 1) := by decide +kernel
theorem dX8_turn_70 : decode cX8_turn 70 = .ok (.iload_n 1, 1) := by decide +kernel
theorem dX8_turn_71 : decode cX8_turn 71 = .ok (.iload_n 3, 1) := by decide +kernel
theorem dX8_turn_72 : decode cX8_turn 72 = .ok (.iload_n 2, 1) := by decide +kernel
theorem dX8_turn_73 : decode cX8_turn 73 = .ok (.invokevirtual 130, 3) := by decide +kernel
theorem dX8_turn_76 : decode cX8_turn 76 = .ok (.aload_n 0, 1) := by decide +kernel
theorem dX8_turn_77 : decode cX8_turn 77 = .ok (.iload_n 1, 1) := by decide +kernel
theorem dX8_turn_78 : decode cX8_turn 78 = .ok (.iload_n 3, 1) := by decide +kernel
theorem dX8_turn_79 : decode cX8_turn 79 = .ok (.iload_n 2, 1) := by decide +kernel
theorem dX8_turn_80 : decode cX8_turn 80 = .ok (.invokevirtual 134, 3) := by decide +kernel
theorem dX8_turn_83 : decode cX8_turn 83 = .ok (.invokevirtual 59, 3) := by decide +kernel
theorem dX8_turn_86 : decode cX8_turn 86 = .ok (.aload_n 0, 1) := by decide +kernel
theorem dX8_turn_87 : decode cX8_turn 87 = .ok (.iload_n 3, 1) := by decide +kernel
theorem dX8_turn_88 : decode cX8_turn 88 = .ok (.iload_n 2, 1) := by decide +kernel
theorem dX8_turn_89 : decode cX8_turn 89 = .ok (.invokevirtual 127, 3) := by decide +kernel
theorem dX8_turn_92 : decode cX8_turn 92 = .ok (.iastore, 1) := by decide +kernel
theorem dX8_turn_93 : decode cX8_turn 93 = .ok (.iinc 3 1, 3) := by decide +kernel
theorem dX8_turn_96 : decode cX8_turn 96 = .ok (.goto (-42), 3) := by decide +kernel
theorem dX8_turn_99 : decode cX8_turn 99 = .ok (.iinc 2 1, 3) := by decide +kernel
theorem dX8_turn_102 : decode cX8_turn 102 = .ok (.goto (-60), 3) := by decide +kernel
theorem dX8_turn_105 : decode cX8_turn 105 = .ok (.aload_n 0, 1) := by decide +kernel
theorem dX8_turn_106 : decode cX8_turn 106 = .ok (.invokevirtual 293, 3) := by decide +kernel
theorem dX8_turn_109 : decode cX8_turn 109 = .ok (.ireturn, 1) := by decide +kernel
def fX8_turn_105 (o_raised : Int32) (o_undos : Int32) (o_all_r : Nat → Int32) (o_next_r : Nat → Int32) (o_undone_r : Nat → Int32) : Option (Int32 × Int32 × Int32 × (Nat → Int32) × (Nat → Int32) × (Nat → Int32)) :=
  Option.bind (fX8_isOther o_undos o_next_r o_all_r o_undone_r) fun q106 => if q106.1 = 0 ∨ q106.1 = 1 then some (q106.1, o_raised, q106.2.1, q106.2.2.1, o_next_r, q106.2.2.2) else none
def fX8_turn_99 (o_next_r : Nat → Int32) (v2 : Int32) : Option ((Int32 × (Nat → Int32)) ⊕ (Int32 × Int32 × Int32 × (Nat → Int32) × (Nat → Int32) × (Nat → Int32))) :=
  some (.inl ((v2 + 1), o_next_r))
def fX8_turn_54_b (o_all_r : Nat → Int32) (o_plans_r : Nat → Int32) (p1 : Int32) (v2 : Int32) (v3 : Int32) (o_next_r : Nat → Int32) : Option ((Int32 × (Nat → Int32)) ⊕ ((Int32 × (Nat → Int32)) ⊕ (Int32 × Int32 × Int32 × (Nat → Int32) × (Nat → Int32) × (Nat → Int32)))) :=
  if (o_all_r (0 : Int32).toNatClampNeg) ≤ v3 then Option.bind (fX8_turn_99 o_next_r v2) fun z => some (.inr z) else Option.bind (fX8_turnX o_all_r o_plans_r p1 v3 v2) fun q73 => Option.bind (fX8_turnY o_all_r o_plans_r p1 v3 v2) fun q80 => Option.bind (fX8_at o_all_r q73 q80) fun q83 => Option.bind (fX8_colour o_all_r v3 v2) fun q89 => if ds_in q83 64 = true then some (.inl ((v3 + 1), (upd o_next_r q83.toNatClampNeg q89))) else none
def fX8_turn_54 (o_all_r : Nat → Int32) (o_plans_r : Nat → Int32) (p1 : Int32) (v2 : Int32) (v3 : Int32) (o_next_r : Nat → Int32) : Option ((Int32 × (Nat → Int32)) ⊕ (Int32 × Int32 × Int32 × (Nat → Int32) × (Nat → Int32) × (Nat → Int32))) := ds_it (fun s => fX8_turn_54_b o_all_r o_plans_r p1 v2 s.1 s.2) 1000 (v3, o_next_r)
def fX8_turn_42_b (o_raised : Int32) (o_undos : Int32) (o_all_r : Nat → Int32) (o_plans_r : Nat → Int32) (o_undone_r : Nat → Int32) (p1 : Int32) (v2 : Int32) (o_next_r : Nat → Int32) : Option ((Int32 × (Nat → Int32)) ⊕ (Int32 × Int32 × Int32 × (Nat → Int32) × (Nat → Int32) × (Nat → Int32))) :=
  if (o_all_r (1 : Int32).toNatClampNeg) ≤ v2 then Option.bind (fX8_turn_105 o_raised o_undos o_all_r o_next_r o_undone_r) fun z => some (.inr z) else fX8_turn_54 o_all_r o_plans_r p1 v2 (0 : Int32) o_next_r
def fX8_turn_42 (o_raised : Int32) (o_undos : Int32) (o_all_r : Nat → Int32) (o_plans_r : Nat → Int32) (o_undone_r : Nat → Int32) (p1 : Int32) (v2 : Int32) (o_next_r : Nat → Int32) : Option (Int32 × Int32 × Int32 × (Nat → Int32) × (Nat → Int32) × (Nat → Int32)) := ds_it (fun s => fX8_turn_42_b o_raised o_undos o_all_r o_plans_r o_undone_r p1 s.1 s.2) 1000 (v2, o_next_r)
def fX8_turn (o_undos : Int32) (o_all_r : Nat → Int32) (o_next_r : Nat → Int32) (o_plans_r : Nat → Int32) (o_undone_r : Nat → Int32) (p1 : Int32) : Option (Int32 × Int32 × Int32 × (Nat → Int32) × (Nat → Int32) × (Nat → Int32)) :=
  Option.bind (fX8_turnings o_all_r) fun q8 => Option.bind (fX8_in p1 (0 : Int32) (q8 - (1 : Int32))) fun q13 => if q13 = 0 then some ((0 : Int32), (0 : Int32), o_undos, o_all_r, o_next_r, o_undone_r) else if (o_all_r (0 : Int32).toNatClampNeg) = (o_all_r (1 : Int32).toNatClampNeg) then Option.bind (fX8_keepsNext o_all_r o_next_r) fun q37 => fX8_turn_42 (0 : Int32) o_undos o_all_r o_plans_r o_undone_r p1 (0 : Int32) q37 else some ((0 : Int32), (0 : Int32), o_undos, o_all_r, o_next_r, o_undone_r)
set_option maxHeartbeats 4000000 in
set_option maxRecDepth 100000 in
theorem c_X8_turn (l : Launch) (dC : Nat → ClassId) (dI : Nat → Nat → Nat) (ca : Nat → ClassId) (sa : Nat → Nat) (h_o : Nat) (h_o_plans : Nat) (h_o_makers : Nat) (h_o_halves : Nat) (h_o_all : Nat) (h_o_text : Nat) (h_o_saved : Nat) (h_o_undone : Nat) (h_o_told : Nat) (h_o_shift : Nat) (h_o_rootOf : Nat) (h_o_becomes : Nat) (h_o_comes : Nat) (h_o_next : Nat) (sz : Nat) (o_raised : Int32) (o_undos : Int32) (o_reached : Int32) (o_length : Int32) (o_begin : Int32) (o_letters : Int32) (o_sort : Int32) (o_word : Int64) (o_wrongAt : Int32) (o_badAt : Int32) (o_bad : Int32) (o_firstX : Int32) (o_firstY : Int32) (o_secondX : Int32) (o_secondY : Int32) (o_x : Int32) (o_all_r : Nat → Int32) (o_next_r : Nat → Int32) (o_plans_r : Nat → Int32) (o_undone_r : Nat → Int32) (p1 : Int32) (res : Int32 × Int32 × Int32 × (Nat → Int32) × (Nat → Int32) × (Nat → Int32)) (hf : fX8_turn o_undos o_all_r o_next_r o_plans_r o_undone_r p1 = some res) : Met l yX8_turn (Cond.code yX8_turn cX8_turn 4 (some .boolean) :: ds_gw) { frames := 3, cells := 0, slots := 0, locals := 66 } (va_Pc [.ref h_o, .int p1] (ds_Pre dC dI ca sa [(h_o, .inr (7, [.ref h_o_plans, .ref h_o_makers, .ref h_o_halves, .int o_raised, .ref h_o_all, .ref h_o_text, .ref h_o_saved, .ref h_o_undone, .int o_undos, .int o_reached, .int o_length, .int o_begin, .int o_letters, .int o_sort, .long o_word, .int o_wrongAt, .int o_badAt, .int o_bad, .ref h_o_told, .ref h_o_shift, .int o_firstX, .int o_firstY, .int o_secondX, .int o_secondY, .ref h_o_rootOf, .ref h_o_becomes, .ref h_o_comes, .ref h_o_next, .int o_x])), (h_o_all, .inl (ca 0, 350, .inl o_all_r)), (h_o_next, .inl (ca 0, 64, .inl o_next_r)), (h_o_plans, .inl (ca 0, 80, .inl o_plans_r)), (h_o_undone, .inl (ca 0, 536, .inl o_undone_r))] sz)) (va_Qi (fun r (_ : Unit) => r = res.1) (ds_B dC dI (va_A [(h_o, .inr (7, [.ref h_o_plans, .ref h_o_makers, .ref h_o_halves, .int o_raised, .ref h_o_all, .ref h_o_text, .ref h_o_saved, .ref h_o_undone, .int o_undos, .int o_reached, .int o_length, .int o_begin, .int o_letters, .int o_sort, .long o_word, .int o_wrongAt, .int o_badAt, .int o_bad, .ref h_o_told, .ref h_o_shift, .int o_firstX, .int o_firstY, .int o_secondX, .int o_secondY, .ref h_o_rootOf, .ref h_o_becomes, .ref h_o_comes, .ref h_o_next, .int o_x])), (h_o_all, .inl (ca 0, 350, .inl o_all_r)), (h_o_next, .inl (ca 0, 64, .inl o_next_r)), (h_o_plans, .inl (ca 0, 80, .inl o_plans_r)), (h_o_undone, .inl (ca 0, 536, .inl o_undone_r))] sz) [(h_o, .inr (7, [.ref h_o_plans, .ref h_o_makers, .ref h_o_halves, .int res.2.1, .ref h_o_all, .ref h_o_text, .ref h_o_saved, .ref h_o_undone, .int res.2.2.1, .int o_reached, .int o_length, .int o_begin, .int o_letters, .int o_sort, .long o_word, .int o_wrongAt, .int o_badAt, .int o_bad, .ref h_o_told, .ref h_o_shift, .int o_firstX, .int o_firstY, .int o_secondX, .int o_secondY, .ref h_o_rootOf, .ref h_o_becomes, .ref h_o_comes, .ref h_o_next, .int o_x])), (h_o_all, .inl (ca 0, 350, .inl res.2.2.2.1)), (h_o_next, .inl (ca 0, 64, .inl res.2.2.2.2.1)), (h_o_plans, .inl (ca 0, 80, .inl o_plans_r)), (h_o_undone, .inl (ca 0, 536, .inl res.2.2.2.2.2))]) (va_A [(h_o, .inr (7, [.ref h_o_plans, .ref h_o_makers, .ref h_o_halves, .int o_raised, .ref h_o_all, .ref h_o_text, .ref h_o_saved, .ref h_o_undone, .int o_undos, .int o_reached, .int o_length, .int o_begin, .int o_letters, .int o_sort, .long o_word, .int o_wrongAt, .int o_badAt, .int o_bad, .ref h_o_told, .ref h_o_shift, .int o_firstX, .int o_firstY, .int o_secondX, .int o_secondY, .ref h_o_rootOf, .ref h_o_becomes, .ref h_o_comes, .ref h_o_next, .int o_x])), (h_o_all, .inl (ca 0, 350, .inl o_all_r)), (h_o_next, .inl (ca 0, 64, .inl o_next_r)), (h_o_plans, .inl (ca 0, 80, .inl o_plans_r)), (h_o_undone, .inl (ca 0, 536, .inl o_undone_r))] sz)) 0 0 (va_A [(h_o, .inr (7, [.ref h_o_plans, .ref h_o_makers, .ref h_o_halves, .int o_raised, .ref h_o_all, .ref h_o_text, .ref h_o_saved, .ref h_o_undone, .int o_undos, .int o_reached, .int o_length, .int o_begin, .int o_letters, .int o_sort, .long o_word, .int o_wrongAt, .int o_badAt, .int o_bad, .ref h_o_told, .ref h_o_shift, .int o_firstX, .int o_firstY, .int o_secondX, .int o_secondY, .ref h_o_rootOf, .ref h_o_becomes, .ref h_o_comes, .ref h_o_next, .int o_x])), (h_o_all, .inl (ca 0, 350, .inl o_all_r)), (h_o_next, .inl (ca 0, 64, .inl o_next_r)), (h_o_plans, .inl (ca 0, 80, .inl o_plans_r)), (h_o_undone, .inl (ca 0, 536, .inl o_undone_r))] sz) := by
  refine Met.ofW (cc := cX8_turn) (maxL := 4) (ret := (some .boolean)) (by decide) rfl ?_
  intro p e s m args below meth c s₁ B hml hv
  obtain ⟨rfl, hsz, hP, hK, hD0, hE⟩ := hv
  have hx := B.exec
  have hb := B.bytes
  have hr := B.returns
  have hts := atoms_spec (ws := Cond.code yX8_turn cX8_turn 4 (some .boolean) :: ds_gw) B.pre
  have hg : ∀ {w : Cond}, w ∈ ds_gw → w.before _ s = true := fun h => hts _ (List.mem_cons_of_mem _ h)
  have hown : s.vm.findClass RX8 = some m.cls := findClass_of_methodNamed B.named
  have hlocks := B.notSynchronized
  subst hsz
  have hD := hD0.self (sz := s.heap.size)
  generalize hAe : va_A [(h_o, .inr (7, [.ref h_o_plans, .ref h_o_makers, .ref h_o_halves, .int o_raised, .ref h_o_all, .ref h_o_text, .ref h_o_saved, .ref h_o_undone, .int o_undos, .int o_reached, .int o_length, .int o_begin, .int o_letters, .int o_sort, .long o_word, .int o_wrongAt, .int o_badAt, .int o_bad, .ref h_o_told, .ref h_o_shift, .int o_firstX, .int o_firstY, .int o_secondX, .int o_secondY, .ref h_o_rootOf, .ref h_o_becomes, .ref h_o_comes, .ref h_o_next, .int o_x])), (h_o_all, .inl (ca 0, 350, .inl o_all_r)), (h_o_next, .inl (ca 0, 64, .inl o_next_r)), (h_o_plans, .inl (ca 0, 80, .inl o_plans_r)), (h_o_undone, .inl (ca 0, 536, .inl o_undone_r))] s.heap.size = A at hD hE ⊢
  have hA : ∀ q : Nat, s.heap.size ≤ q → A q := fun q h => by rw [← hAe]; exact Or.inr h
  have hS : va_S A s.heap s.heap [] := va_S.rf
  have hl := lv_entry ([.ref h_o, .int p1]) (n := 4) (Nat.le_of_ble_eq_true rfl)
  rw [lg_entry_eq]
  generalize (lg_sl ([.ref h_o, .int p1]) ++ List.replicate (4 - (lg_sl ([.ref h_o, .int p1])).length) Slot.unset).toArray = ls at hl ⊢
  have hl : lv_has ls 4 [(0, .ref h_o), (1, .int p1)] := hl
  obtain ⟨G0, eG0⟩ : ∃ G : (Int32 × Int32 × Int32 × (Nat → Int32) × (Nat → Int32) × (Nat → Int32)) → Prop, G = (fun r => r = res) := ⟨_, rfl⟩
  obtain ⟨rr, hrr⟩ : ∃ z, z = res := ⟨_, rfl⟩
  rw [← hrr] at hf
  have hG : G0 rr := by subst eG0; exact hrr
  refine ds_cap (fun WW h1 h2 => ?_)
  have J_105 : ∀ (o_raised : Int32) (o_undos : Int32) (o_all_r : Nat → Int32) (o_next_r : Nat → Int32) (o_undone_r : Nat → Int32) (rr : Int32 × Int32 × Int32 × (Nat → Int32) × (Nat → Int32) × (Nat → Int32)) (hf : fX8_turn_105 o_raised o_undos o_all_r o_next_r o_undone_r = some rr) (hG : G0 rr) (H : Heap) (locs : List Loc) (hP : va_P (dC, dI) vwCl [(h_o, .inr (7, [.ref h_o_plans, .ref h_o_makers, .ref h_o_halves, .int o_raised, .ref h_o_all, .ref h_o_text, .ref h_o_saved, .ref h_o_undone, .int o_undos, .int o_reached, .int o_length, .int o_begin, .int o_letters, .int o_sort, .long o_word, .int o_wrongAt, .int o_badAt, .int o_bad, .ref h_o_told, .ref h_o_shift, .int o_firstX, .int o_firstY, .int o_secondX, .int o_secondY, .ref h_o_rootOf, .ref h_o_becomes, .ref h_o_comes, .ref h_o_next, .int o_x])), (h_o_all, .inl (ca 0, 350, .inl o_all_r)), (h_o_next, .inl (ca 0, 64, .inl o_next_r)), (h_o_plans, .inl (ca 0, 80, .inl o_plans_r)), (h_o_undone, .inl (ca 0, 536, .inl o_undone_r))] H) (hD : va_D A [(h_o, .inr (7, [.ref h_o_plans, .ref h_o_makers, .ref h_o_halves, .int o_raised, .ref h_o_all, .ref h_o_text, .ref h_o_saved, .ref h_o_undone, .int o_undos, .int o_reached, .int o_length, .int o_begin, .int o_letters, .int o_sort, .long o_word, .int o_wrongAt, .int o_badAt, .int o_bad, .ref h_o_told, .ref h_o_shift, .int o_firstX, .int o_firstY, .int o_secondX, .int o_secondY, .ref h_o_rootOf, .ref h_o_becomes, .ref h_o_comes, .ref h_o_next, .int o_x])), (h_o_all, .inl (ca 0, 350, .inl o_all_r)), (h_o_next, .inl (ca 0, 64, .inl o_next_r)), (h_o_plans, .inl (ca 0, 80, .inl o_plans_r)), (h_o_undone, .inl (ca 0, 536, .inl o_undone_r))]) (hS : va_S A s.heap H locs) (ls : Array Slot) (hl : lv_has ls 4 [(0, .ref h_o)]), WW H locs (F0 m 105 ls []) := by
    intro o_raised o_undos o_all_r o_next_r o_undone_r rr hf hG H locs hP hD hS ls hl
    refine h2 ?_
    unfold fX8_turn_105 at hf
    refine lv_aload_n hx hb dX8_turn_105 rfl (lv_at hl 0 rfl) ?_
    obtain ⟨q106, hq106, hf⟩ := ds_ob hf
    refine ds_calli (wr := [(h_o_plans, .inl (ca 0, 80, .inl o_plans_r))]) (va_runV (As := []) (rest := []) ⟨hx, hb, hml, hown, hts⟩ (c_X8_isOther l dC dI ca sa h_o h_o_plans h_o_makers h_o_halves h_o_all h_o_text h_o_saved h_o_undone h_o_told h_o_shift h_o_rootOf h_o_becomes h_o_comes h_o_next H.size o_raised o_undos o_reached o_length o_begin o_letters o_sort o_word o_wrongAt o_badAt o_bad o_firstX o_firstY o_secondX o_secondY o_x o_next_r o_all_r o_undone_r  q106 hq106) (cwV 0 hts (ds_gV kw_854 kw_855 kw_856 kw_597 kw_857) rfl rfl rfl (by decide +kernel) ⟨Nat.le_of_ble_eq_true rfl, Nat.le_of_ble_eq_true rfl⟩) ⟨ds_blind, va_recv hK hP (ci := 7) (q0 := 0) rfl rfl, ds_at hP hD hK hE hS hA [0, 2, 1, 4] rfl rfl _⟩ rfl rfl hl.1 rfl (lv_room (Nat.le_of_ble_eq_true rfl)) dX8_turn_106 ⟨Nat.zero_le _, Nat.zero_le _⟩) hP hD hS hA [0, 2, 1, 4] [3] rfl rfl rfl (by decide) (fun H locs hP hD hS => ?_)
    have hP : va_P (dC, dI) vwCl [(h_o_plans, .inl (ca 0, 80, .inl o_plans_r)), (h_o, .inr (7, [.ref h_o_plans, .ref h_o_makers, .ref h_o_halves, .int o_raised, .ref h_o_all, .ref h_o_text, .ref h_o_saved, .ref h_o_undone, .int q106.2.1, .int o_reached, .int o_length, .int o_begin, .int o_letters, .int o_sort, .long o_word, .int o_wrongAt, .int o_badAt, .int o_bad, .ref h_o_told, .ref h_o_shift, .int o_firstX, .int o_firstY, .int o_secondX, .int o_secondY, .ref h_o_rootOf, .ref h_o_becomes, .ref h_o_comes, .ref h_o_next, .int o_x])), (h_o_next, .inl (ca 0, 64, .inl o_next_r)), (h_o_all, .inl (ca 0, 350, .inl q106.2.2.1)), (h_o_undone, .inl (ca 0, 536, .inl q106.2.2.2))] H := hP
    have hD : va_D A [(h_o_plans, .inl (ca 0, 80, .inl o_plans_r)), (h_o, .inr (7, [.ref h_o_plans, .ref h_o_makers, .ref h_o_halves, .int o_raised, .ref h_o_all, .ref h_o_text, .ref h_o_saved, .ref h_o_undone, .int q106.2.1, .int o_reached, .int o_length, .int o_begin, .int o_letters, .int o_sort, .long o_word, .int o_wrongAt, .int o_badAt, .int o_bad, .ref h_o_told, .ref h_o_shift, .int o_firstX, .int o_firstY, .int o_secondX, .int o_secondY, .ref h_o_rootOf, .ref h_o_becomes, .ref h_o_comes, .ref h_o_next, .int o_x])), (h_o_next, .inl (ca 0, 64, .inl o_next_r)), (h_o_all, .inl (ca 0, 350, .inl q106.2.2.1)), (h_o_undone, .inl (ca 0, 536, .inl q106.2.2.2))] := hD
    obtain ⟨z_109, hf⟩ := ds_c hf
    have hf := Option.some.inj hf
    subst hf
    rw [eG0] at hG
    have hG : _ = res := hG
    subst hG
    exact W.zret (v := q106.1) (ty := .boolean) hx hb hr (ds_zn z_109) (fun t ht hW => ⟨⟨q106.1, (), rfl, rfl, by rw [ht]; exact (hP.sub [1, 3, 2, 0, 4] rfl), (hD.sub [1, 3, 2, 0, 4] rfl rfl)⟩, hS.F ht⟩) hS.2.2 dX8_turn_109
  have J_42 : ∀ (o_raised : Int32) (o_undos : Int32) (o_all_r : Nat → Int32) (o_undone_r : Nat → Int32) (n : Nat) (v2 : Int32) (o_next_r : Nat → Int32) (rr : Int32 × Int32 × Int32 × (Nat → Int32) × (Nat → Int32) × (Nat → Int32)) (hf : ds_it (fun s => fX8_turn_42_b o_raised o_undos o_all_r o_plans_r o_undone_r p1 s.1 s.2) n (v2, o_next_r) = some rr) (hG : G0 rr) (H : Heap) (locs : List Loc) (hP : va_P (dC, dI) vwCl [(h_o, .inr (7, [.ref h_o_plans, .ref h_o_makers, .ref h_o_halves, .int o_raised, .ref h_o_all, .ref h_o_text, .ref h_o_saved, .ref h_o_undone, .int o_undos, .int o_reached, .int o_length, .int o_begin, .int o_letters, .int o_sort, .long o_word, .int o_wrongAt, .int o_badAt, .int o_bad, .ref h_o_told, .ref h_o_shift, .int o_firstX, .int o_firstY, .int o_secondX, .int o_secondY, .ref h_o_rootOf, .ref h_o_becomes, .ref h_o_comes, .ref h_o_next, .int o_x])), (h_o_all, .inl (ca 0, 350, .inl o_all_r)), (h_o_next, .inl (ca 0, 64, .inl o_next_r)), (h_o_plans, .inl (ca 0, 80, .inl o_plans_r)), (h_o_undone, .inl (ca 0, 536, .inl o_undone_r))] H) (hD : va_D A [(h_o, .inr (7, [.ref h_o_plans, .ref h_o_makers, .ref h_o_halves, .int o_raised, .ref h_o_all, .ref h_o_text, .ref h_o_saved, .ref h_o_undone, .int o_undos, .int o_reached, .int o_length, .int o_begin, .int o_letters, .int o_sort, .long o_word, .int o_wrongAt, .int o_badAt, .int o_bad, .ref h_o_told, .ref h_o_shift, .int o_firstX, .int o_firstY, .int o_secondX, .int o_secondY, .ref h_o_rootOf, .ref h_o_becomes, .ref h_o_comes, .ref h_o_next, .int o_x])), (h_o_all, .inl (ca 0, 350, .inl o_all_r)), (h_o_next, .inl (ca 0, 64, .inl o_next_r)), (h_o_plans, .inl (ca 0, 80, .inl o_plans_r)), (h_o_undone, .inl (ca 0, 536, .inl o_undone_r))]) (hS : va_S A s.heap H locs) (ls : Array Slot) (hl : lv_has ls 4 [(0, .ref h_o), (1, .int p1), (2, .int v2)]), WW H locs (F0 m 42 ls []) := by
    intro o_raised o_undos o_all_r o_undone_r n
    induction n with
    | zero => intro v2 o_next_r rr hf; exact (ds_it_zero hf).elim
    | succ n ih42 =>
      intro v2 o_next_r rr hf hG H locs hP hD hS ls hl
      refine h2 ?_
      obtain ⟨rr, hf, hG⟩ := ds_it_succ hf hG
      replace hf : fX8_turn_42_b o_raised o_undos o_all_r o_plans_r o_undone_r p1 v2 o_next_r = some rr := hf
      obtain ⟨G1, eG1⟩ : ∃ G : ((Int32 × (Nat → Int32)) ⊕ (Int32 × Int32 × Int32 × (Nat → Int32) × (Nat → Int32) × (Nat → Int32))) → Prop, G = ds_G (fun s' => ∃ r', ds_it (fun s => fX8_turn_42_b o_raised o_undos o_all_r o_plans_r o_undone_r p1 s.1 s.2) n s' = some r' ∧ G0 r') G0 := ⟨_, rfl⟩
      rw [← eG1] at hG
      have J_99 : ∀ (v2 : Int32) (o_next_r : Nat → Int32) (rr : (Int32 × (Nat → Int32)) ⊕ (Int32 × Int32 × Int32 × (Nat → Int32) × (Nat → Int32) × (Nat → Int32))) (hf : fX8_turn_99 o_next_r v2 = some rr) (hG : G1 rr) (H : Heap) (locs : List Loc) (hP : va_P (dC, dI) vwCl [(h_o, .inr (7, [.ref h_o_plans, .ref h_o_makers, .ref h_o_halves, .int o_raised, .ref h_o_all, .ref h_o_text, .ref h_o_saved, .ref h_o_undone, .int o_undos, .int o_reached, .int o_length, .int o_begin, .int o_letters, .int o_sort, .long o_word, .int o_wrongAt, .int o_badAt, .int o_bad, .ref h_o_told, .ref h_o_shift, .int o_firstX, .int o_firstY, .int o_secondX, .int o_secondY, .ref h_o_rootOf, .ref h_o_becomes, .ref h_o_comes, .ref h_o_next, .int o_x])), (h_o_all, .inl (ca 0, 350, .inl o_all_r)), (h_o_next, .inl (ca 0, 64, .inl o_next_r)), (h_o_plans, .inl (ca 0, 80, .inl o_plans_r)), (h_o_undone, .inl (ca 0, 536, .inl o_undone_r))] H) (hD : va_D A [(h_o, .inr (7, [.ref h_o_plans, .ref h_o_makers, .ref h_o_halves, .int o_raised, .ref h_o_all, .ref h_o_text, .ref h_o_saved, .ref h_o_undone, .int o_undos, .int o_reached, .int o_length, .int o_begin, .int o_letters, .int o_sort, .long o_word, .int o_wrongAt, .int o_badAt, .int o_bad, .ref h_o_told, .ref h_o_shift, .int o_firstX, .int o_firstY, .int o_secondX, .int o_secondY, .ref h_o_rootOf, .ref h_o_becomes, .ref h_o_comes, .ref h_o_next, .int o_x])), (h_o_all, .inl (ca 0, 350, .inl o_all_r)), (h_o_next, .inl (ca 0, 64, .inl o_next_r)), (h_o_plans, .inl (ca 0, 80, .inl o_plans_r)), (h_o_undone, .inl (ca 0, 536, .inl o_undone_r))]) (hS : va_S A s.heap H locs) (ls : Array Slot) (hl : lv_has ls 4 [(0, .ref h_o), (1, .int p1), (2, .int v2)]), WW H locs (F0 m 99 ls []) := by
        intro v2 o_next_r rr hf hG H locs hP hD hS ls hl
        refine h2 ?_
        unfold fX8_turn_99 at hf
        refine lv_iinc (v := (v2 + 1)) (lv' := [(2, .int (v2 + 1)), (0, .ref h_o), (1, .int p1)]) hx hb dX8_turn_99 hl (k := 2) rfl rfl (by decide) rfl (fun ls hl => ?_)
        refine lv_goto (tgt := 42) hx hb dX8_turn_102 (by decide) ?_
        have hf := Option.some.inj hf
        subst hf
        rw [eG1] at hG
        obtain ⟨rr, hf, hG⟩ := hG
        exact h1 (ih42 (v2 + 1) o_next_r rr hf hG _ _ hP hD hS _ (lv_sub hl [1, 2, 0] rfl))
      have J_54 : ∀ (v2 : Int32) (n : Nat) (v3 : Int32) (o_next_r : Nat → Int32) (rr : (Int32 × (Nat → Int32)) ⊕ (Int32 × Int32 × Int32 × (Nat → Int32) × (Nat → Int32) × (Nat → Int32))) (hf : ds_it (fun s => fX8_turn_54_b o_all_r o_plans_r p1 v2 s.1 s.2) n (v3, o_next_r) = some rr) (hG : G1 rr) (H : Heap) (locs : List Loc) (hP : va_P (dC, dI) vwCl [(h_o, .inr (7, [.ref h_o_plans, .ref h_o_makers, .ref h_o_halves, .int o_raised, .ref h_o_all, .ref h_o_text, .ref h_o_saved, .ref h_o_undone, .int o_undos, .int o_reached, .int o_length, .int o_begin, .int o_letters, .int o_sort, .long o_word, .int o_wrongAt, .int o_badAt, .int o_bad, .ref h_o_told, .ref h_o_shift, .int o_firstX, .int o_firstY, .int o_secondX, .int o_secondY, .ref h_o_rootOf, .ref h_o_becomes, .ref h_o_comes, .ref h_o_next, .int o_x])), (h_o_all, .inl (ca 0, 350, .inl o_all_r)), (h_o_next, .inl (ca 0, 64, .inl o_next_r)), (h_o_plans, .inl (ca 0, 80, .inl o_plans_r)), (h_o_undone, .inl (ca 0, 536, .inl o_undone_r))] H) (hD : va_D A [(h_o, .inr (7, [.ref h_o_plans, .ref h_o_makers, .ref h_o_halves, .int o_raised, .ref h_o_all, .ref h_o_text, .ref h_o_saved, .ref h_o_undone, .int o_undos, .int o_reached, .int o_length, .int o_begin, .int o_letters, .int o_sort, .long o_word, .int o_wrongAt, .int o_badAt, .int o_bad, .ref h_o_told, .ref h_o_shift, .int o_firstX, .int o_firstY, .int o_secondX, .int o_secondY, .ref h_o_rootOf, .ref h_o_becomes, .ref h_o_comes, .ref h_o_next, .int o_x])), (h_o_all, .inl (ca 0, 350, .inl o_all_r)), (h_o_next, .inl (ca 0, 64, .inl o_next_r)), (h_o_plans, .inl (ca 0, 80, .inl o_plans_r)), (h_o_undone, .inl (ca 0, 536, .inl o_undone_r))]) (hS : va_S A s.heap H locs) (ls : Array Slot) (hl : lv_has ls 4 [(0, .ref h_o), (1, .int p1), (2, .int v2), (3, .int v3)]), WW H locs (F0 m 54 ls []) := by
        intro v2 n
        induction n with
        | zero => intro v3 o_next_r rr hf; exact (ds_it_zero hf).elim
        | succ n ih54 =>
          intro v3 o_next_r rr hf hG H locs hP hD hS ls hl
          refine h2 ?_
          obtain ⟨rr, hf, hG⟩ := ds_it_succ hf hG
          replace hf : fX8_turn_54_b o_all_r o_plans_r p1 v2 v3 o_next_r = some rr := hf
          obtain ⟨G2, eG2⟩ : ∃ G : ((Int32 × (Nat → Int32)) ⊕ ((Int32 × (Nat → Int32)) ⊕ (Int32 × Int32 × Int32 × (Nat → Int32) × (Nat → Int32) × (Nat → Int32)))) → Prop, G = ds_G (fun s' => ∃ r', ds_it (fun s => fX8_turn_54_b o_all_r o_plans_r p1 v2 s.1 s.2) n s' = some r' ∧ G1 r') G1 := ⟨_, rfl⟩
          rw [← eG2] at hG
          unfold fX8_turn_54_b at hf
          refine lv_iload_n hx hb dX8_turn_54 rfl (lv_at hl 3 rfl) ?_
          refine lv_aload_n hx hb dX8_turn_55 rfl (lv_at hl 0 rfl) ?_
          refine va_get (D := (dC, dI)) (ci := 7) (v := .ref h_o_all) (C := RX8) (T := TX8) (N := 29) hx hb hts (fun w h => List.mem_cons_of_mem _ (kc_X8 w h)) hown hK hP 0 rfl rfl 4 (by decide) (hg kw_594) (fun _ h9 => h9) rfl dX8_turn_56 ?_
          refine lv_iconst (v := 0) hx hb dX8_turn_59 (by decide) ?_
          refine va_iald hx hb hK hP 1 0 rfl rfl (ds_in_ok (i := 0) (n := 350) (by decide)) dX8_turn_60 ?_
          refine lv_icmp_ge (tgt := 99) hx hb dX8_turn_61 (by decide) (fun c_61 => ?_) (fun c_61 => ?_)
          · replace hf := ds_t c_61 hf
            obtain ⟨rr, hr_0, hf⟩ := ds_ob hf
            have hf := Option.some.inj hf
            subst hf
            rw [eG2] at hG
            replace hG : G1 rr := hG
            have hf := hr_0
            exact h1 (J_99 v2 o_next_r _ hf hG _ _ hP hD hS _ (lv_sub hl [0, 1, 2] rfl))
          · replace hf := ds_f c_61 hf
            refine lv_aload_n hx hb dX8_turn_64 rfl (lv_at hl 0 rfl) ?_
            refine va_get (D := (dC, dI)) (ci := 7) (v := .ref h_o_next) (C := RX8) (T := TX8) (N := 29) hx hb hts (fun w h => List.mem_cons_of_mem _ (kc_X8 w h)) hown hK hP 0 rfl rfl 27 (by decide) (hg kw_853) (fun _ h9 => h9) rfl dX8_turn_65 ?_
            refine lv_aload_n hx hb dX8_turn_68 rfl (lv_at hl 0 rfl) ?_
            refine lv_aload_n hx hb dX8_turn_69 rfl (lv_at hl 0 rfl) ?_
            refine lv_iload_n hx hb dX8_turn_70 rfl (lv_at hl 1 rfl) ?_
            refine lv_iload_n hx hb dX8_turn_71 rfl (lv_at hl 3 rfl) ?_
            refine lv_iload_n hx hb dX8_turn_72 rfl (lv_at hl 2 rfl) ?_
            obtain ⟨q73, hq73, hf⟩ := ds_ob hf
            refine ds_calli (wr := [(h_o_next, .inl (ca 0, 64, .inl o_next_r)), (h_o_undone, .inl (ca 0, 536, .inl o_undone_r))]) (va_runV (As := [.int p1, .int v3, .int v2]) (rest := [.ref h_o, .ref h_o_next]) ⟨hx, hb, hml, hown, hts⟩ (c_X8_turnX l dC dI ca sa h_o h_o_plans h_o_makers h_o_halves h_o_all h_o_text h_o_saved h_o_undone h_o_told h_o_shift h_o_rootOf h_o_becomes h_o_comes h_o_next H.size o_raised o_undos o_reached o_length o_begin o_letters o_sort o_word o_wrongAt o_badAt o_bad o_firstX o_firstY o_secondX o_secondY o_x o_all_r o_plans_r p1 v3 v2 q73 hq73) (cwV 3 hts (ds_gV kw_655 kw_656 kw_657 kw_597 kw_658) rfl rfl rfl (by decide +kernel) ⟨Nat.le_of_ble_eq_true rfl, Nat.le_of_ble_eq_true rfl⟩) ⟨ds_blind, va_recv hK hP (ci := 7) (q0 := 0) rfl rfl, ds_at hP hD hK hE hS hA [0, 1, 3] rfl rfl _⟩ rfl rfl hl.1 rfl (lv_room (Nat.le_of_ble_eq_true rfl)) dX8_turn_73 ⟨Nat.zero_le _, Nat.zero_le _⟩) hP hD hS hA [0, 1, 3] [2, 4] rfl rfl rfl (by decide) (fun H locs hP hD hS => ?_)
            have hP : va_P (dC, dI) vwCl [(h_o_next, .inl (ca 0, 64, .inl o_next_r)), (h_o_undone, .inl (ca 0, 536, .inl o_undone_r)), (h_o, .inr (7, [.ref h_o_plans, .ref h_o_makers, .ref h_o_halves, .int o_raised, .ref h_o_all, .ref h_o_text, .ref h_o_saved, .ref h_o_undone, .int o_undos, .int o_reached, .int o_length, .int o_begin, .int o_letters, .int o_sort, .long o_word, .int o_wrongAt, .int o_badAt, .int o_bad, .ref h_o_told, .ref h_o_shift, .int o_firstX, .int o_firstY, .int o_secondX, .int o_secondY, .ref h_o_rootOf, .ref h_o_becomes, .ref h_o_comes, .ref h_o_next, .int o_x])), (h_o_all, .inl (ca 0, 350, .inl o_all_r)), (h_o_plans, .inl (ca 0, 80, .inl o_plans_r))] H := hP
            have hD : va_D A [(h_o_next, .inl (ca 0, 64, .inl o_next_r)), (h_o_undone, .inl (ca 0, 536, .inl o_undone_r)), (h_o, .inr (7, [.ref h_o_plans, .ref h_o_makers, .ref h_o_halves, .int o_raised, .ref h_o_all, .ref h_o_text, .ref h_o_saved, .ref h_o_undone, .int o_undos, .int o_reached, .int o_length, .int o_begin, .int o_letters, .int o_sort, .long o_word, .int o_wrongAt, .int o_badAt, .int o_bad, .ref h_o_told, .ref h_o_shift, .int o_firstX, .int o_firstY, .int o_secondX, .int o_secondY, .ref h_o_rootOf, .ref h_o_becomes, .ref h_o_comes, .ref h_o_next, .int o_x])), (h_o_all, .inl (ca 0, 350, .inl o_all_r)), (h_o_plans, .inl (ca 0, 80, .inl o_plans_r))] := hD
            refine lv_aload_n hx hb dX8_turn_76 rfl (lv_at hl 0 rfl) ?_
            refine lv_iload_n hx hb dX8_turn_77 rfl (lv_at hl 1 rfl) ?_
            refine lv_iload_n hx hb dX8_turn_78 rfl (lv_at hl 3 rfl) ?_
            refine lv_iload_n hx hb dX8_turn_79 rfl (lv_at hl 2 rfl) ?_
            obtain ⟨q80, hq80, hf⟩ := ds_ob hf
            refine ds_calli (wr := [(h_o_next, .inl (ca 0, 64, .inl o_next_r)), (h_o_undone, .inl (ca 0, 536, .inl o_undone_r))]) (va_runV (As := [.int p1, .int v3, .int v2]) (rest := [.int q73, .ref h_o, .ref h_o_next]) ⟨hx, hb, hml, hown, hts⟩ (c_X8_turnY l dC dI ca sa h_o h_o_plans h_o_makers h_o_halves h_o_all h_o_text h_o_saved h_o_undone h_o_told h_o_shift h_o_rootOf h_o_becomes h_o_comes h_o_next H.size o_raised o_undos o_reached o_length o_begin o_letters o_sort o_word o_wrongAt o_badAt o_bad o_firstX o_firstY o_secondX o_secondY o_x o_all_r o_plans_r p1 v3 v2 q80 hq80) (cwV 3 hts (ds_gV kw_659 kw_660 kw_661 kw_597 kw_662) rfl rfl rfl (by decide +kernel) ⟨Nat.le_of_ble_eq_true rfl, Nat.le_of_ble_eq_true rfl⟩) ⟨ds_blind, va_recv hK hP (ci := 7) (q0 := 2) rfl rfl, ds_at hP hD hK hE hS hA [2, 3, 4] rfl rfl _⟩ rfl rfl hl.1 rfl (lv_room (Nat.le_of_ble_eq_true rfl)) dX8_turn_80 ⟨Nat.zero_le _, Nat.zero_le _⟩) hP hD hS hA [2, 3, 4] [0, 1] rfl rfl rfl (by decide) (fun H locs hP hD hS => ?_)
            have hP : va_P (dC, dI) vwCl [(h_o_next, .inl (ca 0, 64, .inl o_next_r)), (h_o_undone, .inl (ca 0, 536, .inl o_undone_r)), (h_o, .inr (7, [.ref h_o_plans, .ref h_o_makers, .ref h_o_halves, .int o_raised, .ref h_o_all, .ref h_o_text, .ref h_o_saved, .ref h_o_undone, .int o_undos, .int o_reached, .int o_length, .int o_begin, .int o_letters, .int o_sort, .long o_word, .int o_wrongAt, .int o_badAt, .int o_bad, .ref h_o_told, .ref h_o_shift, .int o_firstX, .int o_firstY, .int o_secondX, .int o_secondY, .ref h_o_rootOf, .ref h_o_becomes, .ref h_o_comes, .ref h_o_next, .int o_x])), (h_o_all, .inl (ca 0, 350, .inl o_all_r)), (h_o_plans, .inl (ca 0, 80, .inl o_plans_r))] H := hP
            have hD : va_D A [(h_o_next, .inl (ca 0, 64, .inl o_next_r)), (h_o_undone, .inl (ca 0, 536, .inl o_undone_r)), (h_o, .inr (7, [.ref h_o_plans, .ref h_o_makers, .ref h_o_halves, .int o_raised, .ref h_o_all, .ref h_o_text, .ref h_o_saved, .ref h_o_undone, .int o_undos, .int o_reached, .int o_length, .int o_begin, .int o_letters, .int o_sort, .long o_word, .int o_wrongAt, .int o_badAt, .int o_bad, .ref h_o_told, .ref h_o_shift, .int o_firstX, .int o_firstY, .int o_secondX, .int o_secondY, .ref h_o_rootOf, .ref h_o_becomes, .ref h_o_comes, .ref h_o_next, .int o_x])), (h_o_all, .inl (ca 0, 350, .inl o_all_r)), (h_o_plans, .inl (ca 0, 80, .inl o_plans_r))] := hD
            obtain ⟨q83, hq83, hf⟩ := ds_ob hf
            refine ds_calli (wr := [(h_o_next, .inl (ca 0, 64, .inl o_next_r)), (h_o_undone, .inl (ca 0, 536, .inl o_undone_r)), (h_o_plans, .inl (ca 0, 80, .inl o_plans_r))]) (va_runV (As := [.int q73, .int q80]) (rest := [.ref h_o_next]) ⟨hx, hb, hml, hown, hts⟩ (c_X8_at l dC dI ca sa h_o h_o_plans h_o_makers h_o_halves h_o_all h_o_text h_o_saved h_o_undone h_o_told h_o_shift h_o_rootOf h_o_becomes h_o_comes h_o_next H.size o_raised o_undos o_reached o_length o_begin o_letters o_sort o_word o_wrongAt o_badAt o_bad o_firstX o_firstY o_secondX o_secondY o_x o_all_r q73 q80 q83 hq83) (cwV 2 hts (ds_gV kw_599 kw_600 kw_601 kw_597 kw_602) rfl rfl rfl (by decide +kernel) ⟨Nat.le_of_ble_eq_true rfl, Nat.le_of_ble_eq_true rfl⟩) ⟨ds_blind, va_recv hK hP (ci := 7) (q0 := 2) rfl rfl, ds_at hP hD hK hE hS hA [2, 3] rfl rfl _⟩ rfl rfl hl.1 rfl (lv_room (Nat.le_of_ble_eq_true rfl)) dX8_turn_83 ⟨Nat.zero_le _, Nat.zero_le _⟩) hP hD hS hA [2, 3] [0, 1, 4] rfl rfl rfl (by decide) (fun H locs hP hD hS => ?_)
            have hP : va_P (dC, dI) vwCl [(h_o_next, .inl (ca 0, 64, .inl o_next_r)), (h_o_undone, .inl (ca 0, 536, .inl o_undone_r)), (h_o_plans, .inl (ca 0, 80, .inl o_plans_r)), (h_o, .inr (7, [.ref h_o_plans, .ref h_o_makers, .ref h_o_halves, .int o_raised, .ref h_o_all, .ref h_o_text, .ref h_o_saved, .ref h_o_undone, .int o_undos, .int o_reached, .int o_length, .int o_begin, .int o_letters, .int o_sort, .long o_word, .int o_wrongAt, .int o_badAt, .int o_bad, .ref h_o_told, .ref h_o_shift, .int o_firstX, .int o_firstY, .int o_secondX, .int o_secondY, .ref h_o_rootOf, .ref h_o_becomes, .ref h_o_comes, .ref h_o_next, .int o_x])), (h_o_all, .inl (ca 0, 350, .inl o_all_r))] H := hP
            have hD : va_D A [(h_o_next, .inl (ca 0, 64, .inl o_next_r)), (h_o_undone, .inl (ca 0, 536, .inl o_undone_r)), (h_o_plans, .inl (ca 0, 80, .inl o_plans_r)), (h_o, .inr (7, [.ref h_o_plans, .ref h_o_makers, .ref h_o_halves, .int o_raised, .ref h_o_all, .ref h_o_text, .ref h_o_saved, .ref h_o_undone, .int o_undos, .int o_reached, .int o_length, .int o_begin, .int o_letters, .int o_sort, .long o_word, .int o_wrongAt, .int o_badAt, .int o_bad, .ref h_o_told, .ref h_o_shift, .int o_firstX, .int o_firstY, .int o_secondX, .int o_secondY, .ref h_o_rootOf, .ref h_o_becomes, .ref h_o_comes, .ref h_o_next, .int o_x])), (h_o_all, .inl (ca 0, 350, .inl o_all_r))] := hD
            refine lv_aload_n hx hb dX8_turn_86 rfl (lv_at hl 0 rfl) ?_
            refine lv_iload_n hx hb dX8_turn_87 rfl (lv_at hl 3 rfl) ?_
            refine lv_iload_n hx hb dX8_turn_88 rfl (lv_at hl 2 rfl) ?_
            obtain ⟨q89, hq89, hf⟩ := ds_ob hf
            refine ds_calli (wr := [(h_o_next, .inl (ca 0, 64, .inl o_next_r)), (h_o_undone, .inl (ca 0, 536, .inl o_undone_r)), (h_o_plans, .inl (ca 0, 80, .inl o_plans_r))]) (va_runV (As := [.int v3, .int v2]) (rest := [.int q83, .ref h_o_next]) ⟨hx, hb, hml, hown, hts⟩ (c_X8_colour l dC dI ca sa h_o h_o_plans h_o_makers h_o_halves h_o_all h_o_text h_o_saved h_o_undone h_o_told h_o_shift h_o_rootOf h_o_becomes h_o_comes h_o_next H.size o_raised o_undos o_reached o_length o_begin o_letters o_sort o_word o_wrongAt o_badAt o_bad o_firstX o_firstY o_secondX o_secondY o_x o_all_r v3 v2 q89 hq89) (cwV 2 hts (ds_gV kw_651 kw_652 kw_653 kw_597 kw_654) rfl rfl rfl (by decide +kernel) ⟨Nat.le_of_ble_eq_true rfl, Nat.le_of_ble_eq_true rfl⟩) ⟨ds_blind, va_recv hK hP (ci := 7) (q0 := 3) rfl rfl, ds_at hP hD hK hE hS hA [3, 4] rfl rfl _⟩ rfl rfl hl.1 rfl (lv_room (Nat.le_of_ble_eq_true rfl)) dX8_turn_89 ⟨Nat.zero_le _, Nat.zero_le _⟩) hP hD hS hA [3, 4] [0, 1, 2] rfl rfl rfl (by decide) (fun H locs hP hD hS => ?_)
            have hP : va_P (dC, dI) vwCl [(h_o_next, .inl (ca 0, 64, .inl o_next_r)), (h_o_undone, .inl (ca 0, 536, .inl o_undone_r)), (h_o_plans, .inl (ca 0, 80, .inl o_plans_r)), (h_o, .inr (7, [.ref h_o_plans, .ref h_o_makers, .ref h_o_halves, .int o_raised, .ref h_o_all, .ref h_o_text, .ref h_o_saved, .ref h_o_undone, .int o_undos, .int o_reached, .int o_length, .int o_begin, .int o_letters, .int o_sort, .long o_word, .int o_wrongAt, .int o_badAt, .int o_bad, .ref h_o_told, .ref h_o_shift, .int o_firstX, .int o_firstY, .int o_secondX, .int o_secondY, .ref h_o_rootOf, .ref h_o_becomes, .ref h_o_comes, .ref h_o_next, .int o_x])), (h_o_all, .inl (ca 0, 350, .inl o_all_r))] H := hP
            have hD : va_D A [(h_o_next, .inl (ca 0, 64, .inl o_next_r)), (h_o_undone, .inl (ca 0, 536, .inl o_undone_r)), (h_o_plans, .inl (ca 0, 80, .inl o_plans_r)), (h_o, .inr (7, [.ref h_o_plans, .ref h_o_makers, .ref h_o_halves, .int o_raised, .ref h_o_all, .ref h_o_text, .ref h_o_saved, .ref h_o_undone, .int o_undos, .int o_reached, .int o_length, .int o_begin, .int o_letters, .int o_sort, .long o_word, .int o_wrongAt, .int o_badAt, .int o_bad, .ref h_o_told, .ref h_o_shift, .int o_firstX, .int o_firstY, .int o_secondX, .int o_secondY, .ref h_o_rootOf, .ref h_o_becomes, .ref h_o_comes, .ref h_o_next, .int o_x])), (h_o_all, .inl (ca 0, 350, .inl o_all_r))] := hD
            obtain ⟨i_92, hf⟩ := ds_ci hf
            refine va_iast hx hb hK hP hD hS 0 0 rfl rfl i_92 dX8_turn_92 (fun H locs hP hD hS => ?_)
            have hP : va_P (dC, dI) vwCl [(h_o_next, .inl (ca 0, 64, .inl (upd o_next_r q83.toNatClampNeg q89))), (h_o_undone, .inl (ca 0, 536, .inl o_undone_r)), (h_o_plans, .inl (ca 0, 80, .inl o_plans_r)), (h_o, .inr (7, [.ref h_o_plans, .ref h_o_makers, .ref h_o_halves, .int o_raised, .ref h_o_all, .ref h_o_text, .ref h_o_saved, .ref h_o_undone, .int o_undos, .int o_reached, .int o_length, .int o_begin, .int o_letters, .int o_sort, .long o_word, .int o_wrongAt, .int o_badAt, .int o_bad, .ref h_o_told, .ref h_o_shift, .int o_firstX, .int o_firstY, .int o_secondX, .int o_secondY, .ref h_o_rootOf, .ref h_o_becomes, .ref h_o_comes, .ref h_o_next, .int o_x])), (h_o_all, .inl (ca 0, 350, .inl o_all_r))] H := hP
            have hD : va_D A [(h_o_next, .inl (ca 0, 64, .inl (upd o_next_r q83.toNatClampNeg q89))), (h_o_undone, .inl (ca 0, 536, .inl o_undone_r)), (h_o_plans, .inl (ca 0, 80, .inl o_plans_r)), (h_o, .inr (7, [.ref h_o_plans, .ref h_o_makers, .ref h_o_halves, .int o_raised, .ref h_o_all, .ref h_o_text, .ref h_o_saved, .ref h_o_undone, .int o_undos, .int o_reached, .int o_length, .int o_begin, .int o_letters, .int o_sort, .long o_word, .int o_wrongAt, .int o_badAt, .int o_bad, .ref h_o_told, .ref h_o_shift, .int o_firstX, .int o_firstY, .int o_secondX, .int o_secondY, .ref h_o_rootOf, .ref h_o_becomes, .ref h_o_comes, .ref h_o_next, .int o_x])), (h_o_all, .inl (ca 0, 350, .inl o_all_r))] := hD
            refine lv_iinc (v := (v3 + 1)) (lv' := [(3, .int (v3 + 1)), (0, .ref h_o), (1, .int p1), (2, .int v2)]) hx hb dX8_turn_93 hl (k := 3) rfl rfl (by decide) rfl (fun ls hl => ?_)
            refine lv_goto (tgt := 54) hx hb dX8_turn_96 (by decide) ?_
            have hf := Option.some.inj hf
            subst hf
            rw [eG2] at hG
            obtain ⟨rr, hf, hG⟩ := hG
            exact h1 (ih54 (v3 + 1) (upd o_next_r q83.toNatClampNeg q89) rr hf hG _ _ (hP.sub [3, 4, 0, 2, 1] rfl) (hD.sub [3, 4, 0, 2, 1] rfl rfl) hS _ (lv_sub hl [1, 2, 3, 0] rfl))
      unfold fX8_turn_42_b at hf
      refine lv_iload_n hx hb dX8_turn_42 rfl (lv_at hl 2 rfl) ?_
      refine lv_aload_n hx hb dX8_turn_43 rfl (lv_at hl 0 rfl) ?_
      refine va_get (D := (dC, dI)) (ci := 7) (v := .ref h_o_all) (C := RX8) (T := TX8) (N := 29) hx hb hts (fun w h => List.mem_cons_of_mem _ (kc_X8 w h)) hown hK hP 0 rfl rfl 4 (by decide) (hg kw_594) (fun _ h9 => h9) rfl dX8_turn_44 ?_
      refine lv_iconst (v := 1) hx hb dX8_turn_47 (by decide) ?_
      refine va_iald hx hb hK hP 1 0 rfl rfl (ds_in_ok (i := 1) (n := 350) (by decide)) dX8_turn_48 ?_
      refine lv_icmp_ge (tgt := 105) hx hb dX8_turn_49 (by decide) (fun c_49 => ?_) (fun c_49 => ?_)
      · replace hf := ds_t c_49 hf
        obtain ⟨rr, hr_0, hf⟩ := ds_ob hf
        have hf := Option.some.inj hf
        subst hf
        rw [eG1] at hG
        replace hG : G0 rr := hG
        have hf := hr_0
        exact h1 (J_105 o_raised o_undos o_all_r o_next_r o_undone_r _ hf hG _ _ hP hD hS _ (lv_sub hl [0] rfl))
      · replace hf := ds_f c_49 hf
        refine lv_iconst (v := 0) hx hb dX8_turn_52 (by decide) ?_
        refine lv_istore_n (lv' := [(3, .int (0 : Int32)), (0, .ref h_o), (1, .int p1), (2, .int v2)]) hx hb dX8_turn_53 rfl hl (by decide) rfl (fun ls hl => ?_)
        exact h1 (J_54 v2 1000 (0 : Int32) o_next_r _ hf hG _ _ hP hD hS _ (lv_sub hl [1, 2, 3, 0] rfl))
  unfold fX8_turn at hf
  refine lv_aload_n hx hb dX8_turn_0 rfl (lv_at hl 0 rfl) ?_
  refine lv_iconst (v := 0) hx hb dX8_turn_1 (by decide) ?_
  refine va_put (D := (dC, dI)) (ci := 7) (v := .int (0 : Int32)) (ty := tyX8 3) (C := RX8) (T := TX8) (N := 29) hx hb hts (fun w h => List.mem_cons_of_mem _ (kc_X8 w h)) tyX8 tyX8_ok nmX8 hown hK hP hD hS 0 rfl rfl 3 (by decide) (hg kw_564) (fun _ h9 => h9) rfl (by decide +kernel) rfl rfl (Nat.le_of_ble_eq_true rfl) dX8_turn_2 (fun H locs hP hD hS => ?_)
  have hP : va_P (dC, dI) vwCl [(h_o, .inr (7, [.ref h_o_plans, .ref h_o_makers, .ref h_o_halves, .int (0 : Int32), .ref h_o_all, .ref h_o_text, .ref h_o_saved, .ref h_o_undone, .int o_undos, .int o_reached, .int o_length, .int o_begin, .int o_letters, .int o_sort, .long o_word, .int o_wrongAt, .int o_badAt, .int o_bad, .ref h_o_told, .ref h_o_shift, .int o_firstX, .int o_firstY, .int o_secondX, .int o_secondY, .ref h_o_rootOf, .ref h_o_becomes, .ref h_o_comes, .ref h_o_next, .int o_x])), (h_o_all, .inl (ca 0, 350, .inl o_all_r)), (h_o_next, .inl (ca 0, 64, .inl o_next_r)), (h_o_plans, .inl (ca 0, 80, .inl o_plans_r)), (h_o_undone, .inl (ca 0, 536, .inl o_undone_r))] H := hP
  have hD : va_D A [(h_o, .inr (7, [.ref h_o_plans, .ref h_o_makers, .ref h_o_halves, .int (0 : Int32), .ref h_o_all, .ref h_o_text, .ref h_o_saved, .ref h_o_undone, .int o_undos, .int o_reached, .int o_length, .int o_begin, .int o_letters, .int o_sort, .long o_word, .int o_wrongAt, .int o_badAt, .int o_bad, .ref h_o_told, .ref h_o_shift, .int o_firstX, .int o_firstY, .int o_secondX, .int o_secondY, .ref h_o_rootOf, .ref h_o_becomes, .ref h_o_comes, .ref h_o_next, .int o_x])), (h_o_all, .inl (ca 0, 350, .inl o_all_r)), (h_o_next, .inl (ca 0, 64, .inl o_next_r)), (h_o_plans, .inl (ca 0, 80, .inl o_plans_r)), (h_o_undone, .inl (ca 0, 536, .inl o_undone_r))] := hD
  refine lv_iload_n hx hb dX8_turn_5 rfl (lv_at hl 1 rfl) ?_
  refine lv_iconst (v := 0) hx hb dX8_turn_6 (by decide) ?_
  refine lv_aload_n hx hb dX8_turn_7 rfl (lv_at hl 0 rfl) ?_
  obtain ⟨q8, hq8, hf⟩ := ds_ob hf
  refine ds_calli (wr := [(h_o_next, .inl (ca 0, 64, .inl o_next_r)), (h_o_plans, .inl (ca 0, 80, .inl o_plans_r)), (h_o_undone, .inl (ca 0, 536, .inl o_undone_r))]) (va_runV (As := []) (rest := [.int (0 : Int32), .int p1]) ⟨hx, hb, hml, hown, hts⟩ (c_X8_turnings l dC dI ca sa h_o h_o_plans h_o_makers h_o_halves h_o_all h_o_text h_o_saved h_o_undone h_o_told h_o_shift h_o_rootOf h_o_becomes h_o_comes h_o_next H.size (0 : Int32) o_undos o_reached o_length o_begin o_letters o_sort o_word o_wrongAt o_badAt o_bad o_firstX o_firstY o_secondX o_secondY o_x o_all_r  q8 hq8) (cwV 0 hts (ds_gV kw_604 kw_605 kw_606 kw_597 kw_607) rfl rfl rfl (by decide +kernel) ⟨Nat.le_of_ble_eq_true rfl, Nat.le_of_ble_eq_true rfl⟩) ⟨ds_blind, va_recv hK hP (ci := 7) (q0 := 0) rfl rfl, ds_at hP hD hK hE hS hA [0, 1] rfl rfl _⟩ rfl rfl hl.1 rfl (lv_room (Nat.le_of_ble_eq_true rfl)) dX8_turn_8 ⟨Nat.zero_le _, Nat.zero_le _⟩) hP hD hS hA [0, 1] [2, 3, 4] rfl rfl rfl (by decide) (fun H locs hP hD hS => ?_)
  have hP : va_P (dC, dI) vwCl [(h_o_next, .inl (ca 0, 64, .inl o_next_r)), (h_o_plans, .inl (ca 0, 80, .inl o_plans_r)), (h_o_undone, .inl (ca 0, 536, .inl o_undone_r)), (h_o, .inr (7, [.ref h_o_plans, .ref h_o_makers, .ref h_o_halves, .int (0 : Int32), .ref h_o_all, .ref h_o_text, .ref h_o_saved, .ref h_o_undone, .int o_undos, .int o_reached, .int o_length, .int o_begin, .int o_letters, .int o_sort, .long o_word, .int o_wrongAt, .int o_badAt, .int o_bad, .ref h_o_told, .ref h_o_shift, .int o_firstX, .int o_firstY, .int o_secondX, .int o_secondY, .ref h_o_rootOf, .ref h_o_becomes, .ref h_o_comes, .ref h_o_next, .int o_x])), (h_o_all, .inl (ca 0, 350, .inl o_all_r))] H := hP
  have hD : va_D A [(h_o_next, .inl (ca 0, 64, .inl o_next_r)), (h_o_plans, .inl (ca 0, 80, .inl o_plans_r)), (h_o_undone, .inl (ca 0, 536, .inl o_undone_r)), (h_o, .inr (7, [.ref h_o_plans, .ref h_o_makers, .ref h_o_halves, .int (0 : Int32), .ref h_o_all, .ref h_o_text, .ref h_o_saved, .ref h_o_undone, .int o_undos, .int o_reached, .int o_length, .int o_begin, .int o_letters, .int o_sort, .long o_word, .int o_wrongAt, .int o_badAt, .int o_bad, .ref h_o_told, .ref h_o_shift, .int o_firstX, .int o_firstY, .int o_secondX, .int o_secondY, .ref h_o_rootOf, .ref h_o_becomes, .ref h_o_comes, .ref h_o_next, .int o_x])), (h_o_all, .inl (ca 0, 350, .inl o_all_r))] := hD
  refine lv_iconst (v := 1) hx hb dX8_turn_11 (by decide) ?_
  refine lv_isub hx hb dX8_turn_12 ?_
  obtain ⟨q13, hq13, hf⟩ := ds_ob hf
  refine ds_calli (wr := [(h_o_next, .inl (ca 0, 64, .inl o_next_r)), (h_o_plans, .inl (ca 0, 80, .inl o_plans_r)), (h_o_undone, .inl (ca 0, 536, .inl o_undone_r)), (h_o, .inr (7, [.ref h_o_plans, .ref h_o_makers, .ref h_o_halves, .int (0 : Int32), .ref h_o_all, .ref h_o_text, .ref h_o_saved, .ref h_o_undone, .int o_undos, .int o_reached, .int o_length, .int o_begin, .int o_letters, .int o_sort, .long o_word, .int o_wrongAt, .int o_badAt, .int o_bad, .ref h_o_told, .ref h_o_shift, .int o_firstX, .int o_firstY, .int o_secondX, .int o_secondY, .ref h_o_rootOf, .ref h_o_becomes, .ref h_o_comes, .ref h_o_next, .int o_x])), (h_o_all, .inl (ca 0, 350, .inl o_all_r))]) (va_runS (As := [.int p1, .int (0 : Int32), .int (q8 - (1 : Int32))]) (rest := []) ⟨hx, hb, hml, hown, hts⟩ (c_X8_in l dC dI ca sa  H.size  p1 (0 : Int32) (q8 - (1 : Int32)) q13 hq13) (va_cwS 3 hts (ds_gS kw_619 kw_620 kw_597 kw_621) rfl rfl rfl (by decide +kernel) ⟨Nat.le_of_ble_eq_true rfl, Nat.le_of_ble_eq_true rfl⟩) ⟨ds_blind, ds_at hP hD hK hE hS hA [] rfl rfl _⟩ rfl rfl hl.1 rfl (lv_room (Nat.le_of_ble_eq_true rfl)) dX8_turn_13 ⟨Nat.zero_le _, Nat.zero_le _⟩) hP hD hS hA [] [0, 1, 2, 3, 4] rfl rfl rfl (by decide) (fun H locs hP hD hS => ?_)
  have hP : va_P (dC, dI) vwCl [(h_o_next, .inl (ca 0, 64, .inl o_next_r)), (h_o_plans, .inl (ca 0, 80, .inl o_plans_r)), (h_o_undone, .inl (ca 0, 536, .inl o_undone_r)), (h_o, .inr (7, [.ref h_o_plans, .ref h_o_makers, .ref h_o_halves, .int (0 : Int32), .ref h_o_all, .ref h_o_text, .ref h_o_saved, .ref h_o_undone, .int o_undos, .int o_reached, .int o_length, .int o_begin, .int o_letters, .int o_sort, .long o_word, .int o_wrongAt, .int o_badAt, .int o_bad, .ref h_o_told, .ref h_o_shift, .int o_firstX, .int o_firstY, .int o_secondX, .int o_secondY, .ref h_o_rootOf, .ref h_o_becomes, .ref h_o_comes, .ref h_o_next, .int o_x])), (h_o_all, .inl (ca 0, 350, .inl o_all_r))] H := hP
  have hD : va_D A [(h_o_next, .inl (ca 0, 64, .inl o_next_r)), (h_o_plans, .inl (ca 0, 80, .inl o_plans_r)), (h_o_undone, .inl (ca 0, 536, .inl o_undone_r)), (h_o, .inr (7, [.ref h_o_plans, .ref h_o_makers, .ref h_o_halves, .int (0 : Int32), .ref h_o_all, .ref h_o_text, .ref h_o_saved, .ref h_o_undone, .int o_undos, .int o_reached, .int o_length, .int o_begin, .int o_letters, .int o_sort, .long o_word, .int o_wrongAt, .int o_badAt, .int o_bad, .ref h_o_told, .ref h_o_shift, .int o_firstX, .int o_firstY, .int o_secondX, .int o_secondY, .ref h_o_rootOf, .ref h_o_becomes, .ref h_o_comes, .ref h_o_next, .int o_x])), (h_o_all, .inl (ca 0, 350, .inl o_all_r))] := hD
  refine lv_if_eq (tgt := 34) hx hb dX8_turn_16 (by decide) (fun c_16 => ?_) (fun c_16 => ?_)
  · replace hf := ds_t c_16 hf
    refine lv_iconst (v := 0) hx hb dX8_turn_34 (by decide) ?_
    have hf := Option.some.inj hf
    subst hf
    rw [eG0] at hG
    have hG : _ = res := hG
    subst hG
    exact W.zret (v := (0 : Int32)) (ty := .boolean) hx hb hr rfl (fun t ht hW => ⟨⟨(0 : Int32), (), rfl, rfl, by rw [ht]; exact (hP.sub [3, 4, 0, 1, 2] rfl), (hD.sub [3, 4, 0, 1, 2] rfl rfl)⟩, hS.F ht⟩) hS.2.2 dX8_turn_35
  · replace hf := ds_f c_16 hf
    refine lv_aload_n hx hb dX8_turn_19 rfl (lv_at hl 0 rfl) ?_
    refine va_get (D := (dC, dI)) (ci := 7) (v := .ref h_o_all) (C := RX8) (T := TX8) (N := 29) hx hb hts (fun w h => List.mem_cons_of_mem _ (kc_X8 w h)) hown hK hP 3 rfl rfl 4 (by decide) (hg kw_594) (fun _ h9 => h9) rfl dX8_turn_20 ?_
    refine lv_iconst (v := 0) hx hb dX8_turn_23 (by decide) ?_
    refine va_iald hx hb hK hP 4 0 rfl rfl (ds_in_ok (i := 0) (n := 350) (by decide)) dX8_turn_24 ?_
    refine lv_aload_n hx hb dX8_turn_25 rfl (lv_at hl 0 rfl) ?_
    refine va_get (D := (dC, dI)) (ci := 7) (v := .ref h_o_all) (C := RX8) (T := TX8) (N := 29) hx hb hts (fun w h => List.mem_cons_of_mem _ (kc_X8 w h)) hown hK hP 3 rfl rfl 4 (by decide) (hg kw_594) (fun _ h9 => h9) rfl dX8_turn_26 ?_
    refine lv_iconst (v := 1) hx hb dX8_turn_29 (by decide) ?_
    refine va_iald hx hb hK hP 4 0 rfl rfl (ds_in_ok (i := 1) (n := 350) (by decide)) dX8_turn_30 ?_
    refine lv_icmp_eq (tgt := 36) hx hb dX8_turn_31 (by decide) (fun c_31 => ?_) (fun c_31 => ?_)
    · replace hf := ds_t c_31 hf
      refine lv_aload_n hx hb dX8_turn_36 rfl (lv_at hl 0 rfl) ?_
      obtain ⟨q37, hq37, hf⟩ := ds_ob hf
      refine ds_callv (wr := [(h_o_plans, .inl (ca 0, 80, .inl o_plans_r)), (h_o_undone, .inl (ca 0, 536, .inl o_undone_r))]) (va_runV (As := []) (rest := []) ⟨hx, hb, hml, hown, hts⟩ (c_X8_keepsNext l dC dI ca sa h_o h_o_plans h_o_makers h_o_halves h_o_all h_o_text h_o_saved h_o_undone h_o_told h_o_shift h_o_rootOf h_o_becomes h_o_comes h_o_next H.size (0 : Int32) o_undos o_reached o_length o_begin o_letters o_sort o_word o_wrongAt o_badAt o_bad o_firstX o_firstY o_secondX o_secondY o_x o_all_r o_next_r  q37 hq37) (cwV 0 hts (ds_gV kw_858 kw_859 kw_860 kw_597 kw_861) rfl rfl rfl (by decide +kernel) ⟨Nat.le_of_ble_eq_true rfl, Nat.le_of_ble_eq_true rfl⟩) ⟨ds_blind, va_recv hK hP (ci := 7) (q0 := 3) rfl rfl, ds_at hP hD hK hE hS hA [3, 4, 0] rfl rfl _⟩ rfl rfl hl.1 rfl (lv_room (Nat.le_of_ble_eq_true rfl)) dX8_turn_37 ⟨Nat.zero_le _, Nat.zero_le _⟩) hP hD hS hA [3, 4, 0] [1, 2] rfl rfl rfl (by decide) (fun H locs hP hD hS => ?_)
      have hP : va_P (dC, dI) vwCl [(h_o_plans, .inl (ca 0, 80, .inl o_plans_r)), (h_o_undone, .inl (ca 0, 536, .inl o_undone_r)), (h_o, .inr (7, [.ref h_o_plans, .ref h_o_makers, .ref h_o_halves, .int (0 : Int32), .ref h_o_all, .ref h_o_text, .ref h_o_saved, .ref h_o_undone, .int o_undos, .int o_reached, .int o_length, .int o_begin, .int o_letters, .int o_sort, .long o_word, .int o_wrongAt, .int o_badAt, .int o_bad, .ref h_o_told, .ref h_o_shift, .int o_firstX, .int o_firstY, .int o_secondX, .int o_secondY, .ref h_o_rootOf, .ref h_o_becomes, .ref h_o_comes, .ref h_o_next, .int o_x])), (h_o_all, .inl (ca 0, 350, .inl o_all_r)), (h_o_next, .inl (ca 0, 64, .inl q37))] H := hP
      have hD : va_D A [(h_o_plans, .inl (ca 0, 80, .inl o_plans_r)), (h_o_undone, .inl (ca 0, 536, .inl o_undone_r)), (h_o, .inr (7, [.ref h_o_plans, .ref h_o_makers, .ref h_o_halves, .int (0 : Int32), .ref h_o_all, .ref h_o_text, .ref h_o_saved, .ref h_o_undone, .int o_undos, .int o_reached, .int o_length, .int o_begin, .int o_letters, .int o_sort, .long o_word, .int o_wrongAt, .int o_badAt, .int o_bad, .ref h_o_told, .ref h_o_shift, .int o_firstX, .int o_firstY, .int o_secondX, .int o_secondY, .ref h_o_rootOf, .ref h_o_becomes, .ref h_o_comes, .ref h_o_next, .int o_x])), (h_o_all, .inl (ca 0, 350, .inl o_all_r)), (h_o_next, .inl (ca 0, 64, .inl q37))] := hD
      refine lv_iconst (v := 0) hx hb dX8_turn_40 (by decide) ?_
      refine lv_istore_n (lv' := [(2, .int (0 : Int32)), (0, .ref h_o), (1, .int p1)]) hx hb dX8_turn_41 rfl hl (by decide) rfl (fun ls hl => ?_)
      exact h1 (J_42 (0 : Int32) o_undos o_all_r o_undone_r 1000 (0 : Int32) q37 _ hf hG _ _ (hP.sub [2, 3, 4, 0, 1] rfl) (hD.sub [2, 3, 4, 0, 1] rfl rfl) hS _ (lv_sub hl [1, 2, 0] rfl))
    · replace hf := ds_f c_31 hf
      refine lv_iconst (v := 0) hx hb dX8_turn_34 (by decide) ?_
      have hf := Option.some.inj hf
      subst hf
      rw [eG0] at hG
      have hG : _ = res := hG
      subst hG
      exact W.zret (v := (0 : Int32)) (ty := .boolean) hx hb hr rfl (fun t ht hW => ⟨⟨(0 : Int32), (), rfl, rfl, by rw [ht]; exact (hP.sub [3, 4, 0, 1, 2] rfl), (hD.sub [3, 4, 0, 1, 2] rfl rfl)⟩, hS.F ht⟩) hS.2.2 dX8_turn_35
theorem dX8_dye_0 : decode cX8_dye 0 = .ok (.aload_n 0, 1) := by decide +kernel
theorem dX8_dye_1 : decode cX8_dye 1 = .ok (.iconst 0, 1) := by decide +kernel
theorem dX8_dye_2 : decode cX8_dye 2 = .ok (.putfield 51, 3) := by decide +kernel
theorem dX8_dye_5 : decode cX8_dye 5 = .ok (.iload_n 1, 1) := by decide +kernel
theorem dX8_dye_6 : decode cX8_dye 6 = .ok (.iconst 0, 1) := by decide +kernel
theorem dX8_dye_7 : decode cX8_dye 7 = .ok (.iconst 3, 1) := by decide +kernel
theorem dX8_dye_8 : decode cX8_dye 8 = .ok (.invokestatic 90, 3) := by decide +kernel
theorem dX8_dye_11 : decode cX8_dye 11 = .ok (.ifCond .eq 12, 3) := by decide +kernel
theorem dX8_dye_14 : decode cX8_dye 14 = .ok (.iload_n 2, 1) := by decide +kernel
theorem dX8_dye_15 : decode cX8_dye 15 = .ok (.iconst 0, 1) := by decide +kernel
theorem dX8_dye_16 : decode cX8_dye 16 = .ok (.iconst 3, 1) := by decide +kernel
theorem dX8_dye_17 : decode cX8_dye 17 = .ok (.invokestatic 90, 3) := by decide +kernel
theorem dX8_dye_20 : decode cX8_dye 20 = .ok (.ifCond .ne 5, 3) := by decide +kernel
theorem dX8_dye_23 : decode cX8_dye 23 = .ok (.iconst 0, 1) := by decide +kernel
theorem dX8_dye_24 : decode cX8_dye 24 = .ok (.ireturn, 1) := by decide +kernel
theorem dX8_dye_25 : decode cX8_dye 25 = .ok (.aload_n 0, 1) := by decide +kernel
theorem dX8_dye_26 : decode cX8_dye 26 = .ok (.invokevirtual 290, 3) := by decide +kernel
theorem dX8_dye_29 : decode cX8_dye 29 = .ok (.iconst 0, 1) := by decide +kernel
theorem dX8_dye_30 : decode cX8_dye 30 = .ok (.istore_n 3, 1) := by decide +kernel
theorem dX8_dye_31 : decode cX8_dye 31 = .ok (.iload_n 3, 1) := by decide +kernel
theorem dX8_dye_32 : decode cX8_dye 32 = .ok (.aload_n 0, 1) := by decide +kernel
theorem dX8_dye_33 : decode cX8_dye 33 = .ok (.getfield 19, 3) := by decide +kernel
theorem dX8_dye_36 : decode cX8_dye 36 = .ok (.iconst 1, 1) := by decide +kernel
theorem dX8_dye_37 : decode cX8_dye 37 = .ok (.iaload, 1) := by decide +kernel
theorem dX8_dye_38 : decode cX8_dye 38 = .ok (.if_icmp .ge 72, 3) := by decide +kernel
theorem dX8_dye_41 : decode cX8_dye 41 = .ok (.iconst 0, 1) := by decide +kernel
theorem dX8_dye_42 : decode cX8_dye 42 = .ok (.istore 4, 2) := by decide +kernel
theorem dX8_dye_44 : decode cX8_dye 44 = .ok (.iload 4, 2) := by decide +kernel
theorem dX8_dye_46 : decode cX8_dye 46 = .ok (.aload_n 0, 1) := by decide +kernel
theorem dX8_dye_47 : decode cX8_dye 47 = .ok (.getfield 19, 3) := by decide +kernel
theorem dX8_dye_50 : decode cX8_dye 50 = .ok (.iconst 0, 1) := by decide +kernel
theorem dX8_dye_51 : decode cX8_dye 51 = .ok (.iaload, 1) := by decide +kernel
theorem dX8_dye_52 : decode cX8_dye 52 = .ok (.if_icmp .ge 52, 3) := by decide +kernel
theorem dX8_dye_55 : decode cX8_dye 55 = .ok (.aload_n 0, 1) := by decide +kernel
theorem dX8_dye_56 : decode cX8_dye 56 = .ok (.iload 4, 2) := by decide +kernel
theorem dX8_dye_58 : decode cX8_dye 58 = .ok (.iload_n 3, 1) := by decide +kernel
theorem dX8_dye_59 : decode cX8_dye 59 = .ok (.invokevirtual 127, 3) := by decide +kernel
theorem dX8_dye_62 : decode cX8_dye 62 = .ok (.istore 5, 2) := by decide +kernel
theorem dX8_dye_64 : decode cX8_dye 64 = .ok (.aload_n 0, 1) := by decide +kernel
theorem dX8_dye_65 : decode cX8_dye 65 = .ok (.getfield 48, 3) := by decide +kernel
theorem dX8_dye_68 : decode cX8_dye 68 = .ok (.bipush 8, 2) := by decide +kernel
theorem dX8_dye_70 : decode cX8_dye 70 = .ok (.iload_n 3, 1) := by decide +kernel
theorem dX8_dye_71 : decode cX8_dye 71 = .ok (.imul, 1) := by decide +kernel
theorem dX8_dye_72 : decode cX8_dye 72 = .ok (.iload 4, 2) := by decide +kernel
theorem dX8_dye_74 : decode cX8_dye 74 = .ok (.iadd, 1) := by decide +kernel
theorem dX8_dye_75 : decode cX8_dye 75 = .ok (.iload 5, 2) := by decide +kernel
theorem dX8_dye_77 : decode cX8_dye 77 = .ok (.iload_n 1, 1) := by decide +kernel
theorem dX8_dye_78 : decode cX8_dye 78 = .ok (.if_icmp .ne 7, 3) := by decide +kernel
theorem dX8_dye_81 : decode cX8_dye 81 = .ok (.iload_n 2, 1) := by decide +kernel
theorem dX8_dye_82 : decode cX8_dye 82 = .ok (.goto 15, 3) := by decide +kernel
theorem dX8_dye_85 : decode cX8_dye 85 = .ok (.iload 5, 2) := by decide +kernel
theorem dX8_dye_87 : decode cX8_dye 87 = .ok (.iload_n 2, 1) := by decide +kernel
theorem dX8_dye_88 : decode cX8_dye 88 = .ok (.if_icmp .ne 7, 3) := by decide +kernel
theorem dX8_dye_91 : decode cX8_dye 91 = .ok (.iload_n 1, 1) := by decide +kernel
theorem dX8_dye_92 : decode cX8_dye 92 = .ok (.goto 5, 3) := by decide +kernel
theorem dX8_dye_95 : decode cX8_dye 95 = .ok (.iload 5, 2) := by decide +kernel
theorem dX8_dye_97 : decode cX8_dye 97 = .ok (.iastore, 1) := by decide +kernel
theorem dX8_dye_98 : decode cX8_dye 98 = .ok (.iinc 4 1, 3) := by decide +kernel
theorem dX8_dye_101 : decode cX8_dye 101 = .ok (.goto (-57), 3) := by decide +kernel
theorem dX8_dye_104 : decode cX8_dye 104 = .ok (.iinc 3 1, 3) := by decide +kernel
theorem dX8_dye_107 : decode cX8_dye 107 = .ok (.goto (-76), 3) := by decide +kernel
theorem dX8_dye_110 : decode cX8_dye 110 = .ok (.aload_n 0, 1) := by decide +kernel
theorem dX8_dye_111 : decode cX8_dye 111 = .ok (.invokevirtual 293, 3) := by decide +kernel
theorem dX8_dye_114 : decode cX8_dye 114 = .ok (.ireturn, 1) := by decide +kernel
def fX8_dye_110 (o_raised : Int32) (o_undos : Int32) (o_all_r : Nat → Int32) (o_next_r : Nat → Int32) (o_undone_r : Nat → Int32) : Option (Int32 × Int32 × Int32 × (Nat → Int32) × (Nat → Int32) × (Nat → Int32)) :=
  Option.bind (fX8_isOther o_undos o_next_r o_all_r o_undone_r) fun q111 => if q111.1 = 0 ∨ q111.1 = 1 then some (q111.1, o_raised, q111.2.1, q111.2.2.1, o_next_r, q111.2.2.2) else none
def fX8_dye_104 (o_next_r : Nat → Int32) (v3 : Int32) : Option ((Int32 × (Nat → Int32)) ⊕ (Int32 × Int32 × Int32 × (Nat → Int32) × (Nat → Int32) × (Nat → Int32))) :=
  some (.inl ((v3 + 1), o_next_r))
def fX8_dye_97 (o_next_r : Nat → Int32) (v4 : Int32) (s0 : Int32) (s1 : Int32) : Option ((Int32 × (Nat → Int32)) ⊕ ((Int32 × (Nat → Int32)) ⊕ (Int32 × Int32 × Int32 × (Nat → Int32) × (Nat → Int32) × (Nat → Int32)))) :=
  if ds_in s1 64 = true then some (.inl ((v4 + 1), (upd o_next_r s1.toNatClampNeg s0))) else none
def fX8_dye_44_b (o_all_r : Nat → Int32) (p1 : Int32) (p2 : Int32) (v3 : Int32) (v4 : Int32) (o_next_r : Nat → Int32) : Option ((Int32 × (Nat → Int32)) ⊕ ((Int32 × (Nat → Int32)) ⊕ (Int32 × Int32 × Int32 × (Nat → Int32) × (Nat → Int32) × (Nat → Int32)))) :=
  if (o_all_r (0 : Int32).toNatClampNeg) ≤ v4 then Option.bind (fX8_dye_104 o_next_r v3) fun z => some (.inr z) else Option.bind (fX8_colour o_all_r v4 v3) fun q59 => if q59 = p1 then fX8_dye_97 o_next_r v4 p2 (((8 : Int32) * v3) + v4) else if q59 = p2 then fX8_dye_97 o_next_r v4 p1 (((8 : Int32) * v3) + v4) else fX8_dye_97 o_next_r v4 q59 (((8 : Int32) * v3) + v4)
def fX8_dye_44 (o_all_r : Nat → Int32) (p1 : Int32) (p2 : Int32) (v3 : Int32) (v4 : Int32) (o_next_r : Nat → Int32) : Option ((Int32 × (Nat → Int32)) ⊕ (Int32 × Int32 × Int32 × (Nat → Int32) × (Nat → Int32) × (Nat → Int32))) := ds_it (fun s => fX8_dye_44_b o_all_r p1 p2 v3 s.1 s.2) 1000 (v4, o_next_r)
def fX8_dye_31_b (o_raised : Int32) (o_undos : Int32) (o_all_r : Nat → Int32) (o_undone_r : Nat → Int32) (p1 : Int32) (p2 : Int32) (v3 : Int32) (o_next_r : Nat → Int32) : Option ((Int32 × (Nat → Int32)) ⊕ (Int32 × Int32 × Int32 × (Nat → Int32) × (Nat → Int32) × (Nat → Int32))) :=
  if (o_all_r (1 : Int32).toNatClampNeg) ≤ v3 then Option.bind (fX8_dye_110 o_raised o_undos o_all_r o_next_r o_undone_r) fun z => some (.inr z) else fX8_dye_44 o_all_r p1 p2 v3 (0 : Int32) o_next_r
def fX8_dye_31 (o_raised : Int32) (o_undos : Int32) (o_all_r : Nat → Int32) (o_undone_r : Nat → Int32) (p1 : Int32) (p2 : Int32) (v3 : Int32) (o_next_r : Nat → Int32) : Option (Int32 × Int32 × Int32 × (Nat → Int32) × (Nat → Int32) × (Nat → Int32)) := ds_it (fun s => fX8_dye_31_b o_raised o_undos o_all_r o_undone_r p1 p2 s.1 s.2) 1000 (v3, o_next_r)
def fX8_dye (o_undos : Int32) (o_all_r : Nat → Int32) (o_next_r : Nat → Int32) (o_undone_r : Nat → Int32) (p1 : Int32) (p2 : Int32) : Option (Int32 × Int32 × Int32 × (Nat → Int32) × (Nat → Int32) × (Nat → Int32)) :=
  Option.bind (fX8_in p1 (0 : Int32) (3 : Int32)) fun q8 => if q8 = 0 then some ((0 : Int32), (0 : Int32), o_undos, o_all_r, o_next_r, o_undone_r) else Option.bind (fX8_in p2 (0 : Int32) (3 : Int32)) fun q17 => if q17 = 0 then some ((0 : Int32), (0 : Int32), o_undos, o_all_r, o_next_r, o_undone_r) else Option.bind (fX8_keepsNext o_all_r o_next_r) fun q26 => fX8_dye_31 (0 : Int32) o_undos o_all_r o_undone_r p1 p2 (0 : Int32) q26
set_option maxHeartbeats 4000000 in
set_option maxRecDepth 100000 in
theorem c_X8_dye (l : Launch) (dC : Nat → ClassId) (dI : Nat → Nat → Nat) (ca : Nat → ClassId) (sa : Nat → Nat) (h_o : Nat) (h_o_plans : Nat) (h_o_makers : Nat) (h_o_halves : Nat) (h_o_all : Nat) (h_o_text : Nat) (h_o_saved : Nat) (h_o_undone : Nat) (h_o_told : Nat) (h_o_shift : Nat) (h_o_rootOf : Nat) (h_o_becomes : Nat) (h_o_comes : Nat) (h_o_next : Nat) (sz : Nat) (o_raised : Int32) (o_undos : Int32) (o_reached : Int32) (o_length : Int32) (o_begin : Int32) (o_letters : Int32) (o_sort : Int32) (o_word : Int64) (o_wrongAt : Int32) (o_badAt : Int32) (o_bad : Int32) (o_firstX : Int32) (o_firstY : Int32) (o_secondX : Int32) (o_secondY : Int32) (o_x : Int32) (o_all_r : Nat → Int32) (o_next_r : Nat → Int32) (o_undone_r : Nat → Int32) (p1 : Int32) (p2 : Int32) (res : Int32 × Int32 × Int32 × (Nat → Int32) × (Nat → Int32) × (Nat → Int32)) (hf : fX8_dye o_undos o_all_r o_next_r o_undone_r p1 p2 = some res) : Met l yX8_dye (Cond.code yX8_dye cX8_dye 6 (some .boolean) :: ds_gw) { frames := 3, cells := 0, slots := 0, locals := 66 } (va_Pc [.ref h_o, .int p1, .int p2] (ds_Pre dC dI ca sa [(h_o, .inr (7, [.ref h_o_plans, .ref h_o_makers, .ref h_o_halves, .int o_raised, .ref h_o_all, .ref h_o_text, .ref h_o_saved, .ref h_o_undone, .int o_undos, .int o_reached, .int o_length, .int o_begin, .int o_letters, .int o_sort, .long o_word, .int o_wrongAt, .int o_badAt, .int o_bad, .ref h_o_told, .ref h_o_shift, .int o_firstX, .int o_firstY, .int o_secondX, .int o_secondY, .ref h_o_rootOf, .ref h_o_becomes, .ref h_o_comes, .ref h_o_next, .int o_x])), (h_o_all, .inl (ca 0, 350, .inl o_all_r)), (h_o_next, .inl (ca 0, 64, .inl o_next_r)), (h_o_undone, .inl (ca 0, 536, .inl o_undone_r))] sz)) (va_Qi (fun r (_ : Unit) => r = res.1) (ds_B dC dI (va_A [(h_o, .inr (7, [.ref h_o_plans, .ref h_o_makers, .ref h_o_halves, .int o_raised, .ref h_o_all, .ref h_o_text, .ref h_o_saved, .ref h_o_undone, .int o_undos, .int o_reached, .int o_length, .int o_begin, .int o_letters, .int o_sort, .long o_word, .int o_wrongAt, .int o_badAt, .int o_bad, .ref h_o_told, .ref h_o_shift, .int o_firstX, .int o_firstY, .int o_secondX, .int o_secondY, .ref h_o_rootOf, .ref h_o_becomes, .ref h_o_comes, .ref h_o_next, .int o_x])), (h_o_all, .inl (ca 0, 350, .inl o_all_r)), (h_o_next, .inl (ca 0, 64, .inl o_next_r)), (h_o_undone, .inl (ca 0, 536, .inl o_undone_r))] sz) [(h_o, .inr (7, [.ref h_o_plans, .ref h_o_makers, .ref h_o_halves, .int res.2.1, .ref h_o_all, .ref h_o_text, .ref h_o_saved, .ref h_o_undone, .int res.2.2.1, .int o_reached, .int o_length, .int o_begin, .int o_letters, .int o_sort, .long o_word, .int o_wrongAt, .int o_badAt, .int o_bad, .ref h_o_told, .ref h_o_shift, .int o_firstX, .int o_firstY, .int o_secondX, .int o_secondY, .ref h_o_rootOf, .ref h_o_becomes, .ref h_o_comes, .ref h_o_next, .int o_x])), (h_o_all, .inl (ca 0, 350, .inl res.2.2.2.1)), (h_o_next, .inl (ca 0, 64, .inl res.2.2.2.2.1)), (h_o_undone, .inl (ca 0, 536, .inl res.2.2.2.2.2))]) (va_A [(h_o, .inr (7, [.ref h_o_plans, .ref h_o_makers, .ref h_o_halves, .int o_raised, .ref h_o_all, .ref h_o_text, .ref h_o_saved, .ref h_o_undone, .int o_undos, .int o_reached, .int o_length, .int o_begin, .int o_letters, .int o_sort, .long o_word, .int o_wrongAt, .int o_badAt, .int o_bad, .ref h_o_told, .ref h_o_shift, .int o_firstX, .int o_firstY, .int o_secondX, .int o_secondY, .ref h_o_rootOf, .ref h_o_becomes, .ref h_o_comes, .ref h_o_next, .int o_x])), (h_o_all, .inl (ca 0, 350, .inl o_all_r)), (h_o_next, .inl (ca 0, 64, .inl o_next_r)), (h_o_undone, .inl (ca 0, 536, .inl o_undone_r))] sz)) 0 0 (va_A [(h_o, .inr (7, [.ref h_o_plans, .ref h_o_makers, .ref h_o_halves, .int o_raised, .ref h_o_all, .ref h_o_text, .ref h_o_saved, .ref h_o_undone, .int o_undos, .int o_reached, .int o_length, .int o_begin, .int o_letters, .int o_sort, .long o_word, .int o_wrongAt, .int o_badAt, .int o_bad, .ref h_o_told, .ref h_o_shift, .int o_firstX, .int o_firstY, .int o_secondX, .int o_secondY, .ref h_o_rootOf, .ref h_o_becomes, .ref h_o_comes, .ref h_o_next, .int o_x])), (h_o_all, .inl (ca 0, 350, .inl o_all_r)), (h_o_next, .inl (ca 0, 64, .inl o_next_r)), (h_o_undone, .inl (ca 0, 536, .inl o_undone_r))] sz) := by
  refine Met.ofW (cc := cX8_dye) (maxL := 6) (ret := (some .boolean)) (by decide) rfl ?_
  intro p e s m args below meth c s₁ B hml hv
  obtain ⟨rfl, hsz, hP, hK, hD0, hE⟩ := hv
  have hx := B.exec
  have hb := B.bytes
  have hr := B.returns
  have hts := atoms_spec (ws := Cond.code yX8_dye cX8_dye 6 (some .boolean) :: ds_gw) B.pre
  have hg : ∀ {w : Cond}, w ∈ ds_gw → w.before _ s = true := fun h => hts _ (List.mem_cons_of_mem _ h)
  have hown : s.vm.findClass RX8 = some m.cls := findClass_of_methodNamed B.named
  have hlocks := B.notSynchronized
  subst hsz
  have hD := hD0.self (sz := s.heap.size)
  generalize hAe : va_A [(h_o, .inr (7, [.ref h_o_plans, .ref h_o_makers, .ref h_o_halves, .int o_raised, .ref h_o_all, .ref h_o_text, .ref h_o_saved, .ref h_o_undone, .int o_undos, .int o_reached, .int o_length, .int o_begin, .int o_letters, .int o_sort, .long o_word, .int o_wrongAt, .int o_badAt, .int o_bad, .ref h_o_told, .ref h_o_shift, .int o_firstX, .int o_firstY, .int o_secondX, .int o_secondY, .ref h_o_rootOf, .ref h_o_becomes, .ref h_o_comes, .ref h_o_next, .int o_x])), (h_o_all, .inl (ca 0, 350, .inl o_all_r)), (h_o_next, .inl (ca 0, 64, .inl o_next_r)), (h_o_undone, .inl (ca 0, 536, .inl o_undone_r))] s.heap.size = A at hD hE ⊢
  have hA : ∀ q : Nat, s.heap.size ≤ q → A q := fun q h => by rw [← hAe]; exact Or.inr h
  have hS : va_S A s.heap s.heap [] := va_S.rf
  have hl := lv_entry ([.ref h_o, .int p1, .int p2]) (n := 6) (Nat.le_of_ble_eq_true rfl)
  rw [lg_entry_eq]
  generalize (lg_sl ([.ref h_o, .int p1, .int p2]) ++ List.replicate (6 - (lg_sl ([.ref h_o, .int p1, .int p2])).length) Slot.unset).toArray = ls at hl ⊢
  have hl : lv_has ls 6 [(0, .ref h_o), (1, .int p1), (2, .int p2)] := hl
  obtain ⟨G0, eG0⟩ : ∃ G : (Int32 × Int32 × Int32 × (Nat → Int32) × (Nat → Int32) × (Nat → Int32)) → Prop, G = (fun r => r = res) := ⟨_, rfl⟩
  obtain ⟨rr, hrr⟩ : ∃ z, z = res := ⟨_, rfl⟩
  rw [← hrr] at hf
  have hG : G0 rr := by subst eG0; exact hrr
  refine ds_cap (fun WW h1 h2 => ?_)
  have J_110 : ∀ (o_raised : Int32) (o_undos : Int32) (o_all_r : Nat → Int32) (o_next_r : Nat → Int32) (o_undone_r : Nat → Int32) (rr : Int32 × Int32 × Int32 × (Nat → Int32) × (Nat → Int32) × (Nat → Int32)) (hf : fX8_dye_110 o_raised o_undos o_all_r o_next_r o_undone_r = some rr) (hG : G0 rr) (H : Heap) (locs : List Loc) (hP : va_P (dC, dI) vwCl [(h_o, .inr (7, [.ref h_o_plans, .ref h_o_makers, .ref h_o_halves, .int o_raised, .ref h_o_all, .ref h_o_text, .ref h_o_saved, .ref h_o_undone, .int o_undos, .int o_reached, .int o_length, .int o_begin, .int o_letters, .int o_sort, .long o_word, .int o_wrongAt, .int o_badAt, .int o_bad, .ref h_o_told, .ref h_o_shift, .int o_firstX, .int o_firstY, .int o_secondX, .int o_secondY, .ref h_o_rootOf, .ref h_o_becomes, .ref h_o_comes, .ref h_o_next, .int o_x])), (h_o_all, .inl (ca 0, 350, .inl o_all_r)), (h_o_next, .inl (ca 0, 64, .inl o_next_r)), (h_o_undone, .inl (ca 0, 536, .inl o_undone_r))] H) (hD : va_D A [(h_o, .inr (7, [.ref h_o_plans, .ref h_o_makers, .ref h_o_halves, .int o_raised, .ref h_o_all, .ref h_o_text, .ref h_o_saved, .ref h_o_undone, .int o_undos, .int o_reached, .int o_length, .int o_begin, .int o_letters, .int o_sort, .long o_word, .int o_wrongAt, .int o_badAt, .int o_bad, .ref h_o_told, .ref h_o_shift, .int o_firstX, .int o_firstY, .int o_secondX, .int o_secondY, .ref h_o_rootOf, .ref h_o_becomes, .ref h_o_comes, .ref h_o_next, .int o_x])), (h_o_all, .inl (ca 0, 350, .inl o_all_r)), (h_o_next, .inl (ca 0, 64, .inl o_next_r)), (h_o_undone, .inl (ca 0, 536, .inl o_undone_r))]) (hS : va_S A s.heap H locs) (ls : Array Slot) (hl : lv_has ls 6 [(0, .ref h_o)]), WW H locs (F0 m 110 ls []) := by
    intro o_raised o_undos o_all_r o_next_r o_undone_r rr hf hG H locs hP hD hS ls hl
    refine h2 ?_
    unfold fX8_dye_110 at hf
    refine lv_aload_n hx hb dX8_dye_110 rfl (lv_at hl 0 rfl) ?_
    obtain ⟨q111, hq111, hf⟩ := ds_ob hf
    refine ds_calli (wr := []) (va_runV (As := []) (rest := []) ⟨hx, hb, hml, hown, hts⟩ (c_X8_isOther l dC dI ca sa h_o h_o_plans h_o_makers h_o_halves h_o_all h_o_text h_o_saved h_o_undone h_o_told h_o_shift h_o_rootOf h_o_becomes h_o_comes h_o_next H.size o_raised o_undos o_reached o_length o_begin o_letters o_sort o_word o_wrongAt o_badAt o_bad o_firstX o_firstY o_secondX o_secondY o_x o_next_r o_all_r o_undone_r  q111 hq111) (cwV 0 hts (ds_gV kw_854 kw_855 kw_856 kw_597 kw_857) rfl rfl rfl (by decide +kernel) ⟨Nat.le_of_ble_eq_true rfl, Nat.le_of_ble_eq_true rfl⟩) ⟨ds_blind, va_recv hK hP (ci := 7) (q0 := 0) rfl rfl, ds_at hP hD hK hE hS hA [0, 2, 1, 3] rfl rfl _⟩ rfl rfl hl.1 rfl (lv_room (Nat.le_of_ble_eq_true rfl)) dX8_dye_111 ⟨Nat.zero_le _, Nat.zero_le _⟩) hP hD hS hA [0, 2, 1, 3] [] rfl rfl rfl (by decide) (fun H locs hP hD hS => ?_)
    have hP : va_P (dC, dI) vwCl [(h_o, .inr (7, [.ref h_o_plans, .ref h_o_makers, .ref h_o_halves, .int o_raised, .ref h_o_all, .ref h_o_text, .ref h_o_saved, .ref h_o_undone, .int q111.2.1, .int o_reached, .int o_length, .int o_begin, .int o_letters, .int o_sort, .long o_word, .int o_wrongAt, .int o_badAt, .int o_bad, .ref h_o_told, .ref h_o_shift, .int o_firstX, .int o_firstY, .int o_secondX, .int o_secondY, .ref h_o_rootOf, .ref h_o_becomes, .ref h_o_comes, .ref h_o_next, .int o_x])), (h_o_next, .inl (ca 0, 64, .inl o_next_r)), (h_o_all, .inl (ca 0, 350, .inl q111.2.2.1)), (h_o_undone, .inl (ca 0, 536, .inl q111.2.2.2))] H := hP
    have hD : va_D A [(h_o, .inr (7, [.ref h_o_plans, .ref h_o_makers, .ref h_o_halves, .int o_raised, .ref h_o_all, .ref h_o_text, .ref h_o_saved, .ref h_o_undone, .int q111.2.1, .int o_reached, .int o_length, .int o_begin, .int o_letters, .int o_sort, .long o_word, .int o_wrongAt, .int o_badAt, .int o_bad, .ref h_o_told, .ref h_o_shift, .int o_firstX, .int o_firstY, .int o_secondX, .int o_secondY, .ref h_o_rootOf, .ref h_o_becomes, .ref h_o_comes, .ref h_o_next, .int o_x])), (h_o_next, .inl (ca 0, 64, .inl o_next_r)), (h_o_all, .inl (ca 0, 350, .inl q111.2.2.1)), (h_o_undone, .inl (ca 0, 536, .inl q111.2.2.2))] := hD
    obtain ⟨z_114, hf⟩ := ds_c hf
    have hf := Option.some.inj hf
    subst hf
    rw [eG0] at hG
    have hG : _ = res := hG
    subst hG
    exact W.zret (v := q111.1) (ty := .boolean) hx hb hr (ds_zn z_114) (fun t ht hW => ⟨⟨q111.1, (), rfl, rfl, by rw [ht]; exact (hP.sub [0, 2, 1, 3] rfl), (hD.sub [0, 2, 1, 3] rfl rfl)⟩, hS.F ht⟩) hS.2.2 dX8_dye_114
  have J_31 : ∀ (o_raised : Int32) (o_undos : Int32) (o_all_r : Nat → Int32) (o_undone_r : Nat → Int32) (n : Nat) (v3 : Int32) (o_next_r : Nat → Int32) (rr : Int32 × Int32 × Int32 × (Nat → Int32) × (Nat → Int32) × (Nat → Int32)) (hf : ds_it (fun s => fX8_dye_31_b o_raised o_undos o_all_r o_undone_r p1 p2 s.1 s.2) n (v3, o_next_r) = some rr) (hG : G0 rr) (H : Heap) (locs : List Loc) (hP : va_P (dC, dI) vwCl [(h_o, .inr (7, [.ref h_o_plans, .ref h_o_makers, .ref h_o_halves, .int o_raised, .ref h_o_all, .ref h_o_text, .ref h_o_saved, .ref h_o_undone, .int o_undos, .int o_reached, .int o_length, .int o_begin, .int o_letters, .int o_sort, .long o_word, .int o_wrongAt, .int o_badAt, .int o_bad, .ref h_o_told, .ref h_o_shift, .int o_firstX, .int o_firstY, .int o_secondX, .int o_secondY, .ref h_o_rootOf, .ref h_o_becomes, .ref h_o_comes, .ref h_o_next, .int o_x])), (h_o_all, .inl (ca 0, 350, .inl o_all_r)), (h_o_next, .inl (ca 0, 64, .inl o_next_r)), (h_o_undone, .inl (ca 0, 536, .inl o_undone_r))] H) (hD : va_D A [(h_o, .inr (7, [.ref h_o_plans, .ref h_o_makers, .ref h_o_halves, .int o_raised, .ref h_o_all, .ref h_o_text, .ref h_o_saved, .ref h_o_undone, .int o_undos, .int o_reached, .int o_length, .int o_begin, .int o_letters, .int o_sort, .long o_word, .int o_wrongAt, .int o_badAt, .int o_bad, .ref h_o_told, .ref h_o_shift, .int o_firstX, .int o_firstY, .int o_secondX, .int o_secondY, .ref h_o_rootOf, .ref h_o_becomes, .ref h_o_comes, .ref h_o_next, .int o_x])), (h_o_all, .inl (ca 0, 350, .inl o_all_r)), (h_o_next, .inl (ca 0, 64, .inl o_next_r)), (h_o_undone, .inl (ca 0, 536, .inl o_undone_r))]) (hS : va_S A s.heap H locs) (ls : Array Slot) (hl : lv_has ls 6 [(0, .ref h_o), (1, .int p1), (2, .int p2), (3, .int v3)]), WW H locs (F0 m 31 ls []) := by
    intro o_raised o_undos o_all_r o_undone_r n
    induction n with
    | zero => intro v3 o_next_r rr hf; exact (ds_it_zero hf).elim
    | succ n ih31 =>
      intro v3 o_next_r rr hf hG H locs hP hD hS ls hl
      refine h2 ?_
      obtain ⟨rr, hf, hG⟩ := ds_it_succ hf hG
      replace hf : fX8_dye_31_b o_raised o_undos o_all_r o_undone_r p1 p2 v3 o_next_r = some rr := hf
      obtain ⟨G1, eG1⟩ : ∃ G : ((Int32 × (Nat → Int32)) ⊕ (Int32 × Int32 × Int32 × (Nat → Int32) × (Nat → Int32) × (Nat → Int32))) → Prop, G = ds_G (fun s' => ∃ r', ds_it (fun s => fX8_dye_31_b o_raised o_undos o_all_r o_undone_r p1 p2 s.1 s.2) n s' = some r' ∧ G0 r') G0 := ⟨_, rfl⟩
      rw [← eG1] at hG
      have J_104 : ∀ (v3 : Int32) (o_next_r : Nat → Int32) (rr : (Int32 × (Nat → Int32)) ⊕ (Int32 × Int32 × Int32 × (Nat → Int32) × (Nat → Int32) × (Nat → Int32))) (hf : fX8_dye_104 o_next_r v3 = some rr) (hG : G1 rr) (H : Heap) (locs : List Loc) (hP : va_P (dC, dI) vwCl [(h_o, .inr (7, [.ref h_o_plans, .ref h_o_makers, .ref h_o_halves, .int o_raised, .ref h_o_all, .ref h_o_text, .ref h_o_saved, .ref h_o_undone, .int o_undos, .int o_reached, .int o_length, .int o_begin, .int o_letters, .int o_sort, .long o_word, .int o_wrongAt, .int o_badAt, .int o_bad, .ref h_o_told, .ref h_o_shift, .int o_firstX, .int o_firstY, .int o_secondX, .int o_secondY, .ref h_o_rootOf, .ref h_o_becomes, .ref h_o_comes, .ref h_o_next, .int o_x])), (h_o_all, .inl (ca 0, 350, .inl o_all_r)), (h_o_next, .inl (ca 0, 64, .inl o_next_r)), (h_o_undone, .inl (ca 0, 536, .inl o_undone_r))] H) (hD : va_D A [(h_o, .inr (7, [.ref h_o_plans, .ref h_o_makers, .ref h_o_halves, .int o_raised, .ref h_o_all, .ref h_o_text, .ref h_o_saved, .ref h_o_undone, .int o_undos, .int o_reached, .int o_length, .int o_begin, .int o_letters, .int o_sort, .long o_word, .int o_wrongAt, .int o_badAt, .int o_bad, .ref h_o_told, .ref h_o_shift, .int o_firstX, .int o_firstY, .int o_secondX, .int o_secondY, .ref h_o_rootOf, .ref h_o_becomes, .ref h_o_comes, .ref h_o_next, .int o_x])), (h_o_all, .inl (ca 0, 350, .inl o_all_r)), (h_o_next, .inl (ca 0, 64, .inl o_next_r)), (h_o_undone, .inl (ca 0, 536, .inl o_undone_r))]) (hS : va_S A s.heap H locs) (ls : Array Slot) (hl : lv_has ls 6 [(0, .ref h_o), (1, .int p1), (2, .int p2), (3, .int v3)]), WW H locs (F0 m 104 ls []) := by
        intro v3 o_next_r rr hf hG H locs hP hD hS ls hl
        refine h2 ?_
        unfold fX8_dye_104 at hf
        refine lv_iinc (v := (v3 + 1)) (lv' := [(3, .int (v3 + 1)), (0, .ref h_o), (1, .int p1), (2, .int p2)]) hx hb dX8_dye_104 hl (k := 3) rfl rfl (by decide) rfl (fun ls hl => ?_)
        refine lv_goto (tgt := 31) hx hb dX8_dye_107 (by decide) ?_
        have hf := Option.some.inj hf
        subst hf
        rw [eG1] at hG
        obtain ⟨rr, hf, hG⟩ := hG
        exact h1 (ih31 (v3 + 1) o_next_r rr hf hG _ _ hP hD hS _ (lv_sub hl [1, 2, 3, 0] rfl))
      have J_44 : ∀ (v3 : Int32) (n : Nat) (v4 : Int32) (o_next_r : Nat → Int32) (rr : (Int32 × (Nat → Int32)) ⊕ (Int32 × Int32 × Int32 × (Nat → Int32) × (Nat → Int32) × (Nat → Int32))) (hf : ds_it (fun s => fX8_dye_44_b o_all_r p1 p2 v3 s.1 s.2) n (v4, o_next_r) = some rr) (hG : G1 rr) (H : Heap) (locs : List Loc) (hP : va_P (dC, dI) vwCl [(h_o, .inr (7, [.ref h_o_plans, .ref h_o_makers, .ref h_o_halves, .int o_raised, .ref h_o_all, .ref h_o_text, .ref h_o_saved, .ref h_o_undone, .int o_undos, .int o_reached, .int o_length, .int o_begin, .int o_letters, .int o_sort, .long o_word, .int o_wrongAt, .int o_badAt, .int o_bad, .ref h_o_told, .ref h_o_shift, .int o_firstX, .int o_firstY, .int o_secondX, .int o_secondY, .ref h_o_rootOf, .ref h_o_becomes, .ref h_o_comes, .ref h_o_next, .int o_x])), (h_o_all, .inl (ca 0, 350, .inl o_all_r)), (h_o_next, .inl (ca 0, 64, .inl o_next_r)), (h_o_undone, .inl (ca 0, 536, .inl o_undone_r))] H) (hD : va_D A [(h_o, .inr (7, [.ref h_o_plans, .ref h_o_makers, .ref h_o_halves, .int o_raised, .ref h_o_all, .ref h_o_text, .ref h_o_saved, .ref h_o_undone, .int o_undos, .int o_reached, .int o_length, .int o_begin, .int o_letters, .int o_sort, .long o_word, .int o_wrongAt, .int o_badAt, .int o_bad, .ref h_o_told, .ref h_o_shift, .int o_firstX, .int o_firstY, .int o_secondX, .int o_secondY, .ref h_o_rootOf, .ref h_o_becomes, .ref h_o_comes, .ref h_o_next, .int o_x])), (h_o_all, .inl (ca 0, 350, .inl o_all_r)), (h_o_next, .inl (ca 0, 64, .inl o_next_r)), (h_o_undone, .inl (ca 0, 536, .inl o_undone_r))]) (hS : va_S A s.heap H locs) (ls : Array Slot) (hl : lv_has ls 6 [(0, .ref h_o), (1, .int p1), (2, .int p2), (3, .int v3), (4, .int v4)]), WW H locs (F0 m 44 ls []) := by
        intro v3 n
        induction n with
        | zero => intro v4 o_next_r rr hf; exact (ds_it_zero hf).elim
        | succ n ih44 =>
          intro v4 o_next_r rr hf hG H locs hP hD hS ls hl
          refine h2 ?_
          obtain ⟨rr, hf, hG⟩ := ds_it_succ hf hG
          replace hf : fX8_dye_44_b o_all_r p1 p2 v3 v4 o_next_r = some rr := hf
          obtain ⟨G2, eG2⟩ : ∃ G : ((Int32 × (Nat → Int32)) ⊕ ((Int32 × (Nat → Int32)) ⊕ (Int32 × Int32 × Int32 × (Nat → Int32) × (Nat → Int32) × (Nat → Int32)))) → Prop, G = ds_G (fun s' => ∃ r', ds_it (fun s => fX8_dye_44_b o_all_r p1 p2 v3 s.1 s.2) n s' = some r' ∧ G1 r') G1 := ⟨_, rfl⟩
          rw [← eG2] at hG
          have J_97 : ∀ (v4 : Int32) (s0 : Int32) (s1 : Int32) (o_next_r : Nat → Int32) (rr : (Int32 × (Nat → Int32)) ⊕ ((Int32 × (Nat → Int32)) ⊕ (Int32 × Int32 × Int32 × (Nat → Int32) × (Nat → Int32) × (Nat → Int32)))) (hf : fX8_dye_97 o_next_r v4 s0 s1 = some rr) (hG : G2 rr) (H : Heap) (locs : List Loc) (hP : va_P (dC, dI) vwCl [(h_o, .inr (7, [.ref h_o_plans, .ref h_o_makers, .ref h_o_halves, .int o_raised, .ref h_o_all, .ref h_o_text, .ref h_o_saved, .ref h_o_undone, .int o_undos, .int o_reached, .int o_length, .int o_begin, .int o_letters, .int o_sort, .long o_word, .int o_wrongAt, .int o_badAt, .int o_bad, .ref h_o_told, .ref h_o_shift, .int o_firstX, .int o_firstY, .int o_secondX, .int o_secondY, .ref h_o_rootOf, .ref h_o_becomes, .ref h_o_comes, .ref h_o_next, .int o_x])), (h_o_all, .inl (ca 0, 350, .inl o_all_r)), (h_o_next, .inl (ca 0, 64, .inl o_next_r)), (h_o_undone, .inl (ca 0, 536, .inl o_undone_r))] H) (hD : va_D A [(h_o, .inr (7, [.ref h_o_plans, .ref h_o_makers, .ref h_o_halves, .int o_raised, .ref h_o_all, .ref h_o_text, .ref h_o_saved, .ref h_o_undone, .int o_undos, .int o_reached, .int o_length, .int o_begin, .int o_letters, .int o_sort, .long o_word, .int o_wrongAt, .int o_badAt, .int o_bad, .ref h_o_told, .ref h_o_shift, .int o_firstX, .int o_firstY, .int o_secondX, .int o_secondY, .ref h_o_rootOf, .ref h_o_becomes, .ref h_o_comes, .ref h_o_next, .int o_x])), (h_o_all, .inl (ca 0, 350, .inl o_all_r)), (h_o_next, .inl (ca 0, 64, .inl o_next_r)), (h_o_undone, .inl (ca 0, 536, .inl o_undone_r))]) (hS : va_S A s.heap H locs) (ls : Array Slot) (hl : lv_has ls 6 [(0, .ref h_o), (1, .int p1), (2, .int p2), (3, .int v3), (4, .int v4)]), WW H locs (F0 m 97 ls [.int s0, .int s1, .ref h_o_next]) := by
            intro v4 s0 s1 o_next_r rr hf hG H locs hP hD hS ls hl
            refine h2 ?_
            unfold fX8_dye_97 at hf
            obtain ⟨i_97, hf⟩ := ds_ci hf
            refine va_iast hx hb hK hP hD hS 2 0 rfl rfl i_97 dX8_dye_97 (fun H locs hP hD hS => ?_)
            have hP : va_P (dC, dI) vwCl [(h_o, .inr (7, [.ref h_o_plans, .ref h_o_makers, .ref h_o_halves, .int o_raised, .ref h_o_all, .ref h_o_text, .ref h_o_saved, .ref h_o_undone, .int o_undos, .int o_reached, .int o_length, .int o_begin, .int o_letters, .int o_sort, .long o_word, .int o_wrongAt, .int o_badAt, .int o_bad, .ref h_o_told, .ref h_o_shift, .int o_firstX, .int o_firstY, .int o_secondX, .int o_secondY, .ref h_o_rootOf, .ref h_o_becomes, .ref h_o_comes, .ref h_o_next, .int o_x])), (h_o_all, .inl (ca 0, 350, .inl o_all_r)), (h_o_next, .inl (ca 0, 64, .inl (upd o_next_r s1.toNatClampNeg s0))), (h_o_undone, .inl (ca 0, 536, .inl o_undone_r))] H := hP
            have hD : va_D A [(h_o, .inr (7, [.ref h_o_plans, .ref h_o_makers, .ref h_o_halves, .int o_raised, .ref h_o_all, .ref h_o_text, .ref h_o_saved, .ref h_o_undone, .int o_undos, .int o_reached, .int o_length, .int o_begin, .int o_letters, .int o_sort, .long o_word, .int o_wrongAt, .int o_badAt, .int o_bad, .ref h_o_told, .ref h_o_shift, .int o_firstX, .int o_firstY, .int o_secondX, .int o_secondY, .ref h_o_rootOf, .ref h_o_becomes, .ref h_o_comes, .ref h_o_next, .int o_x])), (h_o_all, .inl (ca 0, 350, .inl o_all_r)), (h_o_next, .inl (ca 0, 64, .inl (upd o_next_r s1.toNatClampNeg s0))), (h_o_undone, .inl (ca 0, 536, .inl o_undone_r))] := hD
            refine lv_iinc (v := (v4 + 1)) (lv' := [(4, .int (v4 + 1)), (0, .ref h_o), (1, .int p1), (2, .int p2), (3, .int v3)]) hx hb dX8_dye_98 hl (k := 4) rfl rfl (by decide) rfl (fun ls hl => ?_)
            refine lv_goto (tgt := 44) hx hb dX8_dye_101 (by decide) ?_
            have hf := Option.some.inj hf
            subst hf
            rw [eG2] at hG
            obtain ⟨rr, hf, hG⟩ := hG
            exact h1 (ih44 (v4 + 1) (upd o_next_r s1.toNatClampNeg s0) rr hf hG _ _ hP hD hS _ (lv_sub hl [1, 2, 3, 4, 0] rfl))
          unfold fX8_dye_44_b at hf
          refine lv_iload hx hb dX8_dye_44 (lv_at hl 4 rfl) ?_
          refine lv_aload_n hx hb dX8_dye_46 rfl (lv_at hl 0 rfl) ?_
          refine va_get (D := (dC, dI)) (ci := 7) (v := .ref h_o_all) (C := RX8) (T := TX8) (N := 29) hx hb hts (fun w h => List.mem_cons_of_mem _ (kc_X8 w h)) hown hK hP 0 rfl rfl 4 (by decide) (hg kw_594) (fun _ h9 => h9) rfl dX8_dye_47 ?_
          refine lv_iconst (v := 0) hx hb dX8_dye_50 (by decide) ?_
          refine va_iald hx hb hK hP 1 0 rfl rfl (ds_in_ok (i := 0) (n := 350) (by decide)) dX8_dye_51 ?_
          refine lv_icmp_ge (tgt := 104) hx hb dX8_dye_52 (by decide) (fun c_52 => ?_) (fun c_52 => ?_)
          · replace hf := ds_t c_52 hf
            obtain ⟨rr, hr_0, hf⟩ := ds_ob hf
            have hf := Option.some.inj hf
            subst hf
            rw [eG2] at hG
            replace hG : G1 rr := hG
            have hf := hr_0
            exact h1 (J_104 v3 o_next_r _ hf hG _ _ hP hD hS _ (lv_sub hl [0, 1, 2, 3] rfl))
          · replace hf := ds_f c_52 hf
            refine lv_aload_n hx hb dX8_dye_55 rfl (lv_at hl 0 rfl) ?_
            refine lv_iload hx hb dX8_dye_56 (lv_at hl 4 rfl) ?_
            refine lv_iload_n hx hb dX8_dye_58 rfl (lv_at hl 3 rfl) ?_
            obtain ⟨q59, hq59, hf⟩ := ds_ob hf
            refine ds_calli (wr := [(h_o_next, .inl (ca 0, 64, .inl o_next_r)), (h_o_undone, .inl (ca 0, 536, .inl o_undone_r))]) (va_runV (As := [.int v4, .int v3]) (rest := []) ⟨hx, hb, hml, hown, hts⟩ (c_X8_colour l dC dI ca sa h_o h_o_plans h_o_makers h_o_halves h_o_all h_o_text h_o_saved h_o_undone h_o_told h_o_shift h_o_rootOf h_o_becomes h_o_comes h_o_next H.size o_raised o_undos o_reached o_length o_begin o_letters o_sort o_word o_wrongAt o_badAt o_bad o_firstX o_firstY o_secondX o_secondY o_x o_all_r v4 v3 q59 hq59) (cwV 2 hts (ds_gV kw_651 kw_652 kw_653 kw_597 kw_654) rfl rfl rfl (by decide +kernel) ⟨Nat.le_of_ble_eq_true rfl, Nat.le_of_ble_eq_true rfl⟩) ⟨ds_blind, va_recv hK hP (ci := 7) (q0 := 0) rfl rfl, ds_at hP hD hK hE hS hA [0, 1] rfl rfl _⟩ rfl rfl hl.1 rfl (lv_room (Nat.le_of_ble_eq_true rfl)) dX8_dye_59 ⟨Nat.zero_le _, Nat.zero_le _⟩) hP hD hS hA [0, 1] [2, 3] rfl rfl rfl (by decide) (fun H locs hP hD hS => ?_)
            have hP : va_P (dC, dI) vwCl [(h_o_next, .inl (ca 0, 64, .inl o_next_r)), (h_o_undone, .inl (ca 0, 536, .inl o_undone_r)), (h_o, .inr (7, [.ref h_o_plans, .ref h_o_makers, .ref h_o_halves, .int o_raised, .ref h_o_all, .ref h_o_text, .ref h_o_saved, .ref h_o_undone, .int o_undos, .int o_reached, .int o_length, .int o_begin, .int o_letters, .int o_sort, .long o_word, .int o_wrongAt, .int o_badAt, .int o_bad, .ref h_o_told, .ref h_o_shift, .int o_firstX, .int o_firstY, .int o_secondX, .int o_secondY, .ref h_o_rootOf, .ref h_o_becomes, .ref h_o_comes, .ref h_o_next, .int o_x])), (h_o_all, .inl (ca 0, 350, .inl o_all_r))] H := hP
            have hD : va_D A [(h_o_next, .inl (ca 0, 64, .inl o_next_r)), (h_o_undone, .inl (ca 0, 536, .inl o_undone_r)), (h_o, .inr (7, [.ref h_o_plans, .ref h_o_makers, .ref h_o_halves, .int o_raised, .ref h_o_all, .ref h_o_text, .ref h_o_saved, .ref h_o_undone, .int o_undos, .int o_reached, .int o_length, .int o_begin, .int o_letters, .int o_sort, .long o_word, .int o_wrongAt, .int o_badAt, .int o_bad, .ref h_o_told, .ref h_o_shift, .int o_firstX, .int o_firstY, .int o_secondX, .int o_secondY, .ref h_o_rootOf, .ref h_o_becomes, .ref h_o_comes, .ref h_o_next, .int o_x])), (h_o_all, .inl (ca 0, 350, .inl o_all_r))] := hD
            refine lv_istore (lv' := [(5, .int q59), (0, .ref h_o), (1, .int p1), (2, .int p2), (3, .int v3), (4, .int v4)]) hx hb dX8_dye_62 hl (by decide) rfl (fun ls hl => ?_)
            refine lv_aload_n hx hb dX8_dye_64 rfl (lv_at hl 1 rfl) ?_
            refine va_get (D := (dC, dI)) (ci := 7) (v := .ref h_o_next) (C := RX8) (T := TX8) (N := 29) hx hb hts (fun w h => List.mem_cons_of_mem _ (kc_X8 w h)) hown hK hP 2 rfl rfl 27 (by decide) (hg kw_853) (fun _ h9 => h9) rfl dX8_dye_65 ?_
            refine lv_bipush (v := 8) hx hb dX8_dye_68 (by decide) ?_
            refine lv_iload_n hx hb dX8_dye_70 rfl (lv_at hl 4 rfl) ?_
            refine lv_imul hx hb dX8_dye_71 ?_
            refine lv_iload hx hb dX8_dye_72 (lv_at hl 5 rfl) ?_
            refine lv_iadd hx hb dX8_dye_74 ?_
            refine lv_iload hx hb dX8_dye_75 (lv_at hl 0 rfl) ?_
            refine lv_iload_n hx hb dX8_dye_77 rfl (lv_at hl 2 rfl) ?_
            refine lv_icmp_ne (tgt := 85) hx hb dX8_dye_78 (by decide) (fun c_78 => ?_) (fun c_78 => ?_)
            · replace hf := ds_f c_78 hf
              refine lv_iload hx hb dX8_dye_85 (lv_at hl 0 rfl) ?_
              refine lv_iload_n hx hb dX8_dye_87 rfl (lv_at hl 3 rfl) ?_
              refine lv_icmp_ne (tgt := 95) hx hb dX8_dye_88 (by decide) (fun c_88 => ?_) (fun c_88 => ?_)
              · replace hf := ds_f c_88 hf
                refine lv_iload hx hb dX8_dye_95 (lv_at hl 0 rfl) ?_
                exact h1 (J_97 v4 q59 (((8 : Int32) * v3) + v4) o_next_r _ hf hG _ _ (hP.sub [2, 3, 0, 1] rfl) (hD.sub [2, 3, 0, 1] rfl rfl) hS _ (lv_sub hl [1, 2, 3, 4, 5] rfl))
              · replace hf := ds_t c_88 hf
                refine lv_iload_n hx hb dX8_dye_91 rfl (lv_at hl 2 rfl) ?_
                refine lv_goto (tgt := 97) hx hb dX8_dye_92 (by decide) ?_
                exact h1 (J_97 v4 p1 (((8 : Int32) * v3) + v4) o_next_r _ hf hG _ _ (hP.sub [2, 3, 0, 1] rfl) (hD.sub [2, 3, 0, 1] rfl rfl) hS _ (lv_sub hl [1, 2, 3, 4, 5] rfl))
            · replace hf := ds_t c_78 hf
              refine lv_iload_n hx hb dX8_dye_81 rfl (lv_at hl 3 rfl) ?_
              refine lv_goto (tgt := 97) hx hb dX8_dye_82 (by decide) ?_
              exact h1 (J_97 v4 p2 (((8 : Int32) * v3) + v4) o_next_r _ hf hG _ _ (hP.sub [2, 3, 0, 1] rfl) (hD.sub [2, 3, 0, 1] rfl rfl) hS _ (lv_sub hl [1, 2, 3, 4, 5] rfl))
      unfold fX8_dye_31_b at hf
      refine lv_iload_n hx hb dX8_dye_31 rfl (lv_at hl 3 rfl) ?_
      refine lv_aload_n hx hb dX8_dye_32 rfl (lv_at hl 0 rfl) ?_
      refine va_get (D := (dC, dI)) (ci := 7) (v := .ref h_o_all) (C := RX8) (T := TX8) (N := 29) hx hb hts (fun w h => List.mem_cons_of_mem _ (kc_X8 w h)) hown hK hP 0 rfl rfl 4 (by decide) (hg kw_594) (fun _ h9 => h9) rfl dX8_dye_33 ?_
      refine lv_iconst (v := 1) hx hb dX8_dye_36 (by decide) ?_
      refine va_iald hx hb hK hP 1 0 rfl rfl (ds_in_ok (i := 1) (n := 350) (by decide)) dX8_dye_37 ?_
      refine lv_icmp_ge (tgt := 110) hx hb dX8_dye_38 (by decide) (fun c_38 => ?_) (fun c_38 => ?_)
      · replace hf := ds_t c_38 hf
        obtain ⟨rr, hr_0, hf⟩ := ds_ob hf
        have hf := Option.some.inj hf
        subst hf
        rw [eG1] at hG
        replace hG : G0 rr := hG
        have hf := hr_0
        exact h1 (J_110 o_raised o_undos o_all_r o_next_r o_undone_r _ hf hG _ _ hP hD hS _ (lv_sub hl [0] rfl))
      · replace hf := ds_f c_38 hf
        refine lv_iconst (v := 0) hx hb dX8_dye_41 (by decide) ?_
        refine lv_istore (lv' := [(4, .int (0 : Int32)), (0, .ref h_o), (1, .int p1), (2, .int p2), (3, .int v3)]) hx hb dX8_dye_42 hl (by decide) rfl (fun ls hl => ?_)
        exact h1 (J_44 v3 1000 (0 : Int32) o_next_r _ hf hG _ _ hP hD hS _ (lv_sub hl [1, 2, 3, 4, 0] rfl))
  unfold fX8_dye at hf
  refine lv_aload_n hx hb dX8_dye_0 rfl (lv_at hl 0 rfl) ?_
  refine lv_iconst (v := 0) hx hb dX8_dye_1 (by decide) ?_
  refine va_put (D := (dC, dI)) (ci := 7) (v := .int (0 : Int32)) (ty := tyX8 3) (C := RX8) (T := TX8) (N := 29) hx hb hts (fun w h => List.mem_cons_of_mem _ (kc_X8 w h)) tyX8 tyX8_ok nmX8 hown hK hP hD hS 0 rfl rfl 3 (by decide) (hg kw_564) (fun _ h9 => h9) rfl (by decide +kernel) rfl rfl (Nat.le_of_ble_eq_true rfl) dX8_dye_2 (fun H locs hP hD hS => ?_)
  have hP : va_P (dC, dI) vwCl [(h_o, .inr (7, [.ref h_o_plans, .ref h_o_makers, .ref h_o_halves, .int (0 : Int32), .ref h_o_all, .ref h_o_text, .ref h_o_saved, .ref h_o_undone, .int o_undos, .int o_reached, .int o_length, .int o_begin, .int o_letters, .int o_sort, .long o_word, .int o_wrongAt, .int o_badAt, .int o_bad, .ref h_o_told, .ref h_o_shift, .int o_firstX, .int o_firstY, .int o_secondX, .int o_secondY, .ref h_o_rootOf, .ref h_o_becomes, .ref h_o_comes, .ref h_o_next, .int o_x])), (h_o_all, .inl (ca 0, 350, .inl o_all_r)), (h_o_next, .inl (ca 0, 64, .inl o_next_r)), (h_o_undone, .inl (ca 0, 536, .inl o_undone_r))] H := hP
  have hD : va_D A [(h_o, .inr (7, [.ref h_o_plans, .ref h_o_makers, .ref h_o_halves, .int (0 : Int32), .ref h_o_all, .ref h_o_text, .ref h_o_saved, .ref h_o_undone, .int o_undos, .int o_reached, .int o_length, .int o_begin, .int o_letters, .int o_sort, .long o_word, .int o_wrongAt, .int o_badAt, .int o_bad, .ref h_o_told, .ref h_o_shift, .int o_firstX, .int o_firstY, .int o_secondX, .int o_secondY, .ref h_o_rootOf, .ref h_o_becomes, .ref h_o_comes, .ref h_o_next, .int o_x])), (h_o_all, .inl (ca 0, 350, .inl o_all_r)), (h_o_next, .inl (ca 0, 64, .inl o_next_r)), (h_o_undone, .inl (ca 0, 536, .inl o_undone_r))] := hD
  refine lv_iload_n hx hb dX8_dye_5 rfl (lv_at hl 1 rfl) ?_
  refine lv_iconst (v := 0) hx hb dX8_dye_6 (by decide) ?_
  refine lv_iconst (v := 3) hx hb dX8_dye_7 (by decide) ?_
  obtain ⟨q8, hq8, hf⟩ := ds_ob hf
  refine ds_calli (wr := [(h_o, .inr (7, [.ref h_o_plans, .ref h_o_makers, .ref h_o_halves, .int (0 : Int32), .ref h_o_all, .ref h_o_text, .ref h_o_saved, .ref h_o_undone, .int o_undos, .int o_reached, .int o_length, .int o_begin, .int o_letters, .int o_sort, .long o_word, .int o_wrongAt, .int o_badAt, .int o_bad, .ref h_o_told, .ref h_o_shift, .int o_firstX, .int o_firstY, .int o_secondX, .int o_secondY, .ref h_o_rootOf, .ref h_o_becomes, .ref h_o_comes, .ref h_o_next, .int o_x])), (h_o_all, .inl (ca 0, 350, .inl o_all_r)), (h_o_next, .inl (ca 0, 64, .inl o_next_r)), (h_o_undone, .inl (ca 0, 536, .inl o_undone_r))]) (va_runS (As := [.int p1, .int (0 : Int32), .int (3 : Int32)]) (rest := []) ⟨hx, hb, hml, hown, hts⟩ (c_X8_in l dC dI ca sa  H.size  p1 (0 : Int32) (3 : Int32) q8 hq8) (va_cwS 3 hts (ds_gS kw_619 kw_620 kw_597 kw_621) rfl rfl rfl (by decide +kernel) ⟨Nat.le_of_ble_eq_true rfl, Nat.le_of_ble_eq_true rfl⟩) ⟨ds_blind, ds_at hP hD hK hE hS hA [] rfl rfl _⟩ rfl rfl hl.1 rfl (lv_room (Nat.le_of_ble_eq_true rfl)) dX8_dye_8 ⟨Nat.zero_le _, Nat.zero_le _⟩) hP hD hS hA [] [0, 1, 2, 3] rfl rfl rfl (by decide) (fun H locs hP hD hS => ?_)
  have hP : va_P (dC, dI) vwCl [(h_o, .inr (7, [.ref h_o_plans, .ref h_o_makers, .ref h_o_halves, .int (0 : Int32), .ref h_o_all, .ref h_o_text, .ref h_o_saved, .ref h_o_undone, .int o_undos, .int o_reached, .int o_length, .int o_begin, .int o_letters, .int o_sort, .long o_word, .int o_wrongAt, .int o_badAt, .int o_bad, .ref h_o_told, .ref h_o_shift, .int o_firstX, .int o_firstY, .int o_secondX, .int o_secondY, .ref h_o_rootOf, .ref h_o_becomes, .ref h_o_comes, .ref h_o_next, .int o_x])), (h_o_all, .inl (ca 0, 350, .inl o_all_r)), (h_o_next, .inl (ca 0, 64, .inl o_next_r)), (h_o_undone, .inl (ca 0, 536, .inl o_undone_r))] H := hP
  have hD : va_D A [(h_o, .inr (7, [.ref h_o_plans, .ref h_o_makers, .ref h_o_halves, .int (0 : Int32), .ref h_o_all, .ref h_o_text, .ref h_o_saved, .ref h_o_undone, .int o_undos, .int o_reached, .int o_length, .int o_begin, .int o_letters, .int o_sort, .long o_word, .int o_wrongAt, .int o_badAt, .int o_bad, .ref h_o_told, .ref h_o_shift, .int o_firstX, .int o_firstY, .int o_secondX, .int o_secondY, .ref h_o_rootOf, .ref h_o_becomes, .ref h_o_comes, .ref h_o_next, .int o_x])), (h_o_all, .inl (ca 0, 350, .inl o_all_r)), (h_o_next, .inl (ca 0, 64, .inl o_next_r)), (h_o_undone, .inl (ca 0, 536, .inl o_undone_r))] := hD
  refine lv_if_eq (tgt := 23) hx hb dX8_dye_11 (by decide) (fun c_11 => ?_) (fun c_11 => ?_)
  · replace hf := ds_t c_11 hf
    refine lv_iconst (v := 0) hx hb dX8_dye_23 (by decide) ?_
    have hf := Option.some.inj hf
    subst hf
    rw [eG0] at hG
    have hG : _ = res := hG
    subst hG
    exact W.zret (v := (0 : Int32)) (ty := .boolean) hx hb hr rfl (fun t ht hW => ⟨⟨(0 : Int32), (), rfl, rfl, by rw [ht]; exact hP, hD⟩, hS.F ht⟩) hS.2.2 dX8_dye_24
  · replace hf := ds_f c_11 hf
    refine lv_iload_n hx hb dX8_dye_14 rfl (lv_at hl 2 rfl) ?_
    refine lv_iconst (v := 0) hx hb dX8_dye_15 (by decide) ?_
    refine lv_iconst (v := 3) hx hb dX8_dye_16 (by decide) ?_
    obtain ⟨q17, hq17, hf⟩ := ds_ob hf
    refine ds_calli (wr := [(h_o, .inr (7, [.ref h_o_plans, .ref h_o_makers, .ref h_o_halves, .int (0 : Int32), .ref h_o_all, .ref h_o_text, .ref h_o_saved, .ref h_o_undone, .int o_undos, .int o_reached, .int o_length, .int o_begin, .int o_letters, .int o_sort, .long o_word, .int o_wrongAt, .int o_badAt, .int o_bad, .ref h_o_told, .ref h_o_shift, .int o_firstX, .int o_firstY, .int o_secondX, .int o_secondY, .ref h_o_rootOf, .ref h_o_becomes, .ref h_o_comes, .ref h_o_next, .int o_x])), (h_o_all, .inl (ca 0, 350, .inl o_all_r)), (h_o_next, .inl (ca 0, 64, .inl o_next_r)), (h_o_undone, .inl (ca 0, 536, .inl o_undone_r))]) (va_runS (As := [.int p2, .int (0 : Int32), .int (3 : Int32)]) (rest := []) ⟨hx, hb, hml, hown, hts⟩ (c_X8_in l dC dI ca sa  H.size  p2 (0 : Int32) (3 : Int32) q17 hq17) (va_cwS 3 hts (ds_gS kw_619 kw_620 kw_597 kw_621) rfl rfl rfl (by decide +kernel) ⟨Nat.le_of_ble_eq_true rfl, Nat.le_of_ble_eq_true rfl⟩) ⟨ds_blind, ds_at hP hD hK hE hS hA [] rfl rfl _⟩ rfl rfl hl.1 rfl (lv_room (Nat.le_of_ble_eq_true rfl)) dX8_dye_17 ⟨Nat.zero_le _, Nat.zero_le _⟩) hP hD hS hA [] [0, 1, 2, 3] rfl rfl rfl (by decide) (fun H locs hP hD hS => ?_)
    have hP : va_P (dC, dI) vwCl [(h_o, .inr (7, [.ref h_o_plans, .ref h_o_makers, .ref h_o_halves, .int (0 : Int32), .ref h_o_all, .ref h_o_text, .ref h_o_saved, .ref h_o_undone, .int o_undos, .int o_reached, .int o_length, .int o_begin, .int o_letters, .int o_sort, .long o_word, .int o_wrongAt, .int o_badAt, .int o_bad, .ref h_o_told, .ref h_o_shift, .int o_firstX, .int o_firstY, .int o_secondX, .int o_secondY, .ref h_o_rootOf, .ref h_o_becomes, .ref h_o_comes, .ref h_o_next, .int o_x])), (h_o_all, .inl (ca 0, 350, .inl o_all_r)), (h_o_next, .inl (ca 0, 64, .inl o_next_r)), (h_o_undone, .inl (ca 0, 536, .inl o_undone_r))] H := hP
    have hD : va_D A [(h_o, .inr (7, [.ref h_o_plans, .ref h_o_makers, .ref h_o_halves, .int (0 : Int32), .ref h_o_all, .ref h_o_text, .ref h_o_saved, .ref h_o_undone, .int o_undos, .int o_reached, .int o_length, .int o_begin, .int o_letters, .int o_sort, .long o_word, .int o_wrongAt, .int o_badAt, .int o_bad, .ref h_o_told, .ref h_o_shift, .int o_firstX, .int o_firstY, .int o_secondX, .int o_secondY, .ref h_o_rootOf, .ref h_o_becomes, .ref h_o_comes, .ref h_o_next, .int o_x])), (h_o_all, .inl (ca 0, 350, .inl o_all_r)), (h_o_next, .inl (ca 0, 64, .inl o_next_r)), (h_o_undone, .inl (ca 0, 536, .inl o_undone_r))] := hD
    refine lv_if_ne (tgt := 25) hx hb dX8_dye_20 (by decide) (fun c_20 => ?_) (fun c_20 => ?_)
    · replace hf := ds_f c_20 hf
      refine lv_aload_n hx hb dX8_dye_25 rfl (lv_at hl 0 rfl) ?_
      obtain ⟨q26, hq26, hf⟩ := ds_ob hf
      refine ds_callv (wr := [(h_o_undone, .inl (ca 0, 536, .inl o_undone_r))]) (va_runV (As := []) (rest := []) ⟨hx, hb, hml, hown, hts⟩ (c_X8_keepsNext l dC dI ca sa h_o h_o_plans h_o_makers h_o_halves h_o_all h_o_text h_o_saved h_o_undone h_o_told h_o_shift h_o_rootOf h_o_becomes h_o_comes h_o_next H.size (0 : Int32) o_undos o_reached o_length o_begin o_letters o_sort o_word o_wrongAt o_badAt o_bad o_firstX o_firstY o_secondX o_secondY o_x o_all_r o_next_r  q26 hq26) (cwV 0 hts (ds_gV kw_858 kw_859 kw_860 kw_597 kw_861) rfl rfl rfl (by decide +kernel) ⟨Nat.le_of_ble_eq_true rfl, Nat.le_of_ble_eq_true rfl⟩) ⟨ds_blind, va_recv hK hP (ci := 7) (q0 := 0) rfl rfl, ds_at hP hD hK hE hS hA [0, 1, 2] rfl rfl _⟩ rfl rfl hl.1 rfl (lv_room (Nat.le_of_ble_eq_true rfl)) dX8_dye_26 ⟨Nat.zero_le _, Nat.zero_le _⟩) hP hD hS hA [0, 1, 2] [3] rfl rfl rfl (by decide) (fun H locs hP hD hS => ?_)
      have hP : va_P (dC, dI) vwCl [(h_o_undone, .inl (ca 0, 536, .inl o_undone_r)), (h_o, .inr (7, [.ref h_o_plans, .ref h_o_makers, .ref h_o_halves, .int (0 : Int32), .ref h_o_all, .ref h_o_text, .ref h_o_saved, .ref h_o_undone, .int o_undos, .int o_reached, .int o_length, .int o_begin, .int o_letters, .int o_sort, .long o_word, .int o_wrongAt, .int o_badAt, .int o_bad, .ref h_o_told, .ref h_o_shift, .int o_firstX, .int o_firstY, .int o_secondX, .int o_secondY, .ref h_o_rootOf, .ref h_o_becomes, .ref h_o_comes, .ref h_o_next, .int o_x])), (h_o_all, .inl (ca 0, 350, .inl o_all_r)), (h_o_next, .inl (ca 0, 64, .inl q26))] H := hP
      have hD : va_D A [(h_o_undone, .inl (ca 0, 536, .inl o_undone_r)), (h_o, .inr (7, [.ref h_o_plans, .ref h_o_makers, .ref h_o_halves, .int (0 : Int32), .ref h_o_all, .ref h_o_text, .ref h_o_saved, .ref h_o_undone, .int o_undos, .int o_reached, .int o_length, .int o_begin, .int o_letters, .int o_sort, .long o_word, .int o_wrongAt, .int o_badAt, .int o_bad, .ref h_o_told, .ref h_o_shift, .int o_firstX, .int o_firstY, .int o_secondX, .int o_secondY, .ref h_o_rootOf, .ref h_o_becomes, .ref h_o_comes, .ref h_o_next, .int o_x])), (h_o_all, .inl (ca 0, 350, .inl o_all_r)), (h_o_next, .inl (ca 0, 64, .inl q26))] := hD
      refine lv_iconst (v := 0) hx hb dX8_dye_29 (by decide) ?_
      refine lv_istore_n (lv' := [(3, .int (0 : Int32)), (0, .ref h_o), (1, .int p1), (2, .int p2)]) hx hb dX8_dye_30 rfl hl (by decide) rfl (fun ls hl => ?_)
      exact h1 (J_31 (0 : Int32) o_undos o_all_r o_undone_r 1000 (0 : Int32) q26 _ hf hG _ _ (hP.sub [1, 2, 3, 0] rfl) (hD.sub [1, 2, 3, 0] rfl rfl) hS _ (lv_sub hl [1, 2, 3, 0] rfl))
    · replace hf := ds_t c_20 hf
      refine lv_iconst (v := 0) hx hb dX8_dye_23 (by decide) ?_
      have hf := Option.some.inj hf
      subst hf
      rw [eG0] at hG
      have hG : _ = res := hG
      subst hG
      exact W.zret (v := (0 : Int32)) (ty := .boolean) hx hb hr rfl (fun t ht hW => ⟨⟨(0 : Int32), (), rfl, rfl, by rw [ht]; exact hP, hD⟩, hS.F ht⟩) hS.2.2 dX8_dye_24
theorem dX8_net_0 : decode cX8_net 0 = .ok (.aload_n 0, 1) := by decide +kernel
theorem dX8_net_1 : decode cX8_net 1 = .ok (.iconst 0, 1) := by decide +kernel
theorem dX8_net_2 : decode cX8_net 2 = .ok (.putfield 51, 3) := by decide +kernel
theorem dX8_net_5 : decode cX8_net 5 = .ok (.iload_n 1, 1) := by decide +kernel
theorem dX8_net_6 : decode cX8_net 6 = .ok (.ifCond .eq 7, 3) := by decide +kernel
theorem dX8_net_9 : decode cX8_net 9 = .ok (.iconst 1, 1) := by decide +kernel
theorem dX8_net_10 : decode cX8_net 10 = .ok (.goto 4, 3) := by decide +kernel
theorem dX8_net_13 : decode cX8_net 13 = .ok (.iconst 0, 1) := by decide +kernel
theorem dX8_net_14 : decode cX8_net 14 = .ok (.istore_n 2, 1) := by decide +kernel
theorem dX8_net_15 : decode cX8_net 15 = .ok (.aload_n 0, 1) := by decide +kernel
theorem dX8_net_16 : decode cX8_net 16 = .ok (.getfield 19, 3) := by decide +kernel
theorem dX8_net_19 : decode cX8_net 19 = .ok (.iconst 2, 1) := by decide +kernel
theorem dX8_net_20 : decode cX8_net 20 = .ok (.iaload, 1) := by decide +kernel
theorem dX8_net_21 : decode cX8_net 21 = .ok (.iload_n 2, 1) := by decide +kernel
theorem dX8_net_22 : decode cX8_net 22 = .ok (.if_icmp .ne 5, 3) := by decide +kernel
theorem dX8_net_25 : decode cX8_net 25 = .ok (.iconst 0, 1) := by decide +kernel
theorem dX8_net_26 : decode cX8_net 26 = .ok (.ireturn, 1) := by decide +kernel
theorem dX8_net_27 : decode cX8_net 27 = .ok (.aload_n 0, 1) := by decide +kernel
theorem dX8_net_28 : decode cX8_net 28 = .ok (.invokevirtual 287, 3) := by decide +kernel
theorem dX8_net_31 : decode cX8_net 31 = .ok (.aload_n 0, 1) := by decide +kernel
theorem dX8_net_32 : decode cX8_net 32 = .ok (.getfield 19, 3) := by decide +kernel
theorem dX8_net_35 : decode cX8_net 35 = .ok (.iconst 2, 1) := by decide +kernel
theorem dX8_net_36 : decode cX8_net 36 = .ok (.iload_n 2, 1) := by decide +kernel
theorem dX8_net_37 : decode cX8_net 37 = .ok (.iastore, 1) := by decide +kernel
theorem dX8_net_38 : decode cX8_net 38 = .ok (.iconst 1, 1) := by decide +kernel
theorem dX8_net_39 : decode cX8_net 39 = .ok (.ireturn, 1) := by decide +kernel
def fX8_net_14 (o_raised : Int32) (o_undos : Int32) (o_all_r : Nat → Int32) (o_undone_r : Nat → Int32) (s0 : Int32) : Option (Int32 × Int32 × Int32 × (Nat → Int32) × (Nat → Int32)) :=
  if (o_all_r (2 : Int32).toNatClampNeg) = s0 then some ((0 : Int32), o_raised, o_undos, o_all_r, o_undone_r) else Option.bind (fX8_keeps o_undos o_undone_r o_all_r) fun q28 => some ((1 : Int32), o_raised, q28.1, (upd o_all_r ((2 : Int32).toNatClampNeg) s0), q28.2)
def fX8_net (o_undos : Int32) (o_all_r : Nat → Int32) (o_undone_r : Nat → Int32) (p1 : Int32) : Option (Int32 × Int32 × Int32 × (Nat → Int32) × (Nat → Int32)) :=
  if p1 = 0 then fX8_net_14 (0 : Int32) o_undos o_all_r o_undone_r (0 : Int32) else fX8_net_14 (0 : Int32) o_undos o_all_r o_undone_r (1 : Int32)
set_option maxHeartbeats 4000000 in
set_option maxRecDepth 100000 in
theorem c_X8_net (l : Launch) (dC : Nat → ClassId) (dI : Nat → Nat → Nat) (ca : Nat → ClassId) (sa : Nat → Nat) (h_o : Nat) (h_o_plans : Nat) (h_o_makers : Nat) (h_o_halves : Nat) (h_o_all : Nat) (h_o_text : Nat) (h_o_saved : Nat) (h_o_undone : Nat) (h_o_told : Nat) (h_o_shift : Nat) (h_o_rootOf : Nat) (h_o_becomes : Nat) (h_o_comes : Nat) (h_o_next : Nat) (sz : Nat) (o_raised : Int32) (o_undos : Int32) (o_reached : Int32) (o_length : Int32) (o_begin : Int32) (o_letters : Int32) (o_sort : Int32) (o_word : Int64) (o_wrongAt : Int32) (o_badAt : Int32) (o_bad : Int32) (o_firstX : Int32) (o_firstY : Int32) (o_secondX : Int32) (o_secondY : Int32) (o_x : Int32) (o_all_r : Nat → Int32) (o_undone_r : Nat → Int32) (p1 : Int32) (res : Int32 × Int32 × Int32 × (Nat → Int32) × (Nat → Int32)) (hf : fX8_net o_undos o_all_r o_undone_r p1 = some res) : Met l yX8_net (Cond.code yX8_net cX8_net 3 (some .boolean) :: ds_gw) { frames := 1, cells := 0, slots := 0, locals := 21 } (va_Pc [.ref h_o, .int p1] (ds_Pre dC dI ca sa [(h_o, .inr (7, [.ref h_o_plans, .ref h_o_makers, .ref h_o_halves, .int o_raised, .ref h_o_all, .ref h_o_text, .ref h_o_saved, .ref h_o_undone, .int o_undos, .int o_reached, .int o_length, .int o_begin, .int o_letters, .int o_sort, .long o_word, .int o_wrongAt, .int o_badAt, .int o_bad, .ref h_o_told, .ref h_o_shift, .int o_firstX, .int o_firstY, .int o_secondX, .int o_secondY, .ref h_o_rootOf, .ref h_o_becomes, .ref h_o_comes, .ref h_o_next, .int o_x])), (h_o_all, .inl (ca 0, 350, .inl o_all_r)), (h_o_undone, .inl (ca 0, 536, .inl o_undone_r))] sz)) (va_Qi (fun r (_ : Unit) => r = res.1) (ds_B dC dI (va_A [(h_o, .inr (7, [.ref h_o_plans, .ref h_o_makers, .ref h_o_halves, .int o_raised, .ref h_o_all, .ref h_o_text, .ref h_o_saved, .ref h_o_undone, .int o_undos, .int o_reached, .int o_length, .int o_begin, .int o_letters, .int o_sort, .long o_word, .int o_wrongAt, .int o_badAt, .int o_bad, .ref h_o_told, .ref h_o_shift, .int o_firstX, .int o_firstY, .int o_secondX, .int o_secondY, .ref h_o_rootOf, .ref h_o_becomes, .ref h_o_comes, .ref h_o_next, .int o_x])), (h_o_all, .inl (ca 0, 350, .inl o_all_r)), (h_o_undone, .inl (ca 0, 536, .inl o_undone_r))] sz) [(h_o, .inr (7, [.ref h_o_plans, .ref h_o_makers, .ref h_o_halves, .int res.2.1, .ref h_o_all, .ref h_o_text, .ref h_o_saved, .ref h_o_undone, .int res.2.2.1, .int o_reached, .int o_length, .int o_begin, .int o_letters, .int o_sort, .long o_word, .int o_wrongAt, .int o_badAt, .int o_bad, .ref h_o_told, .ref h_o_shift, .int o_firstX, .int o_firstY, .int o_secondX, .int o_secondY, .ref h_o_rootOf, .ref h_o_becomes, .ref h_o_comes, .ref h_o_next, .int o_x])), (h_o_all, .inl (ca 0, 350, .inl res.2.2.2.1)), (h_o_undone, .inl (ca 0, 536, .inl res.2.2.2.2))]) (va_A [(h_o, .inr (7, [.ref h_o_plans, .ref h_o_makers, .ref h_o_halves, .int o_raised, .ref h_o_all, .ref h_o_text, .ref h_o_saved, .ref h_o_undone, .int o_undos, .int o_reached, .int o_length, .int o_begin, .int o_letters, .int o_sort, .long o_word, .int o_wrongAt, .int o_badAt, .int o_bad, .ref h_o_told, .ref h_o_shift, .int o_firstX, .int o_firstY, .int o_secondX, .int o_secondY, .ref h_o_rootOf, .ref h_o_becomes, .ref h_o_comes, .ref h_o_next, .int o_x])), (h_o_all, .inl (ca 0, 350, .inl o_all_r)), (h_o_undone, .inl (ca 0, 536, .inl o_undone_r))] sz)) 0 0 (va_A [(h_o, .inr (7, [.ref h_o_plans, .ref h_o_makers, .ref h_o_halves, .int o_raised, .ref h_o_all, .ref h_o_text, .ref h_o_saved, .ref h_o_undone, .int o_undos, .int o_reached, .int o_length, .int o_begin, .int o_letters, .int o_sort, .long o_word, .int o_wrongAt, .int o_badAt, .int o_bad, .ref h_o_told, .ref h_o_shift, .int o_firstX, .int o_firstY, .int o_secondX, .int o_secondY, .ref h_o_rootOf, .ref h_o_becomes, .ref h_o_comes, .ref h_o_next, .int o_x])), (h_o_all, .inl (ca 0, 350, .inl o_all_r)), (h_o_undone, .inl (ca 0, 536, .inl o_undone_r))] sz) := by
  refine Met.ofW (cc := cX8_net) (maxL := 3) (ret := (some .boolean)) (by decide) rfl ?_
  intro p e s m args below meth c s₁ B hml hv
  obtain ⟨rfl, hsz, hP, hK, hD0, hE⟩ := hv
  have hx := B.exec
  have hb := B.bytes
  have hr := B.returns
  have hts := atoms_spec (ws := Cond.code yX8_net cX8_net 3 (some .boolean) :: ds_gw) B.pre
  have hg : ∀ {w : Cond}, w ∈ ds_gw → w.before _ s = true := fun h => hts _ (List.mem_cons_of_mem _ h)
  have hown : s.vm.findClass RX8 = some m.cls := findClass_of_methodNamed B.named
  have hlocks := B.notSynchronized
  subst hsz
  have hD := hD0.self (sz := s.heap.size)
  generalize hAe : va_A [(h_o, .inr (7, [.ref h_o_plans, .ref h_o_makers, .ref h_o_halves, .int o_raised, .ref h_o_all, .ref h_o_text, .ref h_o_saved, .ref h_o_undone, .int o_undos, .int o_reached, .int o_length, .int o_begin, .int o_letters, .int o_sort, .long o_word, .int o_wrongAt, .int o_badAt, .int o_bad, .ref h_o_told, .ref h_o_shift, .int o_firstX, .int o_firstY, .int o_secondX, .int o_secondY, .ref h_o_rootOf, .ref h_o_becomes, .ref h_o_comes, .ref h_o_next, .int o_x])), (h_o_all, .inl (ca 0, 350, .inl o_all_r)), (h_o_undone, .inl (ca 0, 536, .inl o_undone_r))] s.heap.size = A at hD hE ⊢
  have hA : ∀ q : Nat, s.heap.size ≤ q → A q := fun q h => by rw [← hAe]; exact Or.inr h
  have hS : va_S A s.heap s.heap [] := va_S.rf
  have hl := lv_entry ([.ref h_o, .int p1]) (n := 3) (Nat.le_of_ble_eq_true rfl)
  rw [lg_entry_eq]
  generalize (lg_sl ([.ref h_o, .int p1]) ++ List.replicate (3 - (lg_sl ([.ref h_o, .int p1])).length) Slot.unset).toArray = ls at hl ⊢
  have hl : lv_has ls 3 [(0, .ref h_o), (1, .int p1)] := hl
  obtain ⟨G0, eG0⟩ : ∃ G : (Int32 × Int32 × Int32 × (Nat → Int32) × (Nat → Int32)) → Prop, G = (fun r => r = res) := ⟨_, rfl⟩
  obtain ⟨rr, hrr⟩ : ∃ z, z = res := ⟨_, rfl⟩
  rw [← hrr] at hf
  have hG : G0 rr := by subst eG0; exact hrr
  refine ds_cap (fun WW h1 h2 => ?_)
  have J_14 : ∀ (s0 : Int32) (o_raised : Int32) (o_undos : Int32) (o_all_r : Nat → Int32) (o_undone_r : Nat → Int32) (rr : Int32 × Int32 × Int32 × (Nat → Int32) × (Nat → Int32)) (hf : fX8_net_14 o_raised o_undos o_all_r o_undone_r s0 = some rr) (hG : G0 rr) (H : Heap) (locs : List Loc) (hP : va_P (dC, dI) vwCl [(h_o, .inr (7, [.ref h_o_plans, .ref h_o_makers, .ref h_o_halves, .int o_raised, .ref h_o_all, .ref h_o_text, .ref h_o_saved, .ref h_o_undone, .int o_undos, .int o_reached, .int o_length, .int o_begin, .int o_letters, .int o_sort, .long o_word, .int o_wrongAt, .int o_badAt, .int o_bad, .ref h_o_told, .ref h_o_shift, .int o_firstX, .int o_firstY, .int o_secondX, .int o_secondY, .ref h_o_rootOf, .ref h_o_becomes, .ref h_o_comes, .ref h_o_next, .int o_x])), (h_o_all, .inl (ca 0, 350, .inl o_all_r)), (h_o_undone, .inl (ca 0, 536, .inl o_undone_r))] H) (hD : va_D A [(h_o, .inr (7, [.ref h_o_plans, .ref h_o_makers, .ref h_o_halves, .int o_raised, .ref h_o_all, .ref h_o_text, .ref h_o_saved, .ref h_o_undone, .int o_undos, .int o_reached, .int o_length, .int o_begin, .int o_letters, .int o_sort, .long o_word, .int o_wrongAt, .int o_badAt, .int o_bad, .ref h_o_told, .ref h_o_shift, .int o_firstX, .int o_firstY, .int o_secondX, .int o_secondY, .ref h_o_rootOf, .ref h_o_becomes, .ref h_o_comes, .ref h_o_next, .int o_x])), (h_o_all, .inl (ca 0, 350, .inl o_all_r)), (h_o_undone, .inl (ca 0, 536, .inl o_undone_r))]) (hS : va_S A s.heap H locs) (ls : Array Slot) (hl : lv_has ls 3 [(0, .ref h_o)]), WW H locs (F0 m 14 ls [.int s0]) := by
    intro s0 o_raised o_undos o_all_r o_undone_r rr hf hG H locs hP hD hS ls hl
    refine h2 ?_
    unfold fX8_net_14 at hf
    refine lv_istore_n (lv' := [(2, .int s0), (0, .ref h_o)]) hx hb dX8_net_14 rfl hl (by decide) rfl (fun ls hl => ?_)
    refine lv_aload_n hx hb dX8_net_15 rfl (lv_at hl 1 rfl) ?_
    refine va_get (D := (dC, dI)) (ci := 7) (v := .ref h_o_all) (C := RX8) (T := TX8) (N := 29) hx hb hts (fun w h => List.mem_cons_of_mem _ (kc_X8 w h)) hown hK hP 0 rfl rfl 4 (by decide) (hg kw_594) (fun _ h9 => h9) rfl dX8_net_16 ?_
    refine lv_iconst (v := 2) hx hb dX8_net_19 (by decide) ?_
    refine va_iald hx hb hK hP 1 0 rfl rfl (ds_in_ok (i := 2) (n := 350) (by decide)) dX8_net_20 ?_
    refine lv_iload_n hx hb dX8_net_21 rfl (lv_at hl 0 rfl) ?_
    refine lv_icmp_ne (tgt := 27) hx hb dX8_net_22 (by decide) (fun c_22 => ?_) (fun c_22 => ?_)
    · replace hf := ds_f c_22 hf
      refine lv_aload_n hx hb dX8_net_27 rfl (lv_at hl 1 rfl) ?_
      obtain ⟨q28, hq28, hf⟩ := ds_ob hf
      refine ds_callv (wr := []) (va_runV (As := []) (rest := []) ⟨hx, hb, hml, hown, hts⟩ (c_X8_keeps l dC dI ca sa h_o h_o_plans h_o_makers h_o_halves h_o_all h_o_text h_o_saved h_o_undone h_o_told h_o_shift h_o_rootOf h_o_becomes h_o_comes h_o_next H.size o_raised o_undos o_reached o_length o_begin o_letters o_sort o_word o_wrongAt o_badAt o_bad o_firstX o_firstY o_secondX o_secondY o_x o_undone_r o_all_r  q28 hq28) (cwV 0 hts (ds_gV kw_849 kw_850 kw_851 kw_597 kw_852) rfl rfl rfl (by decide +kernel) ⟨Nat.le_of_ble_eq_true rfl, Nat.le_of_ble_eq_true rfl⟩) ⟨ds_blind, va_recv hK hP (ci := 7) (q0 := 0) rfl rfl, ds_at hP hD hK hE hS hA [0, 2, 1] rfl rfl _⟩ rfl rfl hl.1 rfl (lv_room (Nat.le_of_ble_eq_true rfl)) dX8_net_28 ⟨Nat.zero_le _, Nat.zero_le _⟩) hP hD hS hA [0, 2, 1] [] rfl rfl rfl (by decide) (fun H locs hP hD hS => ?_)
      have hP : va_P (dC, dI) vwCl [(h_o, .inr (7, [.ref h_o_plans, .ref h_o_makers, .ref h_o_halves, .int o_raised, .ref h_o_all, .ref h_o_text, .ref h_o_saved, .ref h_o_undone, .int q28.1, .int o_reached, .int o_length, .int o_begin, .int o_letters, .int o_sort, .long o_word, .int o_wrongAt, .int o_badAt, .int o_bad, .ref h_o_told, .ref h_o_shift, .int o_firstX, .int o_firstY, .int o_secondX, .int o_secondY, .ref h_o_rootOf, .ref h_o_becomes, .ref h_o_comes, .ref h_o_next, .int o_x])), (h_o_undone, .inl (ca 0, 536, .inl q28.2)), (h_o_all, .inl (ca 0, 350, .inl o_all_r))] H := hP
      have hD : va_D A [(h_o, .inr (7, [.ref h_o_plans, .ref h_o_makers, .ref h_o_halves, .int o_raised, .ref h_o_all, .ref h_o_text, .ref h_o_saved, .ref h_o_undone, .int q28.1, .int o_reached, .int o_length, .int o_begin, .int o_letters, .int o_sort, .long o_word, .int o_wrongAt, .int o_badAt, .int o_bad, .ref h_o_told, .ref h_o_shift, .int o_firstX, .int o_firstY, .int o_secondX, .int o_secondY, .ref h_o_rootOf, .ref h_o_becomes, .ref h_o_comes, .ref h_o_next, .int o_x])), (h_o_undone, .inl (ca 0, 536, .inl q28.2)), (h_o_all, .inl (ca 0, 350, .inl o_all_r))] := hD
      refine lv_aload_n hx hb dX8_net_31 rfl (lv_at hl 1 rfl) ?_
      refine va_get (D := (dC, dI)) (ci := 7) (v := .ref h_o_all) (C := RX8) (T := TX8) (N := 29) hx hb hts (fun w h => List.mem_cons_of_mem _ (kc_X8 w h)) hown hK hP 0 rfl rfl 4 (by decide) (hg kw_594) (fun _ h9 => h9) rfl dX8_net_32 ?_
      refine lv_iconst (v := 2) hx hb dX8_net_35 (by decide) ?_
      refine lv_iload_n hx hb dX8_net_36 rfl (lv_at hl 0 rfl) ?_
      refine va_iast hx hb hK hP hD hS 2 0 rfl rfl (ds_in_ok (i := 2) (n := 350) (by decide)) dX8_net_37 (fun H locs hP hD hS => ?_)
      have hP : va_P (dC, dI) vwCl [(h_o, .inr (7, [.ref h_o_plans, .ref h_o_makers, .ref h_o_halves, .int o_raised, .ref h_o_all, .ref h_o_text, .ref h_o_saved, .ref h_o_undone, .int q28.1, .int o_reached, .int o_length, .int o_begin, .int o_letters, .int o_sort, .long o_word, .int o_wrongAt, .int o_badAt, .int o_bad, .ref h_o_told, .ref h_o_shift, .int o_firstX, .int o_firstY, .int o_secondX, .int o_secondY, .ref h_o_rootOf, .ref h_o_becomes, .ref h_o_comes, .ref h_o_next, .int o_x])), (h_o_undone, .inl (ca 0, 536, .inl q28.2)), (h_o_all, .inl (ca 0, 350, .inl (upd o_all_r ((2 : Int32).toNatClampNeg) s0)))] H := hP
      have hD : va_D A [(h_o, .inr (7, [.ref h_o_plans, .ref h_o_makers, .ref h_o_halves, .int o_raised, .ref h_o_all, .ref h_o_text, .ref h_o_saved, .ref h_o_undone, .int q28.1, .int o_reached, .int o_length, .int o_begin, .int o_letters, .int o_sort, .long o_word, .int o_wrongAt, .int o_badAt, .int o_bad, .ref h_o_told, .ref h_o_shift, .int o_firstX, .int o_firstY, .int o_secondX, .int o_secondY, .ref h_o_rootOf, .ref h_o_becomes, .ref h_o_comes, .ref h_o_next, .int o_x])), (h_o_undone, .inl (ca 0, 536, .inl q28.2)), (h_o_all, .inl (ca 0, 350, .inl (upd o_all_r ((2 : Int32).toNatClampNeg) s0)))] := hD
      refine lv_iconst (v := 1) hx hb dX8_net_38 (by decide) ?_
      have hf := Option.some.inj hf
      subst hf
      rw [eG0] at hG
      have hG : _ = res := hG
      subst hG
      exact W.zret (v := (1 : Int32)) (ty := .boolean) hx hb hr rfl (fun t ht hW => ⟨⟨(1 : Int32), (), rfl, rfl, by rw [ht]; exact (hP.sub [0, 2, 1] rfl), (hD.sub [0, 2, 1] rfl rfl)⟩, hS.F ht⟩) hS.2.2 dX8_net_39
    · replace hf := ds_t c_22 hf
      refine lv_iconst (v := 0) hx hb dX8_net_25 (by decide) ?_
      have hf := Option.some.inj hf
      subst hf
      rw [eG0] at hG
      have hG : _ = res := hG
      subst hG
      exact W.zret (v := (0 : Int32)) (ty := .boolean) hx hb hr rfl (fun t ht hW => ⟨⟨(0 : Int32), (), rfl, rfl, by rw [ht]; exact hP, hD⟩, hS.F ht⟩) hS.2.2 dX8_net_26
  unfold fX8_net at hf
  refine lv_aload_n hx hb dX8_net_0 rfl (lv_at hl 0 rfl) ?_
  refine lv_iconst (v := 0) hx hb dX8_net_1 (by decide) ?_
  refine va_put (D := (dC, dI)) (ci := 7) (v := .int (0 : Int32)) (ty := tyX8 3) (C := RX8) (T := TX8) (N := 29) hx hb hts (fun w h => List.mem_cons_of_mem _ (kc_X8 w h)) tyX8 tyX8_ok nmX8 hown hK hP hD hS 0 rfl rfl 3 (by decide) (hg kw_564) (fun _ h9 => h9) rfl (by decide +kernel) rfl rfl (Nat.le_of_ble_eq_true rfl) dX8_net_2 (fun H locs hP hD hS => ?_)
  have hP : va_P (dC, dI) vwCl [(h_o, .inr (7, [.ref h_o_plans, .ref h_o_makers, .ref h_o_halves, .int (0 : Int32), .ref h_o_all, .ref h_o_text, .ref h_o_saved, .ref h_o_undone, .int o_undos, .int o_reached, .int o_length, .int o_begin, .int o_letters, .int o_sort, .long o_word, .int o_wrongAt, .int o_badAt, .int o_bad, .ref h_o_told, .ref h_o_shift, .int o_firstX, .int o_firstY, .int o_secondX, .int o_secondY, .ref h_o_rootOf, .ref h_o_becomes, .ref h_o_comes, .ref h_o_next, .int o_x])), (h_o_all, .inl (ca 0, 350, .inl o_all_r)), (h_o_undone, .inl (ca 0, 536, .inl o_undone_r))] H := hP
  have hD : va_D A [(h_o, .inr (7, [.ref h_o_plans, .ref h_o_makers, .ref h_o_halves, .int (0 : Int32), .ref h_o_all, .ref h_o_text, .ref h_o_saved, .ref h_o_undone, .int o_undos, .int o_reached, .int o_length, .int o_begin, .int o_letters, .int o_sort, .long o_word, .int o_wrongAt, .int o_badAt, .int o_bad, .ref h_o_told, .ref h_o_shift, .int o_firstX, .int o_firstY, .int o_secondX, .int o_secondY, .ref h_o_rootOf, .ref h_o_becomes, .ref h_o_comes, .ref h_o_next, .int o_x])), (h_o_all, .inl (ca 0, 350, .inl o_all_r)), (h_o_undone, .inl (ca 0, 536, .inl o_undone_r))] := hD
  refine lv_iload_n hx hb dX8_net_5 rfl (lv_at hl 1 rfl) ?_
  refine lv_if_eq (tgt := 13) hx hb dX8_net_6 (by decide) (fun c_6 => ?_) (fun c_6 => ?_)
  · replace hf := ds_t c_6 hf
    refine lv_iconst (v := 0) hx hb dX8_net_13 (by decide) ?_
    exact h1 (J_14 (0 : Int32) (0 : Int32) o_undos o_all_r o_undone_r _ hf hG _ _ hP hD hS _ (lv_sub hl [0] rfl))
  · replace hf := ds_f c_6 hf
    refine lv_iconst (v := 1) hx hb dX8_net_9 (by decide) ?_
    refine lv_goto (tgt := 14) hx hb dX8_net_10 (by decide) ?_
    exact h1 (J_14 (1 : Int32) (0 : Int32) o_undos o_all_r o_undone_r _ hf hG _ _ hP hD hS _ (lv_sub hl [0] rfl))
theorem dX8_drawn_0 : decode cX8_drawn 0 = .ok (.aload_n 0, 1) := by decide +kernel
theorem dX8_drawn_1 : decode cX8_drawn 1 = .ok (.aload_n 0, 1) := by decide +kernel
theorem dX8_drawn_2 : decode cX8_drawn 2 = .ok (.getfield 296, 3) := by decide +kernel
theorem dX8_drawn_5 : decode cX8_drawn 5 = .ok (.ldc_w 299, 3) := by decide +kernel
theorem dX8_drawn_8 : decode cX8_drawn 8 = .ok (.imul, 1) := by decide +kernel
theorem dX8_drawn_9 : decode cX8_drawn 9 = .ok (.sipush 12345, 3) := by decide +kernel
theorem dX8_drawn_12 : decode cX8_drawn 12 = .ok (.iadd, 1) := by decide +kernel
theorem dX8_drawn_13 : decode cX8_drawn 13 = .ok (.putfield 296, 3) := by decide +kernel
theorem dX8_drawn_16 : decode cX8_drawn 16 = .ok (.aload_n 0, 1) := by decide +kernel
theorem dX8_drawn_17 : decode cX8_drawn 17 = .ok (.getfield 296, 3) := by decide +kernel
theorem dX8_drawn_20 : decode cX8_drawn 20 = .ok (.bipush 16, 2) := by decide +kernel
theorem dX8_drawn_22 : decode cX8_drawn 22 = .ok (.iushr, 1) := by decide +kernel
theorem dX8_drawn_23 : decode cX8_drawn 23 = .ok (.iload_n 1, 1) := by decide +kernel
theorem dX8_drawn_24 : decode cX8_drawn 24 = .ok (.irem, 1) := by decide +kernel
theorem dX8_drawn_25 : decode cX8_drawn 25 = .ok (.ireturn, 1) := by decide +kernel
def fX8_drawn (o_x : Int32) (p1 : Int32) : Option (Int32 × Int32) :=
  Option.bind (some (((o_x * (1103515245 : Int32)) + (12345 : Int32)))) fun x13 => if p1 = 0 then none else some ((ds_rem (ds_iushr x13 (16 : Int32)) p1), x13)
set_option maxHeartbeats 4000000 in
set_option maxRecDepth 100000 in
theorem c_X8_drawn (l : Launch) (dC : Nat → ClassId) (dI : Nat → Nat → Nat) (ca : Nat → ClassId) (sa : Nat → Nat) (h_o : Nat) (h_o_plans : Nat) (h_o_makers : Nat) (h_o_halves : Nat) (h_o_all : Nat) (h_o_text : Nat) (h_o_saved : Nat) (h_o_undone : Nat) (h_o_told : Nat) (h_o_shift : Nat) (h_o_rootOf : Nat) (h_o_becomes : Nat) (h_o_comes : Nat) (h_o_next : Nat) (sz : Nat) (o_raised : Int32) (o_undos : Int32) (o_reached : Int32) (o_length : Int32) (o_begin : Int32) (o_letters : Int32) (o_sort : Int32) (o_word : Int64) (o_wrongAt : Int32) (o_badAt : Int32) (o_bad : Int32) (o_firstX : Int32) (o_firstY : Int32) (o_secondX : Int32) (o_secondY : Int32) (o_x : Int32) (p1 : Int32) (res : Int32 × Int32) (hf : fX8_drawn o_x p1 = some res) : Met l yX8_drawn (Cond.code yX8_drawn cX8_drawn 2 (some .int) :: ds_gw) { frames := 0, cells := 0, slots := 0, locals := 0 } (va_Pc [.ref h_o, .int p1] (ds_Pre dC dI ca sa [(h_o, .inr (7, [.ref h_o_plans, .ref h_o_makers, .ref h_o_halves, .int o_raised, .ref h_o_all, .ref h_o_text, .ref h_o_saved, .ref h_o_undone, .int o_undos, .int o_reached, .int o_length, .int o_begin, .int o_letters, .int o_sort, .long o_word, .int o_wrongAt, .int o_badAt, .int o_bad, .ref h_o_told, .ref h_o_shift, .int o_firstX, .int o_firstY, .int o_secondX, .int o_secondY, .ref h_o_rootOf, .ref h_o_becomes, .ref h_o_comes, .ref h_o_next, .int o_x]))] sz)) (va_Qi (fun r (_ : Unit) => r = res.1) (ds_B dC dI (va_A [(h_o, .inr (7, [.ref h_o_plans, .ref h_o_makers, .ref h_o_halves, .int o_raised, .ref h_o_all, .ref h_o_text, .ref h_o_saved, .ref h_o_undone, .int o_undos, .int o_reached, .int o_length, .int o_begin, .int o_letters, .int o_sort, .long o_word, .int o_wrongAt, .int o_badAt, .int o_bad, .ref h_o_told, .ref h_o_shift, .int o_firstX, .int o_firstY, .int o_secondX, .int o_secondY, .ref h_o_rootOf, .ref h_o_becomes, .ref h_o_comes, .ref h_o_next, .int o_x]))] sz) [(h_o, .inr (7, [.ref h_o_plans, .ref h_o_makers, .ref h_o_halves, .int o_raised, .ref h_o_all, .ref h_o_text, .ref h_o_saved, .ref h_o_undone, .int o_undos, .int o_reached, .int o_length, .int o_begin, .int o_letters, .int o_sort, .long o_word, .int o_wrongAt, .int o_badAt, .int o_bad, .ref h_o_told, .ref h_o_shift, .int o_firstX, .int o_firstY, .int o_secondX, .int o_secondY, .ref h_o_rootOf, .ref h_o_becomes, .ref h_o_comes, .ref h_o_next, .int res.2]))]) (va_A [(h_o, .inr (7, [.ref h_o_plans, .ref h_o_makers, .ref h_o_halves, .int o_raised, .ref h_o_all, .ref h_o_text, .ref h_o_saved, .ref h_o_undone, .int o_undos, .int o_reached, .int o_length, .int o_begin, .int o_letters, .int o_sort, .long o_word, .int o_wrongAt, .int o_badAt, .int o_bad, .ref h_o_told, .ref h_o_shift, .int o_firstX, .int o_firstY, .int o_secondX, .int o_secondY, .ref h_o_rootOf, .ref h_o_becomes, .ref h_o_comes, .ref h_o_next, .int o_x]))] sz)) 0 0 (va_A [(h_o, .inr (7, [.ref h_o_plans, .ref h_o_makers, .ref h_o_halves, .int o_raised, .ref h_o_all, .ref h_o_text, .ref h_o_saved, .ref h_o_undone, .int o_undos, .int o_reached, .int o_length, .int o_begin, .int o_letters, .int o_sort, .long o_word, .int o_wrongAt, .int o_badAt, .int o_bad, .ref h_o_told, .ref h_o_shift, .int o_firstX, .int o_firstY, .int o_secondX, .int o_secondY, .ref h_o_rootOf, .ref h_o_becomes, .ref h_o_comes, .ref h_o_next, .int o_x]))] sz) := by
  refine Met.ofW (cc := cX8_drawn) (maxL := 2) (ret := (some .int)) (by decide) rfl ?_
  intro p e s m args below meth c s₁ B hml hv
  obtain ⟨rfl, hsz, hP, hK, hD0, hE⟩ := hv
  have hx := B.exec
  have hb := B.bytes
  have hr := B.returns
  have hts := atoms_spec (ws := Cond.code yX8_drawn cX8_drawn 2 (some .int) :: ds_gw) B.pre
  have hg : ∀ {w : Cond}, w ∈ ds_gw → w.before _ s = true := fun h => hts _ (List.mem_cons_of_mem _ h)
  have hown : s.vm.findClass RX8 = some m.cls := findClass_of_methodNamed B.named
  have hlocks := B.notSynchronized
  subst hsz
  have hD := hD0.self (sz := s.heap.size)
  generalize hAe : va_A [(h_o, .inr (7, [.ref h_o_plans, .ref h_o_makers, .ref h_o_halves, .int o_raised, .ref h_o_all, .ref h_o_text, .ref h_o_saved, .ref h_o_undone, .int o_undos, .int o_reached, .int o_length, .int o_begin, .int o_letters, .int o_sort, .long o_word, .int o_wrongAt, .int o_badAt, .int o_bad, .ref h_o_told, .ref h_o_shift, .int o_firstX, .int o_firstY, .int o_secondX, .int o_secondY, .ref h_o_rootOf, .ref h_o_becomes, .ref h_o_comes, .ref h_o_next, .int o_x]))] s.heap.size = A at hD hE ⊢
  have hA : ∀ q : Nat, s.heap.size ≤ q → A q := fun q h => by rw [← hAe]; exact Or.inr h
  have hS : va_S A s.heap s.heap [] := va_S.rf
  have hl := lv_entry ([.ref h_o, .int p1]) (n := 2) (Nat.le_of_ble_eq_true rfl)
  rw [lg_entry_eq]
  generalize (lg_sl ([.ref h_o, .int p1]) ++ List.replicate (2 - (lg_sl ([.ref h_o, .int p1])).length) Slot.unset).toArray = ls at hl ⊢
  have hl : lv_has ls 2 [(0, .ref h_o), (1, .int p1)] := hl
  obtain ⟨G0, eG0⟩ : ∃ G : (Int32 × Int32) → Prop, G = (fun r => r = res) := ⟨_, rfl⟩
  obtain ⟨rr, hrr⟩ : ∃ z, z = res := ⟨_, rfl⟩
  rw [← hrr] at hf
  have hG : G0 rr := by subst eG0; exact hrr
  unfold fX8_drawn at hf
  refine lv_aload_n hx hb dX8_drawn_0 rfl (lv_at hl 0 rfl) ?_
  refine lv_aload_n hx hb dX8_drawn_1 rfl (lv_at hl 0 rfl) ?_
  refine va_get (D := (dC, dI)) (ci := 7) (v := .int o_x) (C := RX8) (T := TX8) (N := 29) hx hb hts (fun w h => List.mem_cons_of_mem _ (kc_X8 w h)) hown hK hP 0 rfl rfl 28 (by decide) (hg kw_862) (fun _ h9 => h9) rfl dX8_drawn_2 ?_
  refine lv_ldcw (own := RX8) (v := 1103515245) hx hb hown (hg kw_863) dX8_drawn_5 ?_
  refine lv_imul hx hb dX8_drawn_8 ?_
  refine lv_sipush (v := 12345) hx hb dX8_drawn_9 (by decide) ?_
  refine lv_iadd hx hb dX8_drawn_12 ?_
  obtain ⟨x13, hx_13, hf⟩ := ds_ob hf
  refine ds_nmi hx_13 ?_
  refine va_put (D := (dC, dI)) (ci := 7) (v := .int x13) (ty := tyX8 28) (C := RX8) (T := TX8) (N := 29) hx hb hts (fun w h => List.mem_cons_of_mem _ (kc_X8 w h)) tyX8 tyX8_ok nmX8 hown hK hP hD hS 0 rfl rfl 28 (by decide) (hg kw_862) (fun _ h9 => h9) rfl (by decide +kernel) rfl rfl (Nat.le_of_ble_eq_true rfl) dX8_drawn_13 (fun H locs hP hD hS => ?_)
  have hP : va_P (dC, dI) vwCl [(h_o, .inr (7, [.ref h_o_plans, .ref h_o_makers, .ref h_o_halves, .int o_raised, .ref h_o_all, .ref h_o_text, .ref h_o_saved, .ref h_o_undone, .int o_undos, .int o_reached, .int o_length, .int o_begin, .int o_letters, .int o_sort, .long o_word, .int o_wrongAt, .int o_badAt, .int o_bad, .ref h_o_told, .ref h_o_shift, .int o_firstX, .int o_firstY, .int o_secondX, .int o_secondY, .ref h_o_rootOf, .ref h_o_becomes, .ref h_o_comes, .ref h_o_next, .int x13]))] H := hP
  have hD : va_D A [(h_o, .inr (7, [.ref h_o_plans, .ref h_o_makers, .ref h_o_halves, .int o_raised, .ref h_o_all, .ref h_o_text, .ref h_o_saved, .ref h_o_undone, .int o_undos, .int o_reached, .int o_length, .int o_begin, .int o_letters, .int o_sort, .long o_word, .int o_wrongAt, .int o_badAt, .int o_bad, .ref h_o_told, .ref h_o_shift, .int o_firstX, .int o_firstY, .int o_secondX, .int o_secondY, .ref h_o_rootOf, .ref h_o_becomes, .ref h_o_comes, .ref h_o_next, .int x13]))] := hD
  refine lv_aload_n hx hb dX8_drawn_16 rfl (lv_at hl 0 rfl) ?_
  refine va_get (D := (dC, dI)) (ci := 7) (v := .int x13) (C := RX8) (T := TX8) (N := 29) hx hb hts (fun w h => List.mem_cons_of_mem _ (kc_X8 w h)) hown hK hP 0 rfl rfl 28 (by decide) (hg kw_862) (fun _ h9 => h9) rfl dX8_drawn_17 ?_
  refine lv_bipush (v := 16) hx hb dX8_drawn_20 (by decide) ?_
  refine lv_iushr (v := (ds_iushr x13 (16 : Int32))) hx hb dX8_drawn_22 rfl ?_
  refine lv_iload_n hx hb dX8_drawn_23 rfl (lv_at hl 1 rfl) ?_
  obtain ⟨n_24, hf⟩ := ds_cn hf
  refine lv_irem hx hb dX8_drawn_24 n_24 ?_
  have hf := Option.some.inj hf
  subst hf
  rw [eG0] at hG
  have hG : _ = res := hG
  subst hG
  exact W.iret (v := (ds_rem (ds_iushr x13 (16 : Int32)) p1)) hx hb hr (fun t ht hW => ⟨⟨(ds_rem (ds_iushr x13 (16 : Int32)) p1), (), rfl, rfl, by rw [ht]; exact hP, hD⟩, hS.F ht⟩) hS.2.2 dX8_drawn_25
theorem dX8_make_0 : decode cX8_make 0 = .ok (.aload_n 0, 1) := by decide +kernel
theorem dX8_make_1 : decode cX8_make 1 = .ok (.iconst 0, 1) := by decide +kernel
theorem dX8_make_2 : decode cX8_make 2 = .ok (.putfield 51, 3) := by decide +kernel
theorem dX8_make_5 : decode cX8_make 5 = .ok (.iload_n 1, 1) := by decide +kernel
theorem dX8_make_6 : decode cX8_make 6 = .ok (.iconst 0, 1) := by decide +kernel
theorem dX8_make_7 : decode cX8_make 7 = .ok (.bipush 16, 2) := by decide +kernel
theorem dX8_make_9 : decode cX8_make 9 = .ok (.invokestatic 90, 3) := by decide +kernel
theorem dX8_make_12 : decode cX8_make 12 = .ok (.ifCond .eq 37, 3) := by decide +kernel
theorem dX8_make_15 : decode cX8_make 15 = .ok (.iload_n 2, 1) := by decide +kernel
theorem dX8_make_16 : decode cX8_make 16 = .ok (.iconst 1, 1) := by decide +kernel
theorem dX8_make_17 : decode cX8_make 17 = .ok (.bipush 8, 2) := by decide +kernel
theorem dX8_make_19 : decode cX8_make 19 = .ok (.invokestatic 90, 3) := by decide +kernel
theorem dX8_make_22 : decode cX8_make 22 = .ok (.ifCond .eq 27, 3) := by decide +kernel
theorem dX8_make_25 : decode cX8_make 25 = .ok (.iload_n 3, 1) := by decide +kernel
theorem dX8_make_26 : decode cX8_make 26 = .ok (.iconst 1, 1) := by decide +kernel
theorem dX8_make_27 : decode cX8_make 27 = .ok (.iconst 4, 1) := by decide +kernel
theorem dX8_make_28 : decode cX8_make 28 = .ok (.invokestatic 90, 3) := by decide +kernel
theorem dX8_make_31 : decode cX8_make 31 = .ok (.ifCond .eq 18, 3) := by decide +kernel
theorem dX8_make_34 : decode cX8_make 34 = .ok (.aload_n 0, 1) := by decide +kernel
theorem dX8_make_35 : decode cX8_make 35 = .ok (.iload_n 1, 1) := by decide +kernel
theorem dX8_make_36 : decode cX8_make 36 = .ok (.invokevirtual 263, 3) := by decide +kernel
theorem dX8_make_39 : decode cX8_make 39 = .ok (.ifCond .eq 12, 3) := by decide +kernel
theorem dX8_make_42 : decode cX8_make 42 = .ok (.iload_n 2, 1) := by decide +kernel
theorem dX8_make_43 : decode cX8_make 43 = .ok (.iconst 2, 1) := by decide +kernel
theorem dX8_make_44 : decode cX8_make 44 = .ok (.irem, 1) := by decide +kernel
theorem dX8_make_45 : decode cX8_make 45 = .ok (.iconst 1, 1) := by decide +kernel
theorem dX8_make_46 : decode cX8_make 46 = .ok (.if_icmp .ne 5, 3) := by decide +kernel
theorem dX8_make_49 : decode cX8_make 49 = .ok (.iconst (-1), 1) := by decide +kernel
theorem dX8_make_50 : decode cX8_make 50 = .ok (.ireturn, 1) := by decide +kernel
theorem dX8_make_51 : decode cX8_make 51 = .ok (.aload_n 0, 1) := by decide +kernel
theorem dX8_make_52 : decode cX8_make 52 = .ok (.invokevirtual 287, 3) := by decide +kernel
theorem dX8_make_55 : decode cX8_make 55 = .ok (.iconst 0, 1) := by decide +kernel
theorem dX8_make_56 : decode cX8_make 56 = .ok (.istore 5, 2) := by decide +kernel
theorem dX8_make_58 : decode cX8_make 58 = .ok (.iload 5, 2) := by decide +kernel
theorem dX8_make_60 : decode cX8_make 60 = .ok (.bipush 64, 2) := by decide +kernel
theorem dX8_make_62 : decode cX8_make 62 = .ok (.if_icmp .ge 19, 3) := by decide +kernel
theorem dX8_make_65 : decode cX8_make 65 = .ok (.aload_n 0, 1) := by decide +kernel
theorem dX8_make_66 : decode cX8_make 66 = .ok (.getfield 19, 3) := by decide +kernel
theorem dX8_make_69 : decode cX8_make 69 = .ok (.iconst 3, 1) := by decide +kernel
theorem dX8_make_70 : decode cX8_make 70 = .ok (.iload 5, 2) := by decide +kernel
theorem dX8_make_72 : decode cX8_make 72 = .ok (.iadd, 1) := by decide +kernel
theorem dX8_make_73 : decode cX8_make 73 = .ok (.iconst 0, 1) := by decide +kernel
theorem dX8_make_74 : decode cX8_make 74 = .ok (.iastore, 1) := by decide +kernel
theorem dX8_make_75 : decode cX8_make 75 = .ok (.iinc 5 1, 3) := by decide +kernel
theorem dX8_make_78 : decode cX8_make 78 = .ok (.goto (-20), 3) := by decide +kernel
theorem dX8_make_81 : decode cX8_make 81 = .ok (.aload_n 0, 1) := by decide +kernel
theorem dX8_make_82 : decode cX8_make 82 = .ok (.getfield 19, 3) := by decide +kernel
theorem dX8_make_85 : decode cX8_make 85 = .ok (.iconst 0, 1) := by decide +kernel
theorem dX8_make_86 : decode cX8_make 86 = .ok (.iload_n 2, 1) := by decide +kernel
theorem dX8_make_87 : decode cX8_make 87 = .ok (.iastore, 1) := by decide +kernel
theorem dX8_make_88 : decode cX8_make 88 = .ok (.aload_n 0, 1) := by decide +kernel
theorem dX8_make_89 : decode cX8_make 89 = .ok (.getfield 19, 3) := by decide +kernel
theorem dX8_make_92 : decode cX8_make 92 = .ok (.iconst 1, 1) := by decide +kernel
theorem dX8_make_93 : decode cX8_make 93 = .ok (.iload_n 2, 1) := by decide +kernel
theorem dX8_make_94 : decode cX8_make 94 = .ok (.iastore, 1) := by decide +kernel
theorem dX8_make_95 : decode cX8_make 95 = .ok (.aload_n 0, 1) := by decide +kernel
theorem dX8_make_96 : decode cX8_make 96 = .ok (.getfield 19, 3) := by decide +kernel
theorem dX8_make_99 : decode cX8_make 99 = .ok (.iconst 2, 1) := by decide +kernel
theorem dX8_make_100 : decode cX8_make 100 = .ok (.iload_n 1, 1) := by decide +kernel
theorem dX8_make_101 : decode cX8_make 101 = .ok (.bipush 12, 2) := by decide +kernel
theorem dX8_make_103 : decode cX8_make 103 = .ok (.if_icmp .lt 7, 3) := by decide +kernel
theorem dX8_make_106 : decode cX8_make 106 = .ok (.iconst 1, 1) := by decide +kernel
theorem dX8_make_107 : decode cX8_make 107 = .ok (.goto 4, 3) := by decide +kernel
theorem dX8_make_110 : decode cX8_make 110 = .ok (.iconst 0, 1) := by decide +kernel
theorem dX8_make_111 : decode cX8_make 111 = .ok (.iastore, 1) := by decide +kernel
theorem dX8_make_112 : decode cX8_make 112 = .ok (.aload_n 0, 1) := by decide +kernel
theorem dX8_make_113 : decode cX8_make 113 = .ok (.iload_n 1, 1) := by decide +kernel
theorem dX8_make_114 : decode cX8_make 114 = .ok (.invokevirtual 278, 3) := by decide +kernel
theorem dX8_make_117 : decode cX8_make 117 = .ok (.aload_n 0, 1) := by decide +kernel
theorem dX8_make_118 : decode cX8_make 118 = .ok (.iload 4, 2) := by decide +kernel
theorem dX8_make_120 : decode cX8_make 120 = .ok (.putfield 296, 3) := by decide +kernel
theorem dX8_make_123 : decode cX8_make 123 = .ok (.iconst 0, 1) := by decide +kernel
theorem dX8_make_124 : decode cX8_make 124 = .ok (.istore 5, 2) := by decide +kernel
theorem dX8_make_126 : decode cX8_make 126 = .ok (.iload 5, 2) := by decide +kernel
theorem dX8_make_128 : decode cX8_make 128 = .ok (.iload_n 2, 1) := by decide +kernel
theorem dX8_make_129 : decode cX8_make 129 = .ok (.if_icmp .ge 83, 3) := by decide +kernel
theorem dX8_make_132 : decode cX8_make 132 = .ok (.iconst 0, 1) := by decide +kernel
theorem dX8_make_133 : decode cX8_make 133 = .ok (.istore 6, 2) := by decide +kernel
theorem dX8_make_135 : decode cX8_make 135 = .ok (.iload 6, 2) := by decide +kernel
theorem dX8_make_137 : decode cX8_make 137 = .ok (.iload_n 2, 1) := by decide +kernel
theorem dX8_make_138 : decode cX8_make 138 = .ok (.if_icmp .ge 68, 3) := by decide +kernel
theorem dX8_make_141 : decode cX8_make 141 = .ok (.aload_n 0, 1) := by decide +kernel
theorem dX8_make_142 : decode cX8_make 142 = .ok (.bipush 8, 2) := by decide +kernel
theorem dX8_make_144 : decode cX8_make 144 = .ok (.iload 5, 2) := by decide +kernel
theorem dX8_make_146 : decode cX8_make 146 = .ok (.imul, 1) := by decide +kernel
theorem dX8_make_147 : decode cX8_make 147 = .ok (.iload 6, 2) := by decide +kernel
theorem dX8_make_149 : decode cX8_make 149 = .ok (.iadd, 1) := by decide +kernel
theorem dX8_make_150 : decode cX8_make 150 = .ok (.invokevirtual 207, 3) := by decide +kernel
theorem dX8_make_153 : decode cX8_make 153 = .ok (.istore 7, 2) := by decide +kernel
theorem dX8_make_155 : decode cX8_make 155 = .ok (.aload_n 0, 1) := by decide +kernel
theorem dX8_make_156 : decode cX8_make 156 = .ok (.getfield 19, 3) := by decide +kernel
theorem dX8_make_159 : decode cX8_make 159 = .ok (.iconst 3, 1) := by decide +kernel
theorem dX8_make_160 : decode cX8_make 160 = .ok (.bipush 8, 2) := by decide +kernel
theorem dX8_make_162 : decode cX8_make 162 = .ok (.iload 5, 2) := by decide +kernel
theorem dX8_make_164 : decode cX8_make 164 = .ok (.imul, 1) := by decide +kernel
theorem dX8_make_165 : decode cX8_make 165 = .ok (.iadd, 1) := by decide +kernel
theorem dX8_make_166 : decode cX8_make 166 = .ok (.iload 6, 2) := by decide +kernel
theorem dX8_make_168 : decode cX8_make 168 = .ok (.iadd, 1) := by decide +kernel
theorem dX8_make_169 : decode cX8_make 169 = .ok (.iload 7, 2) := by decide +kernel
theorem dX8_make_171 : decode cX8_make 171 = .ok (.bipush 8, 2) := by decide +kernel
theorem dX8_make_173 : decode cX8_make 173 = .ok (.iload 5, 2) := by decide +kernel
theorem dX8_make_175 : decode cX8_make 175 = .ok (.imul, 1) := by decide +kernel
theorem dX8_make_176 : decode cX8_make 176 = .ok (.iload 6, 2) := by decide +kernel
theorem dX8_make_178 : decode cX8_make 178 = .ok (.iadd, 1) := by decide +kernel
theorem dX8_make_179 : decode cX8_make 179 = .ok (.if_icmp .ne 11, 3) := by decide +kernel
theorem dX8_make_182 : decode cX8_make 182 = .ok (.aload_n 0, 1) := by decide +kernel
theorem dX8_make_183 : decode cX8_make 183 = .ok (.iload_n 3, 1) := by decide +kernel
theorem dX8_make_184 : decode cX8_make 184 = .ok (.invokevirtual 300, 3) := by decide +kernel
theorem dX8_make_187 : decode cX8_make 187 = .ok (.goto 12, 3) := by decide +kernel
theorem dX8_make_190 : decode cX8_make 190 = .ok (.aload_n 0, 1) := by decide +kernel
theorem dX8_make_191 : decode cX8_make 191 = .ok (.getfield 19, 3) := by decide +kernel
theorem dX8_make_194 : decode cX8_make 194 = .ok (.iconst 3, 1) := by decide +kernel
theorem dX8_make_195 : decode cX8_make 195 = .ok (.iload 7, 2) := by decide +kernel
theorem dX8_make_197 : decode cX8_make 197 = .ok (.iadd, 1) := by decide +kernel
theorem dX8_make_198 : decode cX8_make 198 = .ok (.iaload, 1) := by decide +kernel
theorem dX8_make_199 : decode cX8_make 199 = .ok (.iastore, 1) := by decide +kernel
theorem dX8_make_200 : decode cX8_make 200 = .ok (.iinc 6 1, 3) := by decide +kernel
theorem dX8_make_203 : decode cX8_make 203 = .ok (.goto (-68), 3) := by decide +kernel
theorem dX8_make_206 : decode cX8_make 206 = .ok (.iinc 5 1, 3) := by decide +kernel
theorem dX8_make_209 : decode cX8_make 209 = .ok (.goto (-83), 3) := by decide +kernel
theorem dX8_make_212 : decode cX8_make 212 = .ok (.aload_n 0, 1) := by decide +kernel
theorem dX8_make_213 : decode cX8_make 213 = .ok (.bipush 64, 2) := by decide +kernel
theorem dX8_make_215 : decode cX8_make 215 = .ok (.invokevirtual 224, 3) := by decide +kernel
theorem dX8_make_218 : decode cX8_make 218 = .ok (.ireturn, 1) := by decide +kernel
def fX8_make_212 (o_raised : Int32) (o_undos : Int32) (o_x : Int32) (o_undone_r : Nat → Int32) (o_all_r : Nat → Int32) (o_rootOf_r : Nat → Int32) : Option (Int32 × Int32 × Int32 × Int32 × (Nat → Int32) × (Nat → Int32) × (Nat → Int32)) :=
  Option.bind (fX8_leaders o_all_r o_rootOf_r (64 : Int32)) fun q215 => some (q215, o_raised, o_undos, o_x, o_undone_r, o_all_r, o_rootOf_r)
def fX8_make_206 (o_x : Int32) (o_all_r : Nat → Int32) (v5 : Int32) : Option ((Int32 × Int32 × (Nat → Int32)) ⊕ (Int32 × Int32 × Int32 × Int32 × (Nat → Int32) × (Nat → Int32) × (Nat → Int32))) :=
  some (.inl ((v5 + 1), o_x, o_all_r))
def fX8_make_199 (o_x : Int32) (o_all_r : Nat → Int32) (v6 : Int32) (s0 : Int32) (s1 : Int32) : Option ((Int32 × Int32 × (Nat → Int32)) ⊕ ((Int32 × Int32 × (Nat → Int32)) ⊕ (Int32 × Int32 × Int32 × Int32 × (Nat → Int32) × (Nat → Int32) × (Nat → Int32)))) :=
  if ds_in s1 350 = true then some (.inl ((v6 + 1), o_x, (upd o_all_r s1.toNatClampNeg s0))) else none
def fX8_make_135_b (o_rootOf_r : Nat → Int32) (p2 : Int32) (p3 : Int32) (v5 : Int32) (v6 : Int32) (o_x : Int32) (o_all_r : Nat → Int32) : Option ((Int32 × Int32 × (Nat → Int32)) ⊕ ((Int32 × Int32 × (Nat → Int32)) ⊕ (Int32 × Int32 × Int32 × Int32 × (Nat → Int32) × (Nat → Int32) × (Nat → Int32)))) :=
  if p2 ≤ v6 then Option.bind (fX8_make_206 o_x o_all_r v5) fun z => some (.inr z) else Option.bind (fX8_root o_rootOf_r (((8 : Int32) * v5) + v6)) fun q150 => if q150 = (((8 : Int32) * v5) + v6) then Option.bind (fX8_drawn o_x p3) fun q184 => fX8_make_199 q184.2 o_all_r v6 q184.1 (((3 : Int32) + ((8 : Int32) * v5)) + v6) else if ds_in ((3 : Int32) + q150) 350 = true then fX8_make_199 o_x o_all_r v6 (o_all_r ((3 : Int32) + q150).toNatClampNeg) (((3 : Int32) + ((8 : Int32) * v5)) + v6) else none
def fX8_make_135 (o_rootOf_r : Nat → Int32) (p2 : Int32) (p3 : Int32) (v5 : Int32) (v6 : Int32) (o_x : Int32) (o_all_r : Nat → Int32) : Option ((Int32 × Int32 × (Nat → Int32)) ⊕ (Int32 × Int32 × Int32 × Int32 × (Nat → Int32) × (Nat → Int32) × (Nat → Int32))) := ds_it (fun s => fX8_make_135_b o_rootOf_r p2 p3 v5 s.1 s.2.1 s.2.2) 1000 (v6, o_x, o_all_r)
def fX8_make_126_b (o_raised : Int32) (o_undos : Int32) (o_undone_r : Nat → Int32) (o_rootOf_r : Nat → Int32) (p2 : Int32) (p3 : Int32) (v5 : Int32) (o_x : Int32) (o_all_r : Nat → Int32) : Option ((Int32 × Int32 × (Nat → Int32)) ⊕ (Int32 × Int32 × Int32 × Int32 × (Nat → Int32) × (Nat → Int32) × (Nat → Int32))) :=
  if p2 ≤ v5 then Option.bind (fX8_make_212 o_raised o_undos o_x o_undone_r o_all_r o_rootOf_r) fun z => some (.inr z) else fX8_make_135 o_rootOf_r p2 p3 v5 (0 : Int32) o_x o_all_r
def fX8_make_126 (o_raised : Int32) (o_undos : Int32) (o_undone_r : Nat → Int32) (o_rootOf_r : Nat → Int32) (p2 : Int32) (p3 : Int32) (v5 : Int32) (o_x : Int32) (o_all_r : Nat → Int32) : Option (Int32 × Int32 × Int32 × Int32 × (Nat → Int32) × (Nat → Int32) × (Nat → Int32)) := ds_it (fun s => fX8_make_126_b o_raised o_undos o_undone_r o_rootOf_r p2 p3 s.1 s.2.1 s.2.2) 1000 (v5, o_x, o_all_r)
def fX8_make_111 (o_raised : Int32) (o_undos : Int32) (o_halves_r : Nat → Int32) (o_undone_r : Nat → Int32) (o_all_r : Nat → Int32) (o_rootOf_r : Nat → Int32) (o_makers_r : Nat → Int32) (o_plans_r : Nat → Int32) (p1 : Int32) (p2 : Int32) (p3 : Int32) (p4 : Int32) (s0 : Int32) (s1 : Int32) : Option (Int32 × Int32 × Int32 × Int32 × (Nat → Int32) × (Nat → Int32) × (Nat → Int32)) :=
  if ds_in s1 350 = true then Option.bind (fX8_laysOrbits o_rootOf_r (upd o_all_r s1.toNatClampNeg s0) o_makers_r o_halves_r o_plans_r p1) fun q114 => fX8_make_126 o_raised o_undos o_undone_r q114 p2 p3 (0 : Int32) p4 (upd o_all_r s1.toNatClampNeg s0) else none
def fX8_make_81 (o_raised : Int32) (o_undos : Int32) (o_halves_r : Nat → Int32) (o_undone_r : Nat → Int32) (o_all_r : Nat → Int32) (o_rootOf_r : Nat → Int32) (o_makers_r : Nat → Int32) (o_plans_r : Nat → Int32) (p1 : Int32) (p2 : Int32) (p3 : Int32) (p4 : Int32) : Option (Int32 × Int32 × Int32 × Int32 × (Nat → Int32) × (Nat → Int32) × (Nat → Int32)) :=
  if p1 < (12 : Int32) then fX8_make_111 o_raised o_undos o_halves_r o_undone_r (upd (upd o_all_r ((0 : Int32).toNatClampNeg) p2) ((1 : Int32).toNatClampNeg) p2) o_rootOf_r o_makers_r o_plans_r p1 p2 p3 p4 (0 : Int32) (2 : Int32) else fX8_make_111 o_raised o_undos o_halves_r o_undone_r (upd (upd o_all_r ((0 : Int32).toNatClampNeg) p2) ((1 : Int32).toNatClampNeg) p2) o_rootOf_r o_makers_r o_plans_r p1 p2 p3 p4 (1 : Int32) (2 : Int32)
def fX8_make_58_b (o_raised : Int32) (o_undos : Int32) (o_halves_r : Nat → Int32) (o_undone_r : Nat → Int32) (o_rootOf_r : Nat → Int32) (o_makers_r : Nat → Int32) (o_plans_r : Nat → Int32) (p1 : Int32) (p2 : Int32) (p3 : Int32) (p4 : Int32) (v5 : Int32) (o_all_r : Nat → Int32) : Option ((Int32 × (Nat → Int32)) ⊕ (Int32 × Int32 × Int32 × Int32 × (Nat → Int32) × (Nat → Int32) × (Nat → Int32))) :=
  if (64 : Int32) ≤ v5 then Option.bind (fX8_make_81 o_raised o_undos o_halves_r o_undone_r o_all_r o_rootOf_r o_makers_r o_plans_r p1 p2 p3 p4) fun z => some (.inr z) else if ds_in ((3 : Int32) + v5) 350 = true then some (.inl ((v5 + 1), (upd o_all_r (((3 : Int32) + v5).toNatClampNeg) (0 : Int32)))) else none
def fX8_make_58 (o_raised : Int32) (o_undos : Int32) (o_halves_r : Nat → Int32) (o_undone_r : Nat → Int32) (o_rootOf_r : Nat → Int32) (o_makers_r : Nat → Int32) (o_plans_r : Nat → Int32) (p1 : Int32) (p2 : Int32) (p3 : Int32) (p4 : Int32) (v5 : Int32) (o_all_r : Nat → Int32) : Option (Int32 × Int32 × Int32 × Int32 × (Nat → Int32) × (Nat → Int32) × (Nat → Int32)) := ds_it (fun s => fX8_make_58_b o_raised o_undos o_halves_r o_undone_r o_rootOf_r o_makers_r o_plans_r p1 p2 p3 p4 s.1 s.2) 1000 (v5, o_all_r)
def fX8_make_51 (o_raised : Int32) (o_undos : Int32) (o_halves_r : Nat → Int32) (o_undone_r : Nat → Int32) (o_all_r : Nat → Int32) (o_rootOf_r : Nat → Int32) (o_makers_r : Nat → Int32) (o_plans_r : Nat → Int32) (p1 : Int32) (p2 : Int32) (p3 : Int32) (p4 : Int32) : Option (Int32 × Int32 × Int32 × Int32 × (Nat → Int32) × (Nat → Int32) × (Nat → Int32)) :=
  Option.bind (fX8_keeps o_undos o_undone_r o_all_r) fun q52 => fX8_make_58 o_raised q52.1 o_halves_r q52.2 o_rootOf_r o_makers_r o_plans_r p1 p2 p3 p4 (0 : Int32) o_all_r
def fX8_make (o_undos : Int32) (o_x : Int32) (o_halves_r : Nat → Int32) (o_undone_r : Nat → Int32) (o_all_r : Nat → Int32) (o_rootOf_r : Nat → Int32) (o_makers_r : Nat → Int32) (o_plans_r : Nat → Int32) (p1 : Int32) (p2 : Int32) (p3 : Int32) (p4 : Int32) : Option (Int32 × Int32 × Int32 × Int32 × (Nat → Int32) × (Nat → Int32) × (Nat → Int32)) :=
  Option.bind (fX8_in p1 (0 : Int32) (16 : Int32)) fun q9 => if q9 = 0 then some ((-1 : Int32), (0 : Int32), o_undos, o_x, o_undone_r, o_all_r, o_rootOf_r) else Option.bind (fX8_in p2 (1 : Int32) (8 : Int32)) fun q19 => if q19 = 0 then some ((-1 : Int32), (0 : Int32), o_undos, o_x, o_undone_r, o_all_r, o_rootOf_r) else Option.bind (fX8_in p3 (1 : Int32) (4 : Int32)) fun q28 => if q28 = 0 then some ((-1 : Int32), (0 : Int32), o_undos, o_x, o_undone_r, o_all_r, o_rootOf_r) else Option.bind (fX8_needsEven o_halves_r p1) fun q36 => if q36 = 0 then fX8_make_51 (0 : Int32) o_undos o_halves_r o_undone_r o_all_r o_rootOf_r o_makers_r o_plans_r p1 p2 p3 p4 else if (ds_rem p2 (2 : Int32)) = (1 : Int32) then some ((-1 : Int32), (0 : Int32), o_undos, o_x, o_undone_r, o_all_r, o_rootOf_r) else fX8_make_51 (0 : Int32) o_undos o_halves_r o_undone_r o_all_r o_rootOf_r o_makers_r o_plans_r p1 p2 p3 p4
set_option maxHeartbeats 4000000 in
set_option maxRecDepth 100000 in
theorem c_X8_make (l : Launch) (dC : Nat → ClassId) (dI : Nat → Nat → Nat) (ca : Nat → ClassId) (sa : Nat → Nat) (h_o : Nat) (h_o_plans : Nat) (h_o_makers : Nat) (h_o_halves : Nat) (h_o_all : Nat) (h_o_text : Nat) (h_o_saved : Nat) (h_o_undone : Nat) (h_o_told : Nat) (h_o_shift : Nat) (h_o_rootOf : Nat) (h_o_becomes : Nat) (h_o_comes : Nat) (h_o_next : Nat) (sz : Nat) (o_raised : Int32) (o_undos : Int32) (o_reached : Int32) (o_length : Int32) (o_begin : Int32) (o_letters : Int32) (o_sort : Int32) (o_word : Int64) (o_wrongAt : Int32) (o_badAt : Int32) (o_bad : Int32) (o_firstX : Int32) (o_firstY : Int32) (o_secondX : Int32) (o_secondY : Int32) (o_x : Int32) (o_halves_r : Nat → Int32) (o_undone_r : Nat → Int32) (o_all_r : Nat → Int32) (o_rootOf_r : Nat → Int32) (o_makers_r : Nat → Int32) (o_plans_r : Nat → Int32) (p1 : Int32) (p2 : Int32) (p3 : Int32) (p4 : Int32) (res : Int32 × Int32 × Int32 × Int32 × (Nat → Int32) × (Nat → Int32) × (Nat → Int32)) (hf : fX8_make o_undos o_x o_halves_r o_undone_r o_all_r o_rootOf_r o_makers_r o_plans_r p1 p2 p3 p4 = some res) : Met l yX8_make (Cond.code yX8_make cX8_make 8 (some .int) :: ds_gw) { frames := 4, cells := 0, slots := 0, locals := 94 } (va_Pc [.ref h_o, .int p1, .int p2, .int p3, .int p4] (ds_Pre dC dI ca sa [(h_o, .inr (7, [.ref h_o_plans, .ref h_o_makers, .ref h_o_halves, .int o_raised, .ref h_o_all, .ref h_o_text, .ref h_o_saved, .ref h_o_undone, .int o_undos, .int o_reached, .int o_length, .int o_begin, .int o_letters, .int o_sort, .long o_word, .int o_wrongAt, .int o_badAt, .int o_bad, .ref h_o_told, .ref h_o_shift, .int o_firstX, .int o_firstY, .int o_secondX, .int o_secondY, .ref h_o_rootOf, .ref h_o_becomes, .ref h_o_comes, .ref h_o_next, .int o_x])), (h_o_halves, .inl (ca 0, 34, .inl o_halves_r)), (h_o_undone, .inl (ca 0, 536, .inl o_undone_r)), (h_o_all, .inl (ca 0, 350, .inl o_all_r)), (h_o_rootOf, .inl (ca 0, 64, .inl o_rootOf_r)), (h_o_makers, .inl (ca 0, 34, .inl o_makers_r)), (h_o_plans, .inl (ca 0, 80, .inl o_plans_r))] sz)) (va_Qi (fun r (_ : Unit) => r = res.1) (ds_B dC dI (va_A [(h_o, .inr (7, [.ref h_o_plans, .ref h_o_makers, .ref h_o_halves, .int o_raised, .ref h_o_all, .ref h_o_text, .ref h_o_saved, .ref h_o_undone, .int o_undos, .int o_reached, .int o_length, .int o_begin, .int o_letters, .int o_sort, .long o_word, .int o_wrongAt, .int o_badAt, .int o_bad, .ref h_o_told, .ref h_o_shift, .int o_firstX, .int o_firstY, .int o_secondX, .int o_secondY, .ref h_o_rootOf, .ref h_o_becomes, .ref h_o_comes, .ref h_o_next, .int o_x])), (h_o_halves, .inl (ca 0, 34, .inl o_halves_r)), (h_o_undone, .inl (ca 0, 536, .inl o_undone_r)), (h_o_all, .inl (ca 0, 350, .inl o_all_r)), (h_o_rootOf, .inl (ca 0, 64, .inl o_rootOf_r)), (h_o_makers, .inl (ca 0, 34, .inl o_makers_r)), (h_o_plans, .inl (ca 0, 80, .inl o_plans_r))] sz) [(h_o, .inr (7, [.ref h_o_plans, .ref h_o_makers, .ref h_o_halves, .int res.2.1, .ref h_o_all, .ref h_o_text, .ref h_o_saved, .ref h_o_undone, .int res.2.2.1, .int o_reached, .int o_length, .int o_begin, .int o_letters, .int o_sort, .long o_word, .int o_wrongAt, .int o_badAt, .int o_bad, .ref h_o_told, .ref h_o_shift, .int o_firstX, .int o_firstY, .int o_secondX, .int o_secondY, .ref h_o_rootOf, .ref h_o_becomes, .ref h_o_comes, .ref h_o_next, .int res.2.2.2.1])), (h_o_halves, .inl (ca 0, 34, .inl o_halves_r)), (h_o_undone, .inl (ca 0, 536, .inl res.2.2.2.2.1)), (h_o_all, .inl (ca 0, 350, .inl res.2.2.2.2.2.1)), (h_o_rootOf, .inl (ca 0, 64, .inl res.2.2.2.2.2.2)), (h_o_makers, .inl (ca 0, 34, .inl o_makers_r)), (h_o_plans, .inl (ca 0, 80, .inl o_plans_r))]) (va_A [(h_o, .inr (7, [.ref h_o_plans, .ref h_o_makers, .ref h_o_halves, .int o_raised, .ref h_o_all, .ref h_o_text, .ref h_o_saved, .ref h_o_undone, .int o_undos, .int o_reached, .int o_length, .int o_begin, .int o_letters, .int o_sort, .long o_word, .int o_wrongAt, .int o_badAt, .int o_bad, .ref h_o_told, .ref h_o_shift, .int o_firstX, .int o_firstY, .int o_secondX, .int o_secondY, .ref h_o_rootOf, .ref h_o_becomes, .ref h_o_comes, .ref h_o_next, .int o_x])), (h_o_halves, .inl (ca 0, 34, .inl o_halves_r)), (h_o_undone, .inl (ca 0, 536, .inl o_undone_r)), (h_o_all, .inl (ca 0, 350, .inl o_all_r)), (h_o_rootOf, .inl (ca 0, 64, .inl o_rootOf_r)), (h_o_makers, .inl (ca 0, 34, .inl o_makers_r)), (h_o_plans, .inl (ca 0, 80, .inl o_plans_r))] sz)) 0 0 (va_A [(h_o, .inr (7, [.ref h_o_plans, .ref h_o_makers, .ref h_o_halves, .int o_raised, .ref h_o_all, .ref h_o_text, .ref h_o_saved, .ref h_o_undone, .int o_undos, .int o_reached, .int o_length, .int o_begin, .int o_letters, .int o_sort, .long o_word, .int o_wrongAt, .int o_badAt, .int o_bad, .ref h_o_told, .ref h_o_shift, .int o_firstX, .int o_firstY, .int o_secondX, .int o_secondY, .ref h_o_rootOf, .ref h_o_becomes, .ref h_o_comes, .ref h_o_next, .int o_x])), (h_o_halves, .inl (ca 0, 34, .inl o_halves_r)), (h_o_undone, .inl (ca 0, 536, .inl o_undone_r)), (h_o_all, .inl (ca 0, 350, .inl o_all_r)), (h_o_rootOf, .inl (ca 0, 64, .inl o_rootOf_r)), (h_o_makers, .inl (ca 0, 34, .inl o_makers_r)), (h_o_plans, .inl (ca 0, 80, .inl o_plans_r))] sz) := by
  refine Met.ofW (cc := cX8_make) (maxL := 8) (ret := (some .int)) (by decide) rfl ?_
  intro p e s m args below meth c s₁ B hml hv
  obtain ⟨rfl, hsz, hP, hK, hD0, hE⟩ := hv
  have hx := B.exec
  have hb := B.bytes
  have hr := B.returns
  have hts := atoms_spec (ws := Cond.code yX8_make cX8_make 8 (some .int) :: ds_gw) B.pre
  have hg : ∀ {w : Cond}, w ∈ ds_gw → w.before _ s = true := fun h => hts _ (List.mem_cons_of_mem _ h)
  have hown : s.vm.findClass RX8 = some m.cls := findClass_of_methodNamed B.named
  have hlocks := B.notSynchronized
  subst hsz
  have hD := hD0.self (sz := s.heap.size)
  generalize hAe : va_A [(h_o, .inr (7, [.ref h_o_plans, .ref h_o_makers, .ref h_o_halves, .int o_raised, .ref h_o_all, .ref h_o_text, .ref h_o_saved, .ref h_o_undone, .int o_undos, .int o_reached, .int o_length, .int o_begin, .int o_letters, .int o_sort, .long o_word, .int o_wrongAt, .int o_badAt, .int o_bad, .ref h_o_told, .ref h_o_shift, .int o_firstX, .int o_firstY, .int o_secondX, .int o_secondY, .ref h_o_rootOf, .ref h_o_becomes, .ref h_o_comes, .ref h_o_next, .int o_x])), (h_o_halves, .inl (ca 0, 34, .inl o_halves_r)), (h_o_undone, .inl (ca 0, 536, .inl o_undone_r)), (h_o_all, .inl (ca 0, 350, .inl o_all_r)), (h_o_rootOf, .inl (ca 0, 64, .inl o_rootOf_r)), (h_o_makers, .inl (ca 0, 34, .inl o_makers_r)), (h_o_plans, .inl (ca 0, 80, .inl o_plans_r))] s.heap.size = A at hD hE ⊢
  have hA : ∀ q : Nat, s.heap.size ≤ q → A q := fun q h => by rw [← hAe]; exact Or.inr h
  have hS : va_S A s.heap s.heap [] := va_S.rf
  have hl := lv_entry ([.ref h_o, .int p1, .int p2, .int p3, .int p4]) (n := 8) (Nat.le_of_ble_eq_true rfl)
  rw [lg_entry_eq]
  generalize (lg_sl ([.ref h_o, .int p1, .int p2, .int p3, .int p4]) ++ List.replicate (8 - (lg_sl ([.ref h_o, .int p1, .int p2, .int p3, .int p4])).length) Slot.unset).toArray = ls at hl ⊢
  have hl : lv_has ls 8 [(0, .ref h_o), (1, .int p1), (2, .int p2), (3, .int p3), (4, .int p4)] := hl
  obtain ⟨G0, eG0⟩ : ∃ G : (Int32 × Int32 × Int32 × Int32 × (Nat → Int32) × (Nat → Int32) × (Nat → Int32)) → Prop, G = (fun r => r = res) := ⟨_, rfl⟩
  obtain ⟨rr, hrr⟩ : ∃ z, z = res := ⟨_, rfl⟩
  rw [← hrr] at hf
  have hG : G0 rr := by subst eG0; exact hrr
  refine ds_cap (fun WW h1 h2 => ?_)
  have J_212 : ∀ (o_raised : Int32) (o_undos : Int32) (o_x : Int32) (o_undone_r : Nat → Int32) (o_all_r : Nat → Int32) (o_rootOf_r : Nat → Int32) (rr : Int32 × Int32 × Int32 × Int32 × (Nat → Int32) × (Nat → Int32) × (Nat → Int32)) (hf : fX8_make_212 o_raised o_undos o_x o_undone_r o_all_r o_rootOf_r = some rr) (hG : G0 rr) (H : Heap) (locs : List Loc) (hP : va_P (dC, dI) vwCl [(h_o, .inr (7, [.ref h_o_plans, .ref h_o_makers, .ref h_o_halves, .int o_raised, .ref h_o_all, .ref h_o_text, .ref h_o_saved, .ref h_o_undone, .int o_undos, .int o_reached, .int o_length, .int o_begin, .int o_letters, .int o_sort, .long o_word, .int o_wrongAt, .int o_badAt, .int o_bad, .ref h_o_told, .ref h_o_shift, .int o_firstX, .int o_firstY, .int o_secondX, .int o_secondY, .ref h_o_rootOf, .ref h_o_becomes, .ref h_o_comes, .ref h_o_next, .int o_x])), (h_o_halves, .inl (ca 0, 34, .inl o_halves_r)), (h_o_undone, .inl (ca 0, 536, .inl o_undone_r)), (h_o_all, .inl (ca 0, 350, .inl o_all_r)), (h_o_rootOf, .inl (ca 0, 64, .inl o_rootOf_r)), (h_o_makers, .inl (ca 0, 34, .inl o_makers_r)), (h_o_plans, .inl (ca 0, 80, .inl o_plans_r))] H) (hD : va_D A [(h_o, .inr (7, [.ref h_o_plans, .ref h_o_makers, .ref h_o_halves, .int o_raised, .ref h_o_all, .ref h_o_text, .ref h_o_saved, .ref h_o_undone, .int o_undos, .int o_reached, .int o_length, .int o_begin, .int o_letters, .int o_sort, .long o_word, .int o_wrongAt, .int o_badAt, .int o_bad, .ref h_o_told, .ref h_o_shift, .int o_firstX, .int o_firstY, .int o_secondX, .int o_secondY, .ref h_o_rootOf, .ref h_o_becomes, .ref h_o_comes, .ref h_o_next, .int o_x])), (h_o_halves, .inl (ca 0, 34, .inl o_halves_r)), (h_o_undone, .inl (ca 0, 536, .inl o_undone_r)), (h_o_all, .inl (ca 0, 350, .inl o_all_r)), (h_o_rootOf, .inl (ca 0, 64, .inl o_rootOf_r)), (h_o_makers, .inl (ca 0, 34, .inl o_makers_r)), (h_o_plans, .inl (ca 0, 80, .inl o_plans_r))]) (hS : va_S A s.heap H locs) (ls : Array Slot) (hl : lv_has ls 8 [(0, .ref h_o)]), WW H locs (F0 m 212 ls []) := by
    intro o_raised o_undos o_x o_undone_r o_all_r o_rootOf_r rr hf hG H locs hP hD hS ls hl
    refine h2 ?_
    unfold fX8_make_212 at hf
    refine lv_aload_n hx hb dX8_make_212 rfl (lv_at hl 0 rfl) ?_
    refine lv_bipush (v := 64) hx hb dX8_make_213 (by decide) ?_
    obtain ⟨q215, hq215, hf⟩ := ds_ob hf
    refine ds_calli (wr := [(h_o_halves, .inl (ca 0, 34, .inl o_halves_r)), (h_o_undone, .inl (ca 0, 536, .inl o_undone_r)), (h_o_makers, .inl (ca 0, 34, .inl o_makers_r)), (h_o_plans, .inl (ca 0, 80, .inl o_plans_r))]) (va_runV (As := [.int (64 : Int32)]) (rest := []) ⟨hx, hb, hml, hown, hts⟩ (c_X8_leaders l dC dI ca sa h_o h_o_plans h_o_makers h_o_halves h_o_all h_o_text h_o_saved h_o_undone h_o_told h_o_shift h_o_rootOf h_o_becomes h_o_comes h_o_next H.size o_raised o_undos o_reached o_length o_begin o_letters o_sort o_word o_wrongAt o_badAt o_bad o_firstX o_firstY o_secondX o_secondY o_x o_all_r o_rootOf_r (64 : Int32) q215 hq215) (cwV 1 hts (ds_gV kw_760 kw_761 kw_762 kw_597 kw_763) rfl rfl rfl (by decide +kernel) ⟨Nat.le_of_ble_eq_true rfl, Nat.le_of_ble_eq_true rfl⟩) ⟨ds_blind, va_recv hK hP (ci := 7) (q0 := 0) rfl rfl, ds_at hP hD hK hE hS hA [0, 3, 4] rfl rfl _⟩ rfl rfl hl.1 rfl (lv_room (Nat.le_of_ble_eq_true rfl)) dX8_make_215 ⟨Nat.zero_le _, Nat.zero_le _⟩) hP hD hS hA [0, 3, 4] [1, 2, 5, 6] rfl rfl rfl (by decide) (fun H locs hP hD hS => ?_)
    have hP : va_P (dC, dI) vwCl [(h_o_halves, .inl (ca 0, 34, .inl o_halves_r)), (h_o_undone, .inl (ca 0, 536, .inl o_undone_r)), (h_o_makers, .inl (ca 0, 34, .inl o_makers_r)), (h_o_plans, .inl (ca 0, 80, .inl o_plans_r)), (h_o, .inr (7, [.ref h_o_plans, .ref h_o_makers, .ref h_o_halves, .int o_raised, .ref h_o_all, .ref h_o_text, .ref h_o_saved, .ref h_o_undone, .int o_undos, .int o_reached, .int o_length, .int o_begin, .int o_letters, .int o_sort, .long o_word, .int o_wrongAt, .int o_badAt, .int o_bad, .ref h_o_told, .ref h_o_shift, .int o_firstX, .int o_firstY, .int o_secondX, .int o_secondY, .ref h_o_rootOf, .ref h_o_becomes, .ref h_o_comes, .ref h_o_next, .int o_x])), (h_o_all, .inl (ca 0, 350, .inl o_all_r)), (h_o_rootOf, .inl (ca 0, 64, .inl o_rootOf_r))] H := hP
    have hD : va_D A [(h_o_halves, .inl (ca 0, 34, .inl o_halves_r)), (h_o_undone, .inl (ca 0, 536, .inl o_undone_r)), (h_o_makers, .inl (ca 0, 34, .inl o_makers_r)), (h_o_plans, .inl (ca 0, 80, .inl o_plans_r)), (h_o, .inr (7, [.ref h_o_plans, .ref h_o_makers, .ref h_o_halves, .int o_raised, .ref h_o_all, .ref h_o_text, .ref h_o_saved, .ref h_o_undone, .int o_undos, .int o_reached, .int o_length, .int o_begin, .int o_letters, .int o_sort, .long o_word, .int o_wrongAt, .int o_badAt, .int o_bad, .ref h_o_told, .ref h_o_shift, .int o_firstX, .int o_firstY, .int o_secondX, .int o_secondY, .ref h_o_rootOf, .ref h_o_becomes, .ref h_o_comes, .ref h_o_next, .int o_x])), (h_o_all, .inl (ca 0, 350, .inl o_all_r)), (h_o_rootOf, .inl (ca 0, 64, .inl o_rootOf_r))] := hD
    have hf := Option.some.inj hf
    subst hf
    rw [eG0] at hG
    have hG : _ = res := hG
    subst hG
    exact W.iret (v := q215) hx hb hr (fun t ht hW => ⟨⟨q215, (), rfl, rfl, by rw [ht]; exact (hP.sub [4, 0, 1, 5, 6, 2, 3] rfl), (hD.sub [4, 0, 1, 5, 6, 2, 3] rfl rfl)⟩, hS.F ht⟩) hS.2.2 dX8_make_218
  have J_126 : ∀ (o_raised : Int32) (o_undos : Int32) (o_undone_r : Nat → Int32) (o_rootOf_r : Nat → Int32) (n : Nat) (v5 : Int32) (o_x : Int32) (o_all_r : Nat → Int32) (rr : Int32 × Int32 × Int32 × Int32 × (Nat → Int32) × (Nat → Int32) × (Nat → Int32)) (hf : ds_it (fun s => fX8_make_126_b o_raised o_undos o_undone_r o_rootOf_r p2 p3 s.1 s.2.1 s.2.2) n (v5, o_x, o_all_r) = some rr) (hG : G0 rr) (H : Heap) (locs : List Loc) (hP : va_P (dC, dI) vwCl [(h_o, .inr (7, [.ref h_o_plans, .ref h_o_makers, .ref h_o_halves, .int o_raised, .ref h_o_all, .ref h_o_text, .ref h_o_saved, .ref h_o_undone, .int o_undos, .int o_reached, .int o_length, .int o_begin, .int o_letters, .int o_sort, .long o_word, .int o_wrongAt, .int o_badAt, .int o_bad, .ref h_o_told, .ref h_o_shift, .int o_firstX, .int o_firstY, .int o_secondX, .int o_secondY, .ref h_o_rootOf, .ref h_o_becomes, .ref h_o_comes, .ref h_o_next, .int o_x])), (h_o_halves, .inl (ca 0, 34, .inl o_halves_r)), (h_o_undone, .inl (ca 0, 536, .inl o_undone_r)), (h_o_all, .inl (ca 0, 350, .inl o_all_r)), (h_o_rootOf, .inl (ca 0, 64, .inl o_rootOf_r)), (h_o_makers, .inl (ca 0, 34, .inl o_makers_r)), (h_o_plans, .inl (ca 0, 80, .inl o_plans_r))] H) (hD : va_D A [(h_o, .inr (7, [.ref h_o_plans, .ref h_o_makers, .ref h_o_halves, .int o_raised, .ref h_o_all, .ref h_o_text, .ref h_o_saved, .ref h_o_undone, .int o_undos, .int o_reached, .int o_length, .int o_begin, .int o_letters, .int o_sort, .long o_word, .int o_wrongAt, .int o_badAt, .int o_bad, .ref h_o_told, .ref h_o_shift, .int o_firstX, .int o_firstY, .int o_secondX, .int o_secondY, .ref h_o_rootOf, .ref h_o_becomes, .ref h_o_comes, .ref h_o_next, .int o_x])), (h_o_halves, .inl (ca 0, 34, .inl o_halves_r)), (h_o_undone, .inl (ca 0, 536, .inl o_undone_r)), (h_o_all, .inl (ca 0, 350, .inl o_all_r)), (h_o_rootOf, .inl (ca 0, 64, .inl o_rootOf_r)), (h_o_makers, .inl (ca 0, 34, .inl o_makers_r)), (h_o_plans, .inl (ca 0, 80, .inl o_plans_r))]) (hS : va_S A s.heap H locs) (ls : Array Slot) (hl : lv_has ls 8 [(0, .ref h_o), (2, .int p2), (3, .int p3), (5, .int v5)]), WW H locs (F0 m 126 ls []) := by
    intro o_raised o_undos o_undone_r o_rootOf_r n
    induction n with
    | zero => intro v5 o_x o_all_r rr hf; exact (ds_it_zero hf).elim
    | succ n ih126 =>
      intro v5 o_x o_all_r rr hf hG H locs hP hD hS ls hl
      refine h2 ?_
      obtain ⟨rr, hf, hG⟩ := ds_it_succ hf hG
      replace hf : fX8_make_126_b o_raised o_undos o_undone_r o_rootOf_r p2 p3 v5 o_x o_all_r = some rr := hf
      obtain ⟨G1, eG1⟩ : ∃ G : ((Int32 × Int32 × (Nat → Int32)) ⊕ (Int32 × Int32 × Int32 × Int32 × (Nat → Int32) × (Nat → Int32) × (Nat → Int32))) → Prop, G = ds_G (fun s' => ∃ r', ds_it (fun s => fX8_make_126_b o_raised o_undos o_undone_r o_rootOf_r p2 p3 s.1 s.2.1 s.2.2) n s' = some r' ∧ G0 r') G0 := ⟨_, rfl⟩
      rw [← eG1] at hG
      have J_206 : ∀ (v5 : Int32) (o_x : Int32) (o_all_r : Nat → Int32) (rr : (Int32 × Int32 × (Nat → Int32)) ⊕ (Int32 × Int32 × Int32 × Int32 × (Nat → Int32) × (Nat → Int32) × (Nat → Int32))) (hf : fX8_make_206 o_x o_all_r v5 = some rr) (hG : G1 rr) (H : Heap) (locs : List Loc) (hP : va_P (dC, dI) vwCl [(h_o, .inr (7, [.ref h_o_plans, .ref h_o_makers, .ref h_o_halves, .int o_raised, .ref h_o_all, .ref h_o_text, .ref h_o_saved, .ref h_o_undone, .int o_undos, .int o_reached, .int o_length, .int o_begin, .int o_letters, .int o_sort, .long o_word, .int o_wrongAt, .int o_badAt, .int o_bad, .ref h_o_told, .ref h_o_shift, .int o_firstX, .int o_firstY, .int o_secondX, .int o_secondY, .ref h_o_rootOf, .ref h_o_becomes, .ref h_o_comes, .ref h_o_next, .int o_x])), (h_o_halves, .inl (ca 0, 34, .inl o_halves_r)), (h_o_undone, .inl (ca 0, 536, .inl o_undone_r)), (h_o_all, .inl (ca 0, 350, .inl o_all_r)), (h_o_rootOf, .inl (ca 0, 64, .inl o_rootOf_r)), (h_o_makers, .inl (ca 0, 34, .inl o_makers_r)), (h_o_plans, .inl (ca 0, 80, .inl o_plans_r))] H) (hD : va_D A [(h_o, .inr (7, [.ref h_o_plans, .ref h_o_makers, .ref h_o_halves, .int o_raised, .ref h_o_all, .ref h_o_text, .ref h_o_saved, .ref h_o_undone, .int o_undos, .int o_reached, .int o_length, .int o_begin, .int o_letters, .int o_sort, .long o_word, .int o_wrongAt, .int o_badAt, .int o_bad, .ref h_o_told, .ref h_o_shift, .int o_firstX, .int o_firstY, .int o_secondX, .int o_secondY, .ref h_o_rootOf, .ref h_o_becomes, .ref h_o_comes, .ref h_o_next, .int o_x])), (h_o_halves, .inl (ca 0, 34, .inl o_halves_r)), (h_o_undone, .inl (ca 0, 536, .inl o_undone_r)), (h_o_all, .inl (ca 0, 350, .inl o_all_r)), (h_o_rootOf, .inl (ca 0, 64, .inl o_rootOf_r)), (h_o_makers, .inl (ca 0, 34, .inl o_makers_r)), (h_o_plans, .inl (ca 0, 80, .inl o_plans_r))]) (hS : va_S A s.heap H locs) (ls : Array Slot) (hl : lv_has ls 8 [(0, .ref h_o), (2, .int p2), (3, .int p3), (5, .int v5)]), WW H locs (F0 m 206 ls []) := by
        intro v5 o_x o_all_r rr hf hG H locs hP hD hS ls hl
        refine h2 ?_
        unfold fX8_make_206 at hf
        refine lv_iinc (v := (v5 + 1)) (lv' := [(5, .int (v5 + 1)), (0, .ref h_o), (2, .int p2), (3, .int p3)]) hx hb dX8_make_206 hl (k := 3) rfl rfl (by decide) rfl (fun ls hl => ?_)
        refine lv_goto (tgt := 126) hx hb dX8_make_209 (by decide) ?_
        have hf := Option.some.inj hf
        subst hf
        rw [eG1] at hG
        obtain ⟨rr, hf, hG⟩ := hG
        exact h1 (ih126 (v5 + 1) o_x o_all_r rr hf hG _ _ hP hD hS _ (lv_sub hl [1, 2, 3, 0] rfl))
      have J_135 : ∀ (v5 : Int32) (n : Nat) (v6 : Int32) (o_x : Int32) (o_all_r : Nat → Int32) (rr : (Int32 × Int32 × (Nat → Int32)) ⊕ (Int32 × Int32 × Int32 × Int32 × (Nat → Int32) × (Nat → Int32) × (Nat → Int32))) (hf : ds_it (fun s => fX8_make_135_b o_rootOf_r p2 p3 v5 s.1 s.2.1 s.2.2) n (v6, o_x, o_all_r) = some rr) (hG : G1 rr) (H : Heap) (locs : List Loc) (hP : va_P (dC, dI) vwCl [(h_o, .inr (7, [.ref h_o_plans, .ref h_o_makers, .ref h_o_halves, .int o_raised, .ref h_o_all, .ref h_o_text, .ref h_o_saved, .ref h_o_undone, .int o_undos, .int o_reached, .int o_length, .int o_begin, .int o_letters, .int o_sort, .long o_word, .int o_wrongAt, .int o_badAt, .int o_bad, .ref h_o_told, .ref h_o_shift, .int o_firstX, .int o_firstY, .int o_secondX, .int o_secondY, .ref h_o_rootOf, .ref h_o_becomes, .ref h_o_comes, .ref h_o_next, .int o_x])), (h_o_halves, .inl (ca 0, 34, .inl o_halves_r)), (h_o_undone, .inl (ca 0, 536, .inl o_undone_r)), (h_o_all, .inl (ca 0, 350, .inl o_all_r)), (h_o_rootOf, .inl (ca 0, 64, .inl o_rootOf_r)), (h_o_makers, .inl (ca 0, 34, .inl o_makers_r)), (h_o_plans, .inl (ca 0, 80, .inl o_plans_r))] H) (hD : va_D A [(h_o, .inr (7, [.ref h_o_plans, .ref h_o_makers, .ref h_o_halves, .int o_raised, .ref h_o_all, .ref h_o_text, .ref h_o_saved, .ref h_o_undone, .int o_undos, .int o_reached, .int o_length, .int o_begin, .int o_letters, .int o_sort, .long o_word, .int o_wrongAt, .int o_badAt, .int o_bad, .ref h_o_told, .ref h_o_shift, .int o_firstX, .int o_firstY, .int o_secondX, .int o_secondY, .ref h_o_rootOf, .ref h_o_becomes, .ref h_o_comes, .ref h_o_next, .int o_x])), (h_o_halves, .inl (ca 0, 34, .inl o_halves_r)), (h_o_undone, .inl (ca 0, 536, .inl o_undone_r)), (h_o_all, .inl (ca 0, 350, .inl o_all_r)), (h_o_rootOf, .inl (ca 0, 64, .inl o_rootOf_r)), (h_o_makers, .inl (ca 0, 34, .inl o_makers_r)), (h_o_plans, .inl (ca 0, 80, .inl o_plans_r))]) (hS : va_S A s.heap H locs) (ls : Array Slot) (hl : lv_has ls 8 [(0, .ref h_o), (2, .int p2), (3, .int p3), (5, .int v5), (6, .int v6)]), WW H locs (F0 m 135 ls []) := by
        intro v5 n
        induction n with
        | zero => intro v6 o_x o_all_r rr hf; exact (ds_it_zero hf).elim
        | succ n ih135 =>
          intro v6 o_x o_all_r rr hf hG H locs hP hD hS ls hl
          refine h2 ?_
          obtain ⟨rr, hf, hG⟩ := ds_it_succ hf hG
          replace hf : fX8_make_135_b o_rootOf_r p2 p3 v5 v6 o_x o_all_r = some rr := hf
          obtain ⟨G2, eG2⟩ : ∃ G : ((Int32 × Int32 × (Nat → Int32)) ⊕ ((Int32 × Int32 × (Nat → Int32)) ⊕ (Int32 × Int32 × Int32 × Int32 × (Nat → Int32) × (Nat → Int32) × (Nat → Int32)))) → Prop, G = ds_G (fun s' => ∃ r', ds_it (fun s => fX8_make_135_b o_rootOf_r p2 p3 v5 s.1 s.2.1 s.2.2) n s' = some r' ∧ G1 r') G1 := ⟨_, rfl⟩
          rw [← eG2] at hG
          have J_199 : ∀ (v6 : Int32) (s0 : Int32) (s1 : Int32) (o_x : Int32) (o_all_r : Nat → Int32) (rr : (Int32 × Int32 × (Nat → Int32)) ⊕ ((Int32 × Int32 × (Nat → Int32)) ⊕ (Int32 × Int32 × Int32 × Int32 × (Nat → Int32) × (Nat → Int32) × (Nat → Int32)))) (hf : fX8_make_199 o_x o_all_r v6 s0 s1 = some rr) (hG : G2 rr) (H : Heap) (locs : List Loc) (hP : va_P (dC, dI) vwCl [(h_o, .inr (7, [.ref h_o_plans, .ref h_o_makers, .ref h_o_halves, .int o_raised, .ref h_o_all, .ref h_o_text, .ref h_o_saved, .ref h_o_undone, .int o_undos, .int o_reached, .int o_length, .int o_begin, .int o_letters, .int o_sort, .long o_word, .int o_wrongAt, .int o_badAt, .int o_bad, .ref h_o_told, .ref h_o_shift, .int o_firstX, .int o_firstY, .int o_secondX, .int o_secondY, .ref h_o_rootOf, .ref h_o_becomes, .ref h_o_comes, .ref h_o_next, .int o_x])), (h_o_halves, .inl (ca 0, 34, .inl o_halves_r)), (h_o_undone, .inl (ca 0, 536, .inl o_undone_r)), (h_o_all, .inl (ca 0, 350, .inl o_all_r)), (h_o_rootOf, .inl (ca 0, 64, .inl o_rootOf_r)), (h_o_makers, .inl (ca 0, 34, .inl o_makers_r)), (h_o_plans, .inl (ca 0, 80, .inl o_plans_r))] H) (hD : va_D A [(h_o, .inr (7, [.ref h_o_plans, .ref h_o_makers, .ref h_o_halves, .int o_raised, .ref h_o_all, .ref h_o_text, .ref h_o_saved, .ref h_o_undone, .int o_undos, .int o_reached, .int o_length, .int o_begin, .int o_letters, .int o_sort, .long o_word, .int o_wrongAt, .int o_badAt, .int o_bad, .ref h_o_told, .ref h_o_shift, .int o_firstX, .int o_firstY, .int o_secondX, .int o_secondY, .ref h_o_rootOf, .ref h_o_becomes, .ref h_o_comes, .ref h_o_next, .int o_x])), (h_o_halves, .inl (ca 0, 34, .inl o_halves_r)), (h_o_undone, .inl (ca 0, 536, .inl o_undone_r)), (h_o_all, .inl (ca 0, 350, .inl o_all_r)), (h_o_rootOf, .inl (ca 0, 64, .inl o_rootOf_r)), (h_o_makers, .inl (ca 0, 34, .inl o_makers_r)), (h_o_plans, .inl (ca 0, 80, .inl o_plans_r))]) (hS : va_S A s.heap H locs) (ls : Array Slot) (hl : lv_has ls 8 [(0, .ref h_o), (2, .int p2), (3, .int p3), (5, .int v5), (6, .int v6)]), WW H locs (F0 m 199 ls [.int s0, .int s1, .ref h_o_all]) := by
            intro v6 s0 s1 o_x o_all_r rr hf hG H locs hP hD hS ls hl
            refine h2 ?_
            unfold fX8_make_199 at hf
            obtain ⟨i_199, hf⟩ := ds_ci hf
            refine va_iast hx hb hK hP hD hS 3 0 rfl rfl i_199 dX8_make_199 (fun H locs hP hD hS => ?_)
            have hP : va_P (dC, dI) vwCl [(h_o, .inr (7, [.ref h_o_plans, .ref h_o_makers, .ref h_o_halves, .int o_raised, .ref h_o_all, .ref h_o_text, .ref h_o_saved, .ref h_o_undone, .int o_undos, .int o_reached, .int o_length, .int o_begin, .int o_letters, .int o_sort, .long o_word, .int o_wrongAt, .int o_badAt, .int o_bad, .ref h_o_told, .ref h_o_shift, .int o_firstX, .int o_firstY, .int o_secondX, .int o_secondY, .ref h_o_rootOf, .ref h_o_becomes, .ref h_o_comes, .ref h_o_next, .int o_x])), (h_o_halves, .inl (ca 0, 34, .inl o_halves_r)), (h_o_undone, .inl (ca 0, 536, .inl o_undone_r)), (h_o_all, .inl (ca 0, 350, .inl (upd o_all_r s1.toNatClampNeg s0))), (h_o_rootOf, .inl (ca 0, 64, .inl o_rootOf_r)), (h_o_makers, .inl (ca 0, 34, .inl o_makers_r)), (h_o_plans, .inl (ca 0, 80, .inl o_plans_r))] H := hP
            have hD : va_D A [(h_o, .inr (7, [.ref h_o_plans, .ref h_o_makers, .ref h_o_halves, .int o_raised, .ref h_o_all, .ref h_o_text, .ref h_o_saved, .ref h_o_undone, .int o_undos, .int o_reached, .int o_length, .int o_begin, .int o_letters, .int o_sort, .long o_word, .int o_wrongAt, .int o_badAt, .int o_bad, .ref h_o_told, .ref h_o_shift, .int o_firstX, .int o_firstY, .int o_secondX, .int o_secondY, .ref h_o_rootOf, .ref h_o_becomes, .ref h_o_comes, .ref h_o_next, .int o_x])), (h_o_halves, .inl (ca 0, 34, .inl o_halves_r)), (h_o_undone, .inl (ca 0, 536, .inl o_undone_r)), (h_o_all, .inl (ca 0, 350, .inl (upd o_all_r s1.toNatClampNeg s0))), (h_o_rootOf, .inl (ca 0, 64, .inl o_rootOf_r)), (h_o_makers, .inl (ca 0, 34, .inl o_makers_r)), (h_o_plans, .inl (ca 0, 80, .inl o_plans_r))] := hD
            refine lv_iinc (v := (v6 + 1)) (lv' := [(6, .int (v6 + 1)), (0, .ref h_o), (2, .int p2), (3, .int p3), (5, .int v5)]) hx hb dX8_make_200 hl (k := 4) rfl rfl (by decide) rfl (fun ls hl => ?_)
            refine lv_goto (tgt := 135) hx hb dX8_make_203 (by decide) ?_
            have hf := Option.some.inj hf
            subst hf
            rw [eG2] at hG
            obtain ⟨rr, hf, hG⟩ := hG
            exact h1 (ih135 (v6 + 1) o_x (upd o_all_r s1.toNatClampNeg s0) rr hf hG _ _ hP hD hS _ (lv_sub hl [1, 2, 3, 4, 0] rfl))
          unfold fX8_make_135_b at hf
          refine lv_iload hx hb dX8_make_135 (lv_at hl 4 rfl) ?_
          refine lv_iload_n hx hb dX8_make_137 rfl (lv_at hl 1 rfl) ?_
          refine lv_icmp_ge (tgt := 206) hx hb dX8_make_138 (by decide) (fun c_138 => ?_) (fun c_138 => ?_)
          · replace hf := ds_t c_138 hf
            obtain ⟨rr, hr_0, hf⟩ := ds_ob hf
            have hf := Option.some.inj hf
            subst hf
            rw [eG2] at hG
            replace hG : G1 rr := hG
            have hf := hr_0
            exact h1 (J_206 v5 o_x o_all_r _ hf hG _ _ hP hD hS _ (lv_sub hl [0, 1, 2, 3] rfl))
          · replace hf := ds_f c_138 hf
            refine lv_aload_n hx hb dX8_make_141 rfl (lv_at hl 0 rfl) ?_
            refine lv_bipush (v := 8) hx hb dX8_make_142 (by decide) ?_
            refine lv_iload hx hb dX8_make_144 (lv_at hl 3 rfl) ?_
            refine lv_imul hx hb dX8_make_146 ?_
            refine lv_iload hx hb dX8_make_147 (lv_at hl 4 rfl) ?_
            refine lv_iadd hx hb dX8_make_149 ?_
            obtain ⟨q150, hq150, hf⟩ := ds_ob hf
            refine ds_calli (wr := [(h_o_halves, .inl (ca 0, 34, .inl o_halves_r)), (h_o_undone, .inl (ca 0, 536, .inl o_undone_r)), (h_o_all, .inl (ca 0, 350, .inl o_all_r)), (h_o_makers, .inl (ca 0, 34, .inl o_makers_r)), (h_o_plans, .inl (ca 0, 80, .inl o_plans_r))]) (va_runV (As := [.int (((8 : Int32) * v5) + v6)]) (rest := []) ⟨hx, hb, hml, hown, hts⟩ (c_X8_root l dC dI ca sa h_o h_o_plans h_o_makers h_o_halves h_o_all h_o_text h_o_saved h_o_undone h_o_told h_o_shift h_o_rootOf h_o_becomes h_o_comes h_o_next H.size o_raised o_undos o_reached o_length o_begin o_letters o_sort o_word o_wrongAt o_badAt o_bad o_firstX o_firstY o_secondX o_secondY o_x o_rootOf_r (((8 : Int32) * v5) + v6) q150 hq150) (cwV 1 hts (ds_gV kw_740 kw_741 kw_742 kw_597 kw_743) rfl rfl rfl (by decide +kernel) ⟨Nat.le_of_ble_eq_true rfl, Nat.le_of_ble_eq_true rfl⟩) ⟨ds_blind, va_recv hK hP (ci := 7) (q0 := 0) rfl rfl, ds_at hP hD hK hE hS hA [0, 4] rfl rfl _⟩ rfl rfl hl.1 rfl (lv_room (Nat.le_of_ble_eq_true rfl)) dX8_make_150 ⟨Nat.zero_le _, Nat.zero_le _⟩) hP hD hS hA [0, 4] [1, 2, 3, 5, 6] rfl rfl rfl (by decide) (fun H locs hP hD hS => ?_)
            have hP : va_P (dC, dI) vwCl [(h_o_halves, .inl (ca 0, 34, .inl o_halves_r)), (h_o_undone, .inl (ca 0, 536, .inl o_undone_r)), (h_o_all, .inl (ca 0, 350, .inl o_all_r)), (h_o_makers, .inl (ca 0, 34, .inl o_makers_r)), (h_o_plans, .inl (ca 0, 80, .inl o_plans_r)), (h_o, .inr (7, [.ref h_o_plans, .ref h_o_makers, .ref h_o_halves, .int o_raised, .ref h_o_all, .ref h_o_text, .ref h_o_saved, .ref h_o_undone, .int o_undos, .int o_reached, .int o_length, .int o_begin, .int o_letters, .int o_sort, .long o_word, .int o_wrongAt, .int o_badAt, .int o_bad, .ref h_o_told, .ref h_o_shift, .int o_firstX, .int o_firstY, .int o_secondX, .int o_secondY, .ref h_o_rootOf, .ref h_o_becomes, .ref h_o_comes, .ref h_o_next, .int o_x])), (h_o_rootOf, .inl (ca 0, 64, .inl o_rootOf_r))] H := hP
            have hD : va_D A [(h_o_halves, .inl (ca 0, 34, .inl o_halves_r)), (h_o_undone, .inl (ca 0, 536, .inl o_undone_r)), (h_o_all, .inl (ca 0, 350, .inl o_all_r)), (h_o_makers, .inl (ca 0, 34, .inl o_makers_r)), (h_o_plans, .inl (ca 0, 80, .inl o_plans_r)), (h_o, .inr (7, [.ref h_o_plans, .ref h_o_makers, .ref h_o_halves, .int o_raised, .ref h_o_all, .ref h_o_text, .ref h_o_saved, .ref h_o_undone, .int o_undos, .int o_reached, .int o_length, .int o_begin, .int o_letters, .int o_sort, .long o_word, .int o_wrongAt, .int o_badAt, .int o_bad, .ref h_o_told, .ref h_o_shift, .int o_firstX, .int o_firstY, .int o_secondX, .int o_secondY, .ref h_o_rootOf, .ref h_o_becomes, .ref h_o_comes, .ref h_o_next, .int o_x])), (h_o_rootOf, .inl (ca 0, 64, .inl o_rootOf_r))] := hD
            refine lv_istore (lv' := [(7, .int q150), (0, .ref h_o), (2, .int p2), (3, .int p3), (5, .int v5), (6, .int v6)]) hx hb dX8_make_153 hl (by decide) rfl (fun ls hl => ?_)
            refine lv_aload_n hx hb dX8_make_155 rfl (lv_at hl 1 rfl) ?_
            refine va_get (D := (dC, dI)) (ci := 7) (v := .ref h_o_all) (C := RX8) (T := TX8) (N := 29) hx hb hts (fun w h => List.mem_cons_of_mem _ (kc_X8 w h)) hown hK hP 5 rfl rfl 4 (by decide) (hg kw_594) (fun _ h9 => h9) rfl dX8_make_156 ?_
            refine lv_iconst (v := 3) hx hb dX8_make_159 (by decide) ?_
            refine lv_bipush (v := 8) hx hb dX8_make_160 (by decide) ?_
            refine lv_iload hx hb dX8_make_162 (lv_at hl 4 rfl) ?_
            refine lv_imul hx hb dX8_make_164 ?_
            refine lv_iadd hx hb dX8_make_165 ?_
            refine lv_iload hx hb dX8_make_166 (lv_at hl 5 rfl) ?_
            refine lv_iadd hx hb dX8_make_168 ?_
            refine lv_iload hx hb dX8_make_169 (lv_at hl 0 rfl) ?_
            refine lv_bipush (v := 8) hx hb dX8_make_171 (by decide) ?_
            refine lv_iload hx hb dX8_make_173 (lv_at hl 4 rfl) ?_
            refine lv_imul hx hb dX8_make_175 ?_
            refine lv_iload hx hb dX8_make_176 (lv_at hl 5 rfl) ?_
            refine lv_iadd hx hb dX8_make_178 ?_
            refine lv_icmp_ne (tgt := 190) hx hb dX8_make_179 (by decide) (fun c_179 => ?_) (fun c_179 => ?_)
            · replace hf := ds_f c_179 hf
              refine lv_aload_n hx hb dX8_make_190 rfl (lv_at hl 1 rfl) ?_
              refine va_get (D := (dC, dI)) (ci := 7) (v := .ref h_o_all) (C := RX8) (T := TX8) (N := 29) hx hb hts (fun w h => List.mem_cons_of_mem _ (kc_X8 w h)) hown hK hP 5 rfl rfl 4 (by decide) (hg kw_594) (fun _ h9 => h9) rfl dX8_make_191 ?_
              refine lv_iconst (v := 3) hx hb dX8_make_194 (by decide) ?_
              refine lv_iload hx hb dX8_make_195 (lv_at hl 0 rfl) ?_
              refine lv_iadd hx hb dX8_make_197 ?_
              obtain ⟨i_198, hf⟩ := ds_ci hf
              refine va_iald hx hb hK hP 2 0 rfl rfl i_198 dX8_make_198 ?_
              exact h1 (J_199 v6 (o_all_r ((3 : Int32) + q150).toNatClampNeg) (((3 : Int32) + ((8 : Int32) * v5)) + v6) o_x o_all_r _ hf hG _ _ (hP.sub [5, 0, 1, 2, 6, 3, 4] rfl) (hD.sub [5, 0, 1, 2, 6, 3, 4] rfl rfl) hS _ (lv_sub hl [1, 2, 3, 4, 5] rfl))
            · replace hf := ds_t c_179 hf
              refine lv_aload_n hx hb dX8_make_182 rfl (lv_at hl 1 rfl) ?_
              refine lv_iload_n hx hb dX8_make_183 rfl (lv_at hl 3 rfl) ?_
              obtain ⟨q184, hq184, hf⟩ := ds_ob hf
              refine ds_calli (wr := [(h_o_halves, .inl (ca 0, 34, .inl o_halves_r)), (h_o_undone, .inl (ca 0, 536, .inl o_undone_r)), (h_o_all, .inl (ca 0, 350, .inl o_all_r)), (h_o_makers, .inl (ca 0, 34, .inl o_makers_r)), (h_o_plans, .inl (ca 0, 80, .inl o_plans_r)), (h_o_rootOf, .inl (ca 0, 64, .inl o_rootOf_r))]) (va_runV (As := [.int p3]) (rest := [.int (((3 : Int32) + ((8 : Int32) * v5)) + v6), .ref h_o_all]) ⟨hx, hb, hml, hown, hts⟩ (c_X8_drawn l dC dI ca sa h_o h_o_plans h_o_makers h_o_halves h_o_all h_o_text h_o_saved h_o_undone h_o_told h_o_shift h_o_rootOf h_o_becomes h_o_comes h_o_next H.size o_raised o_undos o_reached o_length o_begin o_letters o_sort o_word o_wrongAt o_badAt o_bad o_firstX o_firstY o_secondX o_secondY o_x p3 q184 hq184) (cwV 1 hts (ds_gV kw_864 kw_865 kw_866 kw_597 kw_867) rfl rfl rfl (by decide +kernel) ⟨Nat.le_of_ble_eq_true rfl, Nat.le_of_ble_eq_true rfl⟩) ⟨ds_blind, va_recv hK hP (ci := 7) (q0 := 5) rfl rfl, ds_at hP hD hK hE hS hA [5] rfl rfl _⟩ rfl rfl hl.1 rfl (lv_room (Nat.le_of_ble_eq_true rfl)) dX8_make_184 ⟨Nat.zero_le _, Nat.zero_le _⟩) hP hD hS hA [5] [0, 1, 2, 3, 4, 6] rfl rfl rfl (by decide) (fun H locs hP hD hS => ?_)
              have hP : va_P (dC, dI) vwCl [(h_o_halves, .inl (ca 0, 34, .inl o_halves_r)), (h_o_undone, .inl (ca 0, 536, .inl o_undone_r)), (h_o_all, .inl (ca 0, 350, .inl o_all_r)), (h_o_makers, .inl (ca 0, 34, .inl o_makers_r)), (h_o_plans, .inl (ca 0, 80, .inl o_plans_r)), (h_o_rootOf, .inl (ca 0, 64, .inl o_rootOf_r)), (h_o, .inr (7, [.ref h_o_plans, .ref h_o_makers, .ref h_o_halves, .int o_raised, .ref h_o_all, .ref h_o_text, .ref h_o_saved, .ref h_o_undone, .int o_undos, .int o_reached, .int o_length, .int o_begin, .int o_letters, .int o_sort, .long o_word, .int o_wrongAt, .int o_badAt, .int o_bad, .ref h_o_told, .ref h_o_shift, .int o_firstX, .int o_firstY, .int o_secondX, .int o_secondY, .ref h_o_rootOf, .ref h_o_becomes, .ref h_o_comes, .ref h_o_next, .int q184.2]))] H := hP
              have hD : va_D A [(h_o_halves, .inl (ca 0, 34, .inl o_halves_r)), (h_o_undone, .inl (ca 0, 536, .inl o_undone_r)), (h_o_all, .inl (ca 0, 350, .inl o_all_r)), (h_o_makers, .inl (ca 0, 34, .inl o_makers_r)), (h_o_plans, .inl (ca 0, 80, .inl o_plans_r)), (h_o_rootOf, .inl (ca 0, 64, .inl o_rootOf_r)), (h_o, .inr (7, [.ref h_o_plans, .ref h_o_makers, .ref h_o_halves, .int o_raised, .ref h_o_all, .ref h_o_text, .ref h_o_saved, .ref h_o_undone, .int o_undos, .int o_reached, .int o_length, .int o_begin, .int o_letters, .int o_sort, .long o_word, .int o_wrongAt, .int o_badAt, .int o_bad, .ref h_o_told, .ref h_o_shift, .int o_firstX, .int o_firstY, .int o_secondX, .int o_secondY, .ref h_o_rootOf, .ref h_o_becomes, .ref h_o_comes, .ref h_o_next, .int q184.2]))] := hD
              refine lv_goto (tgt := 199) hx hb dX8_make_187 (by decide) ?_
              exact h1 (J_199 v6 q184.1 (((3 : Int32) + ((8 : Int32) * v5)) + v6) q184.2 o_all_r _ hf hG _ _ (hP.sub [6, 0, 1, 2, 5, 3, 4] rfl) (hD.sub [6, 0, 1, 2, 5, 3, 4] rfl rfl) hS _ (lv_sub hl [1, 2, 3, 4, 5] rfl))
      unfold fX8_make_126_b at hf
      refine lv_iload hx hb dX8_make_126 (lv_at hl 3 rfl) ?_
      refine lv_iload_n hx hb dX8_make_128 rfl (lv_at hl 1 rfl) ?_
      refine lv_icmp_ge (tgt := 212) hx hb dX8_make_129 (by decide) (fun c_129 => ?_) (fun c_129 => ?_)
      · replace hf := ds_t c_129 hf
        obtain ⟨rr, hr_0, hf⟩ := ds_ob hf
        have hf := Option.some.inj hf
        subst hf
        rw [eG1] at hG
        replace hG : G0 rr := hG
        have hf := hr_0
        exact h1 (J_212 o_raised o_undos o_x o_undone_r o_all_r o_rootOf_r _ hf hG _ _ hP hD hS _ (lv_sub hl [0] rfl))
      · replace hf := ds_f c_129 hf
        refine lv_iconst (v := 0) hx hb dX8_make_132 (by decide) ?_
        refine lv_istore (lv' := [(6, .int (0 : Int32)), (0, .ref h_o), (2, .int p2), (3, .int p3), (5, .int v5)]) hx hb dX8_make_133 hl (by decide) rfl (fun ls hl => ?_)
        exact h1 (J_135 v5 1000 (0 : Int32) o_x o_all_r _ hf hG _ _ hP hD hS _ (lv_sub hl [1, 2, 3, 4, 0] rfl))
  have J_111 : ∀ (s0 : Int32) (s1 : Int32) (o_raised : Int32) (o_undos : Int32) (o_x : Int32) (o_undone_r : Nat → Int32) (o_all_r : Nat → Int32) (o_rootOf_r : Nat → Int32) (rr : Int32 × Int32 × Int32 × Int32 × (Nat → Int32) × (Nat → Int32) × (Nat → Int32)) (hf : fX8_make_111 o_raised o_undos o_halves_r o_undone_r o_all_r o_rootOf_r o_makers_r o_plans_r p1 p2 p3 p4 s0 s1 = some rr) (hG : G0 rr) (H : Heap) (locs : List Loc) (hP : va_P (dC, dI) vwCl [(h_o, .inr (7, [.ref h_o_plans, .ref h_o_makers, .ref h_o_halves, .int o_raised, .ref h_o_all, .ref h_o_text, .ref h_o_saved, .ref h_o_undone, .int o_undos, .int o_reached, .int o_length, .int o_begin, .int o_letters, .int o_sort, .long o_word, .int o_wrongAt, .int o_badAt, .int o_bad, .ref h_o_told, .ref h_o_shift, .int o_firstX, .int o_firstY, .int o_secondX, .int o_secondY, .ref h_o_rootOf, .ref h_o_becomes, .ref h_o_comes, .ref h_o_next, .int o_x])), (h_o_halves, .inl (ca 0, 34, .inl o_halves_r)), (h_o_undone, .inl (ca 0, 536, .inl o_undone_r)), (h_o_all, .inl (ca 0, 350, .inl o_all_r)), (h_o_rootOf, .inl (ca 0, 64, .inl o_rootOf_r)), (h_o_makers, .inl (ca 0, 34, .inl o_makers_r)), (h_o_plans, .inl (ca 0, 80, .inl o_plans_r))] H) (hD : va_D A [(h_o, .inr (7, [.ref h_o_plans, .ref h_o_makers, .ref h_o_halves, .int o_raised, .ref h_o_all, .ref h_o_text, .ref h_o_saved, .ref h_o_undone, .int o_undos, .int o_reached, .int o_length, .int o_begin, .int o_letters, .int o_sort, .long o_word, .int o_wrongAt, .int o_badAt, .int o_bad, .ref h_o_told, .ref h_o_shift, .int o_firstX, .int o_firstY, .int o_secondX, .int o_secondY, .ref h_o_rootOf, .ref h_o_becomes, .ref h_o_comes, .ref h_o_next, .int o_x])), (h_o_halves, .inl (ca 0, 34, .inl o_halves_r)), (h_o_undone, .inl (ca 0, 536, .inl o_undone_r)), (h_o_all, .inl (ca 0, 350, .inl o_all_r)), (h_o_rootOf, .inl (ca 0, 64, .inl o_rootOf_r)), (h_o_makers, .inl (ca 0, 34, .inl o_makers_r)), (h_o_plans, .inl (ca 0, 80, .inl o_plans_r))]) (hS : va_S A s.heap H locs) (ls : Array Slot) (hl : lv_has ls 8 [(0, .ref h_o), (1, .int p1), (2, .int p2), (3, .int p3), (4, .int p4)]), WW H locs (F0 m 111 ls [.int s0, .int s1, .ref h_o_all]) := by
    intro s0 s1 o_raised o_undos o_x o_undone_r o_all_r o_rootOf_r rr hf hG H locs hP hD hS ls hl
    refine h2 ?_
    unfold fX8_make_111 at hf
    obtain ⟨i_111, hf⟩ := ds_ci hf
    refine va_iast hx hb hK hP hD hS 3 0 rfl rfl i_111 dX8_make_111 (fun H locs hP hD hS => ?_)
    have hP : va_P (dC, dI) vwCl [(h_o, .inr (7, [.ref h_o_plans, .ref h_o_makers, .ref h_o_halves, .int o_raised, .ref h_o_all, .ref h_o_text, .ref h_o_saved, .ref h_o_undone, .int o_undos, .int o_reached, .int o_length, .int o_begin, .int o_letters, .int o_sort, .long o_word, .int o_wrongAt, .int o_badAt, .int o_bad, .ref h_o_told, .ref h_o_shift, .int o_firstX, .int o_firstY, .int o_secondX, .int o_secondY, .ref h_o_rootOf, .ref h_o_becomes, .ref h_o_comes, .ref h_o_next, .int o_x])), (h_o_halves, .inl (ca 0, 34, .inl o_halves_r)), (h_o_undone, .inl (ca 0, 536, .inl o_undone_r)), (h_o_all, .inl (ca 0, 350, .inl (upd o_all_r s1.toNatClampNeg s0))), (h_o_rootOf, .inl (ca 0, 64, .inl o_rootOf_r)), (h_o_makers, .inl (ca 0, 34, .inl o_makers_r)), (h_o_plans, .inl (ca 0, 80, .inl o_plans_r))] H := hP
    have hD : va_D A [(h_o, .inr (7, [.ref h_o_plans, .ref h_o_makers, .ref h_o_halves, .int o_raised, .ref h_o_all, .ref h_o_text, .ref h_o_saved, .ref h_o_undone, .int o_undos, .int o_reached, .int o_length, .int o_begin, .int o_letters, .int o_sort, .long o_word, .int o_wrongAt, .int o_badAt, .int o_bad, .ref h_o_told, .ref h_o_shift, .int o_firstX, .int o_firstY, .int o_secondX, .int o_secondY, .ref h_o_rootOf, .ref h_o_becomes, .ref h_o_comes, .ref h_o_next, .int o_x])), (h_o_halves, .inl (ca 0, 34, .inl o_halves_r)), (h_o_undone, .inl (ca 0, 536, .inl o_undone_r)), (h_o_all, .inl (ca 0, 350, .inl (upd o_all_r s1.toNatClampNeg s0))), (h_o_rootOf, .inl (ca 0, 64, .inl o_rootOf_r)), (h_o_makers, .inl (ca 0, 34, .inl o_makers_r)), (h_o_plans, .inl (ca 0, 80, .inl o_plans_r))] := hD
    refine lv_aload_n hx hb dX8_make_112 rfl (lv_at hl 0 rfl) ?_
    refine lv_iload_n hx hb dX8_make_113 rfl (lv_at hl 1 rfl) ?_
    obtain ⟨q114, hq114, hf⟩ := ds_ob hf
    refine ds_callv (wr := [(h_o_undone, .inl (ca 0, 536, .inl o_undone_r))]) (va_runV (As := [.int p1]) (rest := []) ⟨hx, hb, hml, hown, hts⟩ (c_X8_laysOrbits l dC dI ca sa h_o h_o_plans h_o_makers h_o_halves h_o_all h_o_text h_o_saved h_o_undone h_o_told h_o_shift h_o_rootOf h_o_becomes h_o_comes h_o_next H.size o_raised o_undos o_reached o_length o_begin o_letters o_sort o_word o_wrongAt o_badAt o_bad o_firstX o_firstY o_secondX o_secondY o_x o_rootOf_r (upd o_all_r s1.toNatClampNeg s0) o_makers_r o_halves_r o_plans_r p1 q114 hq114) (cwV 1 hts (ds_gV kw_836 kw_837 kw_838 kw_597 kw_839) rfl rfl rfl (by decide +kernel) ⟨Nat.le_of_ble_eq_true rfl, Nat.le_of_ble_eq_true rfl⟩) ⟨ds_blind, va_recv hK hP (ci := 7) (q0 := 0) rfl rfl, ds_at hP hD hK hE hS hA [0, 4, 3, 5, 1, 6] rfl rfl _⟩ rfl rfl hl.1 rfl (lv_room (Nat.le_of_ble_eq_true rfl)) dX8_make_114 ⟨Nat.zero_le _, Nat.zero_le _⟩) hP hD hS hA [0, 4, 3, 5, 1, 6] [2] rfl rfl rfl (by decide) (fun H locs hP hD hS => ?_)
    have hP : va_P (dC, dI) vwCl [(h_o_undone, .inl (ca 0, 536, .inl o_undone_r)), (h_o, .inr (7, [.ref h_o_plans, .ref h_o_makers, .ref h_o_halves, .int o_raised, .ref h_o_all, .ref h_o_text, .ref h_o_saved, .ref h_o_undone, .int o_undos, .int o_reached, .int o_length, .int o_begin, .int o_letters, .int o_sort, .long o_word, .int o_wrongAt, .int o_badAt, .int o_bad, .ref h_o_told, .ref h_o_shift, .int o_firstX, .int o_firstY, .int o_secondX, .int o_secondY, .ref h_o_rootOf, .ref h_o_becomes, .ref h_o_comes, .ref h_o_next, .int o_x])), (h_o_rootOf, .inl (ca 0, 64, .inl q114)), (h_o_all, .inl (ca 0, 350, .inl (upd o_all_r s1.toNatClampNeg s0))), (h_o_makers, .inl (ca 0, 34, .inl o_makers_r)), (h_o_halves, .inl (ca 0, 34, .inl o_halves_r)), (h_o_plans, .inl (ca 0, 80, .inl o_plans_r))] H := hP
    have hD : va_D A [(h_o_undone, .inl (ca 0, 536, .inl o_undone_r)), (h_o, .inr (7, [.ref h_o_plans, .ref h_o_makers, .ref h_o_halves, .int o_raised, .ref h_o_all, .ref h_o_text, .ref h_o_saved, .ref h_o_undone, .int o_undos, .int o_reached, .int o_length, .int o_begin, .int o_letters, .int o_sort, .long o_word, .int o_wrongAt, .int o_badAt, .int o_bad, .ref h_o_told, .ref h_o_shift, .int o_firstX, .int o_firstY, .int o_secondX, .int o_secondY, .ref h_o_rootOf, .ref h_o_becomes, .ref h_o_comes, .ref h_o_next, .int o_x])), (h_o_rootOf, .inl (ca 0, 64, .inl q114)), (h_o_all, .inl (ca 0, 350, .inl (upd o_all_r s1.toNatClampNeg s0))), (h_o_makers, .inl (ca 0, 34, .inl o_makers_r)), (h_o_halves, .inl (ca 0, 34, .inl o_halves_r)), (h_o_plans, .inl (ca 0, 80, .inl o_plans_r))] := hD
    refine lv_aload_n hx hb dX8_make_117 rfl (lv_at hl 0 rfl) ?_
    refine lv_iload hx hb dX8_make_118 (lv_at hl 4 rfl) ?_
    refine va_put (D := (dC, dI)) (ci := 7) (v := .int p4) (ty := tyX8 28) (C := RX8) (T := TX8) (N := 29) hx hb hts (fun w h => List.mem_cons_of_mem _ (kc_X8 w h)) tyX8 tyX8_ok nmX8 hown hK hP hD hS 1 rfl rfl 28 (by decide) (hg kw_862) (fun _ h9 => h9) rfl (by decide +kernel) rfl rfl (Nat.le_of_ble_eq_true rfl) dX8_make_120 (fun H locs hP hD hS => ?_)
    have hP : va_P (dC, dI) vwCl [(h_o_undone, .inl (ca 0, 536, .inl o_undone_r)), (h_o, .inr (7, [.ref h_o_plans, .ref h_o_makers, .ref h_o_halves, .int o_raised, .ref h_o_all, .ref h_o_text, .ref h_o_saved, .ref h_o_undone, .int o_undos, .int o_reached, .int o_length, .int o_begin, .int o_letters, .int o_sort, .long o_word, .int o_wrongAt, .int o_badAt, .int o_bad, .ref h_o_told, .ref h_o_shift, .int o_firstX, .int o_firstY, .int o_secondX, .int o_secondY, .ref h_o_rootOf, .ref h_o_becomes, .ref h_o_comes, .ref h_o_next, .int p4])), (h_o_rootOf, .inl (ca 0, 64, .inl q114)), (h_o_all, .inl (ca 0, 350, .inl (upd o_all_r s1.toNatClampNeg s0))), (h_o_makers, .inl (ca 0, 34, .inl o_makers_r)), (h_o_halves, .inl (ca 0, 34, .inl o_halves_r)), (h_o_plans, .inl (ca 0, 80, .inl o_plans_r))] H := hP
    have hD : va_D A [(h_o_undone, .inl (ca 0, 536, .inl o_undone_r)), (h_o, .inr (7, [.ref h_o_plans, .ref h_o_makers, .ref h_o_halves, .int o_raised, .ref h_o_all, .ref h_o_text, .ref h_o_saved, .ref h_o_undone, .int o_undos, .int o_reached, .int o_length, .int o_begin, .int o_letters, .int o_sort, .long o_word, .int o_wrongAt, .int o_badAt, .int o_bad, .ref h_o_told, .ref h_o_shift, .int o_firstX, .int o_firstY, .int o_secondX, .int o_secondY, .ref h_o_rootOf, .ref h_o_becomes, .ref h_o_comes, .ref h_o_next, .int p4])), (h_o_rootOf, .inl (ca 0, 64, .inl q114)), (h_o_all, .inl (ca 0, 350, .inl (upd o_all_r s1.toNatClampNeg s0))), (h_o_makers, .inl (ca 0, 34, .inl o_makers_r)), (h_o_halves, .inl (ca 0, 34, .inl o_halves_r)), (h_o_plans, .inl (ca 0, 80, .inl o_plans_r))] := hD
    refine lv_iconst (v := 0) hx hb dX8_make_123 (by decide) ?_
    refine lv_istore (lv' := [(5, .int (0 : Int32)), (0, .ref h_o), (1, .int p1), (2, .int p2), (3, .int p3), (4, .int p4)]) hx hb dX8_make_124 hl (by decide) rfl (fun ls hl => ?_)
    exact h1 (J_126 o_raised o_undos o_undone_r q114 1000 (0 : Int32) p4 (upd o_all_r s1.toNatClampNeg s0) _ hf hG _ _ (hP.sub [1, 5, 0, 3, 2, 4, 6] rfl) (hD.sub [1, 5, 0, 3, 2, 4, 6] rfl rfl) hS _ (lv_sub hl [1, 3, 4, 0] rfl))
  have J_81 : ∀ (o_raised : Int32) (o_undos : Int32) (o_x : Int32) (o_undone_r : Nat → Int32) (o_all_r : Nat → Int32) (o_rootOf_r : Nat → Int32) (rr : Int32 × Int32 × Int32 × Int32 × (Nat → Int32) × (Nat → Int32) × (Nat → Int32)) (hf : fX8_make_81 o_raised o_undos o_halves_r o_undone_r o_all_r o_rootOf_r o_makers_r o_plans_r p1 p2 p3 p4 = some rr) (hG : G0 rr) (H : Heap) (locs : List Loc) (hP : va_P (dC, dI) vwCl [(h_o, .inr (7, [.ref h_o_plans, .ref h_o_makers, .ref h_o_halves, .int o_raised, .ref h_o_all, .ref h_o_text, .ref h_o_saved, .ref h_o_undone, .int o_undos, .int o_reached, .int o_length, .int o_begin, .int o_letters, .int o_sort, .long o_word, .int o_wrongAt, .int o_badAt, .int o_bad, .ref h_o_told, .ref h_o_shift, .int o_firstX, .int o_firstY, .int o_secondX, .int o_secondY, .ref h_o_rootOf, .ref h_o_becomes, .ref h_o_comes, .ref h_o_next, .int o_x])), (h_o_halves, .inl (ca 0, 34, .inl o_halves_r)), (h_o_undone, .inl (ca 0, 536, .inl o_undone_r)), (h_o_all, .inl (ca 0, 350, .inl o_all_r)), (h_o_rootOf, .inl (ca 0, 64, .inl o_rootOf_r)), (h_o_makers, .inl (ca 0, 34, .inl o_makers_r)), (h_o_plans, .inl (ca 0, 80, .inl o_plans_r))] H) (hD : va_D A [(h_o, .inr (7, [.ref h_o_plans, .ref h_o_makers, .ref h_o_halves, .int o_raised, .ref h_o_all, .ref h_o_text, .ref h_o_saved, .ref h_o_undone, .int o_undos, .int o_reached, .int o_length, .int o_begin, .int o_letters, .int o_sort, .long o_word, .int o_wrongAt, .int o_badAt, .int o_bad, .ref h_o_told, .ref h_o_shift, .int o_firstX, .int o_firstY, .int o_secondX, .int o_secondY, .ref h_o_rootOf, .ref h_o_becomes, .ref h_o_comes, .ref h_o_next, .int o_x])), (h_o_halves, .inl (ca 0, 34, .inl o_halves_r)), (h_o_undone, .inl (ca 0, 536, .inl o_undone_r)), (h_o_all, .inl (ca 0, 350, .inl o_all_r)), (h_o_rootOf, .inl (ca 0, 64, .inl o_rootOf_r)), (h_o_makers, .inl (ca 0, 34, .inl o_makers_r)), (h_o_plans, .inl (ca 0, 80, .inl o_plans_r))]) (hS : va_S A s.heap H locs) (ls : Array Slot) (hl : lv_has ls 8 [(0, .ref h_o), (1, .int p1), (2, .int p2), (3, .int p3), (4, .int p4)]), WW H locs (F0 m 81 ls []) := by
    intro o_raised o_undos o_x o_undone_r o_all_r o_rootOf_r rr hf hG H locs hP hD hS ls hl
    refine h2 ?_
    unfold fX8_make_81 at hf
    refine lv_aload_n hx hb dX8_make_81 rfl (lv_at hl 0 rfl) ?_
    refine va_get (D := (dC, dI)) (ci := 7) (v := .ref h_o_all) (C := RX8) (T := TX8) (N := 29) hx hb hts (fun w h => List.mem_cons_of_mem _ (kc_X8 w h)) hown hK hP 0 rfl rfl 4 (by decide) (hg kw_594) (fun _ h9 => h9) rfl dX8_make_82 ?_
    refine lv_iconst (v := 0) hx hb dX8_make_85 (by decide) ?_
    refine lv_iload_n hx hb dX8_make_86 rfl (lv_at hl 2 rfl) ?_
    refine va_iast hx hb hK hP hD hS 3 0 rfl rfl (ds_in_ok (i := 0) (n := 350) (by decide)) dX8_make_87 (fun H locs hP hD hS => ?_)
    have hP : va_P (dC, dI) vwCl [(h_o, .inr (7, [.ref h_o_plans, .ref h_o_makers, .ref h_o_halves, .int o_raised, .ref h_o_all, .ref h_o_text, .ref h_o_saved, .ref h_o_undone, .int o_undos, .int o_reached, .int o_length, .int o_begin, .int o_letters, .int o_sort, .long o_word, .int o_wrongAt, .int o_badAt, .int o_bad, .ref h_o_told, .ref h_o_shift, .int o_firstX, .int o_firstY, .int o_secondX, .int o_secondY, .ref h_o_rootOf, .ref h_o_becomes, .ref h_o_comes, .ref h_o_next, .int o_x])), (h_o_halves, .inl (ca 0, 34, .inl o_halves_r)), (h_o_undone, .inl (ca 0, 536, .inl o_undone_r)), (h_o_all, .inl (ca 0, 350, .inl (upd o_all_r ((0 : Int32).toNatClampNeg) p2))), (h_o_rootOf, .inl (ca 0, 64, .inl o_rootOf_r)), (h_o_makers, .inl (ca 0, 34, .inl o_makers_r)), (h_o_plans, .inl (ca 0, 80, .inl o_plans_r))] H := hP
    have hD : va_D A [(h_o, .inr (7, [.ref h_o_plans, .ref h_o_makers, .ref h_o_halves, .int o_raised, .ref h_o_all, .ref h_o_text, .ref h_o_saved, .ref h_o_undone, .int o_undos, .int o_reached, .int o_length, .int o_begin, .int o_letters, .int o_sort, .long o_word, .int o_wrongAt, .int o_badAt, .int o_bad, .ref h_o_told, .ref h_o_shift, .int o_firstX, .int o_firstY, .int o_secondX, .int o_secondY, .ref h_o_rootOf, .ref h_o_becomes, .ref h_o_comes, .ref h_o_next, .int o_x])), (h_o_halves, .inl (ca 0, 34, .inl o_halves_r)), (h_o_undone, .inl (ca 0, 536, .inl o_undone_r)), (h_o_all, .inl (ca 0, 350, .inl (upd o_all_r ((0 : Int32).toNatClampNeg) p2))), (h_o_rootOf, .inl (ca 0, 64, .inl o_rootOf_r)), (h_o_makers, .inl (ca 0, 34, .inl o_makers_r)), (h_o_plans, .inl (ca 0, 80, .inl o_plans_r))] := hD
    refine lv_aload_n hx hb dX8_make_88 rfl (lv_at hl 0 rfl) ?_
    refine va_get (D := (dC, dI)) (ci := 7) (v := .ref h_o_all) (C := RX8) (T := TX8) (N := 29) hx hb hts (fun w h => List.mem_cons_of_mem _ (kc_X8 w h)) hown hK hP 0 rfl rfl 4 (by decide) (hg kw_594) (fun _ h9 => h9) rfl dX8_make_89 ?_
    refine lv_iconst (v := 1) hx hb dX8_make_92 (by decide) ?_
    refine lv_iload_n hx hb dX8_make_93 rfl (lv_at hl 2 rfl) ?_
    refine va_iast hx hb hK hP hD hS 3 0 rfl rfl (ds_in_ok (i := 1) (n := 350) (by decide)) dX8_make_94 (fun H locs hP hD hS => ?_)
    have hP : va_P (dC, dI) vwCl [(h_o, .inr (7, [.ref h_o_plans, .ref h_o_makers, .ref h_o_halves, .int o_raised, .ref h_o_all, .ref h_o_text, .ref h_o_saved, .ref h_o_undone, .int o_undos, .int o_reached, .int o_length, .int o_begin, .int o_letters, .int o_sort, .long o_word, .int o_wrongAt, .int o_badAt, .int o_bad, .ref h_o_told, .ref h_o_shift, .int o_firstX, .int o_firstY, .int o_secondX, .int o_secondY, .ref h_o_rootOf, .ref h_o_becomes, .ref h_o_comes, .ref h_o_next, .int o_x])), (h_o_halves, .inl (ca 0, 34, .inl o_halves_r)), (h_o_undone, .inl (ca 0, 536, .inl o_undone_r)), (h_o_all, .inl (ca 0, 350, .inl (upd (upd o_all_r ((0 : Int32).toNatClampNeg) p2) ((1 : Int32).toNatClampNeg) p2))), (h_o_rootOf, .inl (ca 0, 64, .inl o_rootOf_r)), (h_o_makers, .inl (ca 0, 34, .inl o_makers_r)), (h_o_plans, .inl (ca 0, 80, .inl o_plans_r))] H := hP
    have hD : va_D A [(h_o, .inr (7, [.ref h_o_plans, .ref h_o_makers, .ref h_o_halves, .int o_raised, .ref h_o_all, .ref h_o_text, .ref h_o_saved, .ref h_o_undone, .int o_undos, .int o_reached, .int o_length, .int o_begin, .int o_letters, .int o_sort, .long o_word, .int o_wrongAt, .int o_badAt, .int o_bad, .ref h_o_told, .ref h_o_shift, .int o_firstX, .int o_firstY, .int o_secondX, .int o_secondY, .ref h_o_rootOf, .ref h_o_becomes, .ref h_o_comes, .ref h_o_next, .int o_x])), (h_o_halves, .inl (ca 0, 34, .inl o_halves_r)), (h_o_undone, .inl (ca 0, 536, .inl o_undone_r)), (h_o_all, .inl (ca 0, 350, .inl (upd (upd o_all_r ((0 : Int32).toNatClampNeg) p2) ((1 : Int32).toNatClampNeg) p2))), (h_o_rootOf, .inl (ca 0, 64, .inl o_rootOf_r)), (h_o_makers, .inl (ca 0, 34, .inl o_makers_r)), (h_o_plans, .inl (ca 0, 80, .inl o_plans_r))] := hD
    refine lv_aload_n hx hb dX8_make_95 rfl (lv_at hl 0 rfl) ?_
    refine va_get (D := (dC, dI)) (ci := 7) (v := .ref h_o_all) (C := RX8) (T := TX8) (N := 29) hx hb hts (fun w h => List.mem_cons_of_mem _ (kc_X8 w h)) hown hK hP 0 rfl rfl 4 (by decide) (hg kw_594) (fun _ h9 => h9) rfl dX8_make_96 ?_
    refine lv_iconst (v := 2) hx hb dX8_make_99 (by decide) ?_
    refine lv_iload_n hx hb dX8_make_100 rfl (lv_at hl 1 rfl) ?_
    refine lv_bipush (v := 12) hx hb dX8_make_101 (by decide) ?_
    refine lv_icmp_lt (tgt := 110) hx hb dX8_make_103 (by decide) (fun c_103 => ?_) (fun c_103 => ?_)
    · replace hf := ds_t c_103 hf
      refine lv_iconst (v := 0) hx hb dX8_make_110 (by decide) ?_
      exact h1 (J_111 (0 : Int32) (2 : Int32) o_raised o_undos o_x o_undone_r (upd (upd o_all_r ((0 : Int32).toNatClampNeg) p2) ((1 : Int32).toNatClampNeg) p2) o_rootOf_r _ hf hG _ _ hP hD hS _ (lv_sub hl [0, 1, 2, 3, 4] rfl))
    · replace hf := ds_f c_103 hf
      refine lv_iconst (v := 1) hx hb dX8_make_106 (by decide) ?_
      refine lv_goto (tgt := 111) hx hb dX8_make_107 (by decide) ?_
      exact h1 (J_111 (1 : Int32) (2 : Int32) o_raised o_undos o_x o_undone_r (upd (upd o_all_r ((0 : Int32).toNatClampNeg) p2) ((1 : Int32).toNatClampNeg) p2) o_rootOf_r _ hf hG _ _ hP hD hS _ (lv_sub hl [0, 1, 2, 3, 4] rfl))
  have J_58 : ∀ (o_raised : Int32) (o_undos : Int32) (o_x : Int32) (o_undone_r : Nat → Int32) (o_rootOf_r : Nat → Int32) (n : Nat) (v5 : Int32) (o_all_r : Nat → Int32) (rr : Int32 × Int32 × Int32 × Int32 × (Nat → Int32) × (Nat → Int32) × (Nat → Int32)) (hf : ds_it (fun s => fX8_make_58_b o_raised o_undos o_halves_r o_undone_r o_rootOf_r o_makers_r o_plans_r p1 p2 p3 p4 s.1 s.2) n (v5, o_all_r) = some rr) (hG : G0 rr) (H : Heap) (locs : List Loc) (hP : va_P (dC, dI) vwCl [(h_o, .inr (7, [.ref h_o_plans, .ref h_o_makers, .ref h_o_halves, .int o_raised, .ref h_o_all, .ref h_o_text, .ref h_o_saved, .ref h_o_undone, .int o_undos, .int o_reached, .int o_length, .int o_begin, .int o_letters, .int o_sort, .long o_word, .int o_wrongAt, .int o_badAt, .int o_bad, .ref h_o_told, .ref h_o_shift, .int o_firstX, .int o_firstY, .int o_secondX, .int o_secondY, .ref h_o_rootOf, .ref h_o_becomes, .ref h_o_comes, .ref h_o_next, .int o_x])), (h_o_halves, .inl (ca 0, 34, .inl o_halves_r)), (h_o_undone, .inl (ca 0, 536, .inl o_undone_r)), (h_o_all, .inl (ca 0, 350, .inl o_all_r)), (h_o_rootOf, .inl (ca 0, 64, .inl o_rootOf_r)), (h_o_makers, .inl (ca 0, 34, .inl o_makers_r)), (h_o_plans, .inl (ca 0, 80, .inl o_plans_r))] H) (hD : va_D A [(h_o, .inr (7, [.ref h_o_plans, .ref h_o_makers, .ref h_o_halves, .int o_raised, .ref h_o_all, .ref h_o_text, .ref h_o_saved, .ref h_o_undone, .int o_undos, .int o_reached, .int o_length, .int o_begin, .int o_letters, .int o_sort, .long o_word, .int o_wrongAt, .int o_badAt, .int o_bad, .ref h_o_told, .ref h_o_shift, .int o_firstX, .int o_firstY, .int o_secondX, .int o_secondY, .ref h_o_rootOf, .ref h_o_becomes, .ref h_o_comes, .ref h_o_next, .int o_x])), (h_o_halves, .inl (ca 0, 34, .inl o_halves_r)), (h_o_undone, .inl (ca 0, 536, .inl o_undone_r)), (h_o_all, .inl (ca 0, 350, .inl o_all_r)), (h_o_rootOf, .inl (ca 0, 64, .inl o_rootOf_r)), (h_o_makers, .inl (ca 0, 34, .inl o_makers_r)), (h_o_plans, .inl (ca 0, 80, .inl o_plans_r))]) (hS : va_S A s.heap H locs) (ls : Array Slot) (hl : lv_has ls 8 [(0, .ref h_o), (1, .int p1), (2, .int p2), (3, .int p3), (4, .int p4), (5, .int v5)]), WW H locs (F0 m 58 ls []) := by
    intro o_raised o_undos o_x o_undone_r o_rootOf_r n
    induction n with
    | zero => intro v5 o_all_r rr hf; exact (ds_it_zero hf).elim
    | succ n ih58 =>
      intro v5 o_all_r rr hf hG H locs hP hD hS ls hl
      refine h2 ?_
      obtain ⟨rr, hf, hG⟩ := ds_it_succ hf hG
      replace hf : fX8_make_58_b o_raised o_undos o_halves_r o_undone_r o_rootOf_r o_makers_r o_plans_r p1 p2 p3 p4 v5 o_all_r = some rr := hf
      obtain ⟨G1, eG1⟩ : ∃ G : ((Int32 × (Nat → Int32)) ⊕ (Int32 × Int32 × Int32 × Int32 × (Nat → Int32) × (Nat → Int32) × (Nat → Int32))) → Prop, G = ds_G (fun s' => ∃ r', ds_it (fun s => fX8_make_58_b o_raised o_undos o_halves_r o_undone_r o_rootOf_r o_makers_r o_plans_r p1 p2 p3 p4 s.1 s.2) n s' = some r' ∧ G0 r') G0 := ⟨_, rfl⟩
      rw [← eG1] at hG
      unfold fX8_make_58_b at hf
      refine lv_iload hx hb dX8_make_58 (lv_at hl 5 rfl) ?_
      refine lv_bipush (v := 64) hx hb dX8_make_60 (by decide) ?_
      refine lv_icmp_ge (tgt := 81) hx hb dX8_make_62 (by decide) (fun c_62 => ?_) (fun c_62 => ?_)
      · replace hf := ds_t c_62 hf
        obtain ⟨rr, hr_0, hf⟩ := ds_ob hf
        have hf := Option.some.inj hf
        subst hf
        rw [eG1] at hG
        replace hG : G0 rr := hG
        have hf := hr_0
        exact h1 (J_81 o_raised o_undos o_x o_undone_r o_all_r o_rootOf_r _ hf hG _ _ hP hD hS _ (lv_sub hl [0, 1, 2, 3, 4] rfl))
      · replace hf := ds_f c_62 hf
        refine lv_aload_n hx hb dX8_make_65 rfl (lv_at hl 0 rfl) ?_
        refine va_get (D := (dC, dI)) (ci := 7) (v := .ref h_o_all) (C := RX8) (T := TX8) (N := 29) hx hb hts (fun w h => List.mem_cons_of_mem _ (kc_X8 w h)) hown hK hP 0 rfl rfl 4 (by decide) (hg kw_594) (fun _ h9 => h9) rfl dX8_make_66 ?_
        refine lv_iconst (v := 3) hx hb dX8_make_69 (by decide) ?_
        refine lv_iload hx hb dX8_make_70 (lv_at hl 5 rfl) ?_
        refine lv_iadd hx hb dX8_make_72 ?_
        refine lv_iconst (v := 0) hx hb dX8_make_73 (by decide) ?_
        obtain ⟨i_74, hf⟩ := ds_ci hf
        refine va_iast hx hb hK hP hD hS 3 0 rfl rfl i_74 dX8_make_74 (fun H locs hP hD hS => ?_)
        have hP : va_P (dC, dI) vwCl [(h_o, .inr (7, [.ref h_o_plans, .ref h_o_makers, .ref h_o_halves, .int o_raised, .ref h_o_all, .ref h_o_text, .ref h_o_saved, .ref h_o_undone, .int o_undos, .int o_reached, .int o_length, .int o_begin, .int o_letters, .int o_sort, .long o_word, .int o_wrongAt, .int o_badAt, .int o_bad, .ref h_o_told, .ref h_o_shift, .int o_firstX, .int o_firstY, .int o_secondX, .int o_secondY, .ref h_o_rootOf, .ref h_o_becomes, .ref h_o_comes, .ref h_o_next, .int o_x])), (h_o_halves, .inl (ca 0, 34, .inl o_halves_r)), (h_o_undone, .inl (ca 0, 536, .inl o_undone_r)), (h_o_all, .inl (ca 0, 350, .inl (upd o_all_r (((3 : Int32) + v5).toNatClampNeg) (0 : Int32)))), (h_o_rootOf, .inl (ca 0, 64, .inl o_rootOf_r)), (h_o_makers, .inl (ca 0, 34, .inl o_makers_r)), (h_o_plans, .inl (ca 0, 80, .inl o_plans_r))] H := hP
        have hD : va_D A [(h_o, .inr (7, [.ref h_o_plans, .ref h_o_makers, .ref h_o_halves, .int o_raised, .ref h_o_all, .ref h_o_text, .ref h_o_saved, .ref h_o_undone, .int o_undos, .int o_reached, .int o_length, .int o_begin, .int o_letters, .int o_sort, .long o_word, .int o_wrongAt, .int o_badAt, .int o_bad, .ref h_o_told, .ref h_o_shift, .int o_firstX, .int o_firstY, .int o_secondX, .int o_secondY, .ref h_o_rootOf, .ref h_o_becomes, .ref h_o_comes, .ref h_o_next, .int o_x])), (h_o_halves, .inl (ca 0, 34, .inl o_halves_r)), (h_o_undone, .inl (ca 0, 536, .inl o_undone_r)), (h_o_all, .inl (ca 0, 350, .inl (upd o_all_r (((3 : Int32) + v5).toNatClampNeg) (0 : Int32)))), (h_o_rootOf, .inl (ca 0, 64, .inl o_rootOf_r)), (h_o_makers, .inl (ca 0, 34, .inl o_makers_r)), (h_o_plans, .inl (ca 0, 80, .inl o_plans_r))] := hD
        refine lv_iinc (v := (v5 + 1)) (lv' := [(5, .int (v5 + 1)), (0, .ref h_o), (1, .int p1), (2, .int p2), (3, .int p3), (4, .int p4)]) hx hb dX8_make_75 hl (k := 5) rfl rfl (by decide) rfl (fun ls hl => ?_)
        refine lv_goto (tgt := 58) hx hb dX8_make_78 (by decide) ?_
        have hf := Option.some.inj hf
        subst hf
        rw [eG1] at hG
        obtain ⟨rr, hf, hG⟩ := hG
        exact h1 (ih58 (v5 + 1) (upd o_all_r (((3 : Int32) + v5).toNatClampNeg) (0 : Int32)) rr hf hG _ _ hP hD hS _ (lv_sub hl [1, 2, 3, 4, 5, 0] rfl))
  have J_51 : ∀ (o_raised : Int32) (o_undos : Int32) (o_x : Int32) (o_undone_r : Nat → Int32) (o_all_r : Nat → Int32) (o_rootOf_r : Nat → Int32) (rr : Int32 × Int32 × Int32 × Int32 × (Nat → Int32) × (Nat → Int32) × (Nat → Int32)) (hf : fX8_make_51 o_raised o_undos o_halves_r o_undone_r o_all_r o_rootOf_r o_makers_r o_plans_r p1 p2 p3 p4 = some rr) (hG : G0 rr) (H : Heap) (locs : List Loc) (hP : va_P (dC, dI) vwCl [(h_o, .inr (7, [.ref h_o_plans, .ref h_o_makers, .ref h_o_halves, .int o_raised, .ref h_o_all, .ref h_o_text, .ref h_o_saved, .ref h_o_undone, .int o_undos, .int o_reached, .int o_length, .int o_begin, .int o_letters, .int o_sort, .long o_word, .int o_wrongAt, .int o_badAt, .int o_bad, .ref h_o_told, .ref h_o_shift, .int o_firstX, .int o_firstY, .int o_secondX, .int o_secondY, .ref h_o_rootOf, .ref h_o_becomes, .ref h_o_comes, .ref h_o_next, .int o_x])), (h_o_halves, .inl (ca 0, 34, .inl o_halves_r)), (h_o_undone, .inl (ca 0, 536, .inl o_undone_r)), (h_o_all, .inl (ca 0, 350, .inl o_all_r)), (h_o_rootOf, .inl (ca 0, 64, .inl o_rootOf_r)), (h_o_makers, .inl (ca 0, 34, .inl o_makers_r)), (h_o_plans, .inl (ca 0, 80, .inl o_plans_r))] H) (hD : va_D A [(h_o, .inr (7, [.ref h_o_plans, .ref h_o_makers, .ref h_o_halves, .int o_raised, .ref h_o_all, .ref h_o_text, .ref h_o_saved, .ref h_o_undone, .int o_undos, .int o_reached, .int o_length, .int o_begin, .int o_letters, .int o_sort, .long o_word, .int o_wrongAt, .int o_badAt, .int o_bad, .ref h_o_told, .ref h_o_shift, .int o_firstX, .int o_firstY, .int o_secondX, .int o_secondY, .ref h_o_rootOf, .ref h_o_becomes, .ref h_o_comes, .ref h_o_next, .int o_x])), (h_o_halves, .inl (ca 0, 34, .inl o_halves_r)), (h_o_undone, .inl (ca 0, 536, .inl o_undone_r)), (h_o_all, .inl (ca 0, 350, .inl o_all_r)), (h_o_rootOf, .inl (ca 0, 64, .inl o_rootOf_r)), (h_o_makers, .inl (ca 0, 34, .inl o_makers_r)), (h_o_plans, .inl (ca 0, 80, .inl o_plans_r))]) (hS : va_S A s.heap H locs) (ls : Array Slot) (hl : lv_has ls 8 [(0, .ref h_o), (1, .int p1), (2, .int p2), (3, .int p3), (4, .int p4)]), WW H locs (F0 m 51 ls []) := by
    intro o_raised o_undos o_x o_undone_r o_all_r o_rootOf_r rr hf hG H locs hP hD hS ls hl
    refine h2 ?_
    unfold fX8_make_51 at hf
    refine lv_aload_n hx hb dX8_make_51 rfl (lv_at hl 0 rfl) ?_
    obtain ⟨q52, hq52, hf⟩ := ds_ob hf
    refine ds_callv (wr := [(h_o_halves, .inl (ca 0, 34, .inl o_halves_r)), (h_o_rootOf, .inl (ca 0, 64, .inl o_rootOf_r)), (h_o_makers, .inl (ca 0, 34, .inl o_makers_r)), (h_o_plans, .inl (ca 0, 80, .inl o_plans_r))]) (va_runV (As := []) (rest := []) ⟨hx, hb, hml, hown, hts⟩ (c_X8_keeps l dC dI ca sa h_o h_o_plans h_o_makers h_o_halves h_o_all h_o_text h_o_saved h_o_undone h_o_told h_o_shift h_o_rootOf h_o_becomes h_o_comes h_o_next H.size o_raised o_undos o_reached o_length o_begin o_letters o_sort o_word o_wrongAt o_badAt o_bad o_firstX o_firstY o_secondX o_secondY o_x o_undone_r o_all_r  q52 hq52) (cwV 0 hts (ds_gV kw_849 kw_850 kw_851 kw_597 kw_852) rfl rfl rfl (by decide +kernel) ⟨Nat.le_of_ble_eq_true rfl, Nat.le_of_ble_eq_true rfl⟩) ⟨ds_blind, va_recv hK hP (ci := 7) (q0 := 0) rfl rfl, ds_at hP hD hK hE hS hA [0, 2, 3] rfl rfl _⟩ rfl rfl hl.1 rfl (lv_room (Nat.le_of_ble_eq_true rfl)) dX8_make_52 ⟨Nat.zero_le _, Nat.zero_le _⟩) hP hD hS hA [0, 2, 3] [1, 4, 5, 6] rfl rfl rfl (by decide) (fun H locs hP hD hS => ?_)
    have hP : va_P (dC, dI) vwCl [(h_o_halves, .inl (ca 0, 34, .inl o_halves_r)), (h_o_rootOf, .inl (ca 0, 64, .inl o_rootOf_r)), (h_o_makers, .inl (ca 0, 34, .inl o_makers_r)), (h_o_plans, .inl (ca 0, 80, .inl o_plans_r)), (h_o, .inr (7, [.ref h_o_plans, .ref h_o_makers, .ref h_o_halves, .int o_raised, .ref h_o_all, .ref h_o_text, .ref h_o_saved, .ref h_o_undone, .int q52.1, .int o_reached, .int o_length, .int o_begin, .int o_letters, .int o_sort, .long o_word, .int o_wrongAt, .int o_badAt, .int o_bad, .ref h_o_told, .ref h_o_shift, .int o_firstX, .int o_firstY, .int o_secondX, .int o_secondY, .ref h_o_rootOf, .ref h_o_becomes, .ref h_o_comes, .ref h_o_next, .int o_x])), (h_o_undone, .inl (ca 0, 536, .inl q52.2)), (h_o_all, .inl (ca 0, 350, .inl o_all_r))] H := hP
    have hD : va_D A [(h_o_halves, .inl (ca 0, 34, .inl o_halves_r)), (h_o_rootOf, .inl (ca 0, 64, .inl o_rootOf_r)), (h_o_makers, .inl (ca 0, 34, .inl o_makers_r)), (h_o_plans, .inl (ca 0, 80, .inl o_plans_r)), (h_o, .inr (7, [.ref h_o_plans, .ref h_o_makers, .ref h_o_halves, .int o_raised, .ref h_o_all, .ref h_o_text, .ref h_o_saved, .ref h_o_undone, .int q52.1, .int o_reached, .int o_length, .int o_begin, .int o_letters, .int o_sort, .long o_word, .int o_wrongAt, .int o_badAt, .int o_bad, .ref h_o_told, .ref h_o_shift, .int o_firstX, .int o_firstY, .int o_secondX, .int o_secondY, .ref h_o_rootOf, .ref h_o_becomes, .ref h_o_comes, .ref h_o_next, .int o_x])), (h_o_undone, .inl (ca 0, 536, .inl q52.2)), (h_o_all, .inl (ca 0, 350, .inl o_all_r))] := hD
    refine lv_iconst (v := 0) hx hb dX8_make_55 (by decide) ?_
    refine lv_istore (lv' := [(5, .int (0 : Int32)), (0, .ref h_o), (1, .int p1), (2, .int p2), (3, .int p3), (4, .int p4)]) hx hb dX8_make_56 hl (by decide) rfl (fun ls hl => ?_)
    exact h1 (J_58 o_raised q52.1 o_x q52.2 o_rootOf_r 1000 (0 : Int32) o_all_r _ hf hG _ _ (hP.sub [4, 0, 5, 6, 1, 2, 3] rfl) (hD.sub [4, 0, 5, 6, 1, 2, 3] rfl rfl) hS _ (lv_sub hl [1, 2, 3, 4, 5, 0] rfl))
  unfold fX8_make at hf
  refine lv_aload_n hx hb dX8_make_0 rfl (lv_at hl 0 rfl) ?_
  refine lv_iconst (v := 0) hx hb dX8_make_1 (by decide) ?_
  refine va_put (D := (dC, dI)) (ci := 7) (v := .int (0 : Int32)) (ty := tyX8 3) (C := RX8) (T := TX8) (N := 29) hx hb hts (fun w h => List.mem_cons_of_mem _ (kc_X8 w h)) tyX8 tyX8_ok nmX8 hown hK hP hD hS 0 rfl rfl 3 (by decide) (hg kw_564) (fun _ h9 => h9) rfl (by decide +kernel) rfl rfl (Nat.le_of_ble_eq_true rfl) dX8_make_2 (fun H locs hP hD hS => ?_)
  have hP : va_P (dC, dI) vwCl [(h_o, .inr (7, [.ref h_o_plans, .ref h_o_makers, .ref h_o_halves, .int (0 : Int32), .ref h_o_all, .ref h_o_text, .ref h_o_saved, .ref h_o_undone, .int o_undos, .int o_reached, .int o_length, .int o_begin, .int o_letters, .int o_sort, .long o_word, .int o_wrongAt, .int o_badAt, .int o_bad, .ref h_o_told, .ref h_o_shift, .int o_firstX, .int o_firstY, .int o_secondX, .int o_secondY, .ref h_o_rootOf, .ref h_o_becomes, .ref h_o_comes, .ref h_o_next, .int o_x])), (h_o_halves, .inl (ca 0, 34, .inl o_halves_r)), (h_o_undone, .inl (ca 0, 536, .inl o_undone_r)), (h_o_all, .inl (ca 0, 350, .inl o_all_r)), (h_o_rootOf, .inl (ca 0, 64, .inl o_rootOf_r)), (h_o_makers, .inl (ca 0, 34, .inl o_makers_r)), (h_o_plans, .inl (ca 0, 80, .inl o_plans_r))] H := hP
  have hD : va_D A [(h_o, .inr (7, [.ref h_o_plans, .ref h_o_makers, .ref h_o_halves, .int (0 : Int32), .ref h_o_all, .ref h_o_text, .ref h_o_saved, .ref h_o_undone, .int o_undos, .int o_reached, .int o_length, .int o_begin, .int o_letters, .int o_sort, .long o_word, .int o_wrongAt, .int o_badAt, .int o_bad, .ref h_o_told, .ref h_o_shift, .int o_firstX, .int o_firstY, .int o_secondX, .int o_secondY, .ref h_o_rootOf, .ref h_o_becomes, .ref h_o_comes, .ref h_o_next, .int o_x])), (h_o_halves, .inl (ca 0, 34, .inl o_halves_r)), (h_o_undone, .inl (ca 0, 536, .inl o_undone_r)), (h_o_all, .inl (ca 0, 350, .inl o_all_r)), (h_o_rootOf, .inl (ca 0, 64, .inl o_rootOf_r)), (h_o_makers, .inl (ca 0, 34, .inl o_makers_r)), (h_o_plans, .inl (ca 0, 80, .inl o_plans_r))] := hD
  refine lv_iload_n hx hb dX8_make_5 rfl (lv_at hl 1 rfl) ?_
  refine lv_iconst (v := 0) hx hb dX8_make_6 (by decide) ?_
  refine lv_bipush (v := 16) hx hb dX8_make_7 (by decide) ?_
  obtain ⟨q9, hq9, hf⟩ := ds_ob hf
  refine ds_calli (wr := [(h_o, .inr (7, [.ref h_o_plans, .ref h_o_makers, .ref h_o_halves, .int (0 : Int32), .ref h_o_all, .ref h_o_text, .ref h_o_saved, .ref h_o_undone, .int o_undos, .int o_reached, .int o_length, .int o_begin, .int o_letters, .int o_sort, .long o_word, .int o_wrongAt, .int o_badAt, .int o_bad, .ref h_o_told, .ref h_o_shift, .int o_firstX, .int o_firstY, .int o_secondX, .int o_secondY, .ref h_o_rootOf, .ref h_o_becomes, .ref h_o_comes, .ref h_o_next, .int o_x])), (h_o_halves, .inl (ca 0, 34, .inl o_halves_r)), (h_o_undone, .inl (ca 0, 536, .inl o_undone_r)), (h_o_all, .inl (ca 0, 350, .inl o_all_r)), (h_o_rootOf, .inl (ca 0, 64, .inl o_rootOf_r)), (h_o_makers, .inl (ca 0, 34, .inl o_makers_r)), (h_o_plans, .inl (ca 0, 80, .inl o_plans_r))]) (va_runS (As := [.int p1, .int (0 : Int32), .int (16 : Int32)]) (rest := []) ⟨hx, hb, hml, hown, hts⟩ (c_X8_in l dC dI ca sa  H.size  p1 (0 : Int32) (16 : Int32) q9 hq9) (va_cwS 3 hts (ds_gS kw_619 kw_620 kw_597 kw_621) rfl rfl rfl (by decide +kernel) ⟨Nat.le_of_ble_eq_true rfl, Nat.le_of_ble_eq_true rfl⟩) ⟨ds_blind, ds_at hP hD hK hE hS hA [] rfl rfl _⟩ rfl rfl hl.1 rfl (lv_room (Nat.le_of_ble_eq_true rfl)) dX8_make_9 ⟨Nat.zero_le _, Nat.zero_le _⟩) hP hD hS hA [] [0, 1, 2, 3, 4, 5, 6] rfl rfl rfl (by decide) (fun H locs hP hD hS => ?_)
  have hP : va_P (dC, dI) vwCl [(h_o, .inr (7, [.ref h_o_plans, .ref h_o_makers, .ref h_o_halves, .int (0 : Int32), .ref h_o_all, .ref h_o_text, .ref h_o_saved, .ref h_o_undone, .int o_undos, .int o_reached, .int o_length, .int o_begin, .int o_letters, .int o_sort, .long o_word, .int o_wrongAt, .int o_badAt, .int o_bad, .ref h_o_told, .ref h_o_shift, .int o_firstX, .int o_firstY, .int o_secondX, .int o_secondY, .ref h_o_rootOf, .ref h_o_becomes, .ref h_o_comes, .ref h_o_next, .int o_x])), (h_o_halves, .inl (ca 0, 34, .inl o_halves_r)), (h_o_undone, .inl (ca 0, 536, .inl o_undone_r)), (h_o_all, .inl (ca 0, 350, .inl o_all_r)), (h_o_rootOf, .inl (ca 0, 64, .inl o_rootOf_r)), (h_o_makers, .inl (ca 0, 34, .inl o_makers_r)), (h_o_plans, .inl (ca 0, 80, .inl o_plans_r))] H := hP
  have hD : va_D A [(h_o, .inr (7, [.ref h_o_plans, .ref h_o_makers, .ref h_o_halves, .int (0 : Int32), .ref h_o_all, .ref h_o_text, .ref h_o_saved, .ref h_o_undone, .int o_undos, .int o_reached, .int o_length, .int o_begin, .int o_letters, .int o_sort, .long o_word, .int o_wrongAt, .int o_badAt, .int o_bad, .ref h_o_told, .ref h_o_shift, .int o_firstX, .int o_firstY, .int o_secondX, .int o_secondY, .ref h_o_rootOf, .ref h_o_becomes, .ref h_o_comes, .ref h_o_next, .int o_x])), (h_o_halves, .inl (ca 0, 34, .inl o_halves_r)), (h_o_undone, .inl (ca 0, 536, .inl o_undone_r)), (h_o_all, .inl (ca 0, 350, .inl o_all_r)), (h_o_rootOf, .inl (ca 0, 64, .inl o_rootOf_r)), (h_o_makers, .inl (ca 0, 34, .inl o_makers_r)), (h_o_plans, .inl (ca 0, 80, .inl o_plans_r))] := hD
  refine lv_if_eq (tgt := 49) hx hb dX8_make_12 (by decide) (fun c_12 => ?_) (fun c_12 => ?_)
  · replace hf := ds_t c_12 hf
    refine lv_iconst (v := -1) hx hb dX8_make_49 (by decide) ?_
    have hf := Option.some.inj hf
    subst hf
    rw [eG0] at hG
    have hG : _ = res := hG
    subst hG
    exact W.iret (v := (-1 : Int32)) hx hb hr (fun t ht hW => ⟨⟨(-1 : Int32), (), rfl, rfl, by rw [ht]; exact hP, hD⟩, hS.F ht⟩) hS.2.2 dX8_make_50
  · replace hf := ds_f c_12 hf
    refine lv_iload_n hx hb dX8_make_15 rfl (lv_at hl 2 rfl) ?_
    refine lv_iconst (v := 1) hx hb dX8_make_16 (by decide) ?_
    refine lv_bipush (v := 8) hx hb dX8_make_17 (by decide) ?_
    obtain ⟨q19, hq19, hf⟩ := ds_ob hf
    refine ds_calli (wr := [(h_o, .inr (7, [.ref h_o_plans, .ref h_o_makers, .ref h_o_halves, .int (0 : Int32), .ref h_o_all, .ref h_o_text, .ref h_o_saved, .ref h_o_undone, .int o_undos, .int o_reached, .int o_length, .int o_begin, .int o_letters, .int o_sort, .long o_word, .int o_wrongAt, .int o_badAt, .int o_bad, .ref h_o_told, .ref h_o_shift, .int o_firstX, .int o_firstY, .int o_secondX, .int o_secondY, .ref h_o_rootOf, .ref h_o_becomes, .ref h_o_comes, .ref h_o_next, .int o_x])), (h_o_halves, .inl (ca 0, 34, .inl o_halves_r)), (h_o_undone, .inl (ca 0, 536, .inl o_undone_r)), (h_o_all, .inl (ca 0, 350, .inl o_all_r)), (h_o_rootOf, .inl (ca 0, 64, .inl o_rootOf_r)), (h_o_makers, .inl (ca 0, 34, .inl o_makers_r)), (h_o_plans, .inl (ca 0, 80, .inl o_plans_r))]) (va_runS (As := [.int p2, .int (1 : Int32), .int (8 : Int32)]) (rest := []) ⟨hx, hb, hml, hown, hts⟩ (c_X8_in l dC dI ca sa  H.size  p2 (1 : Int32) (8 : Int32) q19 hq19) (va_cwS 3 hts (ds_gS kw_619 kw_620 kw_597 kw_621) rfl rfl rfl (by decide +kernel) ⟨Nat.le_of_ble_eq_true rfl, Nat.le_of_ble_eq_true rfl⟩) ⟨ds_blind, ds_at hP hD hK hE hS hA [] rfl rfl _⟩ rfl rfl hl.1 rfl (lv_room (Nat.le_of_ble_eq_true rfl)) dX8_make_19 ⟨Nat.zero_le _, Nat.zero_le _⟩) hP hD hS hA [] [0, 1, 2, 3, 4, 5, 6] rfl rfl rfl (by decide) (fun H locs hP hD hS => ?_)
    have hP : va_P (dC, dI) vwCl [(h_o, .inr (7, [.ref h_o_plans, .ref h_o_makers, .ref h_o_halves, .int (0 : Int32), .ref h_o_all, .ref h_o_text, .ref h_o_saved, .ref h_o_undone, .int o_undos, .int o_reached, .int o_length, .int o_begin, .int o_letters, .int o_sort, .long o_word, .int o_wrongAt, .int o_badAt, .int o_bad, .ref h_o_told, .ref h_o_shift, .int o_firstX, .int o_firstY, .int o_secondX, .int o_secondY, .ref h_o_rootOf, .ref h_o_becomes, .ref h_o_comes, .ref h_o_next, .int o_x])), (h_o_halves, .inl (ca 0, 34, .inl o_halves_r)), (h_o_undone, .inl (ca 0, 536, .inl o_undone_r)), (h_o_all, .inl (ca 0, 350, .inl o_all_r)), (h_o_rootOf, .inl (ca 0, 64, .inl o_rootOf_r)), (h_o_makers, .inl (ca 0, 34, .inl o_makers_r)), (h_o_plans, .inl (ca 0, 80, .inl o_plans_r))] H := hP
    have hD : va_D A [(h_o, .inr (7, [.ref h_o_plans, .ref h_o_makers, .ref h_o_halves, .int (0 : Int32), .ref h_o_all, .ref h_o_text, .ref h_o_saved, .ref h_o_undone, .int o_undos, .int o_reached, .int o_length, .int o_begin, .int o_letters, .int o_sort, .long o_word, .int o_wrongAt, .int o_badAt, .int o_bad, .ref h_o_told, .ref h_o_shift, .int o_firstX, .int o_firstY, .int o_secondX, .int o_secondY, .ref h_o_rootOf, .ref h_o_becomes, .ref h_o_comes, .ref h_o_next, .int o_x])), (h_o_halves, .inl (ca 0, 34, .inl o_halves_r)), (h_o_undone, .inl (ca 0, 536, .inl o_undone_r)), (h_o_all, .inl (ca 0, 350, .inl o_all_r)), (h_o_rootOf, .inl (ca 0, 64, .inl o_rootOf_r)), (h_o_makers, .inl (ca 0, 34, .inl o_makers_r)), (h_o_plans, .inl (ca 0, 80, .inl o_plans_r))] := hD
    refine lv_if_eq (tgt := 49) hx hb dX8_make_22 (by decide) (fun c_22 => ?_) (fun c_22 => ?_)
    · replace hf := ds_t c_22 hf
      refine lv_iconst (v := -1) hx hb dX8_make_49 (by decide) ?_
      have hf := Option.some.inj hf
      subst hf
      rw [eG0] at hG
      have hG : _ = res := hG
      subst hG
      exact W.iret (v := (-1 : Int32)) hx hb hr (fun t ht hW => ⟨⟨(-1 : Int32), (), rfl, rfl, by rw [ht]; exact hP, hD⟩, hS.F ht⟩) hS.2.2 dX8_make_50
    · replace hf := ds_f c_22 hf
      refine lv_iload_n hx hb dX8_make_25 rfl (lv_at hl 3 rfl) ?_
      refine lv_iconst (v := 1) hx hb dX8_make_26 (by decide) ?_
      refine lv_iconst (v := 4) hx hb dX8_make_27 (by decide) ?_
      obtain ⟨q28, hq28, hf⟩ := ds_ob hf
      refine ds_calli (wr := [(h_o, .inr (7, [.ref h_o_plans, .ref h_o_makers, .ref h_o_halves, .int (0 : Int32), .ref h_o_all, .ref h_o_text, .ref h_o_saved, .ref h_o_undone, .int o_undos, .int o_reached, .int o_length, .int o_begin, .int o_letters, .int o_sort, .long o_word, .int o_wrongAt, .int o_badAt, .int o_bad, .ref h_o_told, .ref h_o_shift, .int o_firstX, .int o_firstY, .int o_secondX, .int o_secondY, .ref h_o_rootOf, .ref h_o_becomes, .ref h_o_comes, .ref h_o_next, .int o_x])), (h_o_halves, .inl (ca 0, 34, .inl o_halves_r)), (h_o_undone, .inl (ca 0, 536, .inl o_undone_r)), (h_o_all, .inl (ca 0, 350, .inl o_all_r)), (h_o_rootOf, .inl (ca 0, 64, .inl o_rootOf_r)), (h_o_makers, .inl (ca 0, 34, .inl o_makers_r)), (h_o_plans, .inl (ca 0, 80, .inl o_plans_r))]) (va_runS (As := [.int p3, .int (1 : Int32), .int (4 : Int32)]) (rest := []) ⟨hx, hb, hml, hown, hts⟩ (c_X8_in l dC dI ca sa  H.size  p3 (1 : Int32) (4 : Int32) q28 hq28) (va_cwS 3 hts (ds_gS kw_619 kw_620 kw_597 kw_621) rfl rfl rfl (by decide +kernel) ⟨Nat.le_of_ble_eq_true rfl, Nat.le_of_ble_eq_true rfl⟩) ⟨ds_blind, ds_at hP hD hK hE hS hA [] rfl rfl _⟩ rfl rfl hl.1 rfl (lv_room (Nat.le_of_ble_eq_true rfl)) dX8_make_28 ⟨Nat.zero_le _, Nat.zero_le _⟩) hP hD hS hA [] [0, 1, 2, 3, 4, 5, 6] rfl rfl rfl (by decide) (fun H locs hP hD hS => ?_)
      have hP : va_P (dC, dI) vwCl [(h_o, .inr (7, [.ref h_o_plans, .ref h_o_makers, .ref h_o_halves, .int (0 : Int32), .ref h_o_all, .ref h_o_text, .ref h_o_saved, .ref h_o_undone, .int o_undos, .int o_reached, .int o_length, .int o_begin, .int o_letters, .int o_sort, .long o_word, .int o_wrongAt, .int o_badAt, .int o_bad, .ref h_o_told, .ref h_o_shift, .int o_firstX, .int o_firstY, .int o_secondX, .int o_secondY, .ref h_o_rootOf, .ref h_o_becomes, .ref h_o_comes, .ref h_o_next, .int o_x])), (h_o_halves, .inl (ca 0, 34, .inl o_halves_r)), (h_o_undone, .inl (ca 0, 536, .inl o_undone_r)), (h_o_all, .inl (ca 0, 350, .inl o_all_r)), (h_o_rootOf, .inl (ca 0, 64, .inl o_rootOf_r)), (h_o_makers, .inl (ca 0, 34, .inl o_makers_r)), (h_o_plans, .inl (ca 0, 80, .inl o_plans_r))] H := hP
      have hD : va_D A [(h_o, .inr (7, [.ref h_o_plans, .ref h_o_makers, .ref h_o_halves, .int (0 : Int32), .ref h_o_all, .ref h_o_text, .ref h_o_saved, .ref h_o_undone, .int o_undos, .int o_reached, .int o_length, .int o_begin, .int o_letters, .int o_sort, .long o_word, .int o_wrongAt, .int o_badAt, .int o_bad, .ref h_o_told, .ref h_o_shift, .int o_firstX, .int o_firstY, .int o_secondX, .int o_secondY, .ref h_o_rootOf, .ref h_o_becomes, .ref h_o_comes, .ref h_o_next, .int o_x])), (h_o_halves, .inl (ca 0, 34, .inl o_halves_r)), (h_o_undone, .inl (ca 0, 536, .inl o_undone_r)), (h_o_all, .inl (ca 0, 350, .inl o_all_r)), (h_o_rootOf, .inl (ca 0, 64, .inl o_rootOf_r)), (h_o_makers, .inl (ca 0, 34, .inl o_makers_r)), (h_o_plans, .inl (ca 0, 80, .inl o_plans_r))] := hD
      refine lv_if_eq (tgt := 49) hx hb dX8_make_31 (by decide) (fun c_31 => ?_) (fun c_31 => ?_)
      · replace hf := ds_t c_31 hf
        refine lv_iconst (v := -1) hx hb dX8_make_49 (by decide) ?_
        have hf := Option.some.inj hf
        subst hf
        rw [eG0] at hG
        have hG : _ = res := hG
        subst hG
        exact W.iret (v := (-1 : Int32)) hx hb hr (fun t ht hW => ⟨⟨(-1 : Int32), (), rfl, rfl, by rw [ht]; exact hP, hD⟩, hS.F ht⟩) hS.2.2 dX8_make_50
      · replace hf := ds_f c_31 hf
        refine lv_aload_n hx hb dX8_make_34 rfl (lv_at hl 0 rfl) ?_
        refine lv_iload_n hx hb dX8_make_35 rfl (lv_at hl 1 rfl) ?_
        obtain ⟨q36, hq36, hf⟩ := ds_ob hf
        refine ds_calli (wr := [(h_o_undone, .inl (ca 0, 536, .inl o_undone_r)), (h_o_all, .inl (ca 0, 350, .inl o_all_r)), (h_o_rootOf, .inl (ca 0, 64, .inl o_rootOf_r)), (h_o_makers, .inl (ca 0, 34, .inl o_makers_r)), (h_o_plans, .inl (ca 0, 80, .inl o_plans_r))]) (va_runV (As := [.int p1]) (rest := []) ⟨hx, hb, hml, hown, hts⟩ (c_X8_needsEven l dC dI ca sa h_o h_o_plans h_o_makers h_o_halves h_o_all h_o_text h_o_saved h_o_undone h_o_told h_o_shift h_o_rootOf h_o_becomes h_o_comes h_o_next H.size (0 : Int32) o_undos o_reached o_length o_begin o_letters o_sort o_word o_wrongAt o_badAt o_bad o_firstX o_firstY o_secondX o_secondY o_x o_halves_r p1 q36 hq36) (cwV 1 hts (ds_gV kw_815 kw_816 kw_817 kw_597 kw_818) rfl rfl rfl (by decide +kernel) ⟨Nat.le_of_ble_eq_true rfl, Nat.le_of_ble_eq_true rfl⟩) ⟨ds_blind, va_recv hK hP (ci := 7) (q0 := 0) rfl rfl, ds_at hP hD hK hE hS hA [0, 1] rfl rfl _⟩ rfl rfl hl.1 rfl (lv_room (Nat.le_of_ble_eq_true rfl)) dX8_make_36 ⟨Nat.zero_le _, Nat.zero_le _⟩) hP hD hS hA [0, 1] [2, 3, 4, 5, 6] rfl rfl rfl (by decide) (fun H locs hP hD hS => ?_)
        have hP : va_P (dC, dI) vwCl [(h_o_undone, .inl (ca 0, 536, .inl o_undone_r)), (h_o_all, .inl (ca 0, 350, .inl o_all_r)), (h_o_rootOf, .inl (ca 0, 64, .inl o_rootOf_r)), (h_o_makers, .inl (ca 0, 34, .inl o_makers_r)), (h_o_plans, .inl (ca 0, 80, .inl o_plans_r)), (h_o, .inr (7, [.ref h_o_plans, .ref h_o_makers, .ref h_o_halves, .int (0 : Int32), .ref h_o_all, .ref h_o_text, .ref h_o_saved, .ref h_o_undone, .int o_undos, .int o_reached, .int o_length, .int o_begin, .int o_letters, .int o_sort, .long o_word, .int o_wrongAt, .int o_badAt, .int o_bad, .ref h_o_told, .ref h_o_shift, .int o_firstX, .int o_firstY, .int o_secondX, .int o_secondY, .ref h_o_rootOf, .ref h_o_becomes, .ref h_o_comes, .ref h_o_next, .int o_x])), (h_o_halves, .inl (ca 0, 34, .inl o_halves_r))] H := hP
        have hD : va_D A [(h_o_undone, .inl (ca 0, 536, .inl o_undone_r)), (h_o_all, .inl (ca 0, 350, .inl o_all_r)), (h_o_rootOf, .inl (ca 0, 64, .inl o_rootOf_r)), (h_o_makers, .inl (ca 0, 34, .inl o_makers_r)), (h_o_plans, .inl (ca 0, 80, .inl o_plans_r)), (h_o, .inr (7, [.ref h_o_plans, .ref h_o_makers, .ref h_o_halves, .int (0 : Int32), .ref h_o_all, .ref h_o_text, .ref h_o_saved, .ref h_o_undone, .int o_undos, .int o_reached, .int o_length, .int o_begin, .int o_letters, .int o_sort, .long o_word, .int o_wrongAt, .int o_badAt, .int o_bad, .ref h_o_told, .ref h_o_shift, .int o_firstX, .int o_firstY, .int o_secondX, .int o_secondY, .ref h_o_rootOf, .ref h_o_becomes, .ref h_o_comes, .ref h_o_next, .int o_x])), (h_o_halves, .inl (ca 0, 34, .inl o_halves_r))] := hD
        refine lv_if_eq (tgt := 51) hx hb dX8_make_39 (by decide) (fun c_39 => ?_) (fun c_39 => ?_)
        · replace hf := ds_t c_39 hf
          exact h1 (J_51 (0 : Int32) o_undos o_x o_undone_r o_all_r o_rootOf_r _ hf hG _ _ (hP.sub [5, 6, 0, 1, 2, 3, 4] rfl) (hD.sub [5, 6, 0, 1, 2, 3, 4] rfl rfl) hS _ (lv_sub hl [0, 1, 2, 3, 4] rfl))
        · replace hf := ds_f c_39 hf
          refine lv_iload_n hx hb dX8_make_42 rfl (lv_at hl 2 rfl) ?_
          refine lv_iconst (v := 2) hx hb dX8_make_43 (by decide) ?_
          refine lv_irem hx hb dX8_make_44 (by decide) ?_
          refine lv_iconst (v := 1) hx hb dX8_make_45 (by decide) ?_
          refine lv_icmp_ne (tgt := 51) hx hb dX8_make_46 (by decide) (fun c_46 => ?_) (fun c_46 => ?_)
          · replace hf := ds_f c_46 hf
            exact h1 (J_51 (0 : Int32) o_undos o_x o_undone_r o_all_r o_rootOf_r _ hf hG _ _ (hP.sub [5, 6, 0, 1, 2, 3, 4] rfl) (hD.sub [5, 6, 0, 1, 2, 3, 4] rfl rfl) hS _ (lv_sub hl [0, 1, 2, 3, 4] rfl))
          · replace hf := ds_t c_46 hf
            refine lv_iconst (v := -1) hx hb dX8_make_49 (by decide) ?_
            have hf := Option.some.inj hf
            subst hf
            rw [eG0] at hG
            have hG : _ = res := hG
            subst hG
            exact W.iret (v := (-1 : Int32)) hx hb hr (fun t ht hW => ⟨⟨(-1 : Int32), (), rfl, rfl, by rw [ht]; exact (hP.sub [5, 6, 0, 1, 2, 3, 4] rfl), (hD.sub [5, 6, 0, 1, 2, 3, 4] rfl rfl)⟩, hS.F ht⟩) hS.2.2 dX8_make_50
theorem dX8_mend_0 : decode cX8_mend 0 = .ok (.aload_n 0, 1) := by decide +kernel
theorem dX8_mend_1 : decode cX8_mend 1 = .ok (.iconst 0, 1) := by decide +kernel
theorem dX8_mend_2 : decode cX8_mend 2 = .ok (.putfield 51, 3) := by decide +kernel
theorem dX8_mend_5 : decode cX8_mend 5 = .ok (.aload_n 0, 1) := by decide +kernel
theorem dX8_mend_6 : decode cX8_mend 6 = .ok (.iload_n 1, 1) := by decide +kernel
theorem dX8_mend_7 : decode cX8_mend 7 = .ok (.invokevirtual 275, 3) := by decide +kernel
theorem dX8_mend_10 : decode cX8_mend 10 = .ok (.ifCond .ne 5, 3) := by decide +kernel
theorem dX8_mend_13 : decode cX8_mend 13 = .ok (.iconst (-1), 1) := by decide +kernel
theorem dX8_mend_14 : decode cX8_mend 14 = .ok (.ireturn, 1) := by decide +kernel
theorem dX8_mend_15 : decode cX8_mend 15 = .ok (.aload_n 0, 1) := by decide +kernel
theorem dX8_mend_16 : decode cX8_mend 16 = .ok (.iload_n 1, 1) := by decide +kernel
theorem dX8_mend_17 : decode cX8_mend 17 = .ok (.invokevirtual 278, 3) := by decide +kernel
theorem dX8_mend_20 : decode cX8_mend 20 = .ok (.aload_n 0, 1) := by decide +kernel
theorem dX8_mend_21 : decode cX8_mend 21 = .ok (.invokevirtual 281, 3) := by decide +kernel
theorem dX8_mend_24 : decode cX8_mend 24 = .ok (.istore_n 2, 1) := by decide +kernel
theorem dX8_mend_25 : decode cX8_mend 25 = .ok (.aload_n 0, 1) := by decide +kernel
theorem dX8_mend_26 : decode cX8_mend 26 = .ok (.invokevirtual 290, 3) := by decide +kernel
theorem dX8_mend_29 : decode cX8_mend 29 = .ok (.iconst 0, 1) := by decide +kernel
theorem dX8_mend_30 : decode cX8_mend 30 = .ok (.istore_n 3, 1) := by decide +kernel
theorem dX8_mend_31 : decode cX8_mend 31 = .ok (.iload_n 3, 1) := by decide +kernel
theorem dX8_mend_32 : decode cX8_mend 32 = .ok (.aload_n 0, 1) := by decide +kernel
theorem dX8_mend_33 : decode cX8_mend 33 = .ok (.getfield 19, 3) := by decide +kernel
theorem dX8_mend_36 : decode cX8_mend 36 = .ok (.iconst 1, 1) := by decide +kernel
theorem dX8_mend_37 : decode cX8_mend 37 = .ok (.iaload, 1) := by decide +kernel
theorem dX8_mend_38 : decode cX8_mend 38 = .ok (.if_icmp .ge 56, 3) := by decide +kernel
theorem dX8_mend_41 : decode cX8_mend 41 = .ok (.iconst 0, 1) := by decide +kernel
theorem dX8_mend_42 : decode cX8_mend 42 = .ok (.istore 4, 2) := by decide +kernel
theorem dX8_mend_44 : decode cX8_mend 44 = .ok (.iload 4, 2) := by decide +kernel
theorem dX8_mend_46 : decode cX8_mend 46 = .ok (.aload_n 0, 1) := by decide +kernel
theorem dX8_mend_47 : decode cX8_mend 47 = .ok (.getfield 19, 3) := by decide +kernel
theorem dX8_mend_50 : decode cX8_mend 50 = .ok (.iconst 0, 1) := by decide +kernel
theorem dX8_mend_51 : decode cX8_mend 51 = .ok (.iaload, 1) := by decide +kernel
theorem dX8_mend_52 : decode cX8_mend 52 = .ok (.if_icmp .ge 36, 3) := by decide +kernel
theorem dX8_mend_55 : decode cX8_mend 55 = .ok (.aload_n 0, 1) := by decide +kernel
theorem dX8_mend_56 : decode cX8_mend 56 = .ok (.getfield 48, 3) := by decide +kernel
theorem dX8_mend_59 : decode cX8_mend 59 = .ok (.bipush 8, 2) := by decide +kernel
theorem dX8_mend_61 : decode cX8_mend 61 = .ok (.iload_n 3, 1) := by decide +kernel
theorem dX8_mend_62 : decode cX8_mend 62 = .ok (.imul, 1) := by decide +kernel
theorem dX8_mend_63 : decode cX8_mend 63 = .ok (.iload 4, 2) := by decide +kernel
theorem dX8_mend_65 : decode cX8_mend 65 = .ok (.iadd, 1) := by decide +kernel
theorem dX8_mend_66 : decode cX8_mend 66 = .ok (.aload_n 0, 1) := by decide +kernel
theorem dX8_mend_67 : decode cX8_mend 67 = .ok (.aload_n 0, 1) := by decide +kernel
theorem dX8_mend_68 : decode cX8_mend 68 = .ok (.bipush 8, 2) := by decide +kernel
theorem dX8_mend_70 : decode cX8_mend 70 = .ok (.iload_n 3, 1) := by decide +kernel
theorem dX8_mend_71 : decode cX8_mend 71 = .ok (.imul, 1) := by decide +kernel
theorem dX8_mend_72 : decode cX8_mend 72 = .ok (.iload 4, 2) := by decide +kernel
theorem dX8_mend_74 : decode cX8_mend 74 = .ok (.iadd, 1) := by decide +kernel
theorem dX8_mend_75 : decode cX8_mend 75 = .ok (.invokevirtual 207, 3) := by decide +kernel
theorem dX8_mend_78 : decode cX8_mend 78 = .ok (.invokevirtual 272, 3) := by decide +kernel
theorem dX8_mend_81 : decode cX8_mend 81 = .ok (.iastore, 1) := by decide +kernel
theorem dX8_mend_82 : decode cX8_mend 82 = .ok (.iinc 4 1, 3) := by decide +kernel
theorem dX8_mend_85 : decode cX8_mend 85 = .ok (.goto (-41), 3) := by decide +kernel
theorem dX8_mend_88 : decode cX8_mend 88 = .ok (.iinc 3 1, 3) := by decide +kernel
theorem dX8_mend_91 : decode cX8_mend 91 = .ok (.goto (-60), 3) := by decide +kernel
theorem dX8_mend_94 : decode cX8_mend 94 = .ok (.aload_n 0, 1) := by decide +kernel
theorem dX8_mend_95 : decode cX8_mend 95 = .ok (.invokevirtual 293, 3) := by decide +kernel
theorem dX8_mend_98 : decode cX8_mend 98 = .ok (.istore_n 3, 1) := by decide +kernel
theorem dX8_mend_99 : decode cX8_mend 99 = .ok (.iload_n 2, 1) := by decide +kernel
theorem dX8_mend_100 : decode cX8_mend 100 = .ok (.ireturn, 1) := by decide +kernel
def fX8_mend_94 (o_raised : Int32) (o_undos : Int32) (o_all_r : Nat → Int32) (o_rootOf_r : Nat → Int32) (o_next_r : Nat → Int32) (o_undone_r : Nat → Int32) (v2 : Int32) : Option (Int32 × Int32 × Int32 × (Nat → Int32) × (Nat → Int32) × (Nat → Int32) × (Nat → Int32)) :=
  Option.bind (fX8_isOther o_undos o_next_r o_all_r o_undone_r) fun q95 => some (v2, o_raised, q95.2.1, q95.2.2.1, o_rootOf_r, o_next_r, q95.2.2.2)
def fX8_mend_88 (o_next_r : Nat → Int32) (v3 : Int32) : Option ((Int32 × (Nat → Int32)) ⊕ (Int32 × Int32 × Int32 × (Nat → Int32) × (Nat → Int32) × (Nat → Int32) × (Nat → Int32))) :=
  some (.inl ((v3 + 1), o_next_r))
def fX8_mend_44_b (o_all_r : Nat → Int32) (o_rootOf_r : Nat → Int32) (v3 : Int32) (v4 : Int32) (o_next_r : Nat → Int32) : Option ((Int32 × (Nat → Int32)) ⊕ ((Int32 × (Nat → Int32)) ⊕ (Int32 × Int32 × Int32 × (Nat → Int32) × (Nat → Int32) × (Nat → Int32) × (Nat → Int32)))) :=
  if (o_all_r (0 : Int32).toNatClampNeg) ≤ v4 then Option.bind (fX8_mend_88 o_next_r v3) fun z => some (.inr z) else Option.bind (fX8_root o_rootOf_r (((8 : Int32) * v3) + v4)) fun q75 => Option.bind (fX8_mostOf o_all_r o_rootOf_r q75) fun q78 => if ds_in (((8 : Int32) * v3) + v4) 64 = true then some (.inl ((v4 + 1), (upd o_next_r ((((8 : Int32) * v3) + v4).toNatClampNeg) q78))) else none
def fX8_mend_44 (o_all_r : Nat → Int32) (o_rootOf_r : Nat → Int32) (v3 : Int32) (v4 : Int32) (o_next_r : Nat → Int32) : Option ((Int32 × (Nat → Int32)) ⊕ (Int32 × Int32 × Int32 × (Nat → Int32) × (Nat → Int32) × (Nat → Int32) × (Nat → Int32))) := ds_it (fun s => fX8_mend_44_b o_all_r o_rootOf_r v3 s.1 s.2) 1000 (v4, o_next_r)
def fX8_mend_31_b (o_raised : Int32) (o_undos : Int32) (o_all_r : Nat → Int32) (o_rootOf_r : Nat → Int32) (o_undone_r : Nat → Int32) (v2 : Int32) (v3 : Int32) (o_next_r : Nat → Int32) : Option ((Int32 × (Nat → Int32)) ⊕ (Int32 × Int32 × Int32 × (Nat → Int32) × (Nat → Int32) × (Nat → Int32) × (Nat → Int32))) :=
  if (o_all_r (1 : Int32).toNatClampNeg) ≤ v3 then Option.bind (fX8_mend_94 o_raised o_undos o_all_r o_rootOf_r o_next_r o_undone_r v2) fun z => some (.inr z) else fX8_mend_44 o_all_r o_rootOf_r v3 (0 : Int32) o_next_r
def fX8_mend_31 (o_raised : Int32) (o_undos : Int32) (o_all_r : Nat → Int32) (o_rootOf_r : Nat → Int32) (o_undone_r : Nat → Int32) (v2 : Int32) (v3 : Int32) (o_next_r : Nat → Int32) : Option (Int32 × Int32 × Int32 × (Nat → Int32) × (Nat → Int32) × (Nat → Int32) × (Nat → Int32)) := ds_it (fun s => fX8_mend_31_b o_raised o_undos o_all_r o_rootOf_r o_undone_r v2 s.1 s.2) 1000 (v3, o_next_r)
def fX8_mend (o_undos : Int32) (o_all_r : Nat → Int32) (o_halves_r : Nat → Int32) (o_rootOf_r : Nat → Int32) (o_makers_r : Nat → Int32) (o_plans_r : Nat → Int32) (o_next_r : Nat → Int32) (o_undone_r : Nat → Int32) (p1 : Int32) : Option (Int32 × Int32 × Int32 × (Nat → Int32) × (Nat → Int32) × (Nat → Int32) × (Nat → Int32)) :=
  Option.bind (fX8_mayAsk o_all_r o_halves_r p1) fun q7 => if q7 = 0 then some ((-1 : Int32), (0 : Int32), o_undos, o_all_r, o_rootOf_r, o_next_r, o_undone_r) else Option.bind (fX8_laysOrbits o_rootOf_r o_all_r o_makers_r o_halves_r o_plans_r p1) fun q17 => Option.bind (fX8_flawed o_all_r q17) fun q21 => Option.bind (fX8_keepsNext o_all_r o_next_r) fun q26 => fX8_mend_31 (0 : Int32) o_undos o_all_r q17 o_undone_r q21 (0 : Int32) q26
set_option maxHeartbeats 4000000 in
set_option maxRecDepth 100000 in
theorem c_X8_mend (l : Launch) (dC : Nat → ClassId) (dI : Nat → Nat → Nat) (ca : Nat → ClassId) (sa : Nat → Nat) (h_o : Nat) (h_o_plans : Nat) (h_o_makers : Nat) (h_o_halves : Nat) (h_o_all : Nat) (h_o_text : Nat) (h_o_saved : Nat) (h_o_undone : Nat) (h_o_told : Nat) (h_o_shift : Nat) (h_o_rootOf : Nat) (h_o_becomes : Nat) (h_o_comes : Nat) (h_o_next : Nat) (sz : Nat) (o_raised : Int32) (o_undos : Int32) (o_reached : Int32) (o_length : Int32) (o_begin : Int32) (o_letters : Int32) (o_sort : Int32) (o_word : Int64) (o_wrongAt : Int32) (o_badAt : Int32) (o_bad : Int32) (o_firstX : Int32) (o_firstY : Int32) (o_secondX : Int32) (o_secondY : Int32) (o_x : Int32) (o_all_r : Nat → Int32) (o_halves_r : Nat → Int32) (o_rootOf_r : Nat → Int32) (o_makers_r : Nat → Int32) (o_plans_r : Nat → Int32) (o_next_r : Nat → Int32) (o_undone_r : Nat → Int32) (p1 : Int32) (res : Int32 × Int32 × Int32 × (Nat → Int32) × (Nat → Int32) × (Nat → Int32) × (Nat → Int32)) (hf : fX8_mend o_undos o_all_r o_halves_r o_rootOf_r o_makers_r o_plans_r o_next_r o_undone_r p1 = some res) : Met l yX8_mend (Cond.code yX8_mend cX8_mend 5 (some .int) :: ds_gw) { frames := 6, cells := 0, slots := 0, locals := 138 } (va_Pc [.ref h_o, .int p1] (ds_Pre dC dI ca sa [(h_o, .inr (7, [.ref h_o_plans, .ref h_o_makers, .ref h_o_halves, .int o_raised, .ref h_o_all, .ref h_o_text, .ref h_o_saved, .ref h_o_undone, .int o_undos, .int o_reached, .int o_length, .int o_begin, .int o_letters, .int o_sort, .long o_word, .int o_wrongAt, .int o_badAt, .int o_bad, .ref h_o_told, .ref h_o_shift, .int o_firstX, .int o_firstY, .int o_secondX, .int o_secondY, .ref h_o_rootOf, .ref h_o_becomes, .ref h_o_comes, .ref h_o_next, .int o_x])), (h_o_all, .inl (ca 0, 350, .inl o_all_r)), (h_o_halves, .inl (ca 0, 34, .inl o_halves_r)), (h_o_rootOf, .inl (ca 0, 64, .inl o_rootOf_r)), (h_o_makers, .inl (ca 0, 34, .inl o_makers_r)), (h_o_plans, .inl (ca 0, 80, .inl o_plans_r)), (h_o_next, .inl (ca 0, 64, .inl o_next_r)), (h_o_undone, .inl (ca 0, 536, .inl o_undone_r))] sz)) (va_Qi (fun r (_ : Unit) => r = res.1) (ds_B dC dI (va_A [(h_o, .inr (7, [.ref h_o_plans, .ref h_o_makers, .ref h_o_halves, .int o_raised, .ref h_o_all, .ref h_o_text, .ref h_o_saved, .ref h_o_undone, .int o_undos, .int o_reached, .int o_length, .int o_begin, .int o_letters, .int o_sort, .long o_word, .int o_wrongAt, .int o_badAt, .int o_bad, .ref h_o_told, .ref h_o_shift, .int o_firstX, .int o_firstY, .int o_secondX, .int o_secondY, .ref h_o_rootOf, .ref h_o_becomes, .ref h_o_comes, .ref h_o_next, .int o_x])), (h_o_all, .inl (ca 0, 350, .inl o_all_r)), (h_o_halves, .inl (ca 0, 34, .inl o_halves_r)), (h_o_rootOf, .inl (ca 0, 64, .inl o_rootOf_r)), (h_o_makers, .inl (ca 0, 34, .inl o_makers_r)), (h_o_plans, .inl (ca 0, 80, .inl o_plans_r)), (h_o_next, .inl (ca 0, 64, .inl o_next_r)), (h_o_undone, .inl (ca 0, 536, .inl o_undone_r))] sz) [(h_o, .inr (7, [.ref h_o_plans, .ref h_o_makers, .ref h_o_halves, .int res.2.1, .ref h_o_all, .ref h_o_text, .ref h_o_saved, .ref h_o_undone, .int res.2.2.1, .int o_reached, .int o_length, .int o_begin, .int o_letters, .int o_sort, .long o_word, .int o_wrongAt, .int o_badAt, .int o_bad, .ref h_o_told, .ref h_o_shift, .int o_firstX, .int o_firstY, .int o_secondX, .int o_secondY, .ref h_o_rootOf, .ref h_o_becomes, .ref h_o_comes, .ref h_o_next, .int o_x])), (h_o_all, .inl (ca 0, 350, .inl res.2.2.2.1)), (h_o_halves, .inl (ca 0, 34, .inl o_halves_r)), (h_o_rootOf, .inl (ca 0, 64, .inl res.2.2.2.2.1)), (h_o_makers, .inl (ca 0, 34, .inl o_makers_r)), (h_o_plans, .inl (ca 0, 80, .inl o_plans_r)), (h_o_next, .inl (ca 0, 64, .inl res.2.2.2.2.2.1)), (h_o_undone, .inl (ca 0, 536, .inl res.2.2.2.2.2.2))]) (va_A [(h_o, .inr (7, [.ref h_o_plans, .ref h_o_makers, .ref h_o_halves, .int o_raised, .ref h_o_all, .ref h_o_text, .ref h_o_saved, .ref h_o_undone, .int o_undos, .int o_reached, .int o_length, .int o_begin, .int o_letters, .int o_sort, .long o_word, .int o_wrongAt, .int o_badAt, .int o_bad, .ref h_o_told, .ref h_o_shift, .int o_firstX, .int o_firstY, .int o_secondX, .int o_secondY, .ref h_o_rootOf, .ref h_o_becomes, .ref h_o_comes, .ref h_o_next, .int o_x])), (h_o_all, .inl (ca 0, 350, .inl o_all_r)), (h_o_halves, .inl (ca 0, 34, .inl o_halves_r)), (h_o_rootOf, .inl (ca 0, 64, .inl o_rootOf_r)), (h_o_makers, .inl (ca 0, 34, .inl o_makers_r)), (h_o_plans, .inl (ca 0, 80, .inl o_plans_r)), (h_o_next, .inl (ca 0, 64, .inl o_next_r)), (h_o_undone, .inl (ca 0, 536, .inl o_undone_r))] sz)) 0 0 (va_A [(h_o, .inr (7, [.ref h_o_plans, .ref h_o_makers, .ref h_o_halves, .int o_raised, .ref h_o_all, .ref h_o_text, .ref h_o_saved, .ref h_o_undone, .int o_undos, .int o_reached, .int o_length, .int o_begin, .int o_letters, .int o_sort, .long o_word, .int o_wrongAt, .int o_badAt, .int o_bad, .ref h_o_told, .ref h_o_shift, .int o_firstX, .int o_firstY, .int o_secondX, .int o_secondY, .ref h_o_rootOf, .ref h_o_becomes, .ref h_o_comes, .ref h_o_next, .int o_x])), (h_o_all, .inl (ca 0, 350, .inl o_all_r)), (h_o_halves, .inl (ca 0, 34, .inl o_halves_r)), (h_o_rootOf, .inl (ca 0, 64, .inl o_rootOf_r)), (h_o_makers, .inl (ca 0, 34, .inl o_makers_r)), (h_o_plans, .inl (ca 0, 80, .inl o_plans_r)), (h_o_next, .inl (ca 0, 64, .inl o_next_r)), (h_o_undone, .inl (ca 0, 536, .inl o_undone_r))] sz) := by
  refine Met.ofW (cc := cX8_mend) (maxL := 5) (ret := (some .int)) (by decide) rfl ?_
  intro p e s m args below meth c s₁ B hml hv
  obtain ⟨rfl, hsz, hP, hK, hD0, hE⟩ := hv
  have hx := B.exec
  have hb := B.bytes
  have hr := B.returns
  have hts := atoms_spec (ws := Cond.code yX8_mend cX8_mend 5 (some .int) :: ds_gw) B.pre
  have hg : ∀ {w : Cond}, w ∈ ds_gw → w.before _ s = true := fun h => hts _ (List.mem_cons_of_mem _ h)
  have hown : s.vm.findClass RX8 = some m.cls := findClass_of_methodNamed B.named
  have hlocks := B.notSynchronized
  subst hsz
  have hD := hD0.self (sz := s.heap.size)
  generalize hAe : va_A [(h_o, .inr (7, [.ref h_o_plans, .ref h_o_makers, .ref h_o_halves, .int o_raised, .ref h_o_all, .ref h_o_text, .ref h_o_saved, .ref h_o_undone, .int o_undos, .int o_reached, .int o_length, .int o_begin, .int o_letters, .int o_sort, .long o_word, .int o_wrongAt, .int o_badAt, .int o_bad, .ref h_o_told, .ref h_o_shift, .int o_firstX, .int o_firstY, .int o_secondX, .int o_secondY, .ref h_o_rootOf, .ref h_o_becomes, .ref h_o_comes, .ref h_o_next, .int o_x])), (h_o_all, .inl (ca 0, 350, .inl o_all_r)), (h_o_halves, .inl (ca 0, 34, .inl o_halves_r)), (h_o_rootOf, .inl (ca 0, 64, .inl o_rootOf_r)), (h_o_makers, .inl (ca 0, 34, .inl o_makers_r)), (h_o_plans, .inl (ca 0, 80, .inl o_plans_r)), (h_o_next, .inl (ca 0, 64, .inl o_next_r)), (h_o_undone, .inl (ca 0, 536, .inl o_undone_r))] s.heap.size = A at hD hE ⊢
  have hA : ∀ q : Nat, s.heap.size ≤ q → A q := fun q h => by rw [← hAe]; exact Or.inr h
  have hS : va_S A s.heap s.heap [] := va_S.rf
  have hl := lv_entry ([.ref h_o, .int p1]) (n := 5) (Nat.le_of_ble_eq_true rfl)
  rw [lg_entry_eq]
  generalize (lg_sl ([.ref h_o, .int p1]) ++ List.replicate (5 - (lg_sl ([.ref h_o, .int p1])).length) Slot.unset).toArray = ls at hl ⊢
  have hl : lv_has ls 5 [(0, .ref h_o), (1, .int p1)] := hl
  obtain ⟨G0, eG0⟩ : ∃ G : (Int32 × Int32 × Int32 × (Nat → Int32) × (Nat → Int32) × (Nat → Int32) × (Nat → Int32)) → Prop, G = (fun r => r = res) := ⟨_, rfl⟩
  obtain ⟨rr, hrr⟩ : ∃ z, z = res := ⟨_, rfl⟩
  rw [← hrr] at hf
  have hG : G0 rr := by subst eG0; exact hrr
  refine ds_cap (fun WW h1 h2 => ?_)
  have J_94 : ∀ (v2 : Int32) (o_raised : Int32) (o_undos : Int32) (o_all_r : Nat → Int32) (o_rootOf_r : Nat → Int32) (o_next_r : Nat → Int32) (o_undone_r : Nat → Int32) (rr : Int32 × Int32 × Int32 × (Nat → Int32) × (Nat → Int32) × (Nat → Int32) × (Nat → Int32)) (hf : fX8_mend_94 o_raised o_undos o_all_r o_rootOf_r o_next_r o_undone_r v2 = some rr) (hG : G0 rr) (H : Heap) (locs : List Loc) (hP : va_P (dC, dI) vwCl [(h_o, .inr (7, [.ref h_o_plans, .ref h_o_makers, .ref h_o_halves, .int o_raised, .ref h_o_all, .ref h_o_text, .ref h_o_saved, .ref h_o_undone, .int o_undos, .int o_reached, .int o_length, .int o_begin, .int o_letters, .int o_sort, .long o_word, .int o_wrongAt, .int o_badAt, .int o_bad, .ref h_o_told, .ref h_o_shift, .int o_firstX, .int o_firstY, .int o_secondX, .int o_secondY, .ref h_o_rootOf, .ref h_o_becomes, .ref h_o_comes, .ref h_o_next, .int o_x])), (h_o_all, .inl (ca 0, 350, .inl o_all_r)), (h_o_halves, .inl (ca 0, 34, .inl o_halves_r)), (h_o_rootOf, .inl (ca 0, 64, .inl o_rootOf_r)), (h_o_makers, .inl (ca 0, 34, .inl o_makers_r)), (h_o_plans, .inl (ca 0, 80, .inl o_plans_r)), (h_o_next, .inl (ca 0, 64, .inl o_next_r)), (h_o_undone, .inl (ca 0, 536, .inl o_undone_r))] H) (hD : va_D A [(h_o, .inr (7, [.ref h_o_plans, .ref h_o_makers, .ref h_o_halves, .int o_raised, .ref h_o_all, .ref h_o_text, .ref h_o_saved, .ref h_o_undone, .int o_undos, .int o_reached, .int o_length, .int o_begin, .int o_letters, .int o_sort, .long o_word, .int o_wrongAt, .int o_badAt, .int o_bad, .ref h_o_told, .ref h_o_shift, .int o_firstX, .int o_firstY, .int o_secondX, .int o_secondY, .ref h_o_rootOf, .ref h_o_becomes, .ref h_o_comes, .ref h_o_next, .int o_x])), (h_o_all, .inl (ca 0, 350, .inl o_all_r)), (h_o_halves, .inl (ca 0, 34, .inl o_halves_r)), (h_o_rootOf, .inl (ca 0, 64, .inl o_rootOf_r)), (h_o_makers, .inl (ca 0, 34, .inl o_makers_r)), (h_o_plans, .inl (ca 0, 80, .inl o_plans_r)), (h_o_next, .inl (ca 0, 64, .inl o_next_r)), (h_o_undone, .inl (ca 0, 536, .inl o_undone_r))]) (hS : va_S A s.heap H locs) (ls : Array Slot) (hl : lv_has ls 5 [(0, .ref h_o), (2, .int v2)]), WW H locs (F0 m 94 ls []) := by
    intro v2 o_raised o_undos o_all_r o_rootOf_r o_next_r o_undone_r rr hf hG H locs hP hD hS ls hl
    refine h2 ?_
    unfold fX8_mend_94 at hf
    refine lv_aload_n hx hb dX8_mend_94 rfl (lv_at hl 0 rfl) ?_
    obtain ⟨q95, hq95, hf⟩ := ds_ob hf
    refine ds_calli (wr := [(h_o_halves, .inl (ca 0, 34, .inl o_halves_r)), (h_o_rootOf, .inl (ca 0, 64, .inl o_rootOf_r)), (h_o_makers, .inl (ca 0, 34, .inl o_makers_r)), (h_o_plans, .inl (ca 0, 80, .inl o_plans_r))]) (va_runV (As := []) (rest := []) ⟨hx, hb, hml, hown, hts⟩ (c_X8_isOther l dC dI ca sa h_o h_o_plans h_o_makers h_o_halves h_o_all h_o_text h_o_saved h_o_undone h_o_told h_o_shift h_o_rootOf h_o_becomes h_o_comes h_o_next H.size o_raised o_undos o_reached o_length o_begin o_letters o_sort o_word o_wrongAt o_badAt o_bad o_firstX o_firstY o_secondX o_secondY o_x o_next_r o_all_r o_undone_r  q95 hq95) (cwV 0 hts (ds_gV kw_854 kw_855 kw_856 kw_597 kw_857) rfl rfl rfl (by decide +kernel) ⟨Nat.le_of_ble_eq_true rfl, Nat.le_of_ble_eq_true rfl⟩) ⟨ds_blind, va_recv hK hP (ci := 7) (q0 := 0) rfl rfl, ds_at hP hD hK hE hS hA [0, 6, 1, 7] rfl rfl _⟩ rfl rfl hl.1 rfl (lv_room (Nat.le_of_ble_eq_true rfl)) dX8_mend_95 ⟨Nat.zero_le _, Nat.zero_le _⟩) hP hD hS hA [0, 6, 1, 7] [2, 3, 4, 5] rfl rfl rfl (by decide) (fun H locs hP hD hS => ?_)
    have hP : va_P (dC, dI) vwCl [(h_o_halves, .inl (ca 0, 34, .inl o_halves_r)), (h_o_rootOf, .inl (ca 0, 64, .inl o_rootOf_r)), (h_o_makers, .inl (ca 0, 34, .inl o_makers_r)), (h_o_plans, .inl (ca 0, 80, .inl o_plans_r)), (h_o, .inr (7, [.ref h_o_plans, .ref h_o_makers, .ref h_o_halves, .int o_raised, .ref h_o_all, .ref h_o_text, .ref h_o_saved, .ref h_o_undone, .int q95.2.1, .int o_reached, .int o_length, .int o_begin, .int o_letters, .int o_sort, .long o_word, .int o_wrongAt, .int o_badAt, .int o_bad, .ref h_o_told, .ref h_o_shift, .int o_firstX, .int o_firstY, .int o_secondX, .int o_secondY, .ref h_o_rootOf, .ref h_o_becomes, .ref h_o_comes, .ref h_o_next, .int o_x])), (h_o_next, .inl (ca 0, 64, .inl o_next_r)), (h_o_all, .inl (ca 0, 350, .inl q95.2.2.1)), (h_o_undone, .inl (ca 0, 536, .inl q95.2.2.2))] H := hP
    have hD : va_D A [(h_o_halves, .inl (ca 0, 34, .inl o_halves_r)), (h_o_rootOf, .inl (ca 0, 64, .inl o_rootOf_r)), (h_o_makers, .inl (ca 0, 34, .inl o_makers_r)), (h_o_plans, .inl (ca 0, 80, .inl o_plans_r)), (h_o, .inr (7, [.ref h_o_plans, .ref h_o_makers, .ref h_o_halves, .int o_raised, .ref h_o_all, .ref h_o_text, .ref h_o_saved, .ref h_o_undone, .int q95.2.1, .int o_reached, .int o_length, .int o_begin, .int o_letters, .int o_sort, .long o_word, .int o_wrongAt, .int o_badAt, .int o_bad, .ref h_o_told, .ref h_o_shift, .int o_firstX, .int o_firstY, .int o_secondX, .int o_secondY, .ref h_o_rootOf, .ref h_o_becomes, .ref h_o_comes, .ref h_o_next, .int o_x])), (h_o_next, .inl (ca 0, 64, .inl o_next_r)), (h_o_all, .inl (ca 0, 350, .inl q95.2.2.1)), (h_o_undone, .inl (ca 0, 536, .inl q95.2.2.2))] := hD
    refine lv_istore_n (lv' := [(3, .int q95.1), (0, .ref h_o), (2, .int v2)]) hx hb dX8_mend_98 rfl hl (by decide) rfl (fun ls hl => ?_)
    refine lv_iload_n hx hb dX8_mend_99 rfl (lv_at hl 2 rfl) ?_
    have hf := Option.some.inj hf
    subst hf
    rw [eG0] at hG
    have hG : _ = res := hG
    subst hG
    exact W.iret (v := v2) hx hb hr (fun t ht hW => ⟨⟨v2, (), rfl, rfl, by rw [ht]; exact (hP.sub [4, 6, 0, 1, 2, 3, 5, 7] rfl), (hD.sub [4, 6, 0, 1, 2, 3, 5, 7] rfl rfl)⟩, hS.F ht⟩) hS.2.2 dX8_mend_100
  have J_31 : ∀ (v2 : Int32) (o_raised : Int32) (o_undos : Int32) (o_all_r : Nat → Int32) (o_rootOf_r : Nat → Int32) (o_undone_r : Nat → Int32) (n : Nat) (v3 : Int32) (o_next_r : Nat → Int32) (rr : Int32 × Int32 × Int32 × (Nat → Int32) × (Nat → Int32) × (Nat → Int32) × (Nat → Int32)) (hf : ds_it (fun s => fX8_mend_31_b o_raised o_undos o_all_r o_rootOf_r o_undone_r v2 s.1 s.2) n (v3, o_next_r) = some rr) (hG : G0 rr) (H : Heap) (locs : List Loc) (hP : va_P (dC, dI) vwCl [(h_o, .inr (7, [.ref h_o_plans, .ref h_o_makers, .ref h_o_halves, .int o_raised, .ref h_o_all, .ref h_o_text, .ref h_o_saved, .ref h_o_undone, .int o_undos, .int o_reached, .int o_length, .int o_begin, .int o_letters, .int o_sort, .long o_word, .int o_wrongAt, .int o_badAt, .int o_bad, .ref h_o_told, .ref h_o_shift, .int o_firstX, .int o_firstY, .int o_secondX, .int o_secondY, .ref h_o_rootOf, .ref h_o_becomes, .ref h_o_comes, .ref h_o_next, .int o_x])), (h_o_all, .inl (ca 0, 350, .inl o_all_r)), (h_o_halves, .inl (ca 0, 34, .inl o_halves_r)), (h_o_rootOf, .inl (ca 0, 64, .inl o_rootOf_r)), (h_o_makers, .inl (ca 0, 34, .inl o_makers_r)), (h_o_plans, .inl (ca 0, 80, .inl o_plans_r)), (h_o_next, .inl (ca 0, 64, .inl o_next_r)), (h_o_undone, .inl (ca 0, 536, .inl o_undone_r))] H) (hD : va_D A [(h_o, .inr (7, [.ref h_o_plans, .ref h_o_makers, .ref h_o_halves, .int o_raised, .ref h_o_all, .ref h_o_text, .ref h_o_saved, .ref h_o_undone, .int o_undos, .int o_reached, .int o_length, .int o_begin, .int o_letters, .int o_sort, .long o_word, .int o_wrongAt, .int o_badAt, .int o_bad, .ref h_o_told, .ref h_o_shift, .int o_firstX, .int o_firstY, .int o_secondX, .int o_secondY, .ref h_o_rootOf, .ref h_o_becomes, .ref h_o_comes, .ref h_o_next, .int o_x])), (h_o_all, .inl (ca 0, 350, .inl o_all_r)), (h_o_halves, .inl (ca 0, 34, .inl o_halves_r)), (h_o_rootOf, .inl (ca 0, 64, .inl o_rootOf_r)), (h_o_makers, .inl (ca 0, 34, .inl o_makers_r)), (h_o_plans, .inl (ca 0, 80, .inl o_plans_r)), (h_o_next, .inl (ca 0, 64, .inl o_next_r)), (h_o_undone, .inl (ca 0, 536, .inl o_undone_r))]) (hS : va_S A s.heap H locs) (ls : Array Slot) (hl : lv_has ls 5 [(0, .ref h_o), (2, .int v2), (3, .int v3)]), WW H locs (F0 m 31 ls []) := by
    intro v2 o_raised o_undos o_all_r o_rootOf_r o_undone_r n
    induction n with
    | zero => intro v3 o_next_r rr hf; exact (ds_it_zero hf).elim
    | succ n ih31 =>
      intro v3 o_next_r rr hf hG H locs hP hD hS ls hl
      refine h2 ?_
      obtain ⟨rr, hf, hG⟩ := ds_it_succ hf hG
      replace hf : fX8_mend_31_b o_raised o_undos o_all_r o_rootOf_r o_undone_r v2 v3 o_next_r = some rr := hf
      obtain ⟨G1, eG1⟩ : ∃ G : ((Int32 × (Nat → Int32)) ⊕ (Int32 × Int32 × Int32 × (Nat → Int32) × (Nat → Int32) × (Nat → Int32) × (Nat → Int32))) → Prop, G = ds_G (fun s' => ∃ r', ds_it (fun s => fX8_mend_31_b o_raised o_undos o_all_r o_rootOf_r o_undone_r v2 s.1 s.2) n s' = some r' ∧ G0 r') G0 := ⟨_, rfl⟩
      rw [← eG1] at hG
      have J_88 : ∀ (v3 : Int32) (o_next_r : Nat → Int32) (rr : (Int32 × (Nat → Int32)) ⊕ (Int32 × Int32 × Int32 × (Nat → Int32) × (Nat → Int32) × (Nat → Int32) × (Nat → Int32))) (hf : fX8_mend_88 o_next_r v3 = some rr) (hG : G1 rr) (H : Heap) (locs : List Loc) (hP : va_P (dC, dI) vwCl [(h_o, .inr (7, [.ref h_o_plans, .ref h_o_makers, .ref h_o_halves, .int o_raised, .ref h_o_all, .ref h_o_text, .ref h_o_saved, .ref h_o_undone, .int o_undos, .int o_reached, .int o_length, .int o_begin, .int o_letters, .int o_sort, .long o_word, .int o_wrongAt, .int o_badAt, .int o_bad, .ref h_o_told, .ref h_o_shift, .int o_firstX, .int o_firstY, .int o_secondX, .int o_secondY, .ref h_o_rootOf, .ref h_o_becomes, .ref h_o_comes, .ref h_o_next, .int o_x])), (h_o_all, .inl (ca 0, 350, .inl o_all_r)), (h_o_halves, .inl (ca 0, 34, .inl o_halves_r)), (h_o_rootOf, .inl (ca 0, 64, .inl o_rootOf_r)), (h_o_makers, .inl (ca 0, 34, .inl o_makers_r)), (h_o_plans, .inl (ca 0, 80, .inl o_plans_r)), (h_o_next, .inl (ca 0, 64, .inl o_next_r)), (h_o_undone, .inl (ca 0, 536, .inl o_undone_r))] H) (hD : va_D A [(h_o, .inr (7, [.ref h_o_plans, .ref h_o_makers, .ref h_o_halves, .int o_raised, .ref h_o_all, .ref h_o_text, .ref h_o_saved, .ref h_o_undone, .int o_undos, .int o_reached, .int o_length, .int o_begin, .int o_letters, .int o_sort, .long o_word, .int o_wrongAt, .int o_badAt, .int o_bad, .ref h_o_told, .ref h_o_shift, .int o_firstX, .int o_firstY, .int o_secondX, .int o_secondY, .ref h_o_rootOf, .ref h_o_becomes, .ref h_o_comes, .ref h_o_next, .int o_x])), (h_o_all, .inl (ca 0, 350, .inl o_all_r)), (h_o_halves, .inl (ca 0, 34, .inl o_halves_r)), (h_o_rootOf, .inl (ca 0, 64, .inl o_rootOf_r)), (h_o_makers, .inl (ca 0, 34, .inl o_makers_r)), (h_o_plans, .inl (ca 0, 80, .inl o_plans_r)), (h_o_next, .inl (ca 0, 64, .inl o_next_r)), (h_o_undone, .inl (ca 0, 536, .inl o_undone_r))]) (hS : va_S A s.heap H locs) (ls : Array Slot) (hl : lv_has ls 5 [(0, .ref h_o), (2, .int v2), (3, .int v3)]), WW H locs (F0 m 88 ls []) := by
        intro v3 o_next_r rr hf hG H locs hP hD hS ls hl
        refine h2 ?_
        unfold fX8_mend_88 at hf
        refine lv_iinc (v := (v3 + 1)) (lv' := [(3, .int (v3 + 1)), (0, .ref h_o), (2, .int v2)]) hx hb dX8_mend_88 hl (k := 2) rfl rfl (by decide) rfl (fun ls hl => ?_)
        refine lv_goto (tgt := 31) hx hb dX8_mend_91 (by decide) ?_
        have hf := Option.some.inj hf
        subst hf
        rw [eG1] at hG
        obtain ⟨rr, hf, hG⟩ := hG
        exact h1 (ih31 (v3 + 1) o_next_r rr hf hG _ _ hP hD hS _ (lv_sub hl [1, 2, 0] rfl))
      have J_44 : ∀ (v3 : Int32) (n : Nat) (v4 : Int32) (o_next_r : Nat → Int32) (rr : (Int32 × (Nat → Int32)) ⊕ (Int32 × Int32 × Int32 × (Nat → Int32) × (Nat → Int32) × (Nat → Int32) × (Nat → Int32))) (hf : ds_it (fun s => fX8_mend_44_b o_all_r o_rootOf_r v3 s.1 s.2) n (v4, o_next_r) = some rr) (hG : G1 rr) (H : Heap) (locs : List Loc) (hP : va_P (dC, dI) vwCl [(h_o, .inr (7, [.ref h_o_plans, .ref h_o_makers, .ref h_o_halves, .int o_raised, .ref h_o_all, .ref h_o_text, .ref h_o_saved, .ref h_o_undone, .int o_undos, .int o_reached, .int o_length, .int o_begin, .int o_letters, .int o_sort, .long o_word, .int o_wrongAt, .int o_badAt, .int o_bad, .ref h_o_told, .ref h_o_shift, .int o_firstX, .int o_firstY, .int o_secondX, .int o_secondY, .ref h_o_rootOf, .ref h_o_becomes, .ref h_o_comes, .ref h_o_next, .int o_x])), (h_o_all, .inl (ca 0, 350, .inl o_all_r)), (h_o_halves, .inl (ca 0, 34, .inl o_halves_r)), (h_o_rootOf, .inl (ca 0, 64, .inl o_rootOf_r)), (h_o_makers, .inl (ca 0, 34, .inl o_makers_r)), (h_o_plans, .inl (ca 0, 80, .inl o_plans_r)), (h_o_next, .inl (ca 0, 64, .inl o_next_r)), (h_o_undone, .inl (ca 0, 536, .inl o_undone_r))] H) (hD : va_D A [(h_o, .inr (7, [.ref h_o_plans, .ref h_o_makers, .ref h_o_halves, .int o_raised, .ref h_o_all, .ref h_o_text, .ref h_o_saved, .ref h_o_undone, .int o_undos, .int o_reached, .int o_length, .int o_begin, .int o_letters, .int o_sort, .long o_word, .int o_wrongAt, .int o_badAt, .int o_bad, .ref h_o_told, .ref h_o_shift, .int o_firstX, .int o_firstY, .int o_secondX, .int o_secondY, .ref h_o_rootOf, .ref h_o_becomes, .ref h_o_comes, .ref h_o_next, .int o_x])), (h_o_all, .inl (ca 0, 350, .inl o_all_r)), (h_o_halves, .inl (ca 0, 34, .inl o_halves_r)), (h_o_rootOf, .inl (ca 0, 64, .inl o_rootOf_r)), (h_o_makers, .inl (ca 0, 34, .inl o_makers_r)), (h_o_plans, .inl (ca 0, 80, .inl o_plans_r)), (h_o_next, .inl (ca 0, 64, .inl o_next_r)), (h_o_undone, .inl (ca 0, 536, .inl o_undone_r))]) (hS : va_S A s.heap H locs) (ls : Array Slot) (hl : lv_has ls 5 [(0, .ref h_o), (2, .int v2), (3, .int v3), (4, .int v4)]), WW H locs (F0 m 44 ls []) := by
        intro v3 n
        induction n with
        | zero => intro v4 o_next_r rr hf; exact (ds_it_zero hf).elim
        | succ n ih44 =>
          intro v4 o_next_r rr hf hG H locs hP hD hS ls hl
          refine h2 ?_
          obtain ⟨rr, hf, hG⟩ := ds_it_succ hf hG
          replace hf : fX8_mend_44_b o_all_r o_rootOf_r v3 v4 o_next_r = some rr := hf
          obtain ⟨G2, eG2⟩ : ∃ G : ((Int32 × (Nat → Int32)) ⊕ ((Int32 × (Nat → Int32)) ⊕ (Int32 × Int32 × Int32 × (Nat → Int32) × (Nat → Int32) × (Nat → Int32) × (Nat → Int32)))) → Prop, G = ds_G (fun s' => ∃ r', ds_it (fun s => fX8_mend_44_b o_all_r o_rootOf_r v3 s.1 s.2) n s' = some r' ∧ G1 r') G1 := ⟨_, rfl⟩
          rw [← eG2] at hG
          unfold fX8_mend_44_b at hf
          refine lv_iload hx hb dX8_mend_44 (lv_at hl 3 rfl) ?_
          refine lv_aload_n hx hb dX8_mend_46 rfl (lv_at hl 0 rfl) ?_
          refine va_get (D := (dC, dI)) (ci := 7) (v := .ref h_o_all) (C := RX8) (T := TX8) (N := 29) hx hb hts (fun w h => List.mem_cons_of_mem _ (kc_X8 w h)) hown hK hP 0 rfl rfl 4 (by decide) (hg kw_594) (fun _ h9 => h9) rfl dX8_mend_47 ?_
          refine lv_iconst (v := 0) hx hb dX8_mend_50 (by decide) ?_
          refine va_iald hx hb hK hP 1 0 rfl rfl (ds_in_ok (i := 0) (n := 350) (by decide)) dX8_mend_51 ?_
          refine lv_icmp_ge (tgt := 88) hx hb dX8_mend_52 (by decide) (fun c_52 => ?_) (fun c_52 => ?_)
          · replace hf := ds_t c_52 hf
            obtain ⟨rr, hr_0, hf⟩ := ds_ob hf
            have hf := Option.some.inj hf
            subst hf
            rw [eG2] at hG
            replace hG : G1 rr := hG
            have hf := hr_0
            exact h1 (J_88 v3 o_next_r _ hf hG _ _ hP hD hS _ (lv_sub hl [0, 1, 2] rfl))
          · replace hf := ds_f c_52 hf
            refine lv_aload_n hx hb dX8_mend_55 rfl (lv_at hl 0 rfl) ?_
            refine va_get (D := (dC, dI)) (ci := 7) (v := .ref h_o_next) (C := RX8) (T := TX8) (N := 29) hx hb hts (fun w h => List.mem_cons_of_mem _ (kc_X8 w h)) hown hK hP 0 rfl rfl 27 (by decide) (hg kw_853) (fun _ h9 => h9) rfl dX8_mend_56 ?_
            refine lv_bipush (v := 8) hx hb dX8_mend_59 (by decide) ?_
            refine lv_iload_n hx hb dX8_mend_61 rfl (lv_at hl 2 rfl) ?_
            refine lv_imul hx hb dX8_mend_62 ?_
            refine lv_iload hx hb dX8_mend_63 (lv_at hl 3 rfl) ?_
            refine lv_iadd hx hb dX8_mend_65 ?_
            refine lv_aload_n hx hb dX8_mend_66 rfl (lv_at hl 0 rfl) ?_
            refine lv_aload_n hx hb dX8_mend_67 rfl (lv_at hl 0 rfl) ?_
            refine lv_bipush (v := 8) hx hb dX8_mend_68 (by decide) ?_
            refine lv_iload_n hx hb dX8_mend_70 rfl (lv_at hl 2 rfl) ?_
            refine lv_imul hx hb dX8_mend_71 ?_
            refine lv_iload hx hb dX8_mend_72 (lv_at hl 3 rfl) ?_
            refine lv_iadd hx hb dX8_mend_74 ?_
            obtain ⟨q75, hq75, hf⟩ := ds_ob hf
            refine ds_calli (wr := [(h_o_all, .inl (ca 0, 350, .inl o_all_r)), (h_o_halves, .inl (ca 0, 34, .inl o_halves_r)), (h_o_makers, .inl (ca 0, 34, .inl o_makers_r)), (h_o_plans, .inl (ca 0, 80, .inl o_plans_r)), (h_o_next, .inl (ca 0, 64, .inl o_next_r)), (h_o_undone, .inl (ca 0, 536, .inl o_undone_r))]) (va_runV (As := [.int (((8 : Int32) * v3) + v4)]) (rest := [.ref h_o, .int (((8 : Int32) * v3) + v4), .ref h_o_next]) ⟨hx, hb, hml, hown, hts⟩ (c_X8_root l dC dI ca sa h_o h_o_plans h_o_makers h_o_halves h_o_all h_o_text h_o_saved h_o_undone h_o_told h_o_shift h_o_rootOf h_o_becomes h_o_comes h_o_next H.size o_raised o_undos o_reached o_length o_begin o_letters o_sort o_word o_wrongAt o_badAt o_bad o_firstX o_firstY o_secondX o_secondY o_x o_rootOf_r (((8 : Int32) * v3) + v4) q75 hq75) (cwV 1 hts (ds_gV kw_740 kw_741 kw_742 kw_597 kw_743) rfl rfl rfl (by decide +kernel) ⟨Nat.le_of_ble_eq_true rfl, Nat.le_of_ble_eq_true rfl⟩) ⟨ds_blind, va_recv hK hP (ci := 7) (q0 := 0) rfl rfl, ds_at hP hD hK hE hS hA [0, 3] rfl rfl _⟩ rfl rfl hl.1 rfl (lv_room (Nat.le_of_ble_eq_true rfl)) dX8_mend_75 ⟨Nat.zero_le _, Nat.zero_le _⟩) hP hD hS hA [0, 3] [1, 2, 4, 5, 6, 7] rfl rfl rfl (by decide) (fun H locs hP hD hS => ?_)
            have hP : va_P (dC, dI) vwCl [(h_o_all, .inl (ca 0, 350, .inl o_all_r)), (h_o_halves, .inl (ca 0, 34, .inl o_halves_r)), (h_o_makers, .inl (ca 0, 34, .inl o_makers_r)), (h_o_plans, .inl (ca 0, 80, .inl o_plans_r)), (h_o_next, .inl (ca 0, 64, .inl o_next_r)), (h_o_undone, .inl (ca 0, 536, .inl o_undone_r)), (h_o, .inr (7, [.ref h_o_plans, .ref h_o_makers, .ref h_o_halves, .int o_raised, .ref h_o_all, .ref h_o_text, .ref h_o_saved, .ref h_o_undone, .int o_undos, .int o_reached, .int o_length, .int o_begin, .int o_letters, .int o_sort, .long o_word, .int o_wrongAt, .int o_badAt, .int o_bad, .ref h_o_told, .ref h_o_shift, .int o_firstX, .int o_firstY, .int o_secondX, .int o_secondY, .ref h_o_rootOf, .ref h_o_becomes, .ref h_o_comes, .ref h_o_next, .int o_x])), (h_o_rootOf, .inl (ca 0, 64, .inl o_rootOf_r))] H := hP
            have hD : va_D A [(h_o_all, .inl (ca 0, 350, .inl o_all_r)), (h_o_halves, .inl (ca 0, 34, .inl o_halves_r)), (h_o_makers, .inl (ca 0, 34, .inl o_makers_r)), (h_o_plans, .inl (ca 0, 80, .inl o_plans_r)), (h_o_next, .inl (ca 0, 64, .inl o_next_r)), (h_o_undone, .inl (ca 0, 536, .inl o_undone_r)), (h_o, .inr (7, [.ref h_o_plans, .ref h_o_makers, .ref h_o_halves, .int o_raised, .ref h_o_all, .ref h_o_text, .ref h_o_saved, .ref h_o_undone, .int o_undos, .int o_reached, .int o_length, .int o_begin, .int o_letters, .int o_sort, .long o_word, .int o_wrongAt, .int o_badAt, .int o_bad, .ref h_o_told, .ref h_o_shift, .int o_firstX, .int o_firstY, .int o_secondX, .int o_secondY, .ref h_o_rootOf, .ref h_o_becomes, .ref h_o_comes, .ref h_o_next, .int o_x])), (h_o_rootOf, .inl (ca 0, 64, .inl o_rootOf_r))] := hD
            obtain ⟨q78, hq78, hf⟩ := ds_ob hf
            refine ds_calli (wr := [(h_o_halves, .inl (ca 0, 34, .inl o_halves_r)), (h_o_makers, .inl (ca 0, 34, .inl o_makers_r)), (h_o_plans, .inl (ca 0, 80, .inl o_plans_r)), (h_o_next, .inl (ca 0, 64, .inl o_next_r)), (h_o_undone, .inl (ca 0, 536, .inl o_undone_r))]) (va_runV (As := [.int q75]) (rest := [.int (((8 : Int32) * v3) + v4), .ref h_o_next]) ⟨hx, hb, hml, hown, hts⟩ (c_X8_mostOf l dC dI ca sa h_o h_o_plans h_o_makers h_o_halves h_o_all h_o_text h_o_saved h_o_undone h_o_told h_o_shift h_o_rootOf h_o_becomes h_o_comes h_o_next H.size o_raised o_undos o_reached o_length o_begin o_letters o_sort o_word o_wrongAt o_badAt o_bad o_firstX o_firstY o_secondX o_secondY o_x o_all_r o_rootOf_r q75 q78 hq78) (cwV 1 hts (ds_gV kw_828 kw_829 kw_830 kw_597 kw_831) rfl rfl rfl (by decide +kernel) ⟨Nat.le_of_ble_eq_true rfl, Nat.le_of_ble_eq_true rfl⟩) ⟨ds_blind, va_recv hK hP (ci := 7) (q0 := 6) rfl rfl, ds_at hP hD hK hE hS hA [6, 0, 7] rfl rfl _⟩ rfl rfl hl.1 rfl (lv_room (Nat.le_of_ble_eq_true rfl)) dX8_mend_78 ⟨Nat.zero_le _, Nat.zero_le _⟩) hP hD hS hA [6, 0, 7] [1, 2, 3, 4, 5] rfl rfl rfl (by decide) (fun H locs hP hD hS => ?_)
            have hP : va_P (dC, dI) vwCl [(h_o_halves, .inl (ca 0, 34, .inl o_halves_r)), (h_o_makers, .inl (ca 0, 34, .inl o_makers_r)), (h_o_plans, .inl (ca 0, 80, .inl o_plans_r)), (h_o_next, .inl (ca 0, 64, .inl o_next_r)), (h_o_undone, .inl (ca 0, 536, .inl o_undone_r)), (h_o, .inr (7, [.ref h_o_plans, .ref h_o_makers, .ref h_o_halves, .int o_raised, .ref h_o_all, .ref h_o_text, .ref h_o_saved, .ref h_o_undone, .int o_undos, .int o_reached, .int o_length, .int o_begin, .int o_letters, .int o_sort, .long o_word, .int o_wrongAt, .int o_badAt, .int o_bad, .ref h_o_told, .ref h_o_shift, .int o_firstX, .int o_firstY, .int o_secondX, .int o_secondY, .ref h_o_rootOf, .ref h_o_becomes, .ref h_o_comes, .ref h_o_next, .int o_x])), (h_o_all, .inl (ca 0, 350, .inl o_all_r)), (h_o_rootOf, .inl (ca 0, 64, .inl o_rootOf_r))] H := hP
            have hD : va_D A [(h_o_halves, .inl (ca 0, 34, .inl o_halves_r)), (h_o_makers, .inl (ca 0, 34, .inl o_makers_r)), (h_o_plans, .inl (ca 0, 80, .inl o_plans_r)), (h_o_next, .inl (ca 0, 64, .inl o_next_r)), (h_o_undone, .inl (ca 0, 536, .inl o_undone_r)), (h_o, .inr (7, [.ref h_o_plans, .ref h_o_makers, .ref h_o_halves, .int o_raised, .ref h_o_all, .ref h_o_text, .ref h_o_saved, .ref h_o_undone, .int o_undos, .int o_reached, .int o_length, .int o_begin, .int o_letters, .int o_sort, .long o_word, .int o_wrongAt, .int o_badAt, .int o_bad, .ref h_o_told, .ref h_o_shift, .int o_firstX, .int o_firstY, .int o_secondX, .int o_secondY, .ref h_o_rootOf, .ref h_o_becomes, .ref h_o_comes, .ref h_o_next, .int o_x])), (h_o_all, .inl (ca 0, 350, .inl o_all_r)), (h_o_rootOf, .inl (ca 0, 64, .inl o_rootOf_r))] := hD
            obtain ⟨i_81, hf⟩ := ds_ci hf
            refine va_iast hx hb hK hP hD hS 3 0 rfl rfl i_81 dX8_mend_81 (fun H locs hP hD hS => ?_)
            have hP : va_P (dC, dI) vwCl [(h_o_halves, .inl (ca 0, 34, .inl o_halves_r)), (h_o_makers, .inl (ca 0, 34, .inl o_makers_r)), (h_o_plans, .inl (ca 0, 80, .inl o_plans_r)), (h_o_next, .inl (ca 0, 64, .inl (upd o_next_r ((((8 : Int32) * v3) + v4).toNatClampNeg) q78))), (h_o_undone, .inl (ca 0, 536, .inl o_undone_r)), (h_o, .inr (7, [.ref h_o_plans, .ref h_o_makers, .ref h_o_halves, .int o_raised, .ref h_o_all, .ref h_o_text, .ref h_o_saved, .ref h_o_undone, .int o_undos, .int o_reached, .int o_length, .int o_begin, .int o_letters, .int o_sort, .long o_word, .int o_wrongAt, .int o_badAt, .int o_bad, .ref h_o_told, .ref h_o_shift, .int o_firstX, .int o_firstY, .int o_secondX, .int o_secondY, .ref h_o_rootOf, .ref h_o_becomes, .ref h_o_comes, .ref h_o_next, .int o_x])), (h_o_all, .inl (ca 0, 350, .inl o_all_r)), (h_o_rootOf, .inl (ca 0, 64, .inl o_rootOf_r))] H := hP
            have hD : va_D A [(h_o_halves, .inl (ca 0, 34, .inl o_halves_r)), (h_o_makers, .inl (ca 0, 34, .inl o_makers_r)), (h_o_plans, .inl (ca 0, 80, .inl o_plans_r)), (h_o_next, .inl (ca 0, 64, .inl (upd o_next_r ((((8 : Int32) * v3) + v4).toNatClampNeg) q78))), (h_o_undone, .inl (ca 0, 536, .inl o_undone_r)), (h_o, .inr (7, [.ref h_o_plans, .ref h_o_makers, .ref h_o_halves, .int o_raised, .ref h_o_all, .ref h_o_text, .ref h_o_saved, .ref h_o_undone, .int o_undos, .int o_reached, .int o_length, .int o_begin, .int o_letters, .int o_sort, .long o_word, .int o_wrongAt, .int o_badAt, .int o_bad, .ref h_o_told, .ref h_o_shift, .int o_firstX, .int o_firstY, .int o_secondX, .int o_secondY, .ref h_o_rootOf, .ref h_o_becomes, .ref h_o_comes, .ref h_o_next, .int o_x])), (h_o_all, .inl (ca 0, 350, .inl o_all_r)), (h_o_rootOf, .inl (ca 0, 64, .inl o_rootOf_r))] := hD
            refine lv_iinc (v := (v4 + 1)) (lv' := [(4, .int (v4 + 1)), (0, .ref h_o), (2, .int v2), (3, .int v3)]) hx hb dX8_mend_82 hl (k := 3) rfl rfl (by decide) rfl (fun ls hl => ?_)
            refine lv_goto (tgt := 44) hx hb dX8_mend_85 (by decide) ?_
            have hf := Option.some.inj hf
            subst hf
            rw [eG2] at hG
            obtain ⟨rr, hf, hG⟩ := hG
            exact h1 (ih44 (v4 + 1) (upd o_next_r ((((8 : Int32) * v3) + v4).toNatClampNeg) q78) rr hf hG _ _ (hP.sub [5, 6, 0, 7, 1, 2, 3, 4] rfl) (hD.sub [5, 6, 0, 7, 1, 2, 3, 4] rfl rfl) hS _ (lv_sub hl [1, 2, 3, 0] rfl))
      unfold fX8_mend_31_b at hf
      refine lv_iload_n hx hb dX8_mend_31 rfl (lv_at hl 2 rfl) ?_
      refine lv_aload_n hx hb dX8_mend_32 rfl (lv_at hl 0 rfl) ?_
      refine va_get (D := (dC, dI)) (ci := 7) (v := .ref h_o_all) (C := RX8) (T := TX8) (N := 29) hx hb hts (fun w h => List.mem_cons_of_mem _ (kc_X8 w h)) hown hK hP 0 rfl rfl 4 (by decide) (hg kw_594) (fun _ h9 => h9) rfl dX8_mend_33 ?_
      refine lv_iconst (v := 1) hx hb dX8_mend_36 (by decide) ?_
      refine va_iald hx hb hK hP 1 0 rfl rfl (ds_in_ok (i := 1) (n := 350) (by decide)) dX8_mend_37 ?_
      refine lv_icmp_ge (tgt := 94) hx hb dX8_mend_38 (by decide) (fun c_38 => ?_) (fun c_38 => ?_)
      · replace hf := ds_t c_38 hf
        obtain ⟨rr, hr_0, hf⟩ := ds_ob hf
        have hf := Option.some.inj hf
        subst hf
        rw [eG1] at hG
        replace hG : G0 rr := hG
        have hf := hr_0
        exact h1 (J_94 v2 o_raised o_undos o_all_r o_rootOf_r o_next_r o_undone_r _ hf hG _ _ hP hD hS _ (lv_sub hl [0, 1] rfl))
      · replace hf := ds_f c_38 hf
        refine lv_iconst (v := 0) hx hb dX8_mend_41 (by decide) ?_
        refine lv_istore (lv' := [(4, .int (0 : Int32)), (0, .ref h_o), (2, .int v2), (3, .int v3)]) hx hb dX8_mend_42 hl (by decide) rfl (fun ls hl => ?_)
        exact h1 (J_44 v3 1000 (0 : Int32) o_next_r _ hf hG _ _ hP hD hS _ (lv_sub hl [1, 2, 3, 0] rfl))
  unfold fX8_mend at hf
  refine lv_aload_n hx hb dX8_mend_0 rfl (lv_at hl 0 rfl) ?_
  refine lv_iconst (v := 0) hx hb dX8_mend_1 (by decide) ?_
  refine va_put (D := (dC, dI)) (ci := 7) (v := .int (0 : Int32)) (ty := tyX8 3) (C := RX8) (T := TX8) (N := 29) hx hb hts (fun w h => List.mem_cons_of_mem _ (kc_X8 w h)) tyX8 tyX8_ok nmX8 hown hK hP hD hS 0 rfl rfl 3 (by decide) (hg kw_564) (fun _ h9 => h9) rfl (by decide +kernel) rfl rfl (Nat.le_of_ble_eq_true rfl) dX8_mend_2 (fun H locs hP hD hS => ?_)
  have hP : va_P (dC, dI) vwCl [(h_o, .inr (7, [.ref h_o_plans, .ref h_o_makers, .ref h_o_halves, .int (0 : Int32), .ref h_o_all, .ref h_o_text, .ref h_o_saved, .ref h_o_undone, .int o_undos, .int o_reached, .int o_length, .int o_begin, .int o_letters, .int o_sort, .long o_word, .int o_wrongAt, .int o_badAt, .int o_bad, .ref h_o_told, .ref h_o_shift, .int o_firstX, .int o_firstY, .int o_secondX, .int o_secondY, .ref h_o_rootOf, .ref h_o_becomes, .ref h_o_comes, .ref h_o_next, .int o_x])), (h_o_all, .inl (ca 0, 350, .inl o_all_r)), (h_o_halves, .inl (ca 0, 34, .inl o_halves_r)), (h_o_rootOf, .inl (ca 0, 64, .inl o_rootOf_r)), (h_o_makers, .inl (ca 0, 34, .inl o_makers_r)), (h_o_plans, .inl (ca 0, 80, .inl o_plans_r)), (h_o_next, .inl (ca 0, 64, .inl o_next_r)), (h_o_undone, .inl (ca 0, 536, .inl o_undone_r))] H := hP
  have hD : va_D A [(h_o, .inr (7, [.ref h_o_plans, .ref h_o_makers, .ref h_o_halves, .int (0 : Int32), .ref h_o_all, .ref h_o_text, .ref h_o_saved, .ref h_o_undone, .int o_undos, .int o_reached, .int o_length, .int o_begin, .int o_letters, .int o_sort, .long o_word, .int o_wrongAt, .int o_badAt, .int o_bad, .ref h_o_told, .ref h_o_shift, .int o_firstX, .int o_firstY, .int o_secondX, .int o_secondY, .ref h_o_rootOf, .ref h_o_becomes, .ref h_o_comes, .ref h_o_next, .int o_x])), (h_o_all, .inl (ca 0, 350, .inl o_all_r)), (h_o_halves, .inl (ca 0, 34, .inl o_halves_r)), (h_o_rootOf, .inl (ca 0, 64, .inl o_rootOf_r)), (h_o_makers, .inl (ca 0, 34, .inl o_makers_r)), (h_o_plans, .inl (ca 0, 80, .inl o_plans_r)), (h_o_next, .inl (ca 0, 64, .inl o_next_r)), (h_o_undone, .inl (ca 0, 536, .inl o_undone_r))] := hD
  refine lv_aload_n hx hb dX8_mend_5 rfl (lv_at hl 0 rfl) ?_
  refine lv_iload_n hx hb dX8_mend_6 rfl (lv_at hl 1 rfl) ?_
  obtain ⟨q7, hq7, hf⟩ := ds_ob hf
  refine ds_calli (wr := [(h_o_rootOf, .inl (ca 0, 64, .inl o_rootOf_r)), (h_o_makers, .inl (ca 0, 34, .inl o_makers_r)), (h_o_plans, .inl (ca 0, 80, .inl o_plans_r)), (h_o_next, .inl (ca 0, 64, .inl o_next_r)), (h_o_undone, .inl (ca 0, 536, .inl o_undone_r))]) (va_runV (As := [.int p1]) (rest := []) ⟨hx, hb, hml, hown, hts⟩ (c_X8_mayAsk l dC dI ca sa h_o h_o_plans h_o_makers h_o_halves h_o_all h_o_text h_o_saved h_o_undone h_o_told h_o_shift h_o_rootOf h_o_becomes h_o_comes h_o_next H.size (0 : Int32) o_undos o_reached o_length o_begin o_letters o_sort o_word o_wrongAt o_badAt o_bad o_firstX o_firstY o_secondX o_secondY o_x o_all_r o_halves_r p1 q7 hq7) (cwV 1 hts (ds_gV kw_832 kw_833 kw_834 kw_597 kw_835) rfl rfl rfl (by decide +kernel) ⟨Nat.le_of_ble_eq_true rfl, Nat.le_of_ble_eq_true rfl⟩) ⟨ds_blind, va_recv hK hP (ci := 7) (q0 := 0) rfl rfl, ds_at hP hD hK hE hS hA [0, 1, 2] rfl rfl _⟩ rfl rfl hl.1 rfl (lv_room (Nat.le_of_ble_eq_true rfl)) dX8_mend_7 ⟨Nat.zero_le _, Nat.zero_le _⟩) hP hD hS hA [0, 1, 2] [3, 4, 5, 6, 7] rfl rfl rfl (by decide) (fun H locs hP hD hS => ?_)
  have hP : va_P (dC, dI) vwCl [(h_o_rootOf, .inl (ca 0, 64, .inl o_rootOf_r)), (h_o_makers, .inl (ca 0, 34, .inl o_makers_r)), (h_o_plans, .inl (ca 0, 80, .inl o_plans_r)), (h_o_next, .inl (ca 0, 64, .inl o_next_r)), (h_o_undone, .inl (ca 0, 536, .inl o_undone_r)), (h_o, .inr (7, [.ref h_o_plans, .ref h_o_makers, .ref h_o_halves, .int (0 : Int32), .ref h_o_all, .ref h_o_text, .ref h_o_saved, .ref h_o_undone, .int o_undos, .int o_reached, .int o_length, .int o_begin, .int o_letters, .int o_sort, .long o_word, .int o_wrongAt, .int o_badAt, .int o_bad, .ref h_o_told, .ref h_o_shift, .int o_firstX, .int o_firstY, .int o_secondX, .int o_secondY, .ref h_o_rootOf, .ref h_o_becomes, .ref h_o_comes, .ref h_o_next, .int o_x])), (h_o_all, .inl (ca 0, 350, .inl o_all_r)), (h_o_halves, .inl (ca 0, 34, .inl o_halves_r))] H := hP
  have hD : va_D A [(h_o_rootOf, .inl (ca 0, 64, .inl o_rootOf_r)), (h_o_makers, .inl (ca 0, 34, .inl o_makers_r)), (h_o_plans, .inl (ca 0, 80, .inl o_plans_r)), (h_o_next, .inl (ca 0, 64, .inl o_next_r)), (h_o_undone, .inl (ca 0, 536, .inl o_undone_r)), (h_o, .inr (7, [.ref h_o_plans, .ref h_o_makers, .ref h_o_halves, .int (0 : Int32), .ref h_o_all, .ref h_o_text, .ref h_o_saved, .ref h_o_undone, .int o_undos, .int o_reached, .int o_length, .int o_begin, .int o_letters, .int o_sort, .long o_word, .int o_wrongAt, .int o_badAt, .int o_bad, .ref h_o_told, .ref h_o_shift, .int o_firstX, .int o_firstY, .int o_secondX, .int o_secondY, .ref h_o_rootOf, .ref h_o_becomes, .ref h_o_comes, .ref h_o_next, .int o_x])), (h_o_all, .inl (ca 0, 350, .inl o_all_r)), (h_o_halves, .inl (ca 0, 34, .inl o_halves_r))] := hD
  refine lv_if_ne (tgt := 15) hx hb dX8_mend_10 (by decide) (fun c_10 => ?_) (fun c_10 => ?_)
  · replace hf := ds_f c_10 hf
    refine lv_aload_n hx hb dX8_mend_15 rfl (lv_at hl 0 rfl) ?_
    refine lv_iload_n hx hb dX8_mend_16 rfl (lv_at hl 1 rfl) ?_
    obtain ⟨q17, hq17, hf⟩ := ds_ob hf
    refine ds_callv (wr := [(h_o_next, .inl (ca 0, 64, .inl o_next_r)), (h_o_undone, .inl (ca 0, 536, .inl o_undone_r))]) (va_runV (As := [.int p1]) (rest := []) ⟨hx, hb, hml, hown, hts⟩ (c_X8_laysOrbits l dC dI ca sa h_o h_o_plans h_o_makers h_o_halves h_o_all h_o_text h_o_saved h_o_undone h_o_told h_o_shift h_o_rootOf h_o_becomes h_o_comes h_o_next H.size (0 : Int32) o_undos o_reached o_length o_begin o_letters o_sort o_word o_wrongAt o_badAt o_bad o_firstX o_firstY o_secondX o_secondY o_x o_rootOf_r o_all_r o_makers_r o_halves_r o_plans_r p1 q17 hq17) (cwV 1 hts (ds_gV kw_836 kw_837 kw_838 kw_597 kw_839) rfl rfl rfl (by decide +kernel) ⟨Nat.le_of_ble_eq_true rfl, Nat.le_of_ble_eq_true rfl⟩) ⟨ds_blind, va_recv hK hP (ci := 7) (q0 := 5) rfl rfl, ds_at hP hD hK hE hS hA [5, 0, 6, 1, 7, 2] rfl rfl _⟩ rfl rfl hl.1 rfl (lv_room (Nat.le_of_ble_eq_true rfl)) dX8_mend_17 ⟨Nat.zero_le _, Nat.zero_le _⟩) hP hD hS hA [5, 0, 6, 1, 7, 2] [3, 4] rfl rfl rfl (by decide) (fun H locs hP hD hS => ?_)
    have hP : va_P (dC, dI) vwCl [(h_o_next, .inl (ca 0, 64, .inl o_next_r)), (h_o_undone, .inl (ca 0, 536, .inl o_undone_r)), (h_o, .inr (7, [.ref h_o_plans, .ref h_o_makers, .ref h_o_halves, .int (0 : Int32), .ref h_o_all, .ref h_o_text, .ref h_o_saved, .ref h_o_undone, .int o_undos, .int o_reached, .int o_length, .int o_begin, .int o_letters, .int o_sort, .long o_word, .int o_wrongAt, .int o_badAt, .int o_bad, .ref h_o_told, .ref h_o_shift, .int o_firstX, .int o_firstY, .int o_secondX, .int o_secondY, .ref h_o_rootOf, .ref h_o_becomes, .ref h_o_comes, .ref h_o_next, .int o_x])), (h_o_rootOf, .inl (ca 0, 64, .inl q17)), (h_o_all, .inl (ca 0, 350, .inl o_all_r)), (h_o_makers, .inl (ca 0, 34, .inl o_makers_r)), (h_o_halves, .inl (ca 0, 34, .inl o_halves_r)), (h_o_plans, .inl (ca 0, 80, .inl o_plans_r))] H := hP
    have hD : va_D A [(h_o_next, .inl (ca 0, 64, .inl o_next_r)), (h_o_undone, .inl (ca 0, 536, .inl o_undone_r)), (h_o, .inr (7, [.ref h_o_plans, .ref h_o_makers, .ref h_o_halves, .int (0 : Int32), .ref h_o_all, .ref h_o_text, .ref h_o_saved, .ref h_o_undone, .int o_undos, .int o_reached, .int o_length, .int o_begin, .int o_letters, .int o_sort, .long o_word, .int o_wrongAt, .int o_badAt, .int o_bad, .ref h_o_told, .ref h_o_shift, .int o_firstX, .int o_firstY, .int o_secondX, .int o_secondY, .ref h_o_rootOf, .ref h_o_becomes, .ref h_o_comes, .ref h_o_next, .int o_x])), (h_o_rootOf, .inl (ca 0, 64, .inl q17)), (h_o_all, .inl (ca 0, 350, .inl o_all_r)), (h_o_makers, .inl (ca 0, 34, .inl o_makers_r)), (h_o_halves, .inl (ca 0, 34, .inl o_halves_r)), (h_o_plans, .inl (ca 0, 80, .inl o_plans_r))] := hD
    refine lv_aload_n hx hb dX8_mend_20 rfl (lv_at hl 0 rfl) ?_
    obtain ⟨q21, hq21, hf⟩ := ds_ob hf
    refine ds_calli (wr := [(h_o_next, .inl (ca 0, 64, .inl o_next_r)), (h_o_undone, .inl (ca 0, 536, .inl o_undone_r)), (h_o_makers, .inl (ca 0, 34, .inl o_makers_r)), (h_o_halves, .inl (ca 0, 34, .inl o_halves_r)), (h_o_plans, .inl (ca 0, 80, .inl o_plans_r))]) (va_runV (As := []) (rest := []) ⟨hx, hb, hml, hown, hts⟩ (c_X8_flawed l dC dI ca sa h_o h_o_plans h_o_makers h_o_halves h_o_all h_o_text h_o_saved h_o_undone h_o_told h_o_shift h_o_rootOf h_o_becomes h_o_comes h_o_next H.size (0 : Int32) o_undos o_reached o_length o_begin o_letters o_sort o_word o_wrongAt o_badAt o_bad o_firstX o_firstY o_secondX o_secondY o_x o_all_r q17  q21 hq21) (cwV 0 hts (ds_gV kw_840 kw_841 kw_842 kw_597 kw_843) rfl rfl rfl (by decide +kernel) ⟨Nat.le_of_ble_eq_true rfl, Nat.le_of_ble_eq_true rfl⟩) ⟨ds_blind, va_recv hK hP (ci := 7) (q0 := 2) rfl rfl, ds_at hP hD hK hE hS hA [2, 4, 3] rfl rfl _⟩ rfl rfl hl.1 rfl (lv_room (Nat.le_of_ble_eq_true rfl)) dX8_mend_21 ⟨Nat.zero_le _, Nat.zero_le _⟩) hP hD hS hA [2, 4, 3] [0, 1, 5, 6, 7] rfl rfl rfl (by decide) (fun H locs hP hD hS => ?_)
    have hP : va_P (dC, dI) vwCl [(h_o_next, .inl (ca 0, 64, .inl o_next_r)), (h_o_undone, .inl (ca 0, 536, .inl o_undone_r)), (h_o_makers, .inl (ca 0, 34, .inl o_makers_r)), (h_o_halves, .inl (ca 0, 34, .inl o_halves_r)), (h_o_plans, .inl (ca 0, 80, .inl o_plans_r)), (h_o, .inr (7, [.ref h_o_plans, .ref h_o_makers, .ref h_o_halves, .int (0 : Int32), .ref h_o_all, .ref h_o_text, .ref h_o_saved, .ref h_o_undone, .int o_undos, .int o_reached, .int o_length, .int o_begin, .int o_letters, .int o_sort, .long o_word, .int o_wrongAt, .int o_badAt, .int o_bad, .ref h_o_told, .ref h_o_shift, .int o_firstX, .int o_firstY, .int o_secondX, .int o_secondY, .ref h_o_rootOf, .ref h_o_becomes, .ref h_o_comes, .ref h_o_next, .int o_x])), (h_o_all, .inl (ca 0, 350, .inl o_all_r)), (h_o_rootOf, .inl (ca 0, 64, .inl q17))] H := hP
    have hD : va_D A [(h_o_next, .inl (ca 0, 64, .inl o_next_r)), (h_o_undone, .inl (ca 0, 536, .inl o_undone_r)), (h_o_makers, .inl (ca 0, 34, .inl o_makers_r)), (h_o_halves, .inl (ca 0, 34, .inl o_halves_r)), (h_o_plans, .inl (ca 0, 80, .inl o_plans_r)), (h_o, .inr (7, [.ref h_o_plans, .ref h_o_makers, .ref h_o_halves, .int (0 : Int32), .ref h_o_all, .ref h_o_text, .ref h_o_saved, .ref h_o_undone, .int o_undos, .int o_reached, .int o_length, .int o_begin, .int o_letters, .int o_sort, .long o_word, .int o_wrongAt, .int o_badAt, .int o_bad, .ref h_o_told, .ref h_o_shift, .int o_firstX, .int o_firstY, .int o_secondX, .int o_secondY, .ref h_o_rootOf, .ref h_o_becomes, .ref h_o_comes, .ref h_o_next, .int o_x])), (h_o_all, .inl (ca 0, 350, .inl o_all_r)), (h_o_rootOf, .inl (ca 0, 64, .inl q17))] := hD
    refine lv_istore_n (lv' := [(2, .int q21), (0, .ref h_o), (1, .int p1)]) hx hb dX8_mend_24 rfl hl (by decide) rfl (fun ls hl => ?_)
    refine lv_aload_n hx hb dX8_mend_25 rfl (lv_at hl 1 rfl) ?_
    obtain ⟨q26, hq26, hf⟩ := ds_ob hf
    refine ds_callv (wr := [(h_o_undone, .inl (ca 0, 536, .inl o_undone_r)), (h_o_makers, .inl (ca 0, 34, .inl o_makers_r)), (h_o_halves, .inl (ca 0, 34, .inl o_halves_r)), (h_o_plans, .inl (ca 0, 80, .inl o_plans_r)), (h_o_rootOf, .inl (ca 0, 64, .inl q17))]) (va_runV (As := []) (rest := []) ⟨hx, hb, hml, hown, hts⟩ (c_X8_keepsNext l dC dI ca sa h_o h_o_plans h_o_makers h_o_halves h_o_all h_o_text h_o_saved h_o_undone h_o_told h_o_shift h_o_rootOf h_o_becomes h_o_comes h_o_next H.size (0 : Int32) o_undos o_reached o_length o_begin o_letters o_sort o_word o_wrongAt o_badAt o_bad o_firstX o_firstY o_secondX o_secondY o_x o_all_r o_next_r  q26 hq26) (cwV 0 hts (ds_gV kw_858 kw_859 kw_860 kw_597 kw_861) rfl rfl rfl (by decide +kernel) ⟨Nat.le_of_ble_eq_true rfl, Nat.le_of_ble_eq_true rfl⟩) ⟨ds_blind, va_recv hK hP (ci := 7) (q0 := 5) rfl rfl, ds_at hP hD hK hE hS hA [5, 6, 0] rfl rfl _⟩ rfl rfl hl.1 rfl (lv_room (Nat.le_of_ble_eq_true rfl)) dX8_mend_26 ⟨Nat.zero_le _, Nat.zero_le _⟩) hP hD hS hA [5, 6, 0] [1, 2, 3, 4, 7] rfl rfl rfl (by decide) (fun H locs hP hD hS => ?_)
    have hP : va_P (dC, dI) vwCl [(h_o_undone, .inl (ca 0, 536, .inl o_undone_r)), (h_o_makers, .inl (ca 0, 34, .inl o_makers_r)), (h_o_halves, .inl (ca 0, 34, .inl o_halves_r)), (h_o_plans, .inl (ca 0, 80, .inl o_plans_r)), (h_o_rootOf, .inl (ca 0, 64, .inl q17)), (h_o, .inr (7, [.ref h_o_plans, .ref h_o_makers, .ref h_o_halves, .int (0 : Int32), .ref h_o_all, .ref h_o_text, .ref h_o_saved, .ref h_o_undone, .int o_undos, .int o_reached, .int o_length, .int o_begin, .int o_letters, .int o_sort, .long o_word, .int o_wrongAt, .int o_badAt, .int o_bad, .ref h_o_told, .ref h_o_shift, .int o_firstX, .int o_firstY, .int o_secondX, .int o_secondY, .ref h_o_rootOf, .ref h_o_becomes, .ref h_o_comes, .ref h_o_next, .int o_x])), (h_o_all, .inl (ca 0, 350, .inl o_all_r)), (h_o_next, .inl (ca 0, 64, .inl q26))] H := hP
    have hD : va_D A [(h_o_undone, .inl (ca 0, 536, .inl o_undone_r)), (h_o_makers, .inl (ca 0, 34, .inl o_makers_r)), (h_o_halves, .inl (ca 0, 34, .inl o_halves_r)), (h_o_plans, .inl (ca 0, 80, .inl o_plans_r)), (h_o_rootOf, .inl (ca 0, 64, .inl q17)), (h_o, .inr (7, [.ref h_o_plans, .ref h_o_makers, .ref h_o_halves, .int (0 : Int32), .ref h_o_all, .ref h_o_text, .ref h_o_saved, .ref h_o_undone, .int o_undos, .int o_reached, .int o_length, .int o_begin, .int o_letters, .int o_sort, .long o_word, .int o_wrongAt, .int o_badAt, .int o_bad, .ref h_o_told, .ref h_o_shift, .int o_firstX, .int o_firstY, .int o_secondX, .int o_secondY, .ref h_o_rootOf, .ref h_o_becomes, .ref h_o_comes, .ref h_o_next, .int o_x])), (h_o_all, .inl (ca 0, 350, .inl o_all_r)), (h_o_next, .inl (ca 0, 64, .inl q26))] := hD
    refine lv_iconst (v := 0) hx hb dX8_mend_29 (by decide) ?_
    refine lv_istore_n (lv' := [(3, .int (0 : Int32)), (2, .int q21), (0, .ref h_o), (1, .int p1)]) hx hb dX8_mend_30 rfl hl (by decide) rfl (fun ls hl => ?_)
    exact h1 (J_31 q21 (0 : Int32) o_undos o_all_r q17 o_undone_r 1000 (0 : Int32) q26 _ hf hG _ _ (hP.sub [5, 6, 2, 4, 1, 3, 7, 0] rfl) (hD.sub [5, 6, 2, 4, 1, 3, 7, 0] rfl rfl) hS _ (lv_sub hl [2, 1, 0] rfl))
  · replace hf := ds_t c_10 hf
    refine lv_iconst (v := -1) hx hb dX8_mend_13 (by decide) ?_
    have hf := Option.some.inj hf
    subst hf
    rw [eG0] at hG
    have hG : _ = res := hG
    subst hG
    exact W.iret (v := (-1 : Int32)) hx hb hr (fun t ht hW => ⟨⟨(-1 : Int32), (), rfl, rfl, by rw [ht]; exact (hP.sub [5, 6, 7, 0, 1, 2, 3, 4] rfl), (hD.sub [5, 6, 7, 0, 1, 2, 3, 4] rfl rfl)⟩, hS.F ht⟩) hS.2.2 dX8_mend_14
theorem dX8_leastStep_0 : decode cX8_leastStep 0 = .ok (.iconst 1, 1) := by decide +kernel
theorem dX8_leastStep_1 : decode cX8_leastStep 1 = .ok (.istore_n 2, 1) := by decide +kernel
theorem dX8_leastStep_2 : decode cX8_leastStep 2 = .ok (.aload_n 0, 1) := by decide +kernel
theorem dX8_leastStep_3 : decode cX8_leastStep 3 = .ok (.iload_n 1, 1) := by decide +kernel
theorem dX8_leastStep_4 : decode cX8_leastStep 4 = .ok (.ifCond .eq 7, 3) := by decide +kernel
theorem dX8_leastStep_7 : decode cX8_leastStep 7 = .ok (.iconst 0, 1) := by decide +kernel
theorem dX8_leastStep_8 : decode cX8_leastStep 8 = .ok (.goto 4, 3) := by decide +kernel
theorem dX8_leastStep_11 : decode cX8_leastStep 11 = .ok (.iload_n 2, 1) := by decide +kernel
theorem dX8_leastStep_12 : decode cX8_leastStep 12 = .ok (.iload_n 1, 1) := by decide +kernel
theorem dX8_leastStep_13 : decode cX8_leastStep 13 = .ok (.ifCond .eq 7, 3) := by decide +kernel
theorem dX8_leastStep_16 : decode cX8_leastStep 16 = .ok (.iload_n 2, 1) := by decide +kernel
theorem dX8_leastStep_17 : decode cX8_leastStep 17 = .ok (.goto 4, 3) := by decide +kernel
theorem dX8_leastStep_20 : decode cX8_leastStep 20 = .ok (.iconst 0, 1) := by decide +kernel
theorem dX8_leastStep_21 : decode cX8_leastStep 21 = .ok (.invokevirtual 137, 3) := by decide +kernel
theorem dX8_leastStep_24 : decode cX8_leastStep 24 = .ok (.ifCond .ne 9, 3) := by decide +kernel
theorem dX8_leastStep_27 : decode cX8_leastStep 27 = .ok (.iinc 2 1, 3) := by decide +kernel
theorem dX8_leastStep_30 : decode cX8_leastStep 30 = .ok (.goto (-28), 3) := by decide +kernel
theorem dX8_leastStep_33 : decode cX8_leastStep 33 = .ok (.iload_n 2, 1) := by decide +kernel
theorem dX8_leastStep_34 : decode cX8_leastStep 34 = .ok (.ireturn, 1) := by decide +kernel
def fX8_leastStep_21 (o_all_r : Nat → Int32) (o_shift_r : Nat → Int32) (v2 : Int32) (s0 : Int32) (s1 : Int32) : Option ((Int32) ⊕ (Int32)) :=
  Option.bind (fX8_isStep o_all_r o_shift_r s1 s0) fun q21 => if q21 = 0 then some (.inl (v2 + 1)) else some (.inr v2)
def fX8_leastStep_12 (o_all_r : Nat → Int32) (o_shift_r : Nat → Int32) (p1 : Int32) (v2 : Int32) (s0 : Int32) : Option ((Int32) ⊕ (Int32)) :=
  if p1 = 0 then fX8_leastStep_21 o_all_r o_shift_r v2 (0 : Int32) s0 else fX8_leastStep_21 o_all_r o_shift_r v2 v2 s0
def fX8_leastStep_2_b (o_all_r : Nat → Int32) (o_shift_r : Nat → Int32) (p1 : Int32) (v2 : Int32) : Option ((Int32) ⊕ (Int32)) :=
  if p1 = 0 then fX8_leastStep_12 o_all_r o_shift_r p1 v2 v2 else fX8_leastStep_12 o_all_r o_shift_r p1 v2 (0 : Int32)
def fX8_leastStep_2 (o_all_r : Nat → Int32) (o_shift_r : Nat → Int32) (p1 : Int32) (v2 : Int32) : Option (Int32) := ds_it (fun s => fX8_leastStep_2_b o_all_r o_shift_r p1 s) 1000 v2
def fX8_leastStep (o_all_r : Nat → Int32) (o_shift_r : Nat → Int32) (p1 : Int32) : Option (Int32) :=
  fX8_leastStep_2 o_all_r o_shift_r p1 (1 : Int32)
set_option maxHeartbeats 4000000 in
set_option maxRecDepth 100000 in
theorem c_X8_leastStep (l : Launch) (dC : Nat → ClassId) (dI : Nat → Nat → Nat) (ca : Nat → ClassId) (sa : Nat → Nat) (h_o : Nat) (h_o_plans : Nat) (h_o_makers : Nat) (h_o_halves : Nat) (h_o_all : Nat) (h_o_text : Nat) (h_o_saved : Nat) (h_o_undone : Nat) (h_o_told : Nat) (h_o_shift : Nat) (h_o_rootOf : Nat) (h_o_becomes : Nat) (h_o_comes : Nat) (h_o_next : Nat) (sz : Nat) (o_raised : Int32) (o_undos : Int32) (o_reached : Int32) (o_length : Int32) (o_begin : Int32) (o_letters : Int32) (o_sort : Int32) (o_word : Int64) (o_wrongAt : Int32) (o_badAt : Int32) (o_bad : Int32) (o_firstX : Int32) (o_firstY : Int32) (o_secondX : Int32) (o_secondY : Int32) (o_x : Int32) (o_all_r : Nat → Int32) (o_shift_r : Nat → Int32) (p1 : Int32) (res : Int32) (hf : fX8_leastStep o_all_r o_shift_r p1 = some res) : Met l yX8_leastStep (Cond.code yX8_leastStep cX8_leastStep 3 (some .int) :: ds_gw) { frames := 3, cells := 0, slots := 0, locals := 66 } (va_Pc [.ref h_o, .int p1] (ds_Pre dC dI ca sa [(h_o, .inr (7, [.ref h_o_plans, .ref h_o_makers, .ref h_o_halves, .int o_raised, .ref h_o_all, .ref h_o_text, .ref h_o_saved, .ref h_o_undone, .int o_undos, .int o_reached, .int o_length, .int o_begin, .int o_letters, .int o_sort, .long o_word, .int o_wrongAt, .int o_badAt, .int o_bad, .ref h_o_told, .ref h_o_shift, .int o_firstX, .int o_firstY, .int o_secondX, .int o_secondY, .ref h_o_rootOf, .ref h_o_becomes, .ref h_o_comes, .ref h_o_next, .int o_x])), (h_o_all, .inl (ca 0, 350, .inl o_all_r)), (h_o_shift, .inl (ca 3, 768, .inl o_shift_r))] sz)) (va_Qi (fun r (_ : Unit) => r = res) (ds_B dC dI (va_A [(h_o, .inr (7, [.ref h_o_plans, .ref h_o_makers, .ref h_o_halves, .int o_raised, .ref h_o_all, .ref h_o_text, .ref h_o_saved, .ref h_o_undone, .int o_undos, .int o_reached, .int o_length, .int o_begin, .int o_letters, .int o_sort, .long o_word, .int o_wrongAt, .int o_badAt, .int o_bad, .ref h_o_told, .ref h_o_shift, .int o_firstX, .int o_firstY, .int o_secondX, .int o_secondY, .ref h_o_rootOf, .ref h_o_becomes, .ref h_o_comes, .ref h_o_next, .int o_x])), (h_o_all, .inl (ca 0, 350, .inl o_all_r)), (h_o_shift, .inl (ca 3, 768, .inl o_shift_r))] sz) [(h_o, .inr (7, [.ref h_o_plans, .ref h_o_makers, .ref h_o_halves, .int o_raised, .ref h_o_all, .ref h_o_text, .ref h_o_saved, .ref h_o_undone, .int o_undos, .int o_reached, .int o_length, .int o_begin, .int o_letters, .int o_sort, .long o_word, .int o_wrongAt, .int o_badAt, .int o_bad, .ref h_o_told, .ref h_o_shift, .int o_firstX, .int o_firstY, .int o_secondX, .int o_secondY, .ref h_o_rootOf, .ref h_o_becomes, .ref h_o_comes, .ref h_o_next, .int o_x])), (h_o_all, .inl (ca 0, 350, .inl o_all_r)), (h_o_shift, .inl (ca 3, 768, .inl o_shift_r))]) (va_A [(h_o, .inr (7, [.ref h_o_plans, .ref h_o_makers, .ref h_o_halves, .int o_raised, .ref h_o_all, .ref h_o_text, .ref h_o_saved, .ref h_o_undone, .int o_undos, .int o_reached, .int o_length, .int o_begin, .int o_letters, .int o_sort, .long o_word, .int o_wrongAt, .int o_badAt, .int o_bad, .ref h_o_told, .ref h_o_shift, .int o_firstX, .int o_firstY, .int o_secondX, .int o_secondY, .ref h_o_rootOf, .ref h_o_becomes, .ref h_o_comes, .ref h_o_next, .int o_x])), (h_o_all, .inl (ca 0, 350, .inl o_all_r)), (h_o_shift, .inl (ca 3, 768, .inl o_shift_r))] sz)) 0 0 (va_A [(h_o, .inr (7, [.ref h_o_plans, .ref h_o_makers, .ref h_o_halves, .int o_raised, .ref h_o_all, .ref h_o_text, .ref h_o_saved, .ref h_o_undone, .int o_undos, .int o_reached, .int o_length, .int o_begin, .int o_letters, .int o_sort, .long o_word, .int o_wrongAt, .int o_badAt, .int o_bad, .ref h_o_told, .ref h_o_shift, .int o_firstX, .int o_firstY, .int o_secondX, .int o_secondY, .ref h_o_rootOf, .ref h_o_becomes, .ref h_o_comes, .ref h_o_next, .int o_x])), (h_o_all, .inl (ca 0, 350, .inl o_all_r)), (h_o_shift, .inl (ca 3, 768, .inl o_shift_r))] sz) := by
  refine Met.ofW (cc := cX8_leastStep) (maxL := 3) (ret := (some .int)) (by decide) rfl ?_
  intro p e s m args below meth c s₁ B hml hv
  obtain ⟨rfl, hsz, hP, hK, hD0, hE⟩ := hv
  have hx := B.exec
  have hb := B.bytes
  have hr := B.returns
  have hts := atoms_spec (ws := Cond.code yX8_leastStep cX8_leastStep 3 (some .int) :: ds_gw) B.pre
  have hg : ∀ {w : Cond}, w ∈ ds_gw → w.before _ s = true := fun h => hts _ (List.mem_cons_of_mem _ h)
  have hown : s.vm.findClass RX8 = some m.cls := findClass_of_methodNamed B.named
  have hlocks := B.notSynchronized
  subst hsz
  have hD := hD0.self (sz := s.heap.size)
  generalize hAe : va_A [(h_o, .inr (7, [.ref h_o_plans, .ref h_o_makers, .ref h_o_halves, .int o_raised, .ref h_o_all, .ref h_o_text, .ref h_o_saved, .ref h_o_undone, .int o_undos, .int o_reached, .int o_length, .int o_begin, .int o_letters, .int o_sort, .long o_word, .int o_wrongAt, .int o_badAt, .int o_bad, .ref h_o_told, .ref h_o_shift, .int o_firstX, .int o_firstY, .int o_secondX, .int o_secondY, .ref h_o_rootOf, .ref h_o_becomes, .ref h_o_comes, .ref h_o_next, .int o_x])), (h_o_all, .inl (ca 0, 350, .inl o_all_r)), (h_o_shift, .inl (ca 3, 768, .inl o_shift_r))] s.heap.size = A at hD hE ⊢
  have hA : ∀ q : Nat, s.heap.size ≤ q → A q := fun q h => by rw [← hAe]; exact Or.inr h
  have hS : va_S A s.heap s.heap [] := va_S.rf
  have hl := lv_entry ([.ref h_o, .int p1]) (n := 3) (Nat.le_of_ble_eq_true rfl)
  rw [lg_entry_eq]
  generalize (lg_sl ([.ref h_o, .int p1]) ++ List.replicate (3 - (lg_sl ([.ref h_o, .int p1])).length) Slot.unset).toArray = ls at hl ⊢
  have hl : lv_has ls 3 [(0, .ref h_o), (1, .int p1)] := hl
  obtain ⟨G0, eG0⟩ : ∃ G : Int32 → Prop, G = (fun r => r = res) := ⟨_, rfl⟩
  obtain ⟨rr, hrr⟩ : ∃ z, z = res := ⟨_, rfl⟩
  rw [← hrr] at hf
  have hG : G0 rr := by subst eG0; exact hrr
  refine ds_cap (fun WW h1 h2 => ?_)
  have J_2 : ∀ (n : Nat) (v2 : Int32) (rr : Int32) (hf : ds_it (fun s => fX8_leastStep_2_b o_all_r o_shift_r p1 s) n v2 = some rr) (hG : G0 rr) (H : Heap) (locs : List Loc) (hP : va_P (dC, dI) vwCl [(h_o, .inr (7, [.ref h_o_plans, .ref h_o_makers, .ref h_o_halves, .int o_raised, .ref h_o_all, .ref h_o_text, .ref h_o_saved, .ref h_o_undone, .int o_undos, .int o_reached, .int o_length, .int o_begin, .int o_letters, .int o_sort, .long o_word, .int o_wrongAt, .int o_badAt, .int o_bad, .ref h_o_told, .ref h_o_shift, .int o_firstX, .int o_firstY, .int o_secondX, .int o_secondY, .ref h_o_rootOf, .ref h_o_becomes, .ref h_o_comes, .ref h_o_next, .int o_x])), (h_o_all, .inl (ca 0, 350, .inl o_all_r)), (h_o_shift, .inl (ca 3, 768, .inl o_shift_r))] H) (hD : va_D A [(h_o, .inr (7, [.ref h_o_plans, .ref h_o_makers, .ref h_o_halves, .int o_raised, .ref h_o_all, .ref h_o_text, .ref h_o_saved, .ref h_o_undone, .int o_undos, .int o_reached, .int o_length, .int o_begin, .int o_letters, .int o_sort, .long o_word, .int o_wrongAt, .int o_badAt, .int o_bad, .ref h_o_told, .ref h_o_shift, .int o_firstX, .int o_firstY, .int o_secondX, .int o_secondY, .ref h_o_rootOf, .ref h_o_becomes, .ref h_o_comes, .ref h_o_next, .int o_x])), (h_o_all, .inl (ca 0, 350, .inl o_all_r)), (h_o_shift, .inl (ca 3, 768, .inl o_shift_r))]) (hS : va_S A s.heap H locs) (ls : Array Slot) (hl : lv_has ls 3 [(0, .ref h_o), (1, .int p1), (2, .int v2)]), WW H locs (F0 m 2 ls []) := by
    intro  n
    induction n with
    | zero => intro v2 rr hf; exact (ds_it_zero hf).elim
    | succ n ih2 =>
      intro v2 rr hf hG H locs hP hD hS ls hl
      refine h2 ?_
      obtain ⟨rr, hf, hG⟩ := ds_it_succ hf hG
      replace hf : fX8_leastStep_2_b o_all_r o_shift_r p1 v2 = some rr := hf
      obtain ⟨G1, eG1⟩ : ∃ G : ((Int32) ⊕ (Int32)) → Prop, G = ds_G (fun s' => ∃ r', ds_it (fun s => fX8_leastStep_2_b o_all_r o_shift_r p1 s) n s' = some r' ∧ G0 r') G0 := ⟨_, rfl⟩
      rw [← eG1] at hG
      have J_21 : ∀ (v2 : Int32) (s0 : Int32) (s1 : Int32) (rr : (Int32) ⊕ (Int32)) (hf : fX8_leastStep_21 o_all_r o_shift_r v2 s0 s1 = some rr) (hG : G1 rr) (H : Heap) (locs : List Loc) (hP : va_P (dC, dI) vwCl [(h_o, .inr (7, [.ref h_o_plans, .ref h_o_makers, .ref h_o_halves, .int o_raised, .ref h_o_all, .ref h_o_text, .ref h_o_saved, .ref h_o_undone, .int o_undos, .int o_reached, .int o_length, .int o_begin, .int o_letters, .int o_sort, .long o_word, .int o_wrongAt, .int o_badAt, .int o_bad, .ref h_o_told, .ref h_o_shift, .int o_firstX, .int o_firstY, .int o_secondX, .int o_secondY, .ref h_o_rootOf, .ref h_o_becomes, .ref h_o_comes, .ref h_o_next, .int o_x])), (h_o_all, .inl (ca 0, 350, .inl o_all_r)), (h_o_shift, .inl (ca 3, 768, .inl o_shift_r))] H) (hD : va_D A [(h_o, .inr (7, [.ref h_o_plans, .ref h_o_makers, .ref h_o_halves, .int o_raised, .ref h_o_all, .ref h_o_text, .ref h_o_saved, .ref h_o_undone, .int o_undos, .int o_reached, .int o_length, .int o_begin, .int o_letters, .int o_sort, .long o_word, .int o_wrongAt, .int o_badAt, .int o_bad, .ref h_o_told, .ref h_o_shift, .int o_firstX, .int o_firstY, .int o_secondX, .int o_secondY, .ref h_o_rootOf, .ref h_o_becomes, .ref h_o_comes, .ref h_o_next, .int o_x])), (h_o_all, .inl (ca 0, 350, .inl o_all_r)), (h_o_shift, .inl (ca 3, 768, .inl o_shift_r))]) (hS : va_S A s.heap H locs) (ls : Array Slot) (hl : lv_has ls 3 [(0, .ref h_o), (1, .int p1), (2, .int v2)]), WW H locs (F0 m 21 ls [.int s0, .int s1, .ref h_o]) := by
        intro v2 s0 s1 rr hf hG H locs hP hD hS ls hl
        refine h2 ?_
        unfold fX8_leastStep_21 at hf
        obtain ⟨q21, hq21, hf⟩ := ds_ob hf
        refine ds_calli (wr := []) (va_runV (As := [.int s1, .int s0]) (rest := []) ⟨hx, hb, hml, hown, hts⟩ (c_X8_isStep l dC dI ca sa h_o h_o_plans h_o_makers h_o_halves h_o_all h_o_text h_o_saved h_o_undone h_o_told h_o_shift h_o_rootOf h_o_becomes h_o_comes h_o_next H.size o_raised o_undos o_reached o_length o_begin o_letters o_sort o_word o_wrongAt o_badAt o_bad o_firstX o_firstY o_secondX o_secondY o_x o_all_r o_shift_r s1 s0 q21 hq21) (cwV 2 hts (ds_gV kw_663 kw_664 kw_665 kw_597 kw_666) rfl rfl rfl (by decide +kernel) ⟨Nat.le_of_ble_eq_true rfl, Nat.le_of_ble_eq_true rfl⟩) ⟨ds_blind, va_recv hK hP (ci := 7) (q0 := 0) rfl rfl, ds_at hP hD hK hE hS hA [0, 1, 2] rfl rfl _⟩ rfl rfl hl.1 rfl (lv_room (Nat.le_of_ble_eq_true rfl)) dX8_leastStep_21 ⟨Nat.zero_le _, Nat.zero_le _⟩) hP hD hS hA [0, 1, 2] [] rfl rfl rfl (by decide) (fun H locs hP hD hS => ?_)
        have hP : va_P (dC, dI) vwCl [(h_o, .inr (7, [.ref h_o_plans, .ref h_o_makers, .ref h_o_halves, .int o_raised, .ref h_o_all, .ref h_o_text, .ref h_o_saved, .ref h_o_undone, .int o_undos, .int o_reached, .int o_length, .int o_begin, .int o_letters, .int o_sort, .long o_word, .int o_wrongAt, .int o_badAt, .int o_bad, .ref h_o_told, .ref h_o_shift, .int o_firstX, .int o_firstY, .int o_secondX, .int o_secondY, .ref h_o_rootOf, .ref h_o_becomes, .ref h_o_comes, .ref h_o_next, .int o_x])), (h_o_all, .inl (ca 0, 350, .inl o_all_r)), (h_o_shift, .inl (ca 3, 768, .inl o_shift_r))] H := hP
        have hD : va_D A [(h_o, .inr (7, [.ref h_o_plans, .ref h_o_makers, .ref h_o_halves, .int o_raised, .ref h_o_all, .ref h_o_text, .ref h_o_saved, .ref h_o_undone, .int o_undos, .int o_reached, .int o_length, .int o_begin, .int o_letters, .int o_sort, .long o_word, .int o_wrongAt, .int o_badAt, .int o_bad, .ref h_o_told, .ref h_o_shift, .int o_firstX, .int o_firstY, .int o_secondX, .int o_secondY, .ref h_o_rootOf, .ref h_o_becomes, .ref h_o_comes, .ref h_o_next, .int o_x])), (h_o_all, .inl (ca 0, 350, .inl o_all_r)), (h_o_shift, .inl (ca 3, 768, .inl o_shift_r))] := hD
        refine lv_if_ne (tgt := 33) hx hb dX8_leastStep_24 (by decide) (fun c_24 => ?_) (fun c_24 => ?_)
        · replace hf := ds_f c_24 hf
          refine lv_iload_n hx hb dX8_leastStep_33 rfl (lv_at hl 2 rfl) ?_
          have hf := Option.some.inj hf
          subst hf
          rw [eG1] at hG
          replace hG : G0 _ := hG
          rw [eG0] at hG
          have hG : _ = res := hG
          subst hG
          exact W.iret (v := v2) hx hb hr (fun t ht hW => ⟨⟨v2, (), rfl, rfl, by rw [ht]; exact hP, hD⟩, hS.F ht⟩) hS.2.2 dX8_leastStep_34
        · replace hf := ds_t c_24 hf
          refine lv_iinc (v := (v2 + 1)) (lv' := [(2, .int (v2 + 1)), (0, .ref h_o), (1, .int p1)]) hx hb dX8_leastStep_27 hl (k := 2) rfl rfl (by decide) rfl (fun ls hl => ?_)
          refine lv_goto (tgt := 2) hx hb dX8_leastStep_30 (by decide) ?_
          have hf := Option.some.inj hf
          subst hf
          rw [eG1] at hG
          obtain ⟨rr, hf, hG⟩ := hG
          exact h1 (ih2 (v2 + 1) rr hf hG _ _ hP hD hS _ (lv_sub hl [1, 2, 0] rfl))
      have J_12 : ∀ (v2 : Int32) (s0 : Int32) (rr : (Int32) ⊕ (Int32)) (hf : fX8_leastStep_12 o_all_r o_shift_r p1 v2 s0 = some rr) (hG : G1 rr) (H : Heap) (locs : List Loc) (hP : va_P (dC, dI) vwCl [(h_o, .inr (7, [.ref h_o_plans, .ref h_o_makers, .ref h_o_halves, .int o_raised, .ref h_o_all, .ref h_o_text, .ref h_o_saved, .ref h_o_undone, .int o_undos, .int o_reached, .int o_length, .int o_begin, .int o_letters, .int o_sort, .long o_word, .int o_wrongAt, .int o_badAt, .int o_bad, .ref h_o_told, .ref h_o_shift, .int o_firstX, .int o_firstY, .int o_secondX, .int o_secondY, .ref h_o_rootOf, .ref h_o_becomes, .ref h_o_comes, .ref h_o_next, .int o_x])), (h_o_all, .inl (ca 0, 350, .inl o_all_r)), (h_o_shift, .inl (ca 3, 768, .inl o_shift_r))] H) (hD : va_D A [(h_o, .inr (7, [.ref h_o_plans, .ref h_o_makers, .ref h_o_halves, .int o_raised, .ref h_o_all, .ref h_o_text, .ref h_o_saved, .ref h_o_undone, .int o_undos, .int o_reached, .int o_length, .int o_begin, .int o_letters, .int o_sort, .long o_word, .int o_wrongAt, .int o_badAt, .int o_bad, .ref h_o_told, .ref h_o_shift, .int o_firstX, .int o_firstY, .int o_secondX, .int o_secondY, .ref h_o_rootOf, .ref h_o_becomes, .ref h_o_comes, .ref h_o_next, .int o_x])), (h_o_all, .inl (ca 0, 350, .inl o_all_r)), (h_o_shift, .inl (ca 3, 768, .inl o_shift_r))]) (hS : va_S A s.heap H locs) (ls : Array Slot) (hl : lv_has ls 3 [(0, .ref h_o), (1, .int p1), (2, .int v2)]), WW H locs (F0 m 12 ls [.int s0, .ref h_o]) := by
        intro v2 s0 rr hf hG H locs hP hD hS ls hl
        refine h2 ?_
        unfold fX8_leastStep_12 at hf
        refine lv_iload_n hx hb dX8_leastStep_12 rfl (lv_at hl 1 rfl) ?_
        refine lv_if_eq (tgt := 20) hx hb dX8_leastStep_13 (by decide) (fun c_13 => ?_) (fun c_13 => ?_)
        · replace hf := ds_t c_13 hf
          refine lv_iconst (v := 0) hx hb dX8_leastStep_20 (by decide) ?_
          exact h1 (J_21 v2 (0 : Int32) s0 _ hf hG _ _ hP hD hS _ (lv_sub hl [0, 1, 2] rfl))
        · replace hf := ds_f c_13 hf
          refine lv_iload_n hx hb dX8_leastStep_16 rfl (lv_at hl 2 rfl) ?_
          refine lv_goto (tgt := 21) hx hb dX8_leastStep_17 (by decide) ?_
          exact h1 (J_21 v2 v2 s0 _ hf hG _ _ hP hD hS _ (lv_sub hl [0, 1, 2] rfl))
      unfold fX8_leastStep_2_b at hf
      refine lv_aload_n hx hb dX8_leastStep_2 rfl (lv_at hl 0 rfl) ?_
      refine lv_iload_n hx hb dX8_leastStep_3 rfl (lv_at hl 1 rfl) ?_
      refine lv_if_eq (tgt := 11) hx hb dX8_leastStep_4 (by decide) (fun c_4 => ?_) (fun c_4 => ?_)
      · replace hf := ds_t c_4 hf
        refine lv_iload_n hx hb dX8_leastStep_11 rfl (lv_at hl 2 rfl) ?_
        exact h1 (J_12 v2 v2 _ hf hG _ _ hP hD hS _ (lv_sub hl [0, 1, 2] rfl))
      · replace hf := ds_f c_4 hf
        refine lv_iconst (v := 0) hx hb dX8_leastStep_7 (by decide) ?_
        refine lv_goto (tgt := 12) hx hb dX8_leastStep_8 (by decide) ?_
        exact h1 (J_12 v2 (0 : Int32) _ hf hG _ _ hP hD hS _ (lv_sub hl [0, 1, 2] rfl))
  unfold fX8_leastStep at hf
  refine lv_iconst (v := 1) hx hb dX8_leastStep_0 (by decide) ?_
  refine lv_istore_n (lv' := [(2, .int (1 : Int32)), (0, .ref h_o), (1, .int p1)]) hx hb dX8_leastStep_1 rfl hl (by decide) rfl (fun ls hl => ?_)
  exact h1 (J_2  1000 (1 : Int32) _ hf hG _ _ hP hD hS _ (lv_sub hl [1, 2, 0] rfl))
theorem dX8_reduce_0 : decode cX8_reduce 0 = .ok (.aload_n 0, 1) := by decide +kernel
theorem dX8_reduce_1 : decode cX8_reduce 1 = .ok (.iconst 0, 1) := by decide +kernel
theorem dX8_reduce_2 : decode cX8_reduce 2 = .ok (.putfield 51, 3) := by decide +kernel
theorem dX8_reduce_5 : decode cX8_reduce 5 = .ok (.aload_n 0, 1) := by decide +kernel
theorem dX8_reduce_6 : decode cX8_reduce 6 = .ok (.invokevirtual 227, 3) := by decide +kernel
theorem dX8_reduce_9 : decode cX8_reduce 9 = .ok (.aload_n 0, 1) := by decide +kernel
theorem dX8_reduce_10 : decode cX8_reduce 10 = .ok (.iconst 0, 1) := by decide +kernel
theorem dX8_reduce_11 : decode cX8_reduce 11 = .ok (.invokevirtual 303, 3) := by decide +kernel
theorem dX8_reduce_14 : decode cX8_reduce 14 = .ok (.istore_n 1, 1) := by decide +kernel
theorem dX8_reduce_15 : decode cX8_reduce 15 = .ok (.aload_n 0, 1) := by decide +kernel
theorem dX8_reduce_16 : decode cX8_reduce 16 = .ok (.iconst 1, 1) := by decide +kernel
theorem dX8_reduce_17 : decode cX8_reduce 17 = .ok (.invokevirtual 303, 3) := by decide +kernel
theorem dX8_reduce_20 : decode cX8_reduce 20 = .ok (.istore_n 2, 1) := by decide +kernel
theorem dX8_reduce_21 : decode cX8_reduce 21 = .ok (.iload_n 1, 1) := by decide +kernel
theorem dX8_reduce_22 : decode cX8_reduce 22 = .ok (.aload_n 0, 1) := by decide +kernel
theorem dX8_reduce_23 : decode cX8_reduce 23 = .ok (.getfield 19, 3) := by decide +kernel
theorem dX8_reduce_26 : decode cX8_reduce 26 = .ok (.iconst 0, 1) := by decide +kernel
theorem dX8_reduce_27 : decode cX8_reduce 27 = .ok (.iaload, 1) := by decide +kernel
theorem dX8_reduce_28 : decode cX8_reduce 28 = .ok (.if_icmp .ne 15, 3) := by decide +kernel
theorem dX8_reduce_31 : decode cX8_reduce 31 = .ok (.iload_n 2, 1) := by decide +kernel
theorem dX8_reduce_32 : decode cX8_reduce 32 = .ok (.aload_n 0, 1) := by decide +kernel
theorem dX8_reduce_33 : decode cX8_reduce 33 = .ok (.getfield 19, 3) := by decide +kernel
theorem dX8_reduce_36 : decode cX8_reduce 36 = .ok (.iconst 1, 1) := by decide +kernel
theorem dX8_reduce_37 : decode cX8_reduce 37 = .ok (.iaload, 1) := by decide +kernel
theorem dX8_reduce_38 : decode cX8_reduce 38 = .ok (.if_icmp .ne 5, 3) := by decide +kernel
theorem dX8_reduce_41 : decode cX8_reduce 41 = .ok (.iconst (-1), 1) := by decide +kernel
theorem dX8_reduce_42 : decode cX8_reduce 42 = .ok (.ireturn, 1) := by decide +kernel
theorem dX8_reduce_43 : decode cX8_reduce 43 = .ok (.aload_n 0, 1) := by decide +kernel
theorem dX8_reduce_44 : decode cX8_reduce 44 = .ok (.invokevirtual 287, 3) := by decide +kernel
theorem dX8_reduce_47 : decode cX8_reduce 47 = .ok (.iconst 0, 1) := by decide +kernel
theorem dX8_reduce_48 : decode cX8_reduce 48 = .ok (.istore_n 3, 1) := by decide +kernel
theorem dX8_reduce_49 : decode cX8_reduce 49 = .ok (.iload_n 3, 1) := by decide +kernel
theorem dX8_reduce_50 : decode cX8_reduce 50 = .ok (.bipush 64, 2) := by decide +kernel
theorem dX8_reduce_52 : decode cX8_reduce 52 = .ok (.if_icmp .ge 45, 3) := by decide +kernel
theorem dX8_reduce_55 : decode cX8_reduce 55 = .ok (.aload_n 0, 1) := by decide +kernel
theorem dX8_reduce_56 : decode cX8_reduce 56 = .ok (.getfield 19, 3) := by decide +kernel
theorem dX8_reduce_59 : decode cX8_reduce 59 = .ok (.iconst 3, 1) := by decide +kernel
theorem dX8_reduce_60 : decode cX8_reduce 60 = .ok (.iload_n 3, 1) := by decide +kernel
theorem dX8_reduce_61 : decode cX8_reduce 61 = .ok (.iadd, 1) := by decide +kernel
theorem dX8_reduce_62 : decode cX8_reduce 62 = .ok (.iload_n 3, 1) := by decide +kernel
theorem dX8_reduce_63 : decode cX8_reduce 63 = .ok (.bipush 8, 2) := by decide +kernel
theorem dX8_reduce_65 : decode cX8_reduce 65 = .ok (.irem, 1) := by decide +kernel
theorem dX8_reduce_66 : decode cX8_reduce 66 = .ok (.iload_n 1, 1) := by decide +kernel
theorem dX8_reduce_67 : decode cX8_reduce 67 = .ok (.if_icmp .ge 22, 3) := by decide +kernel
theorem dX8_reduce_70 : decode cX8_reduce 70 = .ok (.iload_n 3, 1) := by decide +kernel
theorem dX8_reduce_71 : decode cX8_reduce 71 = .ok (.bipush 8, 2) := by decide +kernel
theorem dX8_reduce_73 : decode cX8_reduce 73 = .ok (.idiv, 1) := by decide +kernel
theorem dX8_reduce_74 : decode cX8_reduce 74 = .ok (.iload_n 2, 1) := by decide +kernel
theorem dX8_reduce_75 : decode cX8_reduce 75 = .ok (.if_icmp .ge 14, 3) := by decide +kernel
theorem dX8_reduce_78 : decode cX8_reduce 78 = .ok (.aload_n 0, 1) := by decide +kernel
theorem dX8_reduce_79 : decode cX8_reduce 79 = .ok (.getfield 19, 3) := by decide +kernel
theorem dX8_reduce_82 : decode cX8_reduce 82 = .ok (.iconst 3, 1) := by decide +kernel
theorem dX8_reduce_83 : decode cX8_reduce 83 = .ok (.iload_n 3, 1) := by decide +kernel
theorem dX8_reduce_84 : decode cX8_reduce 84 = .ok (.iadd, 1) := by decide +kernel
theorem dX8_reduce_85 : decode cX8_reduce 85 = .ok (.iaload, 1) := by decide +kernel
theorem dX8_reduce_86 : decode cX8_reduce 86 = .ok (.goto 4, 3) := by decide +kernel
theorem dX8_reduce_89 : decode cX8_reduce 89 = .ok (.iconst 0, 1) := by decide +kernel
theorem dX8_reduce_90 : decode cX8_reduce 90 = .ok (.iastore, 1) := by decide +kernel
theorem dX8_reduce_91 : decode cX8_reduce 91 = .ok (.iinc 3 1, 3) := by decide +kernel
theorem dX8_reduce_94 : decode cX8_reduce 94 = .ok (.goto (-45), 3) := by decide +kernel
theorem dX8_reduce_97 : decode cX8_reduce 97 = .ok (.aload_n 0, 1) := by decide +kernel
theorem dX8_reduce_98 : decode cX8_reduce 98 = .ok (.getfield 19, 3) := by decide +kernel
theorem dX8_reduce_101 : decode cX8_reduce 101 = .ok (.iconst 0, 1) := by decide +kernel
theorem dX8_reduce_102 : decode cX8_reduce 102 = .ok (.iload_n 1, 1) := by decide +kernel
theorem dX8_reduce_103 : decode cX8_reduce 103 = .ok (.iastore, 1) := by decide +kernel
theorem dX8_reduce_104 : decode cX8_reduce 104 = .ok (.aload_n 0, 1) := by decide +kernel
theorem dX8_reduce_105 : decode cX8_reduce 105 = .ok (.getfield 19, 3) := by decide +kernel
theorem dX8_reduce_108 : decode cX8_reduce 108 = .ok (.iconst 1, 1) := by decide +kernel
theorem dX8_reduce_109 : decode cX8_reduce 109 = .ok (.iload_n 2, 1) := by decide +kernel
theorem dX8_reduce_110 : decode cX8_reduce 110 = .ok (.iastore, 1) := by decide +kernel
theorem dX8_reduce_111 : decode cX8_reduce 111 = .ok (.iload_n 1, 1) := by decide +kernel
theorem dX8_reduce_112 : decode cX8_reduce 112 = .ok (.iload_n 2, 1) := by decide +kernel
theorem dX8_reduce_113 : decode cX8_reduce 113 = .ok (.imul, 1) := by decide +kernel
theorem dX8_reduce_114 : decode cX8_reduce 114 = .ok (.ireturn, 1) := by decide +kernel
def fX8_reduce_97 (o_raised : Int32) (o_undos : Int32) (o_all_r : Nat → Int32) (o_shift_r : Nat → Int32) (o_undone_r : Nat → Int32) (v1 : Int32) (v2 : Int32) : Option (Int32 × Int32 × Int32 × (Nat → Int32) × (Nat → Int32) × (Nat → Int32)) :=
  some ((v1 * v2), o_raised, o_undos, (upd (upd o_all_r ((0 : Int32).toNatClampNeg) v1) ((1 : Int32).toNatClampNeg) v2), o_shift_r, o_undone_r)
def fX8_reduce_90 (o_all_r : Nat → Int32) (v3 : Int32) (s0 : Int32) (s1 : Int32) : Option ((Int32 × (Nat → Int32)) ⊕ (Int32 × Int32 × Int32 × (Nat → Int32) × (Nat → Int32) × (Nat → Int32))) :=
  if ds_in s1 350 = true then some (.inl ((v3 + 1), (upd o_all_r s1.toNatClampNeg s0))) else none
def fX8_reduce_89 (o_all_r : Nat → Int32) (v3 : Int32) (s0 : Int32) : Option ((Int32 × (Nat → Int32)) ⊕ (Int32 × Int32 × Int32 × (Nat → Int32) × (Nat → Int32) × (Nat → Int32))) :=
  fX8_reduce_90 o_all_r v3 (0 : Int32) s0
def fX8_reduce_49_b (o_raised : Int32) (o_undos : Int32) (o_shift_r : Nat → Int32) (o_undone_r : Nat → Int32) (v1 : Int32) (v2 : Int32) (v3 : Int32) (o_all_r : Nat → Int32) : Option ((Int32 × (Nat → Int32)) ⊕ (Int32 × Int32 × Int32 × (Nat → Int32) × (Nat → Int32) × (Nat → Int32))) :=
  if (64 : Int32) ≤ v3 then Option.bind (fX8_reduce_97 o_raised o_undos o_all_r o_shift_r o_undone_r v1 v2) fun z => some (.inr z) else if v1 ≤ (ds_rem v3 (8 : Int32)) then fX8_reduce_89 o_all_r v3 ((3 : Int32) + v3) else if v2 ≤ (v3 / (8 : Int32)) then fX8_reduce_89 o_all_r v3 ((3 : Int32) + v3) else if ds_in ((3 : Int32) + v3) 350 = true then fX8_reduce_90 o_all_r v3 (o_all_r ((3 : Int32) + v3).toNatClampNeg) ((3 : Int32) + v3) else none
def fX8_reduce_49 (o_raised : Int32) (o_undos : Int32) (o_shift_r : Nat → Int32) (o_undone_r : Nat → Int32) (v1 : Int32) (v2 : Int32) (v3 : Int32) (o_all_r : Nat → Int32) : Option (Int32 × Int32 × Int32 × (Nat → Int32) × (Nat → Int32) × (Nat → Int32)) := ds_it (fun s => fX8_reduce_49_b o_raised o_undos o_shift_r o_undone_r v1 v2 s.1 s.2) 1000 (v3, o_all_r)
def fX8_reduce_43 (o_raised : Int32) (o_undos : Int32) (o_all_r : Nat → Int32) (o_shift_r : Nat → Int32) (o_undone_r : Nat → Int32) (v1 : Int32) (v2 : Int32) : Option (Int32 × Int32 × Int32 × (Nat → Int32) × (Nat → Int32) × (Nat → Int32)) :=
  Option.bind (fX8_keeps o_undos o_undone_r o_all_r) fun q44 => fX8_reduce_49 o_raised q44.1 o_shift_r q44.2 v1 v2 (0 : Int32) o_all_r
def fX8_reduce (o_undos : Int32) (o_all_r : Nat → Int32) (o_plans_r : Nat → Int32) (o_shift_r : Nat → Int32) (o_undone_r : Nat → Int32) : Option (Int32 × Int32 × Int32 × (Nat → Int32) × (Nat → Int32) × (Nat → Int32)) :=
  Option.bind (fX8_laysShifts o_all_r o_plans_r o_shift_r) fun q6 => Option.bind (fX8_leastStep o_all_r q6 (0 : Int32)) fun q11 => Option.bind (fX8_leastStep o_all_r q6 (1 : Int32)) fun q17 => if q11 = (o_all_r (0 : Int32).toNatClampNeg) then if q17 = (o_all_r (1 : Int32).toNatClampNeg) then some ((-1 : Int32), (0 : Int32), o_undos, o_all_r, q6, o_undone_r) else fX8_reduce_43 (0 : Int32) o_undos o_all_r q6 o_undone_r q11 q17 else fX8_reduce_43 (0 : Int32) o_undos o_all_r q6 o_undone_r q11 q17
set_option maxHeartbeats 4000000 in
set_option maxRecDepth 100000 in
theorem c_X8_reduce (l : Launch) (dC : Nat → ClassId) (dI : Nat → Nat → Nat) (ca : Nat → ClassId) (sa : Nat → Nat) (h_o : Nat) (h_o_plans : Nat) (h_o_makers : Nat) (h_o_halves : Nat) (h_o_all : Nat) (h_o_text : Nat) (h_o_saved : Nat) (h_o_undone : Nat) (h_o_told : Nat) (h_o_shift : Nat) (h_o_rootOf : Nat) (h_o_becomes : Nat) (h_o_comes : Nat) (h_o_next : Nat) (sz : Nat) (o_raised : Int32) (o_undos : Int32) (o_reached : Int32) (o_length : Int32) (o_begin : Int32) (o_letters : Int32) (o_sort : Int32) (o_word : Int64) (o_wrongAt : Int32) (o_badAt : Int32) (o_bad : Int32) (o_firstX : Int32) (o_firstY : Int32) (o_secondX : Int32) (o_secondY : Int32) (o_x : Int32) (o_all_r : Nat → Int32) (o_plans_r : Nat → Int32) (o_shift_r : Nat → Int32) (o_undone_r : Nat → Int32) (res : Int32 × Int32 × Int32 × (Nat → Int32) × (Nat → Int32) × (Nat → Int32)) (hf : fX8_reduce o_undos o_all_r o_plans_r o_shift_r o_undone_r = some res) : Met l yX8_reduce (Cond.code yX8_reduce cX8_reduce 4 (some .int) :: ds_gw) { frames := 5, cells := 0, slots := 0, locals := 115 } (va_Pc [.ref h_o] (ds_Pre dC dI ca sa [(h_o, .inr (7, [.ref h_o_plans, .ref h_o_makers, .ref h_o_halves, .int o_raised, .ref h_o_all, .ref h_o_text, .ref h_o_saved, .ref h_o_undone, .int o_undos, .int o_reached, .int o_length, .int o_begin, .int o_letters, .int o_sort, .long o_word, .int o_wrongAt, .int o_badAt, .int o_bad, .ref h_o_told, .ref h_o_shift, .int o_firstX, .int o_firstY, .int o_secondX, .int o_secondY, .ref h_o_rootOf, .ref h_o_becomes, .ref h_o_comes, .ref h_o_next, .int o_x])), (h_o_all, .inl (ca 0, 350, .inl o_all_r)), (h_o_plans, .inl (ca 0, 80, .inl o_plans_r)), (h_o_shift, .inl (ca 3, 768, .inl o_shift_r)), (h_o_undone, .inl (ca 0, 536, .inl o_undone_r))] sz)) (va_Qi (fun r (_ : Unit) => r = res.1) (ds_B dC dI (va_A [(h_o, .inr (7, [.ref h_o_plans, .ref h_o_makers, .ref h_o_halves, .int o_raised, .ref h_o_all, .ref h_o_text, .ref h_o_saved, .ref h_o_undone, .int o_undos, .int o_reached, .int o_length, .int o_begin, .int o_letters, .int o_sort, .long o_word, .int o_wrongAt, .int o_badAt, .int o_bad, .ref h_o_told, .ref h_o_shift, .int o_firstX, .int o_firstY, .int o_secondX, .int o_secondY, .ref h_o_rootOf, .ref h_o_becomes, .ref h_o_comes, .ref h_o_next, .int o_x])), (h_o_all, .inl (ca 0, 350, .inl o_all_r)), (h_o_plans, .inl (ca 0, 80, .inl o_plans_r)), (h_o_shift, .inl (ca 3, 768, .inl o_shift_r)), (h_o_undone, .inl (ca 0, 536, .inl o_undone_r))] sz) [(h_o, .inr (7, [.ref h_o_plans, .ref h_o_makers, .ref h_o_halves, .int res.2.1, .ref h_o_all, .ref h_o_text, .ref h_o_saved, .ref h_o_undone, .int res.2.2.1, .int o_reached, .int o_length, .int o_begin, .int o_letters, .int o_sort, .long o_word, .int o_wrongAt, .int o_badAt, .int o_bad, .ref h_o_told, .ref h_o_shift, .int o_firstX, .int o_firstY, .int o_secondX, .int o_secondY, .ref h_o_rootOf, .ref h_o_becomes, .ref h_o_comes, .ref h_o_next, .int o_x])), (h_o_all, .inl (ca 0, 350, .inl res.2.2.2.1)), (h_o_plans, .inl (ca 0, 80, .inl o_plans_r)), (h_o_shift, .inl (ca 3, 768, .inl res.2.2.2.2.1)), (h_o_undone, .inl (ca 0, 536, .inl res.2.2.2.2.2))]) (va_A [(h_o, .inr (7, [.ref h_o_plans, .ref h_o_makers, .ref h_o_halves, .int o_raised, .ref h_o_all, .ref h_o_text, .ref h_o_saved, .ref h_o_undone, .int o_undos, .int o_reached, .int o_length, .int o_begin, .int o_letters, .int o_sort, .long o_word, .int o_wrongAt, .int o_badAt, .int o_bad, .ref h_o_told, .ref h_o_shift, .int o_firstX, .int o_firstY, .int o_secondX, .int o_secondY, .ref h_o_rootOf, .ref h_o_becomes, .ref h_o_comes, .ref h_o_next, .int o_x])), (h_o_all, .inl (ca 0, 350, .inl o_all_r)), (h_o_plans, .inl (ca 0, 80, .inl o_plans_r)), (h_o_shift, .inl (ca 3, 768, .inl o_shift_r)), (h_o_undone, .inl (ca 0, 536, .inl o_undone_r))] sz)) 0 0 (va_A [(h_o, .inr (7, [.ref h_o_plans, .ref h_o_makers, .ref h_o_halves, .int o_raised, .ref h_o_all, .ref h_o_text, .ref h_o_saved, .ref h_o_undone, .int o_undos, .int o_reached, .int o_length, .int o_begin, .int o_letters, .int o_sort, .long o_word, .int o_wrongAt, .int o_badAt, .int o_bad, .ref h_o_told, .ref h_o_shift, .int o_firstX, .int o_firstY, .int o_secondX, .int o_secondY, .ref h_o_rootOf, .ref h_o_becomes, .ref h_o_comes, .ref h_o_next, .int o_x])), (h_o_all, .inl (ca 0, 350, .inl o_all_r)), (h_o_plans, .inl (ca 0, 80, .inl o_plans_r)), (h_o_shift, .inl (ca 3, 768, .inl o_shift_r)), (h_o_undone, .inl (ca 0, 536, .inl o_undone_r))] sz) := by
  refine Met.ofW (cc := cX8_reduce) (maxL := 4) (ret := (some .int)) (by decide) rfl ?_
  intro p e s m args below meth c s₁ B hml hv
  obtain ⟨rfl, hsz, hP, hK, hD0, hE⟩ := hv
  have hx := B.exec
  have hb := B.bytes
  have hr := B.returns
  have hts := atoms_spec (ws := Cond.code yX8_reduce cX8_reduce 4 (some .int) :: ds_gw) B.pre
  have hg : ∀ {w : Cond}, w ∈ ds_gw → w.before _ s = true := fun h => hts _ (List.mem_cons_of_mem _ h)
  have hown : s.vm.findClass RX8 = some m.cls := findClass_of_methodNamed B.named
  have hlocks := B.notSynchronized
  subst hsz
  have hD := hD0.self (sz := s.heap.size)
  generalize hAe : va_A [(h_o, .inr (7, [.ref h_o_plans, .ref h_o_makers, .ref h_o_halves, .int o_raised, .ref h_o_all, .ref h_o_text, .ref h_o_saved, .ref h_o_undone, .int o_undos, .int o_reached, .int o_length, .int o_begin, .int o_letters, .int o_sort, .long o_word, .int o_wrongAt, .int o_badAt, .int o_bad, .ref h_o_told, .ref h_o_shift, .int o_firstX, .int o_firstY, .int o_secondX, .int o_secondY, .ref h_o_rootOf, .ref h_o_becomes, .ref h_o_comes, .ref h_o_next, .int o_x])), (h_o_all, .inl (ca 0, 350, .inl o_all_r)), (h_o_plans, .inl (ca 0, 80, .inl o_plans_r)), (h_o_shift, .inl (ca 3, 768, .inl o_shift_r)), (h_o_undone, .inl (ca 0, 536, .inl o_undone_r))] s.heap.size = A at hD hE ⊢
  have hA : ∀ q : Nat, s.heap.size ≤ q → A q := fun q h => by rw [← hAe]; exact Or.inr h
  have hS : va_S A s.heap s.heap [] := va_S.rf
  have hl := lv_entry ([.ref h_o]) (n := 4) (Nat.le_of_ble_eq_true rfl)
  rw [lg_entry_eq]
  generalize (lg_sl ([.ref h_o]) ++ List.replicate (4 - (lg_sl ([.ref h_o])).length) Slot.unset).toArray = ls at hl ⊢
  have hl : lv_has ls 4 [(0, .ref h_o)] := hl
  obtain ⟨G0, eG0⟩ : ∃ G : (Int32 × Int32 × Int32 × (Nat → Int32) × (Nat → Int32) × (Nat → Int32)) → Prop, G = (fun r => r = res) := ⟨_, rfl⟩
  obtain ⟨rr, hrr⟩ : ∃ z, z = res := ⟨_, rfl⟩
  rw [← hrr] at hf
  have hG : G0 rr := by subst eG0; exact hrr
  refine ds_cap (fun WW h1 h2 => ?_)
  have J_97 : ∀ (v1 : Int32) (v2 : Int32) (o_raised : Int32) (o_undos : Int32) (o_all_r : Nat → Int32) (o_shift_r : Nat → Int32) (o_undone_r : Nat → Int32) (rr : Int32 × Int32 × Int32 × (Nat → Int32) × (Nat → Int32) × (Nat → Int32)) (hf : fX8_reduce_97 o_raised o_undos o_all_r o_shift_r o_undone_r v1 v2 = some rr) (hG : G0 rr) (H : Heap) (locs : List Loc) (hP : va_P (dC, dI) vwCl [(h_o, .inr (7, [.ref h_o_plans, .ref h_o_makers, .ref h_o_halves, .int o_raised, .ref h_o_all, .ref h_o_text, .ref h_o_saved, .ref h_o_undone, .int o_undos, .int o_reached, .int o_length, .int o_begin, .int o_letters, .int o_sort, .long o_word, .int o_wrongAt, .int o_badAt, .int o_bad, .ref h_o_told, .ref h_o_shift, .int o_firstX, .int o_firstY, .int o_secondX, .int o_secondY, .ref h_o_rootOf, .ref h_o_becomes, .ref h_o_comes, .ref h_o_next, .int o_x])), (h_o_all, .inl (ca 0, 350, .inl o_all_r)), (h_o_plans, .inl (ca 0, 80, .inl o_plans_r)), (h_o_shift, .inl (ca 3, 768, .inl o_shift_r)), (h_o_undone, .inl (ca 0, 536, .inl o_undone_r))] H) (hD : va_D A [(h_o, .inr (7, [.ref h_o_plans, .ref h_o_makers, .ref h_o_halves, .int o_raised, .ref h_o_all, .ref h_o_text, .ref h_o_saved, .ref h_o_undone, .int o_undos, .int o_reached, .int o_length, .int o_begin, .int o_letters, .int o_sort, .long o_word, .int o_wrongAt, .int o_badAt, .int o_bad, .ref h_o_told, .ref h_o_shift, .int o_firstX, .int o_firstY, .int o_secondX, .int o_secondY, .ref h_o_rootOf, .ref h_o_becomes, .ref h_o_comes, .ref h_o_next, .int o_x])), (h_o_all, .inl (ca 0, 350, .inl o_all_r)), (h_o_plans, .inl (ca 0, 80, .inl o_plans_r)), (h_o_shift, .inl (ca 3, 768, .inl o_shift_r)), (h_o_undone, .inl (ca 0, 536, .inl o_undone_r))]) (hS : va_S A s.heap H locs) (ls : Array Slot) (hl : lv_has ls 4 [(0, .ref h_o), (1, .int v1), (2, .int v2)]), WW H locs (F0 m 97 ls []) := by
    intro v1 v2 o_raised o_undos o_all_r o_shift_r o_undone_r rr hf hG H locs hP hD hS ls hl
    refine h2 ?_
    unfold fX8_reduce_97 at hf
    refine lv_aload_n hx hb dX8_reduce_97 rfl (lv_at hl 0 rfl) ?_
    refine va_get (D := (dC, dI)) (ci := 7) (v := .ref h_o_all) (C := RX8) (T := TX8) (N := 29) hx hb hts (fun w h => List.mem_cons_of_mem _ (kc_X8 w h)) hown hK hP 0 rfl rfl 4 (by decide) (hg kw_594) (fun _ h9 => h9) rfl dX8_reduce_98 ?_
    refine lv_iconst (v := 0) hx hb dX8_reduce_101 (by decide) ?_
    refine lv_iload_n hx hb dX8_reduce_102 rfl (lv_at hl 1 rfl) ?_
    refine va_iast hx hb hK hP hD hS 1 0 rfl rfl (ds_in_ok (i := 0) (n := 350) (by decide)) dX8_reduce_103 (fun H locs hP hD hS => ?_)
    have hP : va_P (dC, dI) vwCl [(h_o, .inr (7, [.ref h_o_plans, .ref h_o_makers, .ref h_o_halves, .int o_raised, .ref h_o_all, .ref h_o_text, .ref h_o_saved, .ref h_o_undone, .int o_undos, .int o_reached, .int o_length, .int o_begin, .int o_letters, .int o_sort, .long o_word, .int o_wrongAt, .int o_badAt, .int o_bad, .ref h_o_told, .ref h_o_shift, .int o_firstX, .int o_firstY, .int o_secondX, .int o_secondY, .ref h_o_rootOf, .ref h_o_becomes, .ref h_o_comes, .ref h_o_next, .int o_x])), (h_o_all, .inl (ca 0, 350, .inl (upd o_all_r ((0 : Int32).toNatClampNeg) v1))), (h_o_plans, .inl (ca 0, 80, .inl o_plans_r)), (h_o_shift, .inl (ca 3, 768, .inl o_shift_r)), (h_o_undone, .inl (ca 0, 536, .inl o_undone_r))] H := hP
    have hD : va_D A [(h_o, .inr (7, [.ref h_o_plans, .ref h_o_makers, .ref h_o_halves, .int o_raised, .ref h_o_all, .ref h_o_text, .ref h_o_saved, .ref h_o_undone, .int o_undos, .int o_reached, .int o_length, .int o_begin, .int o_letters, .int o_sort, .long o_word, .int o_wrongAt, .int o_badAt, .int o_bad, .ref h_o_told, .ref h_o_shift, .int o_firstX, .int o_firstY, .int o_secondX, .int o_secondY, .ref h_o_rootOf, .ref h_o_becomes, .ref h_o_comes, .ref h_o_next, .int o_x])), (h_o_all, .inl (ca 0, 350, .inl (upd o_all_r ((0 : Int32).toNatClampNeg) v1))), (h_o_plans, .inl (ca 0, 80, .inl o_plans_r)), (h_o_shift, .inl (ca 3, 768, .inl o_shift_r)), (h_o_undone, .inl (ca 0, 536, .inl o_undone_r))] := hD
    refine lv_aload_n hx hb dX8_reduce_104 rfl (lv_at hl 0 rfl) ?_
    refine va_get (D := (dC, dI)) (ci := 7) (v := .ref h_o_all) (C := RX8) (T := TX8) (N := 29) hx hb hts (fun w h => List.mem_cons_of_mem _ (kc_X8 w h)) hown hK hP 0 rfl rfl 4 (by decide) (hg kw_594) (fun _ h9 => h9) rfl dX8_reduce_105 ?_
    refine lv_iconst (v := 1) hx hb dX8_reduce_108 (by decide) ?_
    refine lv_iload_n hx hb dX8_reduce_109 rfl (lv_at hl 2 rfl) ?_
    refine va_iast hx hb hK hP hD hS 1 0 rfl rfl (ds_in_ok (i := 1) (n := 350) (by decide)) dX8_reduce_110 (fun H locs hP hD hS => ?_)
    have hP : va_P (dC, dI) vwCl [(h_o, .inr (7, [.ref h_o_plans, .ref h_o_makers, .ref h_o_halves, .int o_raised, .ref h_o_all, .ref h_o_text, .ref h_o_saved, .ref h_o_undone, .int o_undos, .int o_reached, .int o_length, .int o_begin, .int o_letters, .int o_sort, .long o_word, .int o_wrongAt, .int o_badAt, .int o_bad, .ref h_o_told, .ref h_o_shift, .int o_firstX, .int o_firstY, .int o_secondX, .int o_secondY, .ref h_o_rootOf, .ref h_o_becomes, .ref h_o_comes, .ref h_o_next, .int o_x])), (h_o_all, .inl (ca 0, 350, .inl (upd (upd o_all_r ((0 : Int32).toNatClampNeg) v1) ((1 : Int32).toNatClampNeg) v2))), (h_o_plans, .inl (ca 0, 80, .inl o_plans_r)), (h_o_shift, .inl (ca 3, 768, .inl o_shift_r)), (h_o_undone, .inl (ca 0, 536, .inl o_undone_r))] H := hP
    have hD : va_D A [(h_o, .inr (7, [.ref h_o_plans, .ref h_o_makers, .ref h_o_halves, .int o_raised, .ref h_o_all, .ref h_o_text, .ref h_o_saved, .ref h_o_undone, .int o_undos, .int o_reached, .int o_length, .int o_begin, .int o_letters, .int o_sort, .long o_word, .int o_wrongAt, .int o_badAt, .int o_bad, .ref h_o_told, .ref h_o_shift, .int o_firstX, .int o_firstY, .int o_secondX, .int o_secondY, .ref h_o_rootOf, .ref h_o_becomes, .ref h_o_comes, .ref h_o_next, .int o_x])), (h_o_all, .inl (ca 0, 350, .inl (upd (upd o_all_r ((0 : Int32).toNatClampNeg) v1) ((1 : Int32).toNatClampNeg) v2))), (h_o_plans, .inl (ca 0, 80, .inl o_plans_r)), (h_o_shift, .inl (ca 3, 768, .inl o_shift_r)), (h_o_undone, .inl (ca 0, 536, .inl o_undone_r))] := hD
    refine lv_iload_n hx hb dX8_reduce_111 rfl (lv_at hl 1 rfl) ?_
    refine lv_iload_n hx hb dX8_reduce_112 rfl (lv_at hl 2 rfl) ?_
    refine lv_imul hx hb dX8_reduce_113 ?_
    have hf := Option.some.inj hf
    subst hf
    rw [eG0] at hG
    have hG : _ = res := hG
    subst hG
    exact W.iret (v := (v1 * v2)) hx hb hr (fun t ht hW => ⟨⟨(v1 * v2), (), rfl, rfl, by rw [ht]; exact hP, hD⟩, hS.F ht⟩) hS.2.2 dX8_reduce_114
  have J_49 : ∀ (v1 : Int32) (v2 : Int32) (o_raised : Int32) (o_undos : Int32) (o_shift_r : Nat → Int32) (o_undone_r : Nat → Int32) (n : Nat) (v3 : Int32) (o_all_r : Nat → Int32) (rr : Int32 × Int32 × Int32 × (Nat → Int32) × (Nat → Int32) × (Nat → Int32)) (hf : ds_it (fun s => fX8_reduce_49_b o_raised o_undos o_shift_r o_undone_r v1 v2 s.1 s.2) n (v3, o_all_r) = some rr) (hG : G0 rr) (H : Heap) (locs : List Loc) (hP : va_P (dC, dI) vwCl [(h_o, .inr (7, [.ref h_o_plans, .ref h_o_makers, .ref h_o_halves, .int o_raised, .ref h_o_all, .ref h_o_text, .ref h_o_saved, .ref h_o_undone, .int o_undos, .int o_reached, .int o_length, .int o_begin, .int o_letters, .int o_sort, .long o_word, .int o_wrongAt, .int o_badAt, .int o_bad, .ref h_o_told, .ref h_o_shift, .int o_firstX, .int o_firstY, .int o_secondX, .int o_secondY, .ref h_o_rootOf, .ref h_o_becomes, .ref h_o_comes, .ref h_o_next, .int o_x])), (h_o_all, .inl (ca 0, 350, .inl o_all_r)), (h_o_plans, .inl (ca 0, 80, .inl o_plans_r)), (h_o_shift, .inl (ca 3, 768, .inl o_shift_r)), (h_o_undone, .inl (ca 0, 536, .inl o_undone_r))] H) (hD : va_D A [(h_o, .inr (7, [.ref h_o_plans, .ref h_o_makers, .ref h_o_halves, .int o_raised, .ref h_o_all, .ref h_o_text, .ref h_o_saved, .ref h_o_undone, .int o_undos, .int o_reached, .int o_length, .int o_begin, .int o_letters, .int o_sort, .long o_word, .int o_wrongAt, .int o_badAt, .int o_bad, .ref h_o_told, .ref h_o_shift, .int o_firstX, .int o_firstY, .int o_secondX, .int o_secondY, .ref h_o_rootOf, .ref h_o_becomes, .ref h_o_comes, .ref h_o_next, .int o_x])), (h_o_all, .inl (ca 0, 350, .inl o_all_r)), (h_o_plans, .inl (ca 0, 80, .inl o_plans_r)), (h_o_shift, .inl (ca 3, 768, .inl o_shift_r)), (h_o_undone, .inl (ca 0, 536, .inl o_undone_r))]) (hS : va_S A s.heap H locs) (ls : Array Slot) (hl : lv_has ls 4 [(0, .ref h_o), (1, .int v1), (2, .int v2), (3, .int v3)]), WW H locs (F0 m 49 ls []) := by
    intro v1 v2 o_raised o_undos o_shift_r o_undone_r n
    induction n with
    | zero => intro v3 o_all_r rr hf; exact (ds_it_zero hf).elim
    | succ n ih49 =>
      intro v3 o_all_r rr hf hG H locs hP hD hS ls hl
      refine h2 ?_
      obtain ⟨rr, hf, hG⟩ := ds_it_succ hf hG
      replace hf : fX8_reduce_49_b o_raised o_undos o_shift_r o_undone_r v1 v2 v3 o_all_r = some rr := hf
      obtain ⟨G1, eG1⟩ : ∃ G : ((Int32 × (Nat → Int32)) ⊕ (Int32 × Int32 × Int32 × (Nat → Int32) × (Nat → Int32) × (Nat → Int32))) → Prop, G = ds_G (fun s' => ∃ r', ds_it (fun s => fX8_reduce_49_b o_raised o_undos o_shift_r o_undone_r v1 v2 s.1 s.2) n s' = some r' ∧ G0 r') G0 := ⟨_, rfl⟩
      rw [← eG1] at hG
      have J_90 : ∀ (v3 : Int32) (s0 : Int32) (s1 : Int32) (o_all_r : Nat → Int32) (rr : (Int32 × (Nat → Int32)) ⊕ (Int32 × Int32 × Int32 × (Nat → Int32) × (Nat → Int32) × (Nat → Int32))) (hf : fX8_reduce_90 o_all_r v3 s0 s1 = some rr) (hG : G1 rr) (H : Heap) (locs : List Loc) (hP : va_P (dC, dI) vwCl [(h_o, .inr (7, [.ref h_o_plans, .ref h_o_makers, .ref h_o_halves, .int o_raised, .ref h_o_all, .ref h_o_text, .ref h_o_saved, .ref h_o_undone, .int o_undos, .int o_reached, .int o_length, .int o_begin, .int o_letters, .int o_sort, .long o_word, .int o_wrongAt, .int o_badAt, .int o_bad, .ref h_o_told, .ref h_o_shift, .int o_firstX, .int o_firstY, .int o_secondX, .int o_secondY, .ref h_o_rootOf, .ref h_o_becomes, .ref h_o_comes, .ref h_o_next, .int o_x])), (h_o_all, .inl (ca 0, 350, .inl o_all_r)), (h_o_plans, .inl (ca 0, 80, .inl o_plans_r)), (h_o_shift, .inl (ca 3, 768, .inl o_shift_r)), (h_o_undone, .inl (ca 0, 536, .inl o_undone_r))] H) (hD : va_D A [(h_o, .inr (7, [.ref h_o_plans, .ref h_o_makers, .ref h_o_halves, .int o_raised, .ref h_o_all, .ref h_o_text, .ref h_o_saved, .ref h_o_undone, .int o_undos, .int o_reached, .int o_length, .int o_begin, .int o_letters, .int o_sort, .long o_word, .int o_wrongAt, .int o_badAt, .int o_bad, .ref h_o_told, .ref h_o_shift, .int o_firstX, .int o_firstY, .int o_secondX, .int o_secondY, .ref h_o_rootOf, .ref h_o_becomes, .ref h_o_comes, .ref h_o_next, .int o_x])), (h_o_all, .inl (ca 0, 350, .inl o_all_r)), (h_o_plans, .inl (ca 0, 80, .inl o_plans_r)), (h_o_shift, .inl (ca 3, 768, .inl o_shift_r)), (h_o_undone, .inl (ca 0, 536, .inl o_undone_r))]) (hS : va_S A s.heap H locs) (ls : Array Slot) (hl : lv_has ls 4 [(0, .ref h_o), (1, .int v1), (2, .int v2), (3, .int v3)]), WW H locs (F0 m 90 ls [.int s0, .int s1, .ref h_o_all]) := by
        intro v3 s0 s1 o_all_r rr hf hG H locs hP hD hS ls hl
        refine h2 ?_
        unfold fX8_reduce_90 at hf
        obtain ⟨i_90, hf⟩ := ds_ci hf
        refine va_iast hx hb hK hP hD hS 1 0 rfl rfl i_90 dX8_reduce_90 (fun H locs hP hD hS => ?_)
        have hP : va_P (dC, dI) vwCl [(h_o, .inr (7, [.ref h_o_plans, .ref h_o_makers, .ref h_o_halves, .int o_raised, .ref h_o_all, .ref h_o_text, .ref h_o_saved, .ref h_o_undone, .int o_undos, .int o_reached, .int o_length, .int o_begin, .int o_letters, .int o_sort, .long o_word, .int o_wrongAt, .int o_badAt, .int o_bad, .ref h_o_told, .ref h_o_shift, .int o_firstX, .int o_firstY, .int o_secondX, .int o_secondY, .ref h_o_rootOf, .ref h_o_becomes, .ref h_o_comes, .ref h_o_next, .int o_x])), (h_o_all, .inl (ca 0, 350, .inl (upd o_all_r s1.toNatClampNeg s0))), (h_o_plans, .inl (ca 0, 80, .inl o_plans_r)), (h_o_shift, .inl (ca 3, 768, .inl o_shift_r)), (h_o_undone, .inl (ca 0, 536, .inl o_undone_r))] H := hP
        have hD : va_D A [(h_o, .inr (7, [.ref h_o_plans, .ref h_o_makers, .ref h_o_halves, .int o_raised, .ref h_o_all, .ref h_o_text, .ref h_o_saved, .ref h_o_undone, .int o_undos, .int o_reached, .int o_length, .int o_begin, .int o_letters, .int o_sort, .long o_word, .int o_wrongAt, .int o_badAt, .int o_bad, .ref h_o_told, .ref h_o_shift, .int o_firstX, .int o_firstY, .int o_secondX, .int o_secondY, .ref h_o_rootOf, .ref h_o_becomes, .ref h_o_comes, .ref h_o_next, .int o_x])), (h_o_all, .inl (ca 0, 350, .inl (upd o_all_r s1.toNatClampNeg s0))), (h_o_plans, .inl (ca 0, 80, .inl o_plans_r)), (h_o_shift, .inl (ca 3, 768, .inl o_shift_r)), (h_o_undone, .inl (ca 0, 536, .inl o_undone_r))] := hD
        refine lv_iinc (v := (v3 + 1)) (lv' := [(3, .int (v3 + 1)), (0, .ref h_o), (1, .int v1), (2, .int v2)]) hx hb dX8_reduce_91 hl (k := 3) rfl rfl (by decide) rfl (fun ls hl => ?_)
        refine lv_goto (tgt := 49) hx hb dX8_reduce_94 (by decide) ?_
        have hf := Option.some.inj hf
        subst hf
        rw [eG1] at hG
        obtain ⟨rr, hf, hG⟩ := hG
        exact h1 (ih49 (v3 + 1) (upd o_all_r s1.toNatClampNeg s0) rr hf hG _ _ hP hD hS _ (lv_sub hl [1, 2, 3, 0] rfl))
      have J_89 : ∀ (v3 : Int32) (s0 : Int32) (o_all_r : Nat → Int32) (rr : (Int32 × (Nat → Int32)) ⊕ (Int32 × Int32 × Int32 × (Nat → Int32) × (Nat → Int32) × (Nat → Int32))) (hf : fX8_reduce_89 o_all_r v3 s0 = some rr) (hG : G1 rr) (H : Heap) (locs : List Loc) (hP : va_P (dC, dI) vwCl [(h_o, .inr (7, [.ref h_o_plans, .ref h_o_makers, .ref h_o_halves, .int o_raised, .ref h_o_all, .ref h_o_text, .ref h_o_saved, .ref h_o_undone, .int o_undos, .int o_reached, .int o_length, .int o_begin, .int o_letters, .int o_sort, .long o_word, .int o_wrongAt, .int o_badAt, .int o_bad, .ref h_o_told, .ref h_o_shift, .int o_firstX, .int o_firstY, .int o_secondX, .int o_secondY, .ref h_o_rootOf, .ref h_o_becomes, .ref h_o_comes, .ref h_o_next, .int o_x])), (h_o_all, .inl (ca 0, 350, .inl o_all_r)), (h_o_plans, .inl (ca 0, 80, .inl o_plans_r)), (h_o_shift, .inl (ca 3, 768, .inl o_shift_r)), (h_o_undone, .inl (ca 0, 536, .inl o_undone_r))] H) (hD : va_D A [(h_o, .inr (7, [.ref h_o_plans, .ref h_o_makers, .ref h_o_halves, .int o_raised, .ref h_o_all, .ref h_o_text, .ref h_o_saved, .ref h_o_undone, .int o_undos, .int o_reached, .int o_length, .int o_begin, .int o_letters, .int o_sort, .long o_word, .int o_wrongAt, .int o_badAt, .int o_bad, .ref h_o_told, .ref h_o_shift, .int o_firstX, .int o_firstY, .int o_secondX, .int o_secondY, .ref h_o_rootOf, .ref h_o_becomes, .ref h_o_comes, .ref h_o_next, .int o_x])), (h_o_all, .inl (ca 0, 350, .inl o_all_r)), (h_o_plans, .inl (ca 0, 80, .inl o_plans_r)), (h_o_shift, .inl (ca 3, 768, .inl o_shift_r)), (h_o_undone, .inl (ca 0, 536, .inl o_undone_r))]) (hS : va_S A s.heap H locs) (ls : Array Slot) (hl : lv_has ls 4 [(0, .ref h_o), (1, .int v1), (2, .int v2), (3, .int v3)]), WW H locs (F0 m 89 ls [.int s0, .ref h_o_all]) := by
        intro v3 s0 o_all_r rr hf hG H locs hP hD hS ls hl
        refine h2 ?_
        unfold fX8_reduce_89 at hf
        refine lv_iconst (v := 0) hx hb dX8_reduce_89 (by decide) ?_
        exact h1 (J_90 v3 (0 : Int32) s0 o_all_r _ hf hG _ _ hP hD hS _ (lv_sub hl [0, 1, 2, 3] rfl))
      unfold fX8_reduce_49_b at hf
      refine lv_iload_n hx hb dX8_reduce_49 rfl (lv_at hl 3 rfl) ?_
      refine lv_bipush (v := 64) hx hb dX8_reduce_50 (by decide) ?_
      refine lv_icmp_ge (tgt := 97) hx hb dX8_reduce_52 (by decide) (fun c_52 => ?_) (fun c_52 => ?_)
      · replace hf := ds_t c_52 hf
        obtain ⟨rr, hr_0, hf⟩ := ds_ob hf
        have hf := Option.some.inj hf
        subst hf
        rw [eG1] at hG
        replace hG : G0 rr := hG
        have hf := hr_0
        exact h1 (J_97 v1 v2 o_raised o_undos o_all_r o_shift_r o_undone_r _ hf hG _ _ hP hD hS _ (lv_sub hl [0, 1, 2] rfl))
      · replace hf := ds_f c_52 hf
        refine lv_aload_n hx hb dX8_reduce_55 rfl (lv_at hl 0 rfl) ?_
        refine va_get (D := (dC, dI)) (ci := 7) (v := .ref h_o_all) (C := RX8) (T := TX8) (N := 29) hx hb hts (fun w h => List.mem_cons_of_mem _ (kc_X8 w h)) hown hK hP 0 rfl rfl 4 (by decide) (hg kw_594) (fun _ h9 => h9) rfl dX8_reduce_56 ?_
        refine lv_iconst (v := 3) hx hb dX8_reduce_59 (by decide) ?_
        refine lv_iload_n hx hb dX8_reduce_60 rfl (lv_at hl 3 rfl) ?_
        refine lv_iadd hx hb dX8_reduce_61 ?_
        refine lv_iload_n hx hb dX8_reduce_62 rfl (lv_at hl 3 rfl) ?_
        refine lv_bipush (v := 8) hx hb dX8_reduce_63 (by decide) ?_
        refine lv_irem hx hb dX8_reduce_65 (by decide) ?_
        refine lv_iload_n hx hb dX8_reduce_66 rfl (lv_at hl 1 rfl) ?_
        refine lv_icmp_ge (tgt := 89) hx hb dX8_reduce_67 (by decide) (fun c_67 => ?_) (fun c_67 => ?_)
        · replace hf := ds_t c_67 hf
          exact h1 (J_89 v3 ((3 : Int32) + v3) o_all_r _ hf hG _ _ hP hD hS _ (lv_sub hl [0, 1, 2, 3] rfl))
        · replace hf := ds_f c_67 hf
          refine lv_iload_n hx hb dX8_reduce_70 rfl (lv_at hl 3 rfl) ?_
          refine lv_bipush (v := 8) hx hb dX8_reduce_71 (by decide) ?_
          refine lv_idiv hx hb dX8_reduce_73 (by decide) ?_
          refine lv_iload_n hx hb dX8_reduce_74 rfl (lv_at hl 2 rfl) ?_
          refine lv_icmp_ge (tgt := 89) hx hb dX8_reduce_75 (by decide) (fun c_75 => ?_) (fun c_75 => ?_)
          · replace hf := ds_t c_75 hf
            exact h1 (J_89 v3 ((3 : Int32) + v3) o_all_r _ hf hG _ _ hP hD hS _ (lv_sub hl [0, 1, 2, 3] rfl))
          · replace hf := ds_f c_75 hf
            refine lv_aload_n hx hb dX8_reduce_78 rfl (lv_at hl 0 rfl) ?_
            refine va_get (D := (dC, dI)) (ci := 7) (v := .ref h_o_all) (C := RX8) (T := TX8) (N := 29) hx hb hts (fun w h => List.mem_cons_of_mem _ (kc_X8 w h)) hown hK hP 0 rfl rfl 4 (by decide) (hg kw_594) (fun _ h9 => h9) rfl dX8_reduce_79 ?_
            refine lv_iconst (v := 3) hx hb dX8_reduce_82 (by decide) ?_
            refine lv_iload_n hx hb dX8_reduce_83 rfl (lv_at hl 3 rfl) ?_
            refine lv_iadd hx hb dX8_reduce_84 ?_
            obtain ⟨i_85, hf⟩ := ds_ci hf
            refine va_iald hx hb hK hP 1 0 rfl rfl i_85 dX8_reduce_85 ?_
            refine lv_goto (tgt := 90) hx hb dX8_reduce_86 (by decide) ?_
            exact h1 (J_90 v3 (o_all_r ((3 : Int32) + v3).toNatClampNeg) ((3 : Int32) + v3) o_all_r _ hf hG _ _ hP hD hS _ (lv_sub hl [0, 1, 2, 3] rfl))
  have J_43 : ∀ (v1 : Int32) (v2 : Int32) (o_raised : Int32) (o_undos : Int32) (o_all_r : Nat → Int32) (o_shift_r : Nat → Int32) (o_undone_r : Nat → Int32) (rr : Int32 × Int32 × Int32 × (Nat → Int32) × (Nat → Int32) × (Nat → Int32)) (hf : fX8_reduce_43 o_raised o_undos o_all_r o_shift_r o_undone_r v1 v2 = some rr) (hG : G0 rr) (H : Heap) (locs : List Loc) (hP : va_P (dC, dI) vwCl [(h_o, .inr (7, [.ref h_o_plans, .ref h_o_makers, .ref h_o_halves, .int o_raised, .ref h_o_all, .ref h_o_text, .ref h_o_saved, .ref h_o_undone, .int o_undos, .int o_reached, .int o_length, .int o_begin, .int o_letters, .int o_sort, .long o_word, .int o_wrongAt, .int o_badAt, .int o_bad, .ref h_o_told, .ref h_o_shift, .int o_firstX, .int o_firstY, .int o_secondX, .int o_secondY, .ref h_o_rootOf, .ref h_o_becomes, .ref h_o_comes, .ref h_o_next, .int o_x])), (h_o_all, .inl (ca 0, 350, .inl o_all_r)), (h_o_plans, .inl (ca 0, 80, .inl o_plans_r)), (h_o_shift, .inl (ca 3, 768, .inl o_shift_r)), (h_o_undone, .inl (ca 0, 536, .inl o_undone_r))] H) (hD : va_D A [(h_o, .inr (7, [.ref h_o_plans, .ref h_o_makers, .ref h_o_halves, .int o_raised, .ref h_o_all, .ref h_o_text, .ref h_o_saved, .ref h_o_undone, .int o_undos, .int o_reached, .int o_length, .int o_begin, .int o_letters, .int o_sort, .long o_word, .int o_wrongAt, .int o_badAt, .int o_bad, .ref h_o_told, .ref h_o_shift, .int o_firstX, .int o_firstY, .int o_secondX, .int o_secondY, .ref h_o_rootOf, .ref h_o_becomes, .ref h_o_comes, .ref h_o_next, .int o_x])), (h_o_all, .inl (ca 0, 350, .inl o_all_r)), (h_o_plans, .inl (ca 0, 80, .inl o_plans_r)), (h_o_shift, .inl (ca 3, 768, .inl o_shift_r)), (h_o_undone, .inl (ca 0, 536, .inl o_undone_r))]) (hS : va_S A s.heap H locs) (ls : Array Slot) (hl : lv_has ls 4 [(0, .ref h_o), (1, .int v1), (2, .int v2)]), WW H locs (F0 m 43 ls []) := by
    intro v1 v2 o_raised o_undos o_all_r o_shift_r o_undone_r rr hf hG H locs hP hD hS ls hl
    refine h2 ?_
    unfold fX8_reduce_43 at hf
    refine lv_aload_n hx hb dX8_reduce_43 rfl (lv_at hl 0 rfl) ?_
    obtain ⟨q44, hq44, hf⟩ := ds_ob hf
    refine ds_callv (wr := [(h_o_plans, .inl (ca 0, 80, .inl o_plans_r)), (h_o_shift, .inl (ca 3, 768, .inl o_shift_r))]) (va_runV (As := []) (rest := []) ⟨hx, hb, hml, hown, hts⟩ (c_X8_keeps l dC dI ca sa h_o h_o_plans h_o_makers h_o_halves h_o_all h_o_text h_o_saved h_o_undone h_o_told h_o_shift h_o_rootOf h_o_becomes h_o_comes h_o_next H.size o_raised o_undos o_reached o_length o_begin o_letters o_sort o_word o_wrongAt o_badAt o_bad o_firstX o_firstY o_secondX o_secondY o_x o_undone_r o_all_r  q44 hq44) (cwV 0 hts (ds_gV kw_849 kw_850 kw_851 kw_597 kw_852) rfl rfl rfl (by decide +kernel) ⟨Nat.le_of_ble_eq_true rfl, Nat.le_of_ble_eq_true rfl⟩) ⟨ds_blind, va_recv hK hP (ci := 7) (q0 := 0) rfl rfl, ds_at hP hD hK hE hS hA [0, 4, 1] rfl rfl _⟩ rfl rfl hl.1 rfl (lv_room (Nat.le_of_ble_eq_true rfl)) dX8_reduce_44 ⟨Nat.zero_le _, Nat.zero_le _⟩) hP hD hS hA [0, 4, 1] [2, 3] rfl rfl rfl (by decide) (fun H locs hP hD hS => ?_)
    have hP : va_P (dC, dI) vwCl [(h_o_plans, .inl (ca 0, 80, .inl o_plans_r)), (h_o_shift, .inl (ca 3, 768, .inl o_shift_r)), (h_o, .inr (7, [.ref h_o_plans, .ref h_o_makers, .ref h_o_halves, .int o_raised, .ref h_o_all, .ref h_o_text, .ref h_o_saved, .ref h_o_undone, .int q44.1, .int o_reached, .int o_length, .int o_begin, .int o_letters, .int o_sort, .long o_word, .int o_wrongAt, .int o_badAt, .int o_bad, .ref h_o_told, .ref h_o_shift, .int o_firstX, .int o_firstY, .int o_secondX, .int o_secondY, .ref h_o_rootOf, .ref h_o_becomes, .ref h_o_comes, .ref h_o_next, .int o_x])), (h_o_undone, .inl (ca 0, 536, .inl q44.2)), (h_o_all, .inl (ca 0, 350, .inl o_all_r))] H := hP
    have hD : va_D A [(h_o_plans, .inl (ca 0, 80, .inl o_plans_r)), (h_o_shift, .inl (ca 3, 768, .inl o_shift_r)), (h_o, .inr (7, [.ref h_o_plans, .ref h_o_makers, .ref h_o_halves, .int o_raised, .ref h_o_all, .ref h_o_text, .ref h_o_saved, .ref h_o_undone, .int q44.1, .int o_reached, .int o_length, .int o_begin, .int o_letters, .int o_sort, .long o_word, .int o_wrongAt, .int o_badAt, .int o_bad, .ref h_o_told, .ref h_o_shift, .int o_firstX, .int o_firstY, .int o_secondX, .int o_secondY, .ref h_o_rootOf, .ref h_o_becomes, .ref h_o_comes, .ref h_o_next, .int o_x])), (h_o_undone, .inl (ca 0, 536, .inl q44.2)), (h_o_all, .inl (ca 0, 350, .inl o_all_r))] := hD
    refine lv_iconst (v := 0) hx hb dX8_reduce_47 (by decide) ?_
    refine lv_istore_n (lv' := [(3, .int (0 : Int32)), (0, .ref h_o), (1, .int v1), (2, .int v2)]) hx hb dX8_reduce_48 rfl hl (by decide) rfl (fun ls hl => ?_)
    exact h1 (J_49 v1 v2 o_raised q44.1 o_shift_r q44.2 1000 (0 : Int32) o_all_r _ hf hG _ _ (hP.sub [2, 4, 0, 1, 3] rfl) (hD.sub [2, 4, 0, 1, 3] rfl rfl) hS _ (lv_sub hl [1, 2, 3, 0] rfl))
  unfold fX8_reduce at hf
  refine lv_aload_n hx hb dX8_reduce_0 rfl (lv_at hl 0 rfl) ?_
  refine lv_iconst (v := 0) hx hb dX8_reduce_1 (by decide) ?_
  refine va_put (D := (dC, dI)) (ci := 7) (v := .int (0 : Int32)) (ty := tyX8 3) (C := RX8) (T := TX8) (N := 29) hx hb hts (fun w h => List.mem_cons_of_mem _ (kc_X8 w h)) tyX8 tyX8_ok nmX8 hown hK hP hD hS 0 rfl rfl 3 (by decide) (hg kw_564) (fun _ h9 => h9) rfl (by decide +kernel) rfl rfl (Nat.le_of_ble_eq_true rfl) dX8_reduce_2 (fun H locs hP hD hS => ?_)
  have hP : va_P (dC, dI) vwCl [(h_o, .inr (7, [.ref h_o_plans, .ref h_o_makers, .ref h_o_halves, .int (0 : Int32), .ref h_o_all, .ref h_o_text, .ref h_o_saved, .ref h_o_undone, .int o_undos, .int o_reached, .int o_length, .int o_begin, .int o_letters, .int o_sort, .long o_word, .int o_wrongAt, .int o_badAt, .int o_bad, .ref h_o_told, .ref h_o_shift, .int o_firstX, .int o_firstY, .int o_secondX, .int o_secondY, .ref h_o_rootOf, .ref h_o_becomes, .ref h_o_comes, .ref h_o_next, .int o_x])), (h_o_all, .inl (ca 0, 350, .inl o_all_r)), (h_o_plans, .inl (ca 0, 80, .inl o_plans_r)), (h_o_shift, .inl (ca 3, 768, .inl o_shift_r)), (h_o_undone, .inl (ca 0, 536, .inl o_undone_r))] H := hP
  have hD : va_D A [(h_o, .inr (7, [.ref h_o_plans, .ref h_o_makers, .ref h_o_halves, .int (0 : Int32), .ref h_o_all, .ref h_o_text, .ref h_o_saved, .ref h_o_undone, .int o_undos, .int o_reached, .int o_length, .int o_begin, .int o_letters, .int o_sort, .long o_word, .int o_wrongAt, .int o_badAt, .int o_bad, .ref h_o_told, .ref h_o_shift, .int o_firstX, .int o_firstY, .int o_secondX, .int o_secondY, .ref h_o_rootOf, .ref h_o_becomes, .ref h_o_comes, .ref h_o_next, .int o_x])), (h_o_all, .inl (ca 0, 350, .inl o_all_r)), (h_o_plans, .inl (ca 0, 80, .inl o_plans_r)), (h_o_shift, .inl (ca 3, 768, .inl o_shift_r)), (h_o_undone, .inl (ca 0, 536, .inl o_undone_r))] := hD
  refine lv_aload_n hx hb dX8_reduce_5 rfl (lv_at hl 0 rfl) ?_
  obtain ⟨q6, hq6, hf⟩ := ds_ob hf
  refine ds_callv (wr := [(h_o_undone, .inl (ca 0, 536, .inl o_undone_r))]) (va_runV (As := []) (rest := []) ⟨hx, hb, hml, hown, hts⟩ (c_X8_laysShifts l dC dI ca sa h_o h_o_plans h_o_makers h_o_halves h_o_all h_o_text h_o_saved h_o_undone h_o_told h_o_shift h_o_rootOf h_o_becomes h_o_comes h_o_next H.size (0 : Int32) o_undos o_reached o_length o_begin o_letters o_sort o_word o_wrongAt o_badAt o_bad o_firstX o_firstY o_secondX o_secondY o_x o_all_r o_plans_r o_shift_r  q6 hq6) (cwV 0 hts (ds_gV kw_764 kw_765 kw_766 kw_597 kw_767) rfl rfl rfl (by decide +kernel) ⟨Nat.le_of_ble_eq_true rfl, Nat.le_of_ble_eq_true rfl⟩) ⟨ds_blind, va_recv hK hP (ci := 7) (q0 := 0) rfl rfl, ds_at hP hD hK hE hS hA [0, 1, 2, 3] rfl rfl _⟩ rfl rfl hl.1 rfl (lv_room (Nat.le_of_ble_eq_true rfl)) dX8_reduce_6 ⟨Nat.zero_le _, Nat.zero_le _⟩) hP hD hS hA [0, 1, 2, 3] [4] rfl rfl rfl (by decide) (fun H locs hP hD hS => ?_)
  have hP : va_P (dC, dI) vwCl [(h_o_undone, .inl (ca 0, 536, .inl o_undone_r)), (h_o, .inr (7, [.ref h_o_plans, .ref h_o_makers, .ref h_o_halves, .int (0 : Int32), .ref h_o_all, .ref h_o_text, .ref h_o_saved, .ref h_o_undone, .int o_undos, .int o_reached, .int o_length, .int o_begin, .int o_letters, .int o_sort, .long o_word, .int o_wrongAt, .int o_badAt, .int o_bad, .ref h_o_told, .ref h_o_shift, .int o_firstX, .int o_firstY, .int o_secondX, .int o_secondY, .ref h_o_rootOf, .ref h_o_becomes, .ref h_o_comes, .ref h_o_next, .int o_x])), (h_o_all, .inl (ca 0, 350, .inl o_all_r)), (h_o_plans, .inl (ca 0, 80, .inl o_plans_r)), (h_o_shift, .inl (ca 3, 768, .inl q6))] H := hP
  have hD : va_D A [(h_o_undone, .inl (ca 0, 536, .inl o_undone_r)), (h_o, .inr (7, [.ref h_o_plans, .ref h_o_makers, .ref h_o_halves, .int (0 : Int32), .ref h_o_all, .ref h_o_text, .ref h_o_saved, .ref h_o_undone, .int o_undos, .int o_reached, .int o_length, .int o_begin, .int o_letters, .int o_sort, .long o_word, .int o_wrongAt, .int o_badAt, .int o_bad, .ref h_o_told, .ref h_o_shift, .int o_firstX, .int o_firstY, .int o_secondX, .int o_secondY, .ref h_o_rootOf, .ref h_o_becomes, .ref h_o_comes, .ref h_o_next, .int o_x])), (h_o_all, .inl (ca 0, 350, .inl o_all_r)), (h_o_plans, .inl (ca 0, 80, .inl o_plans_r)), (h_o_shift, .inl (ca 3, 768, .inl q6))] := hD
  refine lv_aload_n hx hb dX8_reduce_9 rfl (lv_at hl 0 rfl) ?_
  refine lv_iconst (v := 0) hx hb dX8_reduce_10 (by decide) ?_
  obtain ⟨q11, hq11, hf⟩ := ds_ob hf
  refine ds_calli (wr := [(h_o_undone, .inl (ca 0, 536, .inl o_undone_r)), (h_o_plans, .inl (ca 0, 80, .inl o_plans_r))]) (va_runV (As := [.int (0 : Int32)]) (rest := []) ⟨hx, hb, hml, hown, hts⟩ (c_X8_leastStep l dC dI ca sa h_o h_o_plans h_o_makers h_o_halves h_o_all h_o_text h_o_saved h_o_undone h_o_told h_o_shift h_o_rootOf h_o_becomes h_o_comes h_o_next H.size (0 : Int32) o_undos o_reached o_length o_begin o_letters o_sort o_word o_wrongAt o_badAt o_bad o_firstX o_firstY o_secondX o_secondY o_x o_all_r q6 (0 : Int32) q11 hq11) (cwV 1 hts (ds_gV kw_868 kw_869 kw_870 kw_597 kw_871) rfl rfl rfl (by decide +kernel) ⟨Nat.le_of_ble_eq_true rfl, Nat.le_of_ble_eq_true rfl⟩) ⟨ds_blind, va_recv hK hP (ci := 7) (q0 := 1) rfl rfl, ds_at hP hD hK hE hS hA [1, 2, 4] rfl rfl _⟩ rfl rfl hl.1 rfl (lv_room (Nat.le_of_ble_eq_true rfl)) dX8_reduce_11 ⟨Nat.zero_le _, Nat.zero_le _⟩) hP hD hS hA [1, 2, 4] [0, 3] rfl rfl rfl (by decide) (fun H locs hP hD hS => ?_)
  have hP : va_P (dC, dI) vwCl [(h_o_undone, .inl (ca 0, 536, .inl o_undone_r)), (h_o_plans, .inl (ca 0, 80, .inl o_plans_r)), (h_o, .inr (7, [.ref h_o_plans, .ref h_o_makers, .ref h_o_halves, .int (0 : Int32), .ref h_o_all, .ref h_o_text, .ref h_o_saved, .ref h_o_undone, .int o_undos, .int o_reached, .int o_length, .int o_begin, .int o_letters, .int o_sort, .long o_word, .int o_wrongAt, .int o_badAt, .int o_bad, .ref h_o_told, .ref h_o_shift, .int o_firstX, .int o_firstY, .int o_secondX, .int o_secondY, .ref h_o_rootOf, .ref h_o_becomes, .ref h_o_comes, .ref h_o_next, .int o_x])), (h_o_all, .inl (ca 0, 350, .inl o_all_r)), (h_o_shift, .inl (ca 3, 768, .inl q6))] H := hP
  have hD : va_D A [(h_o_undone, .inl (ca 0, 536, .inl o_undone_r)), (h_o_plans, .inl (ca 0, 80, .inl o_plans_r)), (h_o, .inr (7, [.ref h_o_plans, .ref h_o_makers, .ref h_o_halves, .int (0 : Int32), .ref h_o_all, .ref h_o_text, .ref h_o_saved, .ref h_o_undone, .int o_undos, .int o_reached, .int o_length, .int o_begin, .int o_letters, .int o_sort, .long o_word, .int o_wrongAt, .int o_badAt, .int o_bad, .ref h_o_told, .ref h_o_shift, .int o_firstX, .int o_firstY, .int o_secondX, .int o_secondY, .ref h_o_rootOf, .ref h_o_becomes, .ref h_o_comes, .ref h_o_next, .int o_x])), (h_o_all, .inl (ca 0, 350, .inl o_all_r)), (h_o_shift, .inl (ca 3, 768, .inl q6))] := hD
  refine lv_istore_n (lv' := [(1, .int q11), (0, .ref h_o)]) hx hb dX8_reduce_14 rfl hl (by decide) rfl (fun ls hl => ?_)
  refine lv_aload_n hx hb dX8_reduce_15 rfl (lv_at hl 1 rfl) ?_
  refine lv_iconst (v := 1) hx hb dX8_reduce_16 (by decide) ?_
  obtain ⟨q17, hq17, hf⟩ := ds_ob hf
  refine ds_calli (wr := [(h_o_undone, .inl (ca 0, 536, .inl o_undone_r)), (h_o_plans, .inl (ca 0, 80, .inl o_plans_r))]) (va_runV (As := [.int (1 : Int32)]) (rest := []) ⟨hx, hb, hml, hown, hts⟩ (c_X8_leastStep l dC dI ca sa h_o h_o_plans h_o_makers h_o_halves h_o_all h_o_text h_o_saved h_o_undone h_o_told h_o_shift h_o_rootOf h_o_becomes h_o_comes h_o_next H.size (0 : Int32) o_undos o_reached o_length o_begin o_letters o_sort o_word o_wrongAt o_badAt o_bad o_firstX o_firstY o_secondX o_secondY o_x o_all_r q6 (1 : Int32) q17 hq17) (cwV 1 hts (ds_gV kw_868 kw_869 kw_870 kw_597 kw_871) rfl rfl rfl (by decide +kernel) ⟨Nat.le_of_ble_eq_true rfl, Nat.le_of_ble_eq_true rfl⟩) ⟨ds_blind, va_recv hK hP (ci := 7) (q0 := 2) rfl rfl, ds_at hP hD hK hE hS hA [2, 3, 4] rfl rfl _⟩ rfl rfl hl.1 rfl (lv_room (Nat.le_of_ble_eq_true rfl)) dX8_reduce_17 ⟨Nat.zero_le _, Nat.zero_le _⟩) hP hD hS hA [2, 3, 4] [0, 1] rfl rfl rfl (by decide) (fun H locs hP hD hS => ?_)
  have hP : va_P (dC, dI) vwCl [(h_o_undone, .inl (ca 0, 536, .inl o_undone_r)), (h_o_plans, .inl (ca 0, 80, .inl o_plans_r)), (h_o, .inr (7, [.ref h_o_plans, .ref h_o_makers, .ref h_o_halves, .int (0 : Int32), .ref h_o_all, .ref h_o_text, .ref h_o_saved, .ref h_o_undone, .int o_undos, .int o_reached, .int o_length, .int o_begin, .int o_letters, .int o_sort, .long o_word, .int o_wrongAt, .int o_badAt, .int o_bad, .ref h_o_told, .ref h_o_shift, .int o_firstX, .int o_firstY, .int o_secondX, .int o_secondY, .ref h_o_rootOf, .ref h_o_becomes, .ref h_o_comes, .ref h_o_next, .int o_x])), (h_o_all, .inl (ca 0, 350, .inl o_all_r)), (h_o_shift, .inl (ca 3, 768, .inl q6))] H := hP
  have hD : va_D A [(h_o_undone, .inl (ca 0, 536, .inl o_undone_r)), (h_o_plans, .inl (ca 0, 80, .inl o_plans_r)), (h_o, .inr (7, [.ref h_o_plans, .ref h_o_makers, .ref h_o_halves, .int (0 : Int32), .ref h_o_all, .ref h_o_text, .ref h_o_saved, .ref h_o_undone, .int o_undos, .int o_reached, .int o_length, .int o_begin, .int o_letters, .int o_sort, .long o_word, .int o_wrongAt, .int o_badAt, .int o_bad, .ref h_o_told, .ref h_o_shift, .int o_firstX, .int o_firstY, .int o_secondX, .int o_secondY, .ref h_o_rootOf, .ref h_o_becomes, .ref h_o_comes, .ref h_o_next, .int o_x])), (h_o_all, .inl (ca 0, 350, .inl o_all_r)), (h_o_shift, .inl (ca 3, 768, .inl q6))] := hD
  refine lv_istore_n (lv' := [(2, .int q17), (1, .int q11), (0, .ref h_o)]) hx hb dX8_reduce_20 rfl hl (by decide) rfl (fun ls hl => ?_)
  refine lv_iload_n hx hb dX8_reduce_21 rfl (lv_at hl 1 rfl) ?_
  refine lv_aload_n hx hb dX8_reduce_22 rfl (lv_at hl 2 rfl) ?_
  refine va_get (D := (dC, dI)) (ci := 7) (v := .ref h_o_all) (C := RX8) (T := TX8) (N := 29) hx hb hts (fun w h => List.mem_cons_of_mem _ (kc_X8 w h)) hown hK hP 2 rfl rfl 4 (by decide) (hg kw_594) (fun _ h9 => h9) rfl dX8_reduce_23 ?_
  refine lv_iconst (v := 0) hx hb dX8_reduce_26 (by decide) ?_
  refine va_iald hx hb hK hP 3 0 rfl rfl (ds_in_ok (i := 0) (n := 350) (by decide)) dX8_reduce_27 ?_
  refine lv_icmp_ne (tgt := 43) hx hb dX8_reduce_28 (by decide) (fun c_28 => ?_) (fun c_28 => ?_)
  · replace hf := ds_f c_28 hf
    exact h1 (J_43 q11 q17 (0 : Int32) o_undos o_all_r q6 o_undone_r _ hf hG _ _ (hP.sub [2, 3, 1, 4, 0] rfl) (hD.sub [2, 3, 1, 4, 0] rfl rfl) hS _ (lv_sub hl [2, 1, 0] rfl))
  · replace hf := ds_t c_28 hf
    refine lv_iload_n hx hb dX8_reduce_31 rfl (lv_at hl 0 rfl) ?_
    refine lv_aload_n hx hb dX8_reduce_32 rfl (lv_at hl 2 rfl) ?_
    refine va_get (D := (dC, dI)) (ci := 7) (v := .ref h_o_all) (C := RX8) (T := TX8) (N := 29) hx hb hts (fun w h => List.mem_cons_of_mem _ (kc_X8 w h)) hown hK hP 2 rfl rfl 4 (by decide) (hg kw_594) (fun _ h9 => h9) rfl dX8_reduce_33 ?_
    refine lv_iconst (v := 1) hx hb dX8_reduce_36 (by decide) ?_
    refine va_iald hx hb hK hP 3 0 rfl rfl (ds_in_ok (i := 1) (n := 350) (by decide)) dX8_reduce_37 ?_
    refine lv_icmp_ne (tgt := 43) hx hb dX8_reduce_38 (by decide) (fun c_38 => ?_) (fun c_38 => ?_)
    · replace hf := ds_f c_38 hf
      exact h1 (J_43 q11 q17 (0 : Int32) o_undos o_all_r q6 o_undone_r _ hf hG _ _ (hP.sub [2, 3, 1, 4, 0] rfl) (hD.sub [2, 3, 1, 4, 0] rfl rfl) hS _ (lv_sub hl [2, 1, 0] rfl))
    · replace hf := ds_t c_38 hf
      refine lv_iconst (v := -1) hx hb dX8_reduce_41 (by decide) ?_
      have hf := Option.some.inj hf
      subst hf
      rw [eG0] at hG
      have hG : _ = res := hG
      subst hG
      exact W.iret (v := (-1 : Int32)) hx hb hr (fun t ht hW => ⟨⟨(-1 : Int32), (), rfl, rfl, by rw [ht]; exact (hP.sub [2, 3, 1, 4, 0] rfl), (hD.sub [2, 3, 1, 4, 0] rfl rfl)⟩, hS.F ht⟩) hS.2.2 dX8_reduce_42
theorem dX8_painted_0 : decode cX8_painted 0 = .ok (.aload_n 0, 1) := by decide +kernel
theorem dX8_painted_1 : decode cX8_painted 1 = .ok (.iconst 0, 1) := by decide +kernel
theorem dX8_painted_2 : decode cX8_painted 2 = .ok (.putfield 51, 3) := by decide +kernel
theorem dX8_painted_5 : decode cX8_painted 5 = .ok (.aload_n 0, 1) := by decide +kernel
theorem dX8_painted_6 : decode cX8_painted 6 = .ok (.iload_n 1, 1) := by decide +kernel
theorem dX8_painted_7 : decode cX8_painted 7 = .ok (.iload_n 2, 1) := by decide +kernel
theorem dX8_painted_8 : decode cX8_painted 8 = .ok (.invokevirtual 284, 3) := by decide +kernel
theorem dX8_painted_11 : decode cX8_painted 11 = .ok (.ifCond .eq 12, 3) := by decide +kernel
theorem dX8_painted_14 : decode cX8_painted 14 = .ok (.iload_n 3, 1) := by decide +kernel
theorem dX8_painted_15 : decode cX8_painted 15 = .ok (.iconst 0, 1) := by decide +kernel
theorem dX8_painted_16 : decode cX8_painted 16 = .ok (.iconst 3, 1) := by decide +kernel
theorem dX8_painted_17 : decode cX8_painted 17 = .ok (.invokestatic 90, 3) := by decide +kernel
theorem dX8_painted_20 : decode cX8_painted 20 = .ok (.ifCond .ne 5, 3) := by decide +kernel
theorem dX8_painted_23 : decode cX8_painted 23 = .ok (.iconst (-1), 1) := by decide +kernel
theorem dX8_painted_24 : decode cX8_painted 24 = .ok (.ireturn, 1) := by decide +kernel
theorem dX8_painted_25 : decode cX8_painted 25 = .ok (.aload_n 0, 1) := by decide +kernel
theorem dX8_painted_26 : decode cX8_painted 26 = .ok (.iload_n 1, 1) := by decide +kernel
theorem dX8_painted_27 : decode cX8_painted 27 = .ok (.iload_n 2, 1) := by decide +kernel
theorem dX8_painted_28 : decode cX8_painted 28 = .ok (.invokevirtual 127, 3) := by decide +kernel
theorem dX8_painted_31 : decode cX8_painted 31 = .ok (.istore 4, 2) := by decide +kernel
theorem dX8_painted_33 : decode cX8_painted 33 = .ok (.aload_n 0, 1) := by decide +kernel
theorem dX8_painted_34 : decode cX8_painted 34 = .ok (.getfield 19, 3) := by decide +kernel
theorem dX8_painted_37 : decode cX8_painted 37 = .ok (.iconst 3, 1) := by decide +kernel
theorem dX8_painted_38 : decode cX8_painted 38 = .ok (.bipush 8, 2) := by decide +kernel
theorem dX8_painted_40 : decode cX8_painted 40 = .ok (.iload_n 2, 1) := by decide +kernel
theorem dX8_painted_41 : decode cX8_painted 41 = .ok (.imul, 1) := by decide +kernel
theorem dX8_painted_42 : decode cX8_painted 42 = .ok (.iadd, 1) := by decide +kernel
theorem dX8_painted_43 : decode cX8_painted 43 = .ok (.iload_n 1, 1) := by decide +kernel
theorem dX8_painted_44 : decode cX8_painted 44 = .ok (.iadd, 1) := by decide +kernel
theorem dX8_painted_45 : decode cX8_painted 45 = .ok (.iload_n 3, 1) := by decide +kernel
theorem dX8_painted_46 : decode cX8_painted 46 = .ok (.iastore, 1) := by decide +kernel
theorem dX8_painted_47 : decode cX8_painted 47 = .ok (.aload_n 0, 1) := by decide +kernel
theorem dX8_painted_48 : decode cX8_painted 48 = .ok (.invokevirtual 227, 3) := by decide +kernel
theorem dX8_painted_51 : decode cX8_painted 51 = .ok (.aload_n 0, 1) := by decide +kernel
theorem dX8_painted_52 : decode cX8_painted 52 = .ok (.invokevirtual 230, 3) := by decide +kernel
theorem dX8_painted_55 : decode cX8_painted 55 = .ok (.istore 5, 2) := by decide +kernel
theorem dX8_painted_57 : decode cX8_painted 57 = .ok (.aload_n 0, 1) := by decide +kernel
theorem dX8_painted_58 : decode cX8_painted 58 = .ok (.getfield 19, 3) := by decide +kernel
theorem dX8_painted_61 : decode cX8_painted 61 = .ok (.iconst 3, 1) := by decide +kernel
theorem dX8_painted_62 : decode cX8_painted 62 = .ok (.bipush 8, 2) := by decide +kernel
theorem dX8_painted_64 : decode cX8_painted 64 = .ok (.iload_n 2, 1) := by decide +kernel
theorem dX8_painted_65 : decode cX8_painted 65 = .ok (.imul, 1) := by decide +kernel
theorem dX8_painted_66 : decode cX8_painted 66 = .ok (.iadd, 1) := by decide +kernel
theorem dX8_painted_67 : decode cX8_painted 67 = .ok (.iload_n 1, 1) := by decide +kernel
theorem dX8_painted_68 : decode cX8_painted 68 = .ok (.iadd, 1) := by decide +kernel
theorem dX8_painted_69 : decode cX8_painted 69 = .ok (.iload 4, 2) := by decide +kernel
theorem dX8_painted_71 : decode cX8_painted 71 = .ok (.iastore, 1) := by decide +kernel
theorem dX8_painted_72 : decode cX8_painted 72 = .ok (.iload 5, 2) := by decide +kernel
theorem dX8_painted_74 : decode cX8_painted 74 = .ok (.ireturn, 1) := by decide +kernel
def fX8_painted (o_firstX : Int32) (o_firstY : Int32) (o_secondX : Int32) (o_secondY : Int32) (o_all_r : Nat → Int32) (o_plans_r : Nat → Int32) (o_shift_r : Nat → Int32) (p1 : Int32) (p2 : Int32) (p3 : Int32) : Option (Int32 × Int32 × Int32 × Int32 × Int32 × Int32 × (Nat → Int32) × (Nat → Int32)) :=
  Option.bind (fX8_isCell o_all_r p1 p2) fun q8 => if q8 = 0 then some ((-1 : Int32), (0 : Int32), o_firstX, o_firstY, o_secondX, o_secondY, o_all_r, o_shift_r) else Option.bind (fX8_in p3 (0 : Int32) (3 : Int32)) fun q17 => if q17 = 0 then some ((-1 : Int32), (0 : Int32), o_firstX, o_firstY, o_secondX, o_secondY, o_all_r, o_shift_r) else Option.bind (fX8_colour o_all_r p1 p2) fun q28 => if ds_in (((3 : Int32) + ((8 : Int32) * p2)) + p1) 350 = true then Option.bind (fX8_laysShifts (upd o_all_r ((((3 : Int32) + ((8 : Int32) * p2)) + p1).toNatClampNeg) p3) o_plans_r o_shift_r) fun q48 => Option.bind (fX8_cls (upd o_all_r ((((3 : Int32) + ((8 : Int32) * p2)) + p1).toNatClampNeg) p3) q48 o_plans_r) fun q52 => if ds_in (((3 : Int32) + ((8 : Int32) * p2)) + p1) 350 = true then some (q52.1, (0 : Int32), q52.2.1, q52.2.2.1, q52.2.2.2.1, q52.2.2.2.2, (upd (upd o_all_r ((((3 : Int32) + ((8 : Int32) * p2)) + p1).toNatClampNeg) p3) ((((3 : Int32) + ((8 : Int32) * p2)) + p1).toNatClampNeg) q28), q48) else none else none
set_option maxHeartbeats 4000000 in
set_option maxRecDepth 100000 in
theorem c_X8_painted (l : Launch) (dC : Nat → ClassId) (dI : Nat → Nat → Nat) (ca : Nat → ClassId) (sa : Nat → Nat) (h_o : Nat) (h_o_plans : Nat) (h_o_makers : Nat) (h_o_halves : Nat) (h_o_all : Nat) (h_o_text : Nat) (h_o_saved : Nat) (h_o_undone : Nat) (h_o_told : Nat) (h_o_shift : Nat) (h_o_rootOf : Nat) (h_o_becomes : Nat) (h_o_comes : Nat) (h_o_next : Nat) (sz : Nat) (o_raised : Int32) (o_undos : Int32) (o_reached : Int32) (o_length : Int32) (o_begin : Int32) (o_letters : Int32) (o_sort : Int32) (o_word : Int64) (o_wrongAt : Int32) (o_badAt : Int32) (o_bad : Int32) (o_firstX : Int32) (o_firstY : Int32) (o_secondX : Int32) (o_secondY : Int32) (o_x : Int32) (o_all_r : Nat → Int32) (o_plans_r : Nat → Int32) (o_shift_r : Nat → Int32) (p1 : Int32) (p2 : Int32) (p3 : Int32) (res : Int32 × Int32 × Int32 × Int32 × Int32 × Int32 × (Nat → Int32) × (Nat → Int32)) (hf : fX8_painted o_firstX o_firstY o_secondX o_secondY o_all_r o_plans_r o_shift_r p1 p2 p3 = some res) : Met l yX8_painted (Cond.code yX8_painted cX8_painted 6 (some .int) :: ds_gw) { frames := 7, cells := 0, slots := 0, locals := 162 } (va_Pc [.ref h_o, .int p1, .int p2, .int p3] (ds_Pre dC dI ca sa [(h_o, .inr (7, [.ref h_o_plans, .ref h_o_makers, .ref h_o_halves, .int o_raised, .ref h_o_all, .ref h_o_text, .ref h_o_saved, .ref h_o_undone, .int o_undos, .int o_reached, .int o_length, .int o_begin, .int o_letters, .int o_sort, .long o_word, .int o_wrongAt, .int o_badAt, .int o_bad, .ref h_o_told, .ref h_o_shift, .int o_firstX, .int o_firstY, .int o_secondX, .int o_secondY, .ref h_o_rootOf, .ref h_o_becomes, .ref h_o_comes, .ref h_o_next, .int o_x])), (h_o_all, .inl (ca 0, 350, .inl o_all_r)), (h_o_plans, .inl (ca 0, 80, .inl o_plans_r)), (h_o_shift, .inl (ca 3, 768, .inl o_shift_r))] sz)) (va_Qi (fun r (_ : Unit) => r = res.1) (ds_B dC dI (va_A [(h_o, .inr (7, [.ref h_o_plans, .ref h_o_makers, .ref h_o_halves, .int o_raised, .ref h_o_all, .ref h_o_text, .ref h_o_saved, .ref h_o_undone, .int o_undos, .int o_reached, .int o_length, .int o_begin, .int o_letters, .int o_sort, .long o_word, .int o_wrongAt, .int o_badAt, .int o_bad, .ref h_o_told, .ref h_o_shift, .int o_firstX, .int o_firstY, .int o_secondX, .int o_secondY, .ref h_o_rootOf, .ref h_o_becomes, .ref h_o_comes, .ref h_o_next, .int o_x])), (h_o_all, .inl (ca 0, 350, .inl o_all_r)), (h_o_plans, .inl (ca 0, 80, .inl o_plans_r)), (h_o_shift, .inl (ca 3, 768, .inl o_shift_r))] sz) [(h_o, .inr (7, [.ref h_o_plans, .ref h_o_makers, .ref h_o_halves, .int res.2.1, .ref h_o_all, .ref h_o_text, .ref h_o_saved, .ref h_o_undone, .int o_undos, .int o_reached, .int o_length, .int o_begin, .int o_letters, .int o_sort, .long o_word, .int o_wrongAt, .int o_badAt, .int o_bad, .ref h_o_told, .ref h_o_shift, .int res.2.2.1, .int res.2.2.2.1, .int res.2.2.2.2.1, .int res.2.2.2.2.2.1, .ref h_o_rootOf, .ref h_o_becomes, .ref h_o_comes, .ref h_o_next, .int o_x])), (h_o_all, .inl (ca 0, 350, .inl res.2.2.2.2.2.2.1)), (h_o_plans, .inl (ca 0, 80, .inl o_plans_r)), (h_o_shift, .inl (ca 3, 768, .inl res.2.2.2.2.2.2.2))]) (va_A [(h_o, .inr (7, [.ref h_o_plans, .ref h_o_makers, .ref h_o_halves, .int o_raised, .ref h_o_all, .ref h_o_text, .ref h_o_saved, .ref h_o_undone, .int o_undos, .int o_reached, .int o_length, .int o_begin, .int o_letters, .int o_sort, .long o_word, .int o_wrongAt, .int o_badAt, .int o_bad, .ref h_o_told, .ref h_o_shift, .int o_firstX, .int o_firstY, .int o_secondX, .int o_secondY, .ref h_o_rootOf, .ref h_o_becomes, .ref h_o_comes, .ref h_o_next, .int o_x])), (h_o_all, .inl (ca 0, 350, .inl o_all_r)), (h_o_plans, .inl (ca 0, 80, .inl o_plans_r)), (h_o_shift, .inl (ca 3, 768, .inl o_shift_r))] sz)) 0 0 (va_A [(h_o, .inr (7, [.ref h_o_plans, .ref h_o_makers, .ref h_o_halves, .int o_raised, .ref h_o_all, .ref h_o_text, .ref h_o_saved, .ref h_o_undone, .int o_undos, .int o_reached, .int o_length, .int o_begin, .int o_letters, .int o_sort, .long o_word, .int o_wrongAt, .int o_badAt, .int o_bad, .ref h_o_told, .ref h_o_shift, .int o_firstX, .int o_firstY, .int o_secondX, .int o_secondY, .ref h_o_rootOf, .ref h_o_becomes, .ref h_o_comes, .ref h_o_next, .int o_x])), (h_o_all, .inl (ca 0, 350, .inl o_all_r)), (h_o_plans, .inl (ca 0, 80, .inl o_plans_r)), (h_o_shift, .inl (ca 3, 768, .inl o_shift_r))] sz) := by
  refine Met.ofW (cc := cX8_painted) (maxL := 6) (ret := (some .int)) (by decide) rfl ?_
  intro p e s m args below meth c s₁ B hml hv
  obtain ⟨rfl, hsz, hP, hK, hD0, hE⟩ := hv
  have hx := B.exec
  have hb := B.bytes
  have hr := B.returns
  have hts := atoms_spec (ws := Cond.code yX8_painted cX8_painted 6 (some .int) :: ds_gw) B.pre
  have hg : ∀ {w : Cond}, w ∈ ds_gw → w.before _ s = true := fun h => hts _ (List.mem_cons_of_mem _ h)
  have hown : s.vm.findClass RX8 = some m.cls := findClass_of_methodNamed B.named
  have hlocks := B.notSynchronized
  subst hsz
  have hD := hD0.self (sz := s.heap.size)
  generalize hAe : va_A [(h_o, .inr (7, [.ref h_o_plans, .ref h_o_makers, .ref h_o_halves, .int o_raised, .ref h_o_all, .ref h_o_text, .ref h_o_saved, .ref h_o_undone, .int o_undos, .int o_reached, .int o_length, .int o_begin, .int o_letters, .int o_sort, .long o_word, .int o_wrongAt, .int o_badAt, .int o_bad, .ref h_o_told, .ref h_o_shift, .int o_firstX, .int o_firstY, .int o_secondX, .int o_secondY, .ref h_o_rootOf, .ref h_o_becomes, .ref h_o_comes, .ref h_o_next, .int o_x])), (h_o_all, .inl (ca 0, 350, .inl o_all_r)), (h_o_plans, .inl (ca 0, 80, .inl o_plans_r)), (h_o_shift, .inl (ca 3, 768, .inl o_shift_r))] s.heap.size = A at hD hE ⊢
  have hA : ∀ q : Nat, s.heap.size ≤ q → A q := fun q h => by rw [← hAe]; exact Or.inr h
  have hS : va_S A s.heap s.heap [] := va_S.rf
  have hl := lv_entry ([.ref h_o, .int p1, .int p2, .int p3]) (n := 6) (Nat.le_of_ble_eq_true rfl)
  rw [lg_entry_eq]
  generalize (lg_sl ([.ref h_o, .int p1, .int p2, .int p3]) ++ List.replicate (6 - (lg_sl ([.ref h_o, .int p1, .int p2, .int p3])).length) Slot.unset).toArray = ls at hl ⊢
  have hl : lv_has ls 6 [(0, .ref h_o), (1, .int p1), (2, .int p2), (3, .int p3)] := hl
  obtain ⟨G0, eG0⟩ : ∃ G : (Int32 × Int32 × Int32 × Int32 × Int32 × Int32 × (Nat → Int32) × (Nat → Int32)) → Prop, G = (fun r => r = res) := ⟨_, rfl⟩
  obtain ⟨rr, hrr⟩ : ∃ z, z = res := ⟨_, rfl⟩
  rw [← hrr] at hf
  have hG : G0 rr := by subst eG0; exact hrr
  unfold fX8_painted at hf
  refine lv_aload_n hx hb dX8_painted_0 rfl (lv_at hl 0 rfl) ?_
  refine lv_iconst (v := 0) hx hb dX8_painted_1 (by decide) ?_
  refine va_put (D := (dC, dI)) (ci := 7) (v := .int (0 : Int32)) (ty := tyX8 3) (C := RX8) (T := TX8) (N := 29) hx hb hts (fun w h => List.mem_cons_of_mem _ (kc_X8 w h)) tyX8 tyX8_ok nmX8 hown hK hP hD hS 0 rfl rfl 3 (by decide) (hg kw_564) (fun _ h9 => h9) rfl (by decide +kernel) rfl rfl (Nat.le_of_ble_eq_true rfl) dX8_painted_2 (fun H locs hP hD hS => ?_)
  have hP : va_P (dC, dI) vwCl [(h_o, .inr (7, [.ref h_o_plans, .ref h_o_makers, .ref h_o_halves, .int (0 : Int32), .ref h_o_all, .ref h_o_text, .ref h_o_saved, .ref h_o_undone, .int o_undos, .int o_reached, .int o_length, .int o_begin, .int o_letters, .int o_sort, .long o_word, .int o_wrongAt, .int o_badAt, .int o_bad, .ref h_o_told, .ref h_o_shift, .int o_firstX, .int o_firstY, .int o_secondX, .int o_secondY, .ref h_o_rootOf, .ref h_o_becomes, .ref h_o_comes, .ref h_o_next, .int o_x])), (h_o_all, .inl (ca 0, 350, .inl o_all_r)), (h_o_plans, .inl (ca 0, 80, .inl o_plans_r)), (h_o_shift, .inl (ca 3, 768, .inl o_shift_r))] H := hP
  have hD : va_D A [(h_o, .inr (7, [.ref h_o_plans, .ref h_o_makers, .ref h_o_halves, .int (0 : Int32), .ref h_o_all, .ref h_o_text, .ref h_o_saved, .ref h_o_undone, .int o_undos, .int o_reached, .int o_length, .int o_begin, .int o_letters, .int o_sort, .long o_word, .int o_wrongAt, .int o_badAt, .int o_bad, .ref h_o_told, .ref h_o_shift, .int o_firstX, .int o_firstY, .int o_secondX, .int o_secondY, .ref h_o_rootOf, .ref h_o_becomes, .ref h_o_comes, .ref h_o_next, .int o_x])), (h_o_all, .inl (ca 0, 350, .inl o_all_r)), (h_o_plans, .inl (ca 0, 80, .inl o_plans_r)), (h_o_shift, .inl (ca 3, 768, .inl o_shift_r))] := hD
  refine lv_aload_n hx hb dX8_painted_5 rfl (lv_at hl 0 rfl) ?_
  refine lv_iload_n hx hb dX8_painted_6 rfl (lv_at hl 1 rfl) ?_
  refine lv_iload_n hx hb dX8_painted_7 rfl (lv_at hl 2 rfl) ?_
  obtain ⟨q8, hq8, hf⟩ := ds_ob hf
  refine ds_calli (wr := [(h_o_plans, .inl (ca 0, 80, .inl o_plans_r)), (h_o_shift, .inl (ca 3, 768, .inl o_shift_r))]) (va_runV (As := [.int p1, .int p2]) (rest := []) ⟨hx, hb, hml, hown, hts⟩ (c_X8_isCell l dC dI ca sa h_o h_o_plans h_o_makers h_o_halves h_o_all h_o_text h_o_saved h_o_undone h_o_told h_o_shift h_o_rootOf h_o_becomes h_o_comes h_o_next H.size (0 : Int32) o_undos o_reached o_length o_begin o_letters o_sort o_word o_wrongAt o_badAt o_bad o_firstX o_firstY o_secondX o_secondY o_x o_all_r p1 p2 q8 hq8) (cwV 2 hts (ds_gV kw_844 kw_845 kw_846 kw_597 kw_847) rfl rfl rfl (by decide +kernel) ⟨Nat.le_of_ble_eq_true rfl, Nat.le_of_ble_eq_true rfl⟩) ⟨ds_blind, va_recv hK hP (ci := 7) (q0 := 0) rfl rfl, ds_at hP hD hK hE hS hA [0, 1] rfl rfl _⟩ rfl rfl hl.1 rfl (lv_room (Nat.le_of_ble_eq_true rfl)) dX8_painted_8 ⟨Nat.zero_le _, Nat.zero_le _⟩) hP hD hS hA [0, 1] [2, 3] rfl rfl rfl (by decide) (fun H locs hP hD hS => ?_)
  have hP : va_P (dC, dI) vwCl [(h_o_plans, .inl (ca 0, 80, .inl o_plans_r)), (h_o_shift, .inl (ca 3, 768, .inl o_shift_r)), (h_o, .inr (7, [.ref h_o_plans, .ref h_o_makers, .ref h_o_halves, .int (0 : Int32), .ref h_o_all, .ref h_o_text, .ref h_o_saved, .ref h_o_undone, .int o_undos, .int o_reached, .int o_length, .int o_begin, .int o_letters, .int o_sort, .long o_word, .int o_wrongAt, .int o_badAt, .int o_bad, .ref h_o_told, .ref h_o_shift, .int o_firstX, .int o_firstY, .int o_secondX, .int o_secondY, .ref h_o_rootOf, .ref h_o_becomes, .ref h_o_comes, .ref h_o_next, .int o_x])), (h_o_all, .inl (ca 0, 350, .inl o_all_r))] H := hP
  have hD : va_D A [(h_o_plans, .inl (ca 0, 80, .inl o_plans_r)), (h_o_shift, .inl (ca 3, 768, .inl o_shift_r)), (h_o, .inr (7, [.ref h_o_plans, .ref h_o_makers, .ref h_o_halves, .int (0 : Int32), .ref h_o_all, .ref h_o_text, .ref h_o_saved, .ref h_o_undone, .int o_undos, .int o_reached, .int o_length, .int o_begin, .int o_letters, .int o_sort, .long o_word, .int o_wrongAt, .int o_badAt, .int o_bad, .ref h_o_told, .ref h_o_shift, .int o_firstX, .int o_firstY, .int o_secondX, .int o_secondY, .ref h_o_rootOf, .ref h_o_becomes, .ref h_o_comes, .ref h_o_next, .int o_x])), (h_o_all, .inl (ca 0, 350, .inl o_all_r))] := hD
  refine lv_if_eq (tgt := 23) hx hb dX8_painted_11 (by decide) (fun c_11 => ?_) (fun c_11 => ?_)
  · replace hf := ds_t c_11 hf
    refine lv_iconst (v := -1) hx hb dX8_painted_23 (by decide) ?_
    have hf := Option.some.inj hf
    subst hf
    rw [eG0] at hG
    have hG : _ = res := hG
    subst hG
    exact W.iret (v := (-1 : Int32)) hx hb hr (fun t ht hW => ⟨⟨(-1 : Int32), (), rfl, rfl, by rw [ht]; exact (hP.sub [2, 3, 0, 1] rfl), (hD.sub [2, 3, 0, 1] rfl rfl)⟩, hS.F ht⟩) hS.2.2 dX8_painted_24
  · replace hf := ds_f c_11 hf
    refine lv_iload_n hx hb dX8_painted_14 rfl (lv_at hl 3 rfl) ?_
    refine lv_iconst (v := 0) hx hb dX8_painted_15 (by decide) ?_
    refine lv_iconst (v := 3) hx hb dX8_painted_16 (by decide) ?_
    obtain ⟨q17, hq17, hf⟩ := ds_ob hf
    refine ds_calli (wr := [(h_o_plans, .inl (ca 0, 80, .inl o_plans_r)), (h_o_shift, .inl (ca 3, 768, .inl o_shift_r)), (h_o, .inr (7, [.ref h_o_plans, .ref h_o_makers, .ref h_o_halves, .int (0 : Int32), .ref h_o_all, .ref h_o_text, .ref h_o_saved, .ref h_o_undone, .int o_undos, .int o_reached, .int o_length, .int o_begin, .int o_letters, .int o_sort, .long o_word, .int o_wrongAt, .int o_badAt, .int o_bad, .ref h_o_told, .ref h_o_shift, .int o_firstX, .int o_firstY, .int o_secondX, .int o_secondY, .ref h_o_rootOf, .ref h_o_becomes, .ref h_o_comes, .ref h_o_next, .int o_x])), (h_o_all, .inl (ca 0, 350, .inl o_all_r))]) (va_runS (As := [.int p3, .int (0 : Int32), .int (3 : Int32)]) (rest := []) ⟨hx, hb, hml, hown, hts⟩ (c_X8_in l dC dI ca sa  H.size  p3 (0 : Int32) (3 : Int32) q17 hq17) (va_cwS 3 hts (ds_gS kw_619 kw_620 kw_597 kw_621) rfl rfl rfl (by decide +kernel) ⟨Nat.le_of_ble_eq_true rfl, Nat.le_of_ble_eq_true rfl⟩) ⟨ds_blind, ds_at hP hD hK hE hS hA [] rfl rfl _⟩ rfl rfl hl.1 rfl (lv_room (Nat.le_of_ble_eq_true rfl)) dX8_painted_17 ⟨Nat.zero_le _, Nat.zero_le _⟩) hP hD hS hA [] [0, 1, 2, 3] rfl rfl rfl (by decide) (fun H locs hP hD hS => ?_)
    have hP : va_P (dC, dI) vwCl [(h_o_plans, .inl (ca 0, 80, .inl o_plans_r)), (h_o_shift, .inl (ca 3, 768, .inl o_shift_r)), (h_o, .inr (7, [.ref h_o_plans, .ref h_o_makers, .ref h_o_halves, .int (0 : Int32), .ref h_o_all, .ref h_o_text, .ref h_o_saved, .ref h_o_undone, .int o_undos, .int o_reached, .int o_length, .int o_begin, .int o_letters, .int o_sort, .long o_word, .int o_wrongAt, .int o_badAt, .int o_bad, .ref h_o_told, .ref h_o_shift, .int o_firstX, .int o_firstY, .int o_secondX, .int o_secondY, .ref h_o_rootOf, .ref h_o_becomes, .ref h_o_comes, .ref h_o_next, .int o_x])), (h_o_all, .inl (ca 0, 350, .inl o_all_r))] H := hP
    have hD : va_D A [(h_o_plans, .inl (ca 0, 80, .inl o_plans_r)), (h_o_shift, .inl (ca 3, 768, .inl o_shift_r)), (h_o, .inr (7, [.ref h_o_plans, .ref h_o_makers, .ref h_o_halves, .int (0 : Int32), .ref h_o_all, .ref h_o_text, .ref h_o_saved, .ref h_o_undone, .int o_undos, .int o_reached, .int o_length, .int o_begin, .int o_letters, .int o_sort, .long o_word, .int o_wrongAt, .int o_badAt, .int o_bad, .ref h_o_told, .ref h_o_shift, .int o_firstX, .int o_firstY, .int o_secondX, .int o_secondY, .ref h_o_rootOf, .ref h_o_becomes, .ref h_o_comes, .ref h_o_next, .int o_x])), (h_o_all, .inl (ca 0, 350, .inl o_all_r))] := hD
    refine lv_if_ne (tgt := 25) hx hb dX8_painted_20 (by decide) (fun c_20 => ?_) (fun c_20 => ?_)
    · replace hf := ds_f c_20 hf
      refine lv_aload_n hx hb dX8_painted_25 rfl (lv_at hl 0 rfl) ?_
      refine lv_iload_n hx hb dX8_painted_26 rfl (lv_at hl 1 rfl) ?_
      refine lv_iload_n hx hb dX8_painted_27 rfl (lv_at hl 2 rfl) ?_
      obtain ⟨q28, hq28, hf⟩ := ds_ob hf
      refine ds_calli (wr := [(h_o_plans, .inl (ca 0, 80, .inl o_plans_r)), (h_o_shift, .inl (ca 3, 768, .inl o_shift_r))]) (va_runV (As := [.int p1, .int p2]) (rest := []) ⟨hx, hb, hml, hown, hts⟩ (c_X8_colour l dC dI ca sa h_o h_o_plans h_o_makers h_o_halves h_o_all h_o_text h_o_saved h_o_undone h_o_told h_o_shift h_o_rootOf h_o_becomes h_o_comes h_o_next H.size (0 : Int32) o_undos o_reached o_length o_begin o_letters o_sort o_word o_wrongAt o_badAt o_bad o_firstX o_firstY o_secondX o_secondY o_x o_all_r p1 p2 q28 hq28) (cwV 2 hts (ds_gV kw_651 kw_652 kw_653 kw_597 kw_654) rfl rfl rfl (by decide +kernel) ⟨Nat.le_of_ble_eq_true rfl, Nat.le_of_ble_eq_true rfl⟩) ⟨ds_blind, va_recv hK hP (ci := 7) (q0 := 2) rfl rfl, ds_at hP hD hK hE hS hA [2, 3] rfl rfl _⟩ rfl rfl hl.1 rfl (lv_room (Nat.le_of_ble_eq_true rfl)) dX8_painted_28 ⟨Nat.zero_le _, Nat.zero_le _⟩) hP hD hS hA [2, 3] [0, 1] rfl rfl rfl (by decide) (fun H locs hP hD hS => ?_)
      have hP : va_P (dC, dI) vwCl [(h_o_plans, .inl (ca 0, 80, .inl o_plans_r)), (h_o_shift, .inl (ca 3, 768, .inl o_shift_r)), (h_o, .inr (7, [.ref h_o_plans, .ref h_o_makers, .ref h_o_halves, .int (0 : Int32), .ref h_o_all, .ref h_o_text, .ref h_o_saved, .ref h_o_undone, .int o_undos, .int o_reached, .int o_length, .int o_begin, .int o_letters, .int o_sort, .long o_word, .int o_wrongAt, .int o_badAt, .int o_bad, .ref h_o_told, .ref h_o_shift, .int o_firstX, .int o_firstY, .int o_secondX, .int o_secondY, .ref h_o_rootOf, .ref h_o_becomes, .ref h_o_comes, .ref h_o_next, .int o_x])), (h_o_all, .inl (ca 0, 350, .inl o_all_r))] H := hP
      have hD : va_D A [(h_o_plans, .inl (ca 0, 80, .inl o_plans_r)), (h_o_shift, .inl (ca 3, 768, .inl o_shift_r)), (h_o, .inr (7, [.ref h_o_plans, .ref h_o_makers, .ref h_o_halves, .int (0 : Int32), .ref h_o_all, .ref h_o_text, .ref h_o_saved, .ref h_o_undone, .int o_undos, .int o_reached, .int o_length, .int o_begin, .int o_letters, .int o_sort, .long o_word, .int o_wrongAt, .int o_badAt, .int o_bad, .ref h_o_told, .ref h_o_shift, .int o_firstX, .int o_firstY, .int o_secondX, .int o_secondY, .ref h_o_rootOf, .ref h_o_becomes, .ref h_o_comes, .ref h_o_next, .int o_x])), (h_o_all, .inl (ca 0, 350, .inl o_all_r))] := hD
      refine lv_istore (lv' := [(4, .int q28), (0, .ref h_o), (1, .int p1), (2, .int p2), (3, .int p3)]) hx hb dX8_painted_31 hl (by decide) rfl (fun ls hl => ?_)
      refine lv_aload_n hx hb dX8_painted_33 rfl (lv_at hl 1 rfl) ?_
      refine va_get (D := (dC, dI)) (ci := 7) (v := .ref h_o_all) (C := RX8) (T := TX8) (N := 29) hx hb hts (fun w h => List.mem_cons_of_mem _ (kc_X8 w h)) hown hK hP 2 rfl rfl 4 (by decide) (hg kw_594) (fun _ h9 => h9) rfl dX8_painted_34 ?_
      refine lv_iconst (v := 3) hx hb dX8_painted_37 (by decide) ?_
      refine lv_bipush (v := 8) hx hb dX8_painted_38 (by decide) ?_
      refine lv_iload_n hx hb dX8_painted_40 rfl (lv_at hl 3 rfl) ?_
      refine lv_imul hx hb dX8_painted_41 ?_
      refine lv_iadd hx hb dX8_painted_42 ?_
      refine lv_iload_n hx hb dX8_painted_43 rfl (lv_at hl 2 rfl) ?_
      refine lv_iadd hx hb dX8_painted_44 ?_
      refine lv_iload_n hx hb dX8_painted_45 rfl (lv_at hl 4 rfl) ?_
      obtain ⟨i_46, hf⟩ := ds_ci hf
      refine va_iast hx hb hK hP hD hS 3 0 rfl rfl i_46 dX8_painted_46 (fun H locs hP hD hS => ?_)
      have hP : va_P (dC, dI) vwCl [(h_o_plans, .inl (ca 0, 80, .inl o_plans_r)), (h_o_shift, .inl (ca 3, 768, .inl o_shift_r)), (h_o, .inr (7, [.ref h_o_plans, .ref h_o_makers, .ref h_o_halves, .int (0 : Int32), .ref h_o_all, .ref h_o_text, .ref h_o_saved, .ref h_o_undone, .int o_undos, .int o_reached, .int o_length, .int o_begin, .int o_letters, .int o_sort, .long o_word, .int o_wrongAt, .int o_badAt, .int o_bad, .ref h_o_told, .ref h_o_shift, .int o_firstX, .int o_firstY, .int o_secondX, .int o_secondY, .ref h_o_rootOf, .ref h_o_becomes, .ref h_o_comes, .ref h_o_next, .int o_x])), (h_o_all, .inl (ca 0, 350, .inl (upd o_all_r ((((3 : Int32) + ((8 : Int32) * p2)) + p1).toNatClampNeg) p3)))] H := hP
      have hD : va_D A [(h_o_plans, .inl (ca 0, 80, .inl o_plans_r)), (h_o_shift, .inl (ca 3, 768, .inl o_shift_r)), (h_o, .inr (7, [.ref h_o_plans, .ref h_o_makers, .ref h_o_halves, .int (0 : Int32), .ref h_o_all, .ref h_o_text, .ref h_o_saved, .ref h_o_undone, .int o_undos, .int o_reached, .int o_length, .int o_begin, .int o_letters, .int o_sort, .long o_word, .int o_wrongAt, .int o_badAt, .int o_bad, .ref h_o_told, .ref h_o_shift, .int o_firstX, .int o_firstY, .int o_secondX, .int o_secondY, .ref h_o_rootOf, .ref h_o_becomes, .ref h_o_comes, .ref h_o_next, .int o_x])), (h_o_all, .inl (ca 0, 350, .inl (upd o_all_r ((((3 : Int32) + ((8 : Int32) * p2)) + p1).toNatClampNeg) p3)))] := hD
      refine lv_aload_n hx hb dX8_painted_47 rfl (lv_at hl 1 rfl) ?_
      obtain ⟨q48, hq48, hf⟩ := ds_ob hf
      refine ds_callv (wr := []) (va_runV (As := []) (rest := []) ⟨hx, hb, hml, hown, hts⟩ (c_X8_laysShifts l dC dI ca sa h_o h_o_plans h_o_makers h_o_halves h_o_all h_o_text h_o_saved h_o_undone h_o_told h_o_shift h_o_rootOf h_o_becomes h_o_comes h_o_next H.size (0 : Int32) o_undos o_reached o_length o_begin o_letters o_sort o_word o_wrongAt o_badAt o_bad o_firstX o_firstY o_secondX o_secondY o_x (upd o_all_r ((((3 : Int32) + ((8 : Int32) * p2)) + p1).toNatClampNeg) p3) o_plans_r o_shift_r  q48 hq48) (cwV 0 hts (ds_gV kw_764 kw_765 kw_766 kw_597 kw_767) rfl rfl rfl (by decide +kernel) ⟨Nat.le_of_ble_eq_true rfl, Nat.le_of_ble_eq_true rfl⟩) ⟨ds_blind, va_recv hK hP (ci := 7) (q0 := 2) rfl rfl, ds_at hP hD hK hE hS hA [2, 3, 0, 1] rfl rfl _⟩ rfl rfl hl.1 rfl (lv_room (Nat.le_of_ble_eq_true rfl)) dX8_painted_48 ⟨Nat.zero_le _, Nat.zero_le _⟩) hP hD hS hA [2, 3, 0, 1] [] rfl rfl rfl (by decide) (fun H locs hP hD hS => ?_)
      have hP : va_P (dC, dI) vwCl [(h_o, .inr (7, [.ref h_o_plans, .ref h_o_makers, .ref h_o_halves, .int (0 : Int32), .ref h_o_all, .ref h_o_text, .ref h_o_saved, .ref h_o_undone, .int o_undos, .int o_reached, .int o_length, .int o_begin, .int o_letters, .int o_sort, .long o_word, .int o_wrongAt, .int o_badAt, .int o_bad, .ref h_o_told, .ref h_o_shift, .int o_firstX, .int o_firstY, .int o_secondX, .int o_secondY, .ref h_o_rootOf, .ref h_o_becomes, .ref h_o_comes, .ref h_o_next, .int o_x])), (h_o_all, .inl (ca 0, 350, .inl (upd o_all_r ((((3 : Int32) + ((8 : Int32) * p2)) + p1).toNatClampNeg) p3))), (h_o_plans, .inl (ca 0, 80, .inl o_plans_r)), (h_o_shift, .inl (ca 3, 768, .inl q48))] H := hP
      have hD : va_D A [(h_o, .inr (7, [.ref h_o_plans, .ref h_o_makers, .ref h_o_halves, .int (0 : Int32), .ref h_o_all, .ref h_o_text, .ref h_o_saved, .ref h_o_undone, .int o_undos, .int o_reached, .int o_length, .int o_begin, .int o_letters, .int o_sort, .long o_word, .int o_wrongAt, .int o_badAt, .int o_bad, .ref h_o_told, .ref h_o_shift, .int o_firstX, .int o_firstY, .int o_secondX, .int o_secondY, .ref h_o_rootOf, .ref h_o_becomes, .ref h_o_comes, .ref h_o_next, .int o_x])), (h_o_all, .inl (ca 0, 350, .inl (upd o_all_r ((((3 : Int32) + ((8 : Int32) * p2)) + p1).toNatClampNeg) p3))), (h_o_plans, .inl (ca 0, 80, .inl o_plans_r)), (h_o_shift, .inl (ca 3, 768, .inl q48))] := hD
      refine lv_aload_n hx hb dX8_painted_51 rfl (lv_at hl 1 rfl) ?_
      obtain ⟨q52, hq52, hf⟩ := ds_ob hf
      refine ds_calli (wr := []) (va_runV (As := []) (rest := []) ⟨hx, hb, hml, hown, hts⟩ (c_X8_cls l dC dI ca sa h_o h_o_plans h_o_makers h_o_halves h_o_all h_o_text h_o_saved h_o_undone h_o_told h_o_shift h_o_rootOf h_o_becomes h_o_comes h_o_next H.size (0 : Int32) o_undos o_reached o_length o_begin o_letters o_sort o_word o_wrongAt o_badAt o_bad o_firstX o_firstY o_secondX o_secondY o_x (upd o_all_r ((((3 : Int32) + ((8 : Int32) * p2)) + p1).toNatClampNeg) p3) q48 o_plans_r  q52 hq52) (cwV 0 hts (ds_gV kw_768 kw_769 kw_770 kw_597 kw_771) rfl rfl rfl (by decide +kernel) ⟨Nat.le_of_ble_eq_true rfl, Nat.le_of_ble_eq_true rfl⟩) ⟨ds_blind, va_recv hK hP (ci := 7) (q0 := 0) rfl rfl, ds_at hP hD hK hE hS hA [0, 1, 3, 2] rfl rfl _⟩ rfl rfl hl.1 rfl (lv_room (Nat.le_of_ble_eq_true rfl)) dX8_painted_52 ⟨Nat.zero_le _, Nat.zero_le _⟩) hP hD hS hA [0, 1, 3, 2] [] rfl rfl rfl (by decide) (fun H locs hP hD hS => ?_)
      have hP : va_P (dC, dI) vwCl [(h_o, .inr (7, [.ref h_o_plans, .ref h_o_makers, .ref h_o_halves, .int (0 : Int32), .ref h_o_all, .ref h_o_text, .ref h_o_saved, .ref h_o_undone, .int o_undos, .int o_reached, .int o_length, .int o_begin, .int o_letters, .int o_sort, .long o_word, .int o_wrongAt, .int o_badAt, .int o_bad, .ref h_o_told, .ref h_o_shift, .int q52.2.1, .int q52.2.2.1, .int q52.2.2.2.1, .int q52.2.2.2.2, .ref h_o_rootOf, .ref h_o_becomes, .ref h_o_comes, .ref h_o_next, .int o_x])), (h_o_all, .inl (ca 0, 350, .inl (upd o_all_r ((((3 : Int32) + ((8 : Int32) * p2)) + p1).toNatClampNeg) p3))), (h_o_shift, .inl (ca 3, 768, .inl q48)), (h_o_plans, .inl (ca 0, 80, .inl o_plans_r))] H := hP
      have hD : va_D A [(h_o, .inr (7, [.ref h_o_plans, .ref h_o_makers, .ref h_o_halves, .int (0 : Int32), .ref h_o_all, .ref h_o_text, .ref h_o_saved, .ref h_o_undone, .int o_undos, .int o_reached, .int o_length, .int o_begin, .int o_letters, .int o_sort, .long o_word, .int o_wrongAt, .int o_badAt, .int o_bad, .ref h_o_told, .ref h_o_shift, .int q52.2.1, .int q52.2.2.1, .int q52.2.2.2.1, .int q52.2.2.2.2, .ref h_o_rootOf, .ref h_o_becomes, .ref h_o_comes, .ref h_o_next, .int o_x])), (h_o_all, .inl (ca 0, 350, .inl (upd o_all_r ((((3 : Int32) + ((8 : Int32) * p2)) + p1).toNatClampNeg) p3))), (h_o_shift, .inl (ca 3, 768, .inl q48)), (h_o_plans, .inl (ca 0, 80, .inl o_plans_r))] := hD
      refine lv_istore (lv' := [(5, .int q52.1), (4, .int q28), (0, .ref h_o), (1, .int p1), (2, .int p2), (3, .int p3)]) hx hb dX8_painted_55 hl (by decide) rfl (fun ls hl => ?_)
      refine lv_aload_n hx hb dX8_painted_57 rfl (lv_at hl 2 rfl) ?_
      refine va_get (D := (dC, dI)) (ci := 7) (v := .ref h_o_all) (C := RX8) (T := TX8) (N := 29) hx hb hts (fun w h => List.mem_cons_of_mem _ (kc_X8 w h)) hown hK hP 0 rfl rfl 4 (by decide) (hg kw_594) (fun _ h9 => h9) rfl dX8_painted_58 ?_
      refine lv_iconst (v := 3) hx hb dX8_painted_61 (by decide) ?_
      refine lv_bipush (v := 8) hx hb dX8_painted_62 (by decide) ?_
      refine lv_iload_n hx hb dX8_painted_64 rfl (lv_at hl 4 rfl) ?_
      refine lv_imul hx hb dX8_painted_65 ?_
      refine lv_iadd hx hb dX8_painted_66 ?_
      refine lv_iload_n hx hb dX8_painted_67 rfl (lv_at hl 3 rfl) ?_
      refine lv_iadd hx hb dX8_painted_68 ?_
      refine lv_iload hx hb dX8_painted_69 (lv_at hl 1 rfl) ?_
      obtain ⟨i_71, hf⟩ := ds_ci hf
      refine va_iast hx hb hK hP hD hS 1 0 rfl rfl i_71 dX8_painted_71 (fun H locs hP hD hS => ?_)
      have hP : va_P (dC, dI) vwCl [(h_o, .inr (7, [.ref h_o_plans, .ref h_o_makers, .ref h_o_halves, .int (0 : Int32), .ref h_o_all, .ref h_o_text, .ref h_o_saved, .ref h_o_undone, .int o_undos, .int o_reached, .int o_length, .int o_begin, .int o_letters, .int o_sort, .long o_word, .int o_wrongAt, .int o_badAt, .int o_bad, .ref h_o_told, .ref h_o_shift, .int q52.2.1, .int q52.2.2.1, .int q52.2.2.2.1, .int q52.2.2.2.2, .ref h_o_rootOf, .ref h_o_becomes, .ref h_o_comes, .ref h_o_next, .int o_x])), (h_o_all, .inl (ca 0, 350, .inl (upd (upd o_all_r ((((3 : Int32) + ((8 : Int32) * p2)) + p1).toNatClampNeg) p3) ((((3 : Int32) + ((8 : Int32) * p2)) + p1).toNatClampNeg) q28))), (h_o_shift, .inl (ca 3, 768, .inl q48)), (h_o_plans, .inl (ca 0, 80, .inl o_plans_r))] H := hP
      have hD : va_D A [(h_o, .inr (7, [.ref h_o_plans, .ref h_o_makers, .ref h_o_halves, .int (0 : Int32), .ref h_o_all, .ref h_o_text, .ref h_o_saved, .ref h_o_undone, .int o_undos, .int o_reached, .int o_length, .int o_begin, .int o_letters, .int o_sort, .long o_word, .int o_wrongAt, .int o_badAt, .int o_bad, .ref h_o_told, .ref h_o_shift, .int q52.2.1, .int q52.2.2.1, .int q52.2.2.2.1, .int q52.2.2.2.2, .ref h_o_rootOf, .ref h_o_becomes, .ref h_o_comes, .ref h_o_next, .int o_x])), (h_o_all, .inl (ca 0, 350, .inl (upd (upd o_all_r ((((3 : Int32) + ((8 : Int32) * p2)) + p1).toNatClampNeg) p3) ((((3 : Int32) + ((8 : Int32) * p2)) + p1).toNatClampNeg) q28))), (h_o_shift, .inl (ca 3, 768, .inl q48)), (h_o_plans, .inl (ca 0, 80, .inl o_plans_r))] := hD
      refine lv_iload hx hb dX8_painted_72 (lv_at hl 0 rfl) ?_
      have hf := Option.some.inj hf
      subst hf
      rw [eG0] at hG
      have hG : _ = res := hG
      subst hG
      exact W.iret (v := q52.1) hx hb hr (fun t ht hW => ⟨⟨q52.1, (), rfl, rfl, by rw [ht]; exact (hP.sub [0, 1, 3, 2] rfl), (hD.sub [0, 1, 3, 2] rfl rfl)⟩, hS.F ht⟩) hS.2.2 dX8_painted_74
    · replace hf := ds_t c_20 hf
      refine lv_iconst (v := -1) hx hb dX8_painted_23 (by decide) ?_
      have hf := Option.some.inj hf
      subst hf
      rw [eG0] at hG
      have hG : _ = res := hG
      subst hG
      exact W.iret (v := (-1 : Int32)) hx hb hr (fun t ht hW => ⟨⟨(-1 : Int32), (), rfl, rfl, by rw [ht]; exact (hP.sub [2, 3, 0, 1] rfl), (hD.sub [2, 3, 0, 1] rfl rfl)⟩, hS.F ht⟩) hS.2.2 dX8_painted_24
theorem dX8_better_0 : decode cX8_better 0 = .ok (.aload_n 0, 1) := by decide +kernel
theorem dX8_better_1 : decode cX8_better 1 = .ok (.iconst 0, 1) := by decide +kernel
theorem dX8_better_2 : decode cX8_better 2 = .ok (.putfield 51, 3) := by decide +kernel
theorem dX8_better_5 : decode cX8_better 5 = .ok (.aload_n 0, 1) := by decide +kernel
theorem dX8_better_6 : decode cX8_better 6 = .ok (.getfield 19, 3) := by decide +kernel
theorem dX8_better_9 : decode cX8_better 9 = .ok (.iconst 0, 1) := by decide +kernel
theorem dX8_better_10 : decode cX8_better 10 = .ok (.iaload, 1) := by decide +kernel
theorem dX8_better_11 : decode cX8_better 11 = .ok (.aload_n 0, 1) := by decide +kernel
theorem dX8_better_12 : decode cX8_better 12 = .ok (.getfield 19, 3) := by decide +kernel
theorem dX8_better_15 : decode cX8_better 15 = .ok (.iconst 1, 1) := by decide +kernel
theorem dX8_better_16 : decode cX8_better 16 = .ok (.iaload, 1) := by decide +kernel
theorem dX8_better_17 : decode cX8_better 17 = .ok (.imul, 1) := by decide +kernel
theorem dX8_better_18 : decode cX8_better 18 = .ok (.bipush 36, 2) := by decide +kernel
theorem dX8_better_20 : decode cX8_better 20 = .ok (.if_icmp .le 5, 3) := by decide +kernel
theorem dX8_better_23 : decode cX8_better 23 = .ok (.iconst (-1), 1) := by decide +kernel
theorem dX8_better_24 : decode cX8_better 24 = .ok (.ireturn, 1) := by decide +kernel
theorem dX8_better_25 : decode cX8_better 25 = .ok (.aload_n 0, 1) := by decide +kernel
theorem dX8_better_26 : decode cX8_better 26 = .ok (.invokevirtual 227, 3) := by decide +kernel
theorem dX8_better_29 : decode cX8_better 29 = .ok (.aload_n 0, 1) := by decide +kernel
theorem dX8_better_30 : decode cX8_better 30 = .ok (.invokevirtual 233, 3) := by decide +kernel
theorem dX8_better_33 : decode cX8_better 33 = .ok (.istore_n 1, 1) := by decide +kernel
theorem dX8_better_34 : decode cX8_better 34 = .ok (.iconst (-1), 1) := by decide +kernel
theorem dX8_better_35 : decode cX8_better 35 = .ok (.istore_n 2, 1) := by decide +kernel
theorem dX8_better_36 : decode cX8_better 36 = .ok (.iconst 0, 1) := by decide +kernel
theorem dX8_better_37 : decode cX8_better 37 = .ok (.istore_n 3, 1) := by decide +kernel
theorem dX8_better_38 : decode cX8_better 38 = .ok (.iload_n 3, 1) := by decide +kernel
theorem dX8_better_39 : decode cX8_better 39 = .ok (.aload_n 0, 1) := by decide +kernel
theorem dX8_better_40 : decode cX8_better 40 = .ok (.getfield 19, 3) := by decide +kernel
theorem dX8_better_43 : decode cX8_better 43 = .ok (.iconst 1, 1) := by decide +kernel
theorem dX8_better_44 : decode cX8_better 44 = .ok (.iaload, 1) := by decide +kernel
theorem dX8_better_45 : decode cX8_better 45 = .ok (.if_icmp .ge 128, 3) := by decide +kernel
theorem dX8_better_48 : decode cX8_better 48 = .ok (.iconst 0, 1) := by decide +kernel
theorem dX8_better_49 : decode cX8_better 49 = .ok (.istore 4, 2) := by decide +kernel
theorem dX8_better_51 : decode cX8_better 51 = .ok (.iload 4, 2) := by decide +kernel
theorem dX8_better_53 : decode cX8_better 53 = .ok (.aload_n 0, 1) := by decide +kernel
theorem dX8_better_54 : decode cX8_better 54 = .ok (.getfield 19, 3) := by decide +kernel
theorem dX8_better_57 : decode cX8_better 57 = .ok (.iconst 0, 1) := by decide +kernel
theorem dX8_better_58 : decode cX8_better 58 = .ok (.iaload, 1) := by decide +kernel
theorem dX8_better_59 : decode cX8_better 59 = .ok (.if_icmp .ge 108, 3) := by decide +kernel
theorem dX8_better_62 : decode cX8_better 62 = .ok (.aload_n 0, 1) := by decide +kernel
theorem dX8_better_63 : decode cX8_better 63 = .ok (.iload 4, 2) := by decide +kernel
theorem dX8_better_65 : decode cX8_better 65 = .ok (.iload_n 3, 1) := by decide +kernel
theorem dX8_better_66 : decode cX8_better 66 = .ok (.invokevirtual 127, 3) := by decide +kernel
theorem dX8_better_69 : decode cX8_better 69 = .ok (.istore 5, 2) := by decide +kernel
theorem dX8_better_71 : decode cX8_better 71 = .ok (.iconst 0, 1) := by decide +kernel
theorem dX8_better_72 : decode cX8_better 72 = .ok (.istore 6, 2) := by decide +kernel
theorem dX8_better_74 : decode cX8_better 74 = .ok (.iload 6, 2) := by decide +kernel
theorem dX8_better_76 : decode cX8_better 76 = .ok (.iconst 4, 1) := by decide +kernel
theorem dX8_better_77 : decode cX8_better 77 = .ok (.if_icmp .ge 68, 3) := by decide +kernel
theorem dX8_better_80 : decode cX8_better 80 = .ok (.aload_n 0, 1) := by decide +kernel
theorem dX8_better_81 : decode cX8_better 81 = .ok (.getfield 19, 3) := by decide +kernel
theorem dX8_better_84 : decode cX8_better 84 = .ok (.iconst 3, 1) := by decide +kernel
theorem dX8_better_85 : decode cX8_better 85 = .ok (.bipush 8, 2) := by decide +kernel
theorem dX8_better_87 : decode cX8_better 87 = .ok (.iload_n 3, 1) := by decide +kernel
theorem dX8_better_88 : decode cX8_better 88 = .ok (.imul, 1) := by decide +kernel
theorem dX8_better_89 : decode cX8_better 89 = .ok (.iadd, 1) := by decide +kernel
theorem dX8_better_90 : decode cX8_better 90 = .ok (.iload 4, 2) := by decide +kernel
theorem dX8_better_92 : decode cX8_better 92 = .ok (.iadd, 1) := by decide +kernel
theorem dX8_better_93 : decode cX8_better 93 = .ok (.iload 6, 2) := by decide +kernel
theorem dX8_better_95 : decode cX8_better 95 = .ok (.iastore, 1) := by decide +kernel
theorem dX8_better_96 : decode cX8_better 96 = .ok (.aload_n 0, 1) := by decide +kernel
theorem dX8_better_97 : decode cX8_better 97 = .ok (.invokevirtual 227, 3) := by decide +kernel
theorem dX8_better_100 : decode cX8_better 100 = .ok (.iload 6, 2) := by decide +kernel
theorem dX8_better_102 : decode cX8_better 102 = .ok (.iload 5, 2) := by decide +kernel
theorem dX8_better_104 : decode cX8_better 104 = .ok (.if_icmp .ne 7, 3) := by decide +kernel
theorem dX8_better_107 : decode cX8_better 107 = .ok (.iload_n 1, 1) := by decide +kernel
theorem dX8_better_108 : decode cX8_better 108 = .ok (.goto 7, 3) := by decide +kernel
theorem dX8_better_111 : decode cX8_better 111 = .ok (.aload_n 0, 1) := by decide +kernel
theorem dX8_better_112 : decode cX8_better 112 = .ok (.invokevirtual 233, 3) := by decide +kernel
theorem dX8_better_115 : decode cX8_better 115 = .ok (.istore 7, 2) := by decide +kernel
theorem dX8_better_117 : decode cX8_better 117 = .ok (.iload 7, 2) := by decide +kernel
theorem dX8_better_119 : decode cX8_better 119 = .ok (.iload_n 1, 1) := by decide +kernel
theorem dX8_better_120 : decode cX8_better 120 = .ok (.if_icmp .ge 19, 3) := by decide +kernel
theorem dX8_better_123 : decode cX8_better 123 = .ok (.iload 7, 2) := by decide +kernel
theorem dX8_better_125 : decode cX8_better 125 = .ok (.istore_n 1, 1) := by decide +kernel
theorem dX8_better_126 : decode cX8_better 126 = .ok (.bipush 32, 2) := by decide +kernel
theorem dX8_better_128 : decode cX8_better 128 = .ok (.iload_n 3, 1) := by decide +kernel
theorem dX8_better_129 : decode cX8_better 129 = .ok (.imul, 1) := by decide +kernel
theorem dX8_better_130 : decode cX8_better 130 = .ok (.iconst 4, 1) := by decide +kernel
theorem dX8_better_131 : decode cX8_better 131 = .ok (.iload 4, 2) := by decide +kernel
theorem dX8_better_133 : decode cX8_better 133 = .ok (.imul, 1) := by decide +kernel
theorem dX8_better_134 : decode cX8_better 134 = .ok (.iadd, 1) := by decide +kernel
theorem dX8_better_135 : decode cX8_better 135 = .ok (.iload 6, 2) := by decide +kernel
theorem dX8_better_137 : decode cX8_better 137 = .ok (.iadd, 1) := by decide +kernel
theorem dX8_better_138 : decode cX8_better 138 = .ok (.istore_n 2, 1) := by decide +kernel
theorem dX8_better_139 : decode cX8_better 139 = .ok (.iinc 6 1, 3) := by decide +kernel
theorem dX8_better_142 : decode cX8_better 142 = .ok (.goto (-68), 3) := by decide +kernel
theorem dX8_better_145 : decode cX8_better 145 = .ok (.aload_n 0, 1) := by decide +kernel
theorem dX8_better_146 : decode cX8_better 146 = .ok (.getfield 19, 3) := by decide +kernel
theorem dX8_better_149 : decode cX8_better 149 = .ok (.iconst 3, 1) := by decide +kernel
theorem dX8_better_150 : decode cX8_better 150 = .ok (.bipush 8, 2) := by decide +kernel
theorem dX8_better_152 : decode cX8_better 152 = .ok (.iload_n 3, 1) := by decide +kernel
theorem dX8_better_153 : decode cX8_better 153 = .ok (.imul, 1) := by decide +kernel
theorem dX8_better_154 : decode cX8_better 154 = .ok (.iadd, 1) := by decide +kernel
theorem dX8_better_155 : decode cX8_better 155 = .ok (.iload 4, 2) := by decide +kernel
theorem dX8_better_157 : decode cX8_better 157 = .ok (.iadd, 1) := by decide +kernel
theorem dX8_better_158 : decode cX8_better 158 = .ok (.iload 5, 2) := by decide +kernel
theorem dX8_better_160 : decode cX8_better 160 = .ok (.iastore, 1) := by decide +kernel
theorem dX8_better_161 : decode cX8_better 161 = .ok (.iinc 4 1, 3) := by decide +kernel
theorem dX8_better_164 : decode cX8_better 164 = .ok (.goto (-113), 3) := by decide +kernel
theorem dX8_better_167 : decode cX8_better 167 = .ok (.iinc 3 1, 3) := by decide +kernel
theorem dX8_better_170 : decode cX8_better 170 = .ok (.goto (-132), 3) := by decide +kernel
theorem dX8_better_173 : decode cX8_better 173 = .ok (.iload_n 2, 1) := by decide +kernel
theorem dX8_better_174 : decode cX8_better 174 = .ok (.ireturn, 1) := by decide +kernel
def fX8_better_167 (o_all_r : Nat → Int32) (o_shift_r : Nat → Int32) (o_rootOf_r : Nat → Int32) (v1 : Int32) (v2 : Int32) (v3 : Int32) : Option ((Int32 × Int32 × Int32 × (Nat → Int32) × (Nat → Int32) × (Nat → Int32)) ⊕ (Int32 × Int32 × (Nat → Int32) × (Nat → Int32) × (Nat → Int32))) :=
  some (.inl (v1, v2, (v3 + 1), o_all_r, o_shift_r, o_rootOf_r))
def fX8_better_145 (o_all_r : Nat → Int32) (o_shift_r : Nat → Int32) (o_rootOf_r : Nat → Int32) (v1 : Int32) (v2 : Int32) (v3 : Int32) (v4 : Int32) (v5 : Int32) : Option ((Int32 × Int32 × Int32 × (Nat → Int32) × (Nat → Int32) × (Nat → Int32)) ⊕ ((Int32 × Int32 × Int32 × (Nat → Int32) × (Nat → Int32) × (Nat → Int32)) ⊕ (Int32 × Int32 × (Nat → Int32) × (Nat → Int32) × (Nat → Int32)))) :=
  if ds_in (((3 : Int32) + ((8 : Int32) * v3)) + v4) 350 = true then some (.inl (v1, v2, (v4 + 1), (upd o_all_r ((((3 : Int32) + ((8 : Int32) * v3)) + v4).toNatClampNeg) v5), o_shift_r, o_rootOf_r)) else none
def fX8_better_139 (o_all_r : Nat → Int32) (o_shift_r : Nat → Int32) (o_rootOf_r : Nat → Int32) (v1 : Int32) (v2 : Int32) (v6 : Int32) : Option ((Int32 × Int32 × Int32 × (Nat → Int32) × (Nat → Int32) × (Nat → Int32)) ⊕ ((Int32 × Int32 × Int32 × (Nat → Int32) × (Nat → Int32) × (Nat → Int32)) ⊕ ((Int32 × Int32 × Int32 × (Nat → Int32) × (Nat → Int32) × (Nat → Int32)) ⊕ (Int32 × Int32 × (Nat → Int32) × (Nat → Int32) × (Nat → Int32))))) :=
  some (.inl (v1, v2, (v6 + 1), o_all_r, o_shift_r, o_rootOf_r))
def fX8_better_115 (o_all_r : Nat → Int32) (o_shift_r : Nat → Int32) (o_rootOf_r : Nat → Int32) (v1 : Int32) (v2 : Int32) (v3 : Int32) (v4 : Int32) (v6 : Int32) (s0 : Int32) : Option ((Int32 × Int32 × Int32 × (Nat → Int32) × (Nat → Int32) × (Nat → Int32)) ⊕ ((Int32 × Int32 × Int32 × (Nat → Int32) × (Nat → Int32) × (Nat → Int32)) ⊕ ((Int32 × Int32 × Int32 × (Nat → Int32) × (Nat → Int32) × (Nat → Int32)) ⊕ (Int32 × Int32 × (Nat → Int32) × (Nat → Int32) × (Nat → Int32))))) :=
  if v1 ≤ s0 then fX8_better_139 o_all_r o_shift_r o_rootOf_r v1 v2 v6 else Option.bind (some (((((32 : Int32) * v3) + ((4 : Int32) * v4)) + v6))) fun x138 => fX8_better_139 o_all_r o_shift_r o_rootOf_r s0 x138 v6
def fX8_better_74_b (o_plans_r : Nat → Int32) (v3 : Int32) (v4 : Int32) (v5 : Int32) (v1 : Int32) (v2 : Int32) (v6 : Int32) (o_all_r : Nat → Int32) (o_shift_r : Nat → Int32) (o_rootOf_r : Nat → Int32) : Option ((Int32 × Int32 × Int32 × (Nat → Int32) × (Nat → Int32) × (Nat → Int32)) ⊕ ((Int32 × Int32 × Int32 × (Nat → Int32) × (Nat → Int32) × (Nat → Int32)) ⊕ ((Int32 × Int32 × Int32 × (Nat → Int32) × (Nat → Int32) × (Nat → Int32)) ⊕ (Int32 × Int32 × (Nat → Int32) × (Nat → Int32) × (Nat → Int32))))) :=
  if (4 : Int32) ≤ v6 then Option.bind (fX8_better_145 o_all_r o_shift_r o_rootOf_r v1 v2 v3 v4 v5) fun z => some (.inr z) else if ds_in (((3 : Int32) + ((8 : Int32) * v3)) + v4) 350 = true then Option.bind (fX8_laysShifts (upd o_all_r ((((3 : Int32) + ((8 : Int32) * v3)) + v4).toNatClampNeg) v6) o_plans_r o_shift_r) fun q97 => if v6 = v5 then fX8_better_115 (upd o_all_r ((((3 : Int32) + ((8 : Int32) * v3)) + v4).toNatClampNeg) v6) q97 o_rootOf_r v1 v2 v3 v4 v6 v1 else Option.bind (fX8_kinds o_rootOf_r (upd o_all_r ((((3 : Int32) + ((8 : Int32) * v3)) + v4).toNatClampNeg) v6) q97 o_plans_r) fun q112 => fX8_better_115 (upd o_all_r ((((3 : Int32) + ((8 : Int32) * v3)) + v4).toNatClampNeg) v6) q97 q112.2 v1 v2 v3 v4 v6 q112.1 else none
def fX8_better_74 (o_plans_r : Nat → Int32) (v3 : Int32) (v4 : Int32) (v5 : Int32) (v1 : Int32) (v2 : Int32) (v6 : Int32) (o_all_r : Nat → Int32) (o_shift_r : Nat → Int32) (o_rootOf_r : Nat → Int32) : Option ((Int32 × Int32 × Int32 × (Nat → Int32) × (Nat → Int32) × (Nat → Int32)) ⊕ ((Int32 × Int32 × Int32 × (Nat → Int32) × (Nat → Int32) × (Nat → Int32)) ⊕ (Int32 × Int32 × (Nat → Int32) × (Nat → Int32) × (Nat → Int32)))) := ds_it (fun s => fX8_better_74_b o_plans_r v3 v4 v5 s.1 s.2.1 s.2.2.1 s.2.2.2.1 s.2.2.2.2.1 s.2.2.2.2.2) 1000 (v1, v2, v6, o_all_r, o_shift_r, o_rootOf_r)
def fX8_better_51_b (o_plans_r : Nat → Int32) (v3 : Int32) (v1 : Int32) (v2 : Int32) (v4 : Int32) (o_all_r : Nat → Int32) (o_shift_r : Nat → Int32) (o_rootOf_r : Nat → Int32) : Option ((Int32 × Int32 × Int32 × (Nat → Int32) × (Nat → Int32) × (Nat → Int32)) ⊕ ((Int32 × Int32 × Int32 × (Nat → Int32) × (Nat → Int32) × (Nat → Int32)) ⊕ (Int32 × Int32 × (Nat → Int32) × (Nat → Int32) × (Nat → Int32)))) :=
  if (o_all_r (0 : Int32).toNatClampNeg) ≤ v4 then Option.bind (fX8_better_167 o_all_r o_shift_r o_rootOf_r v1 v2 v3) fun z => some (.inr z) else Option.bind (fX8_colour o_all_r v4 v3) fun q66 => fX8_better_74 o_plans_r v3 v4 q66 v1 v2 (0 : Int32) o_all_r o_shift_r o_rootOf_r
def fX8_better_51 (o_plans_r : Nat → Int32) (v3 : Int32) (v1 : Int32) (v2 : Int32) (v4 : Int32) (o_all_r : Nat → Int32) (o_shift_r : Nat → Int32) (o_rootOf_r : Nat → Int32) : Option ((Int32 × Int32 × Int32 × (Nat → Int32) × (Nat → Int32) × (Nat → Int32)) ⊕ (Int32 × Int32 × (Nat → Int32) × (Nat → Int32) × (Nat → Int32))) := ds_it (fun s => fX8_better_51_b o_plans_r v3 s.1 s.2.1 s.2.2.1 s.2.2.2.1 s.2.2.2.2.1 s.2.2.2.2.2) 1000 (v1, v2, v4, o_all_r, o_shift_r, o_rootOf_r)
def fX8_better_38_b (o_raised : Int32) (o_plans_r : Nat → Int32) (v1 : Int32) (v2 : Int32) (v3 : Int32) (o_all_r : Nat → Int32) (o_shift_r : Nat → Int32) (o_rootOf_r : Nat → Int32) : Option ((Int32 × Int32 × Int32 × (Nat → Int32) × (Nat → Int32) × (Nat → Int32)) ⊕ (Int32 × Int32 × (Nat → Int32) × (Nat → Int32) × (Nat → Int32))) :=
  if (o_all_r (1 : Int32).toNatClampNeg) ≤ v3 then some (.inr (v2, o_raised, o_all_r, o_shift_r, o_rootOf_r)) else fX8_better_51 o_plans_r v3 v1 v2 (0 : Int32) o_all_r o_shift_r o_rootOf_r
def fX8_better_38 (o_raised : Int32) (o_plans_r : Nat → Int32) (v1 : Int32) (v2 : Int32) (v3 : Int32) (o_all_r : Nat → Int32) (o_shift_r : Nat → Int32) (o_rootOf_r : Nat → Int32) : Option (Int32 × Int32 × (Nat → Int32) × (Nat → Int32) × (Nat → Int32)) := ds_it (fun s => fX8_better_38_b o_raised o_plans_r s.1 s.2.1 s.2.2.1 s.2.2.2.1 s.2.2.2.2.1 s.2.2.2.2.2) 1000 (v1, v2, v3, o_all_r, o_shift_r, o_rootOf_r)
def fX8_better (o_all_r : Nat → Int32) (o_plans_r : Nat → Int32) (o_shift_r : Nat → Int32) (o_rootOf_r : Nat → Int32) : Option (Int32 × Int32 × (Nat → Int32) × (Nat → Int32) × (Nat → Int32)) :=
  if ((o_all_r (0 : Int32).toNatClampNeg) * (o_all_r (1 : Int32).toNatClampNeg)) ≤ (36 : Int32) then Option.bind (fX8_laysShifts o_all_r o_plans_r o_shift_r) fun q26 => Option.bind (fX8_kinds o_rootOf_r o_all_r q26 o_plans_r) fun q30 => fX8_better_38 (0 : Int32) o_plans_r q30.1 (-1 : Int32) (0 : Int32) o_all_r q26 q30.2 else some ((-1 : Int32), (0 : Int32), o_all_r, o_shift_r, o_rootOf_r)
set_option maxHeartbeats 4000000 in
set_option maxRecDepth 100000 in
theorem c_X8_better (l : Launch) (dC : Nat → ClassId) (dI : Nat → Nat → Nat) (ca : Nat → ClassId) (sa : Nat → Nat) (h_o : Nat) (h_o_plans : Nat) (h_o_makers : Nat) (h_o_halves : Nat) (h_o_all : Nat) (h_o_text : Nat) (h_o_saved : Nat) (h_o_undone : Nat) (h_o_told : Nat) (h_o_shift : Nat) (h_o_rootOf : Nat) (h_o_becomes : Nat) (h_o_comes : Nat) (h_o_next : Nat) (sz : Nat) (o_raised : Int32) (o_undos : Int32) (o_reached : Int32) (o_length : Int32) (o_begin : Int32) (o_letters : Int32) (o_sort : Int32) (o_word : Int64) (o_wrongAt : Int32) (o_badAt : Int32) (o_bad : Int32) (o_firstX : Int32) (o_firstY : Int32) (o_secondX : Int32) (o_secondY : Int32) (o_x : Int32) (o_all_r : Nat → Int32) (o_plans_r : Nat → Int32) (o_shift_r : Nat → Int32) (o_rootOf_r : Nat → Int32) (res : Int32 × Int32 × (Nat → Int32) × (Nat → Int32) × (Nat → Int32)) (hf : fX8_better o_all_r o_plans_r o_shift_r o_rootOf_r = some res) : Met l yX8_better (Cond.code yX8_better cX8_better 8 (some .int) :: ds_gw) { frames := 5, cells := 0, slots := 0, locals := 115 } (va_Pc [.ref h_o] (ds_Pre dC dI ca sa [(h_o, .inr (7, [.ref h_o_plans, .ref h_o_makers, .ref h_o_halves, .int o_raised, .ref h_o_all, .ref h_o_text, .ref h_o_saved, .ref h_o_undone, .int o_undos, .int o_reached, .int o_length, .int o_begin, .int o_letters, .int o_sort, .long o_word, .int o_wrongAt, .int o_badAt, .int o_bad, .ref h_o_told, .ref h_o_shift, .int o_firstX, .int o_firstY, .int o_secondX, .int o_secondY, .ref h_o_rootOf, .ref h_o_becomes, .ref h_o_comes, .ref h_o_next, .int o_x])), (h_o_all, .inl (ca 0, 350, .inl o_all_r)), (h_o_plans, .inl (ca 0, 80, .inl o_plans_r)), (h_o_shift, .inl (ca 3, 768, .inl o_shift_r)), (h_o_rootOf, .inl (ca 0, 64, .inl o_rootOf_r))] sz)) (va_Qi (fun r (_ : Unit) => r = res.1) (ds_B dC dI (va_A [(h_o, .inr (7, [.ref h_o_plans, .ref h_o_makers, .ref h_o_halves, .int o_raised, .ref h_o_all, .ref h_o_text, .ref h_o_saved, .ref h_o_undone, .int o_undos, .int o_reached, .int o_length, .int o_begin, .int o_letters, .int o_sort, .long o_word, .int o_wrongAt, .int o_badAt, .int o_bad, .ref h_o_told, .ref h_o_shift, .int o_firstX, .int o_firstY, .int o_secondX, .int o_secondY, .ref h_o_rootOf, .ref h_o_becomes, .ref h_o_comes, .ref h_o_next, .int o_x])), (h_o_all, .inl (ca 0, 350, .inl o_all_r)), (h_o_plans, .inl (ca 0, 80, .inl o_plans_r)), (h_o_shift, .inl (ca 3, 768, .inl o_shift_r)), (h_o_rootOf, .inl (ca 0, 64, .inl o_rootOf_r))] sz) [(h_o, .inr (7, [.ref h_o_plans, .ref h_o_makers, .ref h_o_halves, .int res.2.1, .ref h_o_all, .ref h_o_text, .ref h_o_saved, .ref h_o_undone, .int o_undos, .int o_reached, .int o_length, .int o_begin, .int o_letters, .int o_sort, .long o_word, .int o_wrongAt, .int o_badAt, .int o_bad, .ref h_o_told, .ref h_o_shift, .int o_firstX, .int o_firstY, .int o_secondX, .int o_secondY, .ref h_o_rootOf, .ref h_o_becomes, .ref h_o_comes, .ref h_o_next, .int o_x])), (h_o_all, .inl (ca 0, 350, .inl res.2.2.1)), (h_o_plans, .inl (ca 0, 80, .inl o_plans_r)), (h_o_shift, .inl (ca 3, 768, .inl res.2.2.2.1)), (h_o_rootOf, .inl (ca 0, 64, .inl res.2.2.2.2))]) (va_A [(h_o, .inr (7, [.ref h_o_plans, .ref h_o_makers, .ref h_o_halves, .int o_raised, .ref h_o_all, .ref h_o_text, .ref h_o_saved, .ref h_o_undone, .int o_undos, .int o_reached, .int o_length, .int o_begin, .int o_letters, .int o_sort, .long o_word, .int o_wrongAt, .int o_badAt, .int o_bad, .ref h_o_told, .ref h_o_shift, .int o_firstX, .int o_firstY, .int o_secondX, .int o_secondY, .ref h_o_rootOf, .ref h_o_becomes, .ref h_o_comes, .ref h_o_next, .int o_x])), (h_o_all, .inl (ca 0, 350, .inl o_all_r)), (h_o_plans, .inl (ca 0, 80, .inl o_plans_r)), (h_o_shift, .inl (ca 3, 768, .inl o_shift_r)), (h_o_rootOf, .inl (ca 0, 64, .inl o_rootOf_r))] sz)) 0 0 (va_A [(h_o, .inr (7, [.ref h_o_plans, .ref h_o_makers, .ref h_o_halves, .int o_raised, .ref h_o_all, .ref h_o_text, .ref h_o_saved, .ref h_o_undone, .int o_undos, .int o_reached, .int o_length, .int o_begin, .int o_letters, .int o_sort, .long o_word, .int o_wrongAt, .int o_badAt, .int o_bad, .ref h_o_told, .ref h_o_shift, .int o_firstX, .int o_firstY, .int o_secondX, .int o_secondY, .ref h_o_rootOf, .ref h_o_becomes, .ref h_o_comes, .ref h_o_next, .int o_x])), (h_o_all, .inl (ca 0, 350, .inl o_all_r)), (h_o_plans, .inl (ca 0, 80, .inl o_plans_r)), (h_o_shift, .inl (ca 3, 768, .inl o_shift_r)), (h_o_rootOf, .inl (ca 0, 64, .inl o_rootOf_r))] sz) := by
  refine Met.ofW (cc := cX8_better) (maxL := 8) (ret := (some .int)) (by decide) rfl ?_
  intro p e s m args below meth c s₁ B hml hv
  obtain ⟨rfl, hsz, hP, hK, hD0, hE⟩ := hv
  have hx := B.exec
  have hb := B.bytes
  have hr := B.returns
  have hts := atoms_spec (ws := Cond.code yX8_better cX8_better 8 (some .int) :: ds_gw) B.pre
  have hg : ∀ {w : Cond}, w ∈ ds_gw → w.before _ s = true := fun h => hts _ (List.mem_cons_of_mem _ h)
  have hown : s.vm.findClass RX8 = some m.cls := findClass_of_methodNamed B.named
  have hlocks := B.notSynchronized
  subst hsz
  have hD := hD0.self (sz := s.heap.size)
  generalize hAe : va_A [(h_o, .inr (7, [.ref h_o_plans, .ref h_o_makers, .ref h_o_halves, .int o_raised, .ref h_o_all, .ref h_o_text, .ref h_o_saved, .ref h_o_undone, .int o_undos, .int o_reached, .int o_length, .int o_begin, .int o_letters, .int o_sort, .long o_word, .int o_wrongAt, .int o_badAt, .int o_bad, .ref h_o_told, .ref h_o_shift, .int o_firstX, .int o_firstY, .int o_secondX, .int o_secondY, .ref h_o_rootOf, .ref h_o_becomes, .ref h_o_comes, .ref h_o_next, .int o_x])), (h_o_all, .inl (ca 0, 350, .inl o_all_r)), (h_o_plans, .inl (ca 0, 80, .inl o_plans_r)), (h_o_shift, .inl (ca 3, 768, .inl o_shift_r)), (h_o_rootOf, .inl (ca 0, 64, .inl o_rootOf_r))] s.heap.size = A at hD hE ⊢
  have hA : ∀ q : Nat, s.heap.size ≤ q → A q := fun q h => by rw [← hAe]; exact Or.inr h
  have hS : va_S A s.heap s.heap [] := va_S.rf
  have hl := lv_entry ([.ref h_o]) (n := 8) (Nat.le_of_ble_eq_true rfl)
  rw [lg_entry_eq]
  generalize (lg_sl ([.ref h_o]) ++ List.replicate (8 - (lg_sl ([.ref h_o])).length) Slot.unset).toArray = ls at hl ⊢
  have hl : lv_has ls 8 [(0, .ref h_o)] := hl
  obtain ⟨G0, eG0⟩ : ∃ G : (Int32 × Int32 × (Nat → Int32) × (Nat → Int32) × (Nat → Int32)) → Prop, G = (fun r => r = res) := ⟨_, rfl⟩
  obtain ⟨rr, hrr⟩ : ∃ z, z = res := ⟨_, rfl⟩
  rw [← hrr] at hf
  have hG : G0 rr := by subst eG0; exact hrr
  refine ds_cap (fun WW h1 h2 => ?_)
  have J_38 : ∀ (o_raised : Int32) (n : Nat) (v1 : Int32) (v2 : Int32) (v3 : Int32) (o_all_r : Nat → Int32) (o_shift_r : Nat → Int32) (o_rootOf_r : Nat → Int32) (rr : Int32 × Int32 × (Nat → Int32) × (Nat → Int32) × (Nat → Int32)) (hf : ds_it (fun s => fX8_better_38_b o_raised o_plans_r s.1 s.2.1 s.2.2.1 s.2.2.2.1 s.2.2.2.2.1 s.2.2.2.2.2) n (v1, v2, v3, o_all_r, o_shift_r, o_rootOf_r) = some rr) (hG : G0 rr) (H : Heap) (locs : List Loc) (hP : va_P (dC, dI) vwCl [(h_o, .inr (7, [.ref h_o_plans, .ref h_o_makers, .ref h_o_halves, .int o_raised, .ref h_o_all, .ref h_o_text, .ref h_o_saved, .ref h_o_undone, .int o_undos, .int o_reached, .int o_length, .int o_begin, .int o_letters, .int o_sort, .long o_word, .int o_wrongAt, .int o_badAt, .int o_bad, .ref h_o_told, .ref h_o_shift, .int o_firstX, .int o_firstY, .int o_secondX, .int o_secondY, .ref h_o_rootOf, .ref h_o_becomes, .ref h_o_comes, .ref h_o_next, .int o_x])), (h_o_all, .inl (ca 0, 350, .inl o_all_r)), (h_o_plans, .inl (ca 0, 80, .inl o_plans_r)), (h_o_shift, .inl (ca 3, 768, .inl o_shift_r)), (h_o_rootOf, .inl (ca 0, 64, .inl o_rootOf_r))] H) (hD : va_D A [(h_o, .inr (7, [.ref h_o_plans, .ref h_o_makers, .ref h_o_halves, .int o_raised, .ref h_o_all, .ref h_o_text, .ref h_o_saved, .ref h_o_undone, .int o_undos, .int o_reached, .int o_length, .int o_begin, .int o_letters, .int o_sort, .long o_word, .int o_wrongAt, .int o_badAt, .int o_bad, .ref h_o_told, .ref h_o_shift, .int o_firstX, .int o_firstY, .int o_secondX, .int o_secondY, .ref h_o_rootOf, .ref h_o_becomes, .ref h_o_comes, .ref h_o_next, .int o_x])), (h_o_all, .inl (ca 0, 350, .inl o_all_r)), (h_o_plans, .inl (ca 0, 80, .inl o_plans_r)), (h_o_shift, .inl (ca 3, 768, .inl o_shift_r)), (h_o_rootOf, .inl (ca 0, 64, .inl o_rootOf_r))]) (hS : va_S A s.heap H locs) (ls : Array Slot) (hl : lv_has ls 8 [(0, .ref h_o), (1, .int v1), (2, .int v2), (3, .int v3)]), WW H locs (F0 m 38 ls []) := by
    intro o_raised n
    induction n with
    | zero => intro v1 v2 v3 o_all_r o_shift_r o_rootOf_r rr hf; exact (ds_it_zero hf).elim
    | succ n ih38 =>
      intro v1 v2 v3 o_all_r o_shift_r o_rootOf_r rr hf hG H locs hP hD hS ls hl
      refine h2 ?_
      obtain ⟨rr, hf, hG⟩ := ds_it_succ hf hG
      replace hf : fX8_better_38_b o_raised o_plans_r v1 v2 v3 o_all_r o_shift_r o_rootOf_r = some rr := hf
      obtain ⟨G1, eG1⟩ : ∃ G : ((Int32 × Int32 × Int32 × (Nat → Int32) × (Nat → Int32) × (Nat → Int32)) ⊕ (Int32 × Int32 × (Nat → Int32) × (Nat → Int32) × (Nat → Int32))) → Prop, G = ds_G (fun s' => ∃ r', ds_it (fun s => fX8_better_38_b o_raised o_plans_r s.1 s.2.1 s.2.2.1 s.2.2.2.1 s.2.2.2.2.1 s.2.2.2.2.2) n s' = some r' ∧ G0 r') G0 := ⟨_, rfl⟩
      rw [← eG1] at hG
      have J_167 : ∀ (v1 : Int32) (v2 : Int32) (v3 : Int32) (o_all_r : Nat → Int32) (o_shift_r : Nat → Int32) (o_rootOf_r : Nat → Int32) (rr : (Int32 × Int32 × Int32 × (Nat → Int32) × (Nat → Int32) × (Nat → Int32)) ⊕ (Int32 × Int32 × (Nat → Int32) × (Nat → Int32) × (Nat → Int32))) (hf : fX8_better_167 o_all_r o_shift_r o_rootOf_r v1 v2 v3 = some rr) (hG : G1 rr) (H : Heap) (locs : List Loc) (hP : va_P (dC, dI) vwCl [(h_o, .inr (7, [.ref h_o_plans, .ref h_o_makers, .ref h_o_halves, .int o_raised, .ref h_o_all, .ref h_o_text, .ref h_o_saved, .ref h_o_undone, .int o_undos, .int o_reached, .int o_length, .int o_begin, .int o_letters, .int o_sort, .long o_word, .int o_wrongAt, .int o_badAt, .int o_bad, .ref h_o_told, .ref h_o_shift, .int o_firstX, .int o_firstY, .int o_secondX, .int o_secondY, .ref h_o_rootOf, .ref h_o_becomes, .ref h_o_comes, .ref h_o_next, .int o_x])), (h_o_all, .inl (ca 0, 350, .inl o_all_r)), (h_o_plans, .inl (ca 0, 80, .inl o_plans_r)), (h_o_shift, .inl (ca 3, 768, .inl o_shift_r)), (h_o_rootOf, .inl (ca 0, 64, .inl o_rootOf_r))] H) (hD : va_D A [(h_o, .inr (7, [.ref h_o_plans, .ref h_o_makers, .ref h_o_halves, .int o_raised, .ref h_o_all, .ref h_o_text, .ref h_o_saved, .ref h_o_undone, .int o_undos, .int o_reached, .int o_length, .int o_begin, .int o_letters, .int o_sort, .long o_word, .int o_wrongAt, .int o_badAt, .int o_bad, .ref h_o_told, .ref h_o_shift, .int o_firstX, .int o_firstY, .int o_secondX, .int o_secondY, .ref h_o_rootOf, .ref h_o_becomes, .ref h_o_comes, .ref h_o_next, .int o_x])), (h_o_all, .inl (ca 0, 350, .inl o_all_r)), (h_o_plans, .inl (ca 0, 80, .inl o_plans_r)), (h_o_shift, .inl (ca 3, 768, .inl o_shift_r)), (h_o_rootOf, .inl (ca 0, 64, .inl o_rootOf_r))]) (hS : va_S A s.heap H locs) (ls : Array Slot) (hl : lv_has ls 8 [(0, .ref h_o), (1, .int v1), (2, .int v2), (3, .int v3)]), WW H locs (F0 m 167 ls []) := by
        intro v1 v2 v3 o_all_r o_shift_r o_rootOf_r rr hf hG H locs hP hD hS ls hl
        refine h2 ?_
        unfold fX8_better_167 at hf
        refine lv_iinc (v := (v3 + 1)) (lv' := [(3, .int (v3 + 1)), (0, .ref h_o), (1, .int v1), (2, .int v2)]) hx hb dX8_better_167 hl (k := 3) rfl rfl (by decide) rfl (fun ls hl => ?_)
        refine lv_goto (tgt := 38) hx hb dX8_better_170 (by decide) ?_
        have hf := Option.some.inj hf
        subst hf
        rw [eG1] at hG
        obtain ⟨rr, hf, hG⟩ := hG
        exact h1 (ih38 v1 v2 (v3 + 1) o_all_r o_shift_r o_rootOf_r rr hf hG _ _ hP hD hS _ (lv_sub hl [1, 2, 3, 0] rfl))
      have J_51 : ∀ (v3 : Int32) (n : Nat) (v1 : Int32) (v2 : Int32) (v4 : Int32) (o_all_r : Nat → Int32) (o_shift_r : Nat → Int32) (o_rootOf_r : Nat → Int32) (rr : (Int32 × Int32 × Int32 × (Nat → Int32) × (Nat → Int32) × (Nat → Int32)) ⊕ (Int32 × Int32 × (Nat → Int32) × (Nat → Int32) × (Nat → Int32))) (hf : ds_it (fun s => fX8_better_51_b o_plans_r v3 s.1 s.2.1 s.2.2.1 s.2.2.2.1 s.2.2.2.2.1 s.2.2.2.2.2) n (v1, v2, v4, o_all_r, o_shift_r, o_rootOf_r) = some rr) (hG : G1 rr) (H : Heap) (locs : List Loc) (hP : va_P (dC, dI) vwCl [(h_o, .inr (7, [.ref h_o_plans, .ref h_o_makers, .ref h_o_halves, .int o_raised, .ref h_o_all, .ref h_o_text, .ref h_o_saved, .ref h_o_undone, .int o_undos, .int o_reached, .int o_length, .int o_begin, .int o_letters, .int o_sort, .long o_word, .int o_wrongAt, .int o_badAt, .int o_bad, .ref h_o_told, .ref h_o_shift, .int o_firstX, .int o_firstY, .int o_secondX, .int o_secondY, .ref h_o_rootOf, .ref h_o_becomes, .ref h_o_comes, .ref h_o_next, .int o_x])), (h_o_all, .inl (ca 0, 350, .inl o_all_r)), (h_o_plans, .inl (ca 0, 80, .inl o_plans_r)), (h_o_shift, .inl (ca 3, 768, .inl o_shift_r)), (h_o_rootOf, .inl (ca 0, 64, .inl o_rootOf_r))] H) (hD : va_D A [(h_o, .inr (7, [.ref h_o_plans, .ref h_o_makers, .ref h_o_halves, .int o_raised, .ref h_o_all, .ref h_o_text, .ref h_o_saved, .ref h_o_undone, .int o_undos, .int o_reached, .int o_length, .int o_begin, .int o_letters, .int o_sort, .long o_word, .int o_wrongAt, .int o_badAt, .int o_bad, .ref h_o_told, .ref h_o_shift, .int o_firstX, .int o_firstY, .int o_secondX, .int o_secondY, .ref h_o_rootOf, .ref h_o_becomes, .ref h_o_comes, .ref h_o_next, .int o_x])), (h_o_all, .inl (ca 0, 350, .inl o_all_r)), (h_o_plans, .inl (ca 0, 80, .inl o_plans_r)), (h_o_shift, .inl (ca 3, 768, .inl o_shift_r)), (h_o_rootOf, .inl (ca 0, 64, .inl o_rootOf_r))]) (hS : va_S A s.heap H locs) (ls : Array Slot) (hl : lv_has ls 8 [(0, .ref h_o), (1, .int v1), (2, .int v2), (3, .int v3), (4, .int v4)]), WW H locs (F0 m 51 ls []) := by
        intro v3 n
        induction n with
        | zero => intro v1 v2 v4 o_all_r o_shift_r o_rootOf_r rr hf; exact (ds_it_zero hf).elim
        | succ n ih51 =>
          intro v1 v2 v4 o_all_r o_shift_r o_rootOf_r rr hf hG H locs hP hD hS ls hl
          refine h2 ?_
          obtain ⟨rr, hf, hG⟩ := ds_it_succ hf hG
          replace hf : fX8_better_51_b o_plans_r v3 v1 v2 v4 o_all_r o_shift_r o_rootOf_r = some rr := hf
          obtain ⟨G2, eG2⟩ : ∃ G : ((Int32 × Int32 × Int32 × (Nat → Int32) × (Nat → Int32) × (Nat → Int32)) ⊕ ((Int32 × Int32 × Int32 × (Nat → Int32) × (Nat → Int32) × (Nat → Int32)) ⊕ (Int32 × Int32 × (Nat → Int32) × (Nat → Int32) × (Nat → Int32)))) → Prop, G = ds_G (fun s' => ∃ r', ds_it (fun s => fX8_better_51_b o_plans_r v3 s.1 s.2.1 s.2.2.1 s.2.2.2.1 s.2.2.2.2.1 s.2.2.2.2.2) n s' = some r' ∧ G1 r') G1 := ⟨_, rfl⟩
          rw [← eG2] at hG
          have J_145 : ∀ (v1 : Int32) (v2 : Int32) (v4 : Int32) (v5 : Int32) (o_all_r : Nat → Int32) (o_shift_r : Nat → Int32) (o_rootOf_r : Nat → Int32) (rr : (Int32 × Int32 × Int32 × (Nat → Int32) × (Nat → Int32) × (Nat → Int32)) ⊕ ((Int32 × Int32 × Int32 × (Nat → Int32) × (Nat → Int32) × (Nat → Int32)) ⊕ (Int32 × Int32 × (Nat → Int32) × (Nat → Int32) × (Nat → Int32)))) (hf : fX8_better_145 o_all_r o_shift_r o_rootOf_r v1 v2 v3 v4 v5 = some rr) (hG : G2 rr) (H : Heap) (locs : List Loc) (hP : va_P (dC, dI) vwCl [(h_o, .inr (7, [.ref h_o_plans, .ref h_o_makers, .ref h_o_halves, .int o_raised, .ref h_o_all, .ref h_o_text, .ref h_o_saved, .ref h_o_undone, .int o_undos, .int o_reached, .int o_length, .int o_begin, .int o_letters, .int o_sort, .long o_word, .int o_wrongAt, .int o_badAt, .int o_bad, .ref h_o_told, .ref h_o_shift, .int o_firstX, .int o_firstY, .int o_secondX, .int o_secondY, .ref h_o_rootOf, .ref h_o_becomes, .ref h_o_comes, .ref h_o_next, .int o_x])), (h_o_all, .inl (ca 0, 350, .inl o_all_r)), (h_o_plans, .inl (ca 0, 80, .inl o_plans_r)), (h_o_shift, .inl (ca 3, 768, .inl o_shift_r)), (h_o_rootOf, .inl (ca 0, 64, .inl o_rootOf_r))] H) (hD : va_D A [(h_o, .inr (7, [.ref h_o_plans, .ref h_o_makers, .ref h_o_halves, .int o_raised, .ref h_o_all, .ref h_o_text, .ref h_o_saved, .ref h_o_undone, .int o_undos, .int o_reached, .int o_length, .int o_begin, .int o_letters, .int o_sort, .long o_word, .int o_wrongAt, .int o_badAt, .int o_bad, .ref h_o_told, .ref h_o_shift, .int o_firstX, .int o_firstY, .int o_secondX, .int o_secondY, .ref h_o_rootOf, .ref h_o_becomes, .ref h_o_comes, .ref h_o_next, .int o_x])), (h_o_all, .inl (ca 0, 350, .inl o_all_r)), (h_o_plans, .inl (ca 0, 80, .inl o_plans_r)), (h_o_shift, .inl (ca 3, 768, .inl o_shift_r)), (h_o_rootOf, .inl (ca 0, 64, .inl o_rootOf_r))]) (hS : va_S A s.heap H locs) (ls : Array Slot) (hl : lv_has ls 8 [(0, .ref h_o), (1, .int v1), (2, .int v2), (3, .int v3), (4, .int v4), (5, .int v5)]), WW H locs (F0 m 145 ls []) := by
            intro v1 v2 v4 v5 o_all_r o_shift_r o_rootOf_r rr hf hG H locs hP hD hS ls hl
            refine h2 ?_
            unfold fX8_better_145 at hf
            refine lv_aload_n hx hb dX8_better_145 rfl (lv_at hl 0 rfl) ?_
            refine va_get (D := (dC, dI)) (ci := 7) (v := .ref h_o_all) (C := RX8) (T := TX8) (N := 29) hx hb hts (fun w h => List.mem_cons_of_mem _ (kc_X8 w h)) hown hK hP 0 rfl rfl 4 (by decide) (hg kw_594) (fun _ h9 => h9) rfl dX8_better_146 ?_
            refine lv_iconst (v := 3) hx hb dX8_better_149 (by decide) ?_
            refine lv_bipush (v := 8) hx hb dX8_better_150 (by decide) ?_
            refine lv_iload_n hx hb dX8_better_152 rfl (lv_at hl 3 rfl) ?_
            refine lv_imul hx hb dX8_better_153 ?_
            refine lv_iadd hx hb dX8_better_154 ?_
            refine lv_iload hx hb dX8_better_155 (lv_at hl 4 rfl) ?_
            refine lv_iadd hx hb dX8_better_157 ?_
            refine lv_iload hx hb dX8_better_158 (lv_at hl 5 rfl) ?_
            obtain ⟨i_160, hf⟩ := ds_ci hf
            refine va_iast hx hb hK hP hD hS 1 0 rfl rfl i_160 dX8_better_160 (fun H locs hP hD hS => ?_)
            have hP : va_P (dC, dI) vwCl [(h_o, .inr (7, [.ref h_o_plans, .ref h_o_makers, .ref h_o_halves, .int o_raised, .ref h_o_all, .ref h_o_text, .ref h_o_saved, .ref h_o_undone, .int o_undos, .int o_reached, .int o_length, .int o_begin, .int o_letters, .int o_sort, .long o_word, .int o_wrongAt, .int o_badAt, .int o_bad, .ref h_o_told, .ref h_o_shift, .int o_firstX, .int o_firstY, .int o_secondX, .int o_secondY, .ref h_o_rootOf, .ref h_o_becomes, .ref h_o_comes, .ref h_o_next, .int o_x])), (h_o_all, .inl (ca 0, 350, .inl (upd o_all_r ((((3 : Int32) + ((8 : Int32) * v3)) + v4).toNatClampNeg) v5))), (h_o_plans, .inl (ca 0, 80, .inl o_plans_r)), (h_o_shift, .inl (ca 3, 768, .inl o_shift_r)), (h_o_rootOf, .inl (ca 0, 64, .inl o_rootOf_r))] H := hP
            have hD : va_D A [(h_o, .inr (7, [.ref h_o_plans, .ref h_o_makers, .ref h_o_halves, .int o_raised, .ref h_o_all, .ref h_o_text, .ref h_o_saved, .ref h_o_undone, .int o_undos, .int o_reached, .int o_length, .int o_begin, .int o_letters, .int o_sort, .long o_word, .int o_wrongAt, .int o_badAt, .int o_bad, .ref h_o_told, .ref h_o_shift, .int o_firstX, .int o_firstY, .int o_secondX, .int o_secondY, .ref h_o_rootOf, .ref h_o_becomes, .ref h_o_comes, .ref h_o_next, .int o_x])), (h_o_all, .inl (ca 0, 350, .inl (upd o_all_r ((((3 : Int32) + ((8 : Int32) * v3)) + v4).toNatClampNeg) v5))), (h_o_plans, .inl (ca 0, 80, .inl o_plans_r)), (h_o_shift, .inl (ca 3, 768, .inl o_shift_r)), (h_o_rootOf, .inl (ca 0, 64, .inl o_rootOf_r))] := hD
            refine lv_iinc (v := (v4 + 1)) (lv' := [(4, .int (v4 + 1)), (0, .ref h_o), (1, .int v1), (2, .int v2), (3, .int v3), (5, .int v5)]) hx hb dX8_better_161 hl (k := 4) rfl rfl (by decide) rfl (fun ls hl => ?_)
            refine lv_goto (tgt := 51) hx hb dX8_better_164 (by decide) ?_
            have hf := Option.some.inj hf
            subst hf
            rw [eG2] at hG
            obtain ⟨rr, hf, hG⟩ := hG
            exact h1 (ih51 v1 v2 (v4 + 1) (upd o_all_r ((((3 : Int32) + ((8 : Int32) * v3)) + v4).toNatClampNeg) v5) o_shift_r o_rootOf_r rr hf hG _ _ hP hD hS _ (lv_sub hl [1, 2, 3, 4, 0] rfl))
          have J_74 : ∀ (v4 : Int32) (v5 : Int32) (n : Nat) (v1 : Int32) (v2 : Int32) (v6 : Int32) (o_all_r : Nat → Int32) (o_shift_r : Nat → Int32) (o_rootOf_r : Nat → Int32) (rr : (Int32 × Int32 × Int32 × (Nat → Int32) × (Nat → Int32) × (Nat → Int32)) ⊕ ((Int32 × Int32 × Int32 × (Nat → Int32) × (Nat → Int32) × (Nat → Int32)) ⊕ (Int32 × Int32 × (Nat → Int32) × (Nat → Int32) × (Nat → Int32)))) (hf : ds_it (fun s => fX8_better_74_b o_plans_r v3 v4 v5 s.1 s.2.1 s.2.2.1 s.2.2.2.1 s.2.2.2.2.1 s.2.2.2.2.2) n (v1, v2, v6, o_all_r, o_shift_r, o_rootOf_r) = some rr) (hG : G2 rr) (H : Heap) (locs : List Loc) (hP : va_P (dC, dI) vwCl [(h_o, .inr (7, [.ref h_o_plans, .ref h_o_makers, .ref h_o_halves, .int o_raised, .ref h_o_all, .ref h_o_text, .ref h_o_saved, .ref h_o_undone, .int o_undos, .int o_reached, .int o_length, .int o_begin, .int o_letters, .int o_sort, .long o_word, .int o_wrongAt, .int o_badAt, .int o_bad, .ref h_o_told, .ref h_o_shift, .int o_firstX, .int o_firstY, .int o_secondX, .int o_secondY, .ref h_o_rootOf, .ref h_o_becomes, .ref h_o_comes, .ref h_o_next, .int o_x])), (h_o_all, .inl (ca 0, 350, .inl o_all_r)), (h_o_plans, .inl (ca 0, 80, .inl o_plans_r)), (h_o_shift, .inl (ca 3, 768, .inl o_shift_r)), (h_o_rootOf, .inl (ca 0, 64, .inl o_rootOf_r))] H) (hD : va_D A [(h_o, .inr (7, [.ref h_o_plans, .ref h_o_makers, .ref h_o_halves, .int o_raised, .ref h_o_all, .ref h_o_text, .ref h_o_saved, .ref h_o_undone, .int o_undos, .int o_reached, .int o_length, .int o_begin, .int o_letters, .int o_sort, .long o_word, .int o_wrongAt, .int o_badAt, .int o_bad, .ref h_o_told, .ref h_o_shift, .int o_firstX, .int o_firstY, .int o_secondX, .int o_secondY, .ref h_o_rootOf, .ref h_o_becomes, .ref h_o_comes, .ref h_o_next, .int o_x])), (h_o_all, .inl (ca 0, 350, .inl o_all_r)), (h_o_plans, .inl (ca 0, 80, .inl o_plans_r)), (h_o_shift, .inl (ca 3, 768, .inl o_shift_r)), (h_o_rootOf, .inl (ca 0, 64, .inl o_rootOf_r))]) (hS : va_S A s.heap H locs) (ls : Array Slot) (hl : lv_has ls 8 [(0, .ref h_o), (1, .int v1), (2, .int v2), (3, .int v3), (4, .int v4), (5, .int v5), (6, .int v6)]), WW H locs (F0 m 74 ls []) := by
            intro v4 v5 n
            induction n with
            | zero => intro v1 v2 v6 o_all_r o_shift_r o_rootOf_r rr hf; exact (ds_it_zero hf).elim
            | succ n ih74 =>
              intro v1 v2 v6 o_all_r o_shift_r o_rootOf_r rr hf hG H locs hP hD hS ls hl
              refine h2 ?_
              obtain ⟨rr, hf, hG⟩ := ds_it_succ hf hG
              replace hf : fX8_better_74_b o_plans_r v3 v4 v5 v1 v2 v6 o_all_r o_shift_r o_rootOf_r = some rr := hf
              obtain ⟨G3, eG3⟩ : ∃ G : ((Int32 × Int32 × Int32 × (Nat → Int32) × (Nat → Int32) × (Nat → Int32)) ⊕ ((Int32 × Int32 × Int32 × (Nat → Int32) × (Nat → Int32) × (Nat → Int32)) ⊕ ((Int32 × Int32 × Int32 × (Nat → Int32) × (Nat → Int32) × (Nat → Int32)) ⊕ (Int32 × Int32 × (Nat → Int32) × (Nat → Int32) × (Nat → Int32))))) → Prop, G = ds_G (fun s' => ∃ r', ds_it (fun s => fX8_better_74_b o_plans_r v3 v4 v5 s.1 s.2.1 s.2.2.1 s.2.2.2.1 s.2.2.2.2.1 s.2.2.2.2.2) n s' = some r' ∧ G2 r') G2 := ⟨_, rfl⟩
              rw [← eG3] at hG
              have J_139 : ∀ (v1 : Int32) (v2 : Int32) (v6 : Int32) (o_all_r : Nat → Int32) (o_shift_r : Nat → Int32) (o_rootOf_r : Nat → Int32) (rr : (Int32 × Int32 × Int32 × (Nat → Int32) × (Nat → Int32) × (Nat → Int32)) ⊕ ((Int32 × Int32 × Int32 × (Nat → Int32) × (Nat → Int32) × (Nat → Int32)) ⊕ ((Int32 × Int32 × Int32 × (Nat → Int32) × (Nat → Int32) × (Nat → Int32)) ⊕ (Int32 × Int32 × (Nat → Int32) × (Nat → Int32) × (Nat → Int32))))) (hf : fX8_better_139 o_all_r o_shift_r o_rootOf_r v1 v2 v6 = some rr) (hG : G3 rr) (H : Heap) (locs : List Loc) (hP : va_P (dC, dI) vwCl [(h_o, .inr (7, [.ref h_o_plans, .ref h_o_makers, .ref h_o_halves, .int o_raised, .ref h_o_all, .ref h_o_text, .ref h_o_saved, .ref h_o_undone, .int o_undos, .int o_reached, .int o_length, .int o_begin, .int o_letters, .int o_sort, .long o_word, .int o_wrongAt, .int o_badAt, .int o_bad, .ref h_o_told, .ref h_o_shift, .int o_firstX, .int o_firstY, .int o_secondX, .int o_secondY, .ref h_o_rootOf, .ref h_o_becomes, .ref h_o_comes, .ref h_o_next, .int o_x])), (h_o_all, .inl (ca 0, 350, .inl o_all_r)), (h_o_plans, .inl (ca 0, 80, .inl o_plans_r)), (h_o_shift, .inl (ca 3, 768, .inl o_shift_r)), (h_o_rootOf, .inl (ca 0, 64, .inl o_rootOf_r))] H) (hD : va_D A [(h_o, .inr (7, [.ref h_o_plans, .ref h_o_makers, .ref h_o_halves, .int o_raised, .ref h_o_all, .ref h_o_text, .ref h_o_saved, .ref h_o_undone, .int o_undos, .int o_reached, .int o_length, .int o_begin, .int o_letters, .int o_sort, .long o_word, .int o_wrongAt, .int o_badAt, .int o_bad, .ref h_o_told, .ref h_o_shift, .int o_firstX, .int o_firstY, .int o_secondX, .int o_secondY, .ref h_o_rootOf, .ref h_o_becomes, .ref h_o_comes, .ref h_o_next, .int o_x])), (h_o_all, .inl (ca 0, 350, .inl o_all_r)), (h_o_plans, .inl (ca 0, 80, .inl o_plans_r)), (h_o_shift, .inl (ca 3, 768, .inl o_shift_r)), (h_o_rootOf, .inl (ca 0, 64, .inl o_rootOf_r))]) (hS : va_S A s.heap H locs) (ls : Array Slot) (hl : lv_has ls 8 [(0, .ref h_o), (1, .int v1), (2, .int v2), (3, .int v3), (4, .int v4), (5, .int v5), (6, .int v6)]), WW H locs (F0 m 139 ls []) := by
                intro v1 v2 v6 o_all_r o_shift_r o_rootOf_r rr hf hG H locs hP hD hS ls hl
                refine h2 ?_
                unfold fX8_better_139 at hf
                refine lv_iinc (v := (v6 + 1)) (lv' := [(6, .int (v6 + 1)), (0, .ref h_o), (1, .int v1), (2, .int v2), (3, .int v3), (4, .int v4), (5, .int v5)]) hx hb dX8_better_139 hl (k := 6) rfl rfl (by decide) rfl (fun ls hl => ?_)
                refine lv_goto (tgt := 74) hx hb dX8_better_142 (by decide) ?_
                have hf := Option.some.inj hf
                subst hf
                rw [eG3] at hG
                obtain ⟨rr, hf, hG⟩ := hG
                exact h1 (ih74 v1 v2 (v6 + 1) o_all_r o_shift_r o_rootOf_r rr hf hG _ _ hP hD hS _ (lv_sub hl [1, 2, 3, 4, 5, 6, 0] rfl))
              have J_115 : ∀ (v1 : Int32) (v2 : Int32) (v6 : Int32) (s0 : Int32) (o_all_r : Nat → Int32) (o_shift_r : Nat → Int32) (o_rootOf_r : Nat → Int32) (rr : (Int32 × Int32 × Int32 × (Nat → Int32) × (Nat → Int32) × (Nat → Int32)) ⊕ ((Int32 × Int32 × Int32 × (Nat → Int32) × (Nat → Int32) × (Nat → Int32)) ⊕ ((Int32 × Int32 × Int32 × (Nat → Int32) × (Nat → Int32) × (Nat → Int32)) ⊕ (Int32 × Int32 × (Nat → Int32) × (Nat → Int32) × (Nat → Int32))))) (hf : fX8_better_115 o_all_r o_shift_r o_rootOf_r v1 v2 v3 v4 v6 s0 = some rr) (hG : G3 rr) (H : Heap) (locs : List Loc) (hP : va_P (dC, dI) vwCl [(h_o, .inr (7, [.ref h_o_plans, .ref h_o_makers, .ref h_o_halves, .int o_raised, .ref h_o_all, .ref h_o_text, .ref h_o_saved, .ref h_o_undone, .int o_undos, .int o_reached, .int o_length, .int o_begin, .int o_letters, .int o_sort, .long o_word, .int o_wrongAt, .int o_badAt, .int o_bad, .ref h_o_told, .ref h_o_shift, .int o_firstX, .int o_firstY, .int o_secondX, .int o_secondY, .ref h_o_rootOf, .ref h_o_becomes, .ref h_o_comes, .ref h_o_next, .int o_x])), (h_o_all, .inl (ca 0, 350, .inl o_all_r)), (h_o_plans, .inl (ca 0, 80, .inl o_plans_r)), (h_o_shift, .inl (ca 3, 768, .inl o_shift_r)), (h_o_rootOf, .inl (ca 0, 64, .inl o_rootOf_r))] H) (hD : va_D A [(h_o, .inr (7, [.ref h_o_plans, .ref h_o_makers, .ref h_o_halves, .int o_raised, .ref h_o_all, .ref h_o_text, .ref h_o_saved, .ref h_o_undone, .int o_undos, .int o_reached, .int o_length, .int o_begin, .int o_letters, .int o_sort, .long o_word, .int o_wrongAt, .int o_badAt, .int o_bad, .ref h_o_told, .ref h_o_shift, .int o_firstX, .int o_firstY, .int o_secondX, .int o_secondY, .ref h_o_rootOf, .ref h_o_becomes, .ref h_o_comes, .ref h_o_next, .int o_x])), (h_o_all, .inl (ca 0, 350, .inl o_all_r)), (h_o_plans, .inl (ca 0, 80, .inl o_plans_r)), (h_o_shift, .inl (ca 3, 768, .inl o_shift_r)), (h_o_rootOf, .inl (ca 0, 64, .inl o_rootOf_r))]) (hS : va_S A s.heap H locs) (ls : Array Slot) (hl : lv_has ls 8 [(0, .ref h_o), (1, .int v1), (2, .int v2), (3, .int v3), (4, .int v4), (5, .int v5), (6, .int v6)]), WW H locs (F0 m 115 ls [.int s0]) := by
                intro v1 v2 v6 s0 o_all_r o_shift_r o_rootOf_r rr hf hG H locs hP hD hS ls hl
                refine h2 ?_
                unfold fX8_better_115 at hf
                refine lv_istore (lv' := [(7, .int s0), (0, .ref h_o), (1, .int v1), (2, .int v2), (3, .int v3), (4, .int v4), (5, .int v5), (6, .int v6)]) hx hb dX8_better_115 hl (by decide) rfl (fun ls hl => ?_)
                refine lv_iload hx hb dX8_better_117 (lv_at hl 0 rfl) ?_
                refine lv_iload_n hx hb dX8_better_119 rfl (lv_at hl 2 rfl) ?_
                refine lv_icmp_ge (tgt := 139) hx hb dX8_better_120 (by decide) (fun c_120 => ?_) (fun c_120 => ?_)
                · replace hf := ds_t c_120 hf
                  exact h1 (J_139 v1 v2 v6 o_all_r o_shift_r o_rootOf_r _ hf hG _ _ hP hD hS _ (lv_sub hl [1, 2, 3, 4, 5, 6, 7] rfl))
                · replace hf := ds_f c_120 hf
                  refine lv_iload hx hb dX8_better_123 (lv_at hl 0 rfl) ?_
                  refine lv_istore_n (lv' := [(1, .int s0), (7, .int s0), (0, .ref h_o), (2, .int v2), (3, .int v3), (4, .int v4), (5, .int v5), (6, .int v6)]) hx hb dX8_better_125 rfl hl (by decide) rfl (fun ls hl => ?_)
                  refine lv_bipush (v := 32) hx hb dX8_better_126 (by decide) ?_
                  refine lv_iload_n hx hb dX8_better_128 rfl (lv_at hl 4 rfl) ?_
                  refine lv_imul hx hb dX8_better_129 ?_
                  refine lv_iconst (v := 4) hx hb dX8_better_130 (by decide) ?_
                  refine lv_iload hx hb dX8_better_131 (lv_at hl 5 rfl) ?_
                  refine lv_imul hx hb dX8_better_133 ?_
                  refine lv_iadd hx hb dX8_better_134 ?_
                  refine lv_iload hx hb dX8_better_135 (lv_at hl 7 rfl) ?_
                  refine lv_iadd hx hb dX8_better_137 ?_
                  obtain ⟨x138, hx_138, hf⟩ := ds_ob hf
                  refine ds_nmi hx_138 ?_
                  refine lv_istore_n (lv' := [(2, .int x138), (1, .int s0), (7, .int s0), (0, .ref h_o), (3, .int v3), (4, .int v4), (5, .int v5), (6, .int v6)]) hx hb dX8_better_138 rfl hl (by decide) rfl (fun ls hl => ?_)
                  exact h1 (J_139 s0 x138 v6 o_all_r o_shift_r o_rootOf_r _ hf hG _ _ hP hD hS _ (lv_sub hl [3, 1, 0, 4, 5, 6, 7] rfl))
              unfold fX8_better_74_b at hf
              refine lv_iload hx hb dX8_better_74 (lv_at hl 6 rfl) ?_
              refine lv_iconst (v := 4) hx hb dX8_better_76 (by decide) ?_
              refine lv_icmp_ge (tgt := 145) hx hb dX8_better_77 (by decide) (fun c_77 => ?_) (fun c_77 => ?_)
              · replace hf := ds_t c_77 hf
                obtain ⟨rr, hr_0, hf⟩ := ds_ob hf
                have hf := Option.some.inj hf
                subst hf
                rw [eG3] at hG
                replace hG : G2 rr := hG
                have hf := hr_0
                exact h1 (J_145 v1 v2 v4 v5 o_all_r o_shift_r o_rootOf_r _ hf hG _ _ hP hD hS _ (lv_sub hl [0, 1, 2, 3, 4, 5] rfl))
              · replace hf := ds_f c_77 hf
                refine lv_aload_n hx hb dX8_better_80 rfl (lv_at hl 0 rfl) ?_
                refine va_get (D := (dC, dI)) (ci := 7) (v := .ref h_o_all) (C := RX8) (T := TX8) (N := 29) hx hb hts (fun w h => List.mem_cons_of_mem _ (kc_X8 w h)) hown hK hP 0 rfl rfl 4 (by decide) (hg kw_594) (fun _ h9 => h9) rfl dX8_better_81 ?_
                refine lv_iconst (v := 3) hx hb dX8_better_84 (by decide) ?_
                refine lv_bipush (v := 8) hx hb dX8_better_85 (by decide) ?_
                refine lv_iload_n hx hb dX8_better_87 rfl (lv_at hl 3 rfl) ?_
                refine lv_imul hx hb dX8_better_88 ?_
                refine lv_iadd hx hb dX8_better_89 ?_
                refine lv_iload hx hb dX8_better_90 (lv_at hl 4 rfl) ?_
                refine lv_iadd hx hb dX8_better_92 ?_
                refine lv_iload hx hb dX8_better_93 (lv_at hl 6 rfl) ?_
                obtain ⟨i_95, hf⟩ := ds_ci hf
                refine va_iast hx hb hK hP hD hS 1 0 rfl rfl i_95 dX8_better_95 (fun H locs hP hD hS => ?_)
                have hP : va_P (dC, dI) vwCl [(h_o, .inr (7, [.ref h_o_plans, .ref h_o_makers, .ref h_o_halves, .int o_raised, .ref h_o_all, .ref h_o_text, .ref h_o_saved, .ref h_o_undone, .int o_undos, .int o_reached, .int o_length, .int o_begin, .int o_letters, .int o_sort, .long o_word, .int o_wrongAt, .int o_badAt, .int o_bad, .ref h_o_told, .ref h_o_shift, .int o_firstX, .int o_firstY, .int o_secondX, .int o_secondY, .ref h_o_rootOf, .ref h_o_becomes, .ref h_o_comes, .ref h_o_next, .int o_x])), (h_o_all, .inl (ca 0, 350, .inl (upd o_all_r ((((3 : Int32) + ((8 : Int32) * v3)) + v4).toNatClampNeg) v6))), (h_o_plans, .inl (ca 0, 80, .inl o_plans_r)), (h_o_shift, .inl (ca 3, 768, .inl o_shift_r)), (h_o_rootOf, .inl (ca 0, 64, .inl o_rootOf_r))] H := hP
                have hD : va_D A [(h_o, .inr (7, [.ref h_o_plans, .ref h_o_makers, .ref h_o_halves, .int o_raised, .ref h_o_all, .ref h_o_text, .ref h_o_saved, .ref h_o_undone, .int o_undos, .int o_reached, .int o_length, .int o_begin, .int o_letters, .int o_sort, .long o_word, .int o_wrongAt, .int o_badAt, .int o_bad, .ref h_o_told, .ref h_o_shift, .int o_firstX, .int o_firstY, .int o_secondX, .int o_secondY, .ref h_o_rootOf, .ref h_o_becomes, .ref h_o_comes, .ref h_o_next, .int o_x])), (h_o_all, .inl (ca 0, 350, .inl (upd o_all_r ((((3 : Int32) + ((8 : Int32) * v3)) + v4).toNatClampNeg) v6))), (h_o_plans, .inl (ca 0, 80, .inl o_plans_r)), (h_o_shift, .inl (ca 3, 768, .inl o_shift_r)), (h_o_rootOf, .inl (ca 0, 64, .inl o_rootOf_r))] := hD
                refine lv_aload_n hx hb dX8_better_96 rfl (lv_at hl 0 rfl) ?_
                obtain ⟨q97, hq97, hf⟩ := ds_ob hf
                refine ds_callv (wr := [(h_o_rootOf, .inl (ca 0, 64, .inl o_rootOf_r))]) (va_runV (As := []) (rest := []) ⟨hx, hb, hml, hown, hts⟩ (c_X8_laysShifts l dC dI ca sa h_o h_o_plans h_o_makers h_o_halves h_o_all h_o_text h_o_saved h_o_undone h_o_told h_o_shift h_o_rootOf h_o_becomes h_o_comes h_o_next H.size o_raised o_undos o_reached o_length o_begin o_letters o_sort o_word o_wrongAt o_badAt o_bad o_firstX o_firstY o_secondX o_secondY o_x (upd o_all_r ((((3 : Int32) + ((8 : Int32) * v3)) + v4).toNatClampNeg) v6) o_plans_r o_shift_r  q97 hq97) (cwV 0 hts (ds_gV kw_764 kw_765 kw_766 kw_597 kw_767) rfl rfl rfl (by decide +kernel) ⟨Nat.le_of_ble_eq_true rfl, Nat.le_of_ble_eq_true rfl⟩) ⟨ds_blind, va_recv hK hP (ci := 7) (q0 := 0) rfl rfl, ds_at hP hD hK hE hS hA [0, 1, 2, 3] rfl rfl _⟩ rfl rfl hl.1 rfl (lv_room (Nat.le_of_ble_eq_true rfl)) dX8_better_97 ⟨Nat.zero_le _, Nat.zero_le _⟩) hP hD hS hA [0, 1, 2, 3] [4] rfl rfl rfl (by decide) (fun H locs hP hD hS => ?_)
                have hP : va_P (dC, dI) vwCl [(h_o_rootOf, .inl (ca 0, 64, .inl o_rootOf_r)), (h_o, .inr (7, [.ref h_o_plans, .ref h_o_makers, .ref h_o_halves, .int o_raised, .ref h_o_all, .ref h_o_text, .ref h_o_saved, .ref h_o_undone, .int o_undos, .int o_reached, .int o_length, .int o_begin, .int o_letters, .int o_sort, .long o_word, .int o_wrongAt, .int o_badAt, .int o_bad, .ref h_o_told, .ref h_o_shift, .int o_firstX, .int o_firstY, .int o_secondX, .int o_secondY, .ref h_o_rootOf, .ref h_o_becomes, .ref h_o_comes, .ref h_o_next, .int o_x])), (h_o_all, .inl (ca 0, 350, .inl (upd o_all_r ((((3 : Int32) + ((8 : Int32) * v3)) + v4).toNatClampNeg) v6))), (h_o_plans, .inl (ca 0, 80, .inl o_plans_r)), (h_o_shift, .inl (ca 3, 768, .inl q97))] H := hP
                have hD : va_D A [(h_o_rootOf, .inl (ca 0, 64, .inl o_rootOf_r)), (h_o, .inr (7, [.ref h_o_plans, .ref h_o_makers, .ref h_o_halves, .int o_raised, .ref h_o_all, .ref h_o_text, .ref h_o_saved, .ref h_o_undone, .int o_undos, .int o_reached, .int o_length, .int o_begin, .int o_letters, .int o_sort, .long o_word, .int o_wrongAt, .int o_badAt, .int o_bad, .ref h_o_told, .ref h_o_shift, .int o_firstX, .int o_firstY, .int o_secondX, .int o_secondY, .ref h_o_rootOf, .ref h_o_becomes, .ref h_o_comes, .ref h_o_next, .int o_x])), (h_o_all, .inl (ca 0, 350, .inl (upd o_all_r ((((3 : Int32) + ((8 : Int32) * v3)) + v4).toNatClampNeg) v6))), (h_o_plans, .inl (ca 0, 80, .inl o_plans_r)), (h_o_shift, .inl (ca 3, 768, .inl q97))] := hD
                refine lv_iload hx hb dX8_better_100 (lv_at hl 6 rfl) ?_
                refine lv_iload hx hb dX8_better_102 (lv_at hl 5 rfl) ?_
                refine lv_icmp_ne (tgt := 111) hx hb dX8_better_104 (by decide) (fun c_104 => ?_) (fun c_104 => ?_)
                · replace hf := ds_f c_104 hf
                  refine lv_aload_n hx hb dX8_better_111 rfl (lv_at hl 0 rfl) ?_
                  obtain ⟨q112, hq112, hf⟩ := ds_ob hf
                  refine ds_calli (wr := []) (va_runV (As := []) (rest := []) ⟨hx, hb, hml, hown, hts⟩ (c_X8_kinds l dC dI ca sa h_o h_o_plans h_o_makers h_o_halves h_o_all h_o_text h_o_saved h_o_undone h_o_told h_o_shift h_o_rootOf h_o_becomes h_o_comes h_o_next H.size o_raised o_undos o_reached o_length o_begin o_letters o_sort o_word o_wrongAt o_badAt o_bad o_firstX o_firstY o_secondX o_secondY o_x o_rootOf_r (upd o_all_r ((((3 : Int32) + ((8 : Int32) * v3)) + v4).toNatClampNeg) v6) q97 o_plans_r  q112 hq112) (cwV 0 hts (ds_gV kw_772 kw_773 kw_774 kw_597 kw_775) rfl rfl rfl (by decide +kernel) ⟨Nat.le_of_ble_eq_true rfl, Nat.le_of_ble_eq_true rfl⟩) ⟨ds_blind, va_recv hK hP (ci := 7) (q0 := 1) rfl rfl, ds_at hP hD hK hE hS hA [1, 0, 2, 4, 3] rfl rfl _⟩ rfl rfl hl.1 rfl (lv_room (Nat.le_of_ble_eq_true rfl)) dX8_better_112 ⟨Nat.zero_le _, Nat.zero_le _⟩) hP hD hS hA [1, 0, 2, 4, 3] [] rfl rfl rfl (by decide) (fun H locs hP hD hS => ?_)
                  have hP : va_P (dC, dI) vwCl [(h_o, .inr (7, [.ref h_o_plans, .ref h_o_makers, .ref h_o_halves, .int o_raised, .ref h_o_all, .ref h_o_text, .ref h_o_saved, .ref h_o_undone, .int o_undos, .int o_reached, .int o_length, .int o_begin, .int o_letters, .int o_sort, .long o_word, .int o_wrongAt, .int o_badAt, .int o_bad, .ref h_o_told, .ref h_o_shift, .int o_firstX, .int o_firstY, .int o_secondX, .int o_secondY, .ref h_o_rootOf, .ref h_o_becomes, .ref h_o_comes, .ref h_o_next, .int o_x])), (h_o_rootOf, .inl (ca 0, 64, .inl q112.2)), (h_o_all, .inl (ca 0, 350, .inl (upd o_all_r ((((3 : Int32) + ((8 : Int32) * v3)) + v4).toNatClampNeg) v6))), (h_o_shift, .inl (ca 3, 768, .inl q97)), (h_o_plans, .inl (ca 0, 80, .inl o_plans_r))] H := hP
                  have hD : va_D A [(h_o, .inr (7, [.ref h_o_plans, .ref h_o_makers, .ref h_o_halves, .int o_raised, .ref h_o_all, .ref h_o_text, .ref h_o_saved, .ref h_o_undone, .int o_undos, .int o_reached, .int o_length, .int o_begin, .int o_letters, .int o_sort, .long o_word, .int o_wrongAt, .int o_badAt, .int o_bad, .ref h_o_told, .ref h_o_shift, .int o_firstX, .int o_firstY, .int o_secondX, .int o_secondY, .ref h_o_rootOf, .ref h_o_becomes, .ref h_o_comes, .ref h_o_next, .int o_x])), (h_o_rootOf, .inl (ca 0, 64, .inl q112.2)), (h_o_all, .inl (ca 0, 350, .inl (upd o_all_r ((((3 : Int32) + ((8 : Int32) * v3)) + v4).toNatClampNeg) v6))), (h_o_shift, .inl (ca 3, 768, .inl q97)), (h_o_plans, .inl (ca 0, 80, .inl o_plans_r))] := hD
                  exact h1 (J_115 v1 v2 v6 q112.1 (upd o_all_r ((((3 : Int32) + ((8 : Int32) * v3)) + v4).toNatClampNeg) v6) q97 q112.2 _ hf hG _ _ (hP.sub [0, 2, 4, 3, 1] rfl) (hD.sub [0, 2, 4, 3, 1] rfl rfl) hS _ (lv_sub hl [0, 1, 2, 3, 4, 5, 6] rfl))
                · replace hf := ds_t c_104 hf
                  refine lv_iload_n hx hb dX8_better_107 rfl (lv_at hl 1 rfl) ?_
                  refine lv_goto (tgt := 115) hx hb dX8_better_108 (by decide) ?_
                  exact h1 (J_115 v1 v2 v6 v1 (upd o_all_r ((((3 : Int32) + ((8 : Int32) * v3)) + v4).toNatClampNeg) v6) q97 o_rootOf_r _ hf hG _ _ (hP.sub [1, 2, 3, 4, 0] rfl) (hD.sub [1, 2, 3, 4, 0] rfl rfl) hS _ (lv_sub hl [0, 1, 2, 3, 4, 5, 6] rfl))
          unfold fX8_better_51_b at hf
          refine lv_iload hx hb dX8_better_51 (lv_at hl 4 rfl) ?_
          refine lv_aload_n hx hb dX8_better_53 rfl (lv_at hl 0 rfl) ?_
          refine va_get (D := (dC, dI)) (ci := 7) (v := .ref h_o_all) (C := RX8) (T := TX8) (N := 29) hx hb hts (fun w h => List.mem_cons_of_mem _ (kc_X8 w h)) hown hK hP 0 rfl rfl 4 (by decide) (hg kw_594) (fun _ h9 => h9) rfl dX8_better_54 ?_
          refine lv_iconst (v := 0) hx hb dX8_better_57 (by decide) ?_
          refine va_iald hx hb hK hP 1 0 rfl rfl (ds_in_ok (i := 0) (n := 350) (by decide)) dX8_better_58 ?_
          refine lv_icmp_ge (tgt := 167) hx hb dX8_better_59 (by decide) (fun c_59 => ?_) (fun c_59 => ?_)
          · replace hf := ds_t c_59 hf
            obtain ⟨rr, hr_0, hf⟩ := ds_ob hf
            have hf := Option.some.inj hf
            subst hf
            rw [eG2] at hG
            replace hG : G1 rr := hG
            have hf := hr_0
            exact h1 (J_167 v1 v2 v3 o_all_r o_shift_r o_rootOf_r _ hf hG _ _ hP hD hS _ (lv_sub hl [0, 1, 2, 3] rfl))
          · replace hf := ds_f c_59 hf
            refine lv_aload_n hx hb dX8_better_62 rfl (lv_at hl 0 rfl) ?_
            refine lv_iload hx hb dX8_better_63 (lv_at hl 4 rfl) ?_
            refine lv_iload_n hx hb dX8_better_65 rfl (lv_at hl 3 rfl) ?_
            obtain ⟨q66, hq66, hf⟩ := ds_ob hf
            refine ds_calli (wr := [(h_o_plans, .inl (ca 0, 80, .inl o_plans_r)), (h_o_shift, .inl (ca 3, 768, .inl o_shift_r)), (h_o_rootOf, .inl (ca 0, 64, .inl o_rootOf_r))]) (va_runV (As := [.int v4, .int v3]) (rest := []) ⟨hx, hb, hml, hown, hts⟩ (c_X8_colour l dC dI ca sa h_o h_o_plans h_o_makers h_o_halves h_o_all h_o_text h_o_saved h_o_undone h_o_told h_o_shift h_o_rootOf h_o_becomes h_o_comes h_o_next H.size o_raised o_undos o_reached o_length o_begin o_letters o_sort o_word o_wrongAt o_badAt o_bad o_firstX o_firstY o_secondX o_secondY o_x o_all_r v4 v3 q66 hq66) (cwV 2 hts (ds_gV kw_651 kw_652 kw_653 kw_597 kw_654) rfl rfl rfl (by decide +kernel) ⟨Nat.le_of_ble_eq_true rfl, Nat.le_of_ble_eq_true rfl⟩) ⟨ds_blind, va_recv hK hP (ci := 7) (q0 := 0) rfl rfl, ds_at hP hD hK hE hS hA [0, 1] rfl rfl _⟩ rfl rfl hl.1 rfl (lv_room (Nat.le_of_ble_eq_true rfl)) dX8_better_66 ⟨Nat.zero_le _, Nat.zero_le _⟩) hP hD hS hA [0, 1] [2, 3, 4] rfl rfl rfl (by decide) (fun H locs hP hD hS => ?_)
            have hP : va_P (dC, dI) vwCl [(h_o_plans, .inl (ca 0, 80, .inl o_plans_r)), (h_o_shift, .inl (ca 3, 768, .inl o_shift_r)), (h_o_rootOf, .inl (ca 0, 64, .inl o_rootOf_r)), (h_o, .inr (7, [.ref h_o_plans, .ref h_o_makers, .ref h_o_halves, .int o_raised, .ref h_o_all, .ref h_o_text, .ref h_o_saved, .ref h_o_undone, .int o_undos, .int o_reached, .int o_length, .int o_begin, .int o_letters, .int o_sort, .long o_word, .int o_wrongAt, .int o_badAt, .int o_bad, .ref h_o_told, .ref h_o_shift, .int o_firstX, .int o_firstY, .int o_secondX, .int o_secondY, .ref h_o_rootOf, .ref h_o_becomes, .ref h_o_comes, .ref h_o_next, .int o_x])), (h_o_all, .inl (ca 0, 350, .inl o_all_r))] H := hP
            have hD : va_D A [(h_o_plans, .inl (ca 0, 80, .inl o_plans_r)), (h_o_shift, .inl (ca 3, 768, .inl o_shift_r)), (h_o_rootOf, .inl (ca 0, 64, .inl o_rootOf_r)), (h_o, .inr (7, [.ref h_o_plans, .ref h_o_makers, .ref h_o_halves, .int o_raised, .ref h_o_all, .ref h_o_text, .ref h_o_saved, .ref h_o_undone, .int o_undos, .int o_reached, .int o_length, .int o_begin, .int o_letters, .int o_sort, .long o_word, .int o_wrongAt, .int o_badAt, .int o_bad, .ref h_o_told, .ref h_o_shift, .int o_firstX, .int o_firstY, .int o_secondX, .int o_secondY, .ref h_o_rootOf, .ref h_o_becomes, .ref h_o_comes, .ref h_o_next, .int o_x])), (h_o_all, .inl (ca 0, 350, .inl o_all_r))] := hD
            refine lv_istore (lv' := [(5, .int q66), (0, .ref h_o), (1, .int v1), (2, .int v2), (3, .int v3), (4, .int v4)]) hx hb dX8_better_69 hl (by decide) rfl (fun ls hl => ?_)
            refine lv_iconst (v := 0) hx hb dX8_better_71 (by decide) ?_
            refine lv_istore (lv' := [(6, .int (0 : Int32)), (5, .int q66), (0, .ref h_o), (1, .int v1), (2, .int v2), (3, .int v3), (4, .int v4)]) hx hb dX8_better_72 hl (by decide) rfl (fun ls hl => ?_)
            exact h1 (J_74 v4 q66 1000 v1 v2 (0 : Int32) o_all_r o_shift_r o_rootOf_r _ hf hG _ _ (hP.sub [3, 4, 0, 1, 2] rfl) (hD.sub [3, 4, 0, 1, 2] rfl rfl) hS _ (lv_sub hl [2, 3, 4, 5, 6, 1, 0] rfl))
      unfold fX8_better_38_b at hf
      refine lv_iload_n hx hb dX8_better_38 rfl (lv_at hl 3 rfl) ?_
      refine lv_aload_n hx hb dX8_better_39 rfl (lv_at hl 0 rfl) ?_
      refine va_get (D := (dC, dI)) (ci := 7) (v := .ref h_o_all) (C := RX8) (T := TX8) (N := 29) hx hb hts (fun w h => List.mem_cons_of_mem _ (kc_X8 w h)) hown hK hP 0 rfl rfl 4 (by decide) (hg kw_594) (fun _ h9 => h9) rfl dX8_better_40 ?_
      refine lv_iconst (v := 1) hx hb dX8_better_43 (by decide) ?_
      refine va_iald hx hb hK hP 1 0 rfl rfl (ds_in_ok (i := 1) (n := 350) (by decide)) dX8_better_44 ?_
      refine lv_icmp_ge (tgt := 173) hx hb dX8_better_45 (by decide) (fun c_45 => ?_) (fun c_45 => ?_)
      · replace hf := ds_t c_45 hf
        refine lv_iload_n hx hb dX8_better_173 rfl (lv_at hl 2 rfl) ?_
        have hf := Option.some.inj hf
        subst hf
        rw [eG1] at hG
        replace hG : G0 _ := hG
        rw [eG0] at hG
        have hG : _ = res := hG
        subst hG
        exact W.iret (v := v2) hx hb hr (fun t ht hW => ⟨⟨v2, (), rfl, rfl, by rw [ht]; exact hP, hD⟩, hS.F ht⟩) hS.2.2 dX8_better_174
      · replace hf := ds_f c_45 hf
        refine lv_iconst (v := 0) hx hb dX8_better_48 (by decide) ?_
        refine lv_istore (lv' := [(4, .int (0 : Int32)), (0, .ref h_o), (1, .int v1), (2, .int v2), (3, .int v3)]) hx hb dX8_better_49 hl (by decide) rfl (fun ls hl => ?_)
        exact h1 (J_51 v3 1000 v1 v2 (0 : Int32) o_all_r o_shift_r o_rootOf_r _ hf hG _ _ hP hD hS _ (lv_sub hl [1, 2, 3, 4, 0] rfl))
  unfold fX8_better at hf
  refine lv_aload_n hx hb dX8_better_0 rfl (lv_at hl 0 rfl) ?_
  refine lv_iconst (v := 0) hx hb dX8_better_1 (by decide) ?_
  refine va_put (D := (dC, dI)) (ci := 7) (v := .int (0 : Int32)) (ty := tyX8 3) (C := RX8) (T := TX8) (N := 29) hx hb hts (fun w h => List.mem_cons_of_mem _ (kc_X8 w h)) tyX8 tyX8_ok nmX8 hown hK hP hD hS 0 rfl rfl 3 (by decide) (hg kw_564) (fun _ h9 => h9) rfl (by decide +kernel) rfl rfl (Nat.le_of_ble_eq_true rfl) dX8_better_2 (fun H locs hP hD hS => ?_)
  have hP : va_P (dC, dI) vwCl [(h_o, .inr (7, [.ref h_o_plans, .ref h_o_makers, .ref h_o_halves, .int (0 : Int32), .ref h_o_all, .ref h_o_text, .ref h_o_saved, .ref h_o_undone, .int o_undos, .int o_reached, .int o_length, .int o_begin, .int o_letters, .int o_sort, .long o_word, .int o_wrongAt, .int o_badAt, .int o_bad, .ref h_o_told, .ref h_o_shift, .int o_firstX, .int o_firstY, .int o_secondX, .int o_secondY, .ref h_o_rootOf, .ref h_o_becomes, .ref h_o_comes, .ref h_o_next, .int o_x])), (h_o_all, .inl (ca 0, 350, .inl o_all_r)), (h_o_plans, .inl (ca 0, 80, .inl o_plans_r)), (h_o_shift, .inl (ca 3, 768, .inl o_shift_r)), (h_o_rootOf, .inl (ca 0, 64, .inl o_rootOf_r))] H := hP
  have hD : va_D A [(h_o, .inr (7, [.ref h_o_plans, .ref h_o_makers, .ref h_o_halves, .int (0 : Int32), .ref h_o_all, .ref h_o_text, .ref h_o_saved, .ref h_o_undone, .int o_undos, .int o_reached, .int o_length, .int o_begin, .int o_letters, .int o_sort, .long o_word, .int o_wrongAt, .int o_badAt, .int o_bad, .ref h_o_told, .ref h_o_shift, .int o_firstX, .int o_firstY, .int o_secondX, .int o_secondY, .ref h_o_rootOf, .ref h_o_becomes, .ref h_o_comes, .ref h_o_next, .int o_x])), (h_o_all, .inl (ca 0, 350, .inl o_all_r)), (h_o_plans, .inl (ca 0, 80, .inl o_plans_r)), (h_o_shift, .inl (ca 3, 768, .inl o_shift_r)), (h_o_rootOf, .inl (ca 0, 64, .inl o_rootOf_r))] := hD
  refine lv_aload_n hx hb dX8_better_5 rfl (lv_at hl 0 rfl) ?_
  refine va_get (D := (dC, dI)) (ci := 7) (v := .ref h_o_all) (C := RX8) (T := TX8) (N := 29) hx hb hts (fun w h => List.mem_cons_of_mem _ (kc_X8 w h)) hown hK hP 0 rfl rfl 4 (by decide) (hg kw_594) (fun _ h9 => h9) rfl dX8_better_6 ?_
  refine lv_iconst (v := 0) hx hb dX8_better_9 (by decide) ?_
  refine va_iald hx hb hK hP 1 0 rfl rfl (ds_in_ok (i := 0) (n := 350) (by decide)) dX8_better_10 ?_
  refine lv_aload_n hx hb dX8_better_11 rfl (lv_at hl 0 rfl) ?_
  refine va_get (D := (dC, dI)) (ci := 7) (v := .ref h_o_all) (C := RX8) (T := TX8) (N := 29) hx hb hts (fun w h => List.mem_cons_of_mem _ (kc_X8 w h)) hown hK hP 0 rfl rfl 4 (by decide) (hg kw_594) (fun _ h9 => h9) rfl dX8_better_12 ?_
  refine lv_iconst (v := 1) hx hb dX8_better_15 (by decide) ?_
  refine va_iald hx hb hK hP 1 0 rfl rfl (ds_in_ok (i := 1) (n := 350) (by decide)) dX8_better_16 ?_
  refine lv_imul hx hb dX8_better_17 ?_
  refine lv_bipush (v := 36) hx hb dX8_better_18 (by decide) ?_
  refine lv_icmp_le (tgt := 25) hx hb dX8_better_20 (by decide) (fun c_20 => ?_) (fun c_20 => ?_)
  · replace hf := ds_t c_20 hf
    refine lv_aload_n hx hb dX8_better_25 rfl (lv_at hl 0 rfl) ?_
    obtain ⟨q26, hq26, hf⟩ := ds_ob hf
    refine ds_callv (wr := [(h_o_rootOf, .inl (ca 0, 64, .inl o_rootOf_r))]) (va_runV (As := []) (rest := []) ⟨hx, hb, hml, hown, hts⟩ (c_X8_laysShifts l dC dI ca sa h_o h_o_plans h_o_makers h_o_halves h_o_all h_o_text h_o_saved h_o_undone h_o_told h_o_shift h_o_rootOf h_o_becomes h_o_comes h_o_next H.size (0 : Int32) o_undos o_reached o_length o_begin o_letters o_sort o_word o_wrongAt o_badAt o_bad o_firstX o_firstY o_secondX o_secondY o_x o_all_r o_plans_r o_shift_r  q26 hq26) (cwV 0 hts (ds_gV kw_764 kw_765 kw_766 kw_597 kw_767) rfl rfl rfl (by decide +kernel) ⟨Nat.le_of_ble_eq_true rfl, Nat.le_of_ble_eq_true rfl⟩) ⟨ds_blind, va_recv hK hP (ci := 7) (q0 := 0) rfl rfl, ds_at hP hD hK hE hS hA [0, 1, 2, 3] rfl rfl _⟩ rfl rfl hl.1 rfl (lv_room (Nat.le_of_ble_eq_true rfl)) dX8_better_26 ⟨Nat.zero_le _, Nat.zero_le _⟩) hP hD hS hA [0, 1, 2, 3] [4] rfl rfl rfl (by decide) (fun H locs hP hD hS => ?_)
    have hP : va_P (dC, dI) vwCl [(h_o_rootOf, .inl (ca 0, 64, .inl o_rootOf_r)), (h_o, .inr (7, [.ref h_o_plans, .ref h_o_makers, .ref h_o_halves, .int (0 : Int32), .ref h_o_all, .ref h_o_text, .ref h_o_saved, .ref h_o_undone, .int o_undos, .int o_reached, .int o_length, .int o_begin, .int o_letters, .int o_sort, .long o_word, .int o_wrongAt, .int o_badAt, .int o_bad, .ref h_o_told, .ref h_o_shift, .int o_firstX, .int o_firstY, .int o_secondX, .int o_secondY, .ref h_o_rootOf, .ref h_o_becomes, .ref h_o_comes, .ref h_o_next, .int o_x])), (h_o_all, .inl (ca 0, 350, .inl o_all_r)), (h_o_plans, .inl (ca 0, 80, .inl o_plans_r)), (h_o_shift, .inl (ca 3, 768, .inl q26))] H := hP
    have hD : va_D A [(h_o_rootOf, .inl (ca 0, 64, .inl o_rootOf_r)), (h_o, .inr (7, [.ref h_o_plans, .ref h_o_makers, .ref h_o_halves, .int (0 : Int32), .ref h_o_all, .ref h_o_text, .ref h_o_saved, .ref h_o_undone, .int o_undos, .int o_reached, .int o_length, .int o_begin, .int o_letters, .int o_sort, .long o_word, .int o_wrongAt, .int o_badAt, .int o_bad, .ref h_o_told, .ref h_o_shift, .int o_firstX, .int o_firstY, .int o_secondX, .int o_secondY, .ref h_o_rootOf, .ref h_o_becomes, .ref h_o_comes, .ref h_o_next, .int o_x])), (h_o_all, .inl (ca 0, 350, .inl o_all_r)), (h_o_plans, .inl (ca 0, 80, .inl o_plans_r)), (h_o_shift, .inl (ca 3, 768, .inl q26))] := hD
    refine lv_aload_n hx hb dX8_better_29 rfl (lv_at hl 0 rfl) ?_
    obtain ⟨q30, hq30, hf⟩ := ds_ob hf
    refine ds_calli (wr := []) (va_runV (As := []) (rest := []) ⟨hx, hb, hml, hown, hts⟩ (c_X8_kinds l dC dI ca sa h_o h_o_plans h_o_makers h_o_halves h_o_all h_o_text h_o_saved h_o_undone h_o_told h_o_shift h_o_rootOf h_o_becomes h_o_comes h_o_next H.size (0 : Int32) o_undos o_reached o_length o_begin o_letters o_sort o_word o_wrongAt o_badAt o_bad o_firstX o_firstY o_secondX o_secondY o_x o_rootOf_r o_all_r q26 o_plans_r  q30 hq30) (cwV 0 hts (ds_gV kw_772 kw_773 kw_774 kw_597 kw_775) rfl rfl rfl (by decide +kernel) ⟨Nat.le_of_ble_eq_true rfl, Nat.le_of_ble_eq_true rfl⟩) ⟨ds_blind, va_recv hK hP (ci := 7) (q0 := 1) rfl rfl, ds_at hP hD hK hE hS hA [1, 0, 2, 4, 3] rfl rfl _⟩ rfl rfl hl.1 rfl (lv_room (Nat.le_of_ble_eq_true rfl)) dX8_better_30 ⟨Nat.zero_le _, Nat.zero_le _⟩) hP hD hS hA [1, 0, 2, 4, 3] [] rfl rfl rfl (by decide) (fun H locs hP hD hS => ?_)
    have hP : va_P (dC, dI) vwCl [(h_o, .inr (7, [.ref h_o_plans, .ref h_o_makers, .ref h_o_halves, .int (0 : Int32), .ref h_o_all, .ref h_o_text, .ref h_o_saved, .ref h_o_undone, .int o_undos, .int o_reached, .int o_length, .int o_begin, .int o_letters, .int o_sort, .long o_word, .int o_wrongAt, .int o_badAt, .int o_bad, .ref h_o_told, .ref h_o_shift, .int o_firstX, .int o_firstY, .int o_secondX, .int o_secondY, .ref h_o_rootOf, .ref h_o_becomes, .ref h_o_comes, .ref h_o_next, .int o_x])), (h_o_rootOf, .inl (ca 0, 64, .inl q30.2)), (h_o_all, .inl (ca 0, 350, .inl o_all_r)), (h_o_shift, .inl (ca 3, 768, .inl q26)), (h_o_plans, .inl (ca 0, 80, .inl o_plans_r))] H := hP
    have hD : va_D A [(h_o, .inr (7, [.ref h_o_plans, .ref h_o_makers, .ref h_o_halves, .int (0 : Int32), .ref h_o_all, .ref h_o_text, .ref h_o_saved, .ref h_o_undone, .int o_undos, .int o_reached, .int o_length, .int o_begin, .int o_letters, .int o_sort, .long o_word, .int o_wrongAt, .int o_badAt, .int o_bad, .ref h_o_told, .ref h_o_shift, .int o_firstX, .int o_firstY, .int o_secondX, .int o_secondY, .ref h_o_rootOf, .ref h_o_becomes, .ref h_o_comes, .ref h_o_next, .int o_x])), (h_o_rootOf, .inl (ca 0, 64, .inl q30.2)), (h_o_all, .inl (ca 0, 350, .inl o_all_r)), (h_o_shift, .inl (ca 3, 768, .inl q26)), (h_o_plans, .inl (ca 0, 80, .inl o_plans_r))] := hD
    refine lv_istore_n (lv' := [(1, .int q30.1), (0, .ref h_o)]) hx hb dX8_better_33 rfl hl (by decide) rfl (fun ls hl => ?_)
    refine lv_iconst (v := -1) hx hb dX8_better_34 (by decide) ?_
    refine lv_istore_n (lv' := [(2, .int (-1 : Int32)), (1, .int q30.1), (0, .ref h_o)]) hx hb dX8_better_35 rfl hl (by decide) rfl (fun ls hl => ?_)
    refine lv_iconst (v := 0) hx hb dX8_better_36 (by decide) ?_
    refine lv_istore_n (lv' := [(3, .int (0 : Int32)), (2, .int (-1 : Int32)), (1, .int q30.1), (0, .ref h_o)]) hx hb dX8_better_37 rfl hl (by decide) rfl (fun ls hl => ?_)
    exact h1 (J_38 (0 : Int32) 1000 q30.1 (-1 : Int32) (0 : Int32) o_all_r q26 q30.2 _ hf hG _ _ (hP.sub [0, 2, 4, 3, 1] rfl) (hD.sub [0, 2, 4, 3, 1] rfl rfl) hS _ (lv_sub hl [3, 2, 1, 0] rfl))
  · replace hf := ds_f c_20 hf
    refine lv_iconst (v := -1) hx hb dX8_better_23 (by decide) ?_
    have hf := Option.some.inj hf
    subst hf
    rw [eG0] at hG
    have hG : _ = res := hG
    subst hG
    exact W.iret (v := (-1 : Int32)) hx hb hr (fun t ht hW => ⟨⟨(-1 : Int32), (), rfl, rfl, by rw [ht]; exact hP, hD⟩, hS.F ht⟩) hS.2.2 dX8_better_24
theorem dX8_copiesText_0 : decode cX8_copiesText 0 = .ok (.iconst 0, 1) := by decide +kernel
theorem dX8_copiesText_1 : decode cX8_copiesText 1 = .ok (.istore_n 3, 1) := by decide +kernel
theorem dX8_copiesText_2 : decode cX8_copiesText 2 = .ok (.iload_n 3, 1) := by decide +kernel
theorem dX8_copiesText_3 : decode cX8_copiesText 3 = .ok (.bipush 70, 2) := by decide +kernel
theorem dX8_copiesText_5 : decode cX8_copiesText 5 = .ok (.if_icmp .ge 31, 3) := by decide +kernel
theorem dX8_copiesText_8 : decode cX8_copiesText 8 = .ok (.aload_n 0, 1) := by decide +kernel
theorem dX8_copiesText_9 : decode cX8_copiesText 9 = .ok (.getfield 19, 3) := by decide +kernel
theorem dX8_copiesText_12 : decode cX8_copiesText 12 = .ok (.bipush 70, 2) := by decide +kernel
theorem dX8_copiesText_14 : decode cX8_copiesText 14 = .ok (.iload_n 2, 1) := by decide +kernel
theorem dX8_copiesText_15 : decode cX8_copiesText 15 = .ok (.imul, 1) := by decide +kernel
theorem dX8_copiesText_16 : decode cX8_copiesText 16 = .ok (.iload_n 3, 1) := by decide +kernel
theorem dX8_copiesText_17 : decode cX8_copiesText 17 = .ok (.iadd, 1) := by decide +kernel
theorem dX8_copiesText_18 : decode cX8_copiesText 18 = .ok (.aload_n 0, 1) := by decide +kernel
theorem dX8_copiesText_19 : decode cX8_copiesText 19 = .ok (.getfield 19, 3) := by decide +kernel
theorem dX8_copiesText_22 : decode cX8_copiesText 22 = .ok (.bipush 70, 2) := by decide +kernel
theorem dX8_copiesText_24 : decode cX8_copiesText 24 = .ok (.iload_n 1, 1) := by decide +kernel
theorem dX8_copiesText_25 : decode cX8_copiesText 25 = .ok (.imul, 1) := by decide +kernel
theorem dX8_copiesText_26 : decode cX8_copiesText 26 = .ok (.iload_n 3, 1) := by decide +kernel
theorem dX8_copiesText_27 : decode cX8_copiesText 27 = .ok (.iadd, 1) := by decide +kernel
theorem dX8_copiesText_28 : decode cX8_copiesText 28 = .ok (.iaload, 1) := by decide +kernel
theorem dX8_copiesText_29 : decode cX8_copiesText 29 = .ok (.iastore, 1) := by decide +kernel
theorem dX8_copiesText_30 : decode cX8_copiesText 30 = .ok (.iinc 3 1, 3) := by decide +kernel
theorem dX8_copiesText_33 : decode cX8_copiesText 33 = .ok (.goto (-31), 3) := by decide +kernel
theorem dX8_copiesText_36 : decode cX8_copiesText 36 = .ok (.iconst 0, 1) := by decide +kernel
theorem dX8_copiesText_37 : decode cX8_copiesText 37 = .ok (.istore_n 3, 1) := by decide +kernel
theorem dX8_copiesText_38 : decode cX8_copiesText 38 = .ok (.iload_n 3, 1) := by decide +kernel
theorem dX8_copiesText_39 : decode cX8_copiesText 39 = .ok (.sipush 200, 3) := by decide +kernel
theorem dX8_copiesText_42 : decode cX8_copiesText 42 = .ok (.if_icmp .ge 33, 3) := by decide +kernel
theorem dX8_copiesText_45 : decode cX8_copiesText 45 = .ok (.aload_n 0, 1) := by decide +kernel
theorem dX8_copiesText_46 : decode cX8_copiesText 46 = .ok (.getfield 22, 3) := by decide +kernel
theorem dX8_copiesText_49 : decode cX8_copiesText 49 = .ok (.sipush 200, 3) := by decide +kernel
theorem dX8_copiesText_52 : decode cX8_copiesText 52 = .ok (.iload_n 2, 1) := by decide +kernel
theorem dX8_copiesText_53 : decode cX8_copiesText 53 = .ok (.imul, 1) := by decide +kernel
theorem dX8_copiesText_54 : decode cX8_copiesText 54 = .ok (.iload_n 3, 1) := by decide +kernel
theorem dX8_copiesText_55 : decode cX8_copiesText 55 = .ok (.iadd, 1) := by decide +kernel
theorem dX8_copiesText_56 : decode cX8_copiesText 56 = .ok (.aload_n 0, 1) := by decide +kernel
theorem dX8_copiesText_57 : decode cX8_copiesText 57 = .ok (.getfield 22, 3) := by decide +kernel
theorem dX8_copiesText_60 : decode cX8_copiesText 60 = .ok (.sipush 200, 3) := by decide +kernel
theorem dX8_copiesText_63 : decode cX8_copiesText 63 = .ok (.iload_n 1, 1) := by decide +kernel
theorem dX8_copiesText_64 : decode cX8_copiesText 64 = .ok (.imul, 1) := by decide +kernel
theorem dX8_copiesText_65 : decode cX8_copiesText 65 = .ok (.iload_n 3, 1) := by decide +kernel
theorem dX8_copiesText_66 : decode cX8_copiesText 66 = .ok (.iadd, 1) := by decide +kernel
theorem dX8_copiesText_67 : decode cX8_copiesText 67 = .ok (.baload, 1) := by decide +kernel
theorem dX8_copiesText_68 : decode cX8_copiesText 68 = .ok (.bastore, 1) := by decide +kernel
theorem dX8_copiesText_69 : decode cX8_copiesText 69 = .ok (.iinc 3 1, 3) := by decide +kernel
theorem dX8_copiesText_72 : decode cX8_copiesText 72 = .ok (.goto (-34), 3) := by decide +kernel
theorem dX8_copiesText_75 : decode cX8_copiesText 75 = .ok (.return_, 1) := by decide +kernel
def fX8_copiesText_38_b (o_all_r : Nat → Int32) (p1 : Int32) (p2 : Int32) (v3 : Int32) (o_text_r : Nat → Int32) : Option ((Int32 × (Nat → Int32)) ⊕ ((Nat → Int32) × (Nat → Int32))) :=
  if (200 : Int32) ≤ v3 then some (.inr (o_all_r, o_text_r)) else if ds_in (((200 : Int32) * p1) + v3) 1000 = true then if ds_in (((200 : Int32) * p2) + v3) 1000 = true then some (.inl ((v3 + 1), (upd o_text_r ((((200 : Int32) * p2) + v3).toNatClampNeg) (vp_nar .byte (o_text_r (((200 : Int32) * p1) + v3).toNatClampNeg))))) else none else none
def fX8_copiesText_38 (o_all_r : Nat → Int32) (p1 : Int32) (p2 : Int32) (v3 : Int32) (o_text_r : Nat → Int32) : Option ((Nat → Int32) × (Nat → Int32)) := ds_it (fun s => fX8_copiesText_38_b o_all_r p1 p2 s.1 s.2) 1000 (v3, o_text_r)
def fX8_copiesText_36 (o_all_r : Nat → Int32) (o_text_r : Nat → Int32) (p1 : Int32) (p2 : Int32) : Option ((Nat → Int32) × (Nat → Int32)) :=
  fX8_copiesText_38 o_all_r p1 p2 (0 : Int32) o_text_r
def fX8_copiesText_2_b (o_text_r : Nat → Int32) (p1 : Int32) (p2 : Int32) (v3 : Int32) (o_all_r : Nat → Int32) : Option ((Int32 × (Nat → Int32)) ⊕ ((Nat → Int32) × (Nat → Int32))) :=
  if (70 : Int32) ≤ v3 then Option.bind (fX8_copiesText_36 o_all_r o_text_r p1 p2) fun z => some (.inr z) else if ds_in (((70 : Int32) * p1) + v3) 350 = true then if ds_in (((70 : Int32) * p2) + v3) 350 = true then some (.inl ((v3 + 1), (upd o_all_r ((((70 : Int32) * p2) + v3).toNatClampNeg) (o_all_r (((70 : Int32) * p1) + v3).toNatClampNeg)))) else none else none
def fX8_copiesText_2 (o_text_r : Nat → Int32) (p1 : Int32) (p2 : Int32) (v3 : Int32) (o_all_r : Nat → Int32) : Option ((Nat → Int32) × (Nat → Int32)) := ds_it (fun s => fX8_copiesText_2_b o_text_r p1 p2 s.1 s.2) 1000 (v3, o_all_r)
def fX8_copiesText (o_all_r : Nat → Int32) (o_text_r : Nat → Int32) (p1 : Int32) (p2 : Int32) : Option ((Nat → Int32) × (Nat → Int32)) :=
  fX8_copiesText_2 o_text_r p1 p2 (0 : Int32) o_all_r
set_option maxHeartbeats 4000000 in
set_option maxRecDepth 100000 in
theorem c_X8_copiesText (l : Launch) (dC : Nat → ClassId) (dI : Nat → Nat → Nat) (ca : Nat → ClassId) (sa : Nat → Nat) (h_o : Nat) (h_o_plans : Nat) (h_o_makers : Nat) (h_o_halves : Nat) (h_o_all : Nat) (h_o_text : Nat) (h_o_saved : Nat) (h_o_undone : Nat) (h_o_told : Nat) (h_o_shift : Nat) (h_o_rootOf : Nat) (h_o_becomes : Nat) (h_o_comes : Nat) (h_o_next : Nat) (sz : Nat) (o_raised : Int32) (o_undos : Int32) (o_reached : Int32) (o_length : Int32) (o_begin : Int32) (o_letters : Int32) (o_sort : Int32) (o_word : Int64) (o_wrongAt : Int32) (o_badAt : Int32) (o_bad : Int32) (o_firstX : Int32) (o_firstY : Int32) (o_secondX : Int32) (o_secondY : Int32) (o_x : Int32) (o_all_r : Nat → Int32) (o_text_r : Nat → Int32) (p1 : Int32) (p2 : Int32) (res : (Nat → Int32) × (Nat → Int32)) (hf : fX8_copiesText o_all_r o_text_r p1 p2 = some res) : Met l yX8_copiesText (Cond.code yX8_copiesText cX8_copiesText 4 none :: ds_gw) { frames := 0, cells := 0, slots := 0, locals := 0 } (va_Pc [.ref h_o, .int p1, .int p2] (ds_Pre dC dI ca sa [(h_o, .inr (7, [.ref h_o_plans, .ref h_o_makers, .ref h_o_halves, .int o_raised, .ref h_o_all, .ref h_o_text, .ref h_o_saved, .ref h_o_undone, .int o_undos, .int o_reached, .int o_length, .int o_begin, .int o_letters, .int o_sort, .long o_word, .int o_wrongAt, .int o_badAt, .int o_bad, .ref h_o_told, .ref h_o_shift, .int o_firstX, .int o_firstY, .int o_secondX, .int o_secondY, .ref h_o_rootOf, .ref h_o_becomes, .ref h_o_comes, .ref h_o_next, .int o_x])), (h_o_all, .inl (ca 0, 350, .inl o_all_r)), (h_o_text, .inl (ca 2, 1000, .inl o_text_r))] sz)) (va_Qv (fun (_ : Unit) => True) (ds_B dC dI (va_A [(h_o, .inr (7, [.ref h_o_plans, .ref h_o_makers, .ref h_o_halves, .int o_raised, .ref h_o_all, .ref h_o_text, .ref h_o_saved, .ref h_o_undone, .int o_undos, .int o_reached, .int o_length, .int o_begin, .int o_letters, .int o_sort, .long o_word, .int o_wrongAt, .int o_badAt, .int o_bad, .ref h_o_told, .ref h_o_shift, .int o_firstX, .int o_firstY, .int o_secondX, .int o_secondY, .ref h_o_rootOf, .ref h_o_becomes, .ref h_o_comes, .ref h_o_next, .int o_x])), (h_o_all, .inl (ca 0, 350, .inl o_all_r)), (h_o_text, .inl (ca 2, 1000, .inl o_text_r))] sz) [(h_o, .inr (7, [.ref h_o_plans, .ref h_o_makers, .ref h_o_halves, .int o_raised, .ref h_o_all, .ref h_o_text, .ref h_o_saved, .ref h_o_undone, .int o_undos, .int o_reached, .int o_length, .int o_begin, .int o_letters, .int o_sort, .long o_word, .int o_wrongAt, .int o_badAt, .int o_bad, .ref h_o_told, .ref h_o_shift, .int o_firstX, .int o_firstY, .int o_secondX, .int o_secondY, .ref h_o_rootOf, .ref h_o_becomes, .ref h_o_comes, .ref h_o_next, .int o_x])), (h_o_all, .inl (ca 0, 350, .inl res.1)), (h_o_text, .inl (ca 2, 1000, .inl res.2))]) (va_A [(h_o, .inr (7, [.ref h_o_plans, .ref h_o_makers, .ref h_o_halves, .int o_raised, .ref h_o_all, .ref h_o_text, .ref h_o_saved, .ref h_o_undone, .int o_undos, .int o_reached, .int o_length, .int o_begin, .int o_letters, .int o_sort, .long o_word, .int o_wrongAt, .int o_badAt, .int o_bad, .ref h_o_told, .ref h_o_shift, .int o_firstX, .int o_firstY, .int o_secondX, .int o_secondY, .ref h_o_rootOf, .ref h_o_becomes, .ref h_o_comes, .ref h_o_next, .int o_x])), (h_o_all, .inl (ca 0, 350, .inl o_all_r)), (h_o_text, .inl (ca 2, 1000, .inl o_text_r))] sz)) 0 0 (va_A [(h_o, .inr (7, [.ref h_o_plans, .ref h_o_makers, .ref h_o_halves, .int o_raised, .ref h_o_all, .ref h_o_text, .ref h_o_saved, .ref h_o_undone, .int o_undos, .int o_reached, .int o_length, .int o_begin, .int o_letters, .int o_sort, .long o_word, .int o_wrongAt, .int o_badAt, .int o_bad, .ref h_o_told, .ref h_o_shift, .int o_firstX, .int o_firstY, .int o_secondX, .int o_secondY, .ref h_o_rootOf, .ref h_o_becomes, .ref h_o_comes, .ref h_o_next, .int o_x])), (h_o_all, .inl (ca 0, 350, .inl o_all_r)), (h_o_text, .inl (ca 2, 1000, .inl o_text_r))] sz) := by
  refine Met.ofW (cc := cX8_copiesText) (maxL := 4) (ret := none) (by decide) rfl ?_
  intro p e s m args below meth c s₁ B hml hv
  obtain ⟨rfl, hsz, hP, hK, hD0, hE⟩ := hv
  have hx := B.exec
  have hb := B.bytes
  have hr := B.returns
  have hts := atoms_spec (ws := Cond.code yX8_copiesText cX8_copiesText 4 none :: ds_gw) B.pre
  have hg : ∀ {w : Cond}, w ∈ ds_gw → w.before _ s = true := fun h => hts _ (List.mem_cons_of_mem _ h)
  have hown : s.vm.findClass RX8 = some m.cls := findClass_of_methodNamed B.named
  have hlocks := B.notSynchronized
  subst hsz
  have hD := hD0.self (sz := s.heap.size)
  generalize hAe : va_A [(h_o, .inr (7, [.ref h_o_plans, .ref h_o_makers, .ref h_o_halves, .int o_raised, .ref h_o_all, .ref h_o_text, .ref h_o_saved, .ref h_o_undone, .int o_undos, .int o_reached, .int o_length, .int o_begin, .int o_letters, .int o_sort, .long o_word, .int o_wrongAt, .int o_badAt, .int o_bad, .ref h_o_told, .ref h_o_shift, .int o_firstX, .int o_firstY, .int o_secondX, .int o_secondY, .ref h_o_rootOf, .ref h_o_becomes, .ref h_o_comes, .ref h_o_next, .int o_x])), (h_o_all, .inl (ca 0, 350, .inl o_all_r)), (h_o_text, .inl (ca 2, 1000, .inl o_text_r))] s.heap.size = A at hD hE ⊢
  have hA : ∀ q : Nat, s.heap.size ≤ q → A q := fun q h => by rw [← hAe]; exact Or.inr h
  have hS : va_S A s.heap s.heap [] := va_S.rf
  have hl := lv_entry ([.ref h_o, .int p1, .int p2]) (n := 4) (Nat.le_of_ble_eq_true rfl)
  rw [lg_entry_eq]
  generalize (lg_sl ([.ref h_o, .int p1, .int p2]) ++ List.replicate (4 - (lg_sl ([.ref h_o, .int p1, .int p2])).length) Slot.unset).toArray = ls at hl ⊢
  have hl : lv_has ls 4 [(0, .ref h_o), (1, .int p1), (2, .int p2)] := hl
  obtain ⟨G0, eG0⟩ : ∃ G : ((Nat → Int32) × (Nat → Int32)) → Prop, G = (fun r => r = res) := ⟨_, rfl⟩
  obtain ⟨rr, hrr⟩ : ∃ z, z = res := ⟨_, rfl⟩
  rw [← hrr] at hf
  have hG : G0 rr := by subst eG0; exact hrr
  refine ds_cap (fun WW h1 h2 => ?_)
  have J_38 : ∀ (o_all_r : Nat → Int32) (n : Nat) (v3 : Int32) (o_text_r : Nat → Int32) (rr : (Nat → Int32) × (Nat → Int32)) (hf : ds_it (fun s => fX8_copiesText_38_b o_all_r p1 p2 s.1 s.2) n (v3, o_text_r) = some rr) (hG : G0 rr) (H : Heap) (locs : List Loc) (hP : va_P (dC, dI) vwCl [(h_o, .inr (7, [.ref h_o_plans, .ref h_o_makers, .ref h_o_halves, .int o_raised, .ref h_o_all, .ref h_o_text, .ref h_o_saved, .ref h_o_undone, .int o_undos, .int o_reached, .int o_length, .int o_begin, .int o_letters, .int o_sort, .long o_word, .int o_wrongAt, .int o_badAt, .int o_bad, .ref h_o_told, .ref h_o_shift, .int o_firstX, .int o_firstY, .int o_secondX, .int o_secondY, .ref h_o_rootOf, .ref h_o_becomes, .ref h_o_comes, .ref h_o_next, .int o_x])), (h_o_all, .inl (ca 0, 350, .inl o_all_r)), (h_o_text, .inl (ca 2, 1000, .inl o_text_r))] H) (hD : va_D A [(h_o, .inr (7, [.ref h_o_plans, .ref h_o_makers, .ref h_o_halves, .int o_raised, .ref h_o_all, .ref h_o_text, .ref h_o_saved, .ref h_o_undone, .int o_undos, .int o_reached, .int o_length, .int o_begin, .int o_letters, .int o_sort, .long o_word, .int o_wrongAt, .int o_badAt, .int o_bad, .ref h_o_told, .ref h_o_shift, .int o_firstX, .int o_firstY, .int o_secondX, .int o_secondY, .ref h_o_rootOf, .ref h_o_becomes, .ref h_o_comes, .ref h_o_next, .int o_x])), (h_o_all, .inl (ca 0, 350, .inl o_all_r)), (h_o_text, .inl (ca 2, 1000, .inl o_text_r))]) (hS : va_S A s.heap H locs) (ls : Array Slot) (hl : lv_has ls 4 [(0, .ref h_o), (1, .int p1), (2, .int p2), (3, .int v3)]), WW H locs (F0 m 38 ls []) := by
    intro o_all_r n
    induction n with
    | zero => intro v3 o_text_r rr hf; exact (ds_it_zero hf).elim
    | succ n ih38 =>
      intro v3 o_text_r rr hf hG H locs hP hD hS ls hl
      refine h2 ?_
      obtain ⟨rr, hf, hG⟩ := ds_it_succ hf hG
      replace hf : fX8_copiesText_38_b o_all_r p1 p2 v3 o_text_r = some rr := hf
      obtain ⟨G1, eG1⟩ : ∃ G : ((Int32 × (Nat → Int32)) ⊕ ((Nat → Int32) × (Nat → Int32))) → Prop, G = ds_G (fun s' => ∃ r', ds_it (fun s => fX8_copiesText_38_b o_all_r p1 p2 s.1 s.2) n s' = some r' ∧ G0 r') G0 := ⟨_, rfl⟩
      rw [← eG1] at hG
      unfold fX8_copiesText_38_b at hf
      refine lv_iload_n hx hb dX8_copiesText_38 rfl (lv_at hl 3 rfl) ?_
      refine lv_sipush (v := 200) hx hb dX8_copiesText_39 (by decide) ?_
      refine lv_icmp_ge (tgt := 75) hx hb dX8_copiesText_42 (by decide) (fun c_42 => ?_) (fun c_42 => ?_)
      · replace hf := ds_t c_42 hf
        have hf := Option.some.inj hf
        subst hf
        rw [eG1] at hG
        replace hG : G0 _ := hG
        rw [eG0] at hG
        have hG : _ = res := hG
        subst hG
        exact W.vret hx hb hr (fun t ht hW => ⟨⟨(), rfl, trivial, by rw [ht]; exact hP, hD⟩, hS.F ht⟩) hS.2.2 dX8_copiesText_75
      · replace hf := ds_f c_42 hf
        refine lv_aload_n hx hb dX8_copiesText_45 rfl (lv_at hl 0 rfl) ?_
        refine va_get (D := (dC, dI)) (ci := 7) (v := .ref h_o_text) (C := RX8) (T := TX8) (N := 29) hx hb hts (fun w h => List.mem_cons_of_mem _ (kc_X8 w h)) hown hK hP 0 rfl rfl 5 (by decide) (hg kw_608) (fun _ h9 => h9) rfl dX8_copiesText_46 ?_
        refine lv_sipush (v := 200) hx hb dX8_copiesText_49 (by decide) ?_
        refine lv_iload_n hx hb dX8_copiesText_52 rfl (lv_at hl 2 rfl) ?_
        refine lv_imul hx hb dX8_copiesText_53 ?_
        refine lv_iload_n hx hb dX8_copiesText_54 rfl (lv_at hl 3 rfl) ?_
        refine lv_iadd hx hb dX8_copiesText_55 ?_
        refine lv_aload_n hx hb dX8_copiesText_56 rfl (lv_at hl 0 rfl) ?_
        refine va_get (D := (dC, dI)) (ci := 7) (v := .ref h_o_text) (C := RX8) (T := TX8) (N := 29) hx hb hts (fun w h => List.mem_cons_of_mem _ (kc_X8 w h)) hown hK hP 0 rfl rfl 5 (by decide) (hg kw_608) (fun _ h9 => h9) rfl dX8_copiesText_57 ?_
        refine lv_sipush (v := 200) hx hb dX8_copiesText_60 (by decide) ?_
        refine lv_iload_n hx hb dX8_copiesText_63 rfl (lv_at hl 1 rfl) ?_
        refine lv_imul hx hb dX8_copiesText_64 ?_
        refine lv_iload_n hx hb dX8_copiesText_65 rfl (lv_at hl 3 rfl) ?_
        refine lv_iadd hx hb dX8_copiesText_66 ?_
        obtain ⟨i_67, hf⟩ := ds_ci hf
        refine va_bald hx hb hK hP 2 2 rfl rfl i_67 dX8_copiesText_67 ?_
        obtain ⟨i_68, hf⟩ := ds_ci hf
        refine va_bast hx hb hK hP hD hS 2 2 rfl rfl i_68 dX8_copiesText_68 (fun H locs hP hD hS => ?_)
        have hP : va_P (dC, dI) vwCl [(h_o, .inr (7, [.ref h_o_plans, .ref h_o_makers, .ref h_o_halves, .int o_raised, .ref h_o_all, .ref h_o_text, .ref h_o_saved, .ref h_o_undone, .int o_undos, .int o_reached, .int o_length, .int o_begin, .int o_letters, .int o_sort, .long o_word, .int o_wrongAt, .int o_badAt, .int o_bad, .ref h_o_told, .ref h_o_shift, .int o_firstX, .int o_firstY, .int o_secondX, .int o_secondY, .ref h_o_rootOf, .ref h_o_becomes, .ref h_o_comes, .ref h_o_next, .int o_x])), (h_o_all, .inl (ca 0, 350, .inl o_all_r)), (h_o_text, .inl (ca 2, 1000, .inl (upd o_text_r ((((200 : Int32) * p2) + v3).toNatClampNeg) (vp_nar .byte (o_text_r (((200 : Int32) * p1) + v3).toNatClampNeg)))))] H := hP
        have hD : va_D A [(h_o, .inr (7, [.ref h_o_plans, .ref h_o_makers, .ref h_o_halves, .int o_raised, .ref h_o_all, .ref h_o_text, .ref h_o_saved, .ref h_o_undone, .int o_undos, .int o_reached, .int o_length, .int o_begin, .int o_letters, .int o_sort, .long o_word, .int o_wrongAt, .int o_badAt, .int o_bad, .ref h_o_told, .ref h_o_shift, .int o_firstX, .int o_firstY, .int o_secondX, .int o_secondY, .ref h_o_rootOf, .ref h_o_becomes, .ref h_o_comes, .ref h_o_next, .int o_x])), (h_o_all, .inl (ca 0, 350, .inl o_all_r)), (h_o_text, .inl (ca 2, 1000, .inl (upd o_text_r ((((200 : Int32) * p2) + v3).toNatClampNeg) (vp_nar .byte (o_text_r (((200 : Int32) * p1) + v3).toNatClampNeg)))))] := hD
        refine lv_iinc (v := (v3 + 1)) (lv' := [(3, .int (v3 + 1)), (0, .ref h_o), (1, .int p1), (2, .int p2)]) hx hb dX8_copiesText_69 hl (k := 3) rfl rfl (by decide) rfl (fun ls hl => ?_)
        refine lv_goto (tgt := 38) hx hb dX8_copiesText_72 (by decide) ?_
        have hf := Option.some.inj hf
        subst hf
        rw [eG1] at hG
        obtain ⟨rr, hf, hG⟩ := hG
        exact h1 (ih38 (v3 + 1) (upd o_text_r ((((200 : Int32) * p2) + v3).toNatClampNeg) (vp_nar .byte (o_text_r (((200 : Int32) * p1) + v3).toNatClampNeg))) rr hf hG _ _ hP hD hS _ (lv_sub hl [1, 2, 3, 0] rfl))
  have J_36 : ∀ (o_all_r : Nat → Int32) (o_text_r : Nat → Int32) (rr : (Nat → Int32) × (Nat → Int32)) (hf : fX8_copiesText_36 o_all_r o_text_r p1 p2 = some rr) (hG : G0 rr) (H : Heap) (locs : List Loc) (hP : va_P (dC, dI) vwCl [(h_o, .inr (7, [.ref h_o_plans, .ref h_o_makers, .ref h_o_halves, .int o_raised, .ref h_o_all, .ref h_o_text, .ref h_o_saved, .ref h_o_undone, .int o_undos, .int o_reached, .int o_length, .int o_begin, .int o_letters, .int o_sort, .long o_word, .int o_wrongAt, .int o_badAt, .int o_bad, .ref h_o_told, .ref h_o_shift, .int o_firstX, .int o_firstY, .int o_secondX, .int o_secondY, .ref h_o_rootOf, .ref h_o_becomes, .ref h_o_comes, .ref h_o_next, .int o_x])), (h_o_all, .inl (ca 0, 350, .inl o_all_r)), (h_o_text, .inl (ca 2, 1000, .inl o_text_r))] H) (hD : va_D A [(h_o, .inr (7, [.ref h_o_plans, .ref h_o_makers, .ref h_o_halves, .int o_raised, .ref h_o_all, .ref h_o_text, .ref h_o_saved, .ref h_o_undone, .int o_undos, .int o_reached, .int o_length, .int o_begin, .int o_letters, .int o_sort, .long o_word, .int o_wrongAt, .int o_badAt, .int o_bad, .ref h_o_told, .ref h_o_shift, .int o_firstX, .int o_firstY, .int o_secondX, .int o_secondY, .ref h_o_rootOf, .ref h_o_becomes, .ref h_o_comes, .ref h_o_next, .int o_x])), (h_o_all, .inl (ca 0, 350, .inl o_all_r)), (h_o_text, .inl (ca 2, 1000, .inl o_text_r))]) (hS : va_S A s.heap H locs) (ls : Array Slot) (hl : lv_has ls 4 [(0, .ref h_o), (1, .int p1), (2, .int p2)]), WW H locs (F0 m 36 ls []) := by
    intro o_all_r o_text_r rr hf hG H locs hP hD hS ls hl
    refine h2 ?_
    unfold fX8_copiesText_36 at hf
    refine lv_iconst (v := 0) hx hb dX8_copiesText_36 (by decide) ?_
    refine lv_istore_n (lv' := [(3, .int (0 : Int32)), (0, .ref h_o), (1, .int p1), (2, .int p2)]) hx hb dX8_copiesText_37 rfl hl (by decide) rfl (fun ls hl => ?_)
    exact h1 (J_38 o_all_r 1000 (0 : Int32) o_text_r _ hf hG _ _ hP hD hS _ (lv_sub hl [1, 2, 3, 0] rfl))
  have J_2 : ∀ (o_text_r : Nat → Int32) (n : Nat) (v3 : Int32) (o_all_r : Nat → Int32) (rr : (Nat → Int32) × (Nat → Int32)) (hf : ds_it (fun s => fX8_copiesText_2_b o_text_r p1 p2 s.1 s.2) n (v3, o_all_r) = some rr) (hG : G0 rr) (H : Heap) (locs : List Loc) (hP : va_P (dC, dI) vwCl [(h_o, .inr (7, [.ref h_o_plans, .ref h_o_makers, .ref h_o_halves, .int o_raised, .ref h_o_all, .ref h_o_text, .ref h_o_saved, .ref h_o_undone, .int o_undos, .int o_reached, .int o_length, .int o_begin, .int o_letters, .int o_sort, .long o_word, .int o_wrongAt, .int o_badAt, .int o_bad, .ref h_o_told, .ref h_o_shift, .int o_firstX, .int o_firstY, .int o_secondX, .int o_secondY, .ref h_o_rootOf, .ref h_o_becomes, .ref h_o_comes, .ref h_o_next, .int o_x])), (h_o_all, .inl (ca 0, 350, .inl o_all_r)), (h_o_text, .inl (ca 2, 1000, .inl o_text_r))] H) (hD : va_D A [(h_o, .inr (7, [.ref h_o_plans, .ref h_o_makers, .ref h_o_halves, .int o_raised, .ref h_o_all, .ref h_o_text, .ref h_o_saved, .ref h_o_undone, .int o_undos, .int o_reached, .int o_length, .int o_begin, .int o_letters, .int o_sort, .long o_word, .int o_wrongAt, .int o_badAt, .int o_bad, .ref h_o_told, .ref h_o_shift, .int o_firstX, .int o_firstY, .int o_secondX, .int o_secondY, .ref h_o_rootOf, .ref h_o_becomes, .ref h_o_comes, .ref h_o_next, .int o_x])), (h_o_all, .inl (ca 0, 350, .inl o_all_r)), (h_o_text, .inl (ca 2, 1000, .inl o_text_r))]) (hS : va_S A s.heap H locs) (ls : Array Slot) (hl : lv_has ls 4 [(0, .ref h_o), (1, .int p1), (2, .int p2), (3, .int v3)]), WW H locs (F0 m 2 ls []) := by
    intro o_text_r n
    induction n with
    | zero => intro v3 o_all_r rr hf; exact (ds_it_zero hf).elim
    | succ n ih2 =>
      intro v3 o_all_r rr hf hG H locs hP hD hS ls hl
      refine h2 ?_
      obtain ⟨rr, hf, hG⟩ := ds_it_succ hf hG
      replace hf : fX8_copiesText_2_b o_text_r p1 p2 v3 o_all_r = some rr := hf
      obtain ⟨G1, eG1⟩ : ∃ G : ((Int32 × (Nat → Int32)) ⊕ ((Nat → Int32) × (Nat → Int32))) → Prop, G = ds_G (fun s' => ∃ r', ds_it (fun s => fX8_copiesText_2_b o_text_r p1 p2 s.1 s.2) n s' = some r' ∧ G0 r') G0 := ⟨_, rfl⟩
      rw [← eG1] at hG
      unfold fX8_copiesText_2_b at hf
      refine lv_iload_n hx hb dX8_copiesText_2 rfl (lv_at hl 3 rfl) ?_
      refine lv_bipush (v := 70) hx hb dX8_copiesText_3 (by decide) ?_
      refine lv_icmp_ge (tgt := 36) hx hb dX8_copiesText_5 (by decide) (fun c_5 => ?_) (fun c_5 => ?_)
      · replace hf := ds_t c_5 hf
        obtain ⟨rr, hr_0, hf⟩ := ds_ob hf
        have hf := Option.some.inj hf
        subst hf
        rw [eG1] at hG
        replace hG : G0 rr := hG
        have hf := hr_0
        exact h1 (J_36 o_all_r o_text_r _ hf hG _ _ hP hD hS _ (lv_sub hl [0, 1, 2] rfl))
      · replace hf := ds_f c_5 hf
        refine lv_aload_n hx hb dX8_copiesText_8 rfl (lv_at hl 0 rfl) ?_
        refine va_get (D := (dC, dI)) (ci := 7) (v := .ref h_o_all) (C := RX8) (T := TX8) (N := 29) hx hb hts (fun w h => List.mem_cons_of_mem _ (kc_X8 w h)) hown hK hP 0 rfl rfl 4 (by decide) (hg kw_594) (fun _ h9 => h9) rfl dX8_copiesText_9 ?_
        refine lv_bipush (v := 70) hx hb dX8_copiesText_12 (by decide) ?_
        refine lv_iload_n hx hb dX8_copiesText_14 rfl (lv_at hl 2 rfl) ?_
        refine lv_imul hx hb dX8_copiesText_15 ?_
        refine lv_iload_n hx hb dX8_copiesText_16 rfl (lv_at hl 3 rfl) ?_
        refine lv_iadd hx hb dX8_copiesText_17 ?_
        refine lv_aload_n hx hb dX8_copiesText_18 rfl (lv_at hl 0 rfl) ?_
        refine va_get (D := (dC, dI)) (ci := 7) (v := .ref h_o_all) (C := RX8) (T := TX8) (N := 29) hx hb hts (fun w h => List.mem_cons_of_mem _ (kc_X8 w h)) hown hK hP 0 rfl rfl 4 (by decide) (hg kw_594) (fun _ h9 => h9) rfl dX8_copiesText_19 ?_
        refine lv_bipush (v := 70) hx hb dX8_copiesText_22 (by decide) ?_
        refine lv_iload_n hx hb dX8_copiesText_24 rfl (lv_at hl 1 rfl) ?_
        refine lv_imul hx hb dX8_copiesText_25 ?_
        refine lv_iload_n hx hb dX8_copiesText_26 rfl (lv_at hl 3 rfl) ?_
        refine lv_iadd hx hb dX8_copiesText_27 ?_
        obtain ⟨i_28, hf⟩ := ds_ci hf
        refine va_iald hx hb hK hP 1 0 rfl rfl i_28 dX8_copiesText_28 ?_
        obtain ⟨i_29, hf⟩ := ds_ci hf
        refine va_iast hx hb hK hP hD hS 1 0 rfl rfl i_29 dX8_copiesText_29 (fun H locs hP hD hS => ?_)
        have hP : va_P (dC, dI) vwCl [(h_o, .inr (7, [.ref h_o_plans, .ref h_o_makers, .ref h_o_halves, .int o_raised, .ref h_o_all, .ref h_o_text, .ref h_o_saved, .ref h_o_undone, .int o_undos, .int o_reached, .int o_length, .int o_begin, .int o_letters, .int o_sort, .long o_word, .int o_wrongAt, .int o_badAt, .int o_bad, .ref h_o_told, .ref h_o_shift, .int o_firstX, .int o_firstY, .int o_secondX, .int o_secondY, .ref h_o_rootOf, .ref h_o_becomes, .ref h_o_comes, .ref h_o_next, .int o_x])), (h_o_all, .inl (ca 0, 350, .inl (upd o_all_r ((((70 : Int32) * p2) + v3).toNatClampNeg) (o_all_r (((70 : Int32) * p1) + v3).toNatClampNeg)))), (h_o_text, .inl (ca 2, 1000, .inl o_text_r))] H := hP
        have hD : va_D A [(h_o, .inr (7, [.ref h_o_plans, .ref h_o_makers, .ref h_o_halves, .int o_raised, .ref h_o_all, .ref h_o_text, .ref h_o_saved, .ref h_o_undone, .int o_undos, .int o_reached, .int o_length, .int o_begin, .int o_letters, .int o_sort, .long o_word, .int o_wrongAt, .int o_badAt, .int o_bad, .ref h_o_told, .ref h_o_shift, .int o_firstX, .int o_firstY, .int o_secondX, .int o_secondY, .ref h_o_rootOf, .ref h_o_becomes, .ref h_o_comes, .ref h_o_next, .int o_x])), (h_o_all, .inl (ca 0, 350, .inl (upd o_all_r ((((70 : Int32) * p2) + v3).toNatClampNeg) (o_all_r (((70 : Int32) * p1) + v3).toNatClampNeg)))), (h_o_text, .inl (ca 2, 1000, .inl o_text_r))] := hD
        refine lv_iinc (v := (v3 + 1)) (lv' := [(3, .int (v3 + 1)), (0, .ref h_o), (1, .int p1), (2, .int p2)]) hx hb dX8_copiesText_30 hl (k := 3) rfl rfl (by decide) rfl (fun ls hl => ?_)
        refine lv_goto (tgt := 2) hx hb dX8_copiesText_33 (by decide) ?_
        have hf := Option.some.inj hf
        subst hf
        rw [eG1] at hG
        obtain ⟨rr, hf, hG⟩ := hG
        exact h1 (ih2 (v3 + 1) (upd o_all_r ((((70 : Int32) * p2) + v3).toNatClampNeg) (o_all_r (((70 : Int32) * p1) + v3).toNatClampNeg)) rr hf hG _ _ hP hD hS _ (lv_sub hl [1, 2, 3, 0] rfl))
  unfold fX8_copiesText at hf
  refine lv_iconst (v := 0) hx hb dX8_copiesText_0 (by decide) ?_
  refine lv_istore_n (lv' := [(3, .int (0 : Int32)), (0, .ref h_o), (1, .int p1), (2, .int p2)]) hx hb dX8_copiesText_1 rfl hl (by decide) rfl (fun ls hl => ?_)
  exact h1 (J_2 o_text_r 1000 (0 : Int32) o_all_r _ hf hG _ _ hP hD hS _ (lv_sub hl [1, 2, 3, 0] rfl))

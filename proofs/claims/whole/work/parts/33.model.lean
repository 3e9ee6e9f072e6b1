theorem dX8_coloured_0 : decode cX8_coloured 0 = .ok (.aload_n 0, 1) := by decide +kernel
theorem dX8_coloured_1 : decode cX8_coloured 1 = .ok (.iconst 0, 1) := by decide +kernel
theorem dX8_coloured_2 : decode cX8_coloured 2 = .ok (.putfield 51, 3) := by decide +kernel
theorem dX8_coloured_5 : decode cX8_coloured 5 = .ok (.iload_n 1, 1) := by decide +kernel
theorem dX8_coloured_6 : decode cX8_coloured 6 = .ok (.iconst 0, 1) := by decide +kernel
theorem dX8_coloured_7 : decode cX8_coloured 7 = .ok (.aload_n 0, 1) := by decide +kernel
theorem dX8_coloured_8 : decode cX8_coloured 8 = .ok (.invokevirtual 62, 3) := by decide +kernel
theorem dX8_coloured_11 : decode cX8_coloured 11 = .ok (.iconst 1, 1) := by decide +kernel
theorem dX8_coloured_12 : decode cX8_coloured 12 = .ok (.isub, 1) := by decide +kernel
theorem dX8_coloured_13 : decode cX8_coloured 13 = .ok (.invokestatic 90, 3) := by decide +kernel
theorem dX8_coloured_16 : decode cX8_coloured 16 = .ok (.ifCond .ne 5, 3) := by decide +kernel
theorem dX8_coloured_19 : decode cX8_coloured 19 = .ok (.iconst (-1), 1) := by decide +kernel
theorem dX8_coloured_20 : decode cX8_coloured 20 = .ok (.ireturn, 1) := by decide +kernel
theorem dX8_coloured_21 : decode cX8_coloured 21 = .ok (.aload_n 0, 1) := by decide +kernel
theorem dX8_coloured_22 : decode cX8_coloured 22 = .ok (.invokevirtual 227, 3) := by decide +kernel
theorem dX8_coloured_25 : decode cX8_coloured 25 = .ok (.iload_n 2, 1) := by decide +kernel
theorem dX8_coloured_26 : decode cX8_coloured 26 = .ok (.ifCond .eq 9, 3) := by decide +kernel
theorem dX8_coloured_29 : decode cX8_coloured 29 = .ok (.aload_n 0, 1) := by decide +kernel
theorem dX8_coloured_30 : decode cX8_coloured 30 = .ok (.iload_n 1, 1) := by decide +kernel
theorem dX8_coloured_31 : decode cX8_coloured 31 = .ok (.invokevirtual 167, 3) := by decide +kernel
theorem dX8_coloured_34 : decode cX8_coloured 34 = .ok (.ireturn, 1) := by decide +kernel
theorem dX8_coloured_35 : decode cX8_coloured 35 = .ok (.iconst 0, 1) := by decide +kernel
theorem dX8_coloured_36 : decode cX8_coloured 36 = .ok (.istore_n 3, 1) := by decide +kernel
theorem dX8_coloured_37 : decode cX8_coloured 37 = .ok (.aload_n 0, 1) := by decide +kernel
theorem dX8_coloured_38 : decode cX8_coloured 38 = .ok (.iload_n 1, 1) := by decide +kernel
theorem dX8_coloured_39 : decode cX8_coloured 39 = .ok (.invokevirtual 141, 3) := by decide +kernel
theorem dX8_coloured_42 : decode cX8_coloured 42 = .ok (.istore 4, 2) := by decide +kernel
theorem dX8_coloured_44 : decode cX8_coloured 44 = .ok (.iconst 0, 1) := by decide +kernel
theorem dX8_coloured_45 : decode cX8_coloured 45 = .ok (.istore 5, 2) := by decide +kernel
theorem dX8_coloured_47 : decode cX8_coloured 47 = .ok (.iload 5, 2) := by decide +kernel
theorem dX8_coloured_49 : decode cX8_coloured 49 = .ok (.aload_n 0, 1) := by decide +kernel
theorem dX8_coloured_50 : decode cX8_coloured 50 = .ok (.getfield 19, 3) := by decide +kernel
theorem dX8_coloured_53 : decode cX8_coloured 53 = .ok (.iconst 1, 1) := by decide +kernel
theorem dX8_coloured_54 : decode cX8_coloured 54 = .ok (.iaload, 1) := by decide +kernel
theorem dX8_coloured_55 : decode cX8_coloured 55 = .ok (.if_icmp .ge 54, 3) := by decide +kernel
theorem dX8_coloured_58 : decode cX8_coloured 58 = .ok (.iconst 0, 1) := by decide +kernel
theorem dX8_coloured_59 : decode cX8_coloured 59 = .ok (.istore 6, 2) := by decide +kernel
theorem dX8_coloured_61 : decode cX8_coloured 61 = .ok (.iload 6, 2) := by decide +kernel
theorem dX8_coloured_63 : decode cX8_coloured 63 = .ok (.aload_n 0, 1) := by decide +kernel
theorem dX8_coloured_64 : decode cX8_coloured 64 = .ok (.getfield 19, 3) := by decide +kernel
theorem dX8_coloured_67 : decode cX8_coloured 67 = .ok (.iconst 0, 1) := by decide +kernel
theorem dX8_coloured_68 : decode cX8_coloured 68 = .ok (.iaload, 1) := by decide +kernel
theorem dX8_coloured_69 : decode cX8_coloured 69 = .ok (.if_icmp .ge 34, 3) := by decide +kernel
theorem dX8_coloured_72 : decode cX8_coloured 72 = .ok (.iload_n 3, 1) := by decide +kernel
theorem dX8_coloured_73 : decode cX8_coloured 73 = .ok (.iload 4, 2) := by decide +kernel
theorem dX8_coloured_75 : decode cX8_coloured 75 = .ok (.ifCond .eq 19, 3) := by decide +kernel
theorem dX8_coloured_78 : decode cX8_coloured 78 = .ok (.aload_n 0, 1) := by decide +kernel
theorem dX8_coloured_79 : decode cX8_coloured 79 = .ok (.iload_n 1, 1) := by decide +kernel
theorem dX8_coloured_80 : decode cX8_coloured 80 = .ok (.iload 6, 2) := by decide +kernel
theorem dX8_coloured_82 : decode cX8_coloured 82 = .ok (.iload 5, 2) := by decide +kernel
theorem dX8_coloured_84 : decode cX8_coloured 84 = .ok (.invokevirtual 257, 3) := by decide +kernel
theorem dX8_coloured_87 : decode cX8_coloured 87 = .ok (.ifCond .eq 7, 3) := by decide +kernel
theorem dX8_coloured_90 : decode cX8_coloured 90 = .ok (.iconst 1, 1) := by decide +kernel
theorem dX8_coloured_91 : decode cX8_coloured 91 = .ok (.goto 4, 3) := by decide +kernel
theorem dX8_coloured_94 : decode cX8_coloured 94 = .ok (.iconst 0, 1) := by decide +kernel
theorem dX8_coloured_95 : decode cX8_coloured 95 = .ok (.iadd, 1) := by decide +kernel
theorem dX8_coloured_96 : decode cX8_coloured 96 = .ok (.istore_n 3, 1) := by decide +kernel
theorem dX8_coloured_97 : decode cX8_coloured 97 = .ok (.iinc 6 1, 3) := by decide +kernel
theorem dX8_coloured_100 : decode cX8_coloured 100 = .ok (.goto (-39), 3) := by decide +kernel
theorem dX8_coloured_103 : decode cX8_coloured 103 = .ok (.iinc 5 1, 3) := by decide +kernel
theorem dX8_coloured_106 : decode cX8_coloured 106 = .ok (.goto (-59), 3) := by decide +kernel
theorem dX8_coloured_109 : decode cX8_coloured 109 = .ok (.iload_n 3, 1) := by decide +kernel
theorem dX8_coloured_110 : decode cX8_coloured 110 = .ok (.ireturn, 1) := by decide +kernel
def fX8_coloured_103 (o_becomes_r : Nat → Int32) (o_comes_r : Nat → Int32) (v3 : Int32) (v5 : Int32) : Option ((Int32 × Int32 × (Nat → Int32) × (Nat → Int32)) ⊕ (Int32 × Int32 × (Nat → Int32) × (Nat → Int32) × (Nat → Int32))) :=
  some (.inl (v3, (v5 + 1), o_becomes_r, o_comes_r))
def fX8_coloured_95 (o_becomes_r : Nat → Int32) (o_comes_r : Nat → Int32) (v6 : Int32) (s0 : Int32) (s1 : Int32) : Option ((Int32 × Int32 × (Nat → Int32) × (Nat → Int32)) ⊕ ((Int32 × Int32 × (Nat → Int32) × (Nat → Int32)) ⊕ (Int32 × Int32 × (Nat → Int32) × (Nat → Int32) × (Nat → Int32)))) :=
  some (.inl ((s1 + s0), (v6 + 1), o_becomes_r, o_comes_r))
def fX8_coloured_94 (o_becomes_r : Nat → Int32) (o_comes_r : Nat → Int32) (v6 : Int32) (s0 : Int32) : Option ((Int32 × Int32 × (Nat → Int32) × (Nat → Int32)) ⊕ ((Int32 × Int32 × (Nat → Int32) × (Nat → Int32)) ⊕ (Int32 × Int32 × (Nat → Int32) × (Nat → Int32) × (Nat → Int32)))) :=
  fX8_coloured_95 o_becomes_r o_comes_r v6 (0 : Int32) s0
def fX8_coloured_61_b (o_all_r : Nat → Int32) (o_plans_r : Nat → Int32) (p1 : Int32) (v4 : Int32) (v5 : Int32) (v3 : Int32) (v6 : Int32) (o_becomes_r : Nat → Int32) (o_comes_r : Nat → Int32) : Option ((Int32 × Int32 × (Nat → Int32) × (Nat → Int32)) ⊕ ((Int32 × Int32 × (Nat → Int32) × (Nat → Int32)) ⊕ (Int32 × Int32 × (Nat → Int32) × (Nat → Int32) × (Nat → Int32)))) :=
  if (o_all_r (0 : Int32).toNatClampNeg) ≤ v6 then Option.bind (fX8_coloured_103 o_becomes_r o_comes_r v3 v5) fun z => some (.inr z) else if v4 = 0 then fX8_coloured_94 o_becomes_r o_comes_r v6 v3 else Option.bind (fX8_isColoured o_becomes_r o_comes_r o_all_r o_plans_r p1 v6 v5) fun q84 => if q84.1 = 0 then fX8_coloured_94 q84.2.1 q84.2.2 v6 v3 else fX8_coloured_95 q84.2.1 q84.2.2 v6 (1 : Int32) v3
def fX8_coloured_61 (o_all_r : Nat → Int32) (o_plans_r : Nat → Int32) (p1 : Int32) (v4 : Int32) (v5 : Int32) (v3 : Int32) (v6 : Int32) (o_becomes_r : Nat → Int32) (o_comes_r : Nat → Int32) : Option ((Int32 × Int32 × (Nat → Int32) × (Nat → Int32)) ⊕ (Int32 × Int32 × (Nat → Int32) × (Nat → Int32) × (Nat → Int32))) := ds_it (fun s => fX8_coloured_61_b o_all_r o_plans_r p1 v4 v5 s.1 s.2.1 s.2.2.1 s.2.2.2) 1000 (v3, v6, o_becomes_r, o_comes_r)
def fX8_coloured_47_b (o_raised : Int32) (o_all_r : Nat → Int32) (o_plans_r : Nat → Int32) (o_shift_r : Nat → Int32) (p1 : Int32) (v4 : Int32) (v3 : Int32) (v5 : Int32) (o_becomes_r : Nat → Int32) (o_comes_r : Nat → Int32) : Option ((Int32 × Int32 × (Nat → Int32) × (Nat → Int32)) ⊕ (Int32 × Int32 × (Nat → Int32) × (Nat → Int32) × (Nat → Int32))) :=
  if (o_all_r (1 : Int32).toNatClampNeg) ≤ v5 then some (.inr (v3, o_raised, o_shift_r, o_becomes_r, o_comes_r)) else fX8_coloured_61 o_all_r o_plans_r p1 v4 v5 v3 (0 : Int32) o_becomes_r o_comes_r
def fX8_coloured_47 (o_raised : Int32) (o_all_r : Nat → Int32) (o_plans_r : Nat → Int32) (o_shift_r : Nat → Int32) (p1 : Int32) (v4 : Int32) (v3 : Int32) (v5 : Int32) (o_becomes_r : Nat → Int32) (o_comes_r : Nat → Int32) : Option (Int32 × Int32 × (Nat → Int32) × (Nat → Int32) × (Nat → Int32)) := ds_it (fun s => fX8_coloured_47_b o_raised o_all_r o_plans_r o_shift_r p1 v4 s.1 s.2.1 s.2.2.1 s.2.2.2) 1000 (v3, v5, o_becomes_r, o_comes_r)
def fX8_coloured (o_all_r : Nat → Int32) (o_plans_r : Nat → Int32) (o_shift_r : Nat → Int32) (o_becomes_r : Nat → Int32) (o_comes_r : Nat → Int32) (p1 : Int32) (p2 : Int32) : Option (Int32 × Int32 × (Nat → Int32) × (Nat → Int32) × (Nat → Int32)) :=
  Option.bind (fX8_turnings o_all_r) fun q8 => Option.bind (fX8_in p1 (0 : Int32) (q8 - (1 : Int32))) fun q13 => if q13 = 0 then some ((-1 : Int32), (0 : Int32), o_shift_r, o_becomes_r, o_comes_r) else Option.bind (fX8_laysShifts o_all_r o_plans_r o_shift_r) fun q22 => if p2 = 0 then Option.bind (fX8_mayTurn o_all_r o_plans_r q22 p1) fun q39 => fX8_coloured_47 (0 : Int32) o_all_r o_plans_r q22 p1 q39 (0 : Int32) (0 : Int32) o_becomes_r o_comes_r else Option.bind (fX8_shiftsOf o_all_r q22 p1) fun q31 => some (q31, (0 : Int32), q22, o_becomes_r, o_comes_r)
set_option maxHeartbeats 4000000 in
set_option maxRecDepth 100000 in
theorem c_X8_coloured (l : Launch) (dC : Nat → ClassId) (dI : Nat → Nat → Nat) (ca : Nat → ClassId) (sa : Nat → Nat) (h_o : Nat) (h_o_plans : Nat) (h_o_makers : Nat) (h_o_halves : Nat) (h_o_all : Nat) (h_o_text : Nat) (h_o_saved : Nat) (h_o_undone : Nat) (h_o_told : Nat) (h_o_shift : Nat) (h_o_rootOf : Nat) (h_o_becomes : Nat) (h_o_comes : Nat) (h_o_next : Nat) (sz : Nat) (o_raised : Int32) (o_undos : Int32) (o_reached : Int32) (o_length : Int32) (o_begin : Int32) (o_letters : Int32) (o_sort : Int32) (o_word : Int64) (o_wrongAt : Int32) (o_badAt : Int32) (o_bad : Int32) (o_firstX : Int32) (o_firstY : Int32) (o_secondX : Int32) (o_secondY : Int32) (o_x : Int32) (o_all_r : Nat → Int32) (o_plans_r : Nat → Int32) (o_shift_r : Nat → Int32) (o_becomes_r : Nat → Int32) (o_comes_r : Nat → Int32) (p1 : Int32) (p2 : Int32) (res : Int32 × Int32 × (Nat → Int32) × (Nat → Int32) × (Nat → Int32)) (hf : fX8_coloured o_all_r o_plans_r o_shift_r o_becomes_r o_comes_r p1 p2 = some res) : Met l yX8_coloured (Cond.code yX8_coloured cX8_coloured 7 (some .int) :: ds_gw) { frames := 5, cells := 0, slots := 0, locals := 115 } (va_Pc [.ref h_o, .int p1, .int p2] (ds_Pre dC dI ca sa [(h_o, .inr (7, [.ref h_o_plans, .ref h_o_makers, .ref h_o_halves, .int o_raised, .ref h_o_all, .ref h_o_text, .ref h_o_saved, .ref h_o_undone, .int o_undos, .int o_reached, .int o_length, .int o_begin, .int o_letters, .int o_sort, .long o_word, .int o_wrongAt, .int o_badAt, .int o_bad, .ref h_o_told, .ref h_o_shift, .int o_firstX, .int o_firstY, .int o_secondX, .int o_secondY, .ref h_o_rootOf, .ref h_o_becomes, .ref h_o_comes, .ref h_o_next, .int o_x])), (h_o_all, .inl (ca 0, 350, .inl o_all_r)), (h_o_plans, .inl (ca 0, 80, .inl o_plans_r)), (h_o_shift, .inl (ca 3, 768, .inl o_shift_r)), (h_o_becomes, .inl (ca 0, 4, .inl o_becomes_r)), (h_o_comes, .inl (ca 0, 4, .inl o_comes_r))] sz)) (va_Qi (fun r (_ : Unit) => r = res.1) (ds_B dC dI (va_A [(h_o, .inr (7, [.ref h_o_plans, .ref h_o_makers, .ref h_o_halves, .int o_raised, .ref h_o_all, .ref h_o_text, .ref h_o_saved, .ref h_o_undone, .int o_undos, .int o_reached, .int o_length, .int o_begin, .int o_letters, .int o_sort, .long o_word, .int o_wrongAt, .int o_badAt, .int o_bad, .ref h_o_told, .ref h_o_shift, .int o_firstX, .int o_firstY, .int o_secondX, .int o_secondY, .ref h_o_rootOf, .ref h_o_becomes, .ref h_o_comes, .ref h_o_next, .int o_x])), (h_o_all, .inl (ca 0, 350, .inl o_all_r)), (h_o_plans, .inl (ca 0, 80, .inl o_plans_r)), (h_o_shift, .inl (ca 3, 768, .inl o_shift_r)), (h_o_becomes, .inl (ca 0, 4, .inl o_becomes_r)), (h_o_comes, .inl (ca 0, 4, .inl o_comes_r))] sz) [(h_o, .inr (7, [.ref h_o_plans, .ref h_o_makers, .ref h_o_halves, .int res.2.1, .ref h_o_all, .ref h_o_text, .ref h_o_saved, .ref h_o_undone, .int o_undos, .int o_reached, .int o_length, .int o_begin, .int o_letters, .int o_sort, .long o_word, .int o_wrongAt, .int o_badAt, .int o_bad, .ref h_o_told, .ref h_o_shift, .int o_firstX, .int o_firstY, .int o_secondX, .int o_secondY, .ref h_o_rootOf, .ref h_o_becomes, .ref h_o_comes, .ref h_o_next, .int o_x])), (h_o_all, .inl (ca 0, 350, .inl o_all_r)), (h_o_plans, .inl (ca 0, 80, .inl o_plans_r)), (h_o_shift, .inl (ca 3, 768, .inl res.2.2.1)), (h_o_becomes, .inl (ca 0, 4, .inl res.2.2.2.1)), (h_o_comes, .inl (ca 0, 4, .inl res.2.2.2.2))]) (va_A [(h_o, .inr (7, [.ref h_o_plans, .ref h_o_makers, .ref h_o_halves, .int o_raised, .ref h_o_all, .ref h_o_text, .ref h_o_saved, .ref h_o_undone, .int o_undos, .int o_reached, .int o_length, .int o_begin, .int o_letters, .int o_sort, .long o_word, .int o_wrongAt, .int o_badAt, .int o_bad, .ref h_o_told, .ref h_o_shift, .int o_firstX, .int o_firstY, .int o_secondX, .int o_secondY, .ref h_o_rootOf, .ref h_o_becomes, .ref h_o_comes, .ref h_o_next, .int o_x])), (h_o_all, .inl (ca 0, 350, .inl o_all_r)), (h_o_plans, .inl (ca 0, 80, .inl o_plans_r)), (h_o_shift, .inl (ca 3, 768, .inl o_shift_r)), (h_o_becomes, .inl (ca 0, 4, .inl o_becomes_r)), (h_o_comes, .inl (ca 0, 4, .inl o_comes_r))] sz)) 0 0 (va_A [(h_o, .inr (7, [.ref h_o_plans, .ref h_o_makers, .ref h_o_halves, .int o_raised, .ref h_o_all, .ref h_o_text, .ref h_o_saved, .ref h_o_undone, .int o_undos, .int o_reached, .int o_length, .int o_begin, .int o_letters, .int o_sort, .long o_word, .int o_wrongAt, .int o_badAt, .int o_bad, .ref h_o_told, .ref h_o_shift, .int o_firstX, .int o_firstY, .int o_secondX, .int o_secondY, .ref h_o_rootOf, .ref h_o_becomes, .ref h_o_comes, .ref h_o_next, .int o_x])), (h_o_all, .inl (ca 0, 350, .inl o_all_r)), (h_o_plans, .inl (ca 0, 80, .inl o_plans_r)), (h_o_shift, .inl (ca 3, 768, .inl o_shift_r)), (h_o_becomes, .inl (ca 0, 4, .inl o_becomes_r)), (h_o_comes, .inl (ca 0, 4, .inl o_comes_r))] sz) := by
  refine Met.ofW (cc := cX8_coloured) (maxL := 7) (ret := (some .int)) (by decide) rfl ?_
  intro p e s m args below meth c s₁ B hml hv
  obtain ⟨rfl, hsz, hP, hK, hD0, hE⟩ := hv
  have hx := B.exec
  have hb := B.bytes
  have hr := B.returns
  have hts := atoms_spec (ws := Cond.code yX8_coloured cX8_coloured 7 (some .int) :: ds_gw) B.pre
  have hg : ∀ {w : Cond}, w ∈ ds_gw → w.before _ s = true := fun h => hts _ (List.mem_cons_of_mem _ h)
  have hown : s.vm.findClass RX8 = some m.cls := findClass_of_methodNamed B.named
  have hlocks := B.notSynchronized
  subst hsz
  have hD := hD0.self (sz := s.heap.size)
  generalize hAe : va_A [(h_o, .inr (7, [.ref h_o_plans, .ref h_o_makers, .ref h_o_halves, .int o_raised, .ref h_o_all, .ref h_o_text, .ref h_o_saved, .ref h_o_undone, .int o_undos, .int o_reached, .int o_length, .int o_begin, .int o_letters, .int o_sort, .long o_word, .int o_wrongAt, .int o_badAt, .int o_bad, .ref h_o_told, .ref h_o_shift, .int o_firstX, .int o_firstY, .int o_secondX, .int o_secondY, .ref h_o_rootOf, .ref h_o_becomes, .ref h_o_comes, .ref h_o_next, .int o_x])), (h_o_all, .inl (ca 0, 350, .inl o_all_r)), (h_o_plans, .inl (ca 0, 80, .inl o_plans_r)), (h_o_shift, .inl (ca 3, 768, .inl o_shift_r)), (h_o_becomes, .inl (ca 0, 4, .inl o_becomes_r)), (h_o_comes, .inl (ca 0, 4, .inl o_comes_r))] s.heap.size = A at hD hE ⊢
  have hA : ∀ q : Nat, s.heap.size ≤ q → A q := fun q h => by rw [← hAe]; exact Or.inr h
  have hS : va_S A s.heap s.heap [] := va_S.rf
  have hl := lv_entry ([.ref h_o, .int p1, .int p2]) (n := 7) (Nat.le_of_ble_eq_true rfl)
  rw [lg_entry_eq]
  generalize (lg_sl ([.ref h_o, .int p1, .int p2]) ++ List.replicate (7 - (lg_sl ([.ref h_o, .int p1, .int p2])).length) Slot.unset).toArray = ls at hl ⊢
  have hl : lv_has ls 7 [(0, .ref h_o), (1, .int p1), (2, .int p2)] := hl
  obtain ⟨G0, eG0⟩ : ∃ G : (Int32 × Int32 × (Nat → Int32) × (Nat → Int32) × (Nat → Int32)) → Prop, G = (fun r => r = res) := ⟨_, rfl⟩
  obtain ⟨rr, hrr⟩ : ∃ z, z = res := ⟨_, rfl⟩
  rw [← hrr] at hf
  have hG : G0 rr := by subst eG0; exact hrr
  refine ds_cap (fun WW h1 h2 => ?_)
  have J_47 : ∀ (v4 : Int32) (o_raised : Int32) (o_shift_r : Nat → Int32) (n : Nat) (v3 : Int32) (v5 : Int32) (o_becomes_r : Nat → Int32) (o_comes_r : Nat → Int32) (rr : Int32 × Int32 × (Nat → Int32) × (Nat → Int32) × (Nat → Int32)) (hf : ds_it (fun s => fX8_coloured_47_b o_raised o_all_r o_plans_r o_shift_r p1 v4 s.1 s.2.1 s.2.2.1 s.2.2.2) n (v3, v5, o_becomes_r, o_comes_r) = some rr) (hG : G0 rr) (H : Heap) (locs : List Loc) (hP : va_P (dC, dI) vwCl [(h_o, .inr (7, [.ref h_o_plans, .ref h_o_makers, .ref h_o_halves, .int o_raised, .ref h_o_all, .ref h_o_text, .ref h_o_saved, .ref h_o_undone, .int o_undos, .int o_reached, .int o_length, .int o_begin, .int o_letters, .int o_sort, .long o_word, .int o_wrongAt, .int o_badAt, .int o_bad, .ref h_o_told, .ref h_o_shift, .int o_firstX, .int o_firstY, .int o_secondX, .int o_secondY, .ref h_o_rootOf, .ref h_o_becomes, .ref h_o_comes, .ref h_o_next, .int o_x])), (h_o_all, .inl (ca 0, 350, .inl o_all_r)), (h_o_plans, .inl (ca 0, 80, .inl o_plans_r)), (h_o_shift, .inl (ca 3, 768, .inl o_shift_r)), (h_o_becomes, .inl (ca 0, 4, .inl o_becomes_r)), (h_o_comes, .inl (ca 0, 4, .inl o_comes_r))] H) (hD : va_D A [(h_o, .inr (7, [.ref h_o_plans, .ref h_o_makers, .ref h_o_halves, .int o_raised, .ref h_o_all, .ref h_o_text, .ref h_o_saved, .ref h_o_undone, .int o_undos, .int o_reached, .int o_length, .int o_begin, .int o_letters, .int o_sort, .long o_word, .int o_wrongAt, .int o_badAt, .int o_bad, .ref h_o_told, .ref h_o_shift, .int o_firstX, .int o_firstY, .int o_secondX, .int o_secondY, .ref h_o_rootOf, .ref h_o_becomes, .ref h_o_comes, .ref h_o_next, .int o_x])), (h_o_all, .inl (ca 0, 350, .inl o_all_r)), (h_o_plans, .inl (ca 0, 80, .inl o_plans_r)), (h_o_shift, .inl (ca 3, 768, .inl o_shift_r)), (h_o_becomes, .inl (ca 0, 4, .inl o_becomes_r)), (h_o_comes, .inl (ca 0, 4, .inl o_comes_r))]) (hS : va_S A s.heap H locs) (ls : Array Slot) (hl : lv_has ls 7 [(0, .ref h_o), (1, .int p1), (3, .int v3), (4, .int v4), (5, .int v5)]), WW H locs (F0 m 47 ls []) := by
    intro v4 o_raised o_shift_r n
    induction n with
    | zero => intro v3 v5 o_becomes_r o_comes_r rr hf; exact (ds_it_zero hf).elim
    | succ n ih47 =>
      intro v3 v5 o_becomes_r o_comes_r rr hf hG H locs hP hD hS ls hl
      refine h2 ?_
      obtain ⟨rr, hf, hG⟩ := ds_it_succ hf hG
      replace hf : fX8_coloured_47_b o_raised o_all_r o_plans_r o_shift_r p1 v4 v3 v5 o_becomes_r o_comes_r = some rr := hf
      obtain ⟨G1, eG1⟩ : ∃ G : ((Int32 × Int32 × (Nat → Int32) × (Nat → Int32)) ⊕ (Int32 × Int32 × (Nat → Int32) × (Nat → Int32) × (Nat → Int32))) → Prop, G = ds_G (fun s' => ∃ r', ds_it (fun s => fX8_coloured_47_b o_raised o_all_r o_plans_r o_shift_r p1 v4 s.1 s.2.1 s.2.2.1 s.2.2.2) n s' = some r' ∧ G0 r') G0 := ⟨_, rfl⟩
      rw [← eG1] at hG
      have J_103 : ∀ (v3 : Int32) (v5 : Int32) (o_becomes_r : Nat → Int32) (o_comes_r : Nat → Int32) (rr : (Int32 × Int32 × (Nat → Int32) × (Nat → Int32)) ⊕ (Int32 × Int32 × (Nat → Int32) × (Nat → Int32) × (Nat → Int32))) (hf : fX8_coloured_103 o_becomes_r o_comes_r v3 v5 = some rr) (hG : G1 rr) (H : Heap) (locs : List Loc) (hP : va_P (dC, dI) vwCl [(h_o, .inr (7, [.ref h_o_plans, .ref h_o_makers, .ref h_o_halves, .int o_raised, .ref h_o_all, .ref h_o_text, .ref h_o_saved, .ref h_o_undone, .int o_undos, .int o_reached, .int o_length, .int o_begin, .int o_letters, .int o_sort, .long o_word, .int o_wrongAt, .int o_badAt, .int o_bad, .ref h_o_told, .ref h_o_shift, .int o_firstX, .int o_firstY, .int o_secondX, .int o_secondY, .ref h_o_rootOf, .ref h_o_becomes, .ref h_o_comes, .ref h_o_next, .int o_x])), (h_o_all, .inl (ca 0, 350, .inl o_all_r)), (h_o_plans, .inl (ca 0, 80, .inl o_plans_r)), (h_o_shift, .inl (ca 3, 768, .inl o_shift_r)), (h_o_becomes, .inl (ca 0, 4, .inl o_becomes_r)), (h_o_comes, .inl (ca 0, 4, .inl o_comes_r))] H) (hD : va_D A [(h_o, .inr (7, [.ref h_o_plans, .ref h_o_makers, .ref h_o_halves, .int o_raised, .ref h_o_all, .ref h_o_text, .ref h_o_saved, .ref h_o_undone, .int o_undos, .int o_reached, .int o_length, .int o_begin, .int o_letters, .int o_sort, .long o_word, .int o_wrongAt, .int o_badAt, .int o_bad, .ref h_o_told, .ref h_o_shift, .int o_firstX, .int o_firstY, .int o_secondX, .int o_secondY, .ref h_o_rootOf, .ref h_o_becomes, .ref h_o_comes, .ref h_o_next, .int o_x])), (h_o_all, .inl (ca 0, 350, .inl o_all_r)), (h_o_plans, .inl (ca 0, 80, .inl o_plans_r)), (h_o_shift, .inl (ca 3, 768, .inl o_shift_r)), (h_o_becomes, .inl (ca 0, 4, .inl o_becomes_r)), (h_o_comes, .inl (ca 0, 4, .inl o_comes_r))]) (hS : va_S A s.heap H locs) (ls : Array Slot) (hl : lv_has ls 7 [(0, .ref h_o), (1, .int p1), (3, .int v3), (4, .int v4), (5, .int v5)]), WW H locs (F0 m 103 ls []) := by
        intro v3 v5 o_becomes_r o_comes_r rr hf hG H locs hP hD hS ls hl
        refine h2 ?_
        unfold fX8_coloured_103 at hf
        refine lv_iinc (v := (v5 + 1)) (lv' := [(5, .int (v5 + 1)), (0, .ref h_o), (1, .int p1), (3, .int v3), (4, .int v4)]) hx hb dX8_coloured_103 hl (k := 4) rfl rfl (by decide) rfl (fun ls hl => ?_)
        refine lv_goto (tgt := 47) hx hb dX8_coloured_106 (by decide) ?_
        have hf := Option.some.inj hf
        subst hf
        rw [eG1] at hG
        obtain ⟨rr, hf, hG⟩ := hG
        exact h1 (ih47 v3 (v5 + 1) o_becomes_r o_comes_r rr hf hG _ _ hP hD hS _ (lv_sub hl [1, 2, 3, 4, 0] rfl))
      have J_61 : ∀ (v5 : Int32) (n : Nat) (v3 : Int32) (v6 : Int32) (o_becomes_r : Nat → Int32) (o_comes_r : Nat → Int32) (rr : (Int32 × Int32 × (Nat → Int32) × (Nat → Int32)) ⊕ (Int32 × Int32 × (Nat → Int32) × (Nat → Int32) × (Nat → Int32))) (hf : ds_it (fun s => fX8_coloured_61_b o_all_r o_plans_r p1 v4 v5 s.1 s.2.1 s.2.2.1 s.2.2.2) n (v3, v6, o_becomes_r, o_comes_r) = some rr) (hG : G1 rr) (H : Heap) (locs : List Loc) (hP : va_P (dC, dI) vwCl [(h_o, .inr (7, [.ref h_o_plans, .ref h_o_makers, .ref h_o_halves, .int o_raised, .ref h_o_all, .ref h_o_text, .ref h_o_saved, .ref h_o_undone, .int o_undos, .int o_reached, .int o_length, .int o_begin, .int o_letters, .int o_sort, .long o_word, .int o_wrongAt, .int o_badAt, .int o_bad, .ref h_o_told, .ref h_o_shift, .int o_firstX, .int o_firstY, .int o_secondX, .int o_secondY, .ref h_o_rootOf, .ref h_o_becomes, .ref h_o_comes, .ref h_o_next, .int o_x])), (h_o_all, .inl (ca 0, 350, .inl o_all_r)), (h_o_plans, .inl (ca 0, 80, .inl o_plans_r)), (h_o_shift, .inl (ca 3, 768, .inl o_shift_r)), (h_o_becomes, .inl (ca 0, 4, .inl o_becomes_r)), (h_o_comes, .inl (ca 0, 4, .inl o_comes_r))] H) (hD : va_D A [(h_o, .inr (7, [.ref h_o_plans, .ref h_o_makers, .ref h_o_halves, .int o_raised, .ref h_o_all, .ref h_o_text, .ref h_o_saved, .ref h_o_undone, .int o_undos, .int o_reached, .int o_length, .int o_begin, .int o_letters, .int o_sort, .long o_word, .int o_wrongAt, .int o_badAt, .int o_bad, .ref h_o_told, .ref h_o_shift, .int o_firstX, .int o_firstY, .int o_secondX, .int o_secondY, .ref h_o_rootOf, .ref h_o_becomes, .ref h_o_comes, .ref h_o_next, .int o_x])), (h_o_all, .inl (ca 0, 350, .inl o_all_r)), (h_o_plans, .inl (ca 0, 80, .inl o_plans_r)), (h_o_shift, .inl (ca 3, 768, .inl o_shift_r)), (h_o_becomes, .inl (ca 0, 4, .inl o_becomes_r)), (h_o_comes, .inl (ca 0, 4, .inl o_comes_r))]) (hS : va_S A s.heap H locs) (ls : Array Slot) (hl : lv_has ls 7 [(0, .ref h_o), (1, .int p1), (3, .int v3), (4, .int v4), (5, .int v5), (6, .int v6)]), WW H locs (F0 m 61 ls []) := by
        intro v5 n
        induction n with
        | zero => intro v3 v6 o_becomes_r o_comes_r rr hf; exact (ds_it_zero hf).elim
        | succ n ih61 =>
          intro v3 v6 o_becomes_r o_comes_r rr hf hG H locs hP hD hS ls hl
          refine h2 ?_
          obtain ⟨rr, hf, hG⟩ := ds_it_succ hf hG
          replace hf : fX8_coloured_61_b o_all_r o_plans_r p1 v4 v5 v3 v6 o_becomes_r o_comes_r = some rr := hf
          obtain ⟨G2, eG2⟩ : ∃ G : ((Int32 × Int32 × (Nat → Int32) × (Nat → Int32)) ⊕ ((Int32 × Int32 × (Nat → Int32) × (Nat → Int32)) ⊕ (Int32 × Int32 × (Nat → Int32) × (Nat → Int32) × (Nat → Int32)))) → Prop, G = ds_G (fun s' => ∃ r', ds_it (fun s => fX8_coloured_61_b o_all_r o_plans_r p1 v4 v5 s.1 s.2.1 s.2.2.1 s.2.2.2) n s' = some r' ∧ G1 r') G1 := ⟨_, rfl⟩
          rw [← eG2] at hG
          have J_95 : ∀ (v6 : Int32) (s0 : Int32) (s1 : Int32) (o_becomes_r : Nat → Int32) (o_comes_r : Nat → Int32) (rr : (Int32 × Int32 × (Nat → Int32) × (Nat → Int32)) ⊕ ((Int32 × Int32 × (Nat → Int32) × (Nat → Int32)) ⊕ (Int32 × Int32 × (Nat → Int32) × (Nat → Int32) × (Nat → Int32)))) (hf : fX8_coloured_95 o_becomes_r o_comes_r v6 s0 s1 = some rr) (hG : G2 rr) (H : Heap) (locs : List Loc) (hP : va_P (dC, dI) vwCl [(h_o, .inr (7, [.ref h_o_plans, .ref h_o_makers, .ref h_o_halves, .int o_raised, .ref h_o_all, .ref h_o_text, .ref h_o_saved, .ref h_o_undone, .int o_undos, .int o_reached, .int o_length, .int o_begin, .int o_letters, .int o_sort, .long o_word, .int o_wrongAt, .int o_badAt, .int o_bad, .ref h_o_told, .ref h_o_shift, .int o_firstX, .int o_firstY, .int o_secondX, .int o_secondY, .ref h_o_rootOf, .ref h_o_becomes, .ref h_o_comes, .ref h_o_next, .int o_x])), (h_o_all, .inl (ca 0, 350, .inl o_all_r)), (h_o_plans, .inl (ca 0, 80, .inl o_plans_r)), (h_o_shift, .inl (ca 3, 768, .inl o_shift_r)), (h_o_becomes, .inl (ca 0, 4, .inl o_becomes_r)), (h_o_comes, .inl (ca 0, 4, .inl o_comes_r))] H) (hD : va_D A [(h_o, .inr (7, [.ref h_o_plans, .ref h_o_makers, .ref h_o_halves, .int o_raised, .ref h_o_all, .ref h_o_text, .ref h_o_saved, .ref h_o_undone, .int o_undos, .int o_reached, .int o_length, .int o_begin, .int o_letters, .int o_sort, .long o_word, .int o_wrongAt, .int o_badAt, .int o_bad, .ref h_o_told, .ref h_o_shift, .int o_firstX, .int o_firstY, .int o_secondX, .int o_secondY, .ref h_o_rootOf, .ref h_o_becomes, .ref h_o_comes, .ref h_o_next, .int o_x])), (h_o_all, .inl (ca 0, 350, .inl o_all_r)), (h_o_plans, .inl (ca 0, 80, .inl o_plans_r)), (h_o_shift, .inl (ca 3, 768, .inl o_shift_r)), (h_o_becomes, .inl (ca 0, 4, .inl o_becomes_r)), (h_o_comes, .inl (ca 0, 4, .inl o_comes_r))]) (hS : va_S A s.heap H locs) (ls : Array Slot) (hl : lv_has ls 7 [(0, .ref h_o), (1, .int p1), (4, .int v4), (5, .int v5), (6, .int v6)]), WW H locs (F0 m 95 ls [.int s0, .int s1]) := by
            intro v6 s0 s1 o_becomes_r o_comes_r rr hf hG H locs hP hD hS ls hl
            refine h2 ?_
            unfold fX8_coloured_95 at hf
            refine lv_iadd hx hb dX8_coloured_95 ?_
            refine lv_istore_n (lv' := [(3, .int (s1 + s0)), (0, .ref h_o), (1, .int p1), (4, .int v4), (5, .int v5), (6, .int v6)]) hx hb dX8_coloured_96 rfl hl (by decide) rfl (fun ls hl => ?_)
            refine lv_iinc (v := (v6 + 1)) (lv' := [(6, .int (v6 + 1)), (3, .int (s1 + s0)), (0, .ref h_o), (1, .int p1), (4, .int v4), (5, .int v5)]) hx hb dX8_coloured_97 hl (k := 5) rfl rfl (by decide) rfl (fun ls hl => ?_)
            refine lv_goto (tgt := 61) hx hb dX8_coloured_100 (by decide) ?_
            have hf := Option.some.inj hf
            subst hf
            rw [eG2] at hG
            obtain ⟨rr, hf, hG⟩ := hG
            exact h1 (ih61 (s1 + s0) (v6 + 1) o_becomes_r o_comes_r rr hf hG _ _ hP hD hS _ (lv_sub hl [2, 3, 1, 4, 5, 0] rfl))
          have J_94 : ∀ (v6 : Int32) (s0 : Int32) (o_becomes_r : Nat → Int32) (o_comes_r : Nat → Int32) (rr : (Int32 × Int32 × (Nat → Int32) × (Nat → Int32)) ⊕ ((Int32 × Int32 × (Nat → Int32) × (Nat → Int32)) ⊕ (Int32 × Int32 × (Nat → Int32) × (Nat → Int32) × (Nat → Int32)))) (hf : fX8_coloured_94 o_becomes_r o_comes_r v6 s0 = some rr) (hG : G2 rr) (H : Heap) (locs : List Loc) (hP : va_P (dC, dI) vwCl [(h_o, .inr (7, [.ref h_o_plans, .ref h_o_makers, .ref h_o_halves, .int o_raised, .ref h_o_all, .ref h_o_text, .ref h_o_saved, .ref h_o_undone, .int o_undos, .int o_reached, .int o_length, .int o_begin, .int o_letters, .int o_sort, .long o_word, .int o_wrongAt, .int o_badAt, .int o_bad, .ref h_o_told, .ref h_o_shift, .int o_firstX, .int o_firstY, .int o_secondX, .int o_secondY, .ref h_o_rootOf, .ref h_o_becomes, .ref h_o_comes, .ref h_o_next, .int o_x])), (h_o_all, .inl (ca 0, 350, .inl o_all_r)), (h_o_plans, .inl (ca 0, 80, .inl o_plans_r)), (h_o_shift, .inl (ca 3, 768, .inl o_shift_r)), (h_o_becomes, .inl (ca 0, 4, .inl o_becomes_r)), (h_o_comes, .inl (ca 0, 4, .inl o_comes_r))] H) (hD : va_D A [(h_o, .inr (7, [.ref h_o_plans, .ref h_o_makers, .ref h_o_halves, .int o_raised, .ref h_o_all, .ref h_o_text, .ref h_o_saved, .ref h_o_undone, .int o_undos, .int o_reached, .int o_length, .int o_begin, .int o_letters, .int o_sort, .long o_word, .int o_wrongAt, .int o_badAt, .int o_bad, .ref h_o_told, .ref h_o_shift, .int o_firstX, .int o_firstY, .int o_secondX, .int o_secondY, .ref h_o_rootOf, .ref h_o_becomes, .ref h_o_comes, .ref h_o_next, .int o_x])), (h_o_all, .inl (ca 0, 350, .inl o_all_r)), (h_o_plans, .inl (ca 0, 80, .inl o_plans_r)), (h_o_shift, .inl (ca 3, 768, .inl o_shift_r)), (h_o_becomes, .inl (ca 0, 4, .inl o_becomes_r)), (h_o_comes, .inl (ca 0, 4, .inl o_comes_r))]) (hS : va_S A s.heap H locs) (ls : Array Slot) (hl : lv_has ls 7 [(0, .ref h_o), (1, .int p1), (4, .int v4), (5, .int v5), (6, .int v6)]), WW H locs (F0 m 94 ls [.int s0]) := by
            intro v6 s0 o_becomes_r o_comes_r rr hf hG H locs hP hD hS ls hl
            refine h2 ?_
            unfold fX8_coloured_94 at hf
            refine lv_iconst (v := 0) hx hb dX8_coloured_94 (by decide) ?_
            exact h1 (J_95 v6 (0 : Int32) s0 o_becomes_r o_comes_r _ hf hG _ _ hP hD hS _ (lv_sub hl [0, 1, 2, 3, 4] rfl))
          unfold fX8_coloured_61_b at hf
          refine lv_iload hx hb dX8_coloured_61 (lv_at hl 5 rfl) ?_
          refine lv_aload_n hx hb dX8_coloured_63 rfl (lv_at hl 0 rfl) ?_
          refine va_get (D := (dC, dI)) (ci := 7) (v := .ref h_o_all) (C := RX8) (T := TX8) (N := 29) hx hb hts (fun w h => List.mem_cons_of_mem _ (kc_X8 w h)) hown hK hP 0 rfl rfl 4 (by decide) (hg kw_594) (fun _ h9 => h9) rfl dX8_coloured_64 ?_
          refine lv_iconst (v := 0) hx hb dX8_coloured_67 (by decide) ?_
          refine va_iald hx hb hK hP 1 0 rfl rfl (ds_in_ok (i := 0) (n := 350) (by decide)) dX8_coloured_68 ?_
          refine lv_icmp_ge (tgt := 103) hx hb dX8_coloured_69 (by decide) (fun c_69 => ?_) (fun c_69 => ?_)
          · replace hf := ds_t c_69 hf
            obtain ⟨rr, hr_0, hf⟩ := ds_ob hf
            have hf := Option.some.inj hf
            subst hf
            rw [eG2] at hG
            replace hG : G1 rr := hG
            have hf := hr_0
            exact h1 (J_103 v3 v5 o_becomes_r o_comes_r _ hf hG _ _ hP hD hS _ (lv_sub hl [0, 1, 2, 3, 4] rfl))
          · replace hf := ds_f c_69 hf
            refine lv_iload_n hx hb dX8_coloured_72 rfl (lv_at hl 2 rfl) ?_
            refine lv_iload hx hb dX8_coloured_73 (lv_at hl 3 rfl) ?_
            refine lv_if_eq (tgt := 94) hx hb dX8_coloured_75 (by decide) (fun c_75 => ?_) (fun c_75 => ?_)
            · replace hf := ds_t c_75 hf
              exact h1 (J_94 v6 v3 o_becomes_r o_comes_r _ hf hG _ _ hP hD hS _ (lv_sub hl [0, 1, 3, 4, 5] rfl))
            · replace hf := ds_f c_75 hf
              refine lv_aload_n hx hb dX8_coloured_78 rfl (lv_at hl 0 rfl) ?_
              refine lv_iload_n hx hb dX8_coloured_79 rfl (lv_at hl 1 rfl) ?_
              refine lv_iload hx hb dX8_coloured_80 (lv_at hl 5 rfl) ?_
              refine lv_iload hx hb dX8_coloured_82 (lv_at hl 4 rfl) ?_
              obtain ⟨q84, hq84, hf⟩ := ds_ob hf
              refine ds_calli (wr := [(h_o_shift, .inl (ca 3, 768, .inl o_shift_r))]) (va_runV (As := [.int p1, .int v6, .int v5]) (rest := [.int v3]) ⟨hx, hb, hml, hown, hts⟩ (c_X8_isColoured l dC dI ca sa h_o h_o_plans h_o_makers h_o_halves h_o_all h_o_text h_o_saved h_o_undone h_o_told h_o_shift h_o_rootOf h_o_becomes h_o_comes h_o_next H.size o_raised o_undos o_reached o_length o_begin o_letters o_sort o_word o_wrongAt o_badAt o_bad o_firstX o_firstY o_secondX o_secondY o_x o_becomes_r o_comes_r o_all_r o_plans_r p1 v6 v5 q84 hq84) (cwV 3 hts (ds_gV kw_805 kw_806 kw_807 kw_597 kw_808) rfl rfl rfl (by decide +kernel) ⟨Nat.le_of_ble_eq_true rfl, Nat.le_of_ble_eq_true rfl⟩) ⟨ds_blind, va_recv hK hP (ci := 7) (q0 := 0) rfl rfl, ds_at hP hD hK hE hS hA [0, 4, 5, 1, 2] rfl rfl _⟩ rfl rfl hl.1 rfl (lv_room (Nat.le_of_ble_eq_true rfl)) dX8_coloured_84 ⟨Nat.zero_le _, Nat.zero_le _⟩) hP hD hS hA [0, 4, 5, 1, 2] [3] rfl rfl rfl (by decide) (fun H locs hP hD hS => ?_)
              have hP : va_P (dC, dI) vwCl [(h_o_shift, .inl (ca 3, 768, .inl o_shift_r)), (h_o, .inr (7, [.ref h_o_plans, .ref h_o_makers, .ref h_o_halves, .int o_raised, .ref h_o_all, .ref h_o_text, .ref h_o_saved, .ref h_o_undone, .int o_undos, .int o_reached, .int o_length, .int o_begin, .int o_letters, .int o_sort, .long o_word, .int o_wrongAt, .int o_badAt, .int o_bad, .ref h_o_told, .ref h_o_shift, .int o_firstX, .int o_firstY, .int o_secondX, .int o_secondY, .ref h_o_rootOf, .ref h_o_becomes, .ref h_o_comes, .ref h_o_next, .int o_x])), (h_o_becomes, .inl (ca 0, 4, .inl q84.2.1)), (h_o_comes, .inl (ca 0, 4, .inl q84.2.2)), (h_o_all, .inl (ca 0, 350, .inl o_all_r)), (h_o_plans, .inl (ca 0, 80, .inl o_plans_r))] H := hP
              have hD : va_D A [(h_o_shift, .inl (ca 3, 768, .inl o_shift_r)), (h_o, .inr (7, [.ref h_o_plans, .ref h_o_makers, .ref h_o_halves, .int o_raised, .ref h_o_all, .ref h_o_text, .ref h_o_saved, .ref h_o_undone, .int o_undos, .int o_reached, .int o_length, .int o_begin, .int o_letters, .int o_sort, .long o_word, .int o_wrongAt, .int o_badAt, .int o_bad, .ref h_o_told, .ref h_o_shift, .int o_firstX, .int o_firstY, .int o_secondX, .int o_secondY, .ref h_o_rootOf, .ref h_o_becomes, .ref h_o_comes, .ref h_o_next, .int o_x])), (h_o_becomes, .inl (ca 0, 4, .inl q84.2.1)), (h_o_comes, .inl (ca 0, 4, .inl q84.2.2)), (h_o_all, .inl (ca 0, 350, .inl o_all_r)), (h_o_plans, .inl (ca 0, 80, .inl o_plans_r))] := hD
              refine lv_if_eq (tgt := 94) hx hb dX8_coloured_87 (by decide) (fun c_87 => ?_) (fun c_87 => ?_)
              · replace hf := ds_t c_87 hf
                exact h1 (J_94 v6 v3 q84.2.1 q84.2.2 _ hf hG _ _ (hP.sub [1, 4, 5, 0, 2, 3] rfl) (hD.sub [1, 4, 5, 0, 2, 3] rfl rfl) hS _ (lv_sub hl [0, 1, 3, 4, 5] rfl))
              · replace hf := ds_f c_87 hf
                refine lv_iconst (v := 1) hx hb dX8_coloured_90 (by decide) ?_
                refine lv_goto (tgt := 95) hx hb dX8_coloured_91 (by decide) ?_
                exact h1 (J_95 v6 (1 : Int32) v3 q84.2.1 q84.2.2 _ hf hG _ _ (hP.sub [1, 4, 5, 0, 2, 3] rfl) (hD.sub [1, 4, 5, 0, 2, 3] rfl rfl) hS _ (lv_sub hl [0, 1, 3, 4, 5] rfl))
      unfold fX8_coloured_47_b at hf
      refine lv_iload hx hb dX8_coloured_47 (lv_at hl 4 rfl) ?_
      refine lv_aload_n hx hb dX8_coloured_49 rfl (lv_at hl 0 rfl) ?_
      refine va_get (D := (dC, dI)) (ci := 7) (v := .ref h_o_all) (C := RX8) (T := TX8) (N := 29) hx hb hts (fun w h => List.mem_cons_of_mem _ (kc_X8 w h)) hown hK hP 0 rfl rfl 4 (by decide) (hg kw_594) (fun _ h9 => h9) rfl dX8_coloured_50 ?_
      refine lv_iconst (v := 1) hx hb dX8_coloured_53 (by decide) ?_
      refine va_iald hx hb hK hP 1 0 rfl rfl (ds_in_ok (i := 1) (n := 350) (by decide)) dX8_coloured_54 ?_
      refine lv_icmp_ge (tgt := 109) hx hb dX8_coloured_55 (by decide) (fun c_55 => ?_) (fun c_55 => ?_)
      · replace hf := ds_t c_55 hf
        refine lv_iload_n hx hb dX8_coloured_109 rfl (lv_at hl 2 rfl) ?_
        have hf := Option.some.inj hf
        subst hf
        rw [eG1] at hG
        replace hG : G0 _ := hG
        rw [eG0] at hG
        have hG : _ = res := hG
        subst hG
        exact W.iret (v := v3) hx hb hr (fun t ht hW => ⟨⟨v3, (), rfl, rfl, by rw [ht]; exact hP, hD⟩, hS.F ht⟩) hS.2.2 dX8_coloured_110
      · replace hf := ds_f c_55 hf
        refine lv_iconst (v := 0) hx hb dX8_coloured_58 (by decide) ?_
        refine lv_istore (lv' := [(6, .int (0 : Int32)), (0, .ref h_o), (1, .int p1), (3, .int v3), (4, .int v4), (5, .int v5)]) hx hb dX8_coloured_59 hl (by decide) rfl (fun ls hl => ?_)
        exact h1 (J_61 v5 1000 v3 (0 : Int32) o_becomes_r o_comes_r _ hf hG _ _ hP hD hS _ (lv_sub hl [1, 2, 3, 4, 5, 0] rfl))
  unfold fX8_coloured at hf
  refine lv_aload_n hx hb dX8_coloured_0 rfl (lv_at hl 0 rfl) ?_
  refine lv_iconst (v := 0) hx hb dX8_coloured_1 (by decide) ?_
  refine va_put (D := (dC, dI)) (ci := 7) (v := .int (0 : Int32)) (ty := tyX8 3) (C := RX8) (T := TX8) (N := 29) hx hb hts (fun w h => List.mem_cons_of_mem _ (kc_X8 w h)) tyX8 tyX8_ok nmX8 hown hK hP hD hS 0 rfl rfl 3 (by decide) (hg kw_564) (fun _ h9 => h9) rfl (by decide +kernel) rfl rfl (Nat.le_of_ble_eq_true rfl) dX8_coloured_2 (fun H locs hP hD hS => ?_)
  have hP : va_P (dC, dI) vwCl [(h_o, .inr (7, [.ref h_o_plans, .ref h_o_makers, .ref h_o_halves, .int (0 : Int32), .ref h_o_all, .ref h_o_text, .ref h_o_saved, .ref h_o_undone, .int o_undos, .int o_reached, .int o_length, .int o_begin, .int o_letters, .int o_sort, .long o_word, .int o_wrongAt, .int o_badAt, .int o_bad, .ref h_o_told, .ref h_o_shift, .int o_firstX, .int o_firstY, .int o_secondX, .int o_secondY, .ref h_o_rootOf, .ref h_o_becomes, .ref h_o_comes, .ref h_o_next, .int o_x])), (h_o_all, .inl (ca 0, 350, .inl o_all_r)), (h_o_plans, .inl (ca 0, 80, .inl o_plans_r)), (h_o_shift, .inl (ca 3, 768, .inl o_shift_r)), (h_o_becomes, .inl (ca 0, 4, .inl o_becomes_r)), (h_o_comes, .inl (ca 0, 4, .inl o_comes_r))] H := hP
  have hD : va_D A [(h_o, .inr (7, [.ref h_o_plans, .ref h_o_makers, .ref h_o_halves, .int (0 : Int32), .ref h_o_all, .ref h_o_text, .ref h_o_saved, .ref h_o_undone, .int o_undos, .int o_reached, .int o_length, .int o_begin, .int o_letters, .int o_sort, .long o_word, .int o_wrongAt, .int o_badAt, .int o_bad, .ref h_o_told, .ref h_o_shift, .int o_firstX, .int o_firstY, .int o_secondX, .int o_secondY, .ref h_o_rootOf, .ref h_o_becomes, .ref h_o_comes, .ref h_o_next, .int o_x])), (h_o_all, .inl (ca 0, 350, .inl o_all_r)), (h_o_plans, .inl (ca 0, 80, .inl o_plans_r)), (h_o_shift, .inl (ca 3, 768, .inl o_shift_r)), (h_o_becomes, .inl (ca 0, 4, .inl o_becomes_r)), (h_o_comes, .inl (ca 0, 4, .inl o_comes_r))] := hD
  refine lv_iload_n hx hb dX8_coloured_5 rfl (lv_at hl 1 rfl) ?_
  refine lv_iconst (v := 0) hx hb dX8_coloured_6 (by decide) ?_
  refine lv_aload_n hx hb dX8_coloured_7 rfl (lv_at hl 0 rfl) ?_
  obtain ⟨q8, hq8, hf⟩ := ds_ob hf
  refine ds_calli (wr := [(h_o_plans, .inl (ca 0, 80, .inl o_plans_r)), (h_o_shift, .inl (ca 3, 768, .inl o_shift_r)), (h_o_becomes, .inl (ca 0, 4, .inl o_becomes_r)), (h_o_comes, .inl (ca 0, 4, .inl o_comes_r))]) (va_runV (As := []) (rest := [.int (0 : Int32), .int p1]) ⟨hx, hb, hml, hown, hts⟩ (c_X8_turnings l dC dI ca sa h_o h_o_plans h_o_makers h_o_halves h_o_all h_o_text h_o_saved h_o_undone h_o_told h_o_shift h_o_rootOf h_o_becomes h_o_comes h_o_next H.size (0 : Int32) o_undos o_reached o_length o_begin o_letters o_sort o_word o_wrongAt o_badAt o_bad o_firstX o_firstY o_secondX o_secondY o_x o_all_r  q8 hq8) (cwV 0 hts (ds_gV kw_604 kw_605 kw_606 kw_597 kw_607) rfl rfl rfl (by decide +kernel) ⟨Nat.le_of_ble_eq_true rfl, Nat.le_of_ble_eq_true rfl⟩) ⟨ds_blind, va_recv hK hP (ci := 7) (q0 := 0) rfl rfl, ds_at hP hD hK hE hS hA [0, 1] rfl rfl _⟩ rfl rfl hl.1 rfl (lv_room (Nat.le_of_ble_eq_true rfl)) dX8_coloured_8 ⟨Nat.zero_le _, Nat.zero_le _⟩) hP hD hS hA [0, 1] [2, 3, 4, 5] rfl rfl rfl (by decide) (fun H locs hP hD hS => ?_)
  have hP : va_P (dC, dI) vwCl [(h_o_plans, .inl (ca 0, 80, .inl o_plans_r)), (h_o_shift, .inl (ca 3, 768, .inl o_shift_r)), (h_o_becomes, .inl (ca 0, 4, .inl o_becomes_r)), (h_o_comes, .inl (ca 0, 4, .inl o_comes_r)), (h_o, .inr (7, [.ref h_o_plans, .ref h_o_makers, .ref h_o_halves, .int (0 : Int32), .ref h_o_all, .ref h_o_text, .ref h_o_saved, .ref h_o_undone, .int o_undos, .int o_reached, .int o_length, .int o_begin, .int o_letters, .int o_sort, .long o_word, .int o_wrongAt, .int o_badAt, .int o_bad, .ref h_o_told, .ref h_o_shift, .int o_firstX, .int o_firstY, .int o_secondX, .int o_secondY, .ref h_o_rootOf, .ref h_o_becomes, .ref h_o_comes, .ref h_o_next, .int o_x])), (h_o_all, .inl (ca 0, 350, .inl o_all_r))] H := hP
  have hD : va_D A [(h_o_plans, .inl (ca 0, 80, .inl o_plans_r)), (h_o_shift, .inl (ca 3, 768, .inl o_shift_r)), (h_o_becomes, .inl (ca 0, 4, .inl o_becomes_r)), (h_o_comes, .inl (ca 0, 4, .inl o_comes_r)), (h_o, .inr (7, [.ref h_o_plans, .ref h_o_makers, .ref h_o_halves, .int (0 : Int32), .ref h_o_all, .ref h_o_text, .ref h_o_saved, .ref h_o_undone, .int o_undos, .int o_reached, .int o_length, .int o_begin, .int o_letters, .int o_sort, .long o_word, .int o_wrongAt, .int o_badAt, .int o_bad, .ref h_o_told, .ref h_o_shift, .int o_firstX, .int o_firstY, .int o_secondX, .int o_secondY, .ref h_o_rootOf, .ref h_o_becomes, .ref h_o_comes, .ref h_o_next, .int o_x])), (h_o_all, .inl (ca 0, 350, .inl o_all_r))] := hD
  refine lv_iconst (v := 1) hx hb dX8_coloured_11 (by decide) ?_
  refine lv_isub hx hb dX8_coloured_12 ?_
  obtain ⟨q13, hq13, hf⟩ := ds_ob hf
  refine ds_calli (wr := [(h_o_plans, .inl (ca 0, 80, .inl o_plans_r)), (h_o_shift, .inl (ca 3, 768, .inl o_shift_r)), (h_o_becomes, .inl (ca 0, 4, .inl o_becomes_r)), (h_o_comes, .inl (ca 0, 4, .inl o_comes_r)), (h_o, .inr (7, [.ref h_o_plans, .ref h_o_makers, .ref h_o_halves, .int (0 : Int32), .ref h_o_all, .ref h_o_text, .ref h_o_saved, .ref h_o_undone, .int o_undos, .int o_reached, .int o_length, .int o_begin, .int o_letters, .int o_sort, .long o_word, .int o_wrongAt, .int o_badAt, .int o_bad, .ref h_o_told, .ref h_o_shift, .int o_firstX, .int o_firstY, .int o_secondX, .int o_secondY, .ref h_o_rootOf, .ref h_o_becomes, .ref h_o_comes, .ref h_o_next, .int o_x])), (h_o_all, .inl (ca 0, 350, .inl o_all_r))]) (va_runS (As := [.int p1, .int (0 : Int32), .int (q8 - (1 : Int32))]) (rest := []) ⟨hx, hb, hml, hown, hts⟩ (c_X8_in l dC dI ca sa  H.size  p1 (0 : Int32) (q8 - (1 : Int32)) q13 hq13) (va_cwS 3 hts (ds_gS kw_619 kw_620 kw_597 kw_621) rfl rfl rfl (by decide +kernel) ⟨Nat.le_of_ble_eq_true rfl, Nat.le_of_ble_eq_true rfl⟩) ⟨ds_blind, ds_at hP hD hK hE hS hA [] rfl rfl _⟩ rfl rfl hl.1 rfl (lv_room (Nat.le_of_ble_eq_true rfl)) dX8_coloured_13 ⟨Nat.zero_le _, Nat.zero_le _⟩) hP hD hS hA [] [0, 1, 2, 3, 4, 5] rfl rfl rfl (by decide) (fun H locs hP hD hS => ?_)
  have hP : va_P (dC, dI) vwCl [(h_o_plans, .inl (ca 0, 80, .inl o_plans_r)), (h_o_shift, .inl (ca 3, 768, .inl o_shift_r)), (h_o_becomes, .inl (ca 0, 4, .inl o_becomes_r)), (h_o_comes, .inl (ca 0, 4, .inl o_comes_r)), (h_o, .inr (7, [.ref h_o_plans, .ref h_o_makers, .ref h_o_halves, .int (0 : Int32), .ref h_o_all, .ref h_o_text, .ref h_o_saved, .ref h_o_undone, .int o_undos, .int o_reached, .int o_length, .int o_begin, .int o_letters, .int o_sort, .long o_word, .int o_wrongAt, .int o_badAt, .int o_bad, .ref h_o_told, .ref h_o_shift, .int o_firstX, .int o_firstY, .int o_secondX, .int o_secondY, .ref h_o_rootOf, .ref h_o_becomes, .ref h_o_comes, .ref h_o_next, .int o_x])), (h_o_all, .inl (ca 0, 350, .inl o_all_r))] H := hP
  have hD : va_D A [(h_o_plans, .inl (ca 0, 80, .inl o_plans_r)), (h_o_shift, .inl (ca 3, 768, .inl o_shift_r)), (h_o_becomes, .inl (ca 0, 4, .inl o_becomes_r)), (h_o_comes, .inl (ca 0, 4, .inl o_comes_r)), (h_o, .inr (7, [.ref h_o_plans, .ref h_o_makers, .ref h_o_halves, .int (0 : Int32), .ref h_o_all, .ref h_o_text, .ref h_o_saved, .ref h_o_undone, .int o_undos, .int o_reached, .int o_length, .int o_begin, .int o_letters, .int o_sort, .long o_word, .int o_wrongAt, .int o_badAt, .int o_bad, .ref h_o_told, .ref h_o_shift, .int o_firstX, .int o_firstY, .int o_secondX, .int o_secondY, .ref h_o_rootOf, .ref h_o_becomes, .ref h_o_comes, .ref h_o_next, .int o_x])), (h_o_all, .inl (ca 0, 350, .inl o_all_r))] := hD
  refine lv_if_ne (tgt := 21) hx hb dX8_coloured_16 (by decide) (fun c_16 => ?_) (fun c_16 => ?_)
  · replace hf := ds_f c_16 hf
    refine lv_aload_n hx hb dX8_coloured_21 rfl (lv_at hl 0 rfl) ?_
    obtain ⟨q22, hq22, hf⟩ := ds_ob hf
    refine ds_callv (wr := [(h_o_becomes, .inl (ca 0, 4, .inl o_becomes_r)), (h_o_comes, .inl (ca 0, 4, .inl o_comes_r))]) (va_runV (As := []) (rest := []) ⟨hx, hb, hml, hown, hts⟩ (c_X8_laysShifts l dC dI ca sa h_o h_o_plans h_o_makers h_o_halves h_o_all h_o_text h_o_saved h_o_undone h_o_told h_o_shift h_o_rootOf h_o_becomes h_o_comes h_o_next H.size (0 : Int32) o_undos o_reached o_length o_begin o_letters o_sort o_word o_wrongAt o_badAt o_bad o_firstX o_firstY o_secondX o_secondY o_x o_all_r o_plans_r o_shift_r  q22 hq22) (cwV 0 hts (ds_gV kw_764 kw_765 kw_766 kw_597 kw_767) rfl rfl rfl (by decide +kernel) ⟨Nat.le_of_ble_eq_true rfl, Nat.le_of_ble_eq_true rfl⟩) ⟨ds_blind, va_recv hK hP (ci := 7) (q0 := 4) rfl rfl, ds_at hP hD hK hE hS hA [4, 5, 0, 1] rfl rfl _⟩ rfl rfl hl.1 rfl (lv_room (Nat.le_of_ble_eq_true rfl)) dX8_coloured_22 ⟨Nat.zero_le _, Nat.zero_le _⟩) hP hD hS hA [4, 5, 0, 1] [2, 3] rfl rfl rfl (by decide) (fun H locs hP hD hS => ?_)
    have hP : va_P (dC, dI) vwCl [(h_o_becomes, .inl (ca 0, 4, .inl o_becomes_r)), (h_o_comes, .inl (ca 0, 4, .inl o_comes_r)), (h_o, .inr (7, [.ref h_o_plans, .ref h_o_makers, .ref h_o_halves, .int (0 : Int32), .ref h_o_all, .ref h_o_text, .ref h_o_saved, .ref h_o_undone, .int o_undos, .int o_reached, .int o_length, .int o_begin, .int o_letters, .int o_sort, .long o_word, .int o_wrongAt, .int o_badAt, .int o_bad, .ref h_o_told, .ref h_o_shift, .int o_firstX, .int o_firstY, .int o_secondX, .int o_secondY, .ref h_o_rootOf, .ref h_o_becomes, .ref h_o_comes, .ref h_o_next, .int o_x])), (h_o_all, .inl (ca 0, 350, .inl o_all_r)), (h_o_plans, .inl (ca 0, 80, .inl o_plans_r)), (h_o_shift, .inl (ca 3, 768, .inl q22))] H := hP
    have hD : va_D A [(h_o_becomes, .inl (ca 0, 4, .inl o_becomes_r)), (h_o_comes, .inl (ca 0, 4, .inl o_comes_r)), (h_o, .inr (7, [.ref h_o_plans, .ref h_o_makers, .ref h_o_halves, .int (0 : Int32), .ref h_o_all, .ref h_o_text, .ref h_o_saved, .ref h_o_undone, .int o_undos, .int o_reached, .int o_length, .int o_begin, .int o_letters, .int o_sort, .long o_word, .int o_wrongAt, .int o_badAt, .int o_bad, .ref h_o_told, .ref h_o_shift, .int o_firstX, .int o_firstY, .int o_secondX, .int o_secondY, .ref h_o_rootOf, .ref h_o_becomes, .ref h_o_comes, .ref h_o_next, .int o_x])), (h_o_all, .inl (ca 0, 350, .inl o_all_r)), (h_o_plans, .inl (ca 0, 80, .inl o_plans_r)), (h_o_shift, .inl (ca 3, 768, .inl q22))] := hD
    refine lv_iload_n hx hb dX8_coloured_25 rfl (lv_at hl 2 rfl) ?_
    refine lv_if_eq (tgt := 35) hx hb dX8_coloured_26 (by decide) (fun c_26 => ?_) (fun c_26 => ?_)
    · replace hf := ds_t c_26 hf
      refine lv_iconst (v := 0) hx hb dX8_coloured_35 (by decide) ?_
      refine lv_istore_n (lv' := [(3, .int (0 : Int32)), (0, .ref h_o), (1, .int p1), (2, .int p2)]) hx hb dX8_coloured_36 rfl hl (by decide) rfl (fun ls hl => ?_)
      refine lv_aload_n hx hb dX8_coloured_37 rfl (lv_at hl 1 rfl) ?_
      refine lv_iload_n hx hb dX8_coloured_38 rfl (lv_at hl 2 rfl) ?_
      obtain ⟨q39, hq39, hf⟩ := ds_ob hf
      refine ds_calli (wr := [(h_o_becomes, .inl (ca 0, 4, .inl o_becomes_r)), (h_o_comes, .inl (ca 0, 4, .inl o_comes_r))]) (va_runV (As := [.int p1]) (rest := []) ⟨hx, hb, hml, hown, hts⟩ (c_X8_mayTurn l dC dI ca sa h_o h_o_plans h_o_makers h_o_halves h_o_all h_o_text h_o_saved h_o_undone h_o_told h_o_shift h_o_rootOf h_o_becomes h_o_comes h_o_next H.size (0 : Int32) o_undos o_reached o_length o_begin o_letters o_sort o_word o_wrongAt o_badAt o_bad o_firstX o_firstY o_secondX o_secondY o_x o_all_r o_plans_r q22 p1 q39 hq39) (cwV 1 hts (ds_gV kw_671 kw_672 kw_673 kw_597 kw_674) rfl rfl rfl (by decide +kernel) ⟨Nat.le_of_ble_eq_true rfl, Nat.le_of_ble_eq_true rfl⟩) ⟨ds_blind, va_recv hK hP (ci := 7) (q0 := 2) rfl rfl, ds_at hP hD hK hE hS hA [2, 3, 4, 5] rfl rfl _⟩ rfl rfl hl.1 rfl (lv_room (Nat.le_of_ble_eq_true rfl)) dX8_coloured_39 ⟨Nat.zero_le _, Nat.zero_le _⟩) hP hD hS hA [2, 3, 4, 5] [0, 1] rfl rfl rfl (by decide) (fun H locs hP hD hS => ?_)
      have hP : va_P (dC, dI) vwCl [(h_o_becomes, .inl (ca 0, 4, .inl o_becomes_r)), (h_o_comes, .inl (ca 0, 4, .inl o_comes_r)), (h_o, .inr (7, [.ref h_o_plans, .ref h_o_makers, .ref h_o_halves, .int (0 : Int32), .ref h_o_all, .ref h_o_text, .ref h_o_saved, .ref h_o_undone, .int o_undos, .int o_reached, .int o_length, .int o_begin, .int o_letters, .int o_sort, .long o_word, .int o_wrongAt, .int o_badAt, .int o_bad, .ref h_o_told, .ref h_o_shift, .int o_firstX, .int o_firstY, .int o_secondX, .int o_secondY, .ref h_o_rootOf, .ref h_o_becomes, .ref h_o_comes, .ref h_o_next, .int o_x])), (h_o_all, .inl (ca 0, 350, .inl o_all_r)), (h_o_plans, .inl (ca 0, 80, .inl o_plans_r)), (h_o_shift, .inl (ca 3, 768, .inl q22))] H := hP
      have hD : va_D A [(h_o_becomes, .inl (ca 0, 4, .inl o_becomes_r)), (h_o_comes, .inl (ca 0, 4, .inl o_comes_r)), (h_o, .inr (7, [.ref h_o_plans, .ref h_o_makers, .ref h_o_halves, .int (0 : Int32), .ref h_o_all, .ref h_o_text, .ref h_o_saved, .ref h_o_undone, .int o_undos, .int o_reached, .int o_length, .int o_begin, .int o_letters, .int o_sort, .long o_word, .int o_wrongAt, .int o_badAt, .int o_bad, .ref h_o_told, .ref h_o_shift, .int o_firstX, .int o_firstY, .int o_secondX, .int o_secondY, .ref h_o_rootOf, .ref h_o_becomes, .ref h_o_comes, .ref h_o_next, .int o_x])), (h_o_all, .inl (ca 0, 350, .inl o_all_r)), (h_o_plans, .inl (ca 0, 80, .inl o_plans_r)), (h_o_shift, .inl (ca 3, 768, .inl q22))] := hD
      refine lv_istore (lv' := [(4, .int q39), (3, .int (0 : Int32)), (0, .ref h_o), (1, .int p1), (2, .int p2)]) hx hb dX8_coloured_42 hl (by decide) rfl (fun ls hl => ?_)
      refine lv_iconst (v := 0) hx hb dX8_coloured_44 (by decide) ?_
      refine lv_istore (lv' := [(5, .int (0 : Int32)), (4, .int q39), (3, .int (0 : Int32)), (0, .ref h_o), (1, .int p1), (2, .int p2)]) hx hb dX8_coloured_45 hl (by decide) rfl (fun ls hl => ?_)
      exact h1 (J_47 q39 (0 : Int32) q22 1000 (0 : Int32) (0 : Int32) o_becomes_r o_comes_r _ hf hG _ _ (hP.sub [2, 3, 4, 5, 0, 1] rfl) (hD.sub [2, 3, 4, 5, 0, 1] rfl rfl) hS _ (lv_sub hl [3, 4, 2, 1, 0] rfl))
    · replace hf := ds_f c_26 hf
      refine lv_aload_n hx hb dX8_coloured_29 rfl (lv_at hl 0 rfl) ?_
      refine lv_iload_n hx hb dX8_coloured_30 rfl (lv_at hl 1 rfl) ?_
      obtain ⟨q31, hq31, hf⟩ := ds_ob hf
      refine ds_calli (wr := [(h_o_becomes, .inl (ca 0, 4, .inl o_becomes_r)), (h_o_comes, .inl (ca 0, 4, .inl o_comes_r)), (h_o_plans, .inl (ca 0, 80, .inl o_plans_r))]) (va_runV (As := [.int p1]) (rest := []) ⟨hx, hb, hml, hown, hts⟩ (c_X8_shiftsOf l dC dI ca sa h_o h_o_plans h_o_makers h_o_halves h_o_all h_o_text h_o_saved h_o_undone h_o_told h_o_shift h_o_rootOf h_o_becomes h_o_comes h_o_next H.size (0 : Int32) o_undos o_reached o_length o_begin o_letters o_sort o_word o_wrongAt o_badAt o_bad o_firstX o_firstY o_secondX o_secondY o_x o_all_r q22 p1 q31 hq31) (cwV 1 hts (ds_gV kw_687 kw_688 kw_689 kw_597 kw_690) rfl rfl rfl (by decide +kernel) ⟨Nat.le_of_ble_eq_true rfl, Nat.le_of_ble_eq_true rfl⟩) ⟨ds_blind, va_recv hK hP (ci := 7) (q0 := 2) rfl rfl, ds_at hP hD hK hE hS hA [2, 3, 5] rfl rfl _⟩ rfl rfl hl.1 rfl (lv_room (Nat.le_of_ble_eq_true rfl)) dX8_coloured_31 ⟨Nat.zero_le _, Nat.zero_le _⟩) hP hD hS hA [2, 3, 5] [0, 1, 4] rfl rfl rfl (by decide) (fun H locs hP hD hS => ?_)
      have hP : va_P (dC, dI) vwCl [(h_o_becomes, .inl (ca 0, 4, .inl o_becomes_r)), (h_o_comes, .inl (ca 0, 4, .inl o_comes_r)), (h_o_plans, .inl (ca 0, 80, .inl o_plans_r)), (h_o, .inr (7, [.ref h_o_plans, .ref h_o_makers, .ref h_o_halves, .int (0 : Int32), .ref h_o_all, .ref h_o_text, .ref h_o_saved, .ref h_o_undone, .int o_undos, .int o_reached, .int o_length, .int o_begin, .int o_letters, .int o_sort, .long o_word, .int o_wrongAt, .int o_badAt, .int o_bad, .ref h_o_told, .ref h_o_shift, .int o_firstX, .int o_firstY, .int o_secondX, .int o_secondY, .ref h_o_rootOf, .ref h_o_becomes, .ref h_o_comes, .ref h_o_next, .int o_x])), (h_o_all, .inl (ca 0, 350, .inl o_all_r)), (h_o_shift, .inl (ca 3, 768, .inl q22))] H := hP
      have hD : va_D A [(h_o_becomes, .inl (ca 0, 4, .inl o_becomes_r)), (h_o_comes, .inl (ca 0, 4, .inl o_comes_r)), (h_o_plans, .inl (ca 0, 80, .inl o_plans_r)), (h_o, .inr (7, [.ref h_o_plans, .ref h_o_makers, .ref h_o_halves, .int (0 : Int32), .ref h_o_all, .ref h_o_text, .ref h_o_saved, .ref h_o_undone, .int o_undos, .int o_reached, .int o_length, .int o_begin, .int o_letters, .int o_sort, .long o_word, .int o_wrongAt, .int o_badAt, .int o_bad, .ref h_o_told, .ref h_o_shift, .int o_firstX, .int o_firstY, .int o_secondX, .int o_secondY, .ref h_o_rootOf, .ref h_o_becomes, .ref h_o_comes, .ref h_o_next, .int o_x])), (h_o_all, .inl (ca 0, 350, .inl o_all_r)), (h_o_shift, .inl (ca 3, 768, .inl q22))] := hD
      have hf := Option.some.inj hf
      subst hf
      rw [eG0] at hG
      have hG : _ = res := hG
      subst hG
      exact W.iret (v := q31) hx hb hr (fun t ht hW => ⟨⟨q31, (), rfl, rfl, by rw [ht]; exact (hP.sub [3, 4, 2, 5, 0, 1] rfl), (hD.sub [3, 4, 2, 5, 0, 1] rfl rfl)⟩, hS.F ht⟩) hS.2.2 dX8_coloured_34
  · replace hf := ds_t c_16 hf
    refine lv_iconst (v := -1) hx hb dX8_coloured_19 (by decide) ?_
    have hf := Option.some.inj hf
    subst hf
    rw [eG0] at hG
    have hG : _ = res := hG
    subst hG
    exact W.iret (v := (-1 : Int32)) hx hb hr (fun t ht hW => ⟨⟨(-1 : Int32), (), rfl, rfl, by rw [ht]; exact (hP.sub [4, 5, 0, 1, 2, 3] rfl), (hD.sub [4, 5, 0, 1, 2, 3] rfl rfl)⟩, hS.F ht⟩) hS.2.2 dX8_coloured_20
theorem dX8_isLike_0 : decode cX8_isLike 0 = .ok (.iconst 0, 1) := by decide +kernel
theorem dX8_isLike_1 : decode cX8_isLike 1 = .ok (.istore 5, 2) := by decide +kernel
theorem dX8_isLike_3 : decode cX8_isLike 3 = .ok (.iload 5, 2) := by decide +kernel
theorem dX8_isLike_5 : decode cX8_isLike 5 = .ok (.aload_n 0, 1) := by decide +kernel
theorem dX8_isLike_6 : decode cX8_isLike 6 = .ok (.getfield 19, 3) := by decide +kernel
theorem dX8_isLike_9 : decode cX8_isLike 9 = .ok (.iconst 1, 1) := by decide +kernel
theorem dX8_isLike_10 : decode cX8_isLike 10 = .ok (.iaload, 1) := by decide +kernel
theorem dX8_isLike_11 : decode cX8_isLike 11 = .ok (.if_icmp .ge 83, 3) := by decide +kernel
theorem dX8_isLike_14 : decode cX8_isLike 14 = .ok (.iconst 0, 1) := by decide +kernel
theorem dX8_isLike_15 : decode cX8_isLike 15 = .ok (.istore 6, 2) := by decide +kernel
theorem dX8_isLike_17 : decode cX8_isLike 17 = .ok (.iload 6, 2) := by decide +kernel
theorem dX8_isLike_19 : decode cX8_isLike 19 = .ok (.aload_n 0, 1) := by decide +kernel
theorem dX8_isLike_20 : decode cX8_isLike 20 = .ok (.getfield 19, 3) := by decide +kernel
theorem dX8_isLike_23 : decode cX8_isLike 23 = .ok (.iconst 0, 1) := by decide +kernel
theorem dX8_isLike_24 : decode cX8_isLike 24 = .ok (.iaload, 1) := by decide +kernel
theorem dX8_isLike_25 : decode cX8_isLike 25 = .ok (.if_icmp .ge 63, 3) := by decide +kernel
theorem dX8_isLike_28 : decode cX8_isLike 28 = .ok (.aload_n 0, 1) := by decide +kernel
theorem dX8_isLike_29 : decode cX8_isLike 29 = .ok (.getfield 19, 3) := by decide +kernel
theorem dX8_isLike_32 : decode cX8_isLike 32 = .ok (.bipush 70, 2) := by decide +kernel
theorem dX8_isLike_34 : decode cX8_isLike 34 = .ok (.iload_n 1, 1) := by decide +kernel
theorem dX8_isLike_35 : decode cX8_isLike 35 = .ok (.iconst 1, 1) := by decide +kernel
theorem dX8_isLike_36 : decode cX8_isLike 36 = .ok (.iadd, 1) := by decide +kernel
theorem dX8_isLike_37 : decode cX8_isLike 37 = .ok (.imul, 1) := by decide +kernel
theorem dX8_isLike_38 : decode cX8_isLike 38 = .ok (.iconst 3, 1) := by decide +kernel
theorem dX8_isLike_39 : decode cX8_isLike 39 = .ok (.iadd, 1) := by decide +kernel
theorem dX8_isLike_40 : decode cX8_isLike 40 = .ok (.bipush 8, 2) := by decide +kernel
theorem dX8_isLike_42 : decode cX8_isLike 42 = .ok (.iload 5, 2) := by decide +kernel
theorem dX8_isLike_44 : decode cX8_isLike 44 = .ok (.imul, 1) := by decide +kernel
theorem dX8_isLike_45 : decode cX8_isLike 45 = .ok (.iadd, 1) := by decide +kernel
theorem dX8_isLike_46 : decode cX8_isLike 46 = .ok (.iload 6, 2) := by decide +kernel
theorem dX8_isLike_48 : decode cX8_isLike 48 = .ok (.iadd, 1) := by decide +kernel
theorem dX8_isLike_49 : decode cX8_isLike 49 = .ok (.iaload, 1) := by decide +kernel
theorem dX8_isLike_50 : decode cX8_isLike 50 = .ok (.aload_n 0, 1) := by decide +kernel
theorem dX8_isLike_51 : decode cX8_isLike 51 = .ok (.aload_n 0, 1) := by decide +kernel
theorem dX8_isLike_52 : decode cX8_isLike 52 = .ok (.iload_n 2, 1) := by decide +kernel
theorem dX8_isLike_53 : decode cX8_isLike 53 = .ok (.iload 6, 2) := by decide +kernel
theorem dX8_isLike_55 : decode cX8_isLike 55 = .ok (.iload 5, 2) := by decide +kernel
theorem dX8_isLike_57 : decode cX8_isLike 57 = .ok (.invokevirtual 130, 3) := by decide +kernel
theorem dX8_isLike_60 : decode cX8_isLike 60 = .ok (.iload_n 3, 1) := by decide +kernel
theorem dX8_isLike_61 : decode cX8_isLike 61 = .ok (.iadd, 1) := by decide +kernel
theorem dX8_isLike_62 : decode cX8_isLike 62 = .ok (.aload_n 0, 1) := by decide +kernel
theorem dX8_isLike_63 : decode cX8_isLike 63 = .ok (.iload_n 2, 1) := by decide +kernel
theorem dX8_isLike_64 : decode cX8_isLike 64 = .ok (.iload 6, 2) := by decide +kernel
theorem dX8_isLike_66 : decode cX8_isLike 66 = .ok (.iload 5, 2) := by decide +kernel
theorem dX8_isLike_68 : decode cX8_isLike 68 = .ok (.invokevirtual 134, 3) := by decide +kernel
theorem dX8_isLike_71 : decode cX8_isLike 71 = .ok (.iload 4, 2) := by decide +kernel
theorem dX8_isLike_73 : decode cX8_isLike 73 = .ok (.iadd, 1) := by decide +kernel
theorem dX8_isLike_74 : decode cX8_isLike 74 = .ok (.invokevirtual 127, 3) := by decide +kernel
theorem dX8_isLike_77 : decode cX8_isLike 77 = .ok (.if_icmp .eq 5, 3) := by decide +kernel
theorem dX8_isLike_80 : decode cX8_isLike 80 = .ok (.iconst 0, 1) := by decide +kernel
theorem dX8_isLike_81 : decode cX8_isLike 81 = .ok (.ireturn, 1) := by decide +kernel
theorem dX8_isLike_82 : decode cX8_isLike 82 = .ok (.iinc 6 1, 3) := by decide +kernel
theorem dX8_isLike_85 : decode cX8_isLike 85 = .ok (.goto (-68), 3) := by decide +kernel
theorem dX8_isLike_88 : decode cX8_isLike 88 = .ok (.iinc 5 1, 3) := by decide +kernel
theorem dX8_isLike_91 : decode cX8_isLike 91 = .ok (.goto (-88), 3) := by decide +kernel
theorem dX8_isLike_94 : decode cX8_isLike 94 = .ok (.iconst 1, 1) := by decide +kernel
theorem dX8_isLike_95 : decode cX8_isLike 95 = .ok (.ireturn, 1) := by decide +kernel
def fX8_isLike_88 (v5 : Int32) : Option ((Int32) ⊕ (Int32)) :=
  some (.inl (v5 + 1))
def fX8_isLike_17_b (o_all_r : Nat → Int32) (o_plans_r : Nat → Int32) (p1 : Int32) (p2 : Int32) (p3 : Int32) (p4 : Int32) (v5 : Int32) (v6 : Int32) : Option ((Int32) ⊕ ((Int32) ⊕ (Int32))) :=
  if (o_all_r (0 : Int32).toNatClampNeg) ≤ v6 then Option.bind (fX8_isLike_88 v5) fun z => some (.inr z) else if ds_in (((((70 : Int32) * (p1 + (1 : Int32))) + (3 : Int32)) + ((8 : Int32) * v5)) + v6) 350 = true then Option.bind (fX8_turnX o_all_r o_plans_r p2 v6 v5) fun q57 => Option.bind (fX8_turnY o_all_r o_plans_r p2 v6 v5) fun q68 => Option.bind (fX8_colour o_all_r (q57 + p3) (q68 + p4)) fun q74 => if (o_all_r (((((70 : Int32) * (p1 + (1 : Int32))) + (3 : Int32)) + ((8 : Int32) * v5)) + v6).toNatClampNeg) = q74 then some (.inl (v6 + 1)) else some (.inr (.inr (0 : Int32))) else none
def fX8_isLike_17 (o_all_r : Nat → Int32) (o_plans_r : Nat → Int32) (p1 : Int32) (p2 : Int32) (p3 : Int32) (p4 : Int32) (v5 : Int32) (v6 : Int32) : Option ((Int32) ⊕ (Int32)) := ds_it (fun s => fX8_isLike_17_b o_all_r o_plans_r p1 p2 p3 p4 v5 s) 1000 v6
def fX8_isLike_3_b (o_all_r : Nat → Int32) (o_plans_r : Nat → Int32) (p1 : Int32) (p2 : Int32) (p3 : Int32) (p4 : Int32) (v5 : Int32) : Option ((Int32) ⊕ (Int32)) :=
  if (o_all_r (1 : Int32).toNatClampNeg) ≤ v5 then some (.inr (1 : Int32)) else fX8_isLike_17 o_all_r o_plans_r p1 p2 p3 p4 v5 (0 : Int32)
def fX8_isLike_3 (o_all_r : Nat → Int32) (o_plans_r : Nat → Int32) (p1 : Int32) (p2 : Int32) (p3 : Int32) (p4 : Int32) (v5 : Int32) : Option (Int32) := ds_it (fun s => fX8_isLike_3_b o_all_r o_plans_r p1 p2 p3 p4 s) 1000 v5
def fX8_isLike (o_all_r : Nat → Int32) (o_plans_r : Nat → Int32) (p1 : Int32) (p2 : Int32) (p3 : Int32) (p4 : Int32) : Option (Int32) :=
  fX8_isLike_3 o_all_r o_plans_r p1 p2 p3 p4 (0 : Int32)
set_option maxHeartbeats 4000000 in
set_option maxRecDepth 100000 in
theorem c_X8_isLike (l : Launch) (dC : Nat → ClassId) (dI : Nat → Nat → Nat) (ca : Nat → ClassId) (sa : Nat → Nat) (h_o : Nat) (h_o_plans : Nat) (h_o_makers : Nat) (h_o_halves : Nat) (h_o_all : Nat) (h_o_text : Nat) (h_o_saved : Nat) (h_o_undone : Nat) (h_o_told : Nat) (h_o_shift : Nat) (h_o_rootOf : Nat) (h_o_becomes : Nat) (h_o_comes : Nat) (h_o_next : Nat) (sz : Nat) (o_raised : Int32) (o_undos : Int32) (o_reached : Int32) (o_length : Int32) (o_begin : Int32) (o_letters : Int32) (o_sort : Int32) (o_word : Int64) (o_wrongAt : Int32) (o_badAt : Int32) (o_bad : Int32) (o_firstX : Int32) (o_firstY : Int32) (o_secondX : Int32) (o_secondY : Int32) (o_x : Int32) (o_all_r : Nat → Int32) (o_plans_r : Nat → Int32) (p1 : Int32) (p2 : Int32) (p3 : Int32) (p4 : Int32) (res : Int32) (hf : fX8_isLike o_all_r o_plans_r p1 p2 p3 p4 = some res) : Met l yX8_isLike (Cond.code yX8_isLike cX8_isLike 7 (some .boolean) :: ds_gw) { frames := 3, cells := 0, slots := 0, locals := 66 } (va_Pc [.ref h_o, .int p1, .int p2, .int p3, .int p4] (ds_Pre dC dI ca sa [(h_o, .inr (7, [.ref h_o_plans, .ref h_o_makers, .ref h_o_halves, .int o_raised, .ref h_o_all, .ref h_o_text, .ref h_o_saved, .ref h_o_undone, .int o_undos, .int o_reached, .int o_length, .int o_begin, .int o_letters, .int o_sort, .long o_word, .int o_wrongAt, .int o_badAt, .int o_bad, .ref h_o_told, .ref h_o_shift, .int o_firstX, .int o_firstY, .int o_secondX, .int o_secondY, .ref h_o_rootOf, .ref h_o_becomes, .ref h_o_comes, .ref h_o_next, .int o_x])), (h_o_all, .inl (ca 0, 350, .inl o_all_r)), (h_o_plans, .inl (ca 0, 80, .inl o_plans_r))] sz)) (va_Qi (fun r (_ : Unit) => r = res) (ds_B dC dI (va_A [(h_o, .inr (7, [.ref h_o_plans, .ref h_o_makers, .ref h_o_halves, .int o_raised, .ref h_o_all, .ref h_o_text, .ref h_o_saved, .ref h_o_undone, .int o_undos, .int o_reached, .int o_length, .int o_begin, .int o_letters, .int o_sort, .long o_word, .int o_wrongAt, .int o_badAt, .int o_bad, .ref h_o_told, .ref h_o_shift, .int o_firstX, .int o_firstY, .int o_secondX, .int o_secondY, .ref h_o_rootOf, .ref h_o_becomes, .ref h_o_comes, .ref h_o_next, .int o_x])), (h_o_all, .inl (ca 0, 350, .inl o_all_r)), (h_o_plans, .inl (ca 0, 80, .inl o_plans_r))] sz) [(h_o, .inr (7, [.ref h_o_plans, .ref h_o_makers, .ref h_o_halves, .int o_raised, .ref h_o_all, .ref h_o_text, .ref h_o_saved, .ref h_o_undone, .int o_undos, .int o_reached, .int o_length, .int o_begin, .int o_letters, .int o_sort, .long o_word, .int o_wrongAt, .int o_badAt, .int o_bad, .ref h_o_told, .ref h_o_shift, .int o_firstX, .int o_firstY, .int o_secondX, .int o_secondY, .ref h_o_rootOf, .ref h_o_becomes, .ref h_o_comes, .ref h_o_next, .int o_x])), (h_o_all, .inl (ca 0, 350, .inl o_all_r)), (h_o_plans, .inl (ca 0, 80, .inl o_plans_r))]) (va_A [(h_o, .inr (7, [.ref h_o_plans, .ref h_o_makers, .ref h_o_halves, .int o_raised, .ref h_o_all, .ref h_o_text, .ref h_o_saved, .ref h_o_undone, .int o_undos, .int o_reached, .int o_length, .int o_begin, .int o_letters, .int o_sort, .long o_word, .int o_wrongAt, .int o_badAt, .int o_bad, .ref h_o_told, .ref h_o_shift, .int o_firstX, .int o_firstY, .int o_secondX, .int o_secondY, .ref h_o_rootOf, .ref h_o_becomes, .ref h_o_comes, .ref h_o_next, .int o_x])), (h_o_all, .inl (ca 0, 350, .inl o_all_r)), (h_o_plans, .inl (ca 0, 80, .inl o_plans_r))] sz)) 0 0 (va_A [(h_o, .inr (7, [.ref h_o_plans, .ref h_o_makers, .ref h_o_halves, .int o_raised, .ref h_o_all, .ref h_o_text, .ref h_o_saved, .ref h_o_undone, .int o_undos, .int o_reached, .int o_length, .int o_begin, .int o_letters, .int o_sort, .long o_word, .int o_wrongAt, .int o_badAt, .int o_bad, .ref h_o_told, .ref h_o_shift, .int o_firstX, .int o_firstY, .int o_secondX, .int o_secondY, .ref h_o_rootOf, .ref h_o_becomes, .ref h_o_comes, .ref h_o_next, .int o_x])), (h_o_all, .inl (ca 0, 350, .inl o_all_r)), (h_o_plans, .inl (ca 0, 80, .inl o_plans_r))] sz) := by
  refine Met.ofW (cc := cX8_isLike) (maxL := 7) (ret := (some .boolean)) (by decide) rfl ?_
  intro p e s m args below meth c s₁ B hml hv
  obtain ⟨rfl, hsz, hP, hK, hD0, hE⟩ := hv
  have hx := B.exec
  have hb := B.bytes
  have hr := B.returns
  have hts := atoms_spec (ws := Cond.code yX8_isLike cX8_isLike 7 (some .boolean) :: ds_gw) B.pre
  have hg : ∀ {w : Cond}, w ∈ ds_gw → w.before _ s = true := fun h => hts _ (List.mem_cons_of_mem _ h)
  have hown : s.vm.findClass RX8 = some m.cls := findClass_of_methodNamed B.named
  have hlocks := B.notSynchronized
  subst hsz
  have hD := hD0.self (sz := s.heap.size)
  generalize hAe : va_A [(h_o, .inr (7, [.ref h_o_plans, .ref h_o_makers, .ref h_o_halves, .int o_raised, .ref h_o_all, .ref h_o_text, .ref h_o_saved, .ref h_o_undone, .int o_undos, .int o_reached, .int o_length, .int o_begin, .int o_letters, .int o_sort, .long o_word, .int o_wrongAt, .int o_badAt, .int o_bad, .ref h_o_told, .ref h_o_shift, .int o_firstX, .int o_firstY, .int o_secondX, .int o_secondY, .ref h_o_rootOf, .ref h_o_becomes, .ref h_o_comes, .ref h_o_next, .int o_x])), (h_o_all, .inl (ca 0, 350, .inl o_all_r)), (h_o_plans, .inl (ca 0, 80, .inl o_plans_r))] s.heap.size = A at hD hE ⊢
  have hA : ∀ q : Nat, s.heap.size ≤ q → A q := fun q h => by rw [← hAe]; exact Or.inr h
  have hS : va_S A s.heap s.heap [] := va_S.rf
  have hl := lv_entry ([.ref h_o, .int p1, .int p2, .int p3, .int p4]) (n := 7) (Nat.le_of_ble_eq_true rfl)
  rw [lg_entry_eq]
  generalize (lg_sl ([.ref h_o, .int p1, .int p2, .int p3, .int p4]) ++ List.replicate (7 - (lg_sl ([.ref h_o, .int p1, .int p2, .int p3, .int p4])).length) Slot.unset).toArray = ls at hl ⊢
  have hl : lv_has ls 7 [(0, .ref h_o), (1, .int p1), (2, .int p2), (3, .int p3), (4, .int p4)] := hl
  obtain ⟨G0, eG0⟩ : ∃ G : Int32 → Prop, G = (fun r => r = res) := ⟨_, rfl⟩
  obtain ⟨rr, hrr⟩ : ∃ z, z = res := ⟨_, rfl⟩
  rw [← hrr] at hf
  have hG : G0 rr := by subst eG0; exact hrr
  refine ds_cap (fun WW h1 h2 => ?_)
  have J_3 : ∀ (n : Nat) (v5 : Int32) (rr : Int32) (hf : ds_it (fun s => fX8_isLike_3_b o_all_r o_plans_r p1 p2 p3 p4 s) n v5 = some rr) (hG : G0 rr) (H : Heap) (locs : List Loc) (hP : va_P (dC, dI) vwCl [(h_o, .inr (7, [.ref h_o_plans, .ref h_o_makers, .ref h_o_halves, .int o_raised, .ref h_o_all, .ref h_o_text, .ref h_o_saved, .ref h_o_undone, .int o_undos, .int o_reached, .int o_length, .int o_begin, .int o_letters, .int o_sort, .long o_word, .int o_wrongAt, .int o_badAt, .int o_bad, .ref h_o_told, .ref h_o_shift, .int o_firstX, .int o_firstY, .int o_secondX, .int o_secondY, .ref h_o_rootOf, .ref h_o_becomes, .ref h_o_comes, .ref h_o_next, .int o_x])), (h_o_all, .inl (ca 0, 350, .inl o_all_r)), (h_o_plans, .inl (ca 0, 80, .inl o_plans_r))] H) (hD : va_D A [(h_o, .inr (7, [.ref h_o_plans, .ref h_o_makers, .ref h_o_halves, .int o_raised, .ref h_o_all, .ref h_o_text, .ref h_o_saved, .ref h_o_undone, .int o_undos, .int o_reached, .int o_length, .int o_begin, .int o_letters, .int o_sort, .long o_word, .int o_wrongAt, .int o_badAt, .int o_bad, .ref h_o_told, .ref h_o_shift, .int o_firstX, .int o_firstY, .int o_secondX, .int o_secondY, .ref h_o_rootOf, .ref h_o_becomes, .ref h_o_comes, .ref h_o_next, .int o_x])), (h_o_all, .inl (ca 0, 350, .inl o_all_r)), (h_o_plans, .inl (ca 0, 80, .inl o_plans_r))]) (hS : va_S A s.heap H locs) (ls : Array Slot) (hl : lv_has ls 7 [(0, .ref h_o), (1, .int p1), (2, .int p2), (3, .int p3), (4, .int p4), (5, .int v5)]), WW H locs (F0 m 3 ls []) := by
    intro  n
    induction n with
    | zero => intro v5 rr hf; exact (ds_it_zero hf).elim
    | succ n ih3 =>
      intro v5 rr hf hG H locs hP hD hS ls hl
      refine h2 ?_
      obtain ⟨rr, hf, hG⟩ := ds_it_succ hf hG
      replace hf : fX8_isLike_3_b o_all_r o_plans_r p1 p2 p3 p4 v5 = some rr := hf
      obtain ⟨G1, eG1⟩ : ∃ G : ((Int32) ⊕ (Int32)) → Prop, G = ds_G (fun s' => ∃ r', ds_it (fun s => fX8_isLike_3_b o_all_r o_plans_r p1 p2 p3 p4 s) n s' = some r' ∧ G0 r') G0 := ⟨_, rfl⟩
      rw [← eG1] at hG
      have J_88 : ∀ (v5 : Int32) (rr : (Int32) ⊕ (Int32)) (hf : fX8_isLike_88 v5 = some rr) (hG : G1 rr) (H : Heap) (locs : List Loc) (hP : va_P (dC, dI) vwCl [(h_o, .inr (7, [.ref h_o_plans, .ref h_o_makers, .ref h_o_halves, .int o_raised, .ref h_o_all, .ref h_o_text, .ref h_o_saved, .ref h_o_undone, .int o_undos, .int o_reached, .int o_length, .int o_begin, .int o_letters, .int o_sort, .long o_word, .int o_wrongAt, .int o_badAt, .int o_bad, .ref h_o_told, .ref h_o_shift, .int o_firstX, .int o_firstY, .int o_secondX, .int o_secondY, .ref h_o_rootOf, .ref h_o_becomes, .ref h_o_comes, .ref h_o_next, .int o_x])), (h_o_all, .inl (ca 0, 350, .inl o_all_r)), (h_o_plans, .inl (ca 0, 80, .inl o_plans_r))] H) (hD : va_D A [(h_o, .inr (7, [.ref h_o_plans, .ref h_o_makers, .ref h_o_halves, .int o_raised, .ref h_o_all, .ref h_o_text, .ref h_o_saved, .ref h_o_undone, .int o_undos, .int o_reached, .int o_length, .int o_begin, .int o_letters, .int o_sort, .long o_word, .int o_wrongAt, .int o_badAt, .int o_bad, .ref h_o_told, .ref h_o_shift, .int o_firstX, .int o_firstY, .int o_secondX, .int o_secondY, .ref h_o_rootOf, .ref h_o_becomes, .ref h_o_comes, .ref h_o_next, .int o_x])), (h_o_all, .inl (ca 0, 350, .inl o_all_r)), (h_o_plans, .inl (ca 0, 80, .inl o_plans_r))]) (hS : va_S A s.heap H locs) (ls : Array Slot) (hl : lv_has ls 7 [(0, .ref h_o), (1, .int p1), (2, .int p2), (3, .int p3), (4, .int p4), (5, .int v5)]), WW H locs (F0 m 88 ls []) := by
        intro v5 rr hf hG H locs hP hD hS ls hl
        refine h2 ?_
        unfold fX8_isLike_88 at hf
        refine lv_iinc (v := (v5 + 1)) (lv' := [(5, .int (v5 + 1)), (0, .ref h_o), (1, .int p1), (2, .int p2), (3, .int p3), (4, .int p4)]) hx hb dX8_isLike_88 hl (k := 5) rfl rfl (by decide) rfl (fun ls hl => ?_)
        refine lv_goto (tgt := 3) hx hb dX8_isLike_91 (by decide) ?_
        have hf := Option.some.inj hf
        subst hf
        rw [eG1] at hG
        obtain ⟨rr, hf, hG⟩ := hG
        exact h1 (ih3 (v5 + 1) rr hf hG _ _ hP hD hS _ (lv_sub hl [1, 2, 3, 4, 5, 0] rfl))
      have J_17 : ∀ (v5 : Int32) (n : Nat) (v6 : Int32) (rr : (Int32) ⊕ (Int32)) (hf : ds_it (fun s => fX8_isLike_17_b o_all_r o_plans_r p1 p2 p3 p4 v5 s) n v6 = some rr) (hG : G1 rr) (H : Heap) (locs : List Loc) (hP : va_P (dC, dI) vwCl [(h_o, .inr (7, [.ref h_o_plans, .ref h_o_makers, .ref h_o_halves, .int o_raised, .ref h_o_all, .ref h_o_text, .ref h_o_saved, .ref h_o_undone, .int o_undos, .int o_reached, .int o_length, .int o_begin, .int o_letters, .int o_sort, .long o_word, .int o_wrongAt, .int o_badAt, .int o_bad, .ref h_o_told, .ref h_o_shift, .int o_firstX, .int o_firstY, .int o_secondX, .int o_secondY, .ref h_o_rootOf, .ref h_o_becomes, .ref h_o_comes, .ref h_o_next, .int o_x])), (h_o_all, .inl (ca 0, 350, .inl o_all_r)), (h_o_plans, .inl (ca 0, 80, .inl o_plans_r))] H) (hD : va_D A [(h_o, .inr (7, [.ref h_o_plans, .ref h_o_makers, .ref h_o_halves, .int o_raised, .ref h_o_all, .ref h_o_text, .ref h_o_saved, .ref h_o_undone, .int o_undos, .int o_reached, .int o_length, .int o_begin, .int o_letters, .int o_sort, .long o_word, .int o_wrongAt, .int o_badAt, .int o_bad, .ref h_o_told, .ref h_o_shift, .int o_firstX, .int o_firstY, .int o_secondX, .int o_secondY, .ref h_o_rootOf, .ref h_o_becomes, .ref h_o_comes, .ref h_o_next, .int o_x])), (h_o_all, .inl (ca 0, 350, .inl o_all_r)), (h_o_plans, .inl (ca 0, 80, .inl o_plans_r))]) (hS : va_S A s.heap H locs) (ls : Array Slot) (hl : lv_has ls 7 [(0, .ref h_o), (1, .int p1), (2, .int p2), (3, .int p3), (4, .int p4), (5, .int v5), (6, .int v6)]), WW H locs (F0 m 17 ls []) := by
        intro v5 n
        induction n with
        | zero => intro v6 rr hf; exact (ds_it_zero hf).elim
        | succ n ih17 =>
          intro v6 rr hf hG H locs hP hD hS ls hl
          refine h2 ?_
          obtain ⟨rr, hf, hG⟩ := ds_it_succ hf hG
          replace hf : fX8_isLike_17_b o_all_r o_plans_r p1 p2 p3 p4 v5 v6 = some rr := hf
          obtain ⟨G2, eG2⟩ : ∃ G : ((Int32) ⊕ ((Int32) ⊕ (Int32))) → Prop, G = ds_G (fun s' => ∃ r', ds_it (fun s => fX8_isLike_17_b o_all_r o_plans_r p1 p2 p3 p4 v5 s) n s' = some r' ∧ G1 r') G1 := ⟨_, rfl⟩
          rw [← eG2] at hG
          unfold fX8_isLike_17_b at hf
          refine lv_iload hx hb dX8_isLike_17 (lv_at hl 6 rfl) ?_
          refine lv_aload_n hx hb dX8_isLike_19 rfl (lv_at hl 0 rfl) ?_
          refine va_get (D := (dC, dI)) (ci := 7) (v := .ref h_o_all) (C := RX8) (T := TX8) (N := 29) hx hb hts (fun w h => List.mem_cons_of_mem _ (kc_X8 w h)) hown hK hP 0 rfl rfl 4 (by decide) (hg kw_594) (fun _ h9 => h9) rfl dX8_isLike_20 ?_
          refine lv_iconst (v := 0) hx hb dX8_isLike_23 (by decide) ?_
          refine va_iald hx hb hK hP 1 0 rfl rfl (ds_in_ok (i := 0) (n := 350) (by decide)) dX8_isLike_24 ?_
          refine lv_icmp_ge (tgt := 88) hx hb dX8_isLike_25 (by decide) (fun c_25 => ?_) (fun c_25 => ?_)
          · replace hf := ds_t c_25 hf
            obtain ⟨rr, hr_0, hf⟩ := ds_ob hf
            have hf := Option.some.inj hf
            subst hf
            rw [eG2] at hG
            replace hG : G1 rr := hG
            have hf := hr_0
            exact h1 (J_88 v5 _ hf hG _ _ hP hD hS _ (lv_sub hl [0, 1, 2, 3, 4, 5] rfl))
          · replace hf := ds_f c_25 hf
            refine lv_aload_n hx hb dX8_isLike_28 rfl (lv_at hl 0 rfl) ?_
            refine va_get (D := (dC, dI)) (ci := 7) (v := .ref h_o_all) (C := RX8) (T := TX8) (N := 29) hx hb hts (fun w h => List.mem_cons_of_mem _ (kc_X8 w h)) hown hK hP 0 rfl rfl 4 (by decide) (hg kw_594) (fun _ h9 => h9) rfl dX8_isLike_29 ?_
            refine lv_bipush (v := 70) hx hb dX8_isLike_32 (by decide) ?_
            refine lv_iload_n hx hb dX8_isLike_34 rfl (lv_at hl 1 rfl) ?_
            refine lv_iconst (v := 1) hx hb dX8_isLike_35 (by decide) ?_
            refine lv_iadd hx hb dX8_isLike_36 ?_
            refine lv_imul hx hb dX8_isLike_37 ?_
            refine lv_iconst (v := 3) hx hb dX8_isLike_38 (by decide) ?_
            refine lv_iadd hx hb dX8_isLike_39 ?_
            refine lv_bipush (v := 8) hx hb dX8_isLike_40 (by decide) ?_
            refine lv_iload hx hb dX8_isLike_42 (lv_at hl 5 rfl) ?_
            refine lv_imul hx hb dX8_isLike_44 ?_
            refine lv_iadd hx hb dX8_isLike_45 ?_
            refine lv_iload hx hb dX8_isLike_46 (lv_at hl 6 rfl) ?_
            refine lv_iadd hx hb dX8_isLike_48 ?_
            obtain ⟨i_49, hf⟩ := ds_ci hf
            refine va_iald hx hb hK hP 1 0 rfl rfl i_49 dX8_isLike_49 ?_
            refine lv_aload_n hx hb dX8_isLike_50 rfl (lv_at hl 0 rfl) ?_
            refine lv_aload_n hx hb dX8_isLike_51 rfl (lv_at hl 0 rfl) ?_
            refine lv_iload_n hx hb dX8_isLike_52 rfl (lv_at hl 2 rfl) ?_
            refine lv_iload hx hb dX8_isLike_53 (lv_at hl 6 rfl) ?_
            refine lv_iload hx hb dX8_isLike_55 (lv_at hl 5 rfl) ?_
            obtain ⟨q57, hq57, hf⟩ := ds_ob hf
            refine ds_calli (wr := []) (va_runV (As := [.int p2, .int v6, .int v5]) (rest := [.ref h_o, .int (o_all_r (((((70 : Int32) * (p1 + (1 : Int32))) + (3 : Int32)) + ((8 : Int32) * v5)) + v6).toNatClampNeg)]) ⟨hx, hb, hml, hown, hts⟩ (c_X8_turnX l dC dI ca sa h_o h_o_plans h_o_makers h_o_halves h_o_all h_o_text h_o_saved h_o_undone h_o_told h_o_shift h_o_rootOf h_o_becomes h_o_comes h_o_next H.size o_raised o_undos o_reached o_length o_begin o_letters o_sort o_word o_wrongAt o_badAt o_bad o_firstX o_firstY o_secondX o_secondY o_x o_all_r o_plans_r p2 v6 v5 q57 hq57) (cwV 3 hts (ds_gV kw_655 kw_656 kw_657 kw_597 kw_658) rfl rfl rfl (by decide +kernel) ⟨Nat.le_of_ble_eq_true rfl, Nat.le_of_ble_eq_true rfl⟩) ⟨ds_blind, va_recv hK hP (ci := 7) (q0 := 0) rfl rfl, ds_at hP hD hK hE hS hA [0, 1, 2] rfl rfl _⟩ rfl rfl hl.1 rfl (lv_room (Nat.le_of_ble_eq_true rfl)) dX8_isLike_57 ⟨Nat.zero_le _, Nat.zero_le _⟩) hP hD hS hA [0, 1, 2] [] rfl rfl rfl (by decide) (fun H locs hP hD hS => ?_)
            have hP : va_P (dC, dI) vwCl [(h_o, .inr (7, [.ref h_o_plans, .ref h_o_makers, .ref h_o_halves, .int o_raised, .ref h_o_all, .ref h_o_text, .ref h_o_saved, .ref h_o_undone, .int o_undos, .int o_reached, .int o_length, .int o_begin, .int o_letters, .int o_sort, .long o_word, .int o_wrongAt, .int o_badAt, .int o_bad, .ref h_o_told, .ref h_o_shift, .int o_firstX, .int o_firstY, .int o_secondX, .int o_secondY, .ref h_o_rootOf, .ref h_o_becomes, .ref h_o_comes, .ref h_o_next, .int o_x])), (h_o_all, .inl (ca 0, 350, .inl o_all_r)), (h_o_plans, .inl (ca 0, 80, .inl o_plans_r))] H := hP
            have hD : va_D A [(h_o, .inr (7, [.ref h_o_plans, .ref h_o_makers, .ref h_o_halves, .int o_raised, .ref h_o_all, .ref h_o_text, .ref h_o_saved, .ref h_o_undone, .int o_undos, .int o_reached, .int o_length, .int o_begin, .int o_letters, .int o_sort, .long o_word, .int o_wrongAt, .int o_badAt, .int o_bad, .ref h_o_told, .ref h_o_shift, .int o_firstX, .int o_firstY, .int o_secondX, .int o_secondY, .ref h_o_rootOf, .ref h_o_becomes, .ref h_o_comes, .ref h_o_next, .int o_x])), (h_o_all, .inl (ca 0, 350, .inl o_all_r)), (h_o_plans, .inl (ca 0, 80, .inl o_plans_r))] := hD
            refine lv_iload_n hx hb dX8_isLike_60 rfl (lv_at hl 3 rfl) ?_
            refine lv_iadd hx hb dX8_isLike_61 ?_
            refine lv_aload_n hx hb dX8_isLike_62 rfl (lv_at hl 0 rfl) ?_
            refine lv_iload_n hx hb dX8_isLike_63 rfl (lv_at hl 2 rfl) ?_
            refine lv_iload hx hb dX8_isLike_64 (lv_at hl 6 rfl) ?_
            refine lv_iload hx hb dX8_isLike_66 (lv_at hl 5 rfl) ?_
            obtain ⟨q68, hq68, hf⟩ := ds_ob hf
            refine ds_calli (wr := []) (va_runV (As := [.int p2, .int v6, .int v5]) (rest := [.int (q57 + p3), .ref h_o, .int (o_all_r (((((70 : Int32) * (p1 + (1 : Int32))) + (3 : Int32)) + ((8 : Int32) * v5)) + v6).toNatClampNeg)]) ⟨hx, hb, hml, hown, hts⟩ (c_X8_turnY l dC dI ca sa h_o h_o_plans h_o_makers h_o_halves h_o_all h_o_text h_o_saved h_o_undone h_o_told h_o_shift h_o_rootOf h_o_becomes h_o_comes h_o_next H.size o_raised o_undos o_reached o_length o_begin o_letters o_sort o_word o_wrongAt o_badAt o_bad o_firstX o_firstY o_secondX o_secondY o_x o_all_r o_plans_r p2 v6 v5 q68 hq68) (cwV 3 hts (ds_gV kw_659 kw_660 kw_661 kw_597 kw_662) rfl rfl rfl (by decide +kernel) ⟨Nat.le_of_ble_eq_true rfl, Nat.le_of_ble_eq_true rfl⟩) ⟨ds_blind, va_recv hK hP (ci := 7) (q0 := 0) rfl rfl, ds_at hP hD hK hE hS hA [0, 1, 2] rfl rfl _⟩ rfl rfl hl.1 rfl (lv_room (Nat.le_of_ble_eq_true rfl)) dX8_isLike_68 ⟨Nat.zero_le _, Nat.zero_le _⟩) hP hD hS hA [0, 1, 2] [] rfl rfl rfl (by decide) (fun H locs hP hD hS => ?_)
            have hP : va_P (dC, dI) vwCl [(h_o, .inr (7, [.ref h_o_plans, .ref h_o_makers, .ref h_o_halves, .int o_raised, .ref h_o_all, .ref h_o_text, .ref h_o_saved, .ref h_o_undone, .int o_undos, .int o_reached, .int o_length, .int o_begin, .int o_letters, .int o_sort, .long o_word, .int o_wrongAt, .int o_badAt, .int o_bad, .ref h_o_told, .ref h_o_shift, .int o_firstX, .int o_firstY, .int o_secondX, .int o_secondY, .ref h_o_rootOf, .ref h_o_becomes, .ref h_o_comes, .ref h_o_next, .int o_x])), (h_o_all, .inl (ca 0, 350, .inl o_all_r)), (h_o_plans, .inl (ca 0, 80, .inl o_plans_r))] H := hP
            have hD : va_D A [(h_o, .inr (7, [.ref h_o_plans, .ref h_o_makers, .ref h_o_halves, .int o_raised, .ref h_o_all, .ref h_o_text, .ref h_o_saved, .ref h_o_undone, .int o_undos, .int o_reached, .int o_length, .int o_begin, .int o_letters, .int o_sort, .long o_word, .int o_wrongAt, .int o_badAt, .int o_bad, .ref h_o_told, .ref h_o_shift, .int o_firstX, .int o_firstY, .int o_secondX, .int o_secondY, .ref h_o_rootOf, .ref h_o_becomes, .ref h_o_comes, .ref h_o_next, .int o_x])), (h_o_all, .inl (ca 0, 350, .inl o_all_r)), (h_o_plans, .inl (ca 0, 80, .inl o_plans_r))] := hD
            refine lv_iload hx hb dX8_isLike_71 (lv_at hl 4 rfl) ?_
            refine lv_iadd hx hb dX8_isLike_73 ?_
            obtain ⟨q74, hq74, hf⟩ := ds_ob hf
            refine ds_calli (wr := [(h_o_plans, .inl (ca 0, 80, .inl o_plans_r))]) (va_runV (As := [.int (q57 + p3), .int (q68 + p4)]) (rest := [.int (o_all_r (((((70 : Int32) * (p1 + (1 : Int32))) + (3 : Int32)) + ((8 : Int32) * v5)) + v6).toNatClampNeg)]) ⟨hx, hb, hml, hown, hts⟩ (c_X8_colour l dC dI ca sa h_o h_o_plans h_o_makers h_o_halves h_o_all h_o_text h_o_saved h_o_undone h_o_told h_o_shift h_o_rootOf h_o_becomes h_o_comes h_o_next H.size o_raised o_undos o_reached o_length o_begin o_letters o_sort o_word o_wrongAt o_badAt o_bad o_firstX o_firstY o_secondX o_secondY o_x o_all_r (q57 + p3) (q68 + p4) q74 hq74) (cwV 2 hts (ds_gV kw_651 kw_652 kw_653 kw_597 kw_654) rfl rfl rfl (by decide +kernel) ⟨Nat.le_of_ble_eq_true rfl, Nat.le_of_ble_eq_true rfl⟩) ⟨ds_blind, va_recv hK hP (ci := 7) (q0 := 0) rfl rfl, ds_at hP hD hK hE hS hA [0, 1] rfl rfl _⟩ rfl rfl hl.1 rfl (lv_room (Nat.le_of_ble_eq_true rfl)) dX8_isLike_74 ⟨Nat.zero_le _, Nat.zero_le _⟩) hP hD hS hA [0, 1] [2] rfl rfl rfl (by decide) (fun H locs hP hD hS => ?_)
            have hP : va_P (dC, dI) vwCl [(h_o_plans, .inl (ca 0, 80, .inl o_plans_r)), (h_o, .inr (7, [.ref h_o_plans, .ref h_o_makers, .ref h_o_halves, .int o_raised, .ref h_o_all, .ref h_o_text, .ref h_o_saved, .ref h_o_undone, .int o_undos, .int o_reached, .int o_length, .int o_begin, .int o_letters, .int o_sort, .long o_word, .int o_wrongAt, .int o_badAt, .int o_bad, .ref h_o_told, .ref h_o_shift, .int o_firstX, .int o_firstY, .int o_secondX, .int o_secondY, .ref h_o_rootOf, .ref h_o_becomes, .ref h_o_comes, .ref h_o_next, .int o_x])), (h_o_all, .inl (ca 0, 350, .inl o_all_r))] H := hP
            have hD : va_D A [(h_o_plans, .inl (ca 0, 80, .inl o_plans_r)), (h_o, .inr (7, [.ref h_o_plans, .ref h_o_makers, .ref h_o_halves, .int o_raised, .ref h_o_all, .ref h_o_text, .ref h_o_saved, .ref h_o_undone, .int o_undos, .int o_reached, .int o_length, .int o_begin, .int o_letters, .int o_sort, .long o_word, .int o_wrongAt, .int o_badAt, .int o_bad, .ref h_o_told, .ref h_o_shift, .int o_firstX, .int o_firstY, .int o_secondX, .int o_secondY, .ref h_o_rootOf, .ref h_o_becomes, .ref h_o_comes, .ref h_o_next, .int o_x])), (h_o_all, .inl (ca 0, 350, .inl o_all_r))] := hD
            refine lv_icmp_eq (tgt := 82) hx hb dX8_isLike_77 (by decide) (fun c_77 => ?_) (fun c_77 => ?_)
            · replace hf := ds_t c_77 hf
              refine lv_iinc (v := (v6 + 1)) (lv' := [(6, .int (v6 + 1)), (0, .ref h_o), (1, .int p1), (2, .int p2), (3, .int p3), (4, .int p4), (5, .int v5)]) hx hb dX8_isLike_82 hl (k := 6) rfl rfl (by decide) rfl (fun ls hl => ?_)
              refine lv_goto (tgt := 17) hx hb dX8_isLike_85 (by decide) ?_
              have hf := Option.some.inj hf
              subst hf
              rw [eG2] at hG
              obtain ⟨rr, hf, hG⟩ := hG
              exact h1 (ih17 (v6 + 1) rr hf hG _ _ (hP.sub [1, 2, 0] rfl) (hD.sub [1, 2, 0] rfl rfl) hS _ (lv_sub hl [1, 2, 3, 4, 5, 6, 0] rfl))
            · replace hf := ds_f c_77 hf
              refine lv_iconst (v := 0) hx hb dX8_isLike_80 (by decide) ?_
              have hf := Option.some.inj hf
              subst hf
              rw [eG2] at hG
              replace hG : G1 _ := hG
              rw [eG1] at hG
              replace hG : G0 _ := hG
              rw [eG0] at hG
              have hG : _ = res := hG
              subst hG
              exact W.zret (v := (0 : Int32)) (ty := .boolean) hx hb hr rfl (fun t ht hW => ⟨⟨(0 : Int32), (), rfl, rfl, by rw [ht]; exact (hP.sub [1, 2, 0] rfl), (hD.sub [1, 2, 0] rfl rfl)⟩, hS.F ht⟩) hS.2.2 dX8_isLike_81
      unfold fX8_isLike_3_b at hf
      refine lv_iload hx hb dX8_isLike_3 (lv_at hl 5 rfl) ?_
      refine lv_aload_n hx hb dX8_isLike_5 rfl (lv_at hl 0 rfl) ?_
      refine va_get (D := (dC, dI)) (ci := 7) (v := .ref h_o_all) (C := RX8) (T := TX8) (N := 29) hx hb hts (fun w h => List.mem_cons_of_mem _ (kc_X8 w h)) hown hK hP 0 rfl rfl 4 (by decide) (hg kw_594) (fun _ h9 => h9) rfl dX8_isLike_6 ?_
      refine lv_iconst (v := 1) hx hb dX8_isLike_9 (by decide) ?_
      refine va_iald hx hb hK hP 1 0 rfl rfl (ds_in_ok (i := 1) (n := 350) (by decide)) dX8_isLike_10 ?_
      refine lv_icmp_ge (tgt := 94) hx hb dX8_isLike_11 (by decide) (fun c_11 => ?_) (fun c_11 => ?_)
      · replace hf := ds_t c_11 hf
        refine lv_iconst (v := 1) hx hb dX8_isLike_94 (by decide) ?_
        have hf := Option.some.inj hf
        subst hf
        rw [eG1] at hG
        replace hG : G0 _ := hG
        rw [eG0] at hG
        have hG : _ = res := hG
        subst hG
        exact W.zret (v := (1 : Int32)) (ty := .boolean) hx hb hr rfl (fun t ht hW => ⟨⟨(1 : Int32), (), rfl, rfl, by rw [ht]; exact hP, hD⟩, hS.F ht⟩) hS.2.2 dX8_isLike_95
      · replace hf := ds_f c_11 hf
        refine lv_iconst (v := 0) hx hb dX8_isLike_14 (by decide) ?_
        refine lv_istore (lv' := [(6, .int (0 : Int32)), (0, .ref h_o), (1, .int p1), (2, .int p2), (3, .int p3), (4, .int p4), (5, .int v5)]) hx hb dX8_isLike_15 hl (by decide) rfl (fun ls hl => ?_)
        exact h1 (J_17 v5 1000 (0 : Int32) _ hf hG _ _ hP hD hS _ (lv_sub hl [1, 2, 3, 4, 5, 6, 0] rfl))
  unfold fX8_isLike at hf
  refine lv_iconst (v := 0) hx hb dX8_isLike_0 (by decide) ?_
  refine lv_istore (lv' := [(5, .int (0 : Int32)), (0, .ref h_o), (1, .int p1), (2, .int p2), (3, .int p3), (4, .int p4)]) hx hb dX8_isLike_1 hl (by decide) rfl (fun ls hl => ?_)
  exact h1 (J_3  1000 (0 : Int32) _ hf hG _ _ hP hD hS _ (lv_sub hl [1, 2, 3, 4, 5, 0] rfl))
theorem dX8_like_0 : decode cX8_like 0 = .ok (.aload_n 0, 1) := by decide +kernel
theorem dX8_like_1 : decode cX8_like 1 = .ok (.iconst 0, 1) := by decide +kernel
theorem dX8_like_2 : decode cX8_like 2 = .ok (.putfield 51, 3) := by decide +kernel
theorem dX8_like_5 : decode cX8_like 5 = .ok (.iload_n 1, 1) := by decide +kernel
theorem dX8_like_6 : decode cX8_like 6 = .ok (.iconst 0, 1) := by decide +kernel
theorem dX8_like_7 : decode cX8_like 7 = .ok (.iconst 2, 1) := by decide +kernel
theorem dX8_like_8 : decode cX8_like 8 = .ok (.invokestatic 90, 3) := by decide +kernel
theorem dX8_like_11 : decode cX8_like 11 = .ok (.ifCond .eq 12, 3) := by decide +kernel
theorem dX8_like_14 : decode cX8_like 14 = .ok (.aload_n 0, 1) := by decide +kernel
theorem dX8_like_15 : decode cX8_like 15 = .ok (.getfield 26, 3) := by decide +kernel
theorem dX8_like_18 : decode cX8_like 18 = .ok (.iload_n 1, 1) := by decide +kernel
theorem dX8_like_19 : decode cX8_like 19 = .ok (.baload, 1) := by decide +kernel
theorem dX8_like_20 : decode cX8_like 20 = .ok (.ifCond .ne 6, 3) := by decide +kernel
theorem dX8_like_23 : decode cX8_like 23 = .ok (.bipush (-2), 2) := by decide +kernel
theorem dX8_like_25 : decode cX8_like 25 = .ok (.ireturn, 1) := by decide +kernel
theorem dX8_like_26 : decode cX8_like 26 = .ok (.bipush 70, 2) := by decide +kernel
theorem dX8_like_28 : decode cX8_like 28 = .ok (.iload_n 1, 1) := by decide +kernel
theorem dX8_like_29 : decode cX8_like 29 = .ok (.iconst 1, 1) := by decide +kernel
theorem dX8_like_30 : decode cX8_like 30 = .ok (.iadd, 1) := by decide +kernel
theorem dX8_like_31 : decode cX8_like 31 = .ok (.imul, 1) := by decide +kernel
theorem dX8_like_32 : decode cX8_like 32 = .ok (.istore_n 2, 1) := by decide +kernel
theorem dX8_like_33 : decode cX8_like 33 = .ok (.aload_n 0, 1) := by decide +kernel
theorem dX8_like_34 : decode cX8_like 34 = .ok (.getfield 19, 3) := by decide +kernel
theorem dX8_like_37 : decode cX8_like 37 = .ok (.iload_n 2, 1) := by decide +kernel
theorem dX8_like_38 : decode cX8_like 38 = .ok (.iaload, 1) := by decide +kernel
theorem dX8_like_39 : decode cX8_like 39 = .ok (.aload_n 0, 1) := by decide +kernel
theorem dX8_like_40 : decode cX8_like 40 = .ok (.getfield 19, 3) := by decide +kernel
theorem dX8_like_43 : decode cX8_like 43 = .ok (.iconst 0, 1) := by decide +kernel
theorem dX8_like_44 : decode cX8_like 44 = .ok (.iaload, 1) := by decide +kernel
theorem dX8_like_45 : decode cX8_like 45 = .ok (.if_icmp .ne 37, 3) := by decide +kernel
theorem dX8_like_48 : decode cX8_like 48 = .ok (.aload_n 0, 1) := by decide +kernel
theorem dX8_like_49 : decode cX8_like 49 = .ok (.getfield 19, 3) := by decide +kernel
theorem dX8_like_52 : decode cX8_like 52 = .ok (.iload_n 2, 1) := by decide +kernel
theorem dX8_like_53 : decode cX8_like 53 = .ok (.iconst 1, 1) := by decide +kernel
theorem dX8_like_54 : decode cX8_like 54 = .ok (.iadd, 1) := by decide +kernel
theorem dX8_like_55 : decode cX8_like 55 = .ok (.iaload, 1) := by decide +kernel
theorem dX8_like_56 : decode cX8_like 56 = .ok (.aload_n 0, 1) := by decide +kernel
theorem dX8_like_57 : decode cX8_like 57 = .ok (.getfield 19, 3) := by decide +kernel
theorem dX8_like_60 : decode cX8_like 60 = .ok (.iconst 1, 1) := by decide +kernel
theorem dX8_like_61 : decode cX8_like 61 = .ok (.iaload, 1) := by decide +kernel
theorem dX8_like_62 : decode cX8_like 62 = .ok (.if_icmp .ne 20, 3) := by decide +kernel
theorem dX8_like_65 : decode cX8_like 65 = .ok (.aload_n 0, 1) := by decide +kernel
theorem dX8_like_66 : decode cX8_like 66 = .ok (.getfield 19, 3) := by decide +kernel
theorem dX8_like_69 : decode cX8_like 69 = .ok (.iload_n 2, 1) := by decide +kernel
theorem dX8_like_70 : decode cX8_like 70 = .ok (.iconst 2, 1) := by decide +kernel
theorem dX8_like_71 : decode cX8_like 71 = .ok (.iadd, 1) := by decide +kernel
theorem dX8_like_72 : decode cX8_like 72 = .ok (.iaload, 1) := by decide +kernel
theorem dX8_like_73 : decode cX8_like 73 = .ok (.aload_n 0, 1) := by decide +kernel
theorem dX8_like_74 : decode cX8_like 74 = .ok (.getfield 19, 3) := by decide +kernel
theorem dX8_like_77 : decode cX8_like 77 = .ok (.iconst 2, 1) := by decide +kernel
theorem dX8_like_78 : decode cX8_like 78 = .ok (.iaload, 1) := by decide +kernel
theorem dX8_like_79 : decode cX8_like 79 = .ok (.if_icmp .eq 5, 3) := by decide +kernel
theorem dX8_like_82 : decode cX8_like 82 = .ok (.iconst (-1), 1) := by decide +kernel
theorem dX8_like_83 : decode cX8_like 83 = .ok (.ireturn, 1) := by decide +kernel
theorem dX8_like_84 : decode cX8_like 84 = .ok (.aload_n 0, 1) := by decide +kernel
theorem dX8_like_85 : decode cX8_like 85 = .ok (.invokevirtual 227, 3) := by decide +kernel
theorem dX8_like_88 : decode cX8_like 88 = .ok (.iconst 0, 1) := by decide +kernel
theorem dX8_like_89 : decode cX8_like 89 = .ok (.istore_n 3, 1) := by decide +kernel
theorem dX8_like_90 : decode cX8_like 90 = .ok (.iload_n 3, 1) := by decide +kernel
theorem dX8_like_91 : decode cX8_like 91 = .ok (.aload_n 0, 1) := by decide +kernel
theorem dX8_like_92 : decode cX8_like 92 = .ok (.invokevirtual 62, 3) := by decide +kernel
theorem dX8_like_95 : decode cX8_like 95 = .ok (.if_icmp .ge 84, 3) := by decide +kernel
theorem dX8_like_98 : decode cX8_like 98 = .ok (.iconst 0, 1) := by decide +kernel
theorem dX8_like_99 : decode cX8_like 99 = .ok (.istore 4, 2) := by decide +kernel
theorem dX8_like_101 : decode cX8_like 101 = .ok (.iload 4, 2) := by decide +kernel
theorem dX8_like_103 : decode cX8_like 103 = .ok (.aload_n 0, 1) := by decide +kernel
theorem dX8_like_104 : decode cX8_like 104 = .ok (.getfield 19, 3) := by decide +kernel
theorem dX8_like_107 : decode cX8_like 107 = .ok (.iconst 1, 1) := by decide +kernel
theorem dX8_like_108 : decode cX8_like 108 = .ok (.iaload, 1) := by decide +kernel
theorem dX8_like_109 : decode cX8_like 109 = .ok (.if_icmp .ge 64, 3) := by decide +kernel
theorem dX8_like_112 : decode cX8_like 112 = .ok (.iconst 0, 1) := by decide +kernel
theorem dX8_like_113 : decode cX8_like 113 = .ok (.istore 5, 2) := by decide +kernel
theorem dX8_like_115 : decode cX8_like 115 = .ok (.iload 5, 2) := by decide +kernel
theorem dX8_like_117 : decode cX8_like 117 = .ok (.aload_n 0, 1) := by decide +kernel
theorem dX8_like_118 : decode cX8_like 118 = .ok (.getfield 19, 3) := by decide +kernel
theorem dX8_like_121 : decode cX8_like 121 = .ok (.iconst 0, 1) := by decide +kernel
theorem dX8_like_122 : decode cX8_like 122 = .ok (.iaload, 1) := by decide +kernel
theorem dX8_like_123 : decode cX8_like 123 = .ok (.if_icmp .ge 44, 3) := by decide +kernel
theorem dX8_like_126 : decode cX8_like 126 = .ok (.aload_n 0, 1) := by decide +kernel
theorem dX8_like_127 : decode cX8_like 127 = .ok (.iload_n 3, 1) := by decide +kernel
theorem dX8_like_128 : decode cX8_like 128 = .ok (.invokevirtual 141, 3) := by decide +kernel
theorem dX8_like_131 : decode cX8_like 131 = .ok (.ifCond .eq 30, 3) := by decide +kernel
theorem dX8_like_134 : decode cX8_like 134 = .ok (.aload_n 0, 1) := by decide +kernel
theorem dX8_like_135 : decode cX8_like 135 = .ok (.iload_n 1, 1) := by decide +kernel
theorem dX8_like_136 : decode cX8_like 136 = .ok (.iload_n 3, 1) := by decide +kernel
theorem dX8_like_137 : decode cX8_like 137 = .ok (.iload 5, 2) := by decide +kernel
theorem dX8_like_139 : decode cX8_like 139 = .ok (.iload 4, 2) := by decide +kernel
theorem dX8_like_141 : decode cX8_like 141 = .ok (.invokevirtual 260, 3) := by decide +kernel
theorem dX8_like_144 : decode cX8_like 144 = .ok (.ifCond .eq 17, 3) := by decide +kernel
theorem dX8_like_147 : decode cX8_like 147 = .ok (.bipush 64, 2) := by decide +kernel
theorem dX8_like_149 : decode cX8_like 149 = .ok (.iload_n 3, 1) := by decide +kernel
theorem dX8_like_150 : decode cX8_like 150 = .ok (.imul, 1) := by decide +kernel
theorem dX8_like_151 : decode cX8_like 151 = .ok (.bipush 8, 2) := by decide +kernel
theorem dX8_like_153 : decode cX8_like 153 = .ok (.iload 4, 2) := by decide +kernel
theorem dX8_like_155 : decode cX8_like 155 = .ok (.imul, 1) := by decide +kernel
theorem dX8_like_156 : decode cX8_like 156 = .ok (.iadd, 1) := by decide +kernel
theorem dX8_like_157 : decode cX8_like 157 = .ok (.iload 5, 2) := by decide +kernel
theorem dX8_like_159 : decode cX8_like 159 = .ok (.iadd, 1) := by decide +kernel
theorem dX8_like_160 : decode cX8_like 160 = .ok (.ireturn, 1) := by decide +kernel
theorem dX8_like_161 : decode cX8_like 161 = .ok (.iinc 5 1, 3) := by decide +kernel
theorem dX8_like_164 : decode cX8_like 164 = .ok (.goto (-49), 3) := by decide +kernel
theorem dX8_like_167 : decode cX8_like 167 = .ok (.iinc 4 1, 3) := by decide +kernel
theorem dX8_like_170 : decode cX8_like 170 = .ok (.goto (-69), 3) := by decide +kernel
theorem dX8_like_173 : decode cX8_like 173 = .ok (.iinc 3 1, 3) := by decide +kernel
theorem dX8_like_176 : decode cX8_like 176 = .ok (.goto (-86), 3) := by decide +kernel
theorem dX8_like_179 : decode cX8_like 179 = .ok (.iconst (-1), 1) := by decide +kernel
theorem dX8_like_180 : decode cX8_like 180 = .ok (.ireturn, 1) := by decide +kernel
def fX8_like_147 (o_raised : Int32) (o_shift_r : Nat → Int32) (v3 : Int32) (v4 : Int32) (v5 : Int32) : Option (Int32 × Int32 × (Nat → Int32)) :=
  some (((((64 : Int32) * v3) + ((8 : Int32) * v4)) + v5), o_raised, o_shift_r)
def fX8_like_173 (v3 : Int32) : Option ((Int32) ⊕ (Int32 × Int32 × (Nat → Int32))) :=
  some (.inl (v3 + 1))
def fX8_like_167 (v4 : Int32) : Option ((Int32) ⊕ ((Int32) ⊕ (Int32 × Int32 × (Nat → Int32)))) :=
  some (.inl (v4 + 1))
def fX8_like_161 (v5 : Int32) : Option ((Int32) ⊕ ((Int32) ⊕ ((Int32) ⊕ (Int32 × Int32 × (Nat → Int32))))) :=
  some (.inl (v5 + 1))
def fX8_like_115_b (o_raised : Int32) (o_all_r : Nat → Int32) (o_plans_r : Nat → Int32) (o_shift_r : Nat → Int32) (p1 : Int32) (v3 : Int32) (v4 : Int32) (v5 : Int32) : Option ((Int32) ⊕ ((Int32) ⊕ ((Int32) ⊕ (Int32 × Int32 × (Nat → Int32))))) :=
  if (o_all_r (0 : Int32).toNatClampNeg) ≤ v5 then Option.bind (fX8_like_167 v4) fun z => some (.inr z) else Option.bind (fX8_mayTurn o_all_r o_plans_r o_shift_r v3) fun q128 => if q128 = 0 then fX8_like_161 v5 else Option.bind (fX8_isLike o_all_r o_plans_r p1 v3 v5 v4) fun q141 => if q141 = 0 then fX8_like_161 v5 else Option.bind (Option.bind (Option.bind (fX8_like_147 o_raised o_shift_r v3 v4 v5) fun z => some (.inr z)) fun z => some (.inr z)) fun z => some (.inr z)
def fX8_like_115 (o_raised : Int32) (o_all_r : Nat → Int32) (o_plans_r : Nat → Int32) (o_shift_r : Nat → Int32) (p1 : Int32) (v3 : Int32) (v4 : Int32) (v5 : Int32) : Option ((Int32) ⊕ ((Int32) ⊕ (Int32 × Int32 × (Nat → Int32)))) := ds_it (fun s => fX8_like_115_b o_raised o_all_r o_plans_r o_shift_r p1 v3 v4 s) 1000 v5
def fX8_like_101_b (o_raised : Int32) (o_all_r : Nat → Int32) (o_plans_r : Nat → Int32) (o_shift_r : Nat → Int32) (p1 : Int32) (v3 : Int32) (v4 : Int32) : Option ((Int32) ⊕ ((Int32) ⊕ (Int32 × Int32 × (Nat → Int32)))) :=
  if (o_all_r (1 : Int32).toNatClampNeg) ≤ v4 then Option.bind (fX8_like_173 v3) fun z => some (.inr z) else fX8_like_115 o_raised o_all_r o_plans_r o_shift_r p1 v3 v4 (0 : Int32)
def fX8_like_101 (o_raised : Int32) (o_all_r : Nat → Int32) (o_plans_r : Nat → Int32) (o_shift_r : Nat → Int32) (p1 : Int32) (v3 : Int32) (v4 : Int32) : Option ((Int32) ⊕ (Int32 × Int32 × (Nat → Int32))) := ds_it (fun s => fX8_like_101_b o_raised o_all_r o_plans_r o_shift_r p1 v3 s) 1000 v4
def fX8_like_90_b (o_raised : Int32) (o_all_r : Nat → Int32) (o_plans_r : Nat → Int32) (o_shift_r : Nat → Int32) (p1 : Int32) (v3 : Int32) : Option ((Int32) ⊕ (Int32 × Int32 × (Nat → Int32))) :=
  Option.bind (fX8_turnings o_all_r) fun q92 => if q92 ≤ v3 then some (.inr ((-1 : Int32), o_raised, o_shift_r)) else fX8_like_101 o_raised o_all_r o_plans_r o_shift_r p1 v3 (0 : Int32)
def fX8_like_90 (o_raised : Int32) (o_all_r : Nat → Int32) (o_plans_r : Nat → Int32) (o_shift_r : Nat → Int32) (p1 : Int32) (v3 : Int32) : Option (Int32 × Int32 × (Nat → Int32)) := ds_it (fun s => fX8_like_90_b o_raised o_all_r o_plans_r o_shift_r p1 s) 1000 v3
def fX8_like (o_saved_r : Nat → Int32) (o_all_r : Nat → Int32) (o_plans_r : Nat → Int32) (o_shift_r : Nat → Int32) (p1 : Int32) : Option (Int32 × Int32 × (Nat → Int32)) :=
  Option.bind (fX8_in p1 (0 : Int32) (2 : Int32)) fun q8 => if q8 = 0 then some ((-2 : Int32), (0 : Int32), o_shift_r) else if ds_in p1 3 = true then if (o_saved_r p1.toNatClampNeg) = 0 then some ((-2 : Int32), (0 : Int32), o_shift_r) else if ds_in ((70 : Int32) * (p1 + (1 : Int32))) 350 = true then if (o_all_r ((70 : Int32) * (p1 + (1 : Int32))).toNatClampNeg) = (o_all_r (0 : Int32).toNatClampNeg) then if ds_in (((70 : Int32) * (p1 + (1 : Int32))) + (1 : Int32)) 350 = true then if (o_all_r (((70 : Int32) * (p1 + (1 : Int32))) + (1 : Int32)).toNatClampNeg) = (o_all_r (1 : Int32).toNatClampNeg) then if ds_in (((70 : Int32) * (p1 + (1 : Int32))) + (2 : Int32)) 350 = true then if (o_all_r (((70 : Int32) * (p1 + (1 : Int32))) + (2 : Int32)).toNatClampNeg) = (o_all_r (2 : Int32).toNatClampNeg) then Option.bind (fX8_laysShifts o_all_r o_plans_r o_shift_r) fun q85 => fX8_like_90 (0 : Int32) o_all_r o_plans_r q85 p1 (0 : Int32) else some ((-1 : Int32), (0 : Int32), o_shift_r) else none else some ((-1 : Int32), (0 : Int32), o_shift_r) else none else some ((-1 : Int32), (0 : Int32), o_shift_r) else none else none
set_option maxHeartbeats 4000000 in
set_option maxRecDepth 100000 in
theorem c_X8_like (l : Launch) (dC : Nat → ClassId) (dI : Nat → Nat → Nat) (ca : Nat → ClassId) (sa : Nat → Nat) (h_o : Nat) (h_o_plans : Nat) (h_o_makers : Nat) (h_o_halves : Nat) (h_o_all : Nat) (h_o_text : Nat) (h_o_saved : Nat) (h_o_undone : Nat) (h_o_told : Nat) (h_o_shift : Nat) (h_o_rootOf : Nat) (h_o_becomes : Nat) (h_o_comes : Nat) (h_o_next : Nat) (sz : Nat) (o_raised : Int32) (o_undos : Int32) (o_reached : Int32) (o_length : Int32) (o_begin : Int32) (o_letters : Int32) (o_sort : Int32) (o_word : Int64) (o_wrongAt : Int32) (o_badAt : Int32) (o_bad : Int32) (o_firstX : Int32) (o_firstY : Int32) (o_secondX : Int32) (o_secondY : Int32) (o_x : Int32) (o_saved_r : Nat → Int32) (o_all_r : Nat → Int32) (o_plans_r : Nat → Int32) (o_shift_r : Nat → Int32) (p1 : Int32) (res : Int32 × Int32 × (Nat → Int32)) (hf : fX8_like o_saved_r o_all_r o_plans_r o_shift_r p1 = some res) : Met l yX8_like (Cond.code yX8_like cX8_like 6 (some .int) :: ds_gw) { frames := 5, cells := 0, slots := 0, locals := 115 } (va_Pc [.ref h_o, .int p1] (ds_Pre dC dI ca sa [(h_o, .inr (7, [.ref h_o_plans, .ref h_o_makers, .ref h_o_halves, .int o_raised, .ref h_o_all, .ref h_o_text, .ref h_o_saved, .ref h_o_undone, .int o_undos, .int o_reached, .int o_length, .int o_begin, .int o_letters, .int o_sort, .long o_word, .int o_wrongAt, .int o_badAt, .int o_bad, .ref h_o_told, .ref h_o_shift, .int o_firstX, .int o_firstY, .int o_secondX, .int o_secondY, .ref h_o_rootOf, .ref h_o_becomes, .ref h_o_comes, .ref h_o_next, .int o_x])), (h_o_saved, .inl (ca 3, 3, .inl o_saved_r)), (h_o_all, .inl (ca 0, 350, .inl o_all_r)), (h_o_plans, .inl (ca 0, 80, .inl o_plans_r)), (h_o_shift, .inl (ca 3, 768, .inl o_shift_r))] sz)) (va_Qi (fun r (_ : Unit) => r = res.1) (ds_B dC dI (va_A [(h_o, .inr (7, [.ref h_o_plans, .ref h_o_makers, .ref h_o_halves, .int o_raised, .ref h_o_all, .ref h_o_text, .ref h_o_saved, .ref h_o_undone, .int o_undos, .int o_reached, .int o_length, .int o_begin, .int o_letters, .int o_sort, .long o_word, .int o_wrongAt, .int o_badAt, .int o_bad, .ref h_o_told, .ref h_o_shift, .int o_firstX, .int o_firstY, .int o_secondX, .int o_secondY, .ref h_o_rootOf, .ref h_o_becomes, .ref h_o_comes, .ref h_o_next, .int o_x])), (h_o_saved, .inl (ca 3, 3, .inl o_saved_r)), (h_o_all, .inl (ca 0, 350, .inl o_all_r)), (h_o_plans, .inl (ca 0, 80, .inl o_plans_r)), (h_o_shift, .inl (ca 3, 768, .inl o_shift_r))] sz) [(h_o, .inr (7, [.ref h_o_plans, .ref h_o_makers, .ref h_o_halves, .int res.2.1, .ref h_o_all, .ref h_o_text, .ref h_o_saved, .ref h_o_undone, .int o_undos, .int o_reached, .int o_length, .int o_begin, .int o_letters, .int o_sort, .long o_word, .int o_wrongAt, .int o_badAt, .int o_bad, .ref h_o_told, .ref h_o_shift, .int o_firstX, .int o_firstY, .int o_secondX, .int o_secondY, .ref h_o_rootOf, .ref h_o_becomes, .ref h_o_comes, .ref h_o_next, .int o_x])), (h_o_saved, .inl (ca 3, 3, .inl o_saved_r)), (h_o_all, .inl (ca 0, 350, .inl o_all_r)), (h_o_plans, .inl (ca 0, 80, .inl o_plans_r)), (h_o_shift, .inl (ca 3, 768, .inl res.2.2))]) (va_A [(h_o, .inr (7, [.ref h_o_plans, .ref h_o_makers, .ref h_o_halves, .int o_raised, .ref h_o_all, .ref h_o_text, .ref h_o_saved, .ref h_o_undone, .int o_undos, .int o_reached, .int o_length, .int o_begin, .int o_letters, .int o_sort, .long o_word, .int o_wrongAt, .int o_badAt, .int o_bad, .ref h_o_told, .ref h_o_shift, .int o_firstX, .int o_firstY, .int o_secondX, .int o_secondY, .ref h_o_rootOf, .ref h_o_becomes, .ref h_o_comes, .ref h_o_next, .int o_x])), (h_o_saved, .inl (ca 3, 3, .inl o_saved_r)), (h_o_all, .inl (ca 0, 350, .inl o_all_r)), (h_o_plans, .inl (ca 0, 80, .inl o_plans_r)), (h_o_shift, .inl (ca 3, 768, .inl o_shift_r))] sz)) 0 0 (va_A [(h_o, .inr (7, [.ref h_o_plans, .ref h_o_makers, .ref h_o_halves, .int o_raised, .ref h_o_all, .ref h_o_text, .ref h_o_saved, .ref h_o_undone, .int o_undos, .int o_reached, .int o_length, .int o_begin, .int o_letters, .int o_sort, .long o_word, .int o_wrongAt, .int o_badAt, .int o_bad, .ref h_o_told, .ref h_o_shift, .int o_firstX, .int o_firstY, .int o_secondX, .int o_secondY, .ref h_o_rootOf, .ref h_o_becomes, .ref h_o_comes, .ref h_o_next, .int o_x])), (h_o_saved, .inl (ca 3, 3, .inl o_saved_r)), (h_o_all, .inl (ca 0, 350, .inl o_all_r)), (h_o_plans, .inl (ca 0, 80, .inl o_plans_r)), (h_o_shift, .inl (ca 3, 768, .inl o_shift_r))] sz) := by
  refine Met.ofW (cc := cX8_like) (maxL := 6) (ret := (some .int)) (by decide) rfl ?_
  intro p e s m args below meth c s₁ B hml hv
  obtain ⟨rfl, hsz, hP, hK, hD0, hE⟩ := hv
  have hx := B.exec
  have hb := B.bytes
  have hr := B.returns
  have hts := atoms_spec (ws := Cond.code yX8_like cX8_like 6 (some .int) :: ds_gw) B.pre
  have hg : ∀ {w : Cond}, w ∈ ds_gw → w.before _ s = true := fun h => hts _ (List.mem_cons_of_mem _ h)
  have hown : s.vm.findClass RX8 = some m.cls := findClass_of_methodNamed B.named
  have hlocks := B.notSynchronized
  subst hsz
  have hD := hD0.self (sz := s.heap.size)
  generalize hAe : va_A [(h_o, .inr (7, [.ref h_o_plans, .ref h_o_makers, .ref h_o_halves, .int o_raised, .ref h_o_all, .ref h_o_text, .ref h_o_saved, .ref h_o_undone, .int o_undos, .int o_reached, .int o_length, .int o_begin, .int o_letters, .int o_sort, .long o_word, .int o_wrongAt, .int o_badAt, .int o_bad, .ref h_o_told, .ref h_o_shift, .int o_firstX, .int o_firstY, .int o_secondX, .int o_secondY, .ref h_o_rootOf, .ref h_o_becomes, .ref h_o_comes, .ref h_o_next, .int o_x])), (h_o_saved, .inl (ca 3, 3, .inl o_saved_r)), (h_o_all, .inl (ca 0, 350, .inl o_all_r)), (h_o_plans, .inl (ca 0, 80, .inl o_plans_r)), (h_o_shift, .inl (ca 3, 768, .inl o_shift_r))] s.heap.size = A at hD hE ⊢
  have hA : ∀ q : Nat, s.heap.size ≤ q → A q := fun q h => by rw [← hAe]; exact Or.inr h
  have hS : va_S A s.heap s.heap [] := va_S.rf
  have hl := lv_entry ([.ref h_o, .int p1]) (n := 6) (Nat.le_of_ble_eq_true rfl)
  rw [lg_entry_eq]
  generalize (lg_sl ([.ref h_o, .int p1]) ++ List.replicate (6 - (lg_sl ([.ref h_o, .int p1])).length) Slot.unset).toArray = ls at hl ⊢
  have hl : lv_has ls 6 [(0, .ref h_o), (1, .int p1)] := hl
  obtain ⟨G0, eG0⟩ : ∃ G : (Int32 × Int32 × (Nat → Int32)) → Prop, G = (fun r => r = res) := ⟨_, rfl⟩
  obtain ⟨rr, hrr⟩ : ∃ z, z = res := ⟨_, rfl⟩
  rw [← hrr] at hf
  have hG : G0 rr := by subst eG0; exact hrr
  refine ds_cap (fun WW h1 h2 => ?_)
  have J_147 : ∀ (v3 : Int32) (v4 : Int32) (v5 : Int32) (o_raised : Int32) (o_shift_r : Nat → Int32) (rr : Int32 × Int32 × (Nat → Int32)) (hf : fX8_like_147 o_raised o_shift_r v3 v4 v5 = some rr) (hG : G0 rr) (H : Heap) (locs : List Loc) (hP : va_P (dC, dI) vwCl [(h_o, .inr (7, [.ref h_o_plans, .ref h_o_makers, .ref h_o_halves, .int o_raised, .ref h_o_all, .ref h_o_text, .ref h_o_saved, .ref h_o_undone, .int o_undos, .int o_reached, .int o_length, .int o_begin, .int o_letters, .int o_sort, .long o_word, .int o_wrongAt, .int o_badAt, .int o_bad, .ref h_o_told, .ref h_o_shift, .int o_firstX, .int o_firstY, .int o_secondX, .int o_secondY, .ref h_o_rootOf, .ref h_o_becomes, .ref h_o_comes, .ref h_o_next, .int o_x])), (h_o_saved, .inl (ca 3, 3, .inl o_saved_r)), (h_o_all, .inl (ca 0, 350, .inl o_all_r)), (h_o_plans, .inl (ca 0, 80, .inl o_plans_r)), (h_o_shift, .inl (ca 3, 768, .inl o_shift_r))] H) (hD : va_D A [(h_o, .inr (7, [.ref h_o_plans, .ref h_o_makers, .ref h_o_halves, .int o_raised, .ref h_o_all, .ref h_o_text, .ref h_o_saved, .ref h_o_undone, .int o_undos, .int o_reached, .int o_length, .int o_begin, .int o_letters, .int o_sort, .long o_word, .int o_wrongAt, .int o_badAt, .int o_bad, .ref h_o_told, .ref h_o_shift, .int o_firstX, .int o_firstY, .int o_secondX, .int o_secondY, .ref h_o_rootOf, .ref h_o_becomes, .ref h_o_comes, .ref h_o_next, .int o_x])), (h_o_saved, .inl (ca 3, 3, .inl o_saved_r)), (h_o_all, .inl (ca 0, 350, .inl o_all_r)), (h_o_plans, .inl (ca 0, 80, .inl o_plans_r)), (h_o_shift, .inl (ca 3, 768, .inl o_shift_r))]) (hS : va_S A s.heap H locs) (ls : Array Slot) (hl : lv_has ls 6 [(3, .int v3), (4, .int v4), (5, .int v5)]), WW H locs (F0 m 147 ls []) := by
    intro v3 v4 v5 o_raised o_shift_r rr hf hG H locs hP hD hS ls hl
    refine h2 ?_
    unfold fX8_like_147 at hf
    refine lv_bipush (v := 64) hx hb dX8_like_147 (by decide) ?_
    refine lv_iload_n hx hb dX8_like_149 rfl (lv_at hl 0 rfl) ?_
    refine lv_imul hx hb dX8_like_150 ?_
    refine lv_bipush (v := 8) hx hb dX8_like_151 (by decide) ?_
    refine lv_iload hx hb dX8_like_153 (lv_at hl 1 rfl) ?_
    refine lv_imul hx hb dX8_like_155 ?_
    refine lv_iadd hx hb dX8_like_156 ?_
    refine lv_iload hx hb dX8_like_157 (lv_at hl 2 rfl) ?_
    refine lv_iadd hx hb dX8_like_159 ?_
    have hf := Option.some.inj hf
    subst hf
    rw [eG0] at hG
    have hG : _ = res := hG
    subst hG
    exact W.iret (v := ((((64 : Int32) * v3) + ((8 : Int32) * v4)) + v5)) hx hb hr (fun t ht hW => ⟨⟨((((64 : Int32) * v3) + ((8 : Int32) * v4)) + v5), (), rfl, rfl, by rw [ht]; exact hP, hD⟩, hS.F ht⟩) hS.2.2 dX8_like_160
  have J_90 : ∀ (o_raised : Int32) (o_shift_r : Nat → Int32) (n : Nat) (v3 : Int32) (rr : Int32 × Int32 × (Nat → Int32)) (hf : ds_it (fun s => fX8_like_90_b o_raised o_all_r o_plans_r o_shift_r p1 s) n v3 = some rr) (hG : G0 rr) (H : Heap) (locs : List Loc) (hP : va_P (dC, dI) vwCl [(h_o, .inr (7, [.ref h_o_plans, .ref h_o_makers, .ref h_o_halves, .int o_raised, .ref h_o_all, .ref h_o_text, .ref h_o_saved, .ref h_o_undone, .int o_undos, .int o_reached, .int o_length, .int o_begin, .int o_letters, .int o_sort, .long o_word, .int o_wrongAt, .int o_badAt, .int o_bad, .ref h_o_told, .ref h_o_shift, .int o_firstX, .int o_firstY, .int o_secondX, .int o_secondY, .ref h_o_rootOf, .ref h_o_becomes, .ref h_o_comes, .ref h_o_next, .int o_x])), (h_o_saved, .inl (ca 3, 3, .inl o_saved_r)), (h_o_all, .inl (ca 0, 350, .inl o_all_r)), (h_o_plans, .inl (ca 0, 80, .inl o_plans_r)), (h_o_shift, .inl (ca 3, 768, .inl o_shift_r))] H) (hD : va_D A [(h_o, .inr (7, [.ref h_o_plans, .ref h_o_makers, .ref h_o_halves, .int o_raised, .ref h_o_all, .ref h_o_text, .ref h_o_saved, .ref h_o_undone, .int o_undos, .int o_reached, .int o_length, .int o_begin, .int o_letters, .int o_sort, .long o_word, .int o_wrongAt, .int o_badAt, .int o_bad, .ref h_o_told, .ref h_o_shift, .int o_firstX, .int o_firstY, .int o_secondX, .int o_secondY, .ref h_o_rootOf, .ref h_o_becomes, .ref h_o_comes, .ref h_o_next, .int o_x])), (h_o_saved, .inl (ca 3, 3, .inl o_saved_r)), (h_o_all, .inl (ca 0, 350, .inl o_all_r)), (h_o_plans, .inl (ca 0, 80, .inl o_plans_r)), (h_o_shift, .inl (ca 3, 768, .inl o_shift_r))]) (hS : va_S A s.heap H locs) (ls : Array Slot) (hl : lv_has ls 6 [(0, .ref h_o), (1, .int p1), (3, .int v3)]), WW H locs (F0 m 90 ls []) := by
    intro o_raised o_shift_r n
    induction n with
    | zero => intro v3 rr hf; exact (ds_it_zero hf).elim
    | succ n ih90 =>
      intro v3 rr hf hG H locs hP hD hS ls hl
      refine h2 ?_
      obtain ⟨rr, hf, hG⟩ := ds_it_succ hf hG
      replace hf : fX8_like_90_b o_raised o_all_r o_plans_r o_shift_r p1 v3 = some rr := hf
      obtain ⟨G1, eG1⟩ : ∃ G : ((Int32) ⊕ (Int32 × Int32 × (Nat → Int32))) → Prop, G = ds_G (fun s' => ∃ r', ds_it (fun s => fX8_like_90_b o_raised o_all_r o_plans_r o_shift_r p1 s) n s' = some r' ∧ G0 r') G0 := ⟨_, rfl⟩
      rw [← eG1] at hG
      have J_173 : ∀ (v3 : Int32) (rr : (Int32) ⊕ (Int32 × Int32 × (Nat → Int32))) (hf : fX8_like_173 v3 = some rr) (hG : G1 rr) (H : Heap) (locs : List Loc) (hP : va_P (dC, dI) vwCl [(h_o, .inr (7, [.ref h_o_plans, .ref h_o_makers, .ref h_o_halves, .int o_raised, .ref h_o_all, .ref h_o_text, .ref h_o_saved, .ref h_o_undone, .int o_undos, .int o_reached, .int o_length, .int o_begin, .int o_letters, .int o_sort, .long o_word, .int o_wrongAt, .int o_badAt, .int o_bad, .ref h_o_told, .ref h_o_shift, .int o_firstX, .int o_firstY, .int o_secondX, .int o_secondY, .ref h_o_rootOf, .ref h_o_becomes, .ref h_o_comes, .ref h_o_next, .int o_x])), (h_o_saved, .inl (ca 3, 3, .inl o_saved_r)), (h_o_all, .inl (ca 0, 350, .inl o_all_r)), (h_o_plans, .inl (ca 0, 80, .inl o_plans_r)), (h_o_shift, .inl (ca 3, 768, .inl o_shift_r))] H) (hD : va_D A [(h_o, .inr (7, [.ref h_o_plans, .ref h_o_makers, .ref h_o_halves, .int o_raised, .ref h_o_all, .ref h_o_text, .ref h_o_saved, .ref h_o_undone, .int o_undos, .int o_reached, .int o_length, .int o_begin, .int o_letters, .int o_sort, .long o_word, .int o_wrongAt, .int o_badAt, .int o_bad, .ref h_o_told, .ref h_o_shift, .int o_firstX, .int o_firstY, .int o_secondX, .int o_secondY, .ref h_o_rootOf, .ref h_o_becomes, .ref h_o_comes, .ref h_o_next, .int o_x])), (h_o_saved, .inl (ca 3, 3, .inl o_saved_r)), (h_o_all, .inl (ca 0, 350, .inl o_all_r)), (h_o_plans, .inl (ca 0, 80, .inl o_plans_r)), (h_o_shift, .inl (ca 3, 768, .inl o_shift_r))]) (hS : va_S A s.heap H locs) (ls : Array Slot) (hl : lv_has ls 6 [(0, .ref h_o), (1, .int p1), (3, .int v3)]), WW H locs (F0 m 173 ls []) := by
        intro v3 rr hf hG H locs hP hD hS ls hl
        refine h2 ?_
        unfold fX8_like_173 at hf
        refine lv_iinc (v := (v3 + 1)) (lv' := [(3, .int (v3 + 1)), (0, .ref h_o), (1, .int p1)]) hx hb dX8_like_173 hl (k := 2) rfl rfl (by decide) rfl (fun ls hl => ?_)
        refine lv_goto (tgt := 90) hx hb dX8_like_176 (by decide) ?_
        have hf := Option.some.inj hf
        subst hf
        rw [eG1] at hG
        obtain ⟨rr, hf, hG⟩ := hG
        exact h1 (ih90 (v3 + 1) rr hf hG _ _ hP hD hS _ (lv_sub hl [1, 2, 0] rfl))
      have J_101 : ∀ (v3 : Int32) (n : Nat) (v4 : Int32) (rr : (Int32) ⊕ (Int32 × Int32 × (Nat → Int32))) (hf : ds_it (fun s => fX8_like_101_b o_raised o_all_r o_plans_r o_shift_r p1 v3 s) n v4 = some rr) (hG : G1 rr) (H : Heap) (locs : List Loc) (hP : va_P (dC, dI) vwCl [(h_o, .inr (7, [.ref h_o_plans, .ref h_o_makers, .ref h_o_halves, .int o_raised, .ref h_o_all, .ref h_o_text, .ref h_o_saved, .ref h_o_undone, .int o_undos, .int o_reached, .int o_length, .int o_begin, .int o_letters, .int o_sort, .long o_word, .int o_wrongAt, .int o_badAt, .int o_bad, .ref h_o_told, .ref h_o_shift, .int o_firstX, .int o_firstY, .int o_secondX, .int o_secondY, .ref h_o_rootOf, .ref h_o_becomes, .ref h_o_comes, .ref h_o_next, .int o_x])), (h_o_saved, .inl (ca 3, 3, .inl o_saved_r)), (h_o_all, .inl (ca 0, 350, .inl o_all_r)), (h_o_plans, .inl (ca 0, 80, .inl o_plans_r)), (h_o_shift, .inl (ca 3, 768, .inl o_shift_r))] H) (hD : va_D A [(h_o, .inr (7, [.ref h_o_plans, .ref h_o_makers, .ref h_o_halves, .int o_raised, .ref h_o_all, .ref h_o_text, .ref h_o_saved, .ref h_o_undone, .int o_undos, .int o_reached, .int o_length, .int o_begin, .int o_letters, .int o_sort, .long o_word, .int o_wrongAt, .int o_badAt, .int o_bad, .ref h_o_told, .ref h_o_shift, .int o_firstX, .int o_firstY, .int o_secondX, .int o_secondY, .ref h_o_rootOf, .ref h_o_becomes, .ref h_o_comes, .ref h_o_next, .int o_x])), (h_o_saved, .inl (ca 3, 3, .inl o_saved_r)), (h_o_all, .inl (ca 0, 350, .inl o_all_r)), (h_o_plans, .inl (ca 0, 80, .inl o_plans_r)), (h_o_shift, .inl (ca 3, 768, .inl o_shift_r))]) (hS : va_S A s.heap H locs) (ls : Array Slot) (hl : lv_has ls 6 [(0, .ref h_o), (1, .int p1), (3, .int v3), (4, .int v4)]), WW H locs (F0 m 101 ls []) := by
        intro v3 n
        induction n with
        | zero => intro v4 rr hf; exact (ds_it_zero hf).elim
        | succ n ih101 =>
          intro v4 rr hf hG H locs hP hD hS ls hl
          refine h2 ?_
          obtain ⟨rr, hf, hG⟩ := ds_it_succ hf hG
          replace hf : fX8_like_101_b o_raised o_all_r o_plans_r o_shift_r p1 v3 v4 = some rr := hf
          obtain ⟨G2, eG2⟩ : ∃ G : ((Int32) ⊕ ((Int32) ⊕ (Int32 × Int32 × (Nat → Int32)))) → Prop, G = ds_G (fun s' => ∃ r', ds_it (fun s => fX8_like_101_b o_raised o_all_r o_plans_r o_shift_r p1 v3 s) n s' = some r' ∧ G1 r') G1 := ⟨_, rfl⟩
          rw [← eG2] at hG
          have J_167 : ∀ (v4 : Int32) (rr : (Int32) ⊕ ((Int32) ⊕ (Int32 × Int32 × (Nat → Int32)))) (hf : fX8_like_167 v4 = some rr) (hG : G2 rr) (H : Heap) (locs : List Loc) (hP : va_P (dC, dI) vwCl [(h_o, .inr (7, [.ref h_o_plans, .ref h_o_makers, .ref h_o_halves, .int o_raised, .ref h_o_all, .ref h_o_text, .ref h_o_saved, .ref h_o_undone, .int o_undos, .int o_reached, .int o_length, .int o_begin, .int o_letters, .int o_sort, .long o_word, .int o_wrongAt, .int o_badAt, .int o_bad, .ref h_o_told, .ref h_o_shift, .int o_firstX, .int o_firstY, .int o_secondX, .int o_secondY, .ref h_o_rootOf, .ref h_o_becomes, .ref h_o_comes, .ref h_o_next, .int o_x])), (h_o_saved, .inl (ca 3, 3, .inl o_saved_r)), (h_o_all, .inl (ca 0, 350, .inl o_all_r)), (h_o_plans, .inl (ca 0, 80, .inl o_plans_r)), (h_o_shift, .inl (ca 3, 768, .inl o_shift_r))] H) (hD : va_D A [(h_o, .inr (7, [.ref h_o_plans, .ref h_o_makers, .ref h_o_halves, .int o_raised, .ref h_o_all, .ref h_o_text, .ref h_o_saved, .ref h_o_undone, .int o_undos, .int o_reached, .int o_length, .int o_begin, .int o_letters, .int o_sort, .long o_word, .int o_wrongAt, .int o_badAt, .int o_bad, .ref h_o_told, .ref h_o_shift, .int o_firstX, .int o_firstY, .int o_secondX, .int o_secondY, .ref h_o_rootOf, .ref h_o_becomes, .ref h_o_comes, .ref h_o_next, .int o_x])), (h_o_saved, .inl (ca 3, 3, .inl o_saved_r)), (h_o_all, .inl (ca 0, 350, .inl o_all_r)), (h_o_plans, .inl (ca 0, 80, .inl o_plans_r)), (h_o_shift, .inl (ca 3, 768, .inl o_shift_r))]) (hS : va_S A s.heap H locs) (ls : Array Slot) (hl : lv_has ls 6 [(0, .ref h_o), (1, .int p1), (3, .int v3), (4, .int v4)]), WW H locs (F0 m 167 ls []) := by
            intro v4 rr hf hG H locs hP hD hS ls hl
            refine h2 ?_
            unfold fX8_like_167 at hf
            refine lv_iinc (v := (v4 + 1)) (lv' := [(4, .int (v4 + 1)), (0, .ref h_o), (1, .int p1), (3, .int v3)]) hx hb dX8_like_167 hl (k := 3) rfl rfl (by decide) rfl (fun ls hl => ?_)
            refine lv_goto (tgt := 101) hx hb dX8_like_170 (by decide) ?_
            have hf := Option.some.inj hf
            subst hf
            rw [eG2] at hG
            obtain ⟨rr, hf, hG⟩ := hG
            exact h1 (ih101 (v4 + 1) rr hf hG _ _ hP hD hS _ (lv_sub hl [1, 2, 3, 0] rfl))
          have J_115 : ∀ (v4 : Int32) (n : Nat) (v5 : Int32) (rr : (Int32) ⊕ ((Int32) ⊕ (Int32 × Int32 × (Nat → Int32)))) (hf : ds_it (fun s => fX8_like_115_b o_raised o_all_r o_plans_r o_shift_r p1 v3 v4 s) n v5 = some rr) (hG : G2 rr) (H : Heap) (locs : List Loc) (hP : va_P (dC, dI) vwCl [(h_o, .inr (7, [.ref h_o_plans, .ref h_o_makers, .ref h_o_halves, .int o_raised, .ref h_o_all, .ref h_o_text, .ref h_o_saved, .ref h_o_undone, .int o_undos, .int o_reached, .int o_length, .int o_begin, .int o_letters, .int o_sort, .long o_word, .int o_wrongAt, .int o_badAt, .int o_bad, .ref h_o_told, .ref h_o_shift, .int o_firstX, .int o_firstY, .int o_secondX, .int o_secondY, .ref h_o_rootOf, .ref h_o_becomes, .ref h_o_comes, .ref h_o_next, .int o_x])), (h_o_saved, .inl (ca 3, 3, .inl o_saved_r)), (h_o_all, .inl (ca 0, 350, .inl o_all_r)), (h_o_plans, .inl (ca 0, 80, .inl o_plans_r)), (h_o_shift, .inl (ca 3, 768, .inl o_shift_r))] H) (hD : va_D A [(h_o, .inr (7, [.ref h_o_plans, .ref h_o_makers, .ref h_o_halves, .int o_raised, .ref h_o_all, .ref h_o_text, .ref h_o_saved, .ref h_o_undone, .int o_undos, .int o_reached, .int o_length, .int o_begin, .int o_letters, .int o_sort, .long o_word, .int o_wrongAt, .int o_badAt, .int o_bad, .ref h_o_told, .ref h_o_shift, .int o_firstX, .int o_firstY, .int o_secondX, .int o_secondY, .ref h_o_rootOf, .ref h_o_becomes, .ref h_o_comes, .ref h_o_next, .int o_x])), (h_o_saved, .inl (ca 3, 3, .inl o_saved_r)), (h_o_all, .inl (ca 0, 350, .inl o_all_r)), (h_o_plans, .inl (ca 0, 80, .inl o_plans_r)), (h_o_shift, .inl (ca 3, 768, .inl o_shift_r))]) (hS : va_S A s.heap H locs) (ls : Array Slot) (hl : lv_has ls 6 [(0, .ref h_o), (1, .int p1), (3, .int v3), (4, .int v4), (5, .int v5)]), WW H locs (F0 m 115 ls []) := by
            intro v4 n
            induction n with
            | zero => intro v5 rr hf; exact (ds_it_zero hf).elim
            | succ n ih115 =>
              intro v5 rr hf hG H locs hP hD hS ls hl
              refine h2 ?_
              obtain ⟨rr, hf, hG⟩ := ds_it_succ hf hG
              replace hf : fX8_like_115_b o_raised o_all_r o_plans_r o_shift_r p1 v3 v4 v5 = some rr := hf
              obtain ⟨G3, eG3⟩ : ∃ G : ((Int32) ⊕ ((Int32) ⊕ ((Int32) ⊕ (Int32 × Int32 × (Nat → Int32))))) → Prop, G = ds_G (fun s' => ∃ r', ds_it (fun s => fX8_like_115_b o_raised o_all_r o_plans_r o_shift_r p1 v3 v4 s) n s' = some r' ∧ G2 r') G2 := ⟨_, rfl⟩
              rw [← eG3] at hG
              have J_161 : ∀ (v5 : Int32) (rr : (Int32) ⊕ ((Int32) ⊕ ((Int32) ⊕ (Int32 × Int32 × (Nat → Int32))))) (hf : fX8_like_161 v5 = some rr) (hG : G3 rr) (H : Heap) (locs : List Loc) (hP : va_P (dC, dI) vwCl [(h_o, .inr (7, [.ref h_o_plans, .ref h_o_makers, .ref h_o_halves, .int o_raised, .ref h_o_all, .ref h_o_text, .ref h_o_saved, .ref h_o_undone, .int o_undos, .int o_reached, .int o_length, .int o_begin, .int o_letters, .int o_sort, .long o_word, .int o_wrongAt, .int o_badAt, .int o_bad, .ref h_o_told, .ref h_o_shift, .int o_firstX, .int o_firstY, .int o_secondX, .int o_secondY, .ref h_o_rootOf, .ref h_o_becomes, .ref h_o_comes, .ref h_o_next, .int o_x])), (h_o_saved, .inl (ca 3, 3, .inl o_saved_r)), (h_o_all, .inl (ca 0, 350, .inl o_all_r)), (h_o_plans, .inl (ca 0, 80, .inl o_plans_r)), (h_o_shift, .inl (ca 3, 768, .inl o_shift_r))] H) (hD : va_D A [(h_o, .inr (7, [.ref h_o_plans, .ref h_o_makers, .ref h_o_halves, .int o_raised, .ref h_o_all, .ref h_o_text, .ref h_o_saved, .ref h_o_undone, .int o_undos, .int o_reached, .int o_length, .int o_begin, .int o_letters, .int o_sort, .long o_word, .int o_wrongAt, .int o_badAt, .int o_bad, .ref h_o_told, .ref h_o_shift, .int o_firstX, .int o_firstY, .int o_secondX, .int o_secondY, .ref h_o_rootOf, .ref h_o_becomes, .ref h_o_comes, .ref h_o_next, .int o_x])), (h_o_saved, .inl (ca 3, 3, .inl o_saved_r)), (h_o_all, .inl (ca 0, 350, .inl o_all_r)), (h_o_plans, .inl (ca 0, 80, .inl o_plans_r)), (h_o_shift, .inl (ca 3, 768, .inl o_shift_r))]) (hS : va_S A s.heap H locs) (ls : Array Slot) (hl : lv_has ls 6 [(0, .ref h_o), (1, .int p1), (3, .int v3), (4, .int v4), (5, .int v5)]), WW H locs (F0 m 161 ls []) := by
                intro v5 rr hf hG H locs hP hD hS ls hl
                refine h2 ?_
                unfold fX8_like_161 at hf
                refine lv_iinc (v := (v5 + 1)) (lv' := [(5, .int (v5 + 1)), (0, .ref h_o), (1, .int p1), (3, .int v3), (4, .int v4)]) hx hb dX8_like_161 hl (k := 4) rfl rfl (by decide) rfl (fun ls hl => ?_)
                refine lv_goto (tgt := 115) hx hb dX8_like_164 (by decide) ?_
                have hf := Option.some.inj hf
                subst hf
                rw [eG3] at hG
                obtain ⟨rr, hf, hG⟩ := hG
                exact h1 (ih115 (v5 + 1) rr hf hG _ _ hP hD hS _ (lv_sub hl [1, 2, 3, 4, 0] rfl))
              unfold fX8_like_115_b at hf
              refine lv_iload hx hb dX8_like_115 (lv_at hl 4 rfl) ?_
              refine lv_aload_n hx hb dX8_like_117 rfl (lv_at hl 0 rfl) ?_
              refine va_get (D := (dC, dI)) (ci := 7) (v := .ref h_o_all) (C := RX8) (T := TX8) (N := 29) hx hb hts (fun w h => List.mem_cons_of_mem _ (kc_X8 w h)) hown hK hP 0 rfl rfl 4 (by decide) (hg kw_594) (fun _ h9 => h9) rfl dX8_like_118 ?_
              refine lv_iconst (v := 0) hx hb dX8_like_121 (by decide) ?_
              refine va_iald hx hb hK hP 2 0 rfl rfl (ds_in_ok (i := 0) (n := 350) (by decide)) dX8_like_122 ?_
              refine lv_icmp_ge (tgt := 167) hx hb dX8_like_123 (by decide) (fun c_123 => ?_) (fun c_123 => ?_)
              · replace hf := ds_t c_123 hf
                obtain ⟨rr, hr_0, hf⟩ := ds_ob hf
                have hf := Option.some.inj hf
                subst hf
                rw [eG3] at hG
                replace hG : G2 rr := hG
                have hf := hr_0
                exact h1 (J_167 v4 _ hf hG _ _ hP hD hS _ (lv_sub hl [0, 1, 2, 3] rfl))
              · replace hf := ds_f c_123 hf
                refine lv_aload_n hx hb dX8_like_126 rfl (lv_at hl 0 rfl) ?_
                refine lv_iload_n hx hb dX8_like_127 rfl (lv_at hl 2 rfl) ?_
                obtain ⟨q128, hq128, hf⟩ := ds_ob hf
                refine ds_calli (wr := [(h_o_saved, .inl (ca 3, 3, .inl o_saved_r))]) (va_runV (As := [.int v3]) (rest := []) ⟨hx, hb, hml, hown, hts⟩ (c_X8_mayTurn l dC dI ca sa h_o h_o_plans h_o_makers h_o_halves h_o_all h_o_text h_o_saved h_o_undone h_o_told h_o_shift h_o_rootOf h_o_becomes h_o_comes h_o_next H.size o_raised o_undos o_reached o_length o_begin o_letters o_sort o_word o_wrongAt o_badAt o_bad o_firstX o_firstY o_secondX o_secondY o_x o_all_r o_plans_r o_shift_r v3 q128 hq128) (cwV 1 hts (ds_gV kw_671 kw_672 kw_673 kw_597 kw_674) rfl rfl rfl (by decide +kernel) ⟨Nat.le_of_ble_eq_true rfl, Nat.le_of_ble_eq_true rfl⟩) ⟨ds_blind, va_recv hK hP (ci := 7) (q0 := 0) rfl rfl, ds_at hP hD hK hE hS hA [0, 2, 3, 4] rfl rfl _⟩ rfl rfl hl.1 rfl (lv_room (Nat.le_of_ble_eq_true rfl)) dX8_like_128 ⟨Nat.zero_le _, Nat.zero_le _⟩) hP hD hS hA [0, 2, 3, 4] [1] rfl rfl rfl (by decide) (fun H locs hP hD hS => ?_)
                have hP : va_P (dC, dI) vwCl [(h_o_saved, .inl (ca 3, 3, .inl o_saved_r)), (h_o, .inr (7, [.ref h_o_plans, .ref h_o_makers, .ref h_o_halves, .int o_raised, .ref h_o_all, .ref h_o_text, .ref h_o_saved, .ref h_o_undone, .int o_undos, .int o_reached, .int o_length, .int o_begin, .int o_letters, .int o_sort, .long o_word, .int o_wrongAt, .int o_badAt, .int o_bad, .ref h_o_told, .ref h_o_shift, .int o_firstX, .int o_firstY, .int o_secondX, .int o_secondY, .ref h_o_rootOf, .ref h_o_becomes, .ref h_o_comes, .ref h_o_next, .int o_x])), (h_o_all, .inl (ca 0, 350, .inl o_all_r)), (h_o_plans, .inl (ca 0, 80, .inl o_plans_r)), (h_o_shift, .inl (ca 3, 768, .inl o_shift_r))] H := hP
                have hD : va_D A [(h_o_saved, .inl (ca 3, 3, .inl o_saved_r)), (h_o, .inr (7, [.ref h_o_plans, .ref h_o_makers, .ref h_o_halves, .int o_raised, .ref h_o_all, .ref h_o_text, .ref h_o_saved, .ref h_o_undone, .int o_undos, .int o_reached, .int o_length, .int o_begin, .int o_letters, .int o_sort, .long o_word, .int o_wrongAt, .int o_badAt, .int o_bad, .ref h_o_told, .ref h_o_shift, .int o_firstX, .int o_firstY, .int o_secondX, .int o_secondY, .ref h_o_rootOf, .ref h_o_becomes, .ref h_o_comes, .ref h_o_next, .int o_x])), (h_o_all, .inl (ca 0, 350, .inl o_all_r)), (h_o_plans, .inl (ca 0, 80, .inl o_plans_r)), (h_o_shift, .inl (ca 3, 768, .inl o_shift_r))] := hD
                refine lv_if_eq (tgt := 161) hx hb dX8_like_131 (by decide) (fun c_131 => ?_) (fun c_131 => ?_)
                · replace hf := ds_t c_131 hf
                  exact h1 (J_161 v5 _ hf hG _ _ (hP.sub [1, 0, 2, 3, 4] rfl) (hD.sub [1, 0, 2, 3, 4] rfl rfl) hS _ (lv_sub hl [0, 1, 2, 3, 4] rfl))
                · replace hf := ds_f c_131 hf
                  refine lv_aload_n hx hb dX8_like_134 rfl (lv_at hl 0 rfl) ?_
                  refine lv_iload_n hx hb dX8_like_135 rfl (lv_at hl 1 rfl) ?_
                  refine lv_iload_n hx hb dX8_like_136 rfl (lv_at hl 2 rfl) ?_
                  refine lv_iload hx hb dX8_like_137 (lv_at hl 4 rfl) ?_
                  refine lv_iload hx hb dX8_like_139 (lv_at hl 3 rfl) ?_
                  obtain ⟨q141, hq141, hf⟩ := ds_ob hf
                  refine ds_calli (wr := [(h_o_saved, .inl (ca 3, 3, .inl o_saved_r)), (h_o_shift, .inl (ca 3, 768, .inl o_shift_r))]) (va_runV (As := [.int p1, .int v3, .int v5, .int v4]) (rest := []) ⟨hx, hb, hml, hown, hts⟩ (c_X8_isLike l dC dI ca sa h_o h_o_plans h_o_makers h_o_halves h_o_all h_o_text h_o_saved h_o_undone h_o_told h_o_shift h_o_rootOf h_o_becomes h_o_comes h_o_next H.size o_raised o_undos o_reached o_length o_begin o_letters o_sort o_word o_wrongAt o_badAt o_bad o_firstX o_firstY o_secondX o_secondY o_x o_all_r o_plans_r p1 v3 v5 v4 q141 hq141) (cwV 4 hts (ds_gV kw_809 kw_810 kw_811 kw_597 kw_812) rfl rfl rfl (by decide +kernel) ⟨Nat.le_of_ble_eq_true rfl, Nat.le_of_ble_eq_true rfl⟩) ⟨ds_blind, va_recv hK hP (ci := 7) (q0 := 1) rfl rfl, ds_at hP hD hK hE hS hA [1, 2, 3] rfl rfl _⟩ rfl rfl hl.1 rfl (lv_room (Nat.le_of_ble_eq_true rfl)) dX8_like_141 ⟨Nat.zero_le _, Nat.zero_le _⟩) hP hD hS hA [1, 2, 3] [0, 4] rfl rfl rfl (by decide) (fun H locs hP hD hS => ?_)
                  have hP : va_P (dC, dI) vwCl [(h_o_saved, .inl (ca 3, 3, .inl o_saved_r)), (h_o_shift, .inl (ca 3, 768, .inl o_shift_r)), (h_o, .inr (7, [.ref h_o_plans, .ref h_o_makers, .ref h_o_halves, .int o_raised, .ref h_o_all, .ref h_o_text, .ref h_o_saved, .ref h_o_undone, .int o_undos, .int o_reached, .int o_length, .int o_begin, .int o_letters, .int o_sort, .long o_word, .int o_wrongAt, .int o_badAt, .int o_bad, .ref h_o_told, .ref h_o_shift, .int o_firstX, .int o_firstY, .int o_secondX, .int o_secondY, .ref h_o_rootOf, .ref h_o_becomes, .ref h_o_comes, .ref h_o_next, .int o_x])), (h_o_all, .inl (ca 0, 350, .inl o_all_r)), (h_o_plans, .inl (ca 0, 80, .inl o_plans_r))] H := hP
                  have hD : va_D A [(h_o_saved, .inl (ca 3, 3, .inl o_saved_r)), (h_o_shift, .inl (ca 3, 768, .inl o_shift_r)), (h_o, .inr (7, [.ref h_o_plans, .ref h_o_makers, .ref h_o_halves, .int o_raised, .ref h_o_all, .ref h_o_text, .ref h_o_saved, .ref h_o_undone, .int o_undos, .int o_reached, .int o_length, .int o_begin, .int o_letters, .int o_sort, .long o_word, .int o_wrongAt, .int o_badAt, .int o_bad, .ref h_o_told, .ref h_o_shift, .int o_firstX, .int o_firstY, .int o_secondX, .int o_secondY, .ref h_o_rootOf, .ref h_o_becomes, .ref h_o_comes, .ref h_o_next, .int o_x])), (h_o_all, .inl (ca 0, 350, .inl o_all_r)), (h_o_plans, .inl (ca 0, 80, .inl o_plans_r))] := hD
                  refine lv_if_eq (tgt := 161) hx hb dX8_like_144 (by decide) (fun c_144 => ?_) (fun c_144 => ?_)
                  · replace hf := ds_t c_144 hf
                    exact h1 (J_161 v5 _ hf hG _ _ (hP.sub [2, 0, 3, 4, 1] rfl) (hD.sub [2, 0, 3, 4, 1] rfl rfl) hS _ (lv_sub hl [0, 1, 2, 3, 4] rfl))
                  · replace hf := ds_f c_144 hf
                    obtain ⟨rr, hr_0, hf⟩ := ds_ob hf
                    have hf := Option.some.inj hf
                    subst hf
                    rw [eG3] at hG
                    replace hG : G2 rr := hG
                    have hf := hr_0
                    obtain ⟨rr, hr_1, hf⟩ := ds_ob hf
                    have hf := Option.some.inj hf
                    subst hf
                    rw [eG2] at hG
                    replace hG : G1 rr := hG
                    have hf := hr_1
                    obtain ⟨rr, hr_2, hf⟩ := ds_ob hf
                    have hf := Option.some.inj hf
                    subst hf
                    rw [eG1] at hG
                    replace hG : G0 rr := hG
                    have hf := hr_2
                    exact h1 (J_147 v3 v4 v5 o_raised o_shift_r _ hf hG _ _ (hP.sub [2, 0, 3, 4, 1] rfl) (hD.sub [2, 0, 3, 4, 1] rfl rfl) hS _ (lv_sub hl [2, 3, 4] rfl))
          unfold fX8_like_101_b at hf
          refine lv_iload hx hb dX8_like_101 (lv_at hl 3 rfl) ?_
          refine lv_aload_n hx hb dX8_like_103 rfl (lv_at hl 0 rfl) ?_
          refine va_get (D := (dC, dI)) (ci := 7) (v := .ref h_o_all) (C := RX8) (T := TX8) (N := 29) hx hb hts (fun w h => List.mem_cons_of_mem _ (kc_X8 w h)) hown hK hP 0 rfl rfl 4 (by decide) (hg kw_594) (fun _ h9 => h9) rfl dX8_like_104 ?_
          refine lv_iconst (v := 1) hx hb dX8_like_107 (by decide) ?_
          refine va_iald hx hb hK hP 2 0 rfl rfl (ds_in_ok (i := 1) (n := 350) (by decide)) dX8_like_108 ?_
          refine lv_icmp_ge (tgt := 173) hx hb dX8_like_109 (by decide) (fun c_109 => ?_) (fun c_109 => ?_)
          · replace hf := ds_t c_109 hf
            obtain ⟨rr, hr_0, hf⟩ := ds_ob hf
            have hf := Option.some.inj hf
            subst hf
            rw [eG2] at hG
            replace hG : G1 rr := hG
            have hf := hr_0
            exact h1 (J_173 v3 _ hf hG _ _ hP hD hS _ (lv_sub hl [0, 1, 2] rfl))
          · replace hf := ds_f c_109 hf
            refine lv_iconst (v := 0) hx hb dX8_like_112 (by decide) ?_
            refine lv_istore (lv' := [(5, .int (0 : Int32)), (0, .ref h_o), (1, .int p1), (3, .int v3), (4, .int v4)]) hx hb dX8_like_113 hl (by decide) rfl (fun ls hl => ?_)
            exact h1 (J_115 v4 1000 (0 : Int32) _ hf hG _ _ hP hD hS _ (lv_sub hl [1, 2, 3, 4, 0] rfl))
      unfold fX8_like_90_b at hf
      refine lv_iload_n hx hb dX8_like_90 rfl (lv_at hl 2 rfl) ?_
      refine lv_aload_n hx hb dX8_like_91 rfl (lv_at hl 0 rfl) ?_
      obtain ⟨q92, hq92, hf⟩ := ds_ob hf
      refine ds_calli (wr := [(h_o_saved, .inl (ca 3, 3, .inl o_saved_r)), (h_o_plans, .inl (ca 0, 80, .inl o_plans_r)), (h_o_shift, .inl (ca 3, 768, .inl o_shift_r))]) (va_runV (As := []) (rest := [.int v3]) ⟨hx, hb, hml, hown, hts⟩ (c_X8_turnings l dC dI ca sa h_o h_o_plans h_o_makers h_o_halves h_o_all h_o_text h_o_saved h_o_undone h_o_told h_o_shift h_o_rootOf h_o_becomes h_o_comes h_o_next H.size o_raised o_undos o_reached o_length o_begin o_letters o_sort o_word o_wrongAt o_badAt o_bad o_firstX o_firstY o_secondX o_secondY o_x o_all_r  q92 hq92) (cwV 0 hts (ds_gV kw_604 kw_605 kw_606 kw_597 kw_607) rfl rfl rfl (by decide +kernel) ⟨Nat.le_of_ble_eq_true rfl, Nat.le_of_ble_eq_true rfl⟩) ⟨ds_blind, va_recv hK hP (ci := 7) (q0 := 0) rfl rfl, ds_at hP hD hK hE hS hA [0, 2] rfl rfl _⟩ rfl rfl hl.1 rfl (lv_room (Nat.le_of_ble_eq_true rfl)) dX8_like_92 ⟨Nat.zero_le _, Nat.zero_le _⟩) hP hD hS hA [0, 2] [1, 3, 4] rfl rfl rfl (by decide) (fun H locs hP hD hS => ?_)
      have hP : va_P (dC, dI) vwCl [(h_o_saved, .inl (ca 3, 3, .inl o_saved_r)), (h_o_plans, .inl (ca 0, 80, .inl o_plans_r)), (h_o_shift, .inl (ca 3, 768, .inl o_shift_r)), (h_o, .inr (7, [.ref h_o_plans, .ref h_o_makers, .ref h_o_halves, .int o_raised, .ref h_o_all, .ref h_o_text, .ref h_o_saved, .ref h_o_undone, .int o_undos, .int o_reached, .int o_length, .int o_begin, .int o_letters, .int o_sort, .long o_word, .int o_wrongAt, .int o_badAt, .int o_bad, .ref h_o_told, .ref h_o_shift, .int o_firstX, .int o_firstY, .int o_secondX, .int o_secondY, .ref h_o_rootOf, .ref h_o_becomes, .ref h_o_comes, .ref h_o_next, .int o_x])), (h_o_all, .inl (ca 0, 350, .inl o_all_r))] H := hP
      have hD : va_D A [(h_o_saved, .inl (ca 3, 3, .inl o_saved_r)), (h_o_plans, .inl (ca 0, 80, .inl o_plans_r)), (h_o_shift, .inl (ca 3, 768, .inl o_shift_r)), (h_o, .inr (7, [.ref h_o_plans, .ref h_o_makers, .ref h_o_halves, .int o_raised, .ref h_o_all, .ref h_o_text, .ref h_o_saved, .ref h_o_undone, .int o_undos, .int o_reached, .int o_length, .int o_begin, .int o_letters, .int o_sort, .long o_word, .int o_wrongAt, .int o_badAt, .int o_bad, .ref h_o_told, .ref h_o_shift, .int o_firstX, .int o_firstY, .int o_secondX, .int o_secondY, .ref h_o_rootOf, .ref h_o_becomes, .ref h_o_comes, .ref h_o_next, .int o_x])), (h_o_all, .inl (ca 0, 350, .inl o_all_r))] := hD
      refine lv_icmp_ge (tgt := 179) hx hb dX8_like_95 (by decide) (fun c_95 => ?_) (fun c_95 => ?_)
      · replace hf := ds_t c_95 hf
        refine lv_iconst (v := -1) hx hb dX8_like_179 (by decide) ?_
        have hf := Option.some.inj hf
        subst hf
        rw [eG1] at hG
        replace hG : G0 _ := hG
        rw [eG0] at hG
        have hG : _ = res := hG
        subst hG
        exact W.iret (v := (-1 : Int32)) hx hb hr (fun t ht hW => ⟨⟨(-1 : Int32), (), rfl, rfl, by rw [ht]; exact (hP.sub [3, 0, 4, 1, 2] rfl), (hD.sub [3, 0, 4, 1, 2] rfl rfl)⟩, hS.F ht⟩) hS.2.2 dX8_like_180
      · replace hf := ds_f c_95 hf
        refine lv_iconst (v := 0) hx hb dX8_like_98 (by decide) ?_
        refine lv_istore (lv' := [(4, .int (0 : Int32)), (0, .ref h_o), (1, .int p1), (3, .int v3)]) hx hb dX8_like_99 hl (by decide) rfl (fun ls hl => ?_)
        exact h1 (J_101 v3 1000 (0 : Int32) _ hf hG _ _ (hP.sub [3, 0, 4, 1, 2] rfl) (hD.sub [3, 0, 4, 1, 2] rfl rfl) hS _ (lv_sub hl [1, 2, 3, 0] rfl))
  unfold fX8_like at hf
  refine lv_aload_n hx hb dX8_like_0 rfl (lv_at hl 0 rfl) ?_
  refine lv_iconst (v := 0) hx hb dX8_like_1 (by decide) ?_
  refine va_put (D := (dC, dI)) (ci := 7) (v := .int (0 : Int32)) (ty := tyX8 3) (C := RX8) (T := TX8) (N := 29) hx hb hts (fun w h => List.mem_cons_of_mem _ (kc_X8 w h)) tyX8 tyX8_ok nmX8 hown hK hP hD hS 0 rfl rfl 3 (by decide) (hg kw_564) (fun _ h9 => h9) rfl (by decide +kernel) rfl rfl (Nat.le_of_ble_eq_true rfl) dX8_like_2 (fun H locs hP hD hS => ?_)
  have hP : va_P (dC, dI) vwCl [(h_o, .inr (7, [.ref h_o_plans, .ref h_o_makers, .ref h_o_halves, .int (0 : Int32), .ref h_o_all, .ref h_o_text, .ref h_o_saved, .ref h_o_undone, .int o_undos, .int o_reached, .int o_length, .int o_begin, .int o_letters, .int o_sort, .long o_word, .int o_wrongAt, .int o_badAt, .int o_bad, .ref h_o_told, .ref h_o_shift, .int o_firstX, .int o_firstY, .int o_secondX, .int o_secondY, .ref h_o_rootOf, .ref h_o_becomes, .ref h_o_comes, .ref h_o_next, .int o_x])), (h_o_saved, .inl (ca 3, 3, .inl o_saved_r)), (h_o_all, .inl (ca 0, 350, .inl o_all_r)), (h_o_plans, .inl (ca 0, 80, .inl o_plans_r)), (h_o_shift, .inl (ca 3, 768, .inl o_shift_r))] H := hP
  have hD : va_D A [(h_o, .inr (7, [.ref h_o_plans, .ref h_o_makers, .ref h_o_halves, .int (0 : Int32), .ref h_o_all, .ref h_o_text, .ref h_o_saved, .ref h_o_undone, .int o_undos, .int o_reached, .int o_length, .int o_begin, .int o_letters, .int o_sort, .long o_word, .int o_wrongAt, .int o_badAt, .int o_bad, .ref h_o_told, .ref h_o_shift, .int o_firstX, .int o_firstY, .int o_secondX, .int o_secondY, .ref h_o_rootOf, .ref h_o_becomes, .ref h_o_comes, .ref h_o_next, .int o_x])), (h_o_saved, .inl (ca 3, 3, .inl o_saved_r)), (h_o_all, .inl (ca 0, 350, .inl o_all_r)), (h_o_plans, .inl (ca 0, 80, .inl o_plans_r)), (h_o_shift, .inl (ca 3, 768, .inl o_shift_r))] := hD
  refine lv_iload_n hx hb dX8_like_5 rfl (lv_at hl 1 rfl) ?_
  refine lv_iconst (v := 0) hx hb dX8_like_6 (by decide) ?_
  refine lv_iconst (v := 2) hx hb dX8_like_7 (by decide) ?_
  obtain ⟨q8, hq8, hf⟩ := ds_ob hf
  refine ds_calli (wr := [(h_o, .inr (7, [.ref h_o_plans, .ref h_o_makers, .ref h_o_halves, .int (0 : Int32), .ref h_o_all, .ref h_o_text, .ref h_o_saved, .ref h_o_undone, .int o_undos, .int o_reached, .int o_length, .int o_begin, .int o_letters, .int o_sort, .long o_word, .int o_wrongAt, .int o_badAt, .int o_bad, .ref h_o_told, .ref h_o_shift, .int o_firstX, .int o_firstY, .int o_secondX, .int o_secondY, .ref h_o_rootOf, .ref h_o_becomes, .ref h_o_comes, .ref h_o_next, .int o_x])), (h_o_saved, .inl (ca 3, 3, .inl o_saved_r)), (h_o_all, .inl (ca 0, 350, .inl o_all_r)), (h_o_plans, .inl (ca 0, 80, .inl o_plans_r)), (h_o_shift, .inl (ca 3, 768, .inl o_shift_r))]) (va_runS (As := [.int p1, .int (0 : Int32), .int (2 : Int32)]) (rest := []) ⟨hx, hb, hml, hown, hts⟩ (c_X8_in l dC dI ca sa  H.size  p1 (0 : Int32) (2 : Int32) q8 hq8) (va_cwS 3 hts (ds_gS kw_619 kw_620 kw_597 kw_621) rfl rfl rfl (by decide +kernel) ⟨Nat.le_of_ble_eq_true rfl, Nat.le_of_ble_eq_true rfl⟩) ⟨ds_blind, ds_at hP hD hK hE hS hA [] rfl rfl _⟩ rfl rfl hl.1 rfl (lv_room (Nat.le_of_ble_eq_true rfl)) dX8_like_8 ⟨Nat.zero_le _, Nat.zero_le _⟩) hP hD hS hA [] [0, 1, 2, 3, 4] rfl rfl rfl (by decide) (fun H locs hP hD hS => ?_)
  have hP : va_P (dC, dI) vwCl [(h_o, .inr (7, [.ref h_o_plans, .ref h_o_makers, .ref h_o_halves, .int (0 : Int32), .ref h_o_all, .ref h_o_text, .ref h_o_saved, .ref h_o_undone, .int o_undos, .int o_reached, .int o_length, .int o_begin, .int o_letters, .int o_sort, .long o_word, .int o_wrongAt, .int o_badAt, .int o_bad, .ref h_o_told, .ref h_o_shift, .int o_firstX, .int o_firstY, .int o_secondX, .int o_secondY, .ref h_o_rootOf, .ref h_o_becomes, .ref h_o_comes, .ref h_o_next, .int o_x])), (h_o_saved, .inl (ca 3, 3, .inl o_saved_r)), (h_o_all, .inl (ca 0, 350, .inl o_all_r)), (h_o_plans, .inl (ca 0, 80, .inl o_plans_r)), (h_o_shift, .inl (ca 3, 768, .inl o_shift_r))] H := hP
  have hD : va_D A [(h_o, .inr (7, [.ref h_o_plans, .ref h_o_makers, .ref h_o_halves, .int (0 : Int32), .ref h_o_all, .ref h_o_text, .ref h_o_saved, .ref h_o_undone, .int o_undos, .int o_reached, .int o_length, .int o_begin, .int o_letters, .int o_sort, .long o_word, .int o_wrongAt, .int o_badAt, .int o_bad, .ref h_o_told, .ref h_o_shift, .int o_firstX, .int o_firstY, .int o_secondX, .int o_secondY, .ref h_o_rootOf, .ref h_o_becomes, .ref h_o_comes, .ref h_o_next, .int o_x])), (h_o_saved, .inl (ca 3, 3, .inl o_saved_r)), (h_o_all, .inl (ca 0, 350, .inl o_all_r)), (h_o_plans, .inl (ca 0, 80, .inl o_plans_r)), (h_o_shift, .inl (ca 3, 768, .inl o_shift_r))] := hD
  refine lv_if_eq (tgt := 23) hx hb dX8_like_11 (by decide) (fun c_11 => ?_) (fun c_11 => ?_)
  · replace hf := ds_t c_11 hf
    refine lv_bipush (v := -2) hx hb dX8_like_23 (by decide) ?_
    have hf := Option.some.inj hf
    subst hf
    rw [eG0] at hG
    have hG : _ = res := hG
    subst hG
    exact W.iret (v := (-2 : Int32)) hx hb hr (fun t ht hW => ⟨⟨(-2 : Int32), (), rfl, rfl, by rw [ht]; exact hP, hD⟩, hS.F ht⟩) hS.2.2 dX8_like_25
  · replace hf := ds_f c_11 hf
    refine lv_aload_n hx hb dX8_like_14 rfl (lv_at hl 0 rfl) ?_
    refine va_get (D := (dC, dI)) (ci := 7) (v := .ref h_o_saved) (C := RX8) (T := TX8) (N := 29) hx hb hts (fun w h => List.mem_cons_of_mem _ (kc_X8 w h)) hown hK hP 0 rfl rfl 6 (by decide) (hg kw_813) (fun _ h9 => h9) rfl dX8_like_15 ?_
    refine lv_iload_n hx hb dX8_like_18 rfl (lv_at hl 1 rfl) ?_
    obtain ⟨i_19, hf⟩ := ds_ci hf
    refine va_zald hx hb hK hP 1 3 rfl rfl i_19 dX8_like_19 ?_
    refine lv_if_ne (tgt := 26) hx hb dX8_like_20 (by decide) (fun c_20 => ?_) (fun c_20 => ?_)
    · replace hf := ds_f c_20 hf
      refine lv_bipush (v := 70) hx hb dX8_like_26 (by decide) ?_
      refine lv_iload_n hx hb dX8_like_28 rfl (lv_at hl 1 rfl) ?_
      refine lv_iconst (v := 1) hx hb dX8_like_29 (by decide) ?_
      refine lv_iadd hx hb dX8_like_30 ?_
      refine lv_imul hx hb dX8_like_31 ?_
      refine lv_istore_n (lv' := [(2, .int ((70 : Int32) * (p1 + (1 : Int32)))), (0, .ref h_o), (1, .int p1)]) hx hb dX8_like_32 rfl hl (by decide) rfl (fun ls hl => ?_)
      refine lv_aload_n hx hb dX8_like_33 rfl (lv_at hl 1 rfl) ?_
      refine va_get (D := (dC, dI)) (ci := 7) (v := .ref h_o_all) (C := RX8) (T := TX8) (N := 29) hx hb hts (fun w h => List.mem_cons_of_mem _ (kc_X8 w h)) hown hK hP 0 rfl rfl 4 (by decide) (hg kw_594) (fun _ h9 => h9) rfl dX8_like_34 ?_
      refine lv_iload_n hx hb dX8_like_37 rfl (lv_at hl 0 rfl) ?_
      obtain ⟨i_38, hf⟩ := ds_ci hf
      refine va_iald hx hb hK hP 2 0 rfl rfl i_38 dX8_like_38 ?_
      refine lv_aload_n hx hb dX8_like_39 rfl (lv_at hl 1 rfl) ?_
      refine va_get (D := (dC, dI)) (ci := 7) (v := .ref h_o_all) (C := RX8) (T := TX8) (N := 29) hx hb hts (fun w h => List.mem_cons_of_mem _ (kc_X8 w h)) hown hK hP 0 rfl rfl 4 (by decide) (hg kw_594) (fun _ h9 => h9) rfl dX8_like_40 ?_
      refine lv_iconst (v := 0) hx hb dX8_like_43 (by decide) ?_
      refine va_iald hx hb hK hP 2 0 rfl rfl (ds_in_ok (i := 0) (n := 350) (by decide)) dX8_like_44 ?_
      refine lv_icmp_ne (tgt := 82) hx hb dX8_like_45 (by decide) (fun c_45 => ?_) (fun c_45 => ?_)
      · replace hf := ds_f c_45 hf
        refine lv_iconst (v := -1) hx hb dX8_like_82 (by decide) ?_
        have hf := Option.some.inj hf
        subst hf
        rw [eG0] at hG
        have hG : _ = res := hG
        subst hG
        exact W.iret (v := (-1 : Int32)) hx hb hr (fun t ht hW => ⟨⟨(-1 : Int32), (), rfl, rfl, by rw [ht]; exact hP, hD⟩, hS.F ht⟩) hS.2.2 dX8_like_83
      · replace hf := ds_t c_45 hf
        refine lv_aload_n hx hb dX8_like_48 rfl (lv_at hl 1 rfl) ?_
        refine va_get (D := (dC, dI)) (ci := 7) (v := .ref h_o_all) (C := RX8) (T := TX8) (N := 29) hx hb hts (fun w h => List.mem_cons_of_mem _ (kc_X8 w h)) hown hK hP 0 rfl rfl 4 (by decide) (hg kw_594) (fun _ h9 => h9) rfl dX8_like_49 ?_
        refine lv_iload_n hx hb dX8_like_52 rfl (lv_at hl 0 rfl) ?_
        refine lv_iconst (v := 1) hx hb dX8_like_53 (by decide) ?_
        refine lv_iadd hx hb dX8_like_54 ?_
        obtain ⟨i_55, hf⟩ := ds_ci hf
        refine va_iald hx hb hK hP 2 0 rfl rfl i_55 dX8_like_55 ?_
        refine lv_aload_n hx hb dX8_like_56 rfl (lv_at hl 1 rfl) ?_
        refine va_get (D := (dC, dI)) (ci := 7) (v := .ref h_o_all) (C := RX8) (T := TX8) (N := 29) hx hb hts (fun w h => List.mem_cons_of_mem _ (kc_X8 w h)) hown hK hP 0 rfl rfl 4 (by decide) (hg kw_594) (fun _ h9 => h9) rfl dX8_like_57 ?_
        refine lv_iconst (v := 1) hx hb dX8_like_60 (by decide) ?_
        refine va_iald hx hb hK hP 2 0 rfl rfl (ds_in_ok (i := 1) (n := 350) (by decide)) dX8_like_61 ?_
        refine lv_icmp_ne (tgt := 82) hx hb dX8_like_62 (by decide) (fun c_62 => ?_) (fun c_62 => ?_)
        · replace hf := ds_f c_62 hf
          refine lv_iconst (v := -1) hx hb dX8_like_82 (by decide) ?_
          have hf := Option.some.inj hf
          subst hf
          rw [eG0] at hG
          have hG : _ = res := hG
          subst hG
          exact W.iret (v := (-1 : Int32)) hx hb hr (fun t ht hW => ⟨⟨(-1 : Int32), (), rfl, rfl, by rw [ht]; exact hP, hD⟩, hS.F ht⟩) hS.2.2 dX8_like_83
        · replace hf := ds_t c_62 hf
          refine lv_aload_n hx hb dX8_like_65 rfl (lv_at hl 1 rfl) ?_
          refine va_get (D := (dC, dI)) (ci := 7) (v := .ref h_o_all) (C := RX8) (T := TX8) (N := 29) hx hb hts (fun w h => List.mem_cons_of_mem _ (kc_X8 w h)) hown hK hP 0 rfl rfl 4 (by decide) (hg kw_594) (fun _ h9 => h9) rfl dX8_like_66 ?_
          refine lv_iload_n hx hb dX8_like_69 rfl (lv_at hl 0 rfl) ?_
          refine lv_iconst (v := 2) hx hb dX8_like_70 (by decide) ?_
          refine lv_iadd hx hb dX8_like_71 ?_
          obtain ⟨i_72, hf⟩ := ds_ci hf
          refine va_iald hx hb hK hP 2 0 rfl rfl i_72 dX8_like_72 ?_
          refine lv_aload_n hx hb dX8_like_73 rfl (lv_at hl 1 rfl) ?_
          refine va_get (D := (dC, dI)) (ci := 7) (v := .ref h_o_all) (C := RX8) (T := TX8) (N := 29) hx hb hts (fun w h => List.mem_cons_of_mem _ (kc_X8 w h)) hown hK hP 0 rfl rfl 4 (by decide) (hg kw_594) (fun _ h9 => h9) rfl dX8_like_74 ?_
          refine lv_iconst (v := 2) hx hb dX8_like_77 (by decide) ?_
          refine va_iald hx hb hK hP 2 0 rfl rfl (ds_in_ok (i := 2) (n := 350) (by decide)) dX8_like_78 ?_
          refine lv_icmp_eq (tgt := 84) hx hb dX8_like_79 (by decide) (fun c_79 => ?_) (fun c_79 => ?_)
          · replace hf := ds_t c_79 hf
            refine lv_aload_n hx hb dX8_like_84 rfl (lv_at hl 1 rfl) ?_
            obtain ⟨q85, hq85, hf⟩ := ds_ob hf
            refine ds_callv (wr := [(h_o_saved, .inl (ca 3, 3, .inl o_saved_r))]) (va_runV (As := []) (rest := []) ⟨hx, hb, hml, hown, hts⟩ (c_X8_laysShifts l dC dI ca sa h_o h_o_plans h_o_makers h_o_halves h_o_all h_o_text h_o_saved h_o_undone h_o_told h_o_shift h_o_rootOf h_o_becomes h_o_comes h_o_next H.size (0 : Int32) o_undos o_reached o_length o_begin o_letters o_sort o_word o_wrongAt o_badAt o_bad o_firstX o_firstY o_secondX o_secondY o_x o_all_r o_plans_r o_shift_r  q85 hq85) (cwV 0 hts (ds_gV kw_764 kw_765 kw_766 kw_597 kw_767) rfl rfl rfl (by decide +kernel) ⟨Nat.le_of_ble_eq_true rfl, Nat.le_of_ble_eq_true rfl⟩) ⟨ds_blind, va_recv hK hP (ci := 7) (q0 := 0) rfl rfl, ds_at hP hD hK hE hS hA [0, 2, 3, 4] rfl rfl _⟩ rfl rfl hl.1 rfl (lv_room (Nat.le_of_ble_eq_true rfl)) dX8_like_85 ⟨Nat.zero_le _, Nat.zero_le _⟩) hP hD hS hA [0, 2, 3, 4] [1] rfl rfl rfl (by decide) (fun H locs hP hD hS => ?_)
            have hP : va_P (dC, dI) vwCl [(h_o_saved, .inl (ca 3, 3, .inl o_saved_r)), (h_o, .inr (7, [.ref h_o_plans, .ref h_o_makers, .ref h_o_halves, .int (0 : Int32), .ref h_o_all, .ref h_o_text, .ref h_o_saved, .ref h_o_undone, .int o_undos, .int o_reached, .int o_length, .int o_begin, .int o_letters, .int o_sort, .long o_word, .int o_wrongAt, .int o_badAt, .int o_bad, .ref h_o_told, .ref h_o_shift, .int o_firstX, .int o_firstY, .int o_secondX, .int o_secondY, .ref h_o_rootOf, .ref h_o_becomes, .ref h_o_comes, .ref h_o_next, .int o_x])), (h_o_all, .inl (ca 0, 350, .inl o_all_r)), (h_o_plans, .inl (ca 0, 80, .inl o_plans_r)), (h_o_shift, .inl (ca 3, 768, .inl q85))] H := hP
            have hD : va_D A [(h_o_saved, .inl (ca 3, 3, .inl o_saved_r)), (h_o, .inr (7, [.ref h_o_plans, .ref h_o_makers, .ref h_o_halves, .int (0 : Int32), .ref h_o_all, .ref h_o_text, .ref h_o_saved, .ref h_o_undone, .int o_undos, .int o_reached, .int o_length, .int o_begin, .int o_letters, .int o_sort, .long o_word, .int o_wrongAt, .int o_badAt, .int o_bad, .ref h_o_told, .ref h_o_shift, .int o_firstX, .int o_firstY, .int o_secondX, .int o_secondY, .ref h_o_rootOf, .ref h_o_becomes, .ref h_o_comes, .ref h_o_next, .int o_x])), (h_o_all, .inl (ca 0, 350, .inl o_all_r)), (h_o_plans, .inl (ca 0, 80, .inl o_plans_r)), (h_o_shift, .inl (ca 3, 768, .inl q85))] := hD
            refine lv_iconst (v := 0) hx hb dX8_like_88 (by decide) ?_
            refine lv_istore_n (lv' := [(3, .int (0 : Int32)), (2, .int ((70 : Int32) * (p1 + (1 : Int32)))), (0, .ref h_o), (1, .int p1)]) hx hb dX8_like_89 rfl hl (by decide) rfl (fun ls hl => ?_)
            exact h1 (J_90 (0 : Int32) q85 1000 (0 : Int32) _ hf hG _ _ (hP.sub [1, 0, 2, 3, 4] rfl) (hD.sub [1, 0, 2, 3, 4] rfl rfl) hS _ (lv_sub hl [2, 3, 0] rfl))
          · replace hf := ds_f c_79 hf
            refine lv_iconst (v := -1) hx hb dX8_like_82 (by decide) ?_
            have hf := Option.some.inj hf
            subst hf
            rw [eG0] at hG
            have hG : _ = res := hG
            subst hG
            exact W.iret (v := (-1 : Int32)) hx hb hr (fun t ht hW => ⟨⟨(-1 : Int32), (), rfl, rfl, by rw [ht]; exact hP, hD⟩, hS.F ht⟩) hS.2.2 dX8_like_83
    · replace hf := ds_t c_20 hf
      refine lv_bipush (v := -2) hx hb dX8_like_23 (by decide) ?_
      have hf := Option.some.inj hf
      subst hf
      rw [eG0] at hG
      have hG : _ = res := hG
      subst hG
      exact W.iret (v := (-2 : Int32)) hx hb hr (fun t ht hW => ⟨⟨(-2 : Int32), (), rfl, rfl, by rw [ht]; exact hP, hD⟩, hS.F ht⟩) hS.2.2 dX8_like_25
theorem dX8_needsEven_0 : decode cX8_needsEven 0 = .ok (.aload_n 0, 1) := by decide +kernel
theorem dX8_needsEven_1 : decode cX8_needsEven 1 = .ok (.getfield 16, 3) := by decide +kernel
theorem dX8_needsEven_4 : decode cX8_needsEven 4 = .ok (.iconst 2, 1) := by decide +kernel
theorem dX8_needsEven_5 : decode cX8_needsEven 5 = .ok (.iload_n 1, 1) := by decide +kernel
theorem dX8_needsEven_6 : decode cX8_needsEven 6 = .ok (.imul, 1) := by decide +kernel
theorem dX8_needsEven_7 : decode cX8_needsEven 7 = .ok (.iaload, 1) := by decide +kernel
theorem dX8_needsEven_8 : decode cX8_needsEven 8 = .ok (.aload_n 0, 1) := by decide +kernel
theorem dX8_needsEven_9 : decode cX8_needsEven 9 = .ok (.getfield 16, 3) := by decide +kernel
theorem dX8_needsEven_12 : decode cX8_needsEven 12 = .ok (.iconst 2, 1) := by decide +kernel
theorem dX8_needsEven_13 : decode cX8_needsEven 13 = .ok (.iload_n 1, 1) := by decide +kernel
theorem dX8_needsEven_14 : decode cX8_needsEven 14 = .ok (.imul, 1) := by decide +kernel
theorem dX8_needsEven_15 : decode cX8_needsEven 15 = .ok (.iconst 1, 1) := by decide +kernel
theorem dX8_needsEven_16 : decode cX8_needsEven 16 = .ok (.iadd, 1) := by decide +kernel
theorem dX8_needsEven_17 : decode cX8_needsEven 17 = .ok (.iaload, 1) := by decide +kernel
theorem dX8_needsEven_18 : decode cX8_needsEven 18 = .ok (.iadd, 1) := by decide +kernel
theorem dX8_needsEven_19 : decode cX8_needsEven 19 = .ok (.ifCond .le 7, 3) := by decide +kernel
theorem dX8_needsEven_22 : decode cX8_needsEven 22 = .ok (.iconst 1, 1) := by decide +kernel
theorem dX8_needsEven_23 : decode cX8_needsEven 23 = .ok (.goto 4, 3) := by decide +kernel
theorem dX8_needsEven_26 : decode cX8_needsEven 26 = .ok (.iconst 0, 1) := by decide +kernel
theorem dX8_needsEven_27 : decode cX8_needsEven 27 = .ok (.ireturn, 1) := by decide +kernel
def fX8_needsEven (o_halves_r : Nat → Int32) (p1 : Int32) : Option (Int32) :=
  if ds_in ((2 : Int32) * p1) 34 = true then if ds_in (((2 : Int32) * p1) + (1 : Int32)) 34 = true then if ((o_halves_r ((2 : Int32) * p1).toNatClampNeg) + (o_halves_r (((2 : Int32) * p1) + (1 : Int32)).toNatClampNeg)) ≤ 0 then some (0 : Int32) else some (1 : Int32) else none else none
set_option maxHeartbeats 4000000 in
set_option maxRecDepth 100000 in
theorem c_X8_needsEven (l : Launch) (dC : Nat → ClassId) (dI : Nat → Nat → Nat) (ca : Nat → ClassId) (sa : Nat → Nat) (h_o : Nat) (h_o_plans : Nat) (h_o_makers : Nat) (h_o_halves : Nat) (h_o_all : Nat) (h_o_text : Nat) (h_o_saved : Nat) (h_o_undone : Nat) (h_o_told : Nat) (h_o_shift : Nat) (h_o_rootOf : Nat) (h_o_becomes : Nat) (h_o_comes : Nat) (h_o_next : Nat) (sz : Nat) (o_raised : Int32) (o_undos : Int32) (o_reached : Int32) (o_length : Int32) (o_begin : Int32) (o_letters : Int32) (o_sort : Int32) (o_word : Int64) (o_wrongAt : Int32) (o_badAt : Int32) (o_bad : Int32) (o_firstX : Int32) (o_firstY : Int32) (o_secondX : Int32) (o_secondY : Int32) (o_x : Int32) (o_halves_r : Nat → Int32) (p1 : Int32) (res : Int32) (hf : fX8_needsEven o_halves_r p1 = some res) : Met l yX8_needsEven (Cond.code yX8_needsEven cX8_needsEven 2 (some .boolean) :: ds_gw) { frames := 0, cells := 0, slots := 0, locals := 0 } (va_Pc [.ref h_o, .int p1] (ds_Pre dC dI ca sa [(h_o, .inr (7, [.ref h_o_plans, .ref h_o_makers, .ref h_o_halves, .int o_raised, .ref h_o_all, .ref h_o_text, .ref h_o_saved, .ref h_o_undone, .int o_undos, .int o_reached, .int o_length, .int o_begin, .int o_letters, .int o_sort, .long o_word, .int o_wrongAt, .int o_badAt, .int o_bad, .ref h_o_told, .ref h_o_shift, .int o_firstX, .int o_firstY, .int o_secondX, .int o_secondY, .ref h_o_rootOf, .ref h_o_becomes, .ref h_o_comes, .ref h_o_next, .int o_x])), (h_o_halves, .inl (ca 0, 34, .inl o_halves_r))] sz)) (va_Qi (fun r (_ : Unit) => r = res) (ds_B dC dI (va_A [(h_o, .inr (7, [.ref h_o_plans, .ref h_o_makers, .ref h_o_halves, .int o_raised, .ref h_o_all, .ref h_o_text, .ref h_o_saved, .ref h_o_undone, .int o_undos, .int o_reached, .int o_length, .int o_begin, .int o_letters, .int o_sort, .long o_word, .int o_wrongAt, .int o_badAt, .int o_bad, .ref h_o_told, .ref h_o_shift, .int o_firstX, .int o_firstY, .int o_secondX, .int o_secondY, .ref h_o_rootOf, .ref h_o_becomes, .ref h_o_comes, .ref h_o_next, .int o_x])), (h_o_halves, .inl (ca 0, 34, .inl o_halves_r))] sz) [(h_o, .inr (7, [.ref h_o_plans, .ref h_o_makers, .ref h_o_halves, .int o_raised, .ref h_o_all, .ref h_o_text, .ref h_o_saved, .ref h_o_undone, .int o_undos, .int o_reached, .int o_length, .int o_begin, .int o_letters, .int o_sort, .long o_word, .int o_wrongAt, .int o_badAt, .int o_bad, .ref h_o_told, .ref h_o_shift, .int o_firstX, .int o_firstY, .int o_secondX, .int o_secondY, .ref h_o_rootOf, .ref h_o_becomes, .ref h_o_comes, .ref h_o_next, .int o_x])), (h_o_halves, .inl (ca 0, 34, .inl o_halves_r))]) (va_A [(h_o, .inr (7, [.ref h_o_plans, .ref h_o_makers, .ref h_o_halves, .int o_raised, .ref h_o_all, .ref h_o_text, .ref h_o_saved, .ref h_o_undone, .int o_undos, .int o_reached, .int o_length, .int o_begin, .int o_letters, .int o_sort, .long o_word, .int o_wrongAt, .int o_badAt, .int o_bad, .ref h_o_told, .ref h_o_shift, .int o_firstX, .int o_firstY, .int o_secondX, .int o_secondY, .ref h_o_rootOf, .ref h_o_becomes, .ref h_o_comes, .ref h_o_next, .int o_x])), (h_o_halves, .inl (ca 0, 34, .inl o_halves_r))] sz)) 0 0 (va_A [(h_o, .inr (7, [.ref h_o_plans, .ref h_o_makers, .ref h_o_halves, .int o_raised, .ref h_o_all, .ref h_o_text, .ref h_o_saved, .ref h_o_undone, .int o_undos, .int o_reached, .int o_length, .int o_begin, .int o_letters, .int o_sort, .long o_word, .int o_wrongAt, .int o_badAt, .int o_bad, .ref h_o_told, .ref h_o_shift, .int o_firstX, .int o_firstY, .int o_secondX, .int o_secondY, .ref h_o_rootOf, .ref h_o_becomes, .ref h_o_comes, .ref h_o_next, .int o_x])), (h_o_halves, .inl (ca 0, 34, .inl o_halves_r))] sz) := by
  refine Met.ofW (cc := cX8_needsEven) (maxL := 2) (ret := (some .boolean)) (by decide) rfl ?_
  intro p e s m args below meth c s₁ B hml hv
  obtain ⟨rfl, hsz, hP, hK, hD0, hE⟩ := hv
  have hx := B.exec
  have hb := B.bytes
  have hr := B.returns
  have hts := atoms_spec (ws := Cond.code yX8_needsEven cX8_needsEven 2 (some .boolean) :: ds_gw) B.pre
  have hg : ∀ {w : Cond}, w ∈ ds_gw → w.before _ s = true := fun h => hts _ (List.mem_cons_of_mem _ h)
  have hown : s.vm.findClass RX8 = some m.cls := findClass_of_methodNamed B.named
  have hlocks := B.notSynchronized
  subst hsz
  have hD := hD0.self (sz := s.heap.size)
  generalize hAe : va_A [(h_o, .inr (7, [.ref h_o_plans, .ref h_o_makers, .ref h_o_halves, .int o_raised, .ref h_o_all, .ref h_o_text, .ref h_o_saved, .ref h_o_undone, .int o_undos, .int o_reached, .int o_length, .int o_begin, .int o_letters, .int o_sort, .long o_word, .int o_wrongAt, .int o_badAt, .int o_bad, .ref h_o_told, .ref h_o_shift, .int o_firstX, .int o_firstY, .int o_secondX, .int o_secondY, .ref h_o_rootOf, .ref h_o_becomes, .ref h_o_comes, .ref h_o_next, .int o_x])), (h_o_halves, .inl (ca 0, 34, .inl o_halves_r))] s.heap.size = A at hD hE ⊢
  have hA : ∀ q : Nat, s.heap.size ≤ q → A q := fun q h => by rw [← hAe]; exact Or.inr h
  have hS : va_S A s.heap s.heap [] := va_S.rf
  have hl := lv_entry ([.ref h_o, .int p1]) (n := 2) (Nat.le_of_ble_eq_true rfl)
  rw [lg_entry_eq]
  generalize (lg_sl ([.ref h_o, .int p1]) ++ List.replicate (2 - (lg_sl ([.ref h_o, .int p1])).length) Slot.unset).toArray = ls at hl ⊢
  have hl : lv_has ls 2 [(0, .ref h_o), (1, .int p1)] := hl
  obtain ⟨G0, eG0⟩ : ∃ G : Int32 → Prop, G = (fun r => r = res) := ⟨_, rfl⟩
  obtain ⟨rr, hrr⟩ : ∃ z, z = res := ⟨_, rfl⟩
  rw [← hrr] at hf
  have hG : G0 rr := by subst eG0; exact hrr
  unfold fX8_needsEven at hf
  refine lv_aload_n hx hb dX8_needsEven_0 rfl (lv_at hl 0 rfl) ?_
  refine va_get (D := (dC, dI)) (ci := 7) (v := .ref h_o_halves) (C := RX8) (T := TX8) (N := 29) hx hb hts (fun w h => List.mem_cons_of_mem _ (kc_X8 w h)) hown hK hP 0 rfl rfl 2 (by decide) (hg kw_814) (fun _ h9 => h9) rfl dX8_needsEven_1 ?_
  refine lv_iconst (v := 2) hx hb dX8_needsEven_4 (by decide) ?_
  refine lv_iload_n hx hb dX8_needsEven_5 rfl (lv_at hl 1 rfl) ?_
  refine lv_imul hx hb dX8_needsEven_6 ?_
  obtain ⟨i_7, hf⟩ := ds_ci hf
  refine va_iald hx hb hK hP 1 0 rfl rfl i_7 dX8_needsEven_7 ?_
  refine lv_aload_n hx hb dX8_needsEven_8 rfl (lv_at hl 0 rfl) ?_
  refine va_get (D := (dC, dI)) (ci := 7) (v := .ref h_o_halves) (C := RX8) (T := TX8) (N := 29) hx hb hts (fun w h => List.mem_cons_of_mem _ (kc_X8 w h)) hown hK hP 0 rfl rfl 2 (by decide) (hg kw_814) (fun _ h9 => h9) rfl dX8_needsEven_9 ?_
  refine lv_iconst (v := 2) hx hb dX8_needsEven_12 (by decide) ?_
  refine lv_iload_n hx hb dX8_needsEven_13 rfl (lv_at hl 1 rfl) ?_
  refine lv_imul hx hb dX8_needsEven_14 ?_
  refine lv_iconst (v := 1) hx hb dX8_needsEven_15 (by decide) ?_
  refine lv_iadd hx hb dX8_needsEven_16 ?_
  obtain ⟨i_17, hf⟩ := ds_ci hf
  refine va_iald hx hb hK hP 1 0 rfl rfl i_17 dX8_needsEven_17 ?_
  refine lv_iadd hx hb dX8_needsEven_18 ?_
  refine lv_if_le (tgt := 26) hx hb dX8_needsEven_19 (by decide) (fun c_19 => ?_) (fun c_19 => ?_)
  · replace hf := ds_t c_19 hf
    refine lv_iconst (v := 0) hx hb dX8_needsEven_26 (by decide) ?_
    have hf := Option.some.inj hf
    subst hf
    rw [eG0] at hG
    have hG : _ = res := hG
    subst hG
    exact W.zret (v := (0 : Int32)) (ty := .boolean) hx hb hr rfl (fun t ht hW => ⟨⟨(0 : Int32), (), rfl, rfl, by rw [ht]; exact hP, hD⟩, hS.F ht⟩) hS.2.2 dX8_needsEven_27
  · replace hf := ds_f c_19 hf
    refine lv_iconst (v := 1) hx hb dX8_needsEven_22 (by decide) ?_
    refine lv_goto (tgt := 27) hx hb dX8_needsEven_23 (by decide) ?_
    have hf := Option.some.inj hf
    subst hf
    rw [eG0] at hG
    have hG : _ = res := hG
    subst hG
    exact W.zret (v := (1 : Int32)) (ty := .boolean) hx hb hr rfl (fun t ht hW => ⟨⟨(1 : Int32), (), rfl, rfl, by rw [ht]; exact hP, hD⟩, hS.F ht⟩) hS.2.2 dX8_needsEven_27
theorem dX8_mayAsk_0 : decode cX8_mayAsk 0 = .ok (.iload_n 1, 1) := by decide +kernel
theorem dX8_mayAsk_1 : decode cX8_mayAsk 1 = .ok (.iconst 0, 1) := by decide +kernel
theorem dX8_mayAsk_2 : decode cX8_mayAsk 2 = .ok (.bipush 16, 2) := by decide +kernel
theorem dX8_mayAsk_4 : decode cX8_mayAsk 4 = .ok (.invokestatic 90, 3) := by decide +kernel
theorem dX8_mayAsk_7 : decode cX8_mayAsk 7 = .ok (.ifCond .eq 71, 3) := by decide +kernel
theorem dX8_mayAsk_10 : decode cX8_mayAsk 10 = .ok (.aload_n 0, 1) := by decide +kernel
theorem dX8_mayAsk_11 : decode cX8_mayAsk 11 = .ok (.getfield 19, 3) := by decide +kernel
theorem dX8_mayAsk_14 : decode cX8_mayAsk 14 = .ok (.iconst 0, 1) := by decide +kernel
theorem dX8_mayAsk_15 : decode cX8_mayAsk 15 = .ok (.iaload, 1) := by decide +kernel
theorem dX8_mayAsk_16 : decode cX8_mayAsk 16 = .ok (.aload_n 0, 1) := by decide +kernel
theorem dX8_mayAsk_17 : decode cX8_mayAsk 17 = .ok (.getfield 19, 3) := by decide +kernel
theorem dX8_mayAsk_20 : decode cX8_mayAsk 20 = .ok (.iconst 1, 1) := by decide +kernel
theorem dX8_mayAsk_21 : decode cX8_mayAsk 21 = .ok (.iaload, 1) := by decide +kernel
theorem dX8_mayAsk_22 : decode cX8_mayAsk 22 = .ok (.if_icmp .ne 56, 3) := by decide +kernel
theorem dX8_mayAsk_25 : decode cX8_mayAsk 25 = .ok (.aload_n 0, 1) := by decide +kernel
theorem dX8_mayAsk_26 : decode cX8_mayAsk 26 = .ok (.getfield 19, 3) := by decide +kernel
theorem dX8_mayAsk_29 : decode cX8_mayAsk 29 = .ok (.iconst 2, 1) := by decide +kernel
theorem dX8_mayAsk_30 : decode cX8_mayAsk 30 = .ok (.iaload, 1) := by decide +kernel
theorem dX8_mayAsk_31 : decode cX8_mayAsk 31 = .ok (.iconst 1, 1) := by decide +kernel
theorem dX8_mayAsk_32 : decode cX8_mayAsk 32 = .ok (.if_icmp .ne 7, 3) := by decide +kernel
theorem dX8_mayAsk_35 : decode cX8_mayAsk 35 = .ok (.iconst 1, 1) := by decide +kernel
theorem dX8_mayAsk_36 : decode cX8_mayAsk 36 = .ok (.goto 4, 3) := by decide +kernel
theorem dX8_mayAsk_39 : decode cX8_mayAsk 39 = .ok (.iconst 0, 1) := by decide +kernel
theorem dX8_mayAsk_40 : decode cX8_mayAsk 40 = .ok (.iload_n 1, 1) := by decide +kernel
theorem dX8_mayAsk_41 : decode cX8_mayAsk 41 = .ok (.bipush 12, 2) := by decide +kernel
theorem dX8_mayAsk_43 : decode cX8_mayAsk 43 = .ok (.if_icmp .lt 7, 3) := by decide +kernel
theorem dX8_mayAsk_46 : decode cX8_mayAsk 46 = .ok (.iconst 1, 1) := by decide +kernel
theorem dX8_mayAsk_47 : decode cX8_mayAsk 47 = .ok (.goto 4, 3) := by decide +kernel
theorem dX8_mayAsk_50 : decode cX8_mayAsk 50 = .ok (.iconst 0, 1) := by decide +kernel
theorem dX8_mayAsk_51 : decode cX8_mayAsk 51 = .ok (.if_icmp .ne 27, 3) := by decide +kernel
theorem dX8_mayAsk_54 : decode cX8_mayAsk 54 = .ok (.aload_n 0, 1) := by decide +kernel
theorem dX8_mayAsk_55 : decode cX8_mayAsk 55 = .ok (.iload_n 1, 1) := by decide +kernel
theorem dX8_mayAsk_56 : decode cX8_mayAsk 56 = .ok (.invokevirtual 263, 3) := by decide +kernel
theorem dX8_mayAsk_59 : decode cX8_mayAsk 59 = .ok (.ifCond .eq 15, 3) := by decide +kernel
theorem dX8_mayAsk_62 : decode cX8_mayAsk 62 = .ok (.aload_n 0, 1) := by decide +kernel
theorem dX8_mayAsk_63 : decode cX8_mayAsk 63 = .ok (.getfield 19, 3) := by decide +kernel
theorem dX8_mayAsk_66 : decode cX8_mayAsk 66 = .ok (.iconst 0, 1) := by decide +kernel
theorem dX8_mayAsk_67 : decode cX8_mayAsk 67 = .ok (.iaload, 1) := by decide +kernel
theorem dX8_mayAsk_68 : decode cX8_mayAsk 68 = .ok (.iconst 2, 1) := by decide +kernel
theorem dX8_mayAsk_69 : decode cX8_mayAsk 69 = .ok (.irem, 1) := by decide +kernel
theorem dX8_mayAsk_70 : decode cX8_mayAsk 70 = .ok (.iconst 1, 1) := by decide +kernel
theorem dX8_mayAsk_71 : decode cX8_mayAsk 71 = .ok (.if_icmp .eq 7, 3) := by decide +kernel
theorem dX8_mayAsk_74 : decode cX8_mayAsk 74 = .ok (.iconst 1, 1) := by decide +kernel
theorem dX8_mayAsk_75 : decode cX8_mayAsk 75 = .ok (.goto 4, 3) := by decide +kernel
theorem dX8_mayAsk_78 : decode cX8_mayAsk 78 = .ok (.iconst 0, 1) := by decide +kernel
theorem dX8_mayAsk_79 : decode cX8_mayAsk 79 = .ok (.ireturn, 1) := by decide +kernel
def fX8_mayAsk_74 : Option (Int32) :=
  some (1 : Int32)
def fX8_mayAsk_51 (o_all_r : Nat → Int32) (o_halves_r : Nat → Int32) (p1 : Int32) (s0 : Int32) (s1 : Int32) : Option (Int32) :=
  if s1 = s0 then Option.bind (fX8_needsEven o_halves_r p1) fun q56 => if q56 = 0 then fX8_mayAsk_74 else if (ds_rem (o_all_r (0 : Int32).toNatClampNeg) (2 : Int32)) = (1 : Int32) then some (0 : Int32) else fX8_mayAsk_74 else some (0 : Int32)
def fX8_mayAsk_40 (o_all_r : Nat → Int32) (o_halves_r : Nat → Int32) (p1 : Int32) (s0 : Int32) : Option (Int32) :=
  if p1 < (12 : Int32) then fX8_mayAsk_51 o_all_r o_halves_r p1 (0 : Int32) s0 else fX8_mayAsk_51 o_all_r o_halves_r p1 (1 : Int32) s0
def fX8_mayAsk (o_all_r : Nat → Int32) (o_halves_r : Nat → Int32) (p1 : Int32) : Option (Int32) :=
  Option.bind (fX8_in p1 (0 : Int32) (16 : Int32)) fun q4 => if q4 = 0 then some (0 : Int32) else if (o_all_r (0 : Int32).toNatClampNeg) = (o_all_r (1 : Int32).toNatClampNeg) then if (o_all_r (2 : Int32).toNatClampNeg) = (1 : Int32) then fX8_mayAsk_40 o_all_r o_halves_r p1 (1 : Int32) else fX8_mayAsk_40 o_all_r o_halves_r p1 (0 : Int32) else some (0 : Int32)
set_option maxHeartbeats 4000000 in
set_option maxRecDepth 100000 in
theorem c_X8_mayAsk (l : Launch) (dC : Nat → ClassId) (dI : Nat → Nat → Nat) (ca : Nat → ClassId) (sa : Nat → Nat) (h_o : Nat) (h_o_plans : Nat) (h_o_makers : Nat) (h_o_halves : Nat) (h_o_all : Nat) (h_o_text : Nat) (h_o_saved : Nat) (h_o_undone : Nat) (h_o_told : Nat) (h_o_shift : Nat) (h_o_rootOf : Nat) (h_o_becomes : Nat) (h_o_comes : Nat) (h_o_next : Nat) (sz : Nat) (o_raised : Int32) (o_undos : Int32) (o_reached : Int32) (o_length : Int32) (o_begin : Int32) (o_letters : Int32) (o_sort : Int32) (o_word : Int64) (o_wrongAt : Int32) (o_badAt : Int32) (o_bad : Int32) (o_firstX : Int32) (o_firstY : Int32) (o_secondX : Int32) (o_secondY : Int32) (o_x : Int32) (o_all_r : Nat → Int32) (o_halves_r : Nat → Int32) (p1 : Int32) (res : Int32) (hf : fX8_mayAsk o_all_r o_halves_r p1 = some res) : Met l yX8_mayAsk (Cond.code yX8_mayAsk cX8_mayAsk 2 (some .boolean) :: ds_gw) { frames := 1, cells := 0, slots := 0, locals := 22 } (va_Pc [.ref h_o, .int p1] (ds_Pre dC dI ca sa [(h_o, .inr (7, [.ref h_o_plans, .ref h_o_makers, .ref h_o_halves, .int o_raised, .ref h_o_all, .ref h_o_text, .ref h_o_saved, .ref h_o_undone, .int o_undos, .int o_reached, .int o_length, .int o_begin, .int o_letters, .int o_sort, .long o_word, .int o_wrongAt, .int o_badAt, .int o_bad, .ref h_o_told, .ref h_o_shift, .int o_firstX, .int o_firstY, .int o_secondX, .int o_secondY, .ref h_o_rootOf, .ref h_o_becomes, .ref h_o_comes, .ref h_o_next, .int o_x])), (h_o_all, .inl (ca 0, 350, .inl o_all_r)), (h_o_halves, .inl (ca 0, 34, .inl o_halves_r))] sz)) (va_Qi (fun r (_ : Unit) => r = res) (ds_B dC dI (va_A [(h_o, .inr (7, [.ref h_o_plans, .ref h_o_makers, .ref h_o_halves, .int o_raised, .ref h_o_all, .ref h_o_text, .ref h_o_saved, .ref h_o_undone, .int o_undos, .int o_reached, .int o_length, .int o_begin, .int o_letters, .int o_sort, .long o_word, .int o_wrongAt, .int o_badAt, .int o_bad, .ref h_o_told, .ref h_o_shift, .int o_firstX, .int o_firstY, .int o_secondX, .int o_secondY, .ref h_o_rootOf, .ref h_o_becomes, .ref h_o_comes, .ref h_o_next, .int o_x])), (h_o_all, .inl (ca 0, 350, .inl o_all_r)), (h_o_halves, .inl (ca 0, 34, .inl o_halves_r))] sz) [(h_o, .inr (7, [.ref h_o_plans, .ref h_o_makers, .ref h_o_halves, .int o_raised, .ref h_o_all, .ref h_o_text, .ref h_o_saved, .ref h_o_undone, .int o_undos, .int o_reached, .int o_length, .int o_begin, .int o_letters, .int o_sort, .long o_word, .int o_wrongAt, .int o_badAt, .int o_bad, .ref h_o_told, .ref h_o_shift, .int o_firstX, .int o_firstY, .int o_secondX, .int o_secondY, .ref h_o_rootOf, .ref h_o_becomes, .ref h_o_comes, .ref h_o_next, .int o_x])), (h_o_all, .inl (ca 0, 350, .inl o_all_r)), (h_o_halves, .inl (ca 0, 34, .inl o_halves_r))]) (va_A [(h_o, .inr (7, [.ref h_o_plans, .ref h_o_makers, .ref h_o_halves, .int o_raised, .ref h_o_all, .ref h_o_text, .ref h_o_saved, .ref h_o_undone, .int o_undos, .int o_reached, .int o_length, .int o_begin, .int o_letters, .int o_sort, .long o_word, .int o_wrongAt, .int o_badAt, .int o_bad, .ref h_o_told, .ref h_o_shift, .int o_firstX, .int o_firstY, .int o_secondX, .int o_secondY, .ref h_o_rootOf, .ref h_o_becomes, .ref h_o_comes, .ref h_o_next, .int o_x])), (h_o_all, .inl (ca 0, 350, .inl o_all_r)), (h_o_halves, .inl (ca 0, 34, .inl o_halves_r))] sz)) 0 0 (va_A [(h_o, .inr (7, [.ref h_o_plans, .ref h_o_makers, .ref h_o_halves, .int o_raised, .ref h_o_all, .ref h_o_text, .ref h_o_saved, .ref h_o_undone, .int o_undos, .int o_reached, .int o_length, .int o_begin, .int o_letters, .int o_sort, .long o_word, .int o_wrongAt, .int o_badAt, .int o_bad, .ref h_o_told, .ref h_o_shift, .int o_firstX, .int o_firstY, .int o_secondX, .int o_secondY, .ref h_o_rootOf, .ref h_o_becomes, .ref h_o_comes, .ref h_o_next, .int o_x])), (h_o_all, .inl (ca 0, 350, .inl o_all_r)), (h_o_halves, .inl (ca 0, 34, .inl o_halves_r))] sz) := by
  refine Met.ofW (cc := cX8_mayAsk) (maxL := 2) (ret := (some .boolean)) (by decide) rfl ?_
  intro p e s m args below meth c s₁ B hml hv
  obtain ⟨rfl, hsz, hP, hK, hD0, hE⟩ := hv
  have hx := B.exec
  have hb := B.bytes
  have hr := B.returns
  have hts := atoms_spec (ws := Cond.code yX8_mayAsk cX8_mayAsk 2 (some .boolean) :: ds_gw) B.pre
  have hg : ∀ {w : Cond}, w ∈ ds_gw → w.before _ s = true := fun h => hts _ (List.mem_cons_of_mem _ h)
  have hown : s.vm.findClass RX8 = some m.cls := findClass_of_methodNamed B.named
  have hlocks := B.notSynchronized
  subst hsz
  have hD := hD0.self (sz := s.heap.size)
  generalize hAe : va_A [(h_o, .inr (7, [.ref h_o_plans, .ref h_o_makers, .ref h_o_halves, .int o_raised, .ref h_o_all, .ref h_o_text, .ref h_o_saved, .ref h_o_undone, .int o_undos, .int o_reached, .int o_length, .int o_begin, .int o_letters, .int o_sort, .long o_word, .int o_wrongAt, .int o_badAt, .int o_bad, .ref h_o_told, .ref h_o_shift, .int o_firstX, .int o_firstY, .int o_secondX, .int o_secondY, .ref h_o_rootOf, .ref h_o_becomes, .ref h_o_comes, .ref h_o_next, .int o_x])), (h_o_all, .inl (ca 0, 350, .inl o_all_r)), (h_o_halves, .inl (ca 0, 34, .inl o_halves_r))] s.heap.size = A at hD hE ⊢
  have hA : ∀ q : Nat, s.heap.size ≤ q → A q := fun q h => by rw [← hAe]; exact Or.inr h
  have hS : va_S A s.heap s.heap [] := va_S.rf
  have hl := lv_entry ([.ref h_o, .int p1]) (n := 2) (Nat.le_of_ble_eq_true rfl)
  rw [lg_entry_eq]
  generalize (lg_sl ([.ref h_o, .int p1]) ++ List.replicate (2 - (lg_sl ([.ref h_o, .int p1])).length) Slot.unset).toArray = ls at hl ⊢
  have hl : lv_has ls 2 [(0, .ref h_o), (1, .int p1)] := hl
  obtain ⟨G0, eG0⟩ : ∃ G : Int32 → Prop, G = (fun r => r = res) := ⟨_, rfl⟩
  obtain ⟨rr, hrr⟩ : ∃ z, z = res := ⟨_, rfl⟩
  rw [← hrr] at hf
  have hG : G0 rr := by subst eG0; exact hrr
  refine ds_cap (fun WW h1 h2 => ?_)
  have J_74 : ∀ (rr : Int32) (hf : fX8_mayAsk_74 = some rr) (hG : G0 rr) (H : Heap) (locs : List Loc) (hP : va_P (dC, dI) vwCl [(h_o, .inr (7, [.ref h_o_plans, .ref h_o_makers, .ref h_o_halves, .int o_raised, .ref h_o_all, .ref h_o_text, .ref h_o_saved, .ref h_o_undone, .int o_undos, .int o_reached, .int o_length, .int o_begin, .int o_letters, .int o_sort, .long o_word, .int o_wrongAt, .int o_badAt, .int o_bad, .ref h_o_told, .ref h_o_shift, .int o_firstX, .int o_firstY, .int o_secondX, .int o_secondY, .ref h_o_rootOf, .ref h_o_becomes, .ref h_o_comes, .ref h_o_next, .int o_x])), (h_o_all, .inl (ca 0, 350, .inl o_all_r)), (h_o_halves, .inl (ca 0, 34, .inl o_halves_r))] H) (hD : va_D A [(h_o, .inr (7, [.ref h_o_plans, .ref h_o_makers, .ref h_o_halves, .int o_raised, .ref h_o_all, .ref h_o_text, .ref h_o_saved, .ref h_o_undone, .int o_undos, .int o_reached, .int o_length, .int o_begin, .int o_letters, .int o_sort, .long o_word, .int o_wrongAt, .int o_badAt, .int o_bad, .ref h_o_told, .ref h_o_shift, .int o_firstX, .int o_firstY, .int o_secondX, .int o_secondY, .ref h_o_rootOf, .ref h_o_becomes, .ref h_o_comes, .ref h_o_next, .int o_x])), (h_o_all, .inl (ca 0, 350, .inl o_all_r)), (h_o_halves, .inl (ca 0, 34, .inl o_halves_r))]) (hS : va_S A s.heap H locs) (ls : Array Slot) (hl : lv_has ls 2 []), WW H locs (F0 m 74 ls []) := by
    intro  rr hf hG H locs hP hD hS ls hl
    refine h2 ?_
    unfold fX8_mayAsk_74 at hf
    refine lv_iconst (v := 1) hx hb dX8_mayAsk_74 (by decide) ?_
    refine lv_goto (tgt := 79) hx hb dX8_mayAsk_75 (by decide) ?_
    have hf := Option.some.inj hf
    subst hf
    rw [eG0] at hG
    have hG : _ = res := hG
    subst hG
    exact W.zret (v := (1 : Int32)) (ty := .boolean) hx hb hr rfl (fun t ht hW => ⟨⟨(1 : Int32), (), rfl, rfl, by rw [ht]; exact hP, hD⟩, hS.F ht⟩) hS.2.2 dX8_mayAsk_79
  have J_51 : ∀ (s0 : Int32) (s1 : Int32) (rr : Int32) (hf : fX8_mayAsk_51 o_all_r o_halves_r p1 s0 s1 = some rr) (hG : G0 rr) (H : Heap) (locs : List Loc) (hP : va_P (dC, dI) vwCl [(h_o, .inr (7, [.ref h_o_plans, .ref h_o_makers, .ref h_o_halves, .int o_raised, .ref h_o_all, .ref h_o_text, .ref h_o_saved, .ref h_o_undone, .int o_undos, .int o_reached, .int o_length, .int o_begin, .int o_letters, .int o_sort, .long o_word, .int o_wrongAt, .int o_badAt, .int o_bad, .ref h_o_told, .ref h_o_shift, .int o_firstX, .int o_firstY, .int o_secondX, .int o_secondY, .ref h_o_rootOf, .ref h_o_becomes, .ref h_o_comes, .ref h_o_next, .int o_x])), (h_o_all, .inl (ca 0, 350, .inl o_all_r)), (h_o_halves, .inl (ca 0, 34, .inl o_halves_r))] H) (hD : va_D A [(h_o, .inr (7, [.ref h_o_plans, .ref h_o_makers, .ref h_o_halves, .int o_raised, .ref h_o_all, .ref h_o_text, .ref h_o_saved, .ref h_o_undone, .int o_undos, .int o_reached, .int o_length, .int o_begin, .int o_letters, .int o_sort, .long o_word, .int o_wrongAt, .int o_badAt, .int o_bad, .ref h_o_told, .ref h_o_shift, .int o_firstX, .int o_firstY, .int o_secondX, .int o_secondY, .ref h_o_rootOf, .ref h_o_becomes, .ref h_o_comes, .ref h_o_next, .int o_x])), (h_o_all, .inl (ca 0, 350, .inl o_all_r)), (h_o_halves, .inl (ca 0, 34, .inl o_halves_r))]) (hS : va_S A s.heap H locs) (ls : Array Slot) (hl : lv_has ls 2 [(0, .ref h_o), (1, .int p1)]), WW H locs (F0 m 51 ls [.int s0, .int s1]) := by
    intro s0 s1 rr hf hG H locs hP hD hS ls hl
    refine h2 ?_
    unfold fX8_mayAsk_51 at hf
    refine lv_icmp_ne (tgt := 78) hx hb dX8_mayAsk_51 (by decide) (fun c_51 => ?_) (fun c_51 => ?_)
    · replace hf := ds_f c_51 hf
      refine lv_iconst (v := 0) hx hb dX8_mayAsk_78 (by decide) ?_
      have hf := Option.some.inj hf
      subst hf
      rw [eG0] at hG
      have hG : _ = res := hG
      subst hG
      exact W.zret (v := (0 : Int32)) (ty := .boolean) hx hb hr rfl (fun t ht hW => ⟨⟨(0 : Int32), (), rfl, rfl, by rw [ht]; exact hP, hD⟩, hS.F ht⟩) hS.2.2 dX8_mayAsk_79
    · replace hf := ds_t c_51 hf
      refine lv_aload_n hx hb dX8_mayAsk_54 rfl (lv_at hl 0 rfl) ?_
      refine lv_iload_n hx hb dX8_mayAsk_55 rfl (lv_at hl 1 rfl) ?_
      obtain ⟨q56, hq56, hf⟩ := ds_ob hf
      refine ds_calli (wr := [(h_o_all, .inl (ca 0, 350, .inl o_all_r))]) (va_runV (As := [.int p1]) (rest := []) ⟨hx, hb, hml, hown, hts⟩ (c_X8_needsEven l dC dI ca sa h_o h_o_plans h_o_makers h_o_halves h_o_all h_o_text h_o_saved h_o_undone h_o_told h_o_shift h_o_rootOf h_o_becomes h_o_comes h_o_next H.size o_raised o_undos o_reached o_length o_begin o_letters o_sort o_word o_wrongAt o_badAt o_bad o_firstX o_firstY o_secondX o_secondY o_x o_halves_r p1 q56 hq56) (cwV 1 hts (ds_gV kw_815 kw_816 kw_817 kw_597 kw_818) rfl rfl rfl (by decide +kernel) ⟨Nat.le_of_ble_eq_true rfl, Nat.le_of_ble_eq_true rfl⟩) ⟨ds_blind, va_recv hK hP (ci := 7) (q0 := 0) rfl rfl, ds_at hP hD hK hE hS hA [0, 2] rfl rfl _⟩ rfl rfl hl.1 rfl (lv_room (Nat.le_of_ble_eq_true rfl)) dX8_mayAsk_56 ⟨Nat.zero_le _, Nat.zero_le _⟩) hP hD hS hA [0, 2] [1] rfl rfl rfl (by decide) (fun H locs hP hD hS => ?_)
      have hP : va_P (dC, dI) vwCl [(h_o_all, .inl (ca 0, 350, .inl o_all_r)), (h_o, .inr (7, [.ref h_o_plans, .ref h_o_makers, .ref h_o_halves, .int o_raised, .ref h_o_all, .ref h_o_text, .ref h_o_saved, .ref h_o_undone, .int o_undos, .int o_reached, .int o_length, .int o_begin, .int o_letters, .int o_sort, .long o_word, .int o_wrongAt, .int o_badAt, .int o_bad, .ref h_o_told, .ref h_o_shift, .int o_firstX, .int o_firstY, .int o_secondX, .int o_secondY, .ref h_o_rootOf, .ref h_o_becomes, .ref h_o_comes, .ref h_o_next, .int o_x])), (h_o_halves, .inl (ca 0, 34, .inl o_halves_r))] H := hP
      have hD : va_D A [(h_o_all, .inl (ca 0, 350, .inl o_all_r)), (h_o, .inr (7, [.ref h_o_plans, .ref h_o_makers, .ref h_o_halves, .int o_raised, .ref h_o_all, .ref h_o_text, .ref h_o_saved, .ref h_o_undone, .int o_undos, .int o_reached, .int o_length, .int o_begin, .int o_letters, .int o_sort, .long o_word, .int o_wrongAt, .int o_badAt, .int o_bad, .ref h_o_told, .ref h_o_shift, .int o_firstX, .int o_firstY, .int o_secondX, .int o_secondY, .ref h_o_rootOf, .ref h_o_becomes, .ref h_o_comes, .ref h_o_next, .int o_x])), (h_o_halves, .inl (ca 0, 34, .inl o_halves_r))] := hD
      refine lv_if_eq (tgt := 74) hx hb dX8_mayAsk_59 (by decide) (fun c_59 => ?_) (fun c_59 => ?_)
      · replace hf := ds_t c_59 hf
        exact h1 (J_74  _ hf hG _ _ (hP.sub [1, 0, 2] rfl) (hD.sub [1, 0, 2] rfl rfl) hS _ (lv_sub hl [] rfl))
      · replace hf := ds_f c_59 hf
        refine lv_aload_n hx hb dX8_mayAsk_62 rfl (lv_at hl 0 rfl) ?_
        refine va_get (D := (dC, dI)) (ci := 7) (v := .ref h_o_all) (C := RX8) (T := TX8) (N := 29) hx hb hts (fun w h => List.mem_cons_of_mem _ (kc_X8 w h)) hown hK hP 1 rfl rfl 4 (by decide) (hg kw_594) (fun _ h9 => h9) rfl dX8_mayAsk_63 ?_
        refine lv_iconst (v := 0) hx hb dX8_mayAsk_66 (by decide) ?_
        refine va_iald hx hb hK hP 0 0 rfl rfl (ds_in_ok (i := 0) (n := 350) (by decide)) dX8_mayAsk_67 ?_
        refine lv_iconst (v := 2) hx hb dX8_mayAsk_68 (by decide) ?_
        refine lv_irem hx hb dX8_mayAsk_69 (by decide) ?_
        refine lv_iconst (v := 1) hx hb dX8_mayAsk_70 (by decide) ?_
        refine lv_icmp_eq (tgt := 78) hx hb dX8_mayAsk_71 (by decide) (fun c_71 => ?_) (fun c_71 => ?_)
        · replace hf := ds_t c_71 hf
          refine lv_iconst (v := 0) hx hb dX8_mayAsk_78 (by decide) ?_
          have hf := Option.some.inj hf
          subst hf
          rw [eG0] at hG
          have hG : _ = res := hG
          subst hG
          exact W.zret (v := (0 : Int32)) (ty := .boolean) hx hb hr rfl (fun t ht hW => ⟨⟨(0 : Int32), (), rfl, rfl, by rw [ht]; exact (hP.sub [1, 0, 2] rfl), (hD.sub [1, 0, 2] rfl rfl)⟩, hS.F ht⟩) hS.2.2 dX8_mayAsk_79
        · replace hf := ds_f c_71 hf
          exact h1 (J_74  _ hf hG _ _ (hP.sub [1, 0, 2] rfl) (hD.sub [1, 0, 2] rfl rfl) hS _ (lv_sub hl [] rfl))
  have J_40 : ∀ (s0 : Int32) (rr : Int32) (hf : fX8_mayAsk_40 o_all_r o_halves_r p1 s0 = some rr) (hG : G0 rr) (H : Heap) (locs : List Loc) (hP : va_P (dC, dI) vwCl [(h_o, .inr (7, [.ref h_o_plans, .ref h_o_makers, .ref h_o_halves, .int o_raised, .ref h_o_all, .ref h_o_text, .ref h_o_saved, .ref h_o_undone, .int o_undos, .int o_reached, .int o_length, .int o_begin, .int o_letters, .int o_sort, .long o_word, .int o_wrongAt, .int o_badAt, .int o_bad, .ref h_o_told, .ref h_o_shift, .int o_firstX, .int o_firstY, .int o_secondX, .int o_secondY, .ref h_o_rootOf, .ref h_o_becomes, .ref h_o_comes, .ref h_o_next, .int o_x])), (h_o_all, .inl (ca 0, 350, .inl o_all_r)), (h_o_halves, .inl (ca 0, 34, .inl o_halves_r))] H) (hD : va_D A [(h_o, .inr (7, [.ref h_o_plans, .ref h_o_makers, .ref h_o_halves, .int o_raised, .ref h_o_all, .ref h_o_text, .ref h_o_saved, .ref h_o_undone, .int o_undos, .int o_reached, .int o_length, .int o_begin, .int o_letters, .int o_sort, .long o_word, .int o_wrongAt, .int o_badAt, .int o_bad, .ref h_o_told, .ref h_o_shift, .int o_firstX, .int o_firstY, .int o_secondX, .int o_secondY, .ref h_o_rootOf, .ref h_o_becomes, .ref h_o_comes, .ref h_o_next, .int o_x])), (h_o_all, .inl (ca 0, 350, .inl o_all_r)), (h_o_halves, .inl (ca 0, 34, .inl o_halves_r))]) (hS : va_S A s.heap H locs) (ls : Array Slot) (hl : lv_has ls 2 [(0, .ref h_o), (1, .int p1)]), WW H locs (F0 m 40 ls [.int s0]) := by
    intro s0 rr hf hG H locs hP hD hS ls hl
    refine h2 ?_
    unfold fX8_mayAsk_40 at hf
    refine lv_iload_n hx hb dX8_mayAsk_40 rfl (lv_at hl 1 rfl) ?_
    refine lv_bipush (v := 12) hx hb dX8_mayAsk_41 (by decide) ?_
    refine lv_icmp_lt (tgt := 50) hx hb dX8_mayAsk_43 (by decide) (fun c_43 => ?_) (fun c_43 => ?_)
    · replace hf := ds_t c_43 hf
      refine lv_iconst (v := 0) hx hb dX8_mayAsk_50 (by decide) ?_
      exact h1 (J_51 (0 : Int32) s0 _ hf hG _ _ hP hD hS _ (lv_sub hl [0, 1] rfl))
    · replace hf := ds_f c_43 hf
      refine lv_iconst (v := 1) hx hb dX8_mayAsk_46 (by decide) ?_
      refine lv_goto (tgt := 51) hx hb dX8_mayAsk_47 (by decide) ?_
      exact h1 (J_51 (1 : Int32) s0 _ hf hG _ _ hP hD hS _ (lv_sub hl [0, 1] rfl))
  unfold fX8_mayAsk at hf
  refine lv_iload_n hx hb dX8_mayAsk_0 rfl (lv_at hl 1 rfl) ?_
  refine lv_iconst (v := 0) hx hb dX8_mayAsk_1 (by decide) ?_
  refine lv_bipush (v := 16) hx hb dX8_mayAsk_2 (by decide) ?_
  obtain ⟨q4, hq4, hf⟩ := ds_ob hf
  refine ds_calli (wr := [(h_o, .inr (7, [.ref h_o_plans, .ref h_o_makers, .ref h_o_halves, .int o_raised, .ref h_o_all, .ref h_o_text, .ref h_o_saved, .ref h_o_undone, .int o_undos, .int o_reached, .int o_length, .int o_begin, .int o_letters, .int o_sort, .long o_word, .int o_wrongAt, .int o_badAt, .int o_bad, .ref h_o_told, .ref h_o_shift, .int o_firstX, .int o_firstY, .int o_secondX, .int o_secondY, .ref h_o_rootOf, .ref h_o_becomes, .ref h_o_comes, .ref h_o_next, .int o_x])), (h_o_all, .inl (ca 0, 350, .inl o_all_r)), (h_o_halves, .inl (ca 0, 34, .inl o_halves_r))]) (va_runS (As := [.int p1, .int (0 : Int32), .int (16 : Int32)]) (rest := []) ⟨hx, hb, hml, hown, hts⟩ (c_X8_in l dC dI ca sa  s.heap.size  p1 (0 : Int32) (16 : Int32) q4 hq4) (va_cwS 3 hts (ds_gS kw_619 kw_620 kw_597 kw_621) rfl rfl rfl (by decide +kernel) ⟨Nat.le_of_ble_eq_true rfl, Nat.le_of_ble_eq_true rfl⟩) ⟨ds_blind, ds_at hP hD hK hE hS hA [] rfl rfl _⟩ rfl rfl hl.1 rfl (lv_room (Nat.le_of_ble_eq_true rfl)) dX8_mayAsk_4 ⟨Nat.zero_le _, Nat.zero_le _⟩) hP hD hS hA [] [0, 1, 2] rfl rfl rfl (by decide) (fun H locs hP hD hS => ?_)
  have hP : va_P (dC, dI) vwCl [(h_o, .inr (7, [.ref h_o_plans, .ref h_o_makers, .ref h_o_halves, .int o_raised, .ref h_o_all, .ref h_o_text, .ref h_o_saved, .ref h_o_undone, .int o_undos, .int o_reached, .int o_length, .int o_begin, .int o_letters, .int o_sort, .long o_word, .int o_wrongAt, .int o_badAt, .int o_bad, .ref h_o_told, .ref h_o_shift, .int o_firstX, .int o_firstY, .int o_secondX, .int o_secondY, .ref h_o_rootOf, .ref h_o_becomes, .ref h_o_comes, .ref h_o_next, .int o_x])), (h_o_all, .inl (ca 0, 350, .inl o_all_r)), (h_o_halves, .inl (ca 0, 34, .inl o_halves_r))] H := hP
  have hD : va_D A [(h_o, .inr (7, [.ref h_o_plans, .ref h_o_makers, .ref h_o_halves, .int o_raised, .ref h_o_all, .ref h_o_text, .ref h_o_saved, .ref h_o_undone, .int o_undos, .int o_reached, .int o_length, .int o_begin, .int o_letters, .int o_sort, .long o_word, .int o_wrongAt, .int o_badAt, .int o_bad, .ref h_o_told, .ref h_o_shift, .int o_firstX, .int o_firstY, .int o_secondX, .int o_secondY, .ref h_o_rootOf, .ref h_o_becomes, .ref h_o_comes, .ref h_o_next, .int o_x])), (h_o_all, .inl (ca 0, 350, .inl o_all_r)), (h_o_halves, .inl (ca 0, 34, .inl o_halves_r))] := hD
  refine lv_if_eq (tgt := 78) hx hb dX8_mayAsk_7 (by decide) (fun c_7 => ?_) (fun c_7 => ?_)
  · replace hf := ds_t c_7 hf
    refine lv_iconst (v := 0) hx hb dX8_mayAsk_78 (by decide) ?_
    have hf := Option.some.inj hf
    subst hf
    rw [eG0] at hG
    have hG : _ = res := hG
    subst hG
    exact W.zret (v := (0 : Int32)) (ty := .boolean) hx hb hr rfl (fun t ht hW => ⟨⟨(0 : Int32), (), rfl, rfl, by rw [ht]; exact hP, hD⟩, hS.F ht⟩) hS.2.2 dX8_mayAsk_79
  · replace hf := ds_f c_7 hf
    refine lv_aload_n hx hb dX8_mayAsk_10 rfl (lv_at hl 0 rfl) ?_
    refine va_get (D := (dC, dI)) (ci := 7) (v := .ref h_o_all) (C := RX8) (T := TX8) (N := 29) hx hb hts (fun w h => List.mem_cons_of_mem _ (kc_X8 w h)) hown hK hP 0 rfl rfl 4 (by decide) (hg kw_594) (fun _ h9 => h9) rfl dX8_mayAsk_11 ?_
    refine lv_iconst (v := 0) hx hb dX8_mayAsk_14 (by decide) ?_
    refine va_iald hx hb hK hP 1 0 rfl rfl (ds_in_ok (i := 0) (n := 350) (by decide)) dX8_mayAsk_15 ?_
    refine lv_aload_n hx hb dX8_mayAsk_16 rfl (lv_at hl 0 rfl) ?_
    refine va_get (D := (dC, dI)) (ci := 7) (v := .ref h_o_all) (C := RX8) (T := TX8) (N := 29) hx hb hts (fun w h => List.mem_cons_of_mem _ (kc_X8 w h)) hown hK hP 0 rfl rfl 4 (by decide) (hg kw_594) (fun _ h9 => h9) rfl dX8_mayAsk_17 ?_
    refine lv_iconst (v := 1) hx hb dX8_mayAsk_20 (by decide) ?_
    refine va_iald hx hb hK hP 1 0 rfl rfl (ds_in_ok (i := 1) (n := 350) (by decide)) dX8_mayAsk_21 ?_
    refine lv_icmp_ne (tgt := 78) hx hb dX8_mayAsk_22 (by decide) (fun c_22 => ?_) (fun c_22 => ?_)
    · replace hf := ds_f c_22 hf
      refine lv_iconst (v := 0) hx hb dX8_mayAsk_78 (by decide) ?_
      have hf := Option.some.inj hf
      subst hf
      rw [eG0] at hG
      have hG : _ = res := hG
      subst hG
      exact W.zret (v := (0 : Int32)) (ty := .boolean) hx hb hr rfl (fun t ht hW => ⟨⟨(0 : Int32), (), rfl, rfl, by rw [ht]; exact hP, hD⟩, hS.F ht⟩) hS.2.2 dX8_mayAsk_79
    · replace hf := ds_t c_22 hf
      refine lv_aload_n hx hb dX8_mayAsk_25 rfl (lv_at hl 0 rfl) ?_
      refine va_get (D := (dC, dI)) (ci := 7) (v := .ref h_o_all) (C := RX8) (T := TX8) (N := 29) hx hb hts (fun w h => List.mem_cons_of_mem _ (kc_X8 w h)) hown hK hP 0 rfl rfl 4 (by decide) (hg kw_594) (fun _ h9 => h9) rfl dX8_mayAsk_26 ?_
      refine lv_iconst (v := 2) hx hb dX8_mayAsk_29 (by decide) ?_
      refine va_iald hx hb hK hP 1 0 rfl rfl (ds_in_ok (i := 2) (n := 350) (by decide)) dX8_mayAsk_30 ?_
      refine lv_iconst (v := 1) hx hb dX8_mayAsk_31 (by decide) ?_
      refine lv_icmp_ne (tgt := 39) hx hb dX8_mayAsk_32 (by decide) (fun c_32 => ?_) (fun c_32 => ?_)
      · replace hf := ds_f c_32 hf
        refine lv_iconst (v := 0) hx hb dX8_mayAsk_39 (by decide) ?_
        exact h1 (J_40 (0 : Int32) _ hf hG _ _ hP hD hS _ (lv_sub hl [0, 1] rfl))
      · replace hf := ds_t c_32 hf
        refine lv_iconst (v := 1) hx hb dX8_mayAsk_35 (by decide) ?_
        refine lv_goto (tgt := 40) hx hb dX8_mayAsk_36 (by decide) ?_
        exact h1 (J_40 (1 : Int32) _ hf hG _ _ hP hD hS _ (lv_sub hl [0, 1] rfl))
theorem dX8_laysOrbits_0 : decode cX8_laysOrbits 0 = .ok (.aload_n 0, 1) := by decide +kernel
theorem dX8_laysOrbits_1 : decode cX8_laysOrbits 1 = .ok (.invokevirtual 214, 3) := by decide +kernel
theorem dX8_laysOrbits_4 : decode cX8_laysOrbits 4 = .ok (.iconst 2, 1) := by decide +kernel
theorem dX8_laysOrbits_5 : decode cX8_laysOrbits 5 = .ok (.iload_n 1, 1) := by decide +kernel
theorem dX8_laysOrbits_6 : decode cX8_laysOrbits 6 = .ok (.imul, 1) := by decide +kernel
theorem dX8_laysOrbits_7 : decode cX8_laysOrbits 7 = .ok (.istore_n 2, 1) := by decide +kernel
theorem dX8_laysOrbits_8 : decode cX8_laysOrbits 8 = .ok (.iload_n 2, 1) := by decide +kernel
theorem dX8_laysOrbits_9 : decode cX8_laysOrbits 9 = .ok (.iconst 2, 1) := by decide +kernel
theorem dX8_laysOrbits_10 : decode cX8_laysOrbits 10 = .ok (.iload_n 1, 1) := by decide +kernel
theorem dX8_laysOrbits_11 : decode cX8_laysOrbits 11 = .ok (.imul, 1) := by decide +kernel
theorem dX8_laysOrbits_12 : decode cX8_laysOrbits 12 = .ok (.iconst 2, 1) := by decide +kernel
theorem dX8_laysOrbits_13 : decode cX8_laysOrbits 13 = .ok (.iadd, 1) := by decide +kernel
theorem dX8_laysOrbits_14 : decode cX8_laysOrbits 14 = .ok (.if_icmp .ge 58, 3) := by decide +kernel
theorem dX8_laysOrbits_17 : decode cX8_laysOrbits 17 = .ok (.aload_n 0, 1) := by decide +kernel
theorem dX8_laysOrbits_18 : decode cX8_laysOrbits 18 = .ok (.getfield 19, 3) := by decide +kernel
theorem dX8_laysOrbits_21 : decode cX8_laysOrbits 21 = .ok (.iconst 0, 1) := by decide +kernel
theorem dX8_laysOrbits_22 : decode cX8_laysOrbits 22 = .ok (.iaload, 1) := by decide +kernel
theorem dX8_laysOrbits_23 : decode cX8_laysOrbits 23 = .ok (.iconst 2, 1) := by decide +kernel
theorem dX8_laysOrbits_24 : decode cX8_laysOrbits 24 = .ok (.idiv, 1) := by decide +kernel
theorem dX8_laysOrbits_25 : decode cX8_laysOrbits 25 = .ok (.istore_n 3, 1) := by decide +kernel
theorem dX8_laysOrbits_26 : decode cX8_laysOrbits 26 = .ok (.aload_n 0, 1) := by decide +kernel
theorem dX8_laysOrbits_27 : decode cX8_laysOrbits 27 = .ok (.getfield 13, 3) := by decide +kernel
theorem dX8_laysOrbits_30 : decode cX8_laysOrbits 30 = .ok (.iload_n 2, 1) := by decide +kernel
theorem dX8_laysOrbits_31 : decode cX8_laysOrbits 31 = .ok (.iaload, 1) := by decide +kernel
theorem dX8_laysOrbits_32 : decode cX8_laysOrbits 32 = .ok (.iconst (-1), 1) := by decide +kernel
theorem dX8_laysOrbits_33 : decode cX8_laysOrbits 33 = .ok (.if_icmp .eq 33, 3) := by decide +kernel
theorem dX8_laysOrbits_36 : decode cX8_laysOrbits 36 = .ok (.aload_n 0, 1) := by decide +kernel
theorem dX8_laysOrbits_37 : decode cX8_laysOrbits 37 = .ok (.aload_n 0, 1) := by decide +kernel
theorem dX8_laysOrbits_38 : decode cX8_laysOrbits 38 = .ok (.getfield 13, 3) := by decide +kernel
theorem dX8_laysOrbits_41 : decode cX8_laysOrbits 41 = .ok (.iload_n 2, 1) := by decide +kernel
theorem dX8_laysOrbits_42 : decode cX8_laysOrbits 42 = .ok (.iaload, 1) := by decide +kernel
theorem dX8_laysOrbits_43 : decode cX8_laysOrbits 43 = .ok (.aload_n 0, 1) := by decide +kernel
theorem dX8_laysOrbits_44 : decode cX8_laysOrbits 44 = .ok (.getfield 16, 3) := by decide +kernel
theorem dX8_laysOrbits_47 : decode cX8_laysOrbits 47 = .ok (.iload_n 2, 1) := by decide +kernel
theorem dX8_laysOrbits_48 : decode cX8_laysOrbits 48 = .ok (.iaload, 1) := by decide +kernel
theorem dX8_laysOrbits_49 : decode cX8_laysOrbits 49 = .ok (.iconst 1, 1) := by decide +kernel
theorem dX8_laysOrbits_50 : decode cX8_laysOrbits 50 = .ok (.iand, 1) := by decide +kernel
theorem dX8_laysOrbits_51 : decode cX8_laysOrbits 51 = .ok (.iload_n 3, 1) := by decide +kernel
theorem dX8_laysOrbits_52 : decode cX8_laysOrbits 52 = .ok (.imul, 1) := by decide +kernel
theorem dX8_laysOrbits_53 : decode cX8_laysOrbits 53 = .ok (.aload_n 0, 1) := by decide +kernel
theorem dX8_laysOrbits_54 : decode cX8_laysOrbits 54 = .ok (.getfield 16, 3) := by decide +kernel
theorem dX8_laysOrbits_57 : decode cX8_laysOrbits 57 = .ok (.iload_n 2, 1) := by decide +kernel
theorem dX8_laysOrbits_58 : decode cX8_laysOrbits 58 = .ok (.iaload, 1) := by decide +kernel
theorem dX8_laysOrbits_59 : decode cX8_laysOrbits 59 = .ok (.iconst 1, 1) := by decide +kernel
theorem dX8_laysOrbits_60 : decode cX8_laysOrbits 60 = .ok (.ishr, 1) := by decide +kernel
theorem dX8_laysOrbits_61 : decode cX8_laysOrbits 61 = .ok (.iload_n 3, 1) := by decide +kernel
theorem dX8_laysOrbits_62 : decode cX8_laysOrbits 62 = .ok (.imul, 1) := by decide +kernel
theorem dX8_laysOrbits_63 : decode cX8_laysOrbits 63 = .ok (.invokevirtual 217, 3) := by decide +kernel
theorem dX8_laysOrbits_66 : decode cX8_laysOrbits 66 = .ok (.iinc 2 1, 3) := by decide +kernel
theorem dX8_laysOrbits_69 : decode cX8_laysOrbits 69 = .ok (.goto (-61), 3) := by decide +kernel
theorem dX8_laysOrbits_72 : decode cX8_laysOrbits 72 = .ok (.return_, 1) := by decide +kernel
def fX8_laysOrbits_66 (o_rootOf_r : Nat → Int32) (v2 : Int32) : Option ((Int32 × (Nat → Int32)) ⊕ ((Nat → Int32))) :=
  some (.inl ((v2 + 1), o_rootOf_r))
def fX8_laysOrbits_8_b (o_all_r : Nat → Int32) (o_makers_r : Nat → Int32) (o_halves_r : Nat → Int32) (o_plans_r : Nat → Int32) (p1 : Int32) (v2 : Int32) (o_rootOf_r : Nat → Int32) : Option ((Int32 × (Nat → Int32)) ⊕ ((Nat → Int32))) :=
  if (((2 : Int32) * p1) + (2 : Int32)) ≤ v2 then some (.inr o_rootOf_r) else Option.bind (some (((o_all_r (0 : Int32).toNatClampNeg) / (2 : Int32)))) fun x25 => if ds_in v2 34 = true then if (o_makers_r v2.toNatClampNeg) = (-1 : Int32) then fX8_laysOrbits_66 o_rootOf_r v2 else if ds_in v2 34 = true then if ds_in v2 34 = true then if ds_in v2 34 = true then Option.bind (fX8_joinsBy o_all_r o_plans_r o_rootOf_r (o_makers_r v2.toNatClampNeg) (((o_halves_r v2.toNatClampNeg) &&& (1 : Int32)) * x25) (((o_halves_r v2.toNatClampNeg) >>> ((1 : Int32) &&& 31)) * x25)) fun q63 => fX8_laysOrbits_66 q63 v2 else none else none else none else none
def fX8_laysOrbits_8 (o_all_r : Nat → Int32) (o_makers_r : Nat → Int32) (o_halves_r : Nat → Int32) (o_plans_r : Nat → Int32) (p1 : Int32) (v2 : Int32) (o_rootOf_r : Nat → Int32) : Option ((Nat → Int32)) := ds_it (fun s => fX8_laysOrbits_8_b o_all_r o_makers_r o_halves_r o_plans_r p1 s.1 s.2) 1000 (v2, o_rootOf_r)
def fX8_laysOrbits (o_rootOf_r : Nat → Int32) (o_all_r : Nat → Int32) (o_makers_r : Nat → Int32) (o_halves_r : Nat → Int32) (o_plans_r : Nat → Int32) (p1 : Int32) : Option ((Nat → Int32)) :=
  Option.bind (fX8_alone o_rootOf_r) fun q1 => fX8_laysOrbits_8 o_all_r o_makers_r o_halves_r o_plans_r p1 ((2 : Int32) * p1) q1
set_option maxHeartbeats 4000000 in
set_option maxRecDepth 100000 in
theorem c_X8_laysOrbits (l : Launch) (dC : Nat → ClassId) (dI : Nat → Nat → Nat) (ca : Nat → ClassId) (sa : Nat → Nat) (h_o : Nat) (h_o_plans : Nat) (h_o_makers : Nat) (h_o_halves : Nat) (h_o_all : Nat) (h_o_text : Nat) (h_o_saved : Nat) (h_o_undone : Nat) (h_o_told : Nat) (h_o_shift : Nat) (h_o_rootOf : Nat) (h_o_becomes : Nat) (h_o_comes : Nat) (h_o_next : Nat) (sz : Nat) (o_raised : Int32) (o_undos : Int32) (o_reached : Int32) (o_length : Int32) (o_begin : Int32) (o_letters : Int32) (o_sort : Int32) (o_word : Int64) (o_wrongAt : Int32) (o_badAt : Int32) (o_bad : Int32) (o_firstX : Int32) (o_firstY : Int32) (o_secondX : Int32) (o_secondY : Int32) (o_x : Int32) (o_rootOf_r : Nat → Int32) (o_all_r : Nat → Int32) (o_makers_r : Nat → Int32) (o_halves_r : Nat → Int32) (o_plans_r : Nat → Int32) (p1 : Int32) (res : (Nat → Int32)) (hf : fX8_laysOrbits o_rootOf_r o_all_r o_makers_r o_halves_r o_plans_r p1 = some res) : Met l yX8_laysOrbits (Cond.code yX8_laysOrbits cX8_laysOrbits 4 none :: ds_gw) { frames := 3, cells := 0, slots := 0, locals := 71 } (va_Pc [.ref h_o, .int p1] (ds_Pre dC dI ca sa [(h_o, .inr (7, [.ref h_o_plans, .ref h_o_makers, .ref h_o_halves, .int o_raised, .ref h_o_all, .ref h_o_text, .ref h_o_saved, .ref h_o_undone, .int o_undos, .int o_reached, .int o_length, .int o_begin, .int o_letters, .int o_sort, .long o_word, .int o_wrongAt, .int o_badAt, .int o_bad, .ref h_o_told, .ref h_o_shift, .int o_firstX, .int o_firstY, .int o_secondX, .int o_secondY, .ref h_o_rootOf, .ref h_o_becomes, .ref h_o_comes, .ref h_o_next, .int o_x])), (h_o_rootOf, .inl (ca 0, 64, .inl o_rootOf_r)), (h_o_all, .inl (ca 0, 350, .inl o_all_r)), (h_o_makers, .inl (ca 0, 34, .inl o_makers_r)), (h_o_halves, .inl (ca 0, 34, .inl o_halves_r)), (h_o_plans, .inl (ca 0, 80, .inl o_plans_r))] sz)) (va_Qv (fun (_ : Unit) => True) (ds_B dC dI (va_A [(h_o, .inr (7, [.ref h_o_plans, .ref h_o_makers, .ref h_o_halves, .int o_raised, .ref h_o_all, .ref h_o_text, .ref h_o_saved, .ref h_o_undone, .int o_undos, .int o_reached, .int o_length, .int o_begin, .int o_letters, .int o_sort, .long o_word, .int o_wrongAt, .int o_badAt, .int o_bad, .ref h_o_told, .ref h_o_shift, .int o_firstX, .int o_firstY, .int o_secondX, .int o_secondY, .ref h_o_rootOf, .ref h_o_becomes, .ref h_o_comes, .ref h_o_next, .int o_x])), (h_o_rootOf, .inl (ca 0, 64, .inl o_rootOf_r)), (h_o_all, .inl (ca 0, 350, .inl o_all_r)), (h_o_makers, .inl (ca 0, 34, .inl o_makers_r)), (h_o_halves, .inl (ca 0, 34, .inl o_halves_r)), (h_o_plans, .inl (ca 0, 80, .inl o_plans_r))] sz) [(h_o, .inr (7, [.ref h_o_plans, .ref h_o_makers, .ref h_o_halves, .int o_raised, .ref h_o_all, .ref h_o_text, .ref h_o_saved, .ref h_o_undone, .int o_undos, .int o_reached, .int o_length, .int o_begin, .int o_letters, .int o_sort, .long o_word, .int o_wrongAt, .int o_badAt, .int o_bad, .ref h_o_told, .ref h_o_shift, .int o_firstX, .int o_firstY, .int o_secondX, .int o_secondY, .ref h_o_rootOf, .ref h_o_becomes, .ref h_o_comes, .ref h_o_next, .int o_x])), (h_o_rootOf, .inl (ca 0, 64, .inl res)), (h_o_all, .inl (ca 0, 350, .inl o_all_r)), (h_o_makers, .inl (ca 0, 34, .inl o_makers_r)), (h_o_halves, .inl (ca 0, 34, .inl o_halves_r)), (h_o_plans, .inl (ca 0, 80, .inl o_plans_r))]) (va_A [(h_o, .inr (7, [.ref h_o_plans, .ref h_o_makers, .ref h_o_halves, .int o_raised, .ref h_o_all, .ref h_o_text, .ref h_o_saved, .ref h_o_undone, .int o_undos, .int o_reached, .int o_length, .int o_begin, .int o_letters, .int o_sort, .long o_word, .int o_wrongAt, .int o_badAt, .int o_bad, .ref h_o_told, .ref h_o_shift, .int o_firstX, .int o_firstY, .int o_secondX, .int o_secondY, .ref h_o_rootOf, .ref h_o_becomes, .ref h_o_comes, .ref h_o_next, .int o_x])), (h_o_rootOf, .inl (ca 0, 64, .inl o_rootOf_r)), (h_o_all, .inl (ca 0, 350, .inl o_all_r)), (h_o_makers, .inl (ca 0, 34, .inl o_makers_r)), (h_o_halves, .inl (ca 0, 34, .inl o_halves_r)), (h_o_plans, .inl (ca 0, 80, .inl o_plans_r))] sz)) 0 0 (va_A [(h_o, .inr (7, [.ref h_o_plans, .ref h_o_makers, .ref h_o_halves, .int o_raised, .ref h_o_all, .ref h_o_text, .ref h_o_saved, .ref h_o_undone, .int o_undos, .int o_reached, .int o_length, .int o_begin, .int o_letters, .int o_sort, .long o_word, .int o_wrongAt, .int o_badAt, .int o_bad, .ref h_o_told, .ref h_o_shift, .int o_firstX, .int o_firstY, .int o_secondX, .int o_secondY, .ref h_o_rootOf, .ref h_o_becomes, .ref h_o_comes, .ref h_o_next, .int o_x])), (h_o_rootOf, .inl (ca 0, 64, .inl o_rootOf_r)), (h_o_all, .inl (ca 0, 350, .inl o_all_r)), (h_o_makers, .inl (ca 0, 34, .inl o_makers_r)), (h_o_halves, .inl (ca 0, 34, .inl o_halves_r)), (h_o_plans, .inl (ca 0, 80, .inl o_plans_r))] sz) := by
  refine Met.ofW (cc := cX8_laysOrbits) (maxL := 4) (ret := none) (by decide) rfl ?_
  intro p e s m args below meth c s₁ B hml hv
  obtain ⟨rfl, hsz, hP, hK, hD0, hE⟩ := hv
  have hx := B.exec
  have hb := B.bytes
  have hr := B.returns
  have hts := atoms_spec (ws := Cond.code yX8_laysOrbits cX8_laysOrbits 4 none :: ds_gw) B.pre
  have hg : ∀ {w : Cond}, w ∈ ds_gw → w.before _ s = true := fun h => hts _ (List.mem_cons_of_mem _ h)
  have hown : s.vm.findClass RX8 = some m.cls := findClass_of_methodNamed B.named
  have hlocks := B.notSynchronized
  subst hsz
  have hD := hD0.self (sz := s.heap.size)
  generalize hAe : va_A [(h_o, .inr (7, [.ref h_o_plans, .ref h_o_makers, .ref h_o_halves, .int o_raised, .ref h_o_all, .ref h_o_text, .ref h_o_saved, .ref h_o_undone, .int o_undos, .int o_reached, .int o_length, .int o_begin, .int o_letters, .int o_sort, .long o_word, .int o_wrongAt, .int o_badAt, .int o_bad, .ref h_o_told, .ref h_o_shift, .int o_firstX, .int o_firstY, .int o_secondX, .int o_secondY, .ref h_o_rootOf, .ref h_o_becomes, .ref h_o_comes, .ref h_o_next, .int o_x])), (h_o_rootOf, .inl (ca 0, 64, .inl o_rootOf_r)), (h_o_all, .inl (ca 0, 350, .inl o_all_r)), (h_o_makers, .inl (ca 0, 34, .inl o_makers_r)), (h_o_halves, .inl (ca 0, 34, .inl o_halves_r)), (h_o_plans, .inl (ca 0, 80, .inl o_plans_r))] s.heap.size = A at hD hE ⊢
  have hA : ∀ q : Nat, s.heap.size ≤ q → A q := fun q h => by rw [← hAe]; exact Or.inr h
  have hS : va_S A s.heap s.heap [] := va_S.rf
  have hl := lv_entry ([.ref h_o, .int p1]) (n := 4) (Nat.le_of_ble_eq_true rfl)
  rw [lg_entry_eq]
  generalize (lg_sl ([.ref h_o, .int p1]) ++ List.replicate (4 - (lg_sl ([.ref h_o, .int p1])).length) Slot.unset).toArray = ls at hl ⊢
  have hl : lv_has ls 4 [(0, .ref h_o), (1, .int p1)] := hl
  obtain ⟨G0, eG0⟩ : ∃ G : ((Nat → Int32)) → Prop, G = (fun r => r = res) := ⟨_, rfl⟩
  obtain ⟨rr, hrr⟩ : ∃ z, z = res := ⟨_, rfl⟩
  rw [← hrr] at hf
  have hG : G0 rr := by subst eG0; exact hrr
  refine ds_cap (fun WW h1 h2 => ?_)
  have J_8 : ∀ (n : Nat) (v2 : Int32) (o_rootOf_r : Nat → Int32) (rr : (Nat → Int32)) (hf : ds_it (fun s => fX8_laysOrbits_8_b o_all_r o_makers_r o_halves_r o_plans_r p1 s.1 s.2) n (v2, o_rootOf_r) = some rr) (hG : G0 rr) (H : Heap) (locs : List Loc) (hP : va_P (dC, dI) vwCl [(h_o, .inr (7, [.ref h_o_plans, .ref h_o_makers, .ref h_o_halves, .int o_raised, .ref h_o_all, .ref h_o_text, .ref h_o_saved, .ref h_o_undone, .int o_undos, .int o_reached, .int o_length, .int o_begin, .int o_letters, .int o_sort, .long o_word, .int o_wrongAt, .int o_badAt, .int o_bad, .ref h_o_told, .ref h_o_shift, .int o_firstX, .int o_firstY, .int o_secondX, .int o_secondY, .ref h_o_rootOf, .ref h_o_becomes, .ref h_o_comes, .ref h_o_next, .int o_x])), (h_o_rootOf, .inl (ca 0, 64, .inl o_rootOf_r)), (h_o_all, .inl (ca 0, 350, .inl o_all_r)), (h_o_makers, .inl (ca 0, 34, .inl o_makers_r)), (h_o_halves, .inl (ca 0, 34, .inl o_halves_r)), (h_o_plans, .inl (ca 0, 80, .inl o_plans_r))] H) (hD : va_D A [(h_o, .inr (7, [.ref h_o_plans, .ref h_o_makers, .ref h_o_halves, .int o_raised, .ref h_o_all, .ref h_o_text, .ref h_o_saved, .ref h_o_undone, .int o_undos, .int o_reached, .int o_length, .int o_begin, .int o_letters, .int o_sort, .long o_word, .int o_wrongAt, .int o_badAt, .int o_bad, .ref h_o_told, .ref h_o_shift, .int o_firstX, .int o_firstY, .int o_secondX, .int o_secondY, .ref h_o_rootOf, .ref h_o_becomes, .ref h_o_comes, .ref h_o_next, .int o_x])), (h_o_rootOf, .inl (ca 0, 64, .inl o_rootOf_r)), (h_o_all, .inl (ca 0, 350, .inl o_all_r)), (h_o_makers, .inl (ca 0, 34, .inl o_makers_r)), (h_o_halves, .inl (ca 0, 34, .inl o_halves_r)), (h_o_plans, .inl (ca 0, 80, .inl o_plans_r))]) (hS : va_S A s.heap H locs) (ls : Array Slot) (hl : lv_has ls 4 [(0, .ref h_o), (1, .int p1), (2, .int v2)]), WW H locs (F0 m 8 ls []) := by
    intro  n
    induction n with
    | zero => intro v2 o_rootOf_r rr hf; exact (ds_it_zero hf).elim
    | succ n ih8 =>
      intro v2 o_rootOf_r rr hf hG H locs hP hD hS ls hl
      refine h2 ?_
      obtain ⟨rr, hf, hG⟩ := ds_it_succ hf hG
      replace hf : fX8_laysOrbits_8_b o_all_r o_makers_r o_halves_r o_plans_r p1 v2 o_rootOf_r = some rr := hf
      obtain ⟨G1, eG1⟩ : ∃ G : ((Int32 × (Nat → Int32)) ⊕ ((Nat → Int32))) → Prop, G = ds_G (fun s' => ∃ r', ds_it (fun s => fX8_laysOrbits_8_b o_all_r o_makers_r o_halves_r o_plans_r p1 s.1 s.2) n s' = some r' ∧ G0 r') G0 := ⟨_, rfl⟩
      rw [← eG1] at hG
      have J_66 : ∀ (v2 : Int32) (o_rootOf_r : Nat → Int32) (rr : (Int32 × (Nat → Int32)) ⊕ ((Nat → Int32))) (hf : fX8_laysOrbits_66 o_rootOf_r v2 = some rr) (hG : G1 rr) (H : Heap) (locs : List Loc) (hP : va_P (dC, dI) vwCl [(h_o, .inr (7, [.ref h_o_plans, .ref h_o_makers, .ref h_o_halves, .int o_raised, .ref h_o_all, .ref h_o_text, .ref h_o_saved, .ref h_o_undone, .int o_undos, .int o_reached, .int o_length, .int o_begin, .int o_letters, .int o_sort, .long o_word, .int o_wrongAt, .int o_badAt, .int o_bad, .ref h_o_told, .ref h_o_shift, .int o_firstX, .int o_firstY, .int o_secondX, .int o_secondY, .ref h_o_rootOf, .ref h_o_becomes, .ref h_o_comes, .ref h_o_next, .int o_x])), (h_o_rootOf, .inl (ca 0, 64, .inl o_rootOf_r)), (h_o_all, .inl (ca 0, 350, .inl o_all_r)), (h_o_makers, .inl (ca 0, 34, .inl o_makers_r)), (h_o_halves, .inl (ca 0, 34, .inl o_halves_r)), (h_o_plans, .inl (ca 0, 80, .inl o_plans_r))] H) (hD : va_D A [(h_o, .inr (7, [.ref h_o_plans, .ref h_o_makers, .ref h_o_halves, .int o_raised, .ref h_o_all, .ref h_o_text, .ref h_o_saved, .ref h_o_undone, .int o_undos, .int o_reached, .int o_length, .int o_begin, .int o_letters, .int o_sort, .long o_word, .int o_wrongAt, .int o_badAt, .int o_bad, .ref h_o_told, .ref h_o_shift, .int o_firstX, .int o_firstY, .int o_secondX, .int o_secondY, .ref h_o_rootOf, .ref h_o_becomes, .ref h_o_comes, .ref h_o_next, .int o_x])), (h_o_rootOf, .inl (ca 0, 64, .inl o_rootOf_r)), (h_o_all, .inl (ca 0, 350, .inl o_all_r)), (h_o_makers, .inl (ca 0, 34, .inl o_makers_r)), (h_o_halves, .inl (ca 0, 34, .inl o_halves_r)), (h_o_plans, .inl (ca 0, 80, .inl o_plans_r))]) (hS : va_S A s.heap H locs) (ls : Array Slot) (hl : lv_has ls 4 [(0, .ref h_o), (1, .int p1), (2, .int v2)]), WW H locs (F0 m 66 ls []) := by
        intro v2 o_rootOf_r rr hf hG H locs hP hD hS ls hl
        refine h2 ?_
        unfold fX8_laysOrbits_66 at hf
        refine lv_iinc (v := (v2 + 1)) (lv' := [(2, .int (v2 + 1)), (0, .ref h_o), (1, .int p1)]) hx hb dX8_laysOrbits_66 hl (k := 2) rfl rfl (by decide) rfl (fun ls hl => ?_)
        refine lv_goto (tgt := 8) hx hb dX8_laysOrbits_69 (by decide) ?_
        have hf := Option.some.inj hf
        subst hf
        rw [eG1] at hG
        obtain ⟨rr, hf, hG⟩ := hG
        exact h1 (ih8 (v2 + 1) o_rootOf_r rr hf hG _ _ hP hD hS _ (lv_sub hl [1, 2, 0] rfl))
      unfold fX8_laysOrbits_8_b at hf
      refine lv_iload_n hx hb dX8_laysOrbits_8 rfl (lv_at hl 2 rfl) ?_
      refine lv_iconst (v := 2) hx hb dX8_laysOrbits_9 (by decide) ?_
      refine lv_iload_n hx hb dX8_laysOrbits_10 rfl (lv_at hl 1 rfl) ?_
      refine lv_imul hx hb dX8_laysOrbits_11 ?_
      refine lv_iconst (v := 2) hx hb dX8_laysOrbits_12 (by decide) ?_
      refine lv_iadd hx hb dX8_laysOrbits_13 ?_
      refine lv_icmp_ge (tgt := 72) hx hb dX8_laysOrbits_14 (by decide) (fun c_14 => ?_) (fun c_14 => ?_)
      · replace hf := ds_t c_14 hf
        have hf := Option.some.inj hf
        subst hf
        rw [eG1] at hG
        replace hG : G0 _ := hG
        rw [eG0] at hG
        have hG : _ = res := hG
        subst hG
        exact W.vret hx hb hr (fun t ht hW => ⟨⟨(), rfl, trivial, by rw [ht]; exact hP, hD⟩, hS.F ht⟩) hS.2.2 dX8_laysOrbits_72
      · replace hf := ds_f c_14 hf
        refine lv_aload_n hx hb dX8_laysOrbits_17 rfl (lv_at hl 0 rfl) ?_
        refine va_get (D := (dC, dI)) (ci := 7) (v := .ref h_o_all) (C := RX8) (T := TX8) (N := 29) hx hb hts (fun w h => List.mem_cons_of_mem _ (kc_X8 w h)) hown hK hP 0 rfl rfl 4 (by decide) (hg kw_594) (fun _ h9 => h9) rfl dX8_laysOrbits_18 ?_
        refine lv_iconst (v := 0) hx hb dX8_laysOrbits_21 (by decide) ?_
        refine va_iald hx hb hK hP 2 0 rfl rfl (ds_in_ok (i := 0) (n := 350) (by decide)) dX8_laysOrbits_22 ?_
        refine lv_iconst (v := 2) hx hb dX8_laysOrbits_23 (by decide) ?_
        refine lv_idiv hx hb dX8_laysOrbits_24 (by decide) ?_
        obtain ⟨x25, hx_25, hf⟩ := ds_ob hf
        refine ds_nmi hx_25 ?_
        refine lv_istore_n (lv' := [(3, .int x25), (0, .ref h_o), (1, .int p1), (2, .int v2)]) hx hb dX8_laysOrbits_25 rfl hl (by decide) rfl (fun ls hl => ?_)
        refine lv_aload_n hx hb dX8_laysOrbits_26 rfl (lv_at hl 1 rfl) ?_
        refine va_get (D := (dC, dI)) (ci := 7) (v := .ref h_o_makers) (C := RX8) (T := TX8) (N := 29) hx hb hts (fun w h => List.mem_cons_of_mem _ (kc_X8 w h)) hown hK hP 0 rfl rfl 1 (by decide) (hg kw_819) (fun _ h9 => h9) rfl dX8_laysOrbits_27 ?_
        refine lv_iload_n hx hb dX8_laysOrbits_30 rfl (lv_at hl 3 rfl) ?_
        obtain ⟨i_31, hf⟩ := ds_ci hf
        refine va_iald hx hb hK hP 3 0 rfl rfl i_31 dX8_laysOrbits_31 ?_
        refine lv_iconst (v := -1) hx hb dX8_laysOrbits_32 (by decide) ?_
        refine lv_icmp_eq (tgt := 66) hx hb dX8_laysOrbits_33 (by decide) (fun c_33 => ?_) (fun c_33 => ?_)
        · replace hf := ds_t c_33 hf
          exact h1 (J_66 v2 o_rootOf_r _ hf hG _ _ hP hD hS _ (lv_sub hl [1, 2, 3] rfl))
        · replace hf := ds_f c_33 hf
          refine lv_aload_n hx hb dX8_laysOrbits_36 rfl (lv_at hl 1 rfl) ?_
          refine lv_aload_n hx hb dX8_laysOrbits_37 rfl (lv_at hl 1 rfl) ?_
          refine va_get (D := (dC, dI)) (ci := 7) (v := .ref h_o_makers) (C := RX8) (T := TX8) (N := 29) hx hb hts (fun w h => List.mem_cons_of_mem _ (kc_X8 w h)) hown hK hP 0 rfl rfl 1 (by decide) (hg kw_819) (fun _ h9 => h9) rfl dX8_laysOrbits_38 ?_
          refine lv_iload_n hx hb dX8_laysOrbits_41 rfl (lv_at hl 3 rfl) ?_
          obtain ⟨i_42, hf⟩ := ds_ci hf
          refine va_iald hx hb hK hP 3 0 rfl rfl i_42 dX8_laysOrbits_42 ?_
          refine lv_aload_n hx hb dX8_laysOrbits_43 rfl (lv_at hl 1 rfl) ?_
          refine va_get (D := (dC, dI)) (ci := 7) (v := .ref h_o_halves) (C := RX8) (T := TX8) (N := 29) hx hb hts (fun w h => List.mem_cons_of_mem _ (kc_X8 w h)) hown hK hP 0 rfl rfl 2 (by decide) (hg kw_814) (fun _ h9 => h9) rfl dX8_laysOrbits_44 ?_
          refine lv_iload_n hx hb dX8_laysOrbits_47 rfl (lv_at hl 3 rfl) ?_
          obtain ⟨i_48, hf⟩ := ds_ci hf
          refine va_iald hx hb hK hP 4 0 rfl rfl i_48 dX8_laysOrbits_48 ?_
          refine lv_iconst (v := 1) hx hb dX8_laysOrbits_49 (by decide) ?_
          refine lv_iand hx hb dX8_laysOrbits_50 ?_
          refine lv_iload_n hx hb dX8_laysOrbits_51 rfl (lv_at hl 0 rfl) ?_
          refine lv_imul hx hb dX8_laysOrbits_52 ?_
          refine lv_aload_n hx hb dX8_laysOrbits_53 rfl (lv_at hl 1 rfl) ?_
          refine va_get (D := (dC, dI)) (ci := 7) (v := .ref h_o_halves) (C := RX8) (T := TX8) (N := 29) hx hb hts (fun w h => List.mem_cons_of_mem _ (kc_X8 w h)) hown hK hP 0 rfl rfl 2 (by decide) (hg kw_814) (fun _ h9 => h9) rfl dX8_laysOrbits_54 ?_
          refine lv_iload_n hx hb dX8_laysOrbits_57 rfl (lv_at hl 3 rfl) ?_
          obtain ⟨i_58, hf⟩ := ds_ci hf
          refine va_iald hx hb hK hP 4 0 rfl rfl i_58 dX8_laysOrbits_58 ?_
          refine lv_iconst (v := 1) hx hb dX8_laysOrbits_59 (by decide) ?_
          refine lv_ishr hx hb dX8_laysOrbits_60 ?_
          refine lv_iload_n hx hb dX8_laysOrbits_61 rfl (lv_at hl 0 rfl) ?_
          refine lv_imul hx hb dX8_laysOrbits_62 ?_
          obtain ⟨q63, hq63, hf⟩ := ds_ob hf
          refine ds_callv (wr := [(h_o_makers, .inl (ca 0, 34, .inl o_makers_r)), (h_o_halves, .inl (ca 0, 34, .inl o_halves_r))]) (va_runV (As := [.int (o_makers_r v2.toNatClampNeg), .int (((o_halves_r v2.toNatClampNeg) &&& (1 : Int32)) * x25), .int (((o_halves_r v2.toNatClampNeg) >>> ((1 : Int32) &&& 31)) * x25)]) (rest := []) ⟨hx, hb, hml, hown, hts⟩ (c_X8_joinsBy l dC dI ca sa h_o h_o_plans h_o_makers h_o_halves h_o_all h_o_text h_o_saved h_o_undone h_o_told h_o_shift h_o_rootOf h_o_becomes h_o_comes h_o_next H.size o_raised o_undos o_reached o_length o_begin o_letters o_sort o_word o_wrongAt o_badAt o_bad o_firstX o_firstY o_secondX o_secondY o_x o_all_r o_plans_r o_rootOf_r (o_makers_r v2.toNatClampNeg) (((o_halves_r v2.toNatClampNeg) &&& (1 : Int32)) * x25) (((o_halves_r v2.toNatClampNeg) >>> ((1 : Int32) &&& 31)) * x25) q63 hq63) (cwV 3 hts (ds_gV kw_748 kw_749 kw_750 kw_597 kw_751) rfl rfl rfl (by decide +kernel) ⟨Nat.le_of_ble_eq_true rfl, Nat.le_of_ble_eq_true rfl⟩) ⟨ds_blind, va_recv hK hP (ci := 7) (q0 := 0) rfl rfl, ds_at hP hD hK hE hS hA [0, 2, 5, 1] rfl rfl _⟩ rfl rfl hl.1 rfl (lv_room (Nat.le_of_ble_eq_true rfl)) dX8_laysOrbits_63 ⟨Nat.zero_le _, Nat.zero_le _⟩) hP hD hS hA [0, 2, 5, 1] [3, 4] rfl rfl rfl (by decide) (fun H locs hP hD hS => ?_)
          have hP : va_P (dC, dI) vwCl [(h_o_makers, .inl (ca 0, 34, .inl o_makers_r)), (h_o_halves, .inl (ca 0, 34, .inl o_halves_r)), (h_o, .inr (7, [.ref h_o_plans, .ref h_o_makers, .ref h_o_halves, .int o_raised, .ref h_o_all, .ref h_o_text, .ref h_o_saved, .ref h_o_undone, .int o_undos, .int o_reached, .int o_length, .int o_begin, .int o_letters, .int o_sort, .long o_word, .int o_wrongAt, .int o_badAt, .int o_bad, .ref h_o_told, .ref h_o_shift, .int o_firstX, .int o_firstY, .int o_secondX, .int o_secondY, .ref h_o_rootOf, .ref h_o_becomes, .ref h_o_comes, .ref h_o_next, .int o_x])), (h_o_all, .inl (ca 0, 350, .inl o_all_r)), (h_o_plans, .inl (ca 0, 80, .inl o_plans_r)), (h_o_rootOf, .inl (ca 0, 64, .inl q63))] H := hP
          have hD : va_D A [(h_o_makers, .inl (ca 0, 34, .inl o_makers_r)), (h_o_halves, .inl (ca 0, 34, .inl o_halves_r)), (h_o, .inr (7, [.ref h_o_plans, .ref h_o_makers, .ref h_o_halves, .int o_raised, .ref h_o_all, .ref h_o_text, .ref h_o_saved, .ref h_o_undone, .int o_undos, .int o_reached, .int o_length, .int o_begin, .int o_letters, .int o_sort, .long o_word, .int o_wrongAt, .int o_badAt, .int o_bad, .ref h_o_told, .ref h_o_shift, .int o_firstX, .int o_firstY, .int o_secondX, .int o_secondY, .ref h_o_rootOf, .ref h_o_becomes, .ref h_o_comes, .ref h_o_next, .int o_x])), (h_o_all, .inl (ca 0, 350, .inl o_all_r)), (h_o_plans, .inl (ca 0, 80, .inl o_plans_r)), (h_o_rootOf, .inl (ca 0, 64, .inl q63))] := hD
          exact h1 (J_66 v2 q63 _ hf hG _ _ (hP.sub [2, 5, 3, 0, 1, 4] rfl) (hD.sub [2, 5, 3, 0, 1, 4] rfl rfl) hS _ (lv_sub hl [1, 2, 3] rfl))
  unfold fX8_laysOrbits at hf
  refine lv_aload_n hx hb dX8_laysOrbits_0 rfl (lv_at hl 0 rfl) ?_
  obtain ⟨q1, hq1, hf⟩ := ds_ob hf
  refine ds_callv (wr := [(h_o_all, .inl (ca 0, 350, .inl o_all_r)), (h_o_makers, .inl (ca 0, 34, .inl o_makers_r)), (h_o_halves, .inl (ca 0, 34, .inl o_halves_r)), (h_o_plans, .inl (ca 0, 80, .inl o_plans_r))]) (va_runV (As := []) (rest := []) ⟨hx, hb, hml, hown, hts⟩ (c_X8_alone l dC dI ca sa h_o h_o_plans h_o_makers h_o_halves h_o_all h_o_text h_o_saved h_o_undone h_o_told h_o_shift h_o_rootOf h_o_becomes h_o_comes h_o_next s.heap.size o_raised o_undos o_reached o_length o_begin o_letters o_sort o_word o_wrongAt o_badAt o_bad o_firstX o_firstY o_secondX o_secondY o_x o_rootOf_r  q1 hq1) (cwV 0 hts (ds_gV kw_752 kw_753 kw_754 kw_597 kw_755) rfl rfl rfl (by decide +kernel) ⟨Nat.le_of_ble_eq_true rfl, Nat.le_of_ble_eq_true rfl⟩) ⟨ds_blind, va_recv hK hP (ci := 7) (q0 := 0) rfl rfl, ds_at hP hD hK hE hS hA [0, 1] rfl rfl _⟩ rfl rfl hl.1 rfl (lv_room (Nat.le_of_ble_eq_true rfl)) dX8_laysOrbits_1 ⟨Nat.zero_le _, Nat.zero_le _⟩) hP hD hS hA [0, 1] [2, 3, 4, 5] rfl rfl rfl (by decide) (fun H locs hP hD hS => ?_)
  have hP : va_P (dC, dI) vwCl [(h_o_all, .inl (ca 0, 350, .inl o_all_r)), (h_o_makers, .inl (ca 0, 34, .inl o_makers_r)), (h_o_halves, .inl (ca 0, 34, .inl o_halves_r)), (h_o_plans, .inl (ca 0, 80, .inl o_plans_r)), (h_o, .inr (7, [.ref h_o_plans, .ref h_o_makers, .ref h_o_halves, .int o_raised, .ref h_o_all, .ref h_o_text, .ref h_o_saved, .ref h_o_undone, .int o_undos, .int o_reached, .int o_length, .int o_begin, .int o_letters, .int o_sort, .long o_word, .int o_wrongAt, .int o_badAt, .int o_bad, .ref h_o_told, .ref h_o_shift, .int o_firstX, .int o_firstY, .int o_secondX, .int o_secondY, .ref h_o_rootOf, .ref h_o_becomes, .ref h_o_comes, .ref h_o_next, .int o_x])), (h_o_rootOf, .inl (ca 0, 64, .inl q1))] H := hP
  have hD : va_D A [(h_o_all, .inl (ca 0, 350, .inl o_all_r)), (h_o_makers, .inl (ca 0, 34, .inl o_makers_r)), (h_o_halves, .inl (ca 0, 34, .inl o_halves_r)), (h_o_plans, .inl (ca 0, 80, .inl o_plans_r)), (h_o, .inr (7, [.ref h_o_plans, .ref h_o_makers, .ref h_o_halves, .int o_raised, .ref h_o_all, .ref h_o_text, .ref h_o_saved, .ref h_o_undone, .int o_undos, .int o_reached, .int o_length, .int o_begin, .int o_letters, .int o_sort, .long o_word, .int o_wrongAt, .int o_badAt, .int o_bad, .ref h_o_told, .ref h_o_shift, .int o_firstX, .int o_firstY, .int o_secondX, .int o_secondY, .ref h_o_rootOf, .ref h_o_becomes, .ref h_o_comes, .ref h_o_next, .int o_x])), (h_o_rootOf, .inl (ca 0, 64, .inl q1))] := hD
  refine lv_iconst (v := 2) hx hb dX8_laysOrbits_4 (by decide) ?_
  refine lv_iload_n hx hb dX8_laysOrbits_5 rfl (lv_at hl 1 rfl) ?_
  refine lv_imul hx hb dX8_laysOrbits_6 ?_
  refine lv_istore_n (lv' := [(2, .int ((2 : Int32) * p1)), (0, .ref h_o), (1, .int p1)]) hx hb dX8_laysOrbits_7 rfl hl (by decide) rfl (fun ls hl => ?_)
  exact h1 (J_8  1000 ((2 : Int32) * p1) q1 _ hf hG _ _ (hP.sub [4, 5, 0, 1, 2, 3] rfl) (hD.sub [4, 5, 0, 1, 2, 3] rfl rfl) hS _ (lv_sub hl [1, 2, 0] rfl))
theorem dX8_orbitSize_0 : decode cX8_orbitSize 0 = .ok (.iconst 0, 1) := by decide +kernel
theorem dX8_orbitSize_1 : decode cX8_orbitSize 1 = .ok (.istore_n 2, 1) := by decide +kernel
theorem dX8_orbitSize_2 : decode cX8_orbitSize 2 = .ok (.iconst 0, 1) := by decide +kernel
theorem dX8_orbitSize_3 : decode cX8_orbitSize 3 = .ok (.istore_n 3, 1) := by decide +kernel
theorem dX8_orbitSize_4 : decode cX8_orbitSize 4 = .ok (.iload_n 3, 1) := by decide +kernel
theorem dX8_orbitSize_5 : decode cX8_orbitSize 5 = .ok (.aload_n 0, 1) := by decide +kernel
theorem dX8_orbitSize_6 : decode cX8_orbitSize 6 = .ok (.getfield 19, 3) := by decide +kernel
theorem dX8_orbitSize_9 : decode cX8_orbitSize 9 = .ok (.iconst 1, 1) := by decide +kernel
theorem dX8_orbitSize_10 : decode cX8_orbitSize 10 = .ok (.iaload, 1) := by decide +kernel
theorem dX8_orbitSize_11 : decode cX8_orbitSize 11 = .ok (.if_icmp .ge 52, 3) := by decide +kernel
theorem dX8_orbitSize_14 : decode cX8_orbitSize 14 = .ok (.iconst 0, 1) := by decide +kernel
theorem dX8_orbitSize_15 : decode cX8_orbitSize 15 = .ok (.istore 4, 2) := by decide +kernel
theorem dX8_orbitSize_17 : decode cX8_orbitSize 17 = .ok (.iload 4, 2) := by decide +kernel
theorem dX8_orbitSize_19 : decode cX8_orbitSize 19 = .ok (.aload_n 0, 1) := by decide +kernel
theorem dX8_orbitSize_20 : decode cX8_orbitSize 20 = .ok (.getfield 19, 3) := by decide +kernel
theorem dX8_orbitSize_23 : decode cX8_orbitSize 23 = .ok (.iconst 0, 1) := by decide +kernel
theorem dX8_orbitSize_24 : decode cX8_orbitSize 24 = .ok (.iaload, 1) := by decide +kernel
theorem dX8_orbitSize_25 : decode cX8_orbitSize 25 = .ok (.if_icmp .ge 32, 3) := by decide +kernel
theorem dX8_orbitSize_28 : decode cX8_orbitSize 28 = .ok (.iload_n 2, 1) := by decide +kernel
theorem dX8_orbitSize_29 : decode cX8_orbitSize 29 = .ok (.aload_n 0, 1) := by decide +kernel
theorem dX8_orbitSize_30 : decode cX8_orbitSize 30 = .ok (.bipush 8, 2) := by decide +kernel
theorem dX8_orbitSize_32 : decode cX8_orbitSize 32 = .ok (.iload_n 3, 1) := by decide +kernel
theorem dX8_orbitSize_33 : decode cX8_orbitSize 33 = .ok (.imul, 1) := by decide +kernel
theorem dX8_orbitSize_34 : decode cX8_orbitSize 34 = .ok (.iload 4, 2) := by decide +kernel
theorem dX8_orbitSize_36 : decode cX8_orbitSize 36 = .ok (.iadd, 1) := by decide +kernel
theorem dX8_orbitSize_37 : decode cX8_orbitSize 37 = .ok (.invokevirtual 207, 3) := by decide +kernel
theorem dX8_orbitSize_40 : decode cX8_orbitSize 40 = .ok (.iload_n 1, 1) := by decide +kernel
theorem dX8_orbitSize_41 : decode cX8_orbitSize 41 = .ok (.if_icmp .ne 7, 3) := by decide +kernel
theorem dX8_orbitSize_44 : decode cX8_orbitSize 44 = .ok (.iconst 1, 1) := by decide +kernel
theorem dX8_orbitSize_45 : decode cX8_orbitSize 45 = .ok (.goto 4, 3) := by decide +kernel
theorem dX8_orbitSize_48 : decode cX8_orbitSize 48 = .ok (.iconst 0, 1) := by decide +kernel
theorem dX8_orbitSize_49 : decode cX8_orbitSize 49 = .ok (.iadd, 1) := by decide +kernel
theorem dX8_orbitSize_50 : decode cX8_orbitSize 50 = .ok (.istore_n 2, 1) := by decide +kernel
theorem dX8_orbitSize_51 : decode cX8_orbitSize 51 = .ok (.iinc 4 1, 3) := by decide +kernel
theorem dX8_orbitSize_54 : decode cX8_orbitSize 54 = .ok (.goto (-37), 3) := by decide +kernel
theorem dX8_orbitSize_57 : decode cX8_orbitSize 57 = .ok (.iinc 3 1, 3) := by decide +kernel
theorem dX8_orbitSize_60 : decode cX8_orbitSize 60 = .ok (.goto (-56), 3) := by decide +kernel
theorem dX8_orbitSize_63 : decode cX8_orbitSize 63 = .ok (.iload_n 2, 1) := by decide +kernel
theorem dX8_orbitSize_64 : decode cX8_orbitSize 64 = .ok (.ireturn, 1) := by decide +kernel
def fX8_orbitSize_57 (v2 : Int32) (v3 : Int32) : Option ((Int32 × Int32) ⊕ (Int32)) :=
  some (.inl (v2, (v3 + 1)))
def fX8_orbitSize_49 (v4 : Int32) (s0 : Int32) (s1 : Int32) : Option ((Int32 × Int32) ⊕ ((Int32 × Int32) ⊕ (Int32))) :=
  some (.inl ((s1 + s0), (v4 + 1)))
def fX8_orbitSize_17_b (o_all_r : Nat → Int32) (o_rootOf_r : Nat → Int32) (p1 : Int32) (v3 : Int32) (v2 : Int32) (v4 : Int32) : Option ((Int32 × Int32) ⊕ ((Int32 × Int32) ⊕ (Int32))) :=
  if (o_all_r (0 : Int32).toNatClampNeg) ≤ v4 then Option.bind (fX8_orbitSize_57 v2 v3) fun z => some (.inr z) else Option.bind (fX8_root o_rootOf_r (((8 : Int32) * v3) + v4)) fun q37 => if q37 = p1 then fX8_orbitSize_49 v4 (1 : Int32) v2 else fX8_orbitSize_49 v4 (0 : Int32) v2
def fX8_orbitSize_17 (o_all_r : Nat → Int32) (o_rootOf_r : Nat → Int32) (p1 : Int32) (v3 : Int32) (v2 : Int32) (v4 : Int32) : Option ((Int32 × Int32) ⊕ (Int32)) := ds_it (fun s => fX8_orbitSize_17_b o_all_r o_rootOf_r p1 v3 s.1 s.2) 1000 (v2, v4)
def fX8_orbitSize_4_b (o_all_r : Nat → Int32) (o_rootOf_r : Nat → Int32) (p1 : Int32) (v2 : Int32) (v3 : Int32) : Option ((Int32 × Int32) ⊕ (Int32)) :=
  if (o_all_r (1 : Int32).toNatClampNeg) ≤ v3 then some (.inr v2) else fX8_orbitSize_17 o_all_r o_rootOf_r p1 v3 v2 (0 : Int32)
def fX8_orbitSize_4 (o_all_r : Nat → Int32) (o_rootOf_r : Nat → Int32) (p1 : Int32) (v2 : Int32) (v3 : Int32) : Option (Int32) := ds_it (fun s => fX8_orbitSize_4_b o_all_r o_rootOf_r p1 s.1 s.2) 1000 (v2, v3)
def fX8_orbitSize (o_all_r : Nat → Int32) (o_rootOf_r : Nat → Int32) (p1 : Int32) : Option (Int32) :=
  fX8_orbitSize_4 o_all_r o_rootOf_r p1 (0 : Int32) (0 : Int32)
set_option maxHeartbeats 4000000 in
set_option maxRecDepth 100000 in
theorem c_X8_orbitSize (l : Launch) (dC : Nat → ClassId) (dI : Nat → Nat → Nat) (ca : Nat → ClassId) (sa : Nat → Nat) (h_o : Nat) (h_o_plans : Nat) (h_o_makers : Nat) (h_o_halves : Nat) (h_o_all : Nat) (h_o_text : Nat) (h_o_saved : Nat) (h_o_undone : Nat) (h_o_told : Nat) (h_o_shift : Nat) (h_o_rootOf : Nat) (h_o_becomes : Nat) (h_o_comes : Nat) (h_o_next : Nat) (sz : Nat) (o_raised : Int32) (o_undos : Int32) (o_reached : Int32) (o_length : Int32) (o_begin : Int32) (o_letters : Int32) (o_sort : Int32) (o_word : Int64) (o_wrongAt : Int32) (o_badAt : Int32) (o_bad : Int32) (o_firstX : Int32) (o_firstY : Int32) (o_secondX : Int32) (o_secondY : Int32) (o_x : Int32) (o_all_r : Nat → Int32) (o_rootOf_r : Nat → Int32) (p1 : Int32) (res : Int32) (hf : fX8_orbitSize o_all_r o_rootOf_r p1 = some res) : Met l yX8_orbitSize (Cond.code yX8_orbitSize cX8_orbitSize 5 (some .int) :: ds_gw) { frames := 1, cells := 0, slots := 0, locals := 22 } (va_Pc [.ref h_o, .int p1] (ds_Pre dC dI ca sa [(h_o, .inr (7, [.ref h_o_plans, .ref h_o_makers, .ref h_o_halves, .int o_raised, .ref h_o_all, .ref h_o_text, .ref h_o_saved, .ref h_o_undone, .int o_undos, .int o_reached, .int o_length, .int o_begin, .int o_letters, .int o_sort, .long o_word, .int o_wrongAt, .int o_badAt, .int o_bad, .ref h_o_told, .ref h_o_shift, .int o_firstX, .int o_firstY, .int o_secondX, .int o_secondY, .ref h_o_rootOf, .ref h_o_becomes, .ref h_o_comes, .ref h_o_next, .int o_x])), (h_o_all, .inl (ca 0, 350, .inl o_all_r)), (h_o_rootOf, .inl (ca 0, 64, .inl o_rootOf_r))] sz)) (va_Qi (fun r (_ : Unit) => r = res) (ds_B dC dI (va_A [(h_o, .inr (7, [.ref h_o_plans, .ref h_o_makers, .ref h_o_halves, .int o_raised, .ref h_o_all, .ref h_o_text, .ref h_o_saved, .ref h_o_undone, .int o_undos, .int o_reached, .int o_length, .int o_begin, .int o_letters, .int o_sort, .long o_word, .int o_wrongAt, .int o_badAt, .int o_bad, .ref h_o_told, .ref h_o_shift, .int o_firstX, .int o_firstY, .int o_secondX, .int o_secondY, .ref h_o_rootOf, .ref h_o_becomes, .ref h_o_comes, .ref h_o_next, .int o_x])), (h_o_all, .inl (ca 0, 350, .inl o_all_r)), (h_o_rootOf, .inl (ca 0, 64, .inl o_rootOf_r))] sz) [(h_o, .inr (7, [.ref h_o_plans, .ref h_o_makers, .ref h_o_halves, .int o_raised, .ref h_o_all, .ref h_o_text, .ref h_o_saved, .ref h_o_undone, .int o_undos, .int o_reached, .int o_length, .int o_begin, .int o_letters, .int o_sort, .long o_word, .int o_wrongAt, .int o_badAt, .int o_bad, .ref h_o_told, .ref h_o_shift, .int o_firstX, .int o_firstY, .int o_secondX, .int o_secondY, .ref h_o_rootOf, .ref h_o_becomes, .ref h_o_comes, .ref h_o_next, .int o_x])), (h_o_all, .inl (ca 0, 350, .inl o_all_r)), (h_o_rootOf, .inl (ca 0, 64, .inl o_rootOf_r))]) (va_A [(h_o, .inr (7, [.ref h_o_plans, .ref h_o_makers, .ref h_o_halves, .int o_raised, .ref h_o_all, .ref h_o_text, .ref h_o_saved, .ref h_o_undone, .int o_undos, .int o_reached, .int o_length, .int o_begin, .int o_letters, .int o_sort, .long o_word, .int o_wrongAt, .int o_badAt, .int o_bad, .ref h_o_told, .ref h_o_shift, .int o_firstX, .int o_firstY, .int o_secondX, .int o_secondY, .ref h_o_rootOf, .ref h_o_becomes, .ref h_o_comes, .ref h_o_next, .int o_x])), (h_o_all, .inl (ca 0, 350, .inl o_all_r)), (h_o_rootOf, .inl (ca 0, 64, .inl o_rootOf_r))] sz)) 0 0 (va_A [(h_o, .inr (7, [.ref h_o_plans, .ref h_o_makers, .ref h_o_halves, .int o_raised, .ref h_o_all, .ref h_o_text, .ref h_o_saved, .ref h_o_undone, .int o_undos, .int o_reached, .int o_length, .int o_begin, .int o_letters, .int o_sort, .long o_word, .int o_wrongAt, .int o_badAt, .int o_bad, .ref h_o_told, .ref h_o_shift, .int o_firstX, .int o_firstY, .int o_secondX, .int o_secondY, .ref h_o_rootOf, .ref h_o_becomes, .ref h_o_comes, .ref h_o_next, .int o_x])), (h_o_all, .inl (ca 0, 350, .inl o_all_r)), (h_o_rootOf, .inl (ca 0, 64, .inl o_rootOf_r))] sz) := by
  refine Met.ofW (cc := cX8_orbitSize) (maxL := 5) (ret := (some .int)) (by decide) rfl ?_
  intro p e s m args below meth c s₁ B hml hv
  obtain ⟨rfl, hsz, hP, hK, hD0, hE⟩ := hv
  have hx := B.exec
  have hb := B.bytes
  have hr := B.returns
  have hts := atoms_spec (ws := Cond.code yX8_orbitSize cX8_orbitSize 5 (some .int) :: ds_gw) B.pre
  have hg : ∀ {w : Cond}, w ∈ ds_gw → w.before _ s = true := fun h => hts _ (List.mem_cons_of_mem _ h)
  have hown : s.vm.findClass RX8 = some m.cls := findClass_of_methodNamed B.named
  have hlocks := B.notSynchronized
  subst hsz
  have hD := hD0.self (sz := s.heap.size)
  generalize hAe : va_A [(h_o, .inr (7, [.ref h_o_plans, .ref h_o_makers, .ref h_o_halves, .int o_raised, .ref h_o_all, .ref h_o_text, .ref h_o_saved, .ref h_o_undone, .int o_undos, .int o_reached, .int o_length, .int o_begin, .int o_letters, .int o_sort, .long o_word, .int o_wrongAt, .int o_badAt, .int o_bad, .ref h_o_told, .ref h_o_shift, .int o_firstX, .int o_firstY, .int o_secondX, .int o_secondY, .ref h_o_rootOf, .ref h_o_becomes, .ref h_o_comes, .ref h_o_next, .int o_x])), (h_o_all, .inl (ca 0, 350, .inl o_all_r)), (h_o_rootOf, .inl (ca 0, 64, .inl o_rootOf_r))] s.heap.size = A at hD hE ⊢
  have hA : ∀ q : Nat, s.heap.size ≤ q → A q := fun q h => by rw [← hAe]; exact Or.inr h
  have hS : va_S A s.heap s.heap [] := va_S.rf
  have hl := lv_entry ([.ref h_o, .int p1]) (n := 5) (Nat.le_of_ble_eq_true rfl)
  rw [lg_entry_eq]
  generalize (lg_sl ([.ref h_o, .int p1]) ++ List.replicate (5 - (lg_sl ([.ref h_o, .int p1])).length) Slot.unset).toArray = ls at hl ⊢
  have hl : lv_has ls 5 [(0, .ref h_o), (1, .int p1)] := hl
  obtain ⟨G0, eG0⟩ : ∃ G : Int32 → Prop, G = (fun r => r = res) := ⟨_, rfl⟩
  obtain ⟨rr, hrr⟩ : ∃ z, z = res := ⟨_, rfl⟩
  rw [← hrr] at hf
  have hG : G0 rr := by subst eG0; exact hrr
  refine ds_cap (fun WW h1 h2 => ?_)
  have J_4 : ∀ (n : Nat) (v2 : Int32) (v3 : Int32) (rr : Int32) (hf : ds_it (fun s => fX8_orbitSize_4_b o_all_r o_rootOf_r p1 s.1 s.2) n (v2, v3) = some rr) (hG : G0 rr) (H : Heap) (locs : List Loc) (hP : va_P (dC, dI) vwCl [(h_o, .inr (7, [.ref h_o_plans, .ref h_o_makers, .ref h_o_halves, .int o_raised, .ref h_o_all, .ref h_o_text, .ref h_o_saved, .ref h_o_undone, .int o_undos, .int o_reached, .int o_length, .int o_begin, .int o_letters, .int o_sort, .long o_word, .int o_wrongAt, .int o_badAt, .int o_bad, .ref h_o_told, .ref h_o_shift, .int o_firstX, .int o_firstY, .int o_secondX, .int o_secondY, .ref h_o_rootOf, .ref h_o_becomes, .ref h_o_comes, .ref h_o_next, .int o_x])), (h_o_all, .inl (ca 0, 350, .inl o_all_r)), (h_o_rootOf, .inl (ca 0, 64, .inl o_rootOf_r))] H) (hD : va_D A [(h_o, .inr (7, [.ref h_o_plans, .ref h_o_makers, .ref h_o_halves, .int o_raised, .ref h_o_all, .ref h_o_text, .ref h_o_saved, .ref h_o_undone, .int o_undos, .int o_reached, .int o_length, .int o_begin, .int o_letters, .int o_sort, .long o_word, .int o_wrongAt, .int o_badAt, .int o_bad, .ref h_o_told, .ref h_o_shift, .int o_firstX, .int o_firstY, .int o_secondX, .int o_secondY, .ref h_o_rootOf, .ref h_o_becomes, .ref h_o_comes, .ref h_o_next, .int o_x])), (h_o_all, .inl (ca 0, 350, .inl o_all_r)), (h_o_rootOf, .inl (ca 0, 64, .inl o_rootOf_r))]) (hS : va_S A s.heap H locs) (ls : Array Slot) (hl : lv_has ls 5 [(0, .ref h_o), (1, .int p1), (2, .int v2), (3, .int v3)]), WW H locs (F0 m 4 ls []) := by
    intro  n
    induction n with
    | zero => intro v2 v3 rr hf; exact (ds_it_zero hf).elim
    | succ n ih4 =>
      intro v2 v3 rr hf hG H locs hP hD hS ls hl
      refine h2 ?_
      obtain ⟨rr, hf, hG⟩ := ds_it_succ hf hG
      replace hf : fX8_orbitSize_4_b o_all_r o_rootOf_r p1 v2 v3 = some rr := hf
      obtain ⟨G1, eG1⟩ : ∃ G : ((Int32 × Int32) ⊕ (Int32)) → Prop, G = ds_G (fun s' => ∃ r', ds_it (fun s => fX8_orbitSize_4_b o_all_r o_rootOf_r p1 s.1 s.2) n s' = some r' ∧ G0 r') G0 := ⟨_, rfl⟩
      rw [← eG1] at hG
      have J_57 : ∀ (v2 : Int32) (v3 : Int32) (rr : (Int32 × Int32) ⊕ (Int32)) (hf : fX8_orbitSize_57 v2 v3 = some rr) (hG : G1 rr) (H : Heap) (locs : List Loc) (hP : va_P (dC, dI) vwCl [(h_o, .inr (7, [.ref h_o_plans, .ref h_o_makers, .ref h_o_halves, .int o_raised, .ref h_o_all, .ref h_o_text, .ref h_o_saved, .ref h_o_undone, .int o_undos, .int o_reached, .int o_length, .int o_begin, .int o_letters, .int o_sort, .long o_word, .int o_wrongAt, .int o_badAt, .int o_bad, .ref h_o_told, .ref h_o_shift, .int o_firstX, .int o_firstY, .int o_secondX, .int o_secondY, .ref h_o_rootOf, .ref h_o_becomes, .ref h_o_comes, .ref h_o_next, .int o_x])), (h_o_all, .inl (ca 0, 350, .inl o_all_r)), (h_o_rootOf, .inl (ca 0, 64, .inl o_rootOf_r))] H) (hD : va_D A [(h_o, .inr (7, [.ref h_o_plans, .ref h_o_makers, .ref h_o_halves, .int o_raised, .ref h_o_all, .ref h_o_text, .ref h_o_saved, .ref h_o_undone, .int o_undos, .int o_reached, .int o_length, .int o_begin, .int o_letters, .int o_sort, .long o_word, .int o_wrongAt, .int o_badAt, .int o_bad, .ref h_o_told, .ref h_o_shift, .int o_firstX, .int o_firstY, .int o_secondX, .int o_secondY, .ref h_o_rootOf, .ref h_o_becomes, .ref h_o_comes, .ref h_o_next, .int o_x])), (h_o_all, .inl (ca 0, 350, .inl o_all_r)), (h_o_rootOf, .inl (ca 0, 64, .inl o_rootOf_r))]) (hS : va_S A s.heap H locs) (ls : Array Slot) (hl : lv_has ls 5 [(0, .ref h_o), (1, .int p1), (2, .int v2), (3, .int v3)]), WW H locs (F0 m 57 ls []) := by
        intro v2 v3 rr hf hG H locs hP hD hS ls hl
        refine h2 ?_
        unfold fX8_orbitSize_57 at hf
        refine lv_iinc (v := (v3 + 1)) (lv' := [(3, .int (v3 + 1)), (0, .ref h_o), (1, .int p1), (2, .int v2)]) hx hb dX8_orbitSize_57 hl (k := 3) rfl rfl (by decide) rfl (fun ls hl => ?_)
        refine lv_goto (tgt := 4) hx hb dX8_orbitSize_60 (by decide) ?_
        have hf := Option.some.inj hf
        subst hf
        rw [eG1] at hG
        obtain ⟨rr, hf, hG⟩ := hG
        exact h1 (ih4 v2 (v3 + 1) rr hf hG _ _ hP hD hS _ (lv_sub hl [1, 2, 3, 0] rfl))
      have J_17 : ∀ (v3 : Int32) (n : Nat) (v2 : Int32) (v4 : Int32) (rr : (Int32 × Int32) ⊕ (Int32)) (hf : ds_it (fun s => fX8_orbitSize_17_b o_all_r o_rootOf_r p1 v3 s.1 s.2) n (v2, v4) = some rr) (hG : G1 rr) (H : Heap) (locs : List Loc) (hP : va_P (dC, dI) vwCl [(h_o, .inr (7, [.ref h_o_plans, .ref h_o_makers, .ref h_o_halves, .int o_raised, .ref h_o_all, .ref h_o_text, .ref h_o_saved, .ref h_o_undone, .int o_undos, .int o_reached, .int o_length, .int o_begin, .int o_letters, .int o_sort, .long o_word, .int o_wrongAt, .int o_badAt, .int o_bad, .ref h_o_told, .ref h_o_shift, .int o_firstX, .int o_firstY, .int o_secondX, .int o_secondY, .ref h_o_rootOf, .ref h_o_becomes, .ref h_o_comes, .ref h_o_next, .int o_x])), (h_o_all, .inl (ca 0, 350, .inl o_all_r)), (h_o_rootOf, .inl (ca 0, 64, .inl o_rootOf_r))] H) (hD : va_D A [(h_o, .inr (7, [.ref h_o_plans, .ref h_o_makers, .ref h_o_halves, .int o_raised, .ref h_o_all, .ref h_o_text, .ref h_o_saved, .ref h_o_undone, .int o_undos, .int o_reached, .int o_length, .int o_begin, .int o_letters, .int o_sort, .long o_word, .int o_wrongAt, .int o_badAt, .int o_bad, .ref h_o_told, .ref h_o_shift, .int o_firstX, .int o_firstY, .int o_secondX, .int o_secondY, .ref h_o_rootOf, .ref h_o_becomes, .ref h_o_comes, .ref h_o_next, .int o_x])), (h_o_all, .inl (ca 0, 350, .inl o_all_r)), (h_o_rootOf, .inl (ca 0, 64, .inl o_rootOf_r))]) (hS : va_S A s.heap H locs) (ls : Array Slot) (hl : lv_has ls 5 [(0, .ref h_o), (1, .int p1), (2, .int v2), (3, .int v3), (4, .int v4)]), WW H locs (F0 m 17 ls []) := by
        intro v3 n
        induction n with
        | zero => intro v2 v4 rr hf; exact (ds_it_zero hf).elim
        | succ n ih17 =>
          intro v2 v4 rr hf hG H locs hP hD hS ls hl
          refine h2 ?_
          obtain ⟨rr, hf, hG⟩ := ds_it_succ hf hG
          replace hf : fX8_orbitSize_17_b o_all_r o_rootOf_r p1 v3 v2 v4 = some rr := hf
          obtain ⟨G2, eG2⟩ : ∃ G : ((Int32 × Int32) ⊕ ((Int32 × Int32) ⊕ (Int32))) → Prop, G = ds_G (fun s' => ∃ r', ds_it (fun s => fX8_orbitSize_17_b o_all_r o_rootOf_r p1 v3 s.1 s.2) n s' = some r' ∧ G1 r') G1 := ⟨_, rfl⟩
          rw [← eG2] at hG
          have J_49 : ∀ (v4 : Int32) (s0 : Int32) (s1 : Int32) (rr : (Int32 × Int32) ⊕ ((Int32 × Int32) ⊕ (Int32))) (hf : fX8_orbitSize_49 v4 s0 s1 = some rr) (hG : G2 rr) (H : Heap) (locs : List Loc) (hP : va_P (dC, dI) vwCl [(h_o, .inr (7, [.ref h_o_plans, .ref h_o_makers, .ref h_o_halves, .int o_raised, .ref h_o_all, .ref h_o_text, .ref h_o_saved, .ref h_o_undone, .int o_undos, .int o_reached, .int o_length, .int o_begin, .int o_letters, .int o_sort, .long o_word, .int o_wrongAt, .int o_badAt, .int o_bad, .ref h_o_told, .ref h_o_shift, .int o_firstX, .int o_firstY, .int o_secondX, .int o_secondY, .ref h_o_rootOf, .ref h_o_becomes, .ref h_o_comes, .ref h_o_next, .int o_x])), (h_o_all, .inl (ca 0, 350, .inl o_all_r)), (h_o_rootOf, .inl (ca 0, 64, .inl o_rootOf_r))] H) (hD : va_D A [(h_o, .inr (7, [.ref h_o_plans, .ref h_o_makers, .ref h_o_halves, .int o_raised, .ref h_o_all, .ref h_o_text, .ref h_o_saved, .ref h_o_undone, .int o_undos, .int o_reached, .int o_length, .int o_begin, .int o_letters, .int o_sort, .long o_word, .int o_wrongAt, .int o_badAt, .int o_bad, .ref h_o_told, .ref h_o_shift, .int o_firstX, .int o_firstY, .int o_secondX, .int o_secondY, .ref h_o_rootOf, .ref h_o_becomes, .ref h_o_comes, .ref h_o_next, .int o_x])), (h_o_all, .inl (ca 0, 350, .inl o_all_r)), (h_o_rootOf, .inl (ca 0, 64, .inl o_rootOf_r))]) (hS : va_S A s.heap H locs) (ls : Array Slot) (hl : lv_has ls 5 [(0, .ref h_o), (1, .int p1), (3, .int v3), (4, .int v4)]), WW H locs (F0 m 49 ls [.int s0, .int s1]) := by
            intro v4 s0 s1 rr hf hG H locs hP hD hS ls hl
            refine h2 ?_
            unfold fX8_orbitSize_49 at hf
            refine lv_iadd hx hb dX8_orbitSize_49 ?_
            refine lv_istore_n (lv' := [(2, .int (s1 + s0)), (0, .ref h_o), (1, .int p1), (3, .int v3), (4, .int v4)]) hx hb dX8_orbitSize_50 rfl hl (by decide) rfl (fun ls hl => ?_)
            refine lv_iinc (v := (v4 + 1)) (lv' := [(4, .int (v4 + 1)), (2, .int (s1 + s0)), (0, .ref h_o), (1, .int p1), (3, .int v3)]) hx hb dX8_orbitSize_51 hl (k := 4) rfl rfl (by decide) rfl (fun ls hl => ?_)
            refine lv_goto (tgt := 17) hx hb dX8_orbitSize_54 (by decide) ?_
            have hf := Option.some.inj hf
            subst hf
            rw [eG2] at hG
            obtain ⟨rr, hf, hG⟩ := hG
            exact h1 (ih17 (s1 + s0) (v4 + 1) rr hf hG _ _ hP hD hS _ (lv_sub hl [2, 3, 1, 4, 0] rfl))
          unfold fX8_orbitSize_17_b at hf
          refine lv_iload hx hb dX8_orbitSize_17 (lv_at hl 4 rfl) ?_
          refine lv_aload_n hx hb dX8_orbitSize_19 rfl (lv_at hl 0 rfl) ?_
          refine va_get (D := (dC, dI)) (ci := 7) (v := .ref h_o_all) (C := RX8) (T := TX8) (N := 29) hx hb hts (fun w h => List.mem_cons_of_mem _ (kc_X8 w h)) hown hK hP 0 rfl rfl 4 (by decide) (hg kw_594) (fun _ h9 => h9) rfl dX8_orbitSize_20 ?_
          refine lv_iconst (v := 0) hx hb dX8_orbitSize_23 (by decide) ?_
          refine va_iald hx hb hK hP 1 0 rfl rfl (ds_in_ok (i := 0) (n := 350) (by decide)) dX8_orbitSize_24 ?_
          refine lv_icmp_ge (tgt := 57) hx hb dX8_orbitSize_25 (by decide) (fun c_25 => ?_) (fun c_25 => ?_)
          · replace hf := ds_t c_25 hf
            obtain ⟨rr, hr_0, hf⟩ := ds_ob hf
            have hf := Option.some.inj hf
            subst hf
            rw [eG2] at hG
            replace hG : G1 rr := hG
            have hf := hr_0
            exact h1 (J_57 v2 v3 _ hf hG _ _ hP hD hS _ (lv_sub hl [0, 1, 2, 3] rfl))
          · replace hf := ds_f c_25 hf
            refine lv_iload_n hx hb dX8_orbitSize_28 rfl (lv_at hl 2 rfl) ?_
            refine lv_aload_n hx hb dX8_orbitSize_29 rfl (lv_at hl 0 rfl) ?_
            refine lv_bipush (v := 8) hx hb dX8_orbitSize_30 (by decide) ?_
            refine lv_iload_n hx hb dX8_orbitSize_32 rfl (lv_at hl 3 rfl) ?_
            refine lv_imul hx hb dX8_orbitSize_33 ?_
            refine lv_iload hx hb dX8_orbitSize_34 (lv_at hl 4 rfl) ?_
            refine lv_iadd hx hb dX8_orbitSize_36 ?_
            obtain ⟨q37, hq37, hf⟩ := ds_ob hf
            refine ds_calli (wr := [(h_o_all, .inl (ca 0, 350, .inl o_all_r))]) (va_runV (As := [.int (((8 : Int32) * v3) + v4)]) (rest := [.int v2]) ⟨hx, hb, hml, hown, hts⟩ (c_X8_root l dC dI ca sa h_o h_o_plans h_o_makers h_o_halves h_o_all h_o_text h_o_saved h_o_undone h_o_told h_o_shift h_o_rootOf h_o_becomes h_o_comes h_o_next H.size o_raised o_undos o_reached o_length o_begin o_letters o_sort o_word o_wrongAt o_badAt o_bad o_firstX o_firstY o_secondX o_secondY o_x o_rootOf_r (((8 : Int32) * v3) + v4) q37 hq37) (cwV 1 hts (ds_gV kw_740 kw_741 kw_742 kw_597 kw_743) rfl rfl rfl (by decide +kernel) ⟨Nat.le_of_ble_eq_true rfl, Nat.le_of_ble_eq_true rfl⟩) ⟨ds_blind, va_recv hK hP (ci := 7) (q0 := 0) rfl rfl, ds_at hP hD hK hE hS hA [0, 2] rfl rfl _⟩ rfl rfl hl.1 rfl (lv_room (Nat.le_of_ble_eq_true rfl)) dX8_orbitSize_37 ⟨Nat.zero_le _, Nat.zero_le _⟩) hP hD hS hA [0, 2] [1] rfl rfl rfl (by decide) (fun H locs hP hD hS => ?_)
            have hP : va_P (dC, dI) vwCl [(h_o_all, .inl (ca 0, 350, .inl o_all_r)), (h_o, .inr (7, [.ref h_o_plans, .ref h_o_makers, .ref h_o_halves, .int o_raised, .ref h_o_all, .ref h_o_text, .ref h_o_saved, .ref h_o_undone, .int o_undos, .int o_reached, .int o_length, .int o_begin, .int o_letters, .int o_sort, .long o_word, .int o_wrongAt, .int o_badAt, .int o_bad, .ref h_o_told, .ref h_o_shift, .int o_firstX, .int o_firstY, .int o_secondX, .int o_secondY, .ref h_o_rootOf, .ref h_o_becomes, .ref h_o_comes, .ref h_o_next, .int o_x])), (h_o_rootOf, .inl (ca 0, 64, .inl o_rootOf_r))] H := hP
            have hD : va_D A [(h_o_all, .inl (ca 0, 350, .inl o_all_r)), (h_o, .inr (7, [.ref h_o_plans, .ref h_o_makers, .ref h_o_halves, .int o_raised, .ref h_o_all, .ref h_o_text, .ref h_o_saved, .ref h_o_undone, .int o_undos, .int o_reached, .int o_length, .int o_begin, .int o_letters, .int o_sort, .long o_word, .int o_wrongAt, .int o_badAt, .int o_bad, .ref h_o_told, .ref h_o_shift, .int o_firstX, .int o_firstY, .int o_secondX, .int o_secondY, .ref h_o_rootOf, .ref h_o_becomes, .ref h_o_comes, .ref h_o_next, .int o_x])), (h_o_rootOf, .inl (ca 0, 64, .inl o_rootOf_r))] := hD
            refine lv_iload_n hx hb dX8_orbitSize_40 rfl (lv_at hl 1 rfl) ?_
            refine lv_icmp_ne (tgt := 48) hx hb dX8_orbitSize_41 (by decide) (fun c_41 => ?_) (fun c_41 => ?_)
            · replace hf := ds_f c_41 hf
              refine lv_iconst (v := 0) hx hb dX8_orbitSize_48 (by decide) ?_
              exact h1 (J_49 v4 (0 : Int32) v2 _ hf hG _ _ (hP.sub [1, 0, 2] rfl) (hD.sub [1, 0, 2] rfl rfl) hS _ (lv_sub hl [0, 1, 3, 4] rfl))
            · replace hf := ds_t c_41 hf
              refine lv_iconst (v := 1) hx hb dX8_orbitSize_44 (by decide) ?_
              refine lv_goto (tgt := 49) hx hb dX8_orbitSize_45 (by decide) ?_
              exact h1 (J_49 v4 (1 : Int32) v2 _ hf hG _ _ (hP.sub [1, 0, 2] rfl) (hD.sub [1, 0, 2] rfl rfl) hS _ (lv_sub hl [0, 1, 3, 4] rfl))
      unfold fX8_orbitSize_4_b at hf
      refine lv_iload_n hx hb dX8_orbitSize_4 rfl (lv_at hl 3 rfl) ?_
      refine lv_aload_n hx hb dX8_orbitSize_5 rfl (lv_at hl 0 rfl) ?_
      refine va_get (D := (dC, dI)) (ci := 7) (v := .ref h_o_all) (C := RX8) (T := TX8) (N := 29) hx hb hts (fun w h => List.mem_cons_of_mem _ (kc_X8 w h)) hown hK hP 0 rfl rfl 4 (by decide) (hg kw_594) (fun _ h9 => h9) rfl dX8_orbitSize_6 ?_
      refine lv_iconst (v := 1) hx hb dX8_orbitSize_9 (by decide) ?_
      refine va_iald hx hb hK hP 1 0 rfl rfl (ds_in_ok (i := 1) (n := 350) (by decide)) dX8_orbitSize_10 ?_
      refine lv_icmp_ge (tgt := 63) hx hb dX8_orbitSize_11 (by decide) (fun c_11 => ?_) (fun c_11 => ?_)
      · replace hf := ds_t c_11 hf
        refine lv_iload_n hx hb dX8_orbitSize_63 rfl (lv_at hl 2 rfl) ?_
        have hf := Option.some.inj hf
        subst hf
        rw [eG1] at hG
        replace hG : G0 _ := hG
        rw [eG0] at hG
        have hG : _ = res := hG
        subst hG
        exact W.iret (v := v2) hx hb hr (fun t ht hW => ⟨⟨v2, (), rfl, rfl, by rw [ht]; exact hP, hD⟩, hS.F ht⟩) hS.2.2 dX8_orbitSize_64
      · replace hf := ds_f c_11 hf
        refine lv_iconst (v := 0) hx hb dX8_orbitSize_14 (by decide) ?_
        refine lv_istore (lv' := [(4, .int (0 : Int32)), (0, .ref h_o), (1, .int p1), (2, .int v2), (3, .int v3)]) hx hb dX8_orbitSize_15 hl (by decide) rfl (fun ls hl => ?_)
        exact h1 (J_17 v3 1000 v2 (0 : Int32) _ hf hG _ _ hP hD hS _ (lv_sub hl [1, 2, 3, 4, 0] rfl))
  unfold fX8_orbitSize at hf
  refine lv_iconst (v := 0) hx hb dX8_orbitSize_0 (by decide) ?_
  refine lv_istore_n (lv' := [(2, .int (0 : Int32)), (0, .ref h_o), (1, .int p1)]) hx hb dX8_orbitSize_1 rfl hl (by decide) rfl (fun ls hl => ?_)
  refine lv_iconst (v := 0) hx hb dX8_orbitSize_2 (by decide) ?_
  refine lv_istore_n (lv' := [(3, .int (0 : Int32)), (2, .int (0 : Int32)), (0, .ref h_o), (1, .int p1)]) hx hb dX8_orbitSize_3 rfl hl (by decide) rfl (fun ls hl => ?_)
  exact h1 (J_4  1000 (0 : Int32) (0 : Int32) _ hf hG _ _ hP hD hS _ (lv_sub hl [2, 3, 1, 0] rfl))
theorem dX8_ofColour_0 : decode cX8_ofColour 0 = .ok (.iconst 0, 1) := by decide +kernel
theorem dX8_ofColour_1 : decode cX8_ofColour 1 = .ok (.istore_n 3, 1) := by decide +kernel
theorem dX8_ofColour_2 : decode cX8_ofColour 2 = .ok (.iconst 0, 1) := by decide +kernel
theorem dX8_ofColour_3 : decode cX8_ofColour 3 = .ok (.istore 4, 2) := by decide +kernel
theorem dX8_ofColour_5 : decode cX8_ofColour 5 = .ok (.iload 4, 2) := by decide +kernel
theorem dX8_ofColour_7 : decode cX8_ofColour 7 = .ok (.aload_n 0, 1) := by decide +kernel
theorem dX8_ofColour_8 : decode cX8_ofColour 8 = .ok (.getfield 19, 3) := by decide +kernel
theorem dX8_ofColour_11 : decode cX8_ofColour 11 = .ok (.iconst 1, 1) := by decide +kernel
theorem dX8_ofColour_12 : decode cX8_ofColour 12 = .ok (.iaload, 1) := by decide +kernel
theorem dX8_ofColour_13 : decode cX8_ofColour 13 = .ok (.if_icmp .ge 65, 3) := by decide +kernel
theorem dX8_ofColour_16 : decode cX8_ofColour 16 = .ok (.iconst 0, 1) := by decide +kernel
theorem dX8_ofColour_17 : decode cX8_ofColour 17 = .ok (.istore 5, 2) := by decide +kernel
theorem dX8_ofColour_19 : decode cX8_ofColour 19 = .ok (.iload 5, 2) := by decide +kernel
theorem dX8_ofColour_21 : decode cX8_ofColour 21 = .ok (.aload_n 0, 1) := by decide +kernel
theorem dX8_ofColour_22 : decode cX8_ofColour 22 = .ok (.getfield 19, 3) := by decide +kernel
theorem dX8_ofColour_25 : decode cX8_ofColour 25 = .ok (.iconst 0, 1) := by decide +kernel
theorem dX8_ofColour_26 : decode cX8_ofColour 26 = .ok (.iaload, 1) := by decide +kernel
theorem dX8_ofColour_27 : decode cX8_ofColour 27 = .ok (.if_icmp .ge 45, 3) := by decide +kernel
theorem dX8_ofColour_30 : decode cX8_ofColour 30 = .ok (.iload_n 3, 1) := by decide +kernel
theorem dX8_ofColour_31 : decode cX8_ofColour 31 = .ok (.aload_n 0, 1) := by decide +kernel
theorem dX8_ofColour_32 : decode cX8_ofColour 32 = .ok (.bipush 8, 2) := by decide +kernel
theorem dX8_ofColour_34 : decode cX8_ofColour 34 = .ok (.iload 4, 2) := by decide +kernel
theorem dX8_ofColour_36 : decode cX8_ofColour 36 = .ok (.imul, 1) := by decide +kernel
theorem dX8_ofColour_37 : decode cX8_ofColour 37 = .ok (.iload 5, 2) := by decide +kernel
theorem dX8_ofColour_39 : decode cX8_ofColour 39 = .ok (.iadd, 1) := by decide +kernel
theorem dX8_ofColour_40 : decode cX8_ofColour 40 = .ok (.invokevirtual 207, 3) := by decide +kernel
theorem dX8_ofColour_43 : decode cX8_ofColour 43 = .ok (.iload_n 1, 1) := by decide +kernel
theorem dX8_ofColour_44 : decode cX8_ofColour 44 = .ok (.if_icmp .ne 19, 3) := by decide +kernel
theorem dX8_ofColour_47 : decode cX8_ofColour 47 = .ok (.aload_n 0, 1) := by decide +kernel
theorem dX8_ofColour_48 : decode cX8_ofColour 48 = .ok (.iload 5, 2) := by decide +kernel
theorem dX8_ofColour_50 : decode cX8_ofColour 50 = .ok (.iload 4, 2) := by decide +kernel
theorem dX8_ofColour_52 : decode cX8_ofColour 52 = .ok (.invokevirtual 127, 3) := by decide +kernel
theorem dX8_ofColour_55 : decode cX8_ofColour 55 = .ok (.iload_n 2, 1) := by decide +kernel
theorem dX8_ofColour_56 : decode cX8_ofColour 56 = .ok (.if_icmp .ne 7, 3) := by decide +kernel
theorem dX8_ofColour_59 : decode cX8_ofColour 59 = .ok (.iconst 1, 1) := by decide +kernel
theorem dX8_ofColour_60 : decode cX8_ofColour 60 = .ok (.goto 4, 3) := by decide +kernel
theorem dX8_ofColour_63 : decode cX8_ofColour 63 = .ok (.iconst 0, 1) := by decide +kernel
theorem dX8_ofColour_64 : decode cX8_ofColour 64 = .ok (.iadd, 1) := by decide +kernel
theorem dX8_ofColour_65 : decode cX8_ofColour 65 = .ok (.istore_n 3, 1) := by decide +kernel
theorem dX8_ofColour_66 : decode cX8_ofColour 66 = .ok (.iinc 5 1, 3) := by decide +kernel
theorem dX8_ofColour_69 : decode cX8_ofColour 69 = .ok (.goto (-50), 3) := by decide +kernel
theorem dX8_ofColour_72 : decode cX8_ofColour 72 = .ok (.iinc 4 1, 3) := by decide +kernel
theorem dX8_ofColour_75 : decode cX8_ofColour 75 = .ok (.goto (-70), 3) := by decide +kernel
theorem dX8_ofColour_78 : decode cX8_ofColour 78 = .ok (.iload_n 3, 1) := by decide +kernel
theorem dX8_ofColour_79 : decode cX8_ofColour 79 = .ok (.ireturn, 1) := by decide +kernel
def fX8_ofColour_72 (v3 : Int32) (v4 : Int32) : Option ((Int32 × Int32) ⊕ (Int32)) :=
  some (.inl (v3, (v4 + 1)))
def fX8_ofColour_64 (v5 : Int32) (s0 : Int32) (s1 : Int32) : Option ((Int32 × Int32) ⊕ ((Int32 × Int32) ⊕ (Int32))) :=
  some (.inl ((s1 + s0), (v5 + 1)))
def fX8_ofColour_63 (v5 : Int32) (s0 : Int32) : Option ((Int32 × Int32) ⊕ ((Int32 × Int32) ⊕ (Int32))) :=
  fX8_ofColour_64 v5 (0 : Int32) s0
def fX8_ofColour_19_b (o_all_r : Nat → Int32) (o_rootOf_r : Nat → Int32) (p1 : Int32) (p2 : Int32) (v4 : Int32) (v3 : Int32) (v5 : Int32) : Option ((Int32 × Int32) ⊕ ((Int32 × Int32) ⊕ (Int32))) :=
  if (o_all_r (0 : Int32).toNatClampNeg) ≤ v5 then Option.bind (fX8_ofColour_72 v3 v4) fun z => some (.inr z) else Option.bind (fX8_root o_rootOf_r (((8 : Int32) * v4) + v5)) fun q40 => if q40 = p1 then Option.bind (fX8_colour o_all_r v5 v4) fun q52 => if q52 = p2 then fX8_ofColour_64 v5 (1 : Int32) v3 else fX8_ofColour_63 v5 v3 else fX8_ofColour_63 v5 v3
def fX8_ofColour_19 (o_all_r : Nat → Int32) (o_rootOf_r : Nat → Int32) (p1 : Int32) (p2 : Int32) (v4 : Int32) (v3 : Int32) (v5 : Int32) : Option ((Int32 × Int32) ⊕ (Int32)) := ds_it (fun s => fX8_ofColour_19_b o_all_r o_rootOf_r p1 p2 v4 s.1 s.2) 1000 (v3, v5)
def fX8_ofColour_5_b (o_all_r : Nat → Int32) (o_rootOf_r : Nat → Int32) (p1 : Int32) (p2 : Int32) (v3 : Int32) (v4 : Int32) : Option ((Int32 × Int32) ⊕ (Int32)) :=
  if (o_all_r (1 : Int32).toNatClampNeg) ≤ v4 then some (.inr v3) else fX8_ofColour_19 o_all_r o_rootOf_r p1 p2 v4 v3 (0 : Int32)
def fX8_ofColour_5 (o_all_r : Nat → Int32) (o_rootOf_r : Nat → Int32) (p1 : Int32) (p2 : Int32) (v3 : Int32) (v4 : Int32) : Option (Int32) := ds_it (fun s => fX8_ofColour_5_b o_all_r o_rootOf_r p1 p2 s.1 s.2) 1000 (v3, v4)
def fX8_ofColour (o_all_r : Nat → Int32) (o_rootOf_r : Nat → Int32) (p1 : Int32) (p2 : Int32) : Option (Int32) :=
  fX8_ofColour_5 o_all_r o_rootOf_r p1 p2 (0 : Int32) (0 : Int32)
set_option maxHeartbeats 4000000 in
set_option maxRecDepth 100000 in
theorem c_X8_ofColour (l : Launch) (dC : Nat → ClassId) (dI : Nat → Nat → Nat) (ca : Nat → ClassId) (sa : Nat → Nat) (h_o : Nat) (h_o_plans : Nat) (h_o_makers : Nat) (h_o_halves : Nat) (h_o_all : Nat) (h_o_text : Nat) (h_o_saved : Nat) (h_o_undone : Nat) (h_o_told : Nat) (h_o_shift : Nat) (h_o_rootOf : Nat) (h_o_becomes : Nat) (h_o_comes : Nat) (h_o_next : Nat) (sz : Nat) (o_raised : Int32) (o_undos : Int32) (o_reached : Int32) (o_length : Int32) (o_begin : Int32) (o_letters : Int32) (o_sort : Int32) (o_word : Int64) (o_wrongAt : Int32) (o_badAt : Int32) (o_bad : Int32) (o_firstX : Int32) (o_firstY : Int32) (o_secondX : Int32) (o_secondY : Int32) (o_x : Int32) (o_all_r : Nat → Int32) (o_rootOf_r : Nat → Int32) (p1 : Int32) (p2 : Int32) (res : Int32) (hf : fX8_ofColour o_all_r o_rootOf_r p1 p2 = some res) : Met l yX8_ofColour (Cond.code yX8_ofColour cX8_ofColour 6 (some .int) :: ds_gw) { frames := 3, cells := 0, slots := 0, locals := 66 } (va_Pc [.ref h_o, .int p1, .int p2] (ds_Pre dC dI ca sa [(h_o, .inr (7, [.ref h_o_plans, .ref h_o_makers, .ref h_o_halves, .int o_raised, .ref h_o_all, .ref h_o_text, .ref h_o_saved, .ref h_o_undone, .int o_undos, .int o_reached, .int o_length, .int o_begin, .int o_letters, .int o_sort, .long o_word, .int o_wrongAt, .int o_badAt, .int o_bad, .ref h_o_told, .ref h_o_shift, .int o_firstX, .int o_firstY, .int o_secondX, .int o_secondY, .ref h_o_rootOf, .ref h_o_becomes, .ref h_o_comes, .ref h_o_next, .int o_x])), (h_o_all, .inl (ca 0, 350, .inl o_all_r)), (h_o_rootOf, .inl (ca 0, 64, .inl o_rootOf_r))] sz)) (va_Qi (fun r (_ : Unit) => r = res) (ds_B dC dI (va_A [(h_o, .inr (7, [.ref h_o_plans, .ref h_o_makers, .ref h_o_halves, .int o_raised, .ref h_o_all, .ref h_o_text, .ref h_o_saved, .ref h_o_undone, .int o_undos, .int o_reached, .int o_length, .int o_begin, .int o_letters, .int o_sort, .long o_word, .int o_wrongAt, .int o_badAt, .int o_bad, .ref h_o_told, .ref h_o_shift, .int o_firstX, .int o_firstY, .int o_secondX, .int o_secondY, .ref h_o_rootOf, .ref h_o_becomes, .ref h_o_comes, .ref h_o_next, .int o_x])), (h_o_all, .inl (ca 0, 350, .inl o_all_r)), (h_o_rootOf, .inl (ca 0, 64, .inl o_rootOf_r))] sz) [(h_o, .inr (7, [.ref h_o_plans, .ref h_o_makers, .ref h_o_halves, .int o_raised, .ref h_o_all, .ref h_o_text, .ref h_o_saved, .ref h_o_undone, .int o_undos, .int o_reached, .int o_length, .int o_begin, .int o_letters, .int o_sort, .long o_word, .int o_wrongAt, .int o_badAt, .int o_bad, .ref h_o_told, .ref h_o_shift, .int o_firstX, .int o_firstY, .int o_secondX, .int o_secondY, .ref h_o_rootOf, .ref h_o_becomes, .ref h_o_comes, .ref h_o_next, .int o_x])), (h_o_all, .inl (ca 0, 350, .inl o_all_r)), (h_o_rootOf, .inl (ca 0, 64, .inl o_rootOf_r))]) (va_A [(h_o, .inr (7, [.ref h_o_plans, .ref h_o_makers, .ref h_o_halves, .int o_raised, .ref h_o_all, .ref h_o_text, .ref h_o_saved, .ref h_o_undone, .int o_undos, .int o_reached, .int o_length, .int o_begin, .int o_letters, .int o_sort, .long o_word, .int o_wrongAt, .int o_badAt, .int o_bad, .ref h_o_told, .ref h_o_shift, .int o_firstX, .int o_firstY, .int o_secondX, .int o_secondY, .ref h_o_rootOf, .ref h_o_becomes, .ref h_o_comes, .ref h_o_next, .int o_x])), (h_o_all, .inl (ca 0, 350, .inl o_all_r)), (h_o_rootOf, .inl (ca 0, 64, .inl o_rootOf_r))] sz)) 0 0 (va_A [(h_o, .inr (7, [.ref h_o_plans, .ref h_o_makers, .ref h_o_halves, .int o_raised, .ref h_o_all, .ref h_o_text, .ref h_o_saved, .ref h_o_undone, .int o_undos, .int o_reached, .int o_length, .int o_begin, .int o_letters, .int o_sort, .long o_word, .int o_wrongAt, .int o_badAt, .int o_bad, .ref h_o_told, .ref h_o_shift, .int o_firstX, .int o_firstY, .int o_secondX, .int o_secondY, .ref h_o_rootOf, .ref h_o_becomes, .ref h_o_comes, .ref h_o_next, .int o_x])), (h_o_all, .inl (ca 0, 350, .inl o_all_r)), (h_o_rootOf, .inl (ca 0, 64, .inl o_rootOf_r))] sz) := by
  refine Met.ofW (cc := cX8_ofColour) (maxL := 6) (ret := (some .int)) (by decide) rfl ?_
  intro p e s m args below meth c s₁ B hml hv
  obtain ⟨rfl, hsz, hP, hK, hD0, hE⟩ := hv
  have hx := B.exec
  have hb := B.bytes
  have hr := B.returns
  have hts := atoms_spec (ws := Cond.code yX8_ofColour cX8_ofColour 6 (some .int) :: ds_gw) B.pre
  have hg : ∀ {w : Cond}, w ∈ ds_gw → w.before _ s = true := fun h => hts _ (List.mem_cons_of_mem _ h)
  have hown : s.vm.findClass RX8 = some m.cls := findClass_of_methodNamed B.named
  have hlocks := B.notSynchronized
  subst hsz
  have hD := hD0.self (sz := s.heap.size)
  generalize hAe : va_A [(h_o, .inr (7, [.ref h_o_plans, .ref h_o_makers, .ref h_o_halves, .int o_raised, .ref h_o_all, .ref h_o_text, .ref h_o_saved, .ref h_o_undone, .int o_undos, .int o_reached, .int o_length, .int o_begin, .int o_letters, .int o_sort, .long o_word, .int o_wrongAt, .int o_badAt, .int o_bad, .ref h_o_told, .ref h_o_shift, .int o_firstX, .int o_firstY, .int o_secondX, .int o_secondY, .ref h_o_rootOf, .ref h_o_becomes, .ref h_o_comes, .ref h_o_next, .int o_x])), (h_o_all, .inl (ca 0, 350, .inl o_all_r)), (h_o_rootOf, .inl (ca 0, 64, .inl o_rootOf_r))] s.heap.size = A at hD hE ⊢
  have hA : ∀ q : Nat, s.heap.size ≤ q → A q := fun q h => by rw [← hAe]; exact Or.inr h
  have hS : va_S A s.heap s.heap [] := va_S.rf
  have hl := lv_entry ([.ref h_o, .int p1, .int p2]) (n := 6) (Nat.le_of_ble_eq_true rfl)
  rw [lg_entry_eq]
  generalize (lg_sl ([.ref h_o, .int p1, .int p2]) ++ List.replicate (6 - (lg_sl ([.ref h_o, .int p1, .int p2])).length) Slot.unset).toArray = ls at hl ⊢
  have hl : lv_has ls 6 [(0, .ref h_o), (1, .int p1), (2, .int p2)] := hl
  obtain ⟨G0, eG0⟩ : ∃ G : Int32 → Prop, G = (fun r => r = res) := ⟨_, rfl⟩
  obtain ⟨rr, hrr⟩ : ∃ z, z = res := ⟨_, rfl⟩
  rw [← hrr] at hf
  have hG : G0 rr := by subst eG0; exact hrr
  refine ds_cap (fun WW h1 h2 => ?_)
  have J_5 : ∀ (n : Nat) (v3 : Int32) (v4 : Int32) (rr : Int32) (hf : ds_it (fun s => fX8_ofColour_5_b o_all_r o_rootOf_r p1 p2 s.1 s.2) n (v3, v4) = some rr) (hG : G0 rr) (H : Heap) (locs : List Loc) (hP : va_P (dC, dI) vwCl [(h_o, .inr (7, [.ref h_o_plans, .ref h_o_makers, .ref h_o_halves, .int o_raised, .ref h_o_all, .ref h_o_text, .ref h_o_saved, .ref h_o_undone, .int o_undos, .int o_reached, .int o_length, .int o_begin, .int o_letters, .int o_sort, .long o_word, .int o_wrongAt, .int o_badAt, .int o_bad, .ref h_o_told, .ref h_o_shift, .int o_firstX, .int o_firstY, .int o_secondX, .int o_secondY, .ref h_o_rootOf, .ref h_o_becomes, .ref h_o_comes, .ref h_o_next, .int o_x])), (h_o_all, .inl (ca 0, 350, .inl o_all_r)), (h_o_rootOf, .inl (ca 0, 64, .inl o_rootOf_r))] H) (hD : va_D A [(h_o, .inr (7, [.ref h_o_plans, .ref h_o_makers, .ref h_o_halves, .int o_raised, .ref h_o_all, .ref h_o_text, .ref h_o_saved, .ref h_o_undone, .int o_undos, .int o_reached, .int o_length, .int o_begin, .int o_letters, .int o_sort, .long o_word, .int o_wrongAt, .int o_badAt, .int o_bad, .ref h_o_told, .ref h_o_shift, .int o_firstX, .int o_firstY, .int o_secondX, .int o_secondY, .ref h_o_rootOf, .ref h_o_becomes, .ref h_o_comes, .ref h_o_next, .int o_x])), (h_o_all, .inl (ca 0, 350, .inl o_all_r)), (h_o_rootOf, .inl (ca 0, 64, .inl o_rootOf_r))]) (hS : va_S A s.heap H locs) (ls : Array Slot) (hl : lv_has ls 6 [(0, .ref h_o), (1, .int p1), (2, .int p2), (3, .int v3), (4, .int v4)]), WW H locs (F0 m 5 ls []) := by
    intro  n
    induction n with
    | zero => intro v3 v4 rr hf; exact (ds_it_zero hf).elim
    | succ n ih5 =>
      intro v3 v4 rr hf hG H locs hP hD hS ls hl
      refine h2 ?_
      obtain ⟨rr, hf, hG⟩ := ds_it_succ hf hG
      replace hf : fX8_ofColour_5_b o_all_r o_rootOf_r p1 p2 v3 v4 = some rr := hf
      obtain ⟨G1, eG1⟩ : ∃ G : ((Int32 × Int32) ⊕ (Int32)) → Prop, G = ds_G (fun s' => ∃ r', ds_it (fun s => fX8_ofColour_5_b o_all_r o_rootOf_r p1 p2 s.1 s.2) n s' = some r' ∧ G0 r') G0 := ⟨_, rfl⟩
      rw [← eG1] at hG
      have J_72 : ∀ (v3 : Int32) (v4 : Int32) (rr : (Int32 × Int32) ⊕ (Int32)) (hf : fX8_ofColour_72 v3 v4 = some rr) (hG : G1 rr) (H : Heap) (locs : List Loc) (hP : va_P (dC, dI) vwCl [(h_o, .inr (7, [.ref h_o_plans, .ref h_o_makers, .ref h_o_halves, .int o_raised, .ref h_o_all, .ref h_o_text, .ref h_o_saved, .ref h_o_undone, .int o_undos, .int o_reached, .int o_length, .int o_begin, .int o_letters, .int o_sort, .long o_word, .int o_wrongAt, .int o_badAt, .int o_bad, .ref h_o_told, .ref h_o_shift, .int o_firstX, .int o_firstY, .int o_secondX, .int o_secondY, .ref h_o_rootOf, .ref h_o_becomes, .ref h_o_comes, .ref h_o_next, .int o_x])), (h_o_all, .inl (ca 0, 350, .inl o_all_r)), (h_o_rootOf, .inl (ca 0, 64, .inl o_rootOf_r))] H) (hD : va_D A [(h_o, .inr (7, [.ref h_o_plans, .ref h_o_makers, .ref h_o_halves, .int o_raised, .ref h_o_all, .ref h_o_text, .ref h_o_saved, .ref h_o_undone, .int o_undos, .int o_reached, .int o_length, .int o_begin, .int o_letters, .int o_sort, .long o_word, .int o_wrongAt, .int o_badAt, .int o_bad, .ref h_o_told, .ref h_o_shift, .int o_firstX, .int o_firstY, .int o_secondX, .int o_secondY, .ref h_o_rootOf, .ref h_o_becomes, .ref h_o_comes, .ref h_o_next, .int o_x])), (h_o_all, .inl (ca 0, 350, .inl o_all_r)), (h_o_rootOf, .inl (ca 0, 64, .inl o_rootOf_r))]) (hS : va_S A s.heap H locs) (ls : Array Slot) (hl : lv_has ls 6 [(0, .ref h_o), (1, .int p1), (2, .int p2), (3, .int v3), (4, .int v4)]), WW H locs (F0 m 72 ls []) := by
        intro v3 v4 rr hf hG H locs hP hD hS ls hl
        refine h2 ?_
        unfold fX8_ofColour_72 at hf
        refine lv_iinc (v := (v4 + 1)) (lv' := [(4, .int (v4 + 1)), (0, .ref h_o), (1, .int p1), (2, .int p2), (3, .int v3)]) hx hb dX8_ofColour_72 hl (k := 4) rfl rfl (by decide) rfl (fun ls hl => ?_)
        refine lv_goto (tgt := 5) hx hb dX8_ofColour_75 (by decide) ?_
        have hf := Option.some.inj hf
        subst hf
        rw [eG1] at hG
        obtain ⟨rr, hf, hG⟩ := hG
        exact h1 (ih5 v3 (v4 + 1) rr hf hG _ _ hP hD hS _ (lv_sub hl [1, 2, 3, 4, 0] rfl))
      have J_19 : ∀ (v4 : Int32) (n : Nat) (v3 : Int32) (v5 : Int32) (rr : (Int32 × Int32) ⊕ (Int32)) (hf : ds_it (fun s => fX8_ofColour_19_b o_all_r o_rootOf_r p1 p2 v4 s.1 s.2) n (v3, v5) = some rr) (hG : G1 rr) (H : Heap) (locs : List Loc) (hP : va_P (dC, dI) vwCl [(h_o, .inr (7, [.ref h_o_plans, .ref h_o_makers, .ref h_o_halves, .int o_raised, .ref h_o_all, .ref h_o_text, .ref h_o_saved, .ref h_o_undone, .int o_undos, .int o_reached, .int o_length, .int o_begin, .int o_letters, .int o_sort, .long o_word, .int o_wrongAt, .int o_badAt, .int o_bad, .ref h_o_told, .ref h_o_shift, .int o_firstX, .int o_firstY, .int o_secondX, .int o_secondY, .ref h_o_rootOf, .ref h_o_becomes, .ref h_o_comes, .ref h_o_next, .int o_x])), (h_o_all, .inl (ca 0, 350, .inl o_all_r)), (h_o_rootOf, .inl (ca 0, 64, .inl o_rootOf_r))] H) (hD : va_D A [(h_o, .inr (7, [.ref h_o_plans, .ref h_o_makers, .ref h_o_halves, .int o_raised, .ref h_o_all, .ref h_o_text, .ref h_o_saved, .ref h_o_undone, .int o_undos, .int o_reached, .int o_length, .int o_begin, .int o_letters, .int o_sort, .long o_word, .int o_wrongAt, .int o_badAt, .int o_bad, .ref h_o_told, .ref h_o_shift, .int o_firstX, .int o_firstY, .int o_secondX, .int o_secondY, .ref h_o_rootOf, .ref h_o_becomes, .ref h_o_comes, .ref h_o_next, .int o_x])), (h_o_all, .inl (ca 0, 350, .inl o_all_r)), (h_o_rootOf, .inl (ca 0, 64, .inl o_rootOf_r))]) (hS : va_S A s.heap H locs) (ls : Array Slot) (hl : lv_has ls 6 [(0, .ref h_o), (1, .int p1), (2, .int p2), (3, .int v3), (4, .int v4), (5, .int v5)]), WW H locs (F0 m 19 ls []) := by
        intro v4 n
        induction n with
        | zero => intro v3 v5 rr hf; exact (ds_it_zero hf).elim
        | succ n ih19 =>
          intro v3 v5 rr hf hG H locs hP hD hS ls hl
          refine h2 ?_
          obtain ⟨rr, hf, hG⟩ := ds_it_succ hf hG
          replace hf : fX8_ofColour_19_b o_all_r o_rootOf_r p1 p2 v4 v3 v5 = some rr := hf
          obtain ⟨G2, eG2⟩ : ∃ G : ((Int32 × Int32) ⊕ ((Int32 × Int32) ⊕ (Int32))) → Prop, G = ds_G (fun s' => ∃ r', ds_it (fun s => fX8_ofColour_19_b o_all_r o_rootOf_r p1 p2 v4 s.1 s.2) n s' = some r' ∧ G1 r') G1 := ⟨_, rfl⟩
          rw [← eG2] at hG
          have J_64 : ∀ (v5 : Int32) (s0 : Int32) (s1 : Int32) (rr : (Int32 × Int32) ⊕ ((Int32 × Int32) ⊕ (Int32))) (hf : fX8_ofColour_64 v5 s0 s1 = some rr) (hG : G2 rr) (H : Heap) (locs : List Loc) (hP : va_P (dC, dI) vwCl [(h_o, .inr (7, [.ref h_o_plans, .ref h_o_makers, .ref h_o_halves, .int o_raised, .ref h_o_all, .ref h_o_text, .ref h_o_saved, .ref h_o_undone, .int o_undos, .int o_reached, .int o_length, .int o_begin, .int o_letters, .int o_sort, .long o_word, .int o_wrongAt, .int o_badAt, .int o_bad, .ref h_o_told, .ref h_o_shift, .int o_firstX, .int o_firstY, .int o_secondX, .int o_secondY, .ref h_o_rootOf, .ref h_o_becomes, .ref h_o_comes, .ref h_o_next, .int o_x])), (h_o_all, .inl (ca 0, 350, .inl o_all_r)), (h_o_rootOf, .inl (ca 0, 64, .inl o_rootOf_r))] H) (hD : va_D A [(h_o, .inr (7, [.ref h_o_plans, .ref h_o_makers, .ref h_o_halves, .int o_raised, .ref h_o_all, .ref h_o_text, .ref h_o_saved, .ref h_o_undone, .int o_undos, .int o_reached, .int o_length, .int o_begin, .int o_letters, .int o_sort, .long o_word, .int o_wrongAt, .int o_badAt, .int o_bad, .ref h_o_told, .ref h_o_shift, .int o_firstX, .int o_firstY, .int o_secondX, .int o_secondY, .ref h_o_rootOf, .ref h_o_becomes, .ref h_o_comes, .ref h_o_next, .int o_x])), (h_o_all, .inl (ca 0, 350, .inl o_all_r)), (h_o_rootOf, .inl (ca 0, 64, .inl o_rootOf_r))]) (hS : va_S A s.heap H locs) (ls : Array Slot) (hl : lv_has ls 6 [(0, .ref h_o), (1, .int p1), (2, .int p2), (4, .int v4), (5, .int v5)]), WW H locs (F0 m 64 ls [.int s0, .int s1]) := by
            intro v5 s0 s1 rr hf hG H locs hP hD hS ls hl
            refine h2 ?_
            unfold fX8_ofColour_64 at hf
            refine lv_iadd hx hb dX8_ofColour_64 ?_
            refine lv_istore_n (lv' := [(3, .int (s1 + s0)), (0, .ref h_o), (1, .int p1), (2, .int p2), (4, .int v4), (5, .int v5)]) hx hb dX8_ofColour_65 rfl hl (by decide) rfl (fun ls hl => ?_)
            refine lv_iinc (v := (v5 + 1)) (lv' := [(5, .int (v5 + 1)), (3, .int (s1 + s0)), (0, .ref h_o), (1, .int p1), (2, .int p2), (4, .int v4)]) hx hb dX8_ofColour_66 hl (k := 5) rfl rfl (by decide) rfl (fun ls hl => ?_)
            refine lv_goto (tgt := 19) hx hb dX8_ofColour_69 (by decide) ?_
            have hf := Option.some.inj hf
            subst hf
            rw [eG2] at hG
            obtain ⟨rr, hf, hG⟩ := hG
            exact h1 (ih19 (s1 + s0) (v5 + 1) rr hf hG _ _ hP hD hS _ (lv_sub hl [2, 3, 4, 1, 5, 0] rfl))
          have J_63 : ∀ (v5 : Int32) (s0 : Int32) (rr : (Int32 × Int32) ⊕ ((Int32 × Int32) ⊕ (Int32))) (hf : fX8_ofColour_63 v5 s0 = some rr) (hG : G2 rr) (H : Heap) (locs : List Loc) (hP : va_P (dC, dI) vwCl [(h_o, .inr (7, [.ref h_o_plans, .ref h_o_makers, .ref h_o_halves, .int o_raised, .ref h_o_all, .ref h_o_text, .ref h_o_saved, .ref h_o_undone, .int o_undos, .int o_reached, .int o_length, .int o_begin, .int o_letters, .int o_sort, .long o_word, .int o_wrongAt, .int o_badAt, .int o_bad, .ref h_o_told, .ref h_o_shift, .int o_firstX, .int o_firstY, .int o_secondX, .int o_secondY, .ref h_o_rootOf, .ref h_o_becomes, .ref h_o_comes, .ref h_o_next, .int o_x])), (h_o_all, .inl (ca 0, 350, .inl o_all_r)), (h_o_rootOf, .inl (ca 0, 64, .inl o_rootOf_r))] H) (hD : va_D A [(h_o, .inr (7, [.ref h_o_plans, .ref h_o_makers, .ref h_o_halves, .int o_raised, .ref h_o_all, .ref h_o_text, .ref h_o_saved, .ref h_o_undone, .int o_undos, .int o_reached, .int o_length, .int o_begin, .int o_letters, .int o_sort, .long o_word, .int o_wrongAt, .int o_badAt, .int o_bad, .ref h_o_told, .ref h_o_shift, .int o_firstX, .int o_firstY, .int o_secondX, .int o_secondY, .ref h_o_rootOf, .ref h_o_becomes, .ref h_o_comes, .ref h_o_next, .int o_x])), (h_o_all, .inl (ca 0, 350, .inl o_all_r)), (h_o_rootOf, .inl (ca 0, 64, .inl o_rootOf_r))]) (hS : va_S A s.heap H locs) (ls : Array Slot) (hl : lv_has ls 6 [(0, .ref h_o), (1, .int p1), (2, .int p2), (4, .int v4), (5, .int v5)]), WW H locs (F0 m 63 ls [.int s0]) := by
            intro v5 s0 rr hf hG H locs hP hD hS ls hl
            refine h2 ?_
            unfold fX8_ofColour_63 at hf
            refine lv_iconst (v := 0) hx hb dX8_ofColour_63 (by decide) ?_
            exact h1 (J_64 v5 (0 : Int32) s0 _ hf hG _ _ hP hD hS _ (lv_sub hl [0, 1, 2, 3, 4] rfl))
          unfold fX8_ofColour_19_b at hf
          refine lv_iload hx hb dX8_ofColour_19 (lv_at hl 5 rfl) ?_
          refine lv_aload_n hx hb dX8_ofColour_21 rfl (lv_at hl 0 rfl) ?_
          refine va_get (D := (dC, dI)) (ci := 7) (v := .ref h_o_all) (C := RX8) (T := TX8) (N := 29) hx hb hts (fun w h => List.mem_cons_of_mem _ (kc_X8 w h)) hown hK hP 0 rfl rfl 4 (by decide) (hg kw_594) (fun _ h9 => h9) rfl dX8_ofColour_22 ?_
          refine lv_iconst (v := 0) hx hb dX8_ofColour_25 (by decide) ?_
          refine va_iald hx hb hK hP 1 0 rfl rfl (ds_in_ok (i := 0) (n := 350) (by decide)) dX8_ofColour_26 ?_
          refine lv_icmp_ge (tgt := 72) hx hb dX8_ofColour_27 (by decide) (fun c_27 => ?_) (fun c_27 => ?_)
          · replace hf := ds_t c_27 hf
            obtain ⟨rr, hr_0, hf⟩ := ds_ob hf
            have hf := Option.some.inj hf
            subst hf
            rw [eG2] at hG
            replace hG : G1 rr := hG
            have hf := hr_0
            exact h1 (J_72 v3 v4 _ hf hG _ _ hP hD hS _ (lv_sub hl [0, 1, 2, 3, 4] rfl))
          · replace hf := ds_f c_27 hf
            refine lv_iload_n hx hb dX8_ofColour_30 rfl (lv_at hl 3 rfl) ?_
            refine lv_aload_n hx hb dX8_ofColour_31 rfl (lv_at hl 0 rfl) ?_
            refine lv_bipush (v := 8) hx hb dX8_ofColour_32 (by decide) ?_
            refine lv_iload hx hb dX8_ofColour_34 (lv_at hl 4 rfl) ?_
            refine lv_imul hx hb dX8_ofColour_36 ?_
            refine lv_iload hx hb dX8_ofColour_37 (lv_at hl 5 rfl) ?_
            refine lv_iadd hx hb dX8_ofColour_39 ?_
            obtain ⟨q40, hq40, hf⟩ := ds_ob hf
            refine ds_calli (wr := [(h_o_all, .inl (ca 0, 350, .inl o_all_r))]) (va_runV (As := [.int (((8 : Int32) * v4) + v5)]) (rest := [.int v3]) ⟨hx, hb, hml, hown, hts⟩ (c_X8_root l dC dI ca sa h_o h_o_plans h_o_makers h_o_halves h_o_all h_o_text h_o_saved h_o_undone h_o_told h_o_shift h_o_rootOf h_o_becomes h_o_comes h_o_next H.size o_raised o_undos o_reached o_length o_begin o_letters o_sort o_word o_wrongAt o_badAt o_bad o_firstX o_firstY o_secondX o_secondY o_x o_rootOf_r (((8 : Int32) * v4) + v5) q40 hq40) (cwV 1 hts (ds_gV kw_740 kw_741 kw_742 kw_597 kw_743) rfl rfl rfl (by decide +kernel) ⟨Nat.le_of_ble_eq_true rfl, Nat.le_of_ble_eq_true rfl⟩) ⟨ds_blind, va_recv hK hP (ci := 7) (q0 := 0) rfl rfl, ds_at hP hD hK hE hS hA [0, 2] rfl rfl _⟩ rfl rfl hl.1 rfl (lv_room (Nat.le_of_ble_eq_true rfl)) dX8_ofColour_40 ⟨Nat.zero_le _, Nat.zero_le _⟩) hP hD hS hA [0, 2] [1] rfl rfl rfl (by decide) (fun H locs hP hD hS => ?_)
            have hP : va_P (dC, dI) vwCl [(h_o_all, .inl (ca 0, 350, .inl o_all_r)), (h_o, .inr (7, [.ref h_o_plans, .ref h_o_makers, .ref h_o_halves, .int o_raised, .ref h_o_all, .ref h_o_text, .ref h_o_saved, .ref h_o_undone, .int o_undos, .int o_reached, .int o_length, .int o_begin, .int o_letters, .int o_sort, .long o_word, .int o_wrongAt, .int o_badAt, .int o_bad, .ref h_o_told, .ref h_o_shift, .int o_firstX, .int o_firstY, .int o_secondX, .int o_secondY, .ref h_o_rootOf, .ref h_o_becomes, .ref h_o_comes, .ref h_o_next, .int o_x])), (h_o_rootOf, .inl (ca 0, 64, .inl o_rootOf_r))] H := hP
            have hD : va_D A [(h_o_all, .inl (ca 0, 350, .inl o_all_r)), (h_o, .inr (7, [.ref h_o_plans, .ref h_o_makers, .ref h_o_halves, .int o_raised, .ref h_o_all, .ref h_o_text, .ref h_o_saved, .ref h_o_undone, .int o_undos, .int o_reached, .int o_length, .int o_begin, .int o_letters, .int o_sort, .long o_word, .int o_wrongAt, .int o_badAt, .int o_bad, .ref h_o_told, .ref h_o_shift, .int o_firstX, .int o_firstY, .int o_secondX, .int o_secondY, .ref h_o_rootOf, .ref h_o_becomes, .ref h_o_comes, .ref h_o_next, .int o_x])), (h_o_rootOf, .inl (ca 0, 64, .inl o_rootOf_r))] := hD
            refine lv_iload_n hx hb dX8_ofColour_43 rfl (lv_at hl 1 rfl) ?_
            refine lv_icmp_ne (tgt := 63) hx hb dX8_ofColour_44 (by decide) (fun c_44 => ?_) (fun c_44 => ?_)
            · replace hf := ds_f c_44 hf
              exact h1 (J_63 v5 v3 _ hf hG _ _ (hP.sub [1, 0, 2] rfl) (hD.sub [1, 0, 2] rfl rfl) hS _ (lv_sub hl [0, 1, 2, 4, 5] rfl))
            · replace hf := ds_t c_44 hf
              refine lv_aload_n hx hb dX8_ofColour_47 rfl (lv_at hl 0 rfl) ?_
              refine lv_iload hx hb dX8_ofColour_48 (lv_at hl 5 rfl) ?_
              refine lv_iload hx hb dX8_ofColour_50 (lv_at hl 4 rfl) ?_
              obtain ⟨q52, hq52, hf⟩ := ds_ob hf
              refine ds_calli (wr := [(h_o_rootOf, .inl (ca 0, 64, .inl o_rootOf_r))]) (va_runV (As := [.int v5, .int v4]) (rest := [.int v3]) ⟨hx, hb, hml, hown, hts⟩ (c_X8_colour l dC dI ca sa h_o h_o_plans h_o_makers h_o_halves h_o_all h_o_text h_o_saved h_o_undone h_o_told h_o_shift h_o_rootOf h_o_becomes h_o_comes h_o_next H.size o_raised o_undos o_reached o_length o_begin o_letters o_sort o_word o_wrongAt o_badAt o_bad o_firstX o_firstY o_secondX o_secondY o_x o_all_r v5 v4 q52 hq52) (cwV 2 hts (ds_gV kw_651 kw_652 kw_653 kw_597 kw_654) rfl rfl rfl (by decide +kernel) ⟨Nat.le_of_ble_eq_true rfl, Nat.le_of_ble_eq_true rfl⟩) ⟨ds_blind, va_recv hK hP (ci := 7) (q0 := 1) rfl rfl, ds_at hP hD hK hE hS hA [1, 0] rfl rfl _⟩ rfl rfl hl.1 rfl (lv_room (Nat.le_of_ble_eq_true rfl)) dX8_ofColour_52 ⟨Nat.zero_le _, Nat.zero_le _⟩) hP hD hS hA [1, 0] [2] rfl rfl rfl (by decide) (fun H locs hP hD hS => ?_)
              have hP : va_P (dC, dI) vwCl [(h_o_rootOf, .inl (ca 0, 64, .inl o_rootOf_r)), (h_o, .inr (7, [.ref h_o_plans, .ref h_o_makers, .ref h_o_halves, .int o_raised, .ref h_o_all, .ref h_o_text, .ref h_o_saved, .ref h_o_undone, .int o_undos, .int o_reached, .int o_length, .int o_begin, .int o_letters, .int o_sort, .long o_word, .int o_wrongAt, .int o_badAt, .int o_bad, .ref h_o_told, .ref h_o_shift, .int o_firstX, .int o_firstY, .int o_secondX, .int o_secondY, .ref h_o_rootOf, .ref h_o_becomes, .ref h_o_comes, .ref h_o_next, .int o_x])), (h_o_all, .inl (ca 0, 350, .inl o_all_r))] H := hP
              have hD : va_D A [(h_o_rootOf, .inl (ca 0, 64, .inl o_rootOf_r)), (h_o, .inr (7, [.ref h_o_plans, .ref h_o_makers, .ref h_o_halves, .int o_raised, .ref h_o_all, .ref h_o_text, .ref h_o_saved, .ref h_o_undone, .int o_undos, .int o_reached, .int o_length, .int o_begin, .int o_letters, .int o_sort, .long o_word, .int o_wrongAt, .int o_badAt, .int o_bad, .ref h_o_told, .ref h_o_shift, .int o_firstX, .int o_firstY, .int o_secondX, .int o_secondY, .ref h_o_rootOf, .ref h_o_becomes, .ref h_o_comes, .ref h_o_next, .int o_x])), (h_o_all, .inl (ca 0, 350, .inl o_all_r))] := hD
              refine lv_iload_n hx hb dX8_ofColour_55 rfl (lv_at hl 2 rfl) ?_
              refine lv_icmp_ne (tgt := 63) hx hb dX8_ofColour_56 (by decide) (fun c_56 => ?_) (fun c_56 => ?_)
              · replace hf := ds_f c_56 hf
                exact h1 (J_63 v5 v3 _ hf hG _ _ (hP.sub [1, 2, 0] rfl) (hD.sub [1, 2, 0] rfl rfl) hS _ (lv_sub hl [0, 1, 2, 4, 5] rfl))
              · replace hf := ds_t c_56 hf
                refine lv_iconst (v := 1) hx hb dX8_ofColour_59 (by decide) ?_
                refine lv_goto (tgt := 64) hx hb dX8_ofColour_60 (by decide) ?_
                exact h1 (J_64 v5 (1 : Int32) v3 _ hf hG _ _ (hP.sub [1, 2, 0] rfl) (hD.sub [1, 2, 0] rfl rfl) hS _ (lv_sub hl [0, 1, 2, 4, 5] rfl))
      unfold fX8_ofColour_5_b at hf
      refine lv_iload hx hb dX8_ofColour_5 (lv_at hl 4 rfl) ?_
      refine lv_aload_n hx hb dX8_ofColour_7 rfl (lv_at hl 0 rfl) ?_
      refine va_get (D := (dC, dI)) (ci := 7) (v := .ref h_o_all) (C := RX8) (T := TX8) (N := 29) hx hb hts (fun w h => List.mem_cons_of_mem _ (kc_X8 w h)) hown hK hP 0 rfl rfl 4 (by decide) (hg kw_594) (fun _ h9 => h9) rfl dX8_ofColour_8 ?_
      refine lv_iconst (v := 1) hx hb dX8_ofColour_11 (by decide) ?_
      refine va_iald hx hb hK hP 1 0 rfl rfl (ds_in_ok (i := 1) (n := 350) (by decide)) dX8_ofColour_12 ?_
      refine lv_icmp_ge (tgt := 78) hx hb dX8_ofColour_13 (by decide) (fun c_13 => ?_) (fun c_13 => ?_)
      · replace hf := ds_t c_13 hf
        refine lv_iload_n hx hb dX8_ofColour_78 rfl (lv_at hl 3 rfl) ?_
        have hf := Option.some.inj hf
        subst hf
        rw [eG1] at hG
        replace hG : G0 _ := hG
        rw [eG0] at hG
        have hG : _ = res := hG
        subst hG
        exact W.iret (v := v3) hx hb hr (fun t ht hW => ⟨⟨v3, (), rfl, rfl, by rw [ht]; exact hP, hD⟩, hS.F ht⟩) hS.2.2 dX8_ofColour_79
      · replace hf := ds_f c_13 hf
        refine lv_iconst (v := 0) hx hb dX8_ofColour_16 (by decide) ?_
        refine lv_istore (lv' := [(5, .int (0 : Int32)), (0, .ref h_o), (1, .int p1), (2, .int p2), (3, .int v3), (4, .int v4)]) hx hb dX8_ofColour_17 hl (by decide) rfl (fun ls hl => ?_)
        exact h1 (J_19 v4 1000 v3 (0 : Int32) _ hf hG _ _ hP hD hS _ (lv_sub hl [1, 2, 3, 4, 5, 0] rfl))
  unfold fX8_ofColour at hf
  refine lv_iconst (v := 0) hx hb dX8_ofColour_0 (by decide) ?_
  refine lv_istore_n (lv' := [(3, .int (0 : Int32)), (0, .ref h_o), (1, .int p1), (2, .int p2)]) hx hb dX8_ofColour_1 rfl hl (by decide) rfl (fun ls hl => ?_)
  refine lv_iconst (v := 0) hx hb dX8_ofColour_2 (by decide) ?_
  refine lv_istore (lv' := [(4, .int (0 : Int32)), (3, .int (0 : Int32)), (0, .ref h_o), (1, .int p1), (2, .int p2)]) hx hb dX8_ofColour_3 hl (by decide) rfl (fun ls hl => ?_)
  exact h1 (J_5  1000 (0 : Int32) (0 : Int32) _ hf hG _ _ hP hD hS _ (lv_sub hl [2, 3, 4, 1, 0] rfl))
theorem dX8_mostOf_0 : decode cX8_mostOf 0 = .ok (.iconst 0, 1) := by decide +kernel
theorem dX8_mostOf_1 : decode cX8_mostOf 1 = .ok (.istore_n 2, 1) := by decide +kernel
theorem dX8_mostOf_2 : decode cX8_mostOf 2 = .ok (.iconst 1, 1) := by decide +kernel
theorem dX8_mostOf_3 : decode cX8_mostOf 3 = .ok (.istore_n 3, 1) := by decide +kernel
theorem dX8_mostOf_4 : decode cX8_mostOf 4 = .ok (.iload_n 3, 1) := by decide +kernel
theorem dX8_mostOf_5 : decode cX8_mostOf 5 = .ok (.iconst 4, 1) := by decide +kernel
theorem dX8_mostOf_6 : decode cX8_mostOf 6 = .ok (.if_icmp .ge 30, 3) := by decide +kernel
theorem dX8_mostOf_9 : decode cX8_mostOf 9 = .ok (.aload_n 0, 1) := by decide +kernel
theorem dX8_mostOf_10 : decode cX8_mostOf 10 = .ok (.iload_n 1, 1) := by decide +kernel
theorem dX8_mostOf_11 : decode cX8_mostOf 11 = .ok (.iload_n 3, 1) := by decide +kernel
theorem dX8_mostOf_12 : decode cX8_mostOf 12 = .ok (.invokevirtual 266, 3) := by decide +kernel
theorem dX8_mostOf_15 : decode cX8_mostOf 15 = .ok (.aload_n 0, 1) := by decide +kernel
theorem dX8_mostOf_16 : decode cX8_mostOf 16 = .ok (.iload_n 1, 1) := by decide +kernel
theorem dX8_mostOf_17 : decode cX8_mostOf 17 = .ok (.iload_n 2, 1) := by decide +kernel
theorem dX8_mostOf_18 : decode cX8_mostOf 18 = .ok (.invokevirtual 266, 3) := by decide +kernel
theorem dX8_mostOf_21 : decode cX8_mostOf 21 = .ok (.if_icmp .le 7, 3) := by decide +kernel
theorem dX8_mostOf_24 : decode cX8_mostOf 24 = .ok (.iload_n 3, 1) := by decide +kernel
theorem dX8_mostOf_25 : decode cX8_mostOf 25 = .ok (.goto 4, 3) := by decide +kernel
theorem dX8_mostOf_28 : decode cX8_mostOf 28 = .ok (.iload_n 2, 1) := by decide +kernel
theorem dX8_mostOf_29 : decode cX8_mostOf 29 = .ok (.istore_n 2, 1) := by decide +kernel
theorem dX8_mostOf_30 : decode cX8_mostOf 30 = .ok (.iinc 3 1, 3) := by decide +kernel
theorem dX8_mostOf_33 : decode cX8_mostOf 33 = .ok (.goto (-29), 3) := by decide +kernel
theorem dX8_mostOf_36 : decode cX8_mostOf 36 = .ok (.iload_n 2, 1) := by decide +kernel
theorem dX8_mostOf_37 : decode cX8_mostOf 37 = .ok (.ireturn, 1) := by decide +kernel
def fX8_mostOf_29 (v3 : Int32) (s0 : Int32) : Option ((Int32 × Int32) ⊕ (Int32)) :=
  some (.inl (s0, (v3 + 1)))
def fX8_mostOf_4_b (o_all_r : Nat → Int32) (o_rootOf_r : Nat → Int32) (p1 : Int32) (v2 : Int32) (v3 : Int32) : Option ((Int32 × Int32) ⊕ (Int32)) :=
  if (4 : Int32) ≤ v3 then some (.inr v2) else Option.bind (fX8_ofColour o_all_r o_rootOf_r p1 v3) fun q12 => Option.bind (fX8_ofColour o_all_r o_rootOf_r p1 v2) fun q18 => if q12 ≤ q18 then fX8_mostOf_29 v3 v2 else fX8_mostOf_29 v3 v3
def fX8_mostOf_4 (o_all_r : Nat → Int32) (o_rootOf_r : Nat → Int32) (p1 : Int32) (v2 : Int32) (v3 : Int32) : Option (Int32) := ds_it (fun s => fX8_mostOf_4_b o_all_r o_rootOf_r p1 s.1 s.2) 1000 (v2, v3)
def fX8_mostOf (o_all_r : Nat → Int32) (o_rootOf_r : Nat → Int32) (p1 : Int32) : Option (Int32) :=
  fX8_mostOf_4 o_all_r o_rootOf_r p1 (0 : Int32) (1 : Int32)
set_option maxHeartbeats 4000000 in
set_option maxRecDepth 100000 in
theorem c_X8_mostOf (l : Launch) (dC : Nat → ClassId) (dI : Nat → Nat → Nat) (ca : Nat → ClassId) (sa : Nat → Nat) (h_o : Nat) (h_o_plans : Nat) (h_o_makers : Nat) (h_o_halves : Nat) (h_o_all : Nat) (h_o_text : Nat) (h_o_saved : Nat) (h_o_undone : Nat) (h_o_told : Nat) (h_o_shift : Nat) (h_o_rootOf : Nat) (h_o_becomes : Nat) (h_o_comes : Nat) (h_o_next : Nat) (sz : Nat) (o_raised : Int32) (o_undos : Int32) (o_reached : Int32) (o_length : Int32) (o_begin : Int32) (o_letters : Int32) (o_sort : Int32) (o_word : Int64) (o_wrongAt : Int32) (o_badAt : Int32) (o_bad : Int32) (o_firstX : Int32) (o_firstY : Int32) (o_secondX : Int32) (o_secondY : Int32) (o_x : Int32) (o_all_r : Nat → Int32) (o_rootOf_r : Nat → Int32) (p1 : Int32) (res : Int32) (hf : fX8_mostOf o_all_r o_rootOf_r p1 = some res) : Met l yX8_mostOf (Cond.code yX8_mostOf cX8_mostOf 4 (some .int) :: ds_gw) { frames := 4, cells := 0, slots := 0, locals := 91 } (va_Pc [.ref h_o, .int p1] (ds_Pre dC dI ca sa [(h_o, .inr (7, [.ref h_o_plans, .ref h_o_makers, .ref h_o_halves, .int o_raised, .ref h_o_all, .ref h_o_text, .ref h_o_saved, .ref h_o_undone, .int o_undos, .int o_reached, .int o_length, .int o_begin, .int o_letters, .int o_sort, .long o_word, .int o_wrongAt, .int o_badAt, .int o_bad, .ref h_o_told, .ref h_o_shift, .int o_firstX, .int o_firstY, .int o_secondX, .int o_secondY, .ref h_o_rootOf, .ref h_o_becomes, .ref h_o_comes, .ref h_o_next, .int o_x])), (h_o_all, .inl (ca 0, 350, .inl o_all_r)), (h_o_rootOf, .inl (ca 0, 64, .inl o_rootOf_r))] sz)) (va_Qi (fun r (_ : Unit) => r = res) (ds_B dC dI (va_A [(h_o, .inr (7, [.ref h_o_plans, .ref h_o_makers, .ref h_o_halves, .int o_raised, .ref h_o_all, .ref h_o_text, .ref h_o_saved, .ref h_o_undone, .int o_undos, .int o_reached, .int o_length, .int o_begin, .int o_letters, .int o_sort, .long o_word, .int o_wrongAt, .int o_badAt, .int o_bad, .ref h_o_told, .ref h_o_shift, .int o_firstX, .int o_firstY, .int o_secondX, .int o_secondY, .ref h_o_rootOf, .ref h_o_becomes, .ref h_o_comes, .ref h_o_next, .int o_x])), (h_o_all, .inl (ca 0, 350, .inl o_all_r)), (h_o_rootOf, .inl (ca 0, 64, .inl o_rootOf_r))] sz) [(h_o, .inr (7, [.ref h_o_plans, .ref h_o_makers, .ref h_o_halves, .int o_raised, .ref h_o_all, .ref h_o_text, .ref h_o_saved, .ref h_o_undone, .int o_undos, .int o_reached, .int o_length, .int o_begin, .int o_letters, .int o_sort, .long o_word, .int o_wrongAt, .int o_badAt, .int o_bad, .ref h_o_told, .ref h_o_shift, .int o_firstX, .int o_firstY, .int o_secondX, .int o_secondY, .ref h_o_rootOf, .ref h_o_becomes, .ref h_o_comes, .ref h_o_next, .int o_x])), (h_o_all, .inl (ca 0, 350, .inl o_all_r)), (h_o_rootOf, .inl (ca 0, 64, .inl o_rootOf_r))]) (va_A [(h_o, .inr (7, [.ref h_o_plans, .ref h_o_makers, .ref h_o_halves, .int o_raised, .ref h_o_all, .ref h_o_text, .ref h_o_saved, .ref h_o_undone, .int o_undos, .int o_reached, .int o_length, .int o_begin, .int o_letters, .int o_sort, .long o_word, .int o_wrongAt, .int o_badAt, .int o_bad, .ref h_o_told, .ref h_o_shift, .int o_firstX, .int o_firstY, .int o_secondX, .int o_secondY, .ref h_o_rootOf, .ref h_o_becomes, .ref h_o_comes, .ref h_o_next, .int o_x])), (h_o_all, .inl (ca 0, 350, .inl o_all_r)), (h_o_rootOf, .inl (ca 0, 64, .inl o_rootOf_r))] sz)) 0 0 (va_A [(h_o, .inr (7, [.ref h_o_plans, .ref h_o_makers, .ref h_o_halves, .int o_raised, .ref h_o_all, .ref h_o_text, .ref h_o_saved, .ref h_o_undone, .int o_undos, .int o_reached, .int o_length, .int o_begin, .int o_letters, .int o_sort, .long o_word, .int o_wrongAt, .int o_badAt, .int o_bad, .ref h_o_told, .ref h_o_shift, .int o_firstX, .int o_firstY, .int o_secondX, .int o_secondY, .ref h_o_rootOf, .ref h_o_becomes, .ref h_o_comes, .ref h_o_next, .int o_x])), (h_o_all, .inl (ca 0, 350, .inl o_all_r)), (h_o_rootOf, .inl (ca 0, 64, .inl o_rootOf_r))] sz) := by
  refine Met.ofW (cc := cX8_mostOf) (maxL := 4) (ret := (some .int)) (by decide) rfl ?_
  intro p e s m args below meth c s₁ B hml hv
  obtain ⟨rfl, hsz, hP, hK, hD0, hE⟩ := hv
  have hx := B.exec
  have hb := B.bytes
  have hr := B.returns
  have hts := atoms_spec (ws := Cond.code yX8_mostOf cX8_mostOf 4 (some .int) :: ds_gw) B.pre
  have hg : ∀ {w : Cond}, w ∈ ds_gw → w.before _ s = true := fun h => hts _ (List.mem_cons_of_mem _ h)
  have hown : s.vm.findClass RX8 = some m.cls := findClass_of_methodNamed B.named
  have hlocks := B.notSynchronized
  subst hsz
  have hD := hD0.self (sz := s.heap.size)
  generalize hAe : va_A [(h_o, .inr (7, [.ref h_o_plans, .ref h_o_makers, .ref h_o_halves, .int o_raised, .ref h_o_all, .ref h_o_text, .ref h_o_saved, .ref h_o_undone, .int o_undos, .int o_reached, .int o_length, .int o_begin, .int o_letters, .int o_sort, .long o_word, .int o_wrongAt, .int o_badAt, .int o_bad, .ref h_o_told, .ref h_o_shift, .int o_firstX, .int o_firstY, .int o_secondX, .int o_secondY, .ref h_o_rootOf, .ref h_o_becomes, .ref h_o_comes, .ref h_o_next, .int o_x])), (h_o_all, .inl (ca 0, 350, .inl o_all_r)), (h_o_rootOf, .inl (ca 0, 64, .inl o_rootOf_r))] s.heap.size = A at hD hE ⊢
  have hA : ∀ q : Nat, s.heap.size ≤ q → A q := fun q h => by rw [← hAe]; exact Or.inr h
  have hS : va_S A s.heap s.heap [] := va_S.rf
  have hl := lv_entry ([.ref h_o, .int p1]) (n := 4) (Nat.le_of_ble_eq_true rfl)
  rw [lg_entry_eq]
  generalize (lg_sl ([.ref h_o, .int p1]) ++ List.replicate (4 - (lg_sl ([.ref h_o, .int p1])).length) Slot.unset).toArray = ls at hl ⊢
  have hl : lv_has ls 4 [(0, .ref h_o), (1, .int p1)] := hl
  obtain ⟨G0, eG0⟩ : ∃ G : Int32 → Prop, G = (fun r => r = res) := ⟨_, rfl⟩
  obtain ⟨rr, hrr⟩ : ∃ z, z = res := ⟨_, rfl⟩
  rw [← hrr] at hf
  have hG : G0 rr := by subst eG0; exact hrr
  refine ds_cap (fun WW h1 h2 => ?_)
  have J_4 : ∀ (n : Nat) (v2 : Int32) (v3 : Int32) (rr : Int32) (hf : ds_it (fun s => fX8_mostOf_4_b o_all_r o_rootOf_r p1 s.1 s.2) n (v2, v3) = some rr) (hG : G0 rr) (H : Heap) (locs : List Loc) (hP : va_P (dC, dI) vwCl [(h_o, .inr (7, [.ref h_o_plans, .ref h_o_makers, .ref h_o_halves, .int o_raised, .ref h_o_all, .ref h_o_text, .ref h_o_saved, .ref h_o_undone, .int o_undos, .int o_reached, .int o_length, .int o_begin, .int o_letters, .int o_sort, .long o_word, .int o_wrongAt, .int o_badAt, .int o_bad, .ref h_o_told, .ref h_o_shift, .int o_firstX, .int o_firstY, .int o_secondX, .int o_secondY, .ref h_o_rootOf, .ref h_o_becomes, .ref h_o_comes, .ref h_o_next, .int o_x])), (h_o_all, .inl (ca 0, 350, .inl o_all_r)), (h_o_rootOf, .inl (ca 0, 64, .inl o_rootOf_r))] H) (hD : va_D A [(h_o, .inr (7, [.ref h_o_plans, .ref h_o_makers, .ref h_o_halves, .int o_raised, .ref h_o_all, .ref h_o_text, .ref h_o_saved, .ref h_o_undone, .int o_undos, .int o_reached, .int o_length, .int o_begin, .int o_letters, .int o_sort, .long o_word, .int o_wrongAt, .int o_badAt, .int o_bad, .ref h_o_told, .ref h_o_shift, .int o_firstX, .int o_firstY, .int o_secondX, .int o_secondY, .ref h_o_rootOf, .ref h_o_becomes, .ref h_o_comes, .ref h_o_next, .int o_x])), (h_o_all, .inl (ca 0, 350, .inl o_all_r)), (h_o_rootOf, .inl (ca 0, 64, .inl o_rootOf_r))]) (hS : va_S A s.heap H locs) (ls : Array Slot) (hl : lv_has ls 4 [(0, .ref h_o), (1, .int p1), (2, .int v2), (3, .int v3)]), WW H locs (F0 m 4 ls []) := by
    intro  n
    induction n with
    | zero => intro v2 v3 rr hf; exact (ds_it_zero hf).elim
    | succ n ih4 =>
      intro v2 v3 rr hf hG H locs hP hD hS ls hl
      refine h2 ?_
      obtain ⟨rr, hf, hG⟩ := ds_it_succ hf hG
      replace hf : fX8_mostOf_4_b o_all_r o_rootOf_r p1 v2 v3 = some rr := hf
      obtain ⟨G1, eG1⟩ : ∃ G : ((Int32 × Int32) ⊕ (Int32)) → Prop, G = ds_G (fun s' => ∃ r', ds_it (fun s => fX8_mostOf_4_b o_all_r o_rootOf_r p1 s.1 s.2) n s' = some r' ∧ G0 r') G0 := ⟨_, rfl⟩
      rw [← eG1] at hG
      have J_29 : ∀ (v3 : Int32) (s0 : Int32) (rr : (Int32 × Int32) ⊕ (Int32)) (hf : fX8_mostOf_29 v3 s0 = some rr) (hG : G1 rr) (H : Heap) (locs : List Loc) (hP : va_P (dC, dI) vwCl [(h_o, .inr (7, [.ref h_o_plans, .ref h_o_makers, .ref h_o_halves, .int o_raised, .ref h_o_all, .ref h_o_text, .ref h_o_saved, .ref h_o_undone, .int o_undos, .int o_reached, .int o_length, .int o_begin, .int o_letters, .int o_sort, .long o_word, .int o_wrongAt, .int o_badAt, .int o_bad, .ref h_o_told, .ref h_o_shift, .int o_firstX, .int o_firstY, .int o_secondX, .int o_secondY, .ref h_o_rootOf, .ref h_o_becomes, .ref h_o_comes, .ref h_o_next, .int o_x])), (h_o_all, .inl (ca 0, 350, .inl o_all_r)), (h_o_rootOf, .inl (ca 0, 64, .inl o_rootOf_r))] H) (hD : va_D A [(h_o, .inr (7, [.ref h_o_plans, .ref h_o_makers, .ref h_o_halves, .int o_raised, .ref h_o_all, .ref h_o_text, .ref h_o_saved, .ref h_o_undone, .int o_undos, .int o_reached, .int o_length, .int o_begin, .int o_letters, .int o_sort, .long o_word, .int o_wrongAt, .int o_badAt, .int o_bad, .ref h_o_told, .ref h_o_shift, .int o_firstX, .int o_firstY, .int o_secondX, .int o_secondY, .ref h_o_rootOf, .ref h_o_becomes, .ref h_o_comes, .ref h_o_next, .int o_x])), (h_o_all, .inl (ca 0, 350, .inl o_all_r)), (h_o_rootOf, .inl (ca 0, 64, .inl o_rootOf_r))]) (hS : va_S A s.heap H locs) (ls : Array Slot) (hl : lv_has ls 4 [(0, .ref h_o), (1, .int p1), (3, .int v3)]), WW H locs (F0 m 29 ls [.int s0]) := by
        intro v3 s0 rr hf hG H locs hP hD hS ls hl
        refine h2 ?_
        unfold fX8_mostOf_29 at hf
        refine lv_istore_n (lv' := [(2, .int s0), (0, .ref h_o), (1, .int p1), (3, .int v3)]) hx hb dX8_mostOf_29 rfl hl (by decide) rfl (fun ls hl => ?_)
        refine lv_iinc (v := (v3 + 1)) (lv' := [(3, .int (v3 + 1)), (2, .int s0), (0, .ref h_o), (1, .int p1)]) hx hb dX8_mostOf_30 hl (k := 3) rfl rfl (by decide) rfl (fun ls hl => ?_)
        refine lv_goto (tgt := 4) hx hb dX8_mostOf_33 (by decide) ?_
        have hf := Option.some.inj hf
        subst hf
        rw [eG1] at hG
        obtain ⟨rr, hf, hG⟩ := hG
        exact h1 (ih4 s0 (v3 + 1) rr hf hG _ _ hP hD hS _ (lv_sub hl [2, 3, 1, 0] rfl))
      unfold fX8_mostOf_4_b at hf
      refine lv_iload_n hx hb dX8_mostOf_4 rfl (lv_at hl 3 rfl) ?_
      refine lv_iconst (v := 4) hx hb dX8_mostOf_5 (by decide) ?_
      refine lv_icmp_ge (tgt := 36) hx hb dX8_mostOf_6 (by decide) (fun c_6 => ?_) (fun c_6 => ?_)
      · replace hf := ds_t c_6 hf
        refine lv_iload_n hx hb dX8_mostOf_36 rfl (lv_at hl 2 rfl) ?_
        have hf := Option.some.inj hf
        subst hf
        rw [eG1] at hG
        replace hG : G0 _ := hG
        rw [eG0] at hG
        have hG : _ = res := hG
        subst hG
        exact W.iret (v := v2) hx hb hr (fun t ht hW => ⟨⟨v2, (), rfl, rfl, by rw [ht]; exact hP, hD⟩, hS.F ht⟩) hS.2.2 dX8_mostOf_37
      · replace hf := ds_f c_6 hf
        refine lv_aload_n hx hb dX8_mostOf_9 rfl (lv_at hl 0 rfl) ?_
        refine lv_iload_n hx hb dX8_mostOf_10 rfl (lv_at hl 1 rfl) ?_
        refine lv_iload_n hx hb dX8_mostOf_11 rfl (lv_at hl 3 rfl) ?_
        obtain ⟨q12, hq12, hf⟩ := ds_ob hf
        refine ds_calli (wr := []) (va_runV (As := [.int p1, .int v3]) (rest := []) ⟨hx, hb, hml, hown, hts⟩ (c_X8_ofColour l dC dI ca sa h_o h_o_plans h_o_makers h_o_halves h_o_all h_o_text h_o_saved h_o_undone h_o_told h_o_shift h_o_rootOf h_o_becomes h_o_comes h_o_next H.size o_raised o_undos o_reached o_length o_begin o_letters o_sort o_word o_wrongAt o_badAt o_bad o_firstX o_firstY o_secondX o_secondY o_x o_all_r o_rootOf_r p1 v3 q12 hq12) (cwV 2 hts (ds_gV kw_820 kw_821 kw_822 kw_597 kw_823) rfl rfl rfl (by decide +kernel) ⟨Nat.le_of_ble_eq_true rfl, Nat.le_of_ble_eq_true rfl⟩) ⟨ds_blind, va_recv hK hP (ci := 7) (q0 := 0) rfl rfl, ds_at hP hD hK hE hS hA [0, 1, 2] rfl rfl _⟩ rfl rfl hl.1 rfl (lv_room (Nat.le_of_ble_eq_true rfl)) dX8_mostOf_12 ⟨Nat.zero_le _, Nat.zero_le _⟩) hP hD hS hA [0, 1, 2] [] rfl rfl rfl (by decide) (fun H locs hP hD hS => ?_)
        have hP : va_P (dC, dI) vwCl [(h_o, .inr (7, [.ref h_o_plans, .ref h_o_makers, .ref h_o_halves, .int o_raised, .ref h_o_all, .ref h_o_text, .ref h_o_saved, .ref h_o_undone, .int o_undos, .int o_reached, .int o_length, .int o_begin, .int o_letters, .int o_sort, .long o_word, .int o_wrongAt, .int o_badAt, .int o_bad, .ref h_o_told, .ref h_o_shift, .int o_firstX, .int o_firstY, .int o_secondX, .int o_secondY, .ref h_o_rootOf, .ref h_o_becomes, .ref h_o_comes, .ref h_o_next, .int o_x])), (h_o_all, .inl (ca 0, 350, .inl o_all_r)), (h_o_rootOf, .inl (ca 0, 64, .inl o_rootOf_r))] H := hP
        have hD : va_D A [(h_o, .inr (7, [.ref h_o_plans, .ref h_o_makers, .ref h_o_halves, .int o_raised, .ref h_o_all, .ref h_o_text, .ref h_o_saved, .ref h_o_undone, .int o_undos, .int o_reached, .int o_length, .int o_begin, .int o_letters, .int o_sort, .long o_word, .int o_wrongAt, .int o_badAt, .int o_bad, .ref h_o_told, .ref h_o_shift, .int o_firstX, .int o_firstY, .int o_secondX, .int o_secondY, .ref h_o_rootOf, .ref h_o_becomes, .ref h_o_comes, .ref h_o_next, .int o_x])), (h_o_all, .inl (ca 0, 350, .inl o_all_r)), (h_o_rootOf, .inl (ca 0, 64, .inl o_rootOf_r))] := hD
        refine lv_aload_n hx hb dX8_mostOf_15 rfl (lv_at hl 0 rfl) ?_
        refine lv_iload_n hx hb dX8_mostOf_16 rfl (lv_at hl 1 rfl) ?_
        refine lv_iload_n hx hb dX8_mostOf_17 rfl (lv_at hl 2 rfl) ?_
        obtain ⟨q18, hq18, hf⟩ := ds_ob hf
        refine ds_calli (wr := []) (va_runV (As := [.int p1, .int v2]) (rest := [.int q12]) ⟨hx, hb, hml, hown, hts⟩ (c_X8_ofColour l dC dI ca sa h_o h_o_plans h_o_makers h_o_halves h_o_all h_o_text h_o_saved h_o_undone h_o_told h_o_shift h_o_rootOf h_o_becomes h_o_comes h_o_next H.size o_raised o_undos o_reached o_length o_begin o_letters o_sort o_word o_wrongAt o_badAt o_bad o_firstX o_firstY o_secondX o_secondY o_x o_all_r o_rootOf_r p1 v2 q18 hq18) (cwV 2 hts (ds_gV kw_820 kw_821 kw_822 kw_597 kw_823) rfl rfl rfl (by decide +kernel) ⟨Nat.le_of_ble_eq_true rfl, Nat.le_of_ble_eq_true rfl⟩) ⟨ds_blind, va_recv hK hP (ci := 7) (q0 := 0) rfl rfl, ds_at hP hD hK hE hS hA [0, 1, 2] rfl rfl _⟩ rfl rfl hl.1 rfl (lv_room (Nat.le_of_ble_eq_true rfl)) dX8_mostOf_18 ⟨Nat.zero_le _, Nat.zero_le _⟩) hP hD hS hA [0, 1, 2] [] rfl rfl rfl (by decide) (fun H locs hP hD hS => ?_)
        have hP : va_P (dC, dI) vwCl [(h_o, .inr (7, [.ref h_o_plans, .ref h_o_makers, .ref h_o_halves, .int o_raised, .ref h_o_all, .ref h_o_text, .ref h_o_saved, .ref h_o_undone, .int o_undos, .int o_reached, .int o_length, .int o_begin, .int o_letters, .int o_sort, .long o_word, .int o_wrongAt, .int o_badAt, .int o_bad, .ref h_o_told, .ref h_o_shift, .int o_firstX, .int o_firstY, .int o_secondX, .int o_secondY, .ref h_o_rootOf, .ref h_o_becomes, .ref h_o_comes, .ref h_o_next, .int o_x])), (h_o_all, .inl (ca 0, 350, .inl o_all_r)), (h_o_rootOf, .inl (ca 0, 64, .inl o_rootOf_r))] H := hP
        have hD : va_D A [(h_o, .inr (7, [.ref h_o_plans, .ref h_o_makers, .ref h_o_halves, .int o_raised, .ref h_o_all, .ref h_o_text, .ref h_o_saved, .ref h_o_undone, .int o_undos, .int o_reached, .int o_length, .int o_begin, .int o_letters, .int o_sort, .long o_word, .int o_wrongAt, .int o_badAt, .int o_bad, .ref h_o_told, .ref h_o_shift, .int o_firstX, .int o_firstY, .int o_secondX, .int o_secondY, .ref h_o_rootOf, .ref h_o_becomes, .ref h_o_comes, .ref h_o_next, .int o_x])), (h_o_all, .inl (ca 0, 350, .inl o_all_r)), (h_o_rootOf, .inl (ca 0, 64, .inl o_rootOf_r))] := hD
        refine lv_icmp_le (tgt := 28) hx hb dX8_mostOf_21 (by decide) (fun c_21 => ?_) (fun c_21 => ?_)
        · replace hf := ds_t c_21 hf
          refine lv_iload_n hx hb dX8_mostOf_28 rfl (lv_at hl 2 rfl) ?_
          exact h1 (J_29 v3 v2 _ hf hG _ _ hP hD hS _ (lv_sub hl [0, 1, 3] rfl))
        · replace hf := ds_f c_21 hf
          refine lv_iload_n hx hb dX8_mostOf_24 rfl (lv_at hl 3 rfl) ?_
          refine lv_goto (tgt := 29) hx hb dX8_mostOf_25 (by decide) ?_
          exact h1 (J_29 v3 v3 _ hf hG _ _ hP hD hS _ (lv_sub hl [0, 1, 3] rfl))
  unfold fX8_mostOf at hf
  refine lv_iconst (v := 0) hx hb dX8_mostOf_0 (by decide) ?_
  refine lv_istore_n (lv' := [(2, .int (0 : Int32)), (0, .ref h_o), (1, .int p1)]) hx hb dX8_mostOf_1 rfl hl (by decide) rfl (fun ls hl => ?_)
  refine lv_iconst (v := 1) hx hb dX8_mostOf_2 (by decide) ?_
  refine lv_istore_n (lv' := [(3, .int (1 : Int32)), (2, .int (0 : Int32)), (0, .ref h_o), (1, .int p1)]) hx hb dX8_mostOf_3 rfl hl (by decide) rfl (fun ls hl => ?_)
  exact h1 (J_4  1000 (0 : Int32) (1 : Int32) _ hf hG _ _ hP hD hS _ (lv_sub hl [2, 3, 1, 0] rfl))
theorem dX8_flawed_0 : decode cX8_flawed 0 = .ok (.iconst 0, 1) := by decide +kernel
theorem dX8_flawed_1 : decode cX8_flawed 1 = .ok (.istore_n 1, 1) := by decide +kernel
theorem dX8_flawed_2 : decode cX8_flawed 2 = .ok (.iconst 0, 1) := by decide +kernel
theorem dX8_flawed_3 : decode cX8_flawed 3 = .ok (.istore_n 2, 1) := by decide +kernel
theorem dX8_flawed_4 : decode cX8_flawed 4 = .ok (.iload_n 2, 1) := by decide +kernel
theorem dX8_flawed_5 : decode cX8_flawed 5 = .ok (.aload_n 0, 1) := by decide +kernel
theorem dX8_flawed_6 : decode cX8_flawed 6 = .ok (.getfield 19, 3) := by decide +kernel
theorem dX8_flawed_9 : decode cX8_flawed 9 = .ok (.iconst 1, 1) := by decide +kernel
theorem dX8_flawed_10 : decode cX8_flawed 10 = .ok (.iaload, 1) := by decide +kernel
theorem dX8_flawed_11 : decode cX8_flawed 11 = .ok (.if_icmp .ge 73, 3) := by decide +kernel
theorem dX8_flawed_14 : decode cX8_flawed 14 = .ok (.iconst 0, 1) := by decide +kernel
theorem dX8_flawed_15 : decode cX8_flawed 15 = .ok (.istore_n 3, 1) := by decide +kernel
theorem dX8_flawed_16 : decode cX8_flawed 16 = .ok (.iload_n 3, 1) := by decide +kernel
theorem dX8_flawed_17 : decode cX8_flawed 17 = .ok (.aload_n 0, 1) := by decide +kernel
theorem dX8_flawed_18 : decode cX8_flawed 18 = .ok (.getfield 19, 3) := by decide +kernel
theorem dX8_flawed_21 : decode cX8_flawed 21 = .ok (.iconst 0, 1) := by decide +kernel
theorem dX8_flawed_22 : decode cX8_flawed 22 = .ok (.iaload, 1) := by decide +kernel
theorem dX8_flawed_23 : decode cX8_flawed 23 = .ok (.if_icmp .ge 55, 3) := by decide +kernel
theorem dX8_flawed_26 : decode cX8_flawed 26 = .ok (.bipush 8, 2) := by decide +kernel
theorem dX8_flawed_28 : decode cX8_flawed 28 = .ok (.iload_n 2, 1) := by decide +kernel
theorem dX8_flawed_29 : decode cX8_flawed 29 = .ok (.imul, 1) := by decide +kernel
theorem dX8_flawed_30 : decode cX8_flawed 30 = .ok (.iload_n 3, 1) := by decide +kernel
theorem dX8_flawed_31 : decode cX8_flawed 31 = .ok (.iadd, 1) := by decide +kernel
theorem dX8_flawed_32 : decode cX8_flawed 32 = .ok (.istore 4, 2) := by decide +kernel
theorem dX8_flawed_34 : decode cX8_flawed 34 = .ok (.iload_n 1, 1) := by decide +kernel
theorem dX8_flawed_35 : decode cX8_flawed 35 = .ok (.aload_n 0, 1) := by decide +kernel
theorem dX8_flawed_36 : decode cX8_flawed 36 = .ok (.getfield 39, 3) := by decide +kernel
theorem dX8_flawed_39 : decode cX8_flawed 39 = .ok (.iload 4, 2) := by decide +kernel
theorem dX8_flawed_41 : decode cX8_flawed 41 = .ok (.iaload, 1) := by decide +kernel
theorem dX8_flawed_42 : decode cX8_flawed 42 = .ok (.iload 4, 2) := by decide +kernel
theorem dX8_flawed_44 : decode cX8_flawed 44 = .ok (.if_icmp .ne 25, 3) := by decide +kernel
theorem dX8_flawed_47 : decode cX8_flawed 47 = .ok (.aload_n 0, 1) := by decide +kernel
theorem dX8_flawed_48 : decode cX8_flawed 48 = .ok (.iload 4, 2) := by decide +kernel
theorem dX8_flawed_50 : decode cX8_flawed 50 = .ok (.invokevirtual 269, 3) := by decide +kernel
theorem dX8_flawed_53 : decode cX8_flawed 53 = .ok (.aload_n 0, 1) := by decide +kernel
theorem dX8_flawed_54 : decode cX8_flawed 54 = .ok (.iload 4, 2) := by decide +kernel
theorem dX8_flawed_56 : decode cX8_flawed 56 = .ok (.aload_n 0, 1) := by decide +kernel
theorem dX8_flawed_57 : decode cX8_flawed 57 = .ok (.iload 4, 2) := by decide +kernel
theorem dX8_flawed_59 : decode cX8_flawed 59 = .ok (.invokevirtual 272, 3) := by decide +kernel
theorem dX8_flawed_62 : decode cX8_flawed 62 = .ok (.invokevirtual 266, 3) := by decide +kernel
theorem dX8_flawed_65 : decode cX8_flawed 65 = .ok (.isub, 1) := by decide +kernel
theorem dX8_flawed_66 : decode cX8_flawed 66 = .ok (.goto 4, 3) := by decide +kernel
theorem dX8_flawed_69 : decode cX8_flawed 69 = .ok (.iconst 0, 1) := by decide +kernel
theorem dX8_flawed_70 : decode cX8_flawed 70 = .ok (.iadd, 1) := by decide +kernel
theorem dX8_flawed_71 : decode cX8_flawed 71 = .ok (.istore_n 1, 1) := by decide +kernel
theorem dX8_flawed_72 : decode cX8_flawed 72 = .ok (.iinc 3 1, 3) := by decide +kernel
theorem dX8_flawed_75 : decode cX8_flawed 75 = .ok (.goto (-59), 3) := by decide +kernel
theorem dX8_flawed_78 : decode cX8_flawed 78 = .ok (.iinc 2 1, 3) := by decide +kernel
theorem dX8_flawed_81 : decode cX8_flawed 81 = .ok (.goto (-77), 3) := by decide +kernel
theorem dX8_flawed_84 : decode cX8_flawed 84 = .ok (.iload_n 1, 1) := by decide +kernel
theorem dX8_flawed_85 : decode cX8_flawed 85 = .ok (.ireturn, 1) := by decide +kernel
def fX8_flawed_78 (v1 : Int32) (v2 : Int32) : Option ((Int32 × Int32) ⊕ (Int32)) :=
  some (.inl (v1, (v2 + 1)))
def fX8_flawed_70 (v3 : Int32) (s0 : Int32) (s1 : Int32) : Option ((Int32 × Int32) ⊕ ((Int32 × Int32) ⊕ (Int32))) :=
  some (.inl ((s1 + s0), (v3 + 1)))
def fX8_flawed_16_b (o_all_r : Nat → Int32) (o_rootOf_r : Nat → Int32) (v2 : Int32) (v1 : Int32) (v3 : Int32) : Option ((Int32 × Int32) ⊕ ((Int32 × Int32) ⊕ (Int32))) :=
  if (o_all_r (0 : Int32).toNatClampNeg) ≤ v3 then Option.bind (fX8_flawed_78 v1 v2) fun z => some (.inr z) else if ds_in (((8 : Int32) * v2) + v3) 64 = true then if (o_rootOf_r (((8 : Int32) * v2) + v3).toNatClampNeg) = (((8 : Int32) * v2) + v3) then Option.bind (fX8_orbitSize o_all_r o_rootOf_r (((8 : Int32) * v2) + v3)) fun q50 => Option.bind (fX8_mostOf o_all_r o_rootOf_r (((8 : Int32) * v2) + v3)) fun q59 => Option.bind (fX8_ofColour o_all_r o_rootOf_r (((8 : Int32) * v2) + v3) q59) fun q62 => fX8_flawed_70 v3 (q50 - q62) v1 else fX8_flawed_70 v3 (0 : Int32) v1 else none
def fX8_flawed_16 (o_all_r : Nat → Int32) (o_rootOf_r : Nat → Int32) (v2 : Int32) (v1 : Int32) (v3 : Int32) : Option ((Int32 × Int32) ⊕ (Int32)) := ds_it (fun s => fX8_flawed_16_b o_all_r o_rootOf_r v2 s.1 s.2) 1000 (v1, v3)
def fX8_flawed_4_b (o_all_r : Nat → Int32) (o_rootOf_r : Nat → Int32) (v1 : Int32) (v2 : Int32) : Option ((Int32 × Int32) ⊕ (Int32)) :=
  if (o_all_r (1 : Int32).toNatClampNeg) ≤ v2 then some (.inr v1) else fX8_flawed_16 o_all_r o_rootOf_r v2 v1 (0 : Int32)
def fX8_flawed_4 (o_all_r : Nat → Int32) (o_rootOf_r : Nat → Int32) (v1 : Int32) (v2 : Int32) : Option (Int32) := ds_it (fun s => fX8_flawed_4_b o_all_r o_rootOf_r s.1 s.2) 1000 (v1, v2)
def fX8_flawed (o_all_r : Nat → Int32) (o_rootOf_r : Nat → Int32) : Option (Int32) :=
  fX8_flawed_4 o_all_r o_rootOf_r (0 : Int32) (0 : Int32)
set_option maxHeartbeats 4000000 in
set_option maxRecDepth 100000 in
theorem c_X8_flawed (l : Launch) (dC : Nat → ClassId) (dI : Nat → Nat → Nat) (ca : Nat → ClassId) (sa : Nat → Nat) (h_o : Nat) (h_o_plans : Nat) (h_o_makers : Nat) (h_o_halves : Nat) (h_o_all : Nat) (h_o_text : Nat) (h_o_saved : Nat) (h_o_undone : Nat) (h_o_told : Nat) (h_o_shift : Nat) (h_o_rootOf : Nat) (h_o_becomes : Nat) (h_o_comes : Nat) (h_o_next : Nat) (sz : Nat) (o_raised : Int32) (o_undos : Int32) (o_reached : Int32) (o_length : Int32) (o_begin : Int32) (o_letters : Int32) (o_sort : Int32) (o_word : Int64) (o_wrongAt : Int32) (o_badAt : Int32) (o_bad : Int32) (o_firstX : Int32) (o_firstY : Int32) (o_secondX : Int32) (o_secondY : Int32) (o_x : Int32) (o_all_r : Nat → Int32) (o_rootOf_r : Nat → Int32) (res : Int32) (hf : fX8_flawed o_all_r o_rootOf_r = some res) : Met l yX8_flawed (Cond.code yX8_flawed cX8_flawed 5 (some .int) :: ds_gw) { frames := 5, cells := 0, slots := 0, locals := 114 } (va_Pc [.ref h_o] (ds_Pre dC dI ca sa [(h_o, .inr (7, [.ref h_o_plans, .ref h_o_makers, .ref h_o_halves, .int o_raised, .ref h_o_all, .ref h_o_text, .ref h_o_saved, .ref h_o_undone, .int o_undos, .int o_reached, .int o_length, .int o_begin, .int o_letters, .int o_sort, .long o_word, .int o_wrongAt, .int o_badAt, .int o_bad, .ref h_o_told, .ref h_o_shift, .int o_firstX, .int o_firstY, .int o_secondX, .int o_secondY, .ref h_o_rootOf, .ref h_o_becomes, .ref h_o_comes, .ref h_o_next, .int o_x])), (h_o_all, .inl (ca 0, 350, .inl o_all_r)), (h_o_rootOf, .inl (ca 0, 64, .inl o_rootOf_r))] sz)) (va_Qi (fun r (_ : Unit) => r = res) (ds_B dC dI (va_A [(h_o, .inr (7, [.ref h_o_plans, .ref h_o_makers, .ref h_o_halves, .int o_raised, .ref h_o_all, .ref h_o_text, .ref h_o_saved, .ref h_o_undone, .int o_undos, .int o_reached, .int o_length, .int o_begin, .int o_letters, .int o_sort, .long o_word, .int o_wrongAt, .int o_badAt, .int o_bad, .ref h_o_told, .ref h_o_shift, .int o_firstX, .int o_firstY, .int o_secondX, .int o_secondY, .ref h_o_rootOf, .ref h_o_becomes, .ref h_o_comes, .ref h_o_next, .int o_x])), (h_o_all, .inl (ca 0, 350, .inl o_all_r)), (h_o_rootOf, .inl (ca 0, 64, .inl o_rootOf_r))] sz) [(h_o, .inr (7, [.ref h_o_plans, .ref h_o_makers, .ref h_o_halves, .int o_raised, .ref h_o_all, .ref h_o_text, .ref h_o_saved, .ref h_o_undone, .int o_undos, .int o_reached, .int o_length, .int o_begin, .int o_letters, .int o_sort, .long o_word, .int o_wrongAt, .int o_badAt, .int o_bad, .ref h_o_told, .ref h_o_shift, .int o_firstX, .int o_firstY, .int o_secondX, .int o_secondY, .ref h_o_rootOf, .ref h_o_becomes, .ref h_o_comes, .ref h_o_next, .int o_x])), (h_o_all, .inl (ca 0, 350, .inl o_all_r)), (h_o_rootOf, .inl (ca 0, 64, .inl o_rootOf_r))]) (va_A [(h_o, .inr (7, [.ref h_o_plans, .ref h_o_makers, .ref h_o_halves, .int o_raised, .ref h_o_all, .ref h_o_text, .ref h_o_saved, .ref h_o_undone, .int o_undos, .int o_reached, .int o_length, .int o_begin, .int o_letters, .int o_sort, .long o_word, .int o_wrongAt, .int o_badAt, .int o_bad, .ref h_o_told, .ref h_o_shift, .int o_firstX, .int o_firstY, .int o_secondX, .int o_secondY, .ref h_o_rootOf, .ref h_o_becomes, .ref h_o_comes, .ref h_o_next, .int o_x])), (h_o_all, .inl (ca 0, 350, .inl o_all_r)), (h_o_rootOf, .inl (ca 0, 64, .inl o_rootOf_r))] sz)) 0 0 (va_A [(h_o, .inr (7, [.ref h_o_plans, .ref h_o_makers, .ref h_o_halves, .int o_raised, .ref h_o_all, .ref h_o_text, .ref h_o_saved, .ref h_o_undone, .int o_undos, .int o_reached, .int o_length, .int o_begin, .int o_letters, .int o_sort, .long o_word, .int o_wrongAt, .int o_badAt, .int o_bad, .ref h_o_told, .ref h_o_shift, .int o_firstX, .int o_firstY, .int o_secondX, .int o_secondY, .ref h_o_rootOf, .ref h_o_becomes, .ref h_o_comes, .ref h_o_next, .int o_x])), (h_o_all, .inl (ca 0, 350, .inl o_all_r)), (h_o_rootOf, .inl (ca 0, 64, .inl o_rootOf_r))] sz) := by
  refine Met.ofW (cc := cX8_flawed) (maxL := 5) (ret := (some .int)) (by decide) rfl ?_
  intro p e s m args below meth c s₁ B hml hv
  obtain ⟨rfl, hsz, hP, hK, hD0, hE⟩ := hv
  have hx := B.exec
  have hb := B.bytes
  have hr := B.returns
  have hts := atoms_spec (ws := Cond.code yX8_flawed cX8_flawed 5 (some .int) :: ds_gw) B.pre
  have hg : ∀ {w : Cond}, w ∈ ds_gw → w.before _ s = true := fun h => hts _ (List.mem_cons_of_mem _ h)
  have hown : s.vm.findClass RX8 = some m.cls := findClass_of_methodNamed B.named
  have hlocks := B.notSynchronized
  subst hsz
  have hD := hD0.self (sz := s.heap.size)
  generalize hAe : va_A [(h_o, .inr (7, [.ref h_o_plans, .ref h_o_makers, .ref h_o_halves, .int o_raised, .ref h_o_all, .ref h_o_text, .ref h_o_saved, .ref h_o_undone, .int o_undos, .int o_reached, .int o_length, .int o_begin, .int o_letters, .int o_sort, .long o_word, .int o_wrongAt, .int o_badAt, .int o_bad, .ref h_o_told, .ref h_o_shift, .int o_firstX, .int o_firstY, .int o_secondX, .int o_secondY, .ref h_o_rootOf, .ref h_o_becomes, .ref h_o_comes, .ref h_o_next, .int o_x])), (h_o_all, .inl (ca 0, 350, .inl o_all_r)), (h_o_rootOf, .inl (ca 0, 64, .inl o_rootOf_r))] s.heap.size = A at hD hE ⊢
  have hA : ∀ q : Nat, s.heap.size ≤ q → A q := fun q h => by rw [← hAe]; exact Or.inr h
  have hS : va_S A s.heap s.heap [] := va_S.rf
  have hl := lv_entry ([.ref h_o]) (n := 5) (Nat.le_of_ble_eq_true rfl)
  rw [lg_entry_eq]
  generalize (lg_sl ([.ref h_o]) ++ List.replicate (5 - (lg_sl ([.ref h_o])).length) Slot.unset).toArray = ls at hl ⊢
  have hl : lv_has ls 5 [(0, .ref h_o)] := hl
  obtain ⟨G0, eG0⟩ : ∃ G : Int32 → Prop, G = (fun r => r = res) := ⟨_, rfl⟩
  obtain ⟨rr, hrr⟩ : ∃ z, z = res := ⟨_, rfl⟩
  rw [← hrr] at hf
  have hG : G0 rr := by subst eG0; exact hrr
  refine ds_cap (fun WW h1 h2 => ?_)
  have J_4 : ∀ (n : Nat) (v1 : Int32) (v2 : Int32) (rr : Int32) (hf : ds_it (fun s => fX8_flawed_4_b o_all_r o_rootOf_r s.1 s.2) n (v1, v2) = some rr) (hG : G0 rr) (H : Heap) (locs : List Loc) (hP : va_P (dC, dI) vwCl [(h_o, .inr (7, [.ref h_o_plans, .ref h_o_makers, .ref h_o_halves, .int o_raised, .ref h_o_all, .ref h_o_text, .ref h_o_saved, .ref h_o_undone, .int o_undos, .int o_reached, .int o_length, .int o_begin, .int o_letters, .int o_sort, .long o_word, .int o_wrongAt, .int o_badAt, .int o_bad, .ref h_o_told, .ref h_o_shift, .int o_firstX, .int o_firstY, .int o_secondX, .int o_secondY, .ref h_o_rootOf, .ref h_o_becomes, .ref h_o_comes, .ref h_o_next, .int o_x])), (h_o_all, .inl (ca 0, 350, .inl o_all_r)), (h_o_rootOf, .inl (ca 0, 64, .inl o_rootOf_r))] H) (hD : va_D A [(h_o, .inr (7, [.ref h_o_plans, .ref h_o_makers, .ref h_o_halves, .int o_raised, .ref h_o_all, .ref h_o_text, .ref h_o_saved, .ref h_o_undone, .int o_undos, .int o_reached, .int o_length, .int o_begin, .int o_letters, .int o_sort, .long o_word, .int o_wrongAt, .int o_badAt, .int o_bad, .ref h_o_told, .ref h_o_shift, .int o_firstX, .int o_firstY, .int o_secondX, .int o_secondY, .ref h_o_rootOf, .ref h_o_becomes, .ref h_o_comes, .ref h_o_next, .int o_x])), (h_o_all, .inl (ca 0, 350, .inl o_all_r)), (h_o_rootOf, .inl (ca 0, 64, .inl o_rootOf_r))]) (hS : va_S A s.heap H locs) (ls : Array Slot) (hl : lv_has ls 5 [(0, .ref h_o), (1, .int v1), (2, .int v2)]), WW H locs (F0 m 4 ls []) := by
    intro  n
    induction n with
    | zero => intro v1 v2 rr hf; exact (ds_it_zero hf).elim
    | succ n ih4 =>
      intro v1 v2 rr hf hG H locs hP hD hS ls hl
      refine h2 ?_
      obtain ⟨rr, hf, hG⟩ := ds_it_succ hf hG
      replace hf : fX8_flawed_4_b o_all_r o_rootOf_r v1 v2 = some rr := hf
      obtain ⟨G1, eG1⟩ : ∃ G : ((Int32 × Int32) ⊕ (Int32)) → Prop, G = ds_G (fun s' => ∃ r', ds_it (fun s => fX8_flawed_4_b o_all_r o_rootOf_r s.1 s.2) n s' = some r' ∧ G0 r') G0 := ⟨_, rfl⟩
      rw [← eG1] at hG
      have J_78 : ∀ (v1 : Int32) (v2 : Int32) (rr : (Int32 × Int32) ⊕ (Int32)) (hf : fX8_flawed_78 v1 v2 = some rr) (hG : G1 rr) (H : Heap) (locs : List Loc) (hP : va_P (dC, dI) vwCl [(h_o, .inr (7, [.ref h_o_plans, .ref h_o_makers, .ref h_o_halves, .int o_raised, .ref h_o_all, .ref h_o_text, .ref h_o_saved, .ref h_o_undone, .int o_undos, .int o_reached, .int o_length, .int o_begin, .int o_letters, .int o_sort, .long o_word, .int o_wrongAt, .int o_badAt, .int o_bad, .ref h_o_told, .ref h_o_shift, .int o_firstX, .int o_firstY, .int o_secondX, .int o_secondY, .ref h_o_rootOf, .ref h_o_becomes, .ref h_o_comes, .ref h_o_next, .int o_x])), (h_o_all, .inl (ca 0, 350, .inl o_all_r)), (h_o_rootOf, .inl (ca 0, 64, .inl o_rootOf_r))] H) (hD : va_D A [(h_o, .inr (7, [.ref h_o_plans, .ref h_o_makers, .ref h_o_halves, .int o_raised, .ref h_o_all, .ref h_o_text, .ref h_o_saved, .ref h_o_undone, .int o_undos, .int o_reached, .int o_length, .int o_begin, .int o_letters, .int o_sort, .long o_word, .int o_wrongAt, .int o_badAt, .int o_bad, .ref h_o_told, .ref h_o_shift, .int o_firstX, .int o_firstY, .int o_secondX, .int o_secondY, .ref h_o_rootOf, .ref h_o_becomes, .ref h_o_comes, .ref h_o_next, .int o_x])), (h_o_all, .inl (ca 0, 350, .inl o_all_r)), (h_o_rootOf, .inl (ca 0, 64, .inl o_rootOf_r))]) (hS : va_S A s.heap H locs) (ls : Array Slot) (hl : lv_has ls 5 [(0, .ref h_o), (1, .int v1), (2, .int v2)]), WW H locs (F0 m 78 ls []) := by
        intro v1 v2 rr hf hG H locs hP hD hS ls hl
        refine h2 ?_
        unfold fX8_flawed_78 at hf
        refine lv_iinc (v := (v2 + 1)) (lv' := [(2, .int (v2 + 1)), (0, .ref h_o), (1, .int v1)]) hx hb dX8_flawed_78 hl (k := 2) rfl rfl (by decide) rfl (fun ls hl => ?_)
        refine lv_goto (tgt := 4) hx hb dX8_flawed_81 (by decide) ?_
        have hf := Option.some.inj hf
        subst hf
        rw [eG1] at hG
        obtain ⟨rr, hf, hG⟩ := hG
        exact h1 (ih4 v1 (v2 + 1) rr hf hG _ _ hP hD hS _ (lv_sub hl [1, 2, 0] rfl))
      have J_16 : ∀ (v2 : Int32) (n : Nat) (v1 : Int32) (v3 : Int32) (rr : (Int32 × Int32) ⊕ (Int32)) (hf : ds_it (fun s => fX8_flawed_16_b o_all_r o_rootOf_r v2 s.1 s.2) n (v1, v3) = some rr) (hG : G1 rr) (H : Heap) (locs : List Loc) (hP : va_P (dC, dI) vwCl [(h_o, .inr (7, [.ref h_o_plans, .ref h_o_makers, .ref h_o_halves, .int o_raised, .ref h_o_all, .ref h_o_text, .ref h_o_saved, .ref h_o_undone, .int o_undos, .int o_reached, .int o_length, .int o_begin, .int o_letters, .int o_sort, .long o_word, .int o_wrongAt, .int o_badAt, .int o_bad, .ref h_o_told, .ref h_o_shift, .int o_firstX, .int o_firstY, .int o_secondX, .int o_secondY, .ref h_o_rootOf, .ref h_o_becomes, .ref h_o_comes, .ref h_o_next, .int o_x])), (h_o_all, .inl (ca 0, 350, .inl o_all_r)), (h_o_rootOf, .inl (ca 0, 64, .inl o_rootOf_r))] H) (hD : va_D A [(h_o, .inr (7, [.ref h_o_plans, .ref h_o_makers, .ref h_o_halves, .int o_raised, .ref h_o_all, .ref h_o_text, .ref h_o_saved, .ref h_o_undone, .int o_undos, .int o_reached, .int o_length, .int o_begin, .int o_letters, .int o_sort, .long o_word, .int o_wrongAt, .int o_badAt, .int o_bad, .ref h_o_told, .ref h_o_shift, .int o_firstX, .int o_firstY, .int o_secondX, .int o_secondY, .ref h_o_rootOf, .ref h_o_becomes, .ref h_o_comes, .ref h_o_next, .int o_x])), (h_o_all, .inl (ca 0, 350, .inl o_all_r)), (h_o_rootOf, .inl (ca 0, 64, .inl o_rootOf_r))]) (hS : va_S A s.heap H locs) (ls : Array Slot) (hl : lv_has ls 5 [(0, .ref h_o), (1, .int v1), (2, .int v2), (3, .int v3)]), WW H locs (F0 m 16 ls []) := by
        intro v2 n
        induction n with
        | zero => intro v1 v3 rr hf; exact (ds_it_zero hf).elim
        | succ n ih16 =>
          intro v1 v3 rr hf hG H locs hP hD hS ls hl
          refine h2 ?_
          obtain ⟨rr, hf, hG⟩ := ds_it_succ hf hG
          replace hf : fX8_flawed_16_b o_all_r o_rootOf_r v2 v1 v3 = some rr := hf
          obtain ⟨G2, eG2⟩ : ∃ G : ((Int32 × Int32) ⊕ ((Int32 × Int32) ⊕ (Int32))) → Prop, G = ds_G (fun s' => ∃ r', ds_it (fun s => fX8_flawed_16_b o_all_r o_rootOf_r v2 s.1 s.2) n s' = some r' ∧ G1 r') G1 := ⟨_, rfl⟩
          rw [← eG2] at hG
          have J_70 : ∀ (v3 : Int32) (s0 : Int32) (s1 : Int32) (rr : (Int32 × Int32) ⊕ ((Int32 × Int32) ⊕ (Int32))) (hf : fX8_flawed_70 v3 s0 s1 = some rr) (hG : G2 rr) (H : Heap) (locs : List Loc) (hP : va_P (dC, dI) vwCl [(h_o, .inr (7, [.ref h_o_plans, .ref h_o_makers, .ref h_o_halves, .int o_raised, .ref h_o_all, .ref h_o_text, .ref h_o_saved, .ref h_o_undone, .int o_undos, .int o_reached, .int o_length, .int o_begin, .int o_letters, .int o_sort, .long o_word, .int o_wrongAt, .int o_badAt, .int o_bad, .ref h_o_told, .ref h_o_shift, .int o_firstX, .int o_firstY, .int o_secondX, .int o_secondY, .ref h_o_rootOf, .ref h_o_becomes, .ref h_o_comes, .ref h_o_next, .int o_x])), (h_o_all, .inl (ca 0, 350, .inl o_all_r)), (h_o_rootOf, .inl (ca 0, 64, .inl o_rootOf_r))] H) (hD : va_D A [(h_o, .inr (7, [.ref h_o_plans, .ref h_o_makers, .ref h_o_halves, .int o_raised, .ref h_o_all, .ref h_o_text, .ref h_o_saved, .ref h_o_undone, .int o_undos, .int o_reached, .int o_length, .int o_begin, .int o_letters, .int o_sort, .long o_word, .int o_wrongAt, .int o_badAt, .int o_bad, .ref h_o_told, .ref h_o_shift, .int o_firstX, .int o_firstY, .int o_secondX, .int o_secondY, .ref h_o_rootOf, .ref h_o_becomes, .ref h_o_comes, .ref h_o_next, .int o_x])), (h_o_all, .inl (ca 0, 350, .inl o_all_r)), (h_o_rootOf, .inl (ca 0, 64, .inl o_rootOf_r))]) (hS : va_S A s.heap H locs) (ls : Array Slot) (hl : lv_has ls 5 [(0, .ref h_o), (2, .int v2), (3, .int v3)]), WW H locs (F0 m 70 ls [.int s0, .int s1]) := by
            intro v3 s0 s1 rr hf hG H locs hP hD hS ls hl
            refine h2 ?_
            unfold fX8_flawed_70 at hf
            refine lv_iadd hx hb dX8_flawed_70 ?_
            refine lv_istore_n (lv' := [(1, .int (s1 + s0)), (0, .ref h_o), (2, .int v2), (3, .int v3)]) hx hb dX8_flawed_71 rfl hl (by decide) rfl (fun ls hl => ?_)
            refine lv_iinc (v := (v3 + 1)) (lv' := [(3, .int (v3 + 1)), (1, .int (s1 + s0)), (0, .ref h_o), (2, .int v2)]) hx hb dX8_flawed_72 hl (k := 3) rfl rfl (by decide) rfl (fun ls hl => ?_)
            refine lv_goto (tgt := 16) hx hb dX8_flawed_75 (by decide) ?_
            have hf := Option.some.inj hf
            subst hf
            rw [eG2] at hG
            obtain ⟨rr, hf, hG⟩ := hG
            exact h1 (ih16 (s1 + s0) (v3 + 1) rr hf hG _ _ hP hD hS _ (lv_sub hl [2, 1, 3, 0] rfl))
          unfold fX8_flawed_16_b at hf
          refine lv_iload_n hx hb dX8_flawed_16 rfl (lv_at hl 3 rfl) ?_
          refine lv_aload_n hx hb dX8_flawed_17 rfl (lv_at hl 0 rfl) ?_
          refine va_get (D := (dC, dI)) (ci := 7) (v := .ref h_o_all) (C := RX8) (T := TX8) (N := 29) hx hb hts (fun w h => List.mem_cons_of_mem _ (kc_X8 w h)) hown hK hP 0 rfl rfl 4 (by decide) (hg kw_594) (fun _ h9 => h9) rfl dX8_flawed_18 ?_
          refine lv_iconst (v := 0) hx hb dX8_flawed_21 (by decide) ?_
          refine va_iald hx hb hK hP 1 0 rfl rfl (ds_in_ok (i := 0) (n := 350) (by decide)) dX8_flawed_22 ?_
          refine lv_icmp_ge (tgt := 78) hx hb dX8_flawed_23 (by decide) (fun c_23 => ?_) (fun c_23 => ?_)
          · replace hf := ds_t c_23 hf
            obtain ⟨rr, hr_0, hf⟩ := ds_ob hf
            have hf := Option.some.inj hf
            subst hf
            rw [eG2] at hG
            replace hG : G1 rr := hG
            have hf := hr_0
            exact h1 (J_78 v1 v2 _ hf hG _ _ hP hD hS _ (lv_sub hl [0, 1, 2] rfl))
          · replace hf := ds_f c_23 hf
            refine lv_bipush (v := 8) hx hb dX8_flawed_26 (by decide) ?_
            refine lv_iload_n hx hb dX8_flawed_28 rfl (lv_at hl 2 rfl) ?_
            refine lv_imul hx hb dX8_flawed_29 ?_
            refine lv_iload_n hx hb dX8_flawed_30 rfl (lv_at hl 3 rfl) ?_
            refine lv_iadd hx hb dX8_flawed_31 ?_
            refine lv_istore (lv' := [(4, .int (((8 : Int32) * v2) + v3)), (0, .ref h_o), (1, .int v1), (2, .int v2), (3, .int v3)]) hx hb dX8_flawed_32 hl (by decide) rfl (fun ls hl => ?_)
            refine lv_iload_n hx hb dX8_flawed_34 rfl (lv_at hl 2 rfl) ?_
            refine lv_aload_n hx hb dX8_flawed_35 rfl (lv_at hl 1 rfl) ?_
            refine va_get (D := (dC, dI)) (ci := 7) (v := .ref h_o_rootOf) (C := RX8) (T := TX8) (N := 29) hx hb hts (fun w h => List.mem_cons_of_mem _ (kc_X8 w h)) hown hK hP 0 rfl rfl 24 (by decide) (hg kw_739) (fun _ h9 => h9) rfl dX8_flawed_36 ?_
            refine lv_iload hx hb dX8_flawed_39 (lv_at hl 0 rfl) ?_
            obtain ⟨i_41, hf⟩ := ds_ci hf
            refine va_iald hx hb hK hP 2 0 rfl rfl i_41 dX8_flawed_41 ?_
            refine lv_iload hx hb dX8_flawed_42 (lv_at hl 0 rfl) ?_
            refine lv_icmp_ne (tgt := 69) hx hb dX8_flawed_44 (by decide) (fun c_44 => ?_) (fun c_44 => ?_)
            · replace hf := ds_f c_44 hf
              refine lv_iconst (v := 0) hx hb dX8_flawed_69 (by decide) ?_
              exact h1 (J_70 v3 (0 : Int32) v1 _ hf hG _ _ hP hD hS _ (lv_sub hl [1, 3, 4] rfl))
            · replace hf := ds_t c_44 hf
              refine lv_aload_n hx hb dX8_flawed_47 rfl (lv_at hl 1 rfl) ?_
              refine lv_iload hx hb dX8_flawed_48 (lv_at hl 0 rfl) ?_
              obtain ⟨q50, hq50, hf⟩ := ds_ob hf
              refine ds_calli (wr := []) (va_runV (As := [.int (((8 : Int32) * v2) + v3)]) (rest := [.int v1]) ⟨hx, hb, hml, hown, hts⟩ (c_X8_orbitSize l dC dI ca sa h_o h_o_plans h_o_makers h_o_halves h_o_all h_o_text h_o_saved h_o_undone h_o_told h_o_shift h_o_rootOf h_o_becomes h_o_comes h_o_next H.size o_raised o_undos o_reached o_length o_begin o_letters o_sort o_word o_wrongAt o_badAt o_bad o_firstX o_firstY o_secondX o_secondY o_x o_all_r o_rootOf_r (((8 : Int32) * v2) + v3) q50 hq50) (cwV 1 hts (ds_gV kw_824 kw_825 kw_826 kw_597 kw_827) rfl rfl rfl (by decide +kernel) ⟨Nat.le_of_ble_eq_true rfl, Nat.le_of_ble_eq_true rfl⟩) ⟨ds_blind, va_recv hK hP (ci := 7) (q0 := 0) rfl rfl, ds_at hP hD hK hE hS hA [0, 1, 2] rfl rfl _⟩ rfl rfl hl.1 rfl (lv_room (Nat.le_of_ble_eq_true rfl)) dX8_flawed_50 ⟨Nat.zero_le _, Nat.zero_le _⟩) hP hD hS hA [0, 1, 2] [] rfl rfl rfl (by decide) (fun H locs hP hD hS => ?_)
              have hP : va_P (dC, dI) vwCl [(h_o, .inr (7, [.ref h_o_plans, .ref h_o_makers, .ref h_o_halves, .int o_raised, .ref h_o_all, .ref h_o_text, .ref h_o_saved, .ref h_o_undone, .int o_undos, .int o_reached, .int o_length, .int o_begin, .int o_letters, .int o_sort, .long o_word, .int o_wrongAt, .int o_badAt, .int o_bad, .ref h_o_told, .ref h_o_shift, .int o_firstX, .int o_firstY, .int o_secondX, .int o_secondY, .ref h_o_rootOf, .ref h_o_becomes, .ref h_o_comes, .ref h_o_next, .int o_x])), (h_o_all, .inl (ca 0, 350, .inl o_all_r)), (h_o_rootOf, .inl (ca 0, 64, .inl o_rootOf_r))] H := hP
              have hD : va_D A [(h_o, .inr (7, [.ref h_o_plans, .ref h_o_makers, .ref h_o_halves, .int o_raised, .ref h_o_all, .ref h_o_text, .ref h_o_saved, .ref h_o_undone, .int o_undos, .int o_reached, .int o_length, .int o_begin, .int o_letters, .int o_sort, .long o_word, .int o_wrongAt, .int o_badAt, .int o_bad, .ref h_o_told, .ref h_o_shift, .int o_firstX, .int o_firstY, .int o_secondX, .int o_secondY, .ref h_o_rootOf, .ref h_o_becomes, .ref h_o_comes, .ref h_o_next, .int o_x])), (h_o_all, .inl (ca 0, 350, .inl o_all_r)), (h_o_rootOf, .inl (ca 0, 64, .inl o_rootOf_r))] := hD
              refine lv_aload_n hx hb dX8_flawed_53 rfl (lv_at hl 1 rfl) ?_
              refine lv_iload hx hb dX8_flawed_54 (lv_at hl 0 rfl) ?_
              refine lv_aload_n hx hb dX8_flawed_56 rfl (lv_at hl 1 rfl) ?_
              refine lv_iload hx hb dX8_flawed_57 (lv_at hl 0 rfl) ?_
              obtain ⟨q59, hq59, hf⟩ := ds_ob hf
              refine ds_calli (wr := []) (va_runV (As := [.int (((8 : Int32) * v2) + v3)]) (rest := [.int (((8 : Int32) * v2) + v3), .ref h_o, .int q50, .int v1]) ⟨hx, hb, hml, hown, hts⟩ (c_X8_mostOf l dC dI ca sa h_o h_o_plans h_o_makers h_o_halves h_o_all h_o_text h_o_saved h_o_undone h_o_told h_o_shift h_o_rootOf h_o_becomes h_o_comes h_o_next H.size o_raised o_undos o_reached o_length o_begin o_letters o_sort o_word o_wrongAt o_badAt o_bad o_firstX o_firstY o_secondX o_secondY o_x o_all_r o_rootOf_r (((8 : Int32) * v2) + v3) q59 hq59) (cwV 1 hts (ds_gV kw_828 kw_829 kw_830 kw_597 kw_831) rfl rfl rfl (by decide +kernel) ⟨Nat.le_of_ble_eq_true rfl, Nat.le_of_ble_eq_true rfl⟩) ⟨ds_blind, va_recv hK hP (ci := 7) (q0 := 0) rfl rfl, ds_at hP hD hK hE hS hA [0, 1, 2] rfl rfl _⟩ rfl rfl hl.1 rfl (lv_room (Nat.le_of_ble_eq_true rfl)) dX8_flawed_59 ⟨Nat.zero_le _, Nat.zero_le _⟩) hP hD hS hA [0, 1, 2] [] rfl rfl rfl (by decide) (fun H locs hP hD hS => ?_)
              have hP : va_P (dC, dI) vwCl [(h_o, .inr (7, [.ref h_o_plans, .ref h_o_makers, .ref h_o_halves, .int o_raised, .ref h_o_all, .ref h_o_text, .ref h_o_saved, .ref h_o_undone, .int o_undos, .int o_reached, .int o_length, .int o_begin, .int o_letters, .int o_sort, .long o_word, .int o_wrongAt, .int o_badAt, .int o_bad, .ref h_o_told, .ref h_o_shift, .int o_firstX, .int o_firstY, .int o_secondX, .int o_secondY, .ref h_o_rootOf, .ref h_o_becomes, .ref h_o_comes, .ref h_o_next, .int o_x])), (h_o_all, .inl (ca 0, 350, .inl o_all_r)), (h_o_rootOf, .inl (ca 0, 64, .inl o_rootOf_r))] H := hP
              have hD : va_D A [(h_o, .inr (7, [.ref h_o_plans, .ref h_o_makers, .ref h_o_halves, .int o_raised, .ref h_o_all, .ref h_o_text, .ref h_o_saved, .ref h_o_undone, .int o_undos, .int o_reached, .int o_length, .int o_begin, .int o_letters, .int o_sort, .long o_word, .int o_wrongAt, .int o_badAt, .int o_bad, .ref h_o_told, .ref h_o_shift, .int o_firstX, .int o_firstY, .int o_secondX, .int o_secondY, .ref h_o_rootOf, .ref h_o_becomes, .ref h_o_comes, .ref h_o_next, .int o_x])), (h_o_all, .inl (ca 0, 350, .inl o_all_r)), (h_o_rootOf, .inl (ca 0, 64, .inl o_rootOf_r))] := hD
              obtain ⟨q62, hq62, hf⟩ := ds_ob hf
              refine ds_calli (wr := []) (va_runV (As := [.int (((8 : Int32) * v2) + v3), .int q59]) (rest := [.int q50, .int v1]) ⟨hx, hb, hml, hown, hts⟩ (c_X8_ofColour l dC dI ca sa h_o h_o_plans h_o_makers h_o_halves h_o_all h_o_text h_o_saved h_o_undone h_o_told h_o_shift h_o_rootOf h_o_becomes h_o_comes h_o_next H.size o_raised o_undos o_reached o_length o_begin o_letters o_sort o_word o_wrongAt o_badAt o_bad o_firstX o_firstY o_secondX o_secondY o_x o_all_r o_rootOf_r (((8 : Int32) * v2) + v3) q59 q62 hq62) (cwV 2 hts (ds_gV kw_820 kw_821 kw_822 kw_597 kw_823) rfl rfl rfl (by decide +kernel) ⟨Nat.le_of_ble_eq_true rfl, Nat.le_of_ble_eq_true rfl⟩) ⟨ds_blind, va_recv hK hP (ci := 7) (q0 := 0) rfl rfl, ds_at hP hD hK hE hS hA [0, 1, 2] rfl rfl _⟩ rfl rfl hl.1 rfl (lv_room (Nat.le_of_ble_eq_true rfl)) dX8_flawed_62 ⟨Nat.zero_le _, Nat.zero_le _⟩) hP hD hS hA [0, 1, 2] [] rfl rfl rfl (by decide) (fun H locs hP hD hS => ?_)
              have hP : va_P (dC, dI) vwCl [(h_o, .inr (7, [.ref h_o_plans, .ref h_o_makers, .ref h_o_halves, .int o_raised, .ref h_o_all, .ref h_o_text, .ref h_o_saved, .ref h_o_undone, .int o_undos, .int o_reached, .int o_length, .int o_begin, .int o_letters, .int o_sort, .long o_word, .int o_wrongAt, .int o_badAt, .int o_bad, .ref h_o_told, .ref h_o_shift, .int o_firstX, .int o_firstY, .int o_secondX, .int o_secondY, .ref h_o_rootOf, .ref h_o_becomes, .ref h_o_comes, .ref h_o_next, .int o_x])), (h_o_all, .inl (ca 0, 350, .inl o_all_r)), (h_o_rootOf, .inl (ca 0, 64, .inl o_rootOf_r))] H := hP
              have hD : va_D A [(h_o, .inr (7, [.ref h_o_plans, .ref h_o_makers, .ref h_o_halves, .int o_raised, .ref h_o_all, .ref h_o_text, .ref h_o_saved, .ref h_o_undone, .int o_undos, .int o_reached, .int o_length, .int o_begin, .int o_letters, .int o_sort, .long o_word, .int o_wrongAt, .int o_badAt, .int o_bad, .ref h_o_told, .ref h_o_shift, .int o_firstX, .int o_firstY, .int o_secondX, .int o_secondY, .ref h_o_rootOf, .ref h_o_becomes, .ref h_o_comes, .ref h_o_next, .int o_x])), (h_o_all, .inl (ca 0, 350, .inl o_all_r)), (h_o_rootOf, .inl (ca 0, 64, .inl o_rootOf_r))] := hD
              refine lv_isub hx hb dX8_flawed_65 ?_
              refine lv_goto (tgt := 70) hx hb dX8_flawed_66 (by decide) ?_
              exact h1 (J_70 v3 (q50 - q62) v1 _ hf hG _ _ hP hD hS _ (lv_sub hl [1, 3, 4] rfl))
      unfold fX8_flawed_4_b at hf
      refine lv_iload_n hx hb dX8_flawed_4 rfl (lv_at hl 2 rfl) ?_
      refine lv_aload_n hx hb dX8_flawed_5 rfl (lv_at hl 0 rfl) ?_
      refine va_get (D := (dC, dI)) (ci := 7) (v := .ref h_o_all) (C := RX8) (T := TX8) (N := 29) hx hb hts (fun w h => List.mem_cons_of_mem _ (kc_X8 w h)) hown hK hP 0 rfl rfl 4 (by decide) (hg kw_594) (fun _ h9 => h9) rfl dX8_flawed_6 ?_
      refine lv_iconst (v := 1) hx hb dX8_flawed_9 (by decide) ?_
      refine va_iald hx hb hK hP 1 0 rfl rfl (ds_in_ok (i := 1) (n := 350) (by decide)) dX8_flawed_10 ?_
      refine lv_icmp_ge (tgt := 84) hx hb dX8_flawed_11 (by decide) (fun c_11 => ?_) (fun c_11 => ?_)
      · replace hf := ds_t c_11 hf
        refine lv_iload_n hx hb dX8_flawed_84 rfl (lv_at hl 1 rfl) ?_
        have hf := Option.some.inj hf
        subst hf
        rw [eG1] at hG
        replace hG : G0 _ := hG
        rw [eG0] at hG
        have hG : _ = res := hG
        subst hG
        exact W.iret (v := v1) hx hb hr (fun t ht hW => ⟨⟨v1, (), rfl, rfl, by rw [ht]; exact hP, hD⟩, hS.F ht⟩) hS.2.2 dX8_flawed_85
      · replace hf := ds_f c_11 hf
        refine lv_iconst (v := 0) hx hb dX8_flawed_14 (by decide) ?_
        refine lv_istore_n (lv' := [(3, .int (0 : Int32)), (0, .ref h_o), (1, .int v1), (2, .int v2)]) hx hb dX8_flawed_15 rfl hl (by decide) rfl (fun ls hl => ?_)
        exact h1 (J_16 v2 1000 v1 (0 : Int32) _ hf hG _ _ hP hD hS _ (lv_sub hl [1, 2, 3, 0] rfl))
  unfold fX8_flawed at hf
  refine lv_iconst (v := 0) hx hb dX8_flawed_0 (by decide) ?_
  refine lv_istore_n (lv' := [(1, .int (0 : Int32)), (0, .ref h_o)]) hx hb dX8_flawed_1 rfl hl (by decide) rfl (fun ls hl => ?_)
  refine lv_iconst (v := 0) hx hb dX8_flawed_2 (by decide) ?_
  refine lv_istore_n (lv' := [(2, .int (0 : Int32)), (1, .int (0 : Int32)), (0, .ref h_o)]) hx hb dX8_flawed_3 rfl hl (by decide) rfl (fun ls hl => ?_)
  exact h1 (J_4  1000 (0 : Int32) (0 : Int32) _ hf hG _ _ hP hD hS _ (lv_sub hl [2, 1, 0] rfl))
theorem dX8_flaws_0 : decode cX8_flaws 0 = .ok (.aload_n 0, 1) := by decide +kernel
theorem dX8_flaws_1 : decode cX8_flaws 1 = .ok (.iconst 0, 1) := by decide +kernel
theorem dX8_flaws_2 : decode cX8_flaws 2 = .ok (.putfield 51, 3) := by decide +kernel
theorem dX8_flaws_5 : decode cX8_flaws 5 = .ok (.aload_n 0, 1) := by decide +kernel
theorem dX8_flaws_6 : decode cX8_flaws 6 = .ok (.iload_n 1, 1) := by decide +kernel
theorem dX8_flaws_7 : decode cX8_flaws 7 = .ok (.invokevirtual 275, 3) := by decide +kernel
theorem dX8_flaws_10 : decode cX8_flaws 10 = .ok (.ifCond .ne 5, 3) := by decide +kernel
theorem dX8_flaws_13 : decode cX8_flaws 13 = .ok (.iconst (-1), 1) := by decide +kernel
theorem dX8_flaws_14 : decode cX8_flaws 14 = .ok (.ireturn, 1) := by decide +kernel
theorem dX8_flaws_15 : decode cX8_flaws 15 = .ok (.aload_n 0, 1) := by decide +kernel
theorem dX8_flaws_16 : decode cX8_flaws 16 = .ok (.iload_n 1, 1) := by decide +kernel
theorem dX8_flaws_17 : decode cX8_flaws 17 = .ok (.invokevirtual 278, 3) := by decide +kernel
theorem dX8_flaws_20 : decode cX8_flaws 20 = .ok (.aload_n 0, 1) := by decide +kernel
theorem dX8_flaws_21 : decode cX8_flaws 21 = .ok (.invokevirtual 281, 3) := by decide +kernel
theorem dX8_flaws_24 : decode cX8_flaws 24 = .ok (.ireturn, 1) := by decide +kernel
def fX8_flaws (o_all_r : Nat → Int32) (o_halves_r : Nat → Int32) (o_rootOf_r : Nat → Int32) (o_makers_r : Nat → Int32) (o_plans_r : Nat → Int32) (p1 : Int32) : Option (Int32 × Int32 × (Nat → Int32)) :=
  Option.bind (fX8_mayAsk o_all_r o_halves_r p1) fun q7 => if q7 = 0 then some ((-1 : Int32), (0 : Int32), o_rootOf_r) else Option.bind (fX8_laysOrbits o_rootOf_r o_all_r o_makers_r o_halves_r o_plans_r p1) fun q17 => Option.bind (fX8_flawed o_all_r q17) fun q21 => some (q21, (0 : Int32), q17)
set_option maxHeartbeats 4000000 in
set_option maxRecDepth 100000 in
theorem c_X8_flaws (l : Launch) (dC : Nat → ClassId) (dI : Nat → Nat → Nat) (ca : Nat → ClassId) (sa : Nat → Nat) (h_o : Nat) (h_o_plans : Nat) (h_o_makers : Nat) (h_o_halves : Nat) (h_o_all : Nat) (h_o_text : Nat) (h_o_saved : Nat) (h_o_undone : Nat) (h_o_told : Nat) (h_o_shift : Nat) (h_o_rootOf : Nat) (h_o_becomes : Nat) (h_o_comes : Nat) (h_o_next : Nat) (sz : Nat) (o_raised : Int32) (o_undos : Int32) (o_reached : Int32) (o_length : Int32) (o_begin : Int32) (o_letters : Int32) (o_sort : Int32) (o_word : Int64) (o_wrongAt : Int32) (o_badAt : Int32) (o_bad : Int32) (o_firstX : Int32) (o_firstY : Int32) (o_secondX : Int32) (o_secondY : Int32) (o_x : Int32) (o_all_r : Nat → Int32) (o_halves_r : Nat → Int32) (o_rootOf_r : Nat → Int32) (o_makers_r : Nat → Int32) (o_plans_r : Nat → Int32) (p1 : Int32) (res : Int32 × Int32 × (Nat → Int32)) (hf : fX8_flaws o_all_r o_halves_r o_rootOf_r o_makers_r o_plans_r p1 = some res) : Met l yX8_flaws (Cond.code yX8_flaws cX8_flaws 2 (some .int) :: ds_gw) { frames := 6, cells := 0, slots := 0, locals := 138 } (va_Pc [.ref h_o, .int p1] (ds_Pre dC dI ca sa [(h_o, .inr (7, [.ref h_o_plans, .ref h_o_makers, .ref h_o_halves, .int o_raised, .ref h_o_all, .ref h_o_text, .ref h_o_saved, .ref h_o_undone, .int o_undos, .int o_reached, .int o_length, .int o_begin, .int o_letters, .int o_sort, .long o_word, .int o_wrongAt, .int o_badAt, .int o_bad, .ref h_o_told, .ref h_o_shift, .int o_firstX, .int o_firstY, .int o_secondX, .int o_secondY, .ref h_o_rootOf, .ref h_o_becomes, .ref h_o_comes, .ref h_o_next, .int o_x])), (h_o_all, .inl (ca 0, 350, .inl o_all_r)), (h_o_halves, .inl (ca 0, 34, .inl o_halves_r)), (h_o_rootOf, .inl (ca 0, 64, .inl o_rootOf_r)), (h_o_makers, .inl (ca 0, 34, .inl o_makers_r)), (h_o_plans, .inl (ca 0, 80, .inl o_plans_r))] sz)) (va_Qi (fun r (_ : Unit) => r = res.1) (ds_B dC dI (va_A [(h_o, .inr (7, [.ref h_o_plans, .ref h_o_makers, .ref h_o_halves, .int o_raised, .ref h_o_all, .ref h_o_text, .ref h_o_saved, .ref h_o_undone, .int o_undos, .int o_reached, .int o_length, .int o_begin, .int o_letters, .int o_sort, .long o_word, .int o_wrongAt, .int o_badAt, .int o_bad, .ref h_o_told, .ref h_o_shift, .int o_firstX, .int o_firstY, .int o_secondX, .int o_secondY, .ref h_o_rootOf, .ref h_o_becomes, .ref h_o_comes, .ref h_o_next, .int o_x])), (h_o_all, .inl (ca 0, 350, .inl o_all_r)), (h_o_halves, .inl (ca 0, 34, .inl o_halves_r)), (h_o_rootOf, .inl (ca 0, 64, .inl o_rootOf_r)), (h_o_makers, .inl (ca 0, 34, .inl o_makers_r)), (h_o_plans, .inl (ca 0, 80, .inl o_plans_r))] sz) [(h_o, .inr (7, [.ref h_o_plans, .ref h_o_makers, .ref h_o_halves, .int res.2.1, .ref h_o_all, .ref h_o_text, .ref h_o_saved, .ref h_o_undone, .int o_undos, .int o_reached, .int o_length, .int o_begin, .int o_letters, .int o_sort, .long o_word, .int o_wrongAt, .int o_badAt, .int o_bad, .ref h_o_told, .ref h_o_shift, .int o_firstX, .int o_firstY, .int o_secondX, .int o_secondY, .ref h_o_rootOf, .ref h_o_becomes, .ref h_o_comes, .ref h_o_next, .int o_x])), (h_o_all, .inl (ca 0, 350, .inl o_all_r)), (h_o_halves, .inl (ca 0, 34, .inl o_halves_r)), (h_o_rootOf, .inl (ca 0, 64, .inl res.2.2)), (h_o_makers, .inl (ca 0, 34, .inl o_makers_r)), (h_o_plans, .inl (ca 0, 80, .inl o_plans_r))]) (va_A [(h_o, .inr (7, [.ref h_o_plans, .ref h_o_makers, .ref h_o_halves, .int o_raised, .ref h_o_all, .ref h_o_text, .ref h_o_saved, .ref h_o_undone, .int o_undos, .int o_reached, .int o_length, .int o_begin, .int o_letters, .int o_sort, .long o_word, .int o_wrongAt, .int o_badAt, .int o_bad, .ref h_o_told, .ref h_o_shift, .int o_firstX, .int o_firstY, .int o_secondX, .int o_secondY, .ref h_o_rootOf, .ref h_o_becomes, .ref h_o_comes, .ref h_o_next, .int o_x])), (h_o_all, .inl (ca 0, 350, .inl o_all_r)), (h_o_halves, .inl (ca 0, 34, .inl o_halves_r)), (h_o_rootOf, .inl (ca 0, 64, .inl o_rootOf_r)), (h_o_makers, .inl (ca 0, 34, .inl o_makers_r)), (h_o_plans, .inl (ca 0, 80, .inl o_plans_r))] sz)) 0 0 (va_A [(h_o, .inr (7, [.ref h_o_plans, .ref h_o_makers, .ref h_o_halves, .int o_raised, .ref h_o_all, .ref h_o_text, .ref h_o_saved, .ref h_o_undone, .int o_undos, .int o_reached, .int o_length, .int o_begin, .int o_letters, .int o_sort, .long o_word, .int o_wrongAt, .int o_badAt, .int o_bad, .ref h_o_told, .ref h_o_shift, .int o_firstX, .int o_firstY, .int o_secondX, .int o_secondY, .ref h_o_rootOf, .ref h_o_becomes, .ref h_o_comes, .ref h_o_next, .int o_x])), (h_o_all, .inl (ca 0, 350, .inl o_all_r)), (h_o_halves, .inl (ca 0, 34, .inl o_halves_r)), (h_o_rootOf, .inl (ca 0, 64, .inl o_rootOf_r)), (h_o_makers, .inl (ca 0, 34, .inl o_makers_r)), (h_o_plans, .inl (ca 0, 80, .inl o_plans_r))] sz) := by
  refine Met.ofW (cc := cX8_flaws) (maxL := 2) (ret := (some .int)) (by decide) rfl ?_
  intro p e s m args below meth c s₁ B hml hv
  obtain ⟨rfl, hsz, hP, hK, hD0, hE⟩ := hv
  have hx := B.exec
  have hb := B.bytes
  have hr := B.returns
  have hts := atoms_spec (ws := Cond.code yX8_flaws cX8_flaws 2 (some .int) :: ds_gw) B.pre
  have hg : ∀ {w : Cond}, w ∈ ds_gw → w.before _ s = true := fun h => hts _ (List.mem_cons_of_mem _ h)
  have hown : s.vm.findClass RX8 = some m.cls := findClass_of_methodNamed B.named
  have hlocks := B.notSynchronized
  subst hsz
  have hD := hD0.self (sz := s.heap.size)
  generalize hAe : va_A [(h_o, .inr (7, [.ref h_o_plans, .ref h_o_makers, .ref h_o_halves, .int o_raised, .ref h_o_all, .ref h_o_text, .ref h_o_saved, .ref h_o_undone, .int o_undos, .int o_reached, .int o_length, .int o_begin, .int o_letters, .int o_sort, .long o_word, .int o_wrongAt, .int o_badAt, .int o_bad, .ref h_o_told, .ref h_o_shift, .int o_firstX, .int o_firstY, .int o_secondX, .int o_secondY, .ref h_o_rootOf, .ref h_o_becomes, .ref h_o_comes, .ref h_o_next, .int o_x])), (h_o_all, .inl (ca 0, 350, .inl o_all_r)), (h_o_halves, .inl (ca 0, 34, .inl o_halves_r)), (h_o_rootOf, .inl (ca 0, 64, .inl o_rootOf_r)), (h_o_makers, .inl (ca 0, 34, .inl o_makers_r)), (h_o_plans, .inl (ca 0, 80, .inl o_plans_r))] s.heap.size = A at hD hE ⊢
  have hA : ∀ q : Nat, s.heap.size ≤ q → A q := fun q h => by rw [← hAe]; exact Or.inr h
  have hS : va_S A s.heap s.heap [] := va_S.rf
  have hl := lv_entry ([.ref h_o, .int p1]) (n := 2) (Nat.le_of_ble_eq_true rfl)
  rw [lg_entry_eq]
  generalize (lg_sl ([.ref h_o, .int p1]) ++ List.replicate (2 - (lg_sl ([.ref h_o, .int p1])).length) Slot.unset).toArray = ls at hl ⊢
  have hl : lv_has ls 2 [(0, .ref h_o), (1, .int p1)] := hl
  obtain ⟨G0, eG0⟩ : ∃ G : (Int32 × Int32 × (Nat → Int32)) → Prop, G = (fun r => r = res) := ⟨_, rfl⟩
  obtain ⟨rr, hrr⟩ : ∃ z, z = res := ⟨_, rfl⟩
  rw [← hrr] at hf
  have hG : G0 rr := by subst eG0; exact hrr
  unfold fX8_flaws at hf
  refine lv_aload_n hx hb dX8_flaws_0 rfl (lv_at hl 0 rfl) ?_
  refine lv_iconst (v := 0) hx hb dX8_flaws_1 (by decide) ?_
  refine va_put (D := (dC, dI)) (ci := 7) (v := .int (0 : Int32)) (ty := tyX8 3) (C := RX8) (T := TX8) (N := 29) hx hb hts (fun w h => List.mem_cons_of_mem _ (kc_X8 w h)) tyX8 tyX8_ok nmX8 hown hK hP hD hS 0 rfl rfl 3 (by decide) (hg kw_564) (fun _ h9 => h9) rfl (by decide +kernel) rfl rfl (Nat.le_of_ble_eq_true rfl) dX8_flaws_2 (fun H locs hP hD hS => ?_)
  have hP : va_P (dC, dI) vwCl [(h_o, .inr (7, [.ref h_o_plans, .ref h_o_makers, .ref h_o_halves, .int (0 : Int32), .ref h_o_all, .ref h_o_text, .ref h_o_saved, .ref h_o_undone, .int o_undos, .int o_reached, .int o_length, .int o_begin, .int o_letters, .int o_sort, .long o_word, .int o_wrongAt, .int o_badAt, .int o_bad, .ref h_o_told, .ref h_o_shift, .int o_firstX, .int o_firstY, .int o_secondX, .int o_secondY, .ref h_o_rootOf, .ref h_o_becomes, .ref h_o_comes, .ref h_o_next, .int o_x])), (h_o_all, .inl (ca 0, 350, .inl o_all_r)), (h_o_halves, .inl (ca 0, 34, .inl o_halves_r)), (h_o_rootOf, .inl (ca 0, 64, .inl o_rootOf_r)), (h_o_makers, .inl (ca 0, 34, .inl o_makers_r)), (h_o_plans, .inl (ca 0, 80, .inl o_plans_r))] H := hP
  have hD : va_D A [(h_o, .inr (7, [.ref h_o_plans, .ref h_o_makers, .ref h_o_halves, .int (0 : Int32), .ref h_o_all, .ref h_o_text, .ref h_o_saved, .ref h_o_undone, .int o_undos, .int o_reached, .int o_length, .int o_begin, .int o_letters, .int o_sort, .long o_word, .int o_wrongAt, .int o_badAt, .int o_bad, .ref h_o_told, .ref h_o_shift, .int o_firstX, .int o_firstY, .int o_secondX, .int o_secondY, .ref h_o_rootOf, .ref h_o_becomes, .ref h_o_comes, .ref h_o_next, .int o_x])), (h_o_all, .inl (ca 0, 350, .inl o_all_r)), (h_o_halves, .inl (ca 0, 34, .inl o_halves_r)), (h_o_rootOf, .inl (ca 0, 64, .inl o_rootOf_r)), (h_o_makers, .inl (ca 0, 34, .inl o_makers_r)), (h_o_plans, .inl (ca 0, 80, .inl o_plans_r))] := hD
  refine lv_aload_n hx hb dX8_flaws_5 rfl (lv_at hl 0 rfl) ?_
  refine lv_iload_n hx hb dX8_flaws_6 rfl (lv_at hl 1 rfl) ?_
  obtain ⟨q7, hq7, hf⟩ := ds_ob hf
  refine ds_calli (wr := [(h_o_rootOf, .inl (ca 0, 64, .inl o_rootOf_r)), (h_o_makers, .inl (ca 0, 34, .inl o_makers_r)), (h_o_plans, .inl (ca 0, 80, .inl o_plans_r))]) (va_runV (As := [.int p1]) (rest := []) ⟨hx, hb, hml, hown, hts⟩ (c_X8_mayAsk l dC dI ca sa h_o h_o_plans h_o_makers h_o_halves h_o_all h_o_text h_o_saved h_o_undone h_o_told h_o_shift h_o_rootOf h_o_becomes h_o_comes h_o_next H.size (0 : Int32) o_undos o_reached o_length o_begin o_letters o_sort o_word o_wrongAt o_badAt o_bad o_firstX o_firstY o_secondX o_secondY o_x o_all_r o_halves_r p1 q7 hq7) (cwV 1 hts (ds_gV kw_832 kw_833 kw_834 kw_597 kw_835) rfl rfl rfl (by decide +kernel) ⟨Nat.le_of_ble_eq_true rfl, Nat.le_of_ble_eq_true rfl⟩) ⟨ds_blind, va_recv hK hP (ci := 7) (q0 := 0) rfl rfl, ds_at hP hD hK hE hS hA [0, 1, 2] rfl rfl _⟩ rfl rfl hl.1 rfl (lv_room (Nat.le_of_ble_eq_true rfl)) dX8_flaws_7 ⟨Nat.zero_le _, Nat.zero_le _⟩) hP hD hS hA [0, 1, 2] [3, 4, 5] rfl rfl rfl (by decide) (fun H locs hP hD hS => ?_)
  have hP : va_P (dC, dI) vwCl [(h_o_rootOf, .inl (ca 0, 64, .inl o_rootOf_r)), (h_o_makers, .inl (ca 0, 34, .inl o_makers_r)), (h_o_plans, .inl (ca 0, 80, .inl o_plans_r)), (h_o, .inr (7, [.ref h_o_plans, .ref h_o_makers, .ref h_o_halves, .int (0 : Int32), .ref h_o_all, .ref h_o_text, .ref h_o_saved, .ref h_o_undone, .int o_undos, .int o_reached, .int o_length, .int o_begin, .int o_letters, .int o_sort, .long o_word, .int o_wrongAt, .int o_badAt, .int o_bad, .ref h_o_told, .ref h_o_shift, .int o_firstX, .int o_firstY, .int o_secondX, .int o_secondY, .ref h_o_rootOf, .ref h_o_becomes, .ref h_o_comes, .ref h_o_next, .int o_x])), (h_o_all, .inl (ca 0, 350, .inl o_all_r)), (h_o_halves, .inl (ca 0, 34, .inl o_halves_r))] H := hP
  have hD : va_D A [(h_o_rootOf, .inl (ca 0, 64, .inl o_rootOf_r)), (h_o_makers, .inl (ca 0, 34, .inl o_makers_r)), (h_o_plans, .inl (ca 0, 80, .inl o_plans_r)), (h_o, .inr (7, [.ref h_o_plans, .ref h_o_makers, .ref h_o_halves, .int (0 : Int32), .ref h_o_all, .ref h_o_text, .ref h_o_saved, .ref h_o_undone, .int o_undos, .int o_reached, .int o_length, .int o_begin, .int o_letters, .int o_sort, .long o_word, .int o_wrongAt, .int o_badAt, .int o_bad, .ref h_o_told, .ref h_o_shift, .int o_firstX, .int o_firstY, .int o_secondX, .int o_secondY, .ref h_o_rootOf, .ref h_o_becomes, .ref h_o_comes, .ref h_o_next, .int o_x])), (h_o_all, .inl (ca 0, 350, .inl o_all_r)), (h_o_halves, .inl (ca 0, 34, .inl o_halves_r))] := hD
  refine lv_if_ne (tgt := 15) hx hb dX8_flaws_10 (by decide) (fun c_10 => ?_) (fun c_10 => ?_)
  · replace hf := ds_f c_10 hf
    refine lv_aload_n hx hb dX8_flaws_15 rfl (lv_at hl 0 rfl) ?_
    refine lv_iload_n hx hb dX8_flaws_16 rfl (lv_at hl 1 rfl) ?_
    obtain ⟨q17, hq17, hf⟩ := ds_ob hf
    refine ds_callv (wr := []) (va_runV (As := [.int p1]) (rest := []) ⟨hx, hb, hml, hown, hts⟩ (c_X8_laysOrbits l dC dI ca sa h_o h_o_plans h_o_makers h_o_halves h_o_all h_o_text h_o_saved h_o_undone h_o_told h_o_shift h_o_rootOf h_o_becomes h_o_comes h_o_next H.size (0 : Int32) o_undos o_reached o_length o_begin o_letters o_sort o_word o_wrongAt o_badAt o_bad o_firstX o_firstY o_secondX o_secondY o_x o_rootOf_r o_all_r o_makers_r o_halves_r o_plans_r p1 q17 hq17) (cwV 1 hts (ds_gV kw_836 kw_837 kw_838 kw_597 kw_839) rfl rfl rfl (by decide +kernel) ⟨Nat.le_of_ble_eq_true rfl, Nat.le_of_ble_eq_true rfl⟩) ⟨ds_blind, va_recv hK hP (ci := 7) (q0 := 3) rfl rfl, ds_at hP hD hK hE hS hA [3, 0, 4, 1, 5, 2] rfl rfl _⟩ rfl rfl hl.1 rfl (lv_room (Nat.le_of_ble_eq_true rfl)) dX8_flaws_17 ⟨Nat.zero_le _, Nat.zero_le _⟩) hP hD hS hA [3, 0, 4, 1, 5, 2] [] rfl rfl rfl (by decide) (fun H locs hP hD hS => ?_)
    have hP : va_P (dC, dI) vwCl [(h_o, .inr (7, [.ref h_o_plans, .ref h_o_makers, .ref h_o_halves, .int (0 : Int32), .ref h_o_all, .ref h_o_text, .ref h_o_saved, .ref h_o_undone, .int o_undos, .int o_reached, .int o_length, .int o_begin, .int o_letters, .int o_sort, .long o_word, .int o_wrongAt, .int o_badAt, .int o_bad, .ref h_o_told, .ref h_o_shift, .int o_firstX, .int o_firstY, .int o_secondX, .int o_secondY, .ref h_o_rootOf, .ref h_o_becomes, .ref h_o_comes, .ref h_o_next, .int o_x])), (h_o_rootOf, .inl (ca 0, 64, .inl q17)), (h_o_all, .inl (ca 0, 350, .inl o_all_r)), (h_o_makers, .inl (ca 0, 34, .inl o_makers_r)), (h_o_halves, .inl (ca 0, 34, .inl o_halves_r)), (h_o_plans, .inl (ca 0, 80, .inl o_plans_r))] H := hP
    have hD : va_D A [(h_o, .inr (7, [.ref h_o_plans, .ref h_o_makers, .ref h_o_halves, .int (0 : Int32), .ref h_o_all, .ref h_o_text, .ref h_o_saved, .ref h_o_undone, .int o_undos, .int o_reached, .int o_length, .int o_begin, .int o_letters, .int o_sort, .long o_word, .int o_wrongAt, .int o_badAt, .int o_bad, .ref h_o_told, .ref h_o_shift, .int o_firstX, .int o_firstY, .int o_secondX, .int o_secondY, .ref h_o_rootOf, .ref h_o_becomes, .ref h_o_comes, .ref h_o_next, .int o_x])), (h_o_rootOf, .inl (ca 0, 64, .inl q17)), (h_o_all, .inl (ca 0, 350, .inl o_all_r)), (h_o_makers, .inl (ca 0, 34, .inl o_makers_r)), (h_o_halves, .inl (ca 0, 34, .inl o_halves_r)), (h_o_plans, .inl (ca 0, 80, .inl o_plans_r))] := hD
    refine lv_aload_n hx hb dX8_flaws_20 rfl (lv_at hl 0 rfl) ?_
    obtain ⟨q21, hq21, hf⟩ := ds_ob hf
    refine ds_calli (wr := [(h_o_makers, .inl (ca 0, 34, .inl o_makers_r)), (h_o_halves, .inl (ca 0, 34, .inl o_halves_r)), (h_o_plans, .inl (ca 0, 80, .inl o_plans_r))]) (va_runV (As := []) (rest := []) ⟨hx, hb, hml, hown, hts⟩ (c_X8_flawed l dC dI ca sa h_o h_o_plans h_o_makers h_o_halves h_o_all h_o_text h_o_saved h_o_undone h_o_told h_o_shift h_o_rootOf h_o_becomes h_o_comes h_o_next H.size (0 : Int32) o_undos o_reached o_length o_begin o_letters o_sort o_word o_wrongAt o_badAt o_bad o_firstX o_firstY o_secondX o_secondY o_x o_all_r q17  q21 hq21) (cwV 0 hts (ds_gV kw_840 kw_841 kw_842 kw_597 kw_843) rfl rfl rfl (by decide +kernel) ⟨Nat.le_of_ble_eq_true rfl, Nat.le_of_ble_eq_true rfl⟩) ⟨ds_blind, va_recv hK hP (ci := 7) (q0 := 0) rfl rfl, ds_at hP hD hK hE hS hA [0, 2, 1] rfl rfl _⟩ rfl rfl hl.1 rfl (lv_room (Nat.le_of_ble_eq_true rfl)) dX8_flaws_21 ⟨Nat.zero_le _, Nat.zero_le _⟩) hP hD hS hA [0, 2, 1] [3, 4, 5] rfl rfl rfl (by decide) (fun H locs hP hD hS => ?_)
    have hP : va_P (dC, dI) vwCl [(h_o_makers, .inl (ca 0, 34, .inl o_makers_r)), (h_o_halves, .inl (ca 0, 34, .inl o_halves_r)), (h_o_plans, .inl (ca 0, 80, .inl o_plans_r)), (h_o, .inr (7, [.ref h_o_plans, .ref h_o_makers, .ref h_o_halves, .int (0 : Int32), .ref h_o_all, .ref h_o_text, .ref h_o_saved, .ref h_o_undone, .int o_undos, .int o_reached, .int o_length, .int o_begin, .int o_letters, .int o_sort, .long o_word, .int o_wrongAt, .int o_badAt, .int o_bad, .ref h_o_told, .ref h_o_shift, .int o_firstX, .int o_firstY, .int o_secondX, .int o_secondY, .ref h_o_rootOf, .ref h_o_becomes, .ref h_o_comes, .ref h_o_next, .int o_x])), (h_o_all, .inl (ca 0, 350, .inl o_all_r)), (h_o_rootOf, .inl (ca 0, 64, .inl q17))] H := hP
    have hD : va_D A [(h_o_makers, .inl (ca 0, 34, .inl o_makers_r)), (h_o_halves, .inl (ca 0, 34, .inl o_halves_r)), (h_o_plans, .inl (ca 0, 80, .inl o_plans_r)), (h_o, .inr (7, [.ref h_o_plans, .ref h_o_makers, .ref h_o_halves, .int (0 : Int32), .ref h_o_all, .ref h_o_text, .ref h_o_saved, .ref h_o_undone, .int o_undos, .int o_reached, .int o_length, .int o_begin, .int o_letters, .int o_sort, .long o_word, .int o_wrongAt, .int o_badAt, .int o_bad, .ref h_o_told, .ref h_o_shift, .int o_firstX, .int o_firstY, .int o_secondX, .int o_secondY, .ref h_o_rootOf, .ref h_o_becomes, .ref h_o_comes, .ref h_o_next, .int o_x])), (h_o_all, .inl (ca 0, 350, .inl o_all_r)), (h_o_rootOf, .inl (ca 0, 64, .inl q17))] := hD
    have hf := Option.some.inj hf
    subst hf
    rw [eG0] at hG
    have hG : _ = res := hG
    subst hG
    exact W.iret (v := q21) hx hb hr (fun t ht hW => ⟨⟨q21, (), rfl, rfl, by rw [ht]; exact (hP.sub [3, 4, 1, 5, 0, 2] rfl), (hD.sub [3, 4, 1, 5, 0, 2] rfl rfl)⟩, hS.F ht⟩) hS.2.2 dX8_flaws_24
  · replace hf := ds_t c_10 hf
    refine lv_iconst (v := -1) hx hb dX8_flaws_13 (by decide) ?_
    have hf := Option.some.inj hf
    subst hf
    rw [eG0] at hG
    have hG : _ = res := hG
    subst hG
    exact W.iret (v := (-1 : Int32)) hx hb hr (fun t ht hW => ⟨⟨(-1 : Int32), (), rfl, rfl, by rw [ht]; exact (hP.sub [3, 4, 5, 0, 1, 2] rfl), (hD.sub [3, 4, 5, 0, 1, 2] rfl rfl)⟩, hS.F ht⟩) hS.2.2 dX8_flaws_14
theorem dX8_isCell_0 : decode cX8_isCell 0 = .ok (.iload_n 1, 1) := by decide +kernel
theorem dX8_isCell_1 : decode cX8_isCell 1 = .ok (.iconst 0, 1) := by decide +kernel
theorem dX8_isCell_2 : decode cX8_isCell 2 = .ok (.aload_n 0, 1) := by decide +kernel
theorem dX8_isCell_3 : decode cX8_isCell 3 = .ok (.getfield 19, 3) := by decide +kernel
theorem dX8_isCell_6 : decode cX8_isCell 6 = .ok (.iconst 0, 1) := by decide +kernel
theorem dX8_isCell_7 : decode cX8_isCell 7 = .ok (.iaload, 1) := by decide +kernel
theorem dX8_isCell_8 : decode cX8_isCell 8 = .ok (.iconst 1, 1) := by decide +kernel
theorem dX8_isCell_9 : decode cX8_isCell 9 = .ok (.isub, 1) := by decide +kernel
theorem dX8_isCell_10 : decode cX8_isCell 10 = .ok (.invokestatic 90, 3) := by decide +kernel
theorem dX8_isCell_13 : decode cX8_isCell 13 = .ok (.ifCond .eq 23, 3) := by decide +kernel
theorem dX8_isCell_16 : decode cX8_isCell 16 = .ok (.iload_n 2, 1) := by decide +kernel
theorem dX8_isCell_17 : decode cX8_isCell 17 = .ok (.iconst 0, 1) := by decide +kernel
theorem dX8_isCell_18 : decode cX8_isCell 18 = .ok (.aload_n 0, 1) := by decide +kernel
theorem dX8_isCell_19 : decode cX8_isCell 19 = .ok (.getfield 19, 3) := by decide +kernel
theorem dX8_isCell_22 : decode cX8_isCell 22 = .ok (.iconst 1, 1) := by decide +kernel
theorem dX8_isCell_23 : decode cX8_isCell 23 = .ok (.iaload, 1) := by decide +kernel
theorem dX8_isCell_24 : decode cX8_isCell 24 = .ok (.iconst 1, 1) := by decide +kernel
theorem dX8_isCell_25 : decode cX8_isCell 25 = .ok (.isub, 1) := by decide +kernel
theorem dX8_isCell_26 : decode cX8_isCell 26 = .ok (.invokestatic 90, 3) := by decide +kernel
theorem dX8_isCell_29 : decode cX8_isCell 29 = .ok (.ifCond .eq 7, 3) := by decide +kernel
theorem dX8_isCell_32 : decode cX8_isCell 32 = .ok (.iconst 1, 1) := by decide +kernel
theorem dX8_isCell_33 : decode cX8_isCell 33 = .ok (.goto 4, 3) := by decide +kernel
theorem dX8_isCell_36 : decode cX8_isCell 36 = .ok (.iconst 0, 1) := by decide +kernel
theorem dX8_isCell_37 : decode cX8_isCell 37 = .ok (.ireturn, 1) := by decide +kernel
def fX8_isCell (o_all_r : Nat → Int32) (p1 : Int32) (p2 : Int32) : Option (Int32) :=
  Option.bind (fX8_in p1 (0 : Int32) ((o_all_r (0 : Int32).toNatClampNeg) - (1 : Int32))) fun q10 => if q10 = 0 then some (0 : Int32) else Option.bind (fX8_in p2 (0 : Int32) ((o_all_r (1 : Int32).toNatClampNeg) - (1 : Int32))) fun q26 => if q26 = 0 then some (0 : Int32) else some (1 : Int32)
set_option maxHeartbeats 4000000 in
set_option maxRecDepth 100000 in
theorem c_X8_isCell (l : Launch) (dC : Nat → ClassId) (dI : Nat → Nat → Nat) (ca : Nat → ClassId) (sa : Nat → Nat) (h_o : Nat) (h_o_plans : Nat) (h_o_makers : Nat) (h_o_halves : Nat) (h_o_all : Nat) (h_o_text : Nat) (h_o_saved : Nat) (h_o_undone : Nat) (h_o_told : Nat) (h_o_shift : Nat) (h_o_rootOf : Nat) (h_o_becomes : Nat) (h_o_comes : Nat) (h_o_next : Nat) (sz : Nat) (o_raised : Int32) (o_undos : Int32) (o_reached : Int32) (o_length : Int32) (o_begin : Int32) (o_letters : Int32) (o_sort : Int32) (o_word : Int64) (o_wrongAt : Int32) (o_badAt : Int32) (o_bad : Int32) (o_firstX : Int32) (o_firstY : Int32) (o_secondX : Int32) (o_secondY : Int32) (o_x : Int32) (o_all_r : Nat → Int32) (p1 : Int32) (p2 : Int32) (res : Int32) (hf : fX8_isCell o_all_r p1 p2 = some res) : Met l yX8_isCell (Cond.code yX8_isCell cX8_isCell 3 (some .boolean) :: ds_gw) { frames := 1, cells := 0, slots := 0, locals := 22 } (va_Pc [.ref h_o, .int p1, .int p2] (ds_Pre dC dI ca sa [(h_o, .inr (7, [.ref h_o_plans, .ref h_o_makers, .ref h_o_halves, .int o_raised, .ref h_o_all, .ref h_o_text, .ref h_o_saved, .ref h_o_undone, .int o_undos, .int o_reached, .int o_length, .int o_begin, .int o_letters, .int o_sort, .long o_word, .int o_wrongAt, .int o_badAt, .int o_bad, .ref h_o_told, .ref h_o_shift, .int o_firstX, .int o_firstY, .int o_secondX, .int o_secondY, .ref h_o_rootOf, .ref h_o_becomes, .ref h_o_comes, .ref h_o_next, .int o_x])), (h_o_all, .inl (ca 0, 350, .inl o_all_r))] sz)) (va_Qi (fun r (_ : Unit) => r = res) (ds_B dC dI (va_A [(h_o, .inr (7, [.ref h_o_plans, .ref h_o_makers, .ref h_o_halves, .int o_raised, .ref h_o_all, .ref h_o_text, .ref h_o_saved, .ref h_o_undone, .int o_undos, .int o_reached, .int o_length, .int o_begin, .int o_letters, .int o_sort, .long o_word, .int o_wrongAt, .int o_badAt, .int o_bad, .ref h_o_told, .ref h_o_shift, .int o_firstX, .int o_firstY, .int o_secondX, .int o_secondY, .ref h_o_rootOf, .ref h_o_becomes, .ref h_o_comes, .ref h_o_next, .int o_x])), (h_o_all, .inl (ca 0, 350, .inl o_all_r))] sz) [(h_o, .inr (7, [.ref h_o_plans, .ref h_o_makers, .ref h_o_halves, .int o_raised, .ref h_o_all, .ref h_o_text, .ref h_o_saved, .ref h_o_undone, .int o_undos, .int o_reached, .int o_length, .int o_begin, .int o_letters, .int o_sort, .long o_word, .int o_wrongAt, .int o_badAt, .int o_bad, .ref h_o_told, .ref h_o_shift, .int o_firstX, .int o_firstY, .int o_secondX, .int o_secondY, .ref h_o_rootOf, .ref h_o_becomes, .ref h_o_comes, .ref h_o_next, .int o_x])), (h_o_all, .inl (ca 0, 350, .inl o_all_r))]) (va_A [(h_o, .inr (7, [.ref h_o_plans, .ref h_o_makers, .ref h_o_halves, .int o_raised, .ref h_o_all, .ref h_o_text, .ref h_o_saved, .ref h_o_undone, .int o_undos, .int o_reached, .int o_length, .int o_begin, .int o_letters, .int o_sort, .long o_word, .int o_wrongAt, .int o_badAt, .int o_bad, .ref h_o_told, .ref h_o_shift, .int o_firstX, .int o_firstY, .int o_secondX, .int o_secondY, .ref h_o_rootOf, .ref h_o_becomes, .ref h_o_comes, .ref h_o_next, .int o_x])), (h_o_all, .inl (ca 0, 350, .inl o_all_r))] sz)) 0 0 (va_A [(h_o, .inr (7, [.ref h_o_plans, .ref h_o_makers, .ref h_o_halves, .int o_raised, .ref h_o_all, .ref h_o_text, .ref h_o_saved, .ref h_o_undone, .int o_undos, .int o_reached, .int o_length, .int o_begin, .int o_letters, .int o_sort, .long o_word, .int o_wrongAt, .int o_badAt, .int o_bad, .ref h_o_told, .ref h_o_shift, .int o_firstX, .int o_firstY, .int o_secondX, .int o_secondY, .ref h_o_rootOf, .ref h_o_becomes, .ref h_o_comes, .ref h_o_next, .int o_x])), (h_o_all, .inl (ca 0, 350, .inl o_all_r))] sz) := by
  refine Met.ofW (cc := cX8_isCell) (maxL := 3) (ret := (some .boolean)) (by decide) rfl ?_
  intro p e s m args below meth c s₁ B hml hv
  obtain ⟨rfl, hsz, hP, hK, hD0, hE⟩ := hv
  have hx := B.exec
  have hb := B.bytes
  have hr := B.returns
  have hts := atoms_spec (ws := Cond.code yX8_isCell cX8_isCell 3 (some .boolean) :: ds_gw) B.pre
  have hg : ∀ {w : Cond}, w ∈ ds_gw → w.before _ s = true := fun h => hts _ (List.mem_cons_of_mem _ h)
  have hown : s.vm.findClass RX8 = some m.cls := findClass_of_methodNamed B.named
  have hlocks := B.notSynchronized
  subst hsz
  have hD := hD0.self (sz := s.heap.size)
  generalize hAe : va_A [(h_o, .inr (7, [.ref h_o_plans, .ref h_o_makers, .ref h_o_halves, .int o_raised, .ref h_o_all, .ref h_o_text, .ref h_o_saved, .ref h_o_undone, .int o_undos, .int o_reached, .int o_length, .int o_begin, .int o_letters, .int o_sort, .long o_word, .int o_wrongAt, .int o_badAt, .int o_bad, .ref h_o_told, .ref h_o_shift, .int o_firstX, .int o_firstY, .int o_secondX, .int o_secondY, .ref h_o_rootOf, .ref h_o_becomes, .ref h_o_comes, .ref h_o_next, .int o_x])), (h_o_all, .inl (ca 0, 350, .inl o_all_r))] s.heap.size = A at hD hE ⊢
  have hA : ∀ q : Nat, s.heap.size ≤ q → A q := fun q h => by rw [← hAe]; exact Or.inr h
  have hS : va_S A s.heap s.heap [] := va_S.rf
  have hl := lv_entry ([.ref h_o, .int p1, .int p2]) (n := 3) (Nat.le_of_ble_eq_true rfl)
  rw [lg_entry_eq]
  generalize (lg_sl ([.ref h_o, .int p1, .int p2]) ++ List.replicate (3 - (lg_sl ([.ref h_o, .int p1, .int p2])).length) Slot.unset).toArray = ls at hl ⊢
  have hl : lv_has ls 3 [(0, .ref h_o), (1, .int p1), (2, .int p2)] := hl
  obtain ⟨G0, eG0⟩ : ∃ G : Int32 → Prop, G = (fun r => r = res) := ⟨_, rfl⟩
  obtain ⟨rr, hrr⟩ : ∃ z, z = res := ⟨_, rfl⟩
  rw [← hrr] at hf
  have hG : G0 rr := by subst eG0; exact hrr
  unfold fX8_isCell at hf
  refine lv_iload_n hx hb dX8_isCell_0 rfl (lv_at hl 1 rfl) ?_
  refine lv_iconst (v := 0) hx hb dX8_isCell_1 (by decide) ?_
  refine lv_aload_n hx hb dX8_isCell_2 rfl (lv_at hl 0 rfl) ?_
  refine va_get (D := (dC, dI)) (ci := 7) (v := .ref h_o_all) (C := RX8) (T := TX8) (N := 29) hx hb hts (fun w h => List.mem_cons_of_mem _ (kc_X8 w h)) hown hK hP 0 rfl rfl 4 (by decide) (hg kw_594) (fun _ h9 => h9) rfl dX8_isCell_3 ?_
  refine lv_iconst (v := 0) hx hb dX8_isCell_6 (by decide) ?_
  refine va_iald hx hb hK hP 1 0 rfl rfl (ds_in_ok (i := 0) (n := 350) (by decide)) dX8_isCell_7 ?_
  refine lv_iconst (v := 1) hx hb dX8_isCell_8 (by decide) ?_
  refine lv_isub hx hb dX8_isCell_9 ?_
  obtain ⟨q10, hq10, hf⟩ := ds_ob hf
  refine ds_calli (wr := [(h_o, .inr (7, [.ref h_o_plans, .ref h_o_makers, .ref h_o_halves, .int o_raised, .ref h_o_all, .ref h_o_text, .ref h_o_saved, .ref h_o_undone, .int o_undos, .int o_reached, .int o_length, .int o_begin, .int o_letters, .int o_sort, .long o_word, .int o_wrongAt, .int o_badAt, .int o_bad, .ref h_o_told, .ref h_o_shift, .int o_firstX, .int o_firstY, .int o_secondX, .int o_secondY, .ref h_o_rootOf, .ref h_o_becomes, .ref h_o_comes, .ref h_o_next, .int o_x])), (h_o_all, .inl (ca 0, 350, .inl o_all_r))]) (va_runS (As := [.int p1, .int (0 : Int32), .int ((o_all_r (0 : Int32).toNatClampNeg) - (1 : Int32))]) (rest := []) ⟨hx, hb, hml, hown, hts⟩ (c_X8_in l dC dI ca sa  s.heap.size  p1 (0 : Int32) ((o_all_r (0 : Int32).toNatClampNeg) - (1 : Int32)) q10 hq10) (va_cwS 3 hts (ds_gS kw_619 kw_620 kw_597 kw_621) rfl rfl rfl (by decide +kernel) ⟨Nat.le_of_ble_eq_true rfl, Nat.le_of_ble_eq_true rfl⟩) ⟨ds_blind, ds_at hP hD hK hE hS hA [] rfl rfl _⟩ rfl rfl hl.1 rfl (lv_room (Nat.le_of_ble_eq_true rfl)) dX8_isCell_10 ⟨Nat.zero_le _, Nat.zero_le _⟩) hP hD hS hA [] [0, 1] rfl rfl rfl (by decide) (fun H locs hP hD hS => ?_)
  have hP : va_P (dC, dI) vwCl [(h_o, .inr (7, [.ref h_o_plans, .ref h_o_makers, .ref h_o_halves, .int o_raised, .ref h_o_all, .ref h_o_text, .ref h_o_saved, .ref h_o_undone, .int o_undos, .int o_reached, .int o_length, .int o_begin, .int o_letters, .int o_sort, .long o_word, .int o_wrongAt, .int o_badAt, .int o_bad, .ref h_o_told, .ref h_o_shift, .int o_firstX, .int o_firstY, .int o_secondX, .int o_secondY, .ref h_o_rootOf, .ref h_o_becomes, .ref h_o_comes, .ref h_o_next, .int o_x])), (h_o_all, .inl (ca 0, 350, .inl o_all_r))] H := hP
  have hD : va_D A [(h_o, .inr (7, [.ref h_o_plans, .ref h_o_makers, .ref h_o_halves, .int o_raised, .ref h_o_all, .ref h_o_text, .ref h_o_saved, .ref h_o_undone, .int o_undos, .int o_reached, .int o_length, .int o_begin, .int o_letters, .int o_sort, .long o_word, .int o_wrongAt, .int o_badAt, .int o_bad, .ref h_o_told, .ref h_o_shift, .int o_firstX, .int o_firstY, .int o_secondX, .int o_secondY, .ref h_o_rootOf, .ref h_o_becomes, .ref h_o_comes, .ref h_o_next, .int o_x])), (h_o_all, .inl (ca 0, 350, .inl o_all_r))] := hD
  refine lv_if_eq (tgt := 36) hx hb dX8_isCell_13 (by decide) (fun c_13 => ?_) (fun c_13 => ?_)
  · replace hf := ds_t c_13 hf
    refine lv_iconst (v := 0) hx hb dX8_isCell_36 (by decide) ?_
    have hf := Option.some.inj hf
    subst hf
    rw [eG0] at hG
    have hG : _ = res := hG
    subst hG
    exact W.zret (v := (0 : Int32)) (ty := .boolean) hx hb hr rfl (fun t ht hW => ⟨⟨(0 : Int32), (), rfl, rfl, by rw [ht]; exact hP, hD⟩, hS.F ht⟩) hS.2.2 dX8_isCell_37
  · replace hf := ds_f c_13 hf
    refine lv_iload_n hx hb dX8_isCell_16 rfl (lv_at hl 2 rfl) ?_
    refine lv_iconst (v := 0) hx hb dX8_isCell_17 (by decide) ?_
    refine lv_aload_n hx hb dX8_isCell_18 rfl (lv_at hl 0 rfl) ?_
    refine va_get (D := (dC, dI)) (ci := 7) (v := .ref h_o_all) (C := RX8) (T := TX8) (N := 29) hx hb hts (fun w h => List.mem_cons_of_mem _ (kc_X8 w h)) hown hK hP 0 rfl rfl 4 (by decide) (hg kw_594) (fun _ h9 => h9) rfl dX8_isCell_19 ?_
    refine lv_iconst (v := 1) hx hb dX8_isCell_22 (by decide) ?_
    refine va_iald hx hb hK hP 1 0 rfl rfl (ds_in_ok (i := 1) (n := 350) (by decide)) dX8_isCell_23 ?_
    refine lv_iconst (v := 1) hx hb dX8_isCell_24 (by decide) ?_
    refine lv_isub hx hb dX8_isCell_25 ?_
    obtain ⟨q26, hq26, hf⟩ := ds_ob hf
    refine ds_calli (wr := [(h_o, .inr (7, [.ref h_o_plans, .ref h_o_makers, .ref h_o_halves, .int o_raised, .ref h_o_all, .ref h_o_text, .ref h_o_saved, .ref h_o_undone, .int o_undos, .int o_reached, .int o_length, .int o_begin, .int o_letters, .int o_sort, .long o_word, .int o_wrongAt, .int o_badAt, .int o_bad, .ref h_o_told, .ref h_o_shift, .int o_firstX, .int o_firstY, .int o_secondX, .int o_secondY, .ref h_o_rootOf, .ref h_o_becomes, .ref h_o_comes, .ref h_o_next, .int o_x])), (h_o_all, .inl (ca 0, 350, .inl o_all_r))]) (va_runS (As := [.int p2, .int (0 : Int32), .int ((o_all_r (1 : Int32).toNatClampNeg) - (1 : Int32))]) (rest := []) ⟨hx, hb, hml, hown, hts⟩ (c_X8_in l dC dI ca sa  H.size  p2 (0 : Int32) ((o_all_r (1 : Int32).toNatClampNeg) - (1 : Int32)) q26 hq26) (va_cwS 3 hts (ds_gS kw_619 kw_620 kw_597 kw_621) rfl rfl rfl (by decide +kernel) ⟨Nat.le_of_ble_eq_true rfl, Nat.le_of_ble_eq_true rfl⟩) ⟨ds_blind, ds_at hP hD hK hE hS hA [] rfl rfl _⟩ rfl rfl hl.1 rfl (lv_room (Nat.le_of_ble_eq_true rfl)) dX8_isCell_26 ⟨Nat.zero_le _, Nat.zero_le _⟩) hP hD hS hA [] [0, 1] rfl rfl rfl (by decide) (fun H locs hP hD hS => ?_)
    have hP : va_P (dC, dI) vwCl [(h_o, .inr (7, [.ref h_o_plans, .ref h_o_makers, .ref h_o_halves, .int o_raised, .ref h_o_all, .ref h_o_text, .ref h_o_saved, .ref h_o_undone, .int o_undos, .int o_reached, .int o_length, .int o_begin, .int o_letters, .int o_sort, .long o_word, .int o_wrongAt, .int o_badAt, .int o_bad, .ref h_o_told, .ref h_o_shift, .int o_firstX, .int o_firstY, .int o_secondX, .int o_secondY, .ref h_o_rootOf, .ref h_o_becomes, .ref h_o_comes, .ref h_o_next, .int o_x])), (h_o_all, .inl (ca 0, 350, .inl o_all_r))] H := hP
    have hD : va_D A [(h_o, .inr (7, [.ref h_o_plans, .ref h_o_makers, .ref h_o_halves, .int o_raised, .ref h_o_all, .ref h_o_text, .ref h_o_saved, .ref h_o_undone, .int o_undos, .int o_reached, .int o_length, .int o_begin, .int o_letters, .int o_sort, .long o_word, .int o_wrongAt, .int o_badAt, .int o_bad, .ref h_o_told, .ref h_o_shift, .int o_firstX, .int o_firstY, .int o_secondX, .int o_secondY, .ref h_o_rootOf, .ref h_o_becomes, .ref h_o_comes, .ref h_o_next, .int o_x])), (h_o_all, .inl (ca 0, 350, .inl o_all_r))] := hD
    refine lv_if_eq (tgt := 36) hx hb dX8_isCell_29 (by decide) (fun c_29 => ?_) (fun c_29 => ?_)
    · replace hf := ds_t c_29 hf
      refine lv_iconst (v := 0) hx hb dX8_isCell_36 (by decide) ?_
      have hf := Option.some.inj hf
      subst hf
      rw [eG0] at hG
      have hG : _ = res := hG
      subst hG
      exact W.zret (v := (0 : Int32)) (ty := .boolean) hx hb hr rfl (fun t ht hW => ⟨⟨(0 : Int32), (), rfl, rfl, by rw [ht]; exact hP, hD⟩, hS.F ht⟩) hS.2.2 dX8_isCell_37
    · replace hf := ds_f c_29 hf
      refine lv_iconst (v := 1) hx hb dX8_isCell_32 (by decide) ?_
      refine lv_goto (tgt := 37) hx hb dX8_isCell_33 (by decide) ?_
      have hf := Option.some.inj hf
      subst hf
      rw [eG0] at hG
      have hG : _ = res := hG
      subst hG
      exact W.zret (v := (1 : Int32)) (ty := .boolean) hx hb hr rfl (fun t ht hW => ⟨⟨(1 : Int32), (), rfl, rfl, by rw [ht]; exact hP, hD⟩, hS.F ht⟩) hS.2.2 dX8_isCell_37
theorem dX8_orbit_0 : decode cX8_orbit 0 = .ok (.aload_n 0, 1) := by decide +kernel
theorem dX8_orbit_1 : decode cX8_orbit 1 = .ok (.iconst 0, 1) := by decide +kernel
theorem dX8_orbit_2 : decode cX8_orbit 2 = .ok (.putfield 51, 3) := by decide +kernel
theorem dX8_orbit_5 : decode cX8_orbit 5 = .ok (.aload_n 0, 1) := by decide +kernel
theorem dX8_orbit_6 : decode cX8_orbit 6 = .ok (.iload_n 1, 1) := by decide +kernel
theorem dX8_orbit_7 : decode cX8_orbit 7 = .ok (.invokevirtual 275, 3) := by decide +kernel
theorem dX8_orbit_10 : decode cX8_orbit 10 = .ok (.ifCond .eq 12, 3) := by decide +kernel
theorem dX8_orbit_13 : decode cX8_orbit 13 = .ok (.aload_n 0, 1) := by decide +kernel
theorem dX8_orbit_14 : decode cX8_orbit 14 = .ok (.iload_n 2, 1) := by decide +kernel
theorem dX8_orbit_15 : decode cX8_orbit 15 = .ok (.iload_n 3, 1) := by decide +kernel
theorem dX8_orbit_16 : decode cX8_orbit 16 = .ok (.invokevirtual 284, 3) := by decide +kernel
theorem dX8_orbit_19 : decode cX8_orbit 19 = .ok (.ifCond .ne 5, 3) := by decide +kernel
theorem dX8_orbit_22 : decode cX8_orbit 22 = .ok (.iconst (-1), 1) := by decide +kernel
theorem dX8_orbit_23 : decode cX8_orbit 23 = .ok (.ireturn, 1) := by decide +kernel
theorem dX8_orbit_24 : decode cX8_orbit 24 = .ok (.aload_n 0, 1) := by decide +kernel
theorem dX8_orbit_25 : decode cX8_orbit 25 = .ok (.iload_n 1, 1) := by decide +kernel
theorem dX8_orbit_26 : decode cX8_orbit 26 = .ok (.invokevirtual 278, 3) := by decide +kernel
theorem dX8_orbit_29 : decode cX8_orbit 29 = .ok (.aload_n 0, 1) := by decide +kernel
theorem dX8_orbit_30 : decode cX8_orbit 30 = .ok (.bipush 8, 2) := by decide +kernel
theorem dX8_orbit_32 : decode cX8_orbit 32 = .ok (.iload_n 3, 1) := by decide +kernel
theorem dX8_orbit_33 : decode cX8_orbit 33 = .ok (.imul, 1) := by decide +kernel
theorem dX8_orbit_34 : decode cX8_orbit 34 = .ok (.iload_n 2, 1) := by decide +kernel
theorem dX8_orbit_35 : decode cX8_orbit 35 = .ok (.iadd, 1) := by decide +kernel
theorem dX8_orbit_36 : decode cX8_orbit 36 = .ok (.invokevirtual 207, 3) := by decide +kernel
theorem dX8_orbit_39 : decode cX8_orbit 39 = .ok (.istore 5, 2) := by decide +kernel
theorem dX8_orbit_41 : decode cX8_orbit 41 = .ok (.iload 4, 2) := by decide +kernel
theorem dX8_orbit_43 : decode cX8_orbit 43 = .ok (.ifCond .eq 8, 3) := by decide +kernel
theorem dX8_orbit_46 : decode cX8_orbit 46 = .ok (.iload 5, 2) := by decide +kernel
theorem dX8_orbit_48 : decode cX8_orbit 48 = .ok (.goto 9, 3) := by decide +kernel
theorem dX8_orbit_51 : decode cX8_orbit 51 = .ok (.aload_n 0, 1) := by decide +kernel
theorem dX8_orbit_52 : decode cX8_orbit 52 = .ok (.iload 5, 2) := by decide +kernel
theorem dX8_orbit_54 : decode cX8_orbit 54 = .ok (.invokevirtual 269, 3) := by decide +kernel
theorem dX8_orbit_57 : decode cX8_orbit 57 = .ok (.ireturn, 1) := by decide +kernel
def fX8_orbit (o_all_r : Nat → Int32) (o_halves_r : Nat → Int32) (o_rootOf_r : Nat → Int32) (o_makers_r : Nat → Int32) (o_plans_r : Nat → Int32) (p1 : Int32) (p2 : Int32) (p3 : Int32) (p4 : Int32) : Option (Int32 × Int32 × (Nat → Int32)) :=
  Option.bind (fX8_mayAsk o_all_r o_halves_r p1) fun q7 => if q7 = 0 then some ((-1 : Int32), (0 : Int32), o_rootOf_r) else Option.bind (fX8_isCell o_all_r p2 p3) fun q16 => if q16 = 0 then some ((-1 : Int32), (0 : Int32), o_rootOf_r) else Option.bind (fX8_laysOrbits o_rootOf_r o_all_r o_makers_r o_halves_r o_plans_r p1) fun q26 => Option.bind (fX8_root q26 (((8 : Int32) * p3) + p2)) fun q36 => if p4 = 0 then Option.bind (fX8_orbitSize o_all_r q26 q36) fun q54 => some (q54, (0 : Int32), q26) else some (q36, (0 : Int32), q26)
set_option maxHeartbeats 4000000 in
set_option maxRecDepth 100000 in
theorem c_X8_orbit (l : Launch) (dC : Nat → ClassId) (dI : Nat → Nat → Nat) (ca : Nat → ClassId) (sa : Nat → Nat) (h_o : Nat) (h_o_plans : Nat) (h_o_makers : Nat) (h_o_halves : Nat) (h_o_all : Nat) (h_o_text : Nat) (h_o_saved : Nat) (h_o_undone : Nat) (h_o_told : Nat) (h_o_shift : Nat) (h_o_rootOf : Nat) (h_o_becomes : Nat) (h_o_comes : Nat) (h_o_next : Nat) (sz : Nat) (o_raised : Int32) (o_undos : Int32) (o_reached : Int32) (o_length : Int32) (o_begin : Int32) (o_letters : Int32) (o_sort : Int32) (o_word : Int64) (o_wrongAt : Int32) (o_badAt : Int32) (o_bad : Int32) (o_firstX : Int32) (o_firstY : Int32) (o_secondX : Int32) (o_secondY : Int32) (o_x : Int32) (o_all_r : Nat → Int32) (o_halves_r : Nat → Int32) (o_rootOf_r : Nat → Int32) (o_makers_r : Nat → Int32) (o_plans_r : Nat → Int32) (p1 : Int32) (p2 : Int32) (p3 : Int32) (p4 : Int32) (res : Int32 × Int32 × (Nat → Int32)) (hf : fX8_orbit o_all_r o_halves_r o_rootOf_r o_makers_r o_plans_r p1 p2 p3 p4 = some res) : Met l yX8_orbit (Cond.code yX8_orbit cX8_orbit 6 (some .int) :: ds_gw) { frames := 4, cells := 0, slots := 0, locals := 94 } (va_Pc [.ref h_o, .int p1, .int p2, .int p3, .int p4] (ds_Pre dC dI ca sa [(h_o, .inr (7, [.ref h_o_plans, .ref h_o_makers, .ref h_o_halves, .int o_raised, .ref h_o_all, .ref h_o_text, .ref h_o_saved, .ref h_o_undone, .int o_undos, .int o_reached, .int o_length, .int o_begin, .int o_letters, .int o_sort, .long o_word, .int o_wrongAt, .int o_badAt, .int o_bad, .ref h_o_told, .ref h_o_shift, .int o_firstX, .int o_firstY, .int o_secondX, .int o_secondY, .ref h_o_rootOf, .ref h_o_becomes, .ref h_o_comes, .ref h_o_next, .int o_x])), (h_o_all, .inl (ca 0, 350, .inl o_all_r)), (h_o_halves, .inl (ca 0, 34, .inl o_halves_r)), (h_o_rootOf, .inl (ca 0, 64, .inl o_rootOf_r)), (h_o_makers, .inl (ca 0, 34, .inl o_makers_r)), (h_o_plans, .inl (ca 0, 80, .inl o_plans_r))] sz)) (va_Qi (fun r (_ : Unit) => r = res.1) (ds_B dC dI (va_A [(h_o, .inr (7, [.ref h_o_plans, .ref h_o_makers, .ref h_o_halves, .int o_raised, .ref h_o_all, .ref h_o_text, .ref h_o_saved, .ref h_o_undone, .int o_undos, .int o_reached, .int o_length, .int o_begin, .int o_letters, .int o_sort, .long o_word, .int o_wrongAt, .int o_badAt, .int o_bad, .ref h_o_told, .ref h_o_shift, .int o_firstX, .int o_firstY, .int o_secondX, .int o_secondY, .ref h_o_rootOf, .ref h_o_becomes, .ref h_o_comes, .ref h_o_next, .int o_x])), (h_o_all, .inl (ca 0, 350, .inl o_all_r)), (h_o_halves, .inl (ca 0, 34, .inl o_halves_r)), (h_o_rootOf, .inl (ca 0, 64, .inl o_rootOf_r)), (h_o_makers, .inl (ca 0, 34, .inl o_makers_r)), (h_o_plans, .inl (ca 0, 80, .inl o_plans_r))] sz) [(h_o, .inr (7, [.ref h_o_plans, .ref h_o_makers, .ref h_o_halves, .int res.2.1, .ref h_o_all, .ref h_o_text, .ref h_o_saved, .ref h_o_undone, .int o_undos, .int o_reached, .int o_length, .int o_begin, .int o_letters, .int o_sort, .long o_word, .int o_wrongAt, .int o_badAt, .int o_bad, .ref h_o_told, .ref h_o_shift, .int o_firstX, .int o_firstY, .int o_secondX, .int o_secondY, .ref h_o_rootOf, .ref h_o_becomes, .ref h_o_comes, .ref h_o_next, .int o_x])), (h_o_all, .inl (ca 0, 350, .inl o_all_r)), (h_o_halves, .inl (ca 0, 34, .inl o_halves_r)), (h_o_rootOf, .inl (ca 0, 64, .inl res.2.2)), (h_o_makers, .inl (ca 0, 34, .inl o_makers_r)), (h_o_plans, .inl (ca 0, 80, .inl o_plans_r))]) (va_A [(h_o, .inr (7, [.ref h_o_plans, .ref h_o_makers, .ref h_o_halves, .int o_raised, .ref h_o_all, .ref h_o_text, .ref h_o_saved, .ref h_o_undone, .int o_undos, .int o_reached, .int o_length, .int o_begin, .int o_letters, .int o_sort, .long o_word, .int o_wrongAt, .int o_badAt, .int o_bad, .ref h_o_told, .ref h_o_shift, .int o_firstX, .int o_firstY, .int o_secondX, .int o_secondY, .ref h_o_rootOf, .ref h_o_becomes, .ref h_o_comes, .ref h_o_next, .int o_x])), (h_o_all, .inl (ca 0, 350, .inl o_all_r)), (h_o_halves, .inl (ca 0, 34, .inl o_halves_r)), (h_o_rootOf, .inl (ca 0, 64, .inl o_rootOf_r)), (h_o_makers, .inl (ca 0, 34, .inl o_makers_r)), (h_o_plans, .inl (ca 0, 80, .inl o_plans_r))] sz)) 0 0 (va_A [(h_o, .inr (7, [.ref h_o_plans, .ref h_o_makers, .ref h_o_halves, .int o_raised, .ref h_o_all, .ref h_o_text, .ref h_o_saved, .ref h_o_undone, .int o_undos, .int o_reached, .int o_length, .int o_begin, .int o_letters, .int o_sort, .long o_word, .int o_wrongAt, .int o_badAt, .int o_bad, .ref h_o_told, .ref h_o_shift, .int o_firstX, .int o_firstY, .int o_secondX, .int o_secondY, .ref h_o_rootOf, .ref h_o_becomes, .ref h_o_comes, .ref h_o_next, .int o_x])), (h_o_all, .inl (ca 0, 350, .inl o_all_r)), (h_o_halves, .inl (ca 0, 34, .inl o_halves_r)), (h_o_rootOf, .inl (ca 0, 64, .inl o_rootOf_r)), (h_o_makers, .inl (ca 0, 34, .inl o_makers_r)), (h_o_plans, .inl (ca 0, 80, .inl o_plans_r))] sz) := by
  refine Met.ofW (cc := cX8_orbit) (maxL := 6) (ret := (some .int)) (by decide) rfl ?_
  intro p e s m args below meth c s₁ B hml hv
  obtain ⟨rfl, hsz, hP, hK, hD0, hE⟩ := hv
  have hx := B.exec
  have hb := B.bytes
  have hr := B.returns
  have hts := atoms_spec (ws := Cond.code yX8_orbit cX8_orbit 6 (some .int) :: ds_gw) B.pre
  have hg : ∀ {w : Cond}, w ∈ ds_gw → w.before _ s = true := fun h => hts _ (List.mem_cons_of_mem _ h)
  have hown : s.vm.findClass RX8 = some m.cls := findClass_of_methodNamed B.named
  have hlocks := B.notSynchronized
  subst hsz
  have hD := hD0.self (sz := s.heap.size)
  generalize hAe : va_A [(h_o, .inr (7, [.ref h_o_plans, .ref h_o_makers, .ref h_o_halves, .int o_raised, .ref h_o_all, .ref h_o_text, .ref h_o_saved, .ref h_o_undone, .int o_undos, .int o_reached, .int o_length, .int o_begin, .int o_letters, .int o_sort, .long o_word, .int o_wrongAt, .int o_badAt, .int o_bad, .ref h_o_told, .ref h_o_shift, .int o_firstX, .int o_firstY, .int o_secondX, .int o_secondY, .ref h_o_rootOf, .ref h_o_becomes, .ref h_o_comes, .ref h_o_next, .int o_x])), (h_o_all, .inl (ca 0, 350, .inl o_all_r)), (h_o_halves, .inl (ca 0, 34, .inl o_halves_r)), (h_o_rootOf, .inl (ca 0, 64, .inl o_rootOf_r)), (h_o_makers, .inl (ca 0, 34, .inl o_makers_r)), (h_o_plans, .inl (ca 0, 80, .inl o_plans_r))] s.heap.size = A at hD hE ⊢
  have hA : ∀ q : Nat, s.heap.size ≤ q → A q := fun q h => by rw [← hAe]; exact Or.inr h
  have hS : va_S A s.heap s.heap [] := va_S.rf
  have hl := lv_entry ([.ref h_o, .int p1, .int p2, .int p3, .int p4]) (n := 6) (Nat.le_of_ble_eq_true rfl)
  rw [lg_entry_eq]
  generalize (lg_sl ([.ref h_o, .int p1, .int p2, .int p3, .int p4]) ++ List.replicate (6 - (lg_sl ([.ref h_o, .int p1, .int p2, .int p3, .int p4])).length) Slot.unset).toArray = ls at hl ⊢
  have hl : lv_has ls 6 [(0, .ref h_o), (1, .int p1), (2, .int p2), (3, .int p3), (4, .int p4)] := hl
  obtain ⟨G0, eG0⟩ : ∃ G : (Int32 × Int32 × (Nat → Int32)) → Prop, G = (fun r => r = res) := ⟨_, rfl⟩
  obtain ⟨rr, hrr⟩ : ∃ z, z = res := ⟨_, rfl⟩
  rw [← hrr] at hf
  have hG : G0 rr := by subst eG0; exact hrr
  unfold fX8_orbit at hf
  refine lv_aload_n hx hb dX8_orbit_0 rfl (lv_at hl 0 rfl) ?_
  refine lv_iconst (v := 0) hx hb dX8_orbit_1 (by decide) ?_
  refine va_put (D := (dC, dI)) (ci := 7) (v := .int (0 : Int32)) (ty := tyX8 3) (C := RX8) (T := TX8) (N := 29) hx hb hts (fun w h => List.mem_cons_of_mem _ (kc_X8 w h)) tyX8 tyX8_ok nmX8 hown hK hP hD hS 0 rfl rfl 3 (by decide) (hg kw_564) (fun _ h9 => h9) rfl (by decide +kernel) rfl rfl (Nat.le_of_ble_eq_true rfl) dX8_orbit_2 (fun H locs hP hD hS => ?_)
  have hP : va_P (dC, dI) vwCl [(h_o, .inr (7, [.ref h_o_plans, .ref h_o_makers, .ref h_o_halves, .int (0 : Int32), .ref h_o_all, .ref h_o_text, .ref h_o_saved, .ref h_o_undone, .int o_undos, .int o_reached, .int o_length, .int o_begin, .int o_letters, .int o_sort, .long o_word, .int o_wrongAt, .int o_badAt, .int o_bad, .ref h_o_told, .ref h_o_shift, .int o_firstX, .int o_firstY, .int o_secondX, .int o_secondY, .ref h_o_rootOf, .ref h_o_becomes, .ref h_o_comes, .ref h_o_next, .int o_x])), (h_o_all, .inl (ca 0, 350, .inl o_all_r)), (h_o_halves, .inl (ca 0, 34, .inl o_halves_r)), (h_o_rootOf, .inl (ca 0, 64, .inl o_rootOf_r)), (h_o_makers, .inl (ca 0, 34, .inl o_makers_r)), (h_o_plans, .inl (ca 0, 80, .inl o_plans_r))] H := hP
  have hD : va_D A [(h_o, .inr (7, [.ref h_o_plans, .ref h_o_makers, .ref h_o_halves, .int (0 : Int32), .ref h_o_all, .ref h_o_text, .ref h_o_saved, .ref h_o_undone, .int o_undos, .int o_reached, .int o_length, .int o_begin, .int o_letters, .int o_sort, .long o_word, .int o_wrongAt, .int o_badAt, .int o_bad, .ref h_o_told, .ref h_o_shift, .int o_firstX, .int o_firstY, .int o_secondX, .int o_secondY, .ref h_o_rootOf, .ref h_o_becomes, .ref h_o_comes, .ref h_o_next, .int o_x])), (h_o_all, .inl (ca 0, 350, .inl o_all_r)), (h_o_halves, .inl (ca 0, 34, .inl o_halves_r)), (h_o_rootOf, .inl (ca 0, 64, .inl o_rootOf_r)), (h_o_makers, .inl (ca 0, 34, .inl o_makers_r)), (h_o_plans, .inl (ca 0, 80, .inl o_plans_r))] := hD
  refine lv_aload_n hx hb dX8_orbit_5 rfl (lv_at hl 0 rfl) ?_
  refine lv_iload_n hx hb dX8_orbit_6 rfl (lv_at hl 1 rfl) ?_
  obtain ⟨q7, hq7, hf⟩ := ds_ob hf
  refine ds_calli (wr := [(h_o_rootOf, .inl (ca 0, 64, .inl o_rootOf_r)), (h_o_makers, .inl (ca 0, 34, .inl o_makers_r)), (h_o_plans, .inl (ca 0, 80, .inl o_plans_r))]) (va_runV (As := [.int p1]) (rest := []) ⟨hx, hb, hml, hown, hts⟩ (c_X8_mayAsk l dC dI ca sa h_o h_o_plans h_o_makers h_o_halves h_o_all h_o_text h_o_saved h_o_undone h_o_told h_o_shift h_o_rootOf h_o_becomes h_o_comes h_o_next H.size (0 : Int32) o_undos o_reached o_length o_begin o_letters o_sort o_word o_wrongAt o_badAt o_bad o_firstX o_firstY o_secondX o_secondY o_x o_all_r o_halves_r p1 q7 hq7) (cwV 1 hts (ds_gV kw_832 kw_833 kw_834 kw_597 kw_835) rfl rfl rfl (by decide +kernel) ⟨Nat.le_of_ble_eq_true rfl, Nat.le_of_ble_eq_true rfl⟩) ⟨ds_blind, va_recv hK hP (ci := 7) (q0 := 0) rfl rfl, ds_at hP hD hK hE hS hA [0, 1, 2] rfl rfl _⟩ rfl rfl hl.1 rfl (lv_room (Nat.le_of_ble_eq_true rfl)) dX8_orbit_7 ⟨Nat.zero_le _, Nat.zero_le _⟩) hP hD hS hA [0, 1, 2] [3, 4, 5] rfl rfl rfl (by decide) (fun H locs hP hD hS => ?_)
  have hP : va_P (dC, dI) vwCl [(h_o_rootOf, .inl (ca 0, 64, .inl o_rootOf_r)), (h_o_makers, .inl (ca 0, 34, .inl o_makers_r)), (h_o_plans, .inl (ca 0, 80, .inl o_plans_r)), (h_o, .inr (7, [.ref h_o_plans, .ref h_o_makers, .ref h_o_halves, .int (0 : Int32), .ref h_o_all, .ref h_o_text, .ref h_o_saved, .ref h_o_undone, .int o_undos, .int o_reached, .int o_length, .int o_begin, .int o_letters, .int o_sort, .long o_word, .int o_wrongAt, .int o_badAt, .int o_bad, .ref h_o_told, .ref h_o_shift, .int o_firstX, .int o_firstY, .int o_secondX, .int o_secondY, .ref h_o_rootOf, .ref h_o_becomes, .ref h_o_comes, .ref h_o_next, .int o_x])), (h_o_all, .inl (ca 0, 350, .inl o_all_r)), (h_o_halves, .inl (ca 0, 34, .inl o_halves_r))] H := hP
  have hD : va_D A [(h_o_rootOf, .inl (ca 0, 64, .inl o_rootOf_r)), (h_o_makers, .inl (ca 0, 34, .inl o_makers_r)), (h_o_plans, .inl (ca 0, 80, .inl o_plans_r)), (h_o, .inr (7, [.ref h_o_plans, .ref h_o_makers, .ref h_o_halves, .int (0 : Int32), .ref h_o_all, .ref h_o_text, .ref h_o_saved, .ref h_o_undone, .int o_undos, .int o_reached, .int o_length, .int o_begin, .int o_letters, .int o_sort, .long o_word, .int o_wrongAt, .int o_badAt, .int o_bad, .ref h_o_told, .ref h_o_shift, .int o_firstX, .int o_firstY, .int o_secondX, .int o_secondY, .ref h_o_rootOf, .ref h_o_becomes, .ref h_o_comes, .ref h_o_next, .int o_x])), (h_o_all, .inl (ca 0, 350, .inl o_all_r)), (h_o_halves, .inl (ca 0, 34, .inl o_halves_r))] := hD
  refine lv_if_eq (tgt := 22) hx hb dX8_orbit_10 (by decide) (fun c_10 => ?_) (fun c_10 => ?_)
  · replace hf := ds_t c_10 hf
    refine lv_iconst (v := -1) hx hb dX8_orbit_22 (by decide) ?_
    have hf := Option.some.inj hf
    subst hf
    rw [eG0] at hG
    have hG : _ = res := hG
    subst hG
    exact W.iret (v := (-1 : Int32)) hx hb hr (fun t ht hW => ⟨⟨(-1 : Int32), (), rfl, rfl, by rw [ht]; exact (hP.sub [3, 4, 5, 0, 1, 2] rfl), (hD.sub [3, 4, 5, 0, 1, 2] rfl rfl)⟩, hS.F ht⟩) hS.2.2 dX8_orbit_23
  · replace hf := ds_f c_10 hf
    refine lv_aload_n hx hb dX8_orbit_13 rfl (lv_at hl 0 rfl) ?_
    refine lv_iload_n hx hb dX8_orbit_14 rfl (lv_at hl 2 rfl) ?_
    refine lv_iload_n hx hb dX8_orbit_15 rfl (lv_at hl 3 rfl) ?_
    obtain ⟨q16, hq16, hf⟩ := ds_ob hf
    refine ds_calli (wr := [(h_o_rootOf, .inl (ca 0, 64, .inl o_rootOf_r)), (h_o_makers, .inl (ca 0, 34, .inl o_makers_r)), (h_o_plans, .inl (ca 0, 80, .inl o_plans_r)), (h_o_halves, .inl (ca 0, 34, .inl o_halves_r))]) (va_runV (As := [.int p2, .int p3]) (rest := []) ⟨hx, hb, hml, hown, hts⟩ (c_X8_isCell l dC dI ca sa h_o h_o_plans h_o_makers h_o_halves h_o_all h_o_text h_o_saved h_o_undone h_o_told h_o_shift h_o_rootOf h_o_becomes h_o_comes h_o_next H.size (0 : Int32) o_undos o_reached o_length o_begin o_letters o_sort o_word o_wrongAt o_badAt o_bad o_firstX o_firstY o_secondX o_secondY o_x o_all_r p2 p3 q16 hq16) (cwV 2 hts (ds_gV kw_844 kw_845 kw_846 kw_597 kw_847) rfl rfl rfl (by decide +kernel) ⟨Nat.le_of_ble_eq_true rfl, Nat.le_of_ble_eq_true rfl⟩) ⟨ds_blind, va_recv hK hP (ci := 7) (q0 := 3) rfl rfl, ds_at hP hD hK hE hS hA [3, 4] rfl rfl _⟩ rfl rfl hl.1 rfl (lv_room (Nat.le_of_ble_eq_true rfl)) dX8_orbit_16 ⟨Nat.zero_le _, Nat.zero_le _⟩) hP hD hS hA [3, 4] [0, 1, 2, 5] rfl rfl rfl (by decide) (fun H locs hP hD hS => ?_)
    have hP : va_P (dC, dI) vwCl [(h_o_rootOf, .inl (ca 0, 64, .inl o_rootOf_r)), (h_o_makers, .inl (ca 0, 34, .inl o_makers_r)), (h_o_plans, .inl (ca 0, 80, .inl o_plans_r)), (h_o_halves, .inl (ca 0, 34, .inl o_halves_r)), (h_o, .inr (7, [.ref h_o_plans, .ref h_o_makers, .ref h_o_halves, .int (0 : Int32), .ref h_o_all, .ref h_o_text, .ref h_o_saved, .ref h_o_undone, .int o_undos, .int o_reached, .int o_length, .int o_begin, .int o_letters, .int o_sort, .long o_word, .int o_wrongAt, .int o_badAt, .int o_bad, .ref h_o_told, .ref h_o_shift, .int o_firstX, .int o_firstY, .int o_secondX, .int o_secondY, .ref h_o_rootOf, .ref h_o_becomes, .ref h_o_comes, .ref h_o_next, .int o_x])), (h_o_all, .inl (ca 0, 350, .inl o_all_r))] H := hP
    have hD : va_D A [(h_o_rootOf, .inl (ca 0, 64, .inl o_rootOf_r)), (h_o_makers, .inl (ca 0, 34, .inl o_makers_r)), (h_o_plans, .inl (ca 0, 80, .inl o_plans_r)), (h_o_halves, .inl (ca 0, 34, .inl o_halves_r)), (h_o, .inr (7, [.ref h_o_plans, .ref h_o_makers, .ref h_o_halves, .int (0 : Int32), .ref h_o_all, .ref h_o_text, .ref h_o_saved, .ref h_o_undone, .int o_undos, .int o_reached, .int o_length, .int o_begin, .int o_letters, .int o_sort, .long o_word, .int o_wrongAt, .int o_badAt, .int o_bad, .ref h_o_told, .ref h_o_shift, .int o_firstX, .int o_firstY, .int o_secondX, .int o_secondY, .ref h_o_rootOf, .ref h_o_becomes, .ref h_o_comes, .ref h_o_next, .int o_x])), (h_o_all, .inl (ca 0, 350, .inl o_all_r))] := hD
    refine lv_if_ne (tgt := 24) hx hb dX8_orbit_19 (by decide) (fun c_19 => ?_) (fun c_19 => ?_)
    · replace hf := ds_f c_19 hf
      refine lv_aload_n hx hb dX8_orbit_24 rfl (lv_at hl 0 rfl) ?_
      refine lv_iload_n hx hb dX8_orbit_25 rfl (lv_at hl 1 rfl) ?_
      obtain ⟨q26, hq26, hf⟩ := ds_ob hf
      refine ds_callv (wr := []) (va_runV (As := [.int p1]) (rest := []) ⟨hx, hb, hml, hown, hts⟩ (c_X8_laysOrbits l dC dI ca sa h_o h_o_plans h_o_makers h_o_halves h_o_all h_o_text h_o_saved h_o_undone h_o_told h_o_shift h_o_rootOf h_o_becomes h_o_comes h_o_next H.size (0 : Int32) o_undos o_reached o_length o_begin o_letters o_sort o_word o_wrongAt o_badAt o_bad o_firstX o_firstY o_secondX o_secondY o_x o_rootOf_r o_all_r o_makers_r o_halves_r o_plans_r p1 q26 hq26) (cwV 1 hts (ds_gV kw_836 kw_837 kw_838 kw_597 kw_839) rfl rfl rfl (by decide +kernel) ⟨Nat.le_of_ble_eq_true rfl, Nat.le_of_ble_eq_true rfl⟩) ⟨ds_blind, va_recv hK hP (ci := 7) (q0 := 4) rfl rfl, ds_at hP hD hK hE hS hA [4, 0, 5, 1, 3, 2] rfl rfl _⟩ rfl rfl hl.1 rfl (lv_room (Nat.le_of_ble_eq_true rfl)) dX8_orbit_26 ⟨Nat.zero_le _, Nat.zero_le _⟩) hP hD hS hA [4, 0, 5, 1, 3, 2] [] rfl rfl rfl (by decide) (fun H locs hP hD hS => ?_)
      have hP : va_P (dC, dI) vwCl [(h_o, .inr (7, [.ref h_o_plans, .ref h_o_makers, .ref h_o_halves, .int (0 : Int32), .ref h_o_all, .ref h_o_text, .ref h_o_saved, .ref h_o_undone, .int o_undos, .int o_reached, .int o_length, .int o_begin, .int o_letters, .int o_sort, .long o_word, .int o_wrongAt, .int o_badAt, .int o_bad, .ref h_o_told, .ref h_o_shift, .int o_firstX, .int o_firstY, .int o_secondX, .int o_secondY, .ref h_o_rootOf, .ref h_o_becomes, .ref h_o_comes, .ref h_o_next, .int o_x])), (h_o_rootOf, .inl (ca 0, 64, .inl q26)), (h_o_all, .inl (ca 0, 350, .inl o_all_r)), (h_o_makers, .inl (ca 0, 34, .inl o_makers_r)), (h_o_halves, .inl (ca 0, 34, .inl o_halves_r)), (h_o_plans, .inl (ca 0, 80, .inl o_plans_r))] H := hP
      have hD : va_D A [(h_o, .inr (7, [.ref h_o_plans, .ref h_o_makers, .ref h_o_halves, .int (0 : Int32), .ref h_o_all, .ref h_o_text, .ref h_o_saved, .ref h_o_undone, .int o_undos, .int o_reached, .int o_length, .int o_begin, .int o_letters, .int o_sort, .long o_word, .int o_wrongAt, .int o_badAt, .int o_bad, .ref h_o_told, .ref h_o_shift, .int o_firstX, .int o_firstY, .int o_secondX, .int o_secondY, .ref h_o_rootOf, .ref h_o_becomes, .ref h_o_comes, .ref h_o_next, .int o_x])), (h_o_rootOf, .inl (ca 0, 64, .inl q26)), (h_o_all, .inl (ca 0, 350, .inl o_all_r)), (h_o_makers, .inl (ca 0, 34, .inl o_makers_r)), (h_o_halves, .inl (ca 0, 34, .inl o_halves_r)), (h_o_plans, .inl (ca 0, 80, .inl o_plans_r))] := hD
      refine lv_aload_n hx hb dX8_orbit_29 rfl (lv_at hl 0 rfl) ?_
      refine lv_bipush (v := 8) hx hb dX8_orbit_30 (by decide) ?_
      refine lv_iload_n hx hb dX8_orbit_32 rfl (lv_at hl 3 rfl) ?_
      refine lv_imul hx hb dX8_orbit_33 ?_
      refine lv_iload_n hx hb dX8_orbit_34 rfl (lv_at hl 2 rfl) ?_
      refine lv_iadd hx hb dX8_orbit_35 ?_
      obtain ⟨q36, hq36, hf⟩ := ds_ob hf
      refine ds_calli (wr := [(h_o_all, .inl (ca 0, 350, .inl o_all_r)), (h_o_makers, .inl (ca 0, 34, .inl o_makers_r)), (h_o_halves, .inl (ca 0, 34, .inl o_halves_r)), (h_o_plans, .inl (ca 0, 80, .inl o_plans_r))]) (va_runV (As := [.int (((8 : Int32) * p3) + p2)]) (rest := []) ⟨hx, hb, hml, hown, hts⟩ (c_X8_root l dC dI ca sa h_o h_o_plans h_o_makers h_o_halves h_o_all h_o_text h_o_saved h_o_undone h_o_told h_o_shift h_o_rootOf h_o_becomes h_o_comes h_o_next H.size (0 : Int32) o_undos o_reached o_length o_begin o_letters o_sort o_word o_wrongAt o_badAt o_bad o_firstX o_firstY o_secondX o_secondY o_x q26 (((8 : Int32) * p3) + p2) q36 hq36) (cwV 1 hts (ds_gV kw_740 kw_741 kw_742 kw_597 kw_743) rfl rfl rfl (by decide +kernel) ⟨Nat.le_of_ble_eq_true rfl, Nat.le_of_ble_eq_true rfl⟩) ⟨ds_blind, va_recv hK hP (ci := 7) (q0 := 0) rfl rfl, ds_at hP hD hK hE hS hA [0, 1] rfl rfl _⟩ rfl rfl hl.1 rfl (lv_room (Nat.le_of_ble_eq_true rfl)) dX8_orbit_36 ⟨Nat.zero_le _, Nat.zero_le _⟩) hP hD hS hA [0, 1] [2, 3, 4, 5] rfl rfl rfl (by decide) (fun H locs hP hD hS => ?_)
      have hP : va_P (dC, dI) vwCl [(h_o_all, .inl (ca 0, 350, .inl o_all_r)), (h_o_makers, .inl (ca 0, 34, .inl o_makers_r)), (h_o_halves, .inl (ca 0, 34, .inl o_halves_r)), (h_o_plans, .inl (ca 0, 80, .inl o_plans_r)), (h_o, .inr (7, [.ref h_o_plans, .ref h_o_makers, .ref h_o_halves, .int (0 : Int32), .ref h_o_all, .ref h_o_text, .ref h_o_saved, .ref h_o_undone, .int o_undos, .int o_reached, .int o_length, .int o_begin, .int o_letters, .int o_sort, .long o_word, .int o_wrongAt, .int o_badAt, .int o_bad, .ref h_o_told, .ref h_o_shift, .int o_firstX, .int o_firstY, .int o_secondX, .int o_secondY, .ref h_o_rootOf, .ref h_o_becomes, .ref h_o_comes, .ref h_o_next, .int o_x])), (h_o_rootOf, .inl (ca 0, 64, .inl q26))] H := hP
      have hD : va_D A [(h_o_all, .inl (ca 0, 350, .inl o_all_r)), (h_o_makers, .inl (ca 0, 34, .inl o_makers_r)), (h_o_halves, .inl (ca 0, 34, .inl o_halves_r)), (h_o_plans, .inl (ca 0, 80, .inl o_plans_r)), (h_o, .inr (7, [.ref h_o_plans, .ref h_o_makers, .ref h_o_halves, .int (0 : Int32), .ref h_o_all, .ref h_o_text, .ref h_o_saved, .ref h_o_undone, .int o_undos, .int o_reached, .int o_length, .int o_begin, .int o_letters, .int o_sort, .long o_word, .int o_wrongAt, .int o_badAt, .int o_bad, .ref h_o_told, .ref h_o_shift, .int o_firstX, .int o_firstY, .int o_secondX, .int o_secondY, .ref h_o_rootOf, .ref h_o_becomes, .ref h_o_comes, .ref h_o_next, .int o_x])), (h_o_rootOf, .inl (ca 0, 64, .inl q26))] := hD
      refine lv_istore (lv' := [(5, .int q36), (0, .ref h_o), (1, .int p1), (2, .int p2), (3, .int p3), (4, .int p4)]) hx hb dX8_orbit_39 hl (by decide) rfl (fun ls hl => ?_)
      refine lv_iload hx hb dX8_orbit_41 (lv_at hl 5 rfl) ?_
      refine lv_if_eq (tgt := 51) hx hb dX8_orbit_43 (by decide) (fun c_43 => ?_) (fun c_43 => ?_)
      · replace hf := ds_t c_43 hf
        refine lv_aload_n hx hb dX8_orbit_51 rfl (lv_at hl 1 rfl) ?_
        refine lv_iload hx hb dX8_orbit_52 (lv_at hl 0 rfl) ?_
        obtain ⟨q54, hq54, hf⟩ := ds_ob hf
        refine ds_calli (wr := [(h_o_makers, .inl (ca 0, 34, .inl o_makers_r)), (h_o_halves, .inl (ca 0, 34, .inl o_halves_r)), (h_o_plans, .inl (ca 0, 80, .inl o_plans_r))]) (va_runV (As := [.int q36]) (rest := []) ⟨hx, hb, hml, hown, hts⟩ (c_X8_orbitSize l dC dI ca sa h_o h_o_plans h_o_makers h_o_halves h_o_all h_o_text h_o_saved h_o_undone h_o_told h_o_shift h_o_rootOf h_o_becomes h_o_comes h_o_next H.size (0 : Int32) o_undos o_reached o_length o_begin o_letters o_sort o_word o_wrongAt o_badAt o_bad o_firstX o_firstY o_secondX o_secondY o_x o_all_r q26 q36 q54 hq54) (cwV 1 hts (ds_gV kw_824 kw_825 kw_826 kw_597 kw_827) rfl rfl rfl (by decide +kernel) ⟨Nat.le_of_ble_eq_true rfl, Nat.le_of_ble_eq_true rfl⟩) ⟨ds_blind, va_recv hK hP (ci := 7) (q0 := 4) rfl rfl, ds_at hP hD hK hE hS hA [4, 0, 5] rfl rfl _⟩ rfl rfl hl.1 rfl (lv_room (Nat.le_of_ble_eq_true rfl)) dX8_orbit_54 ⟨Nat.zero_le _, Nat.zero_le _⟩) hP hD hS hA [4, 0, 5] [1, 2, 3] rfl rfl rfl (by decide) (fun H locs hP hD hS => ?_)
        have hP : va_P (dC, dI) vwCl [(h_o_makers, .inl (ca 0, 34, .inl o_makers_r)), (h_o_halves, .inl (ca 0, 34, .inl o_halves_r)), (h_o_plans, .inl (ca 0, 80, .inl o_plans_r)), (h_o, .inr (7, [.ref h_o_plans, .ref h_o_makers, .ref h_o_halves, .int (0 : Int32), .ref h_o_all, .ref h_o_text, .ref h_o_saved, .ref h_o_undone, .int o_undos, .int o_reached, .int o_length, .int o_begin, .int o_letters, .int o_sort, .long o_word, .int o_wrongAt, .int o_badAt, .int o_bad, .ref h_o_told, .ref h_o_shift, .int o_firstX, .int o_firstY, .int o_secondX, .int o_secondY, .ref h_o_rootOf, .ref h_o_becomes, .ref h_o_comes, .ref h_o_next, .int o_x])), (h_o_all, .inl (ca 0, 350, .inl o_all_r)), (h_o_rootOf, .inl (ca 0, 64, .inl q26))] H := hP
        have hD : va_D A [(h_o_makers, .inl (ca 0, 34, .inl o_makers_r)), (h_o_halves, .inl (ca 0, 34, .inl o_halves_r)), (h_o_plans, .inl (ca 0, 80, .inl o_plans_r)), (h_o, .inr (7, [.ref h_o_plans, .ref h_o_makers, .ref h_o_halves, .int (0 : Int32), .ref h_o_all, .ref h_o_text, .ref h_o_saved, .ref h_o_undone, .int o_undos, .int o_reached, .int o_length, .int o_begin, .int o_letters, .int o_sort, .long o_word, .int o_wrongAt, .int o_badAt, .int o_bad, .ref h_o_told, .ref h_o_shift, .int o_firstX, .int o_firstY, .int o_secondX, .int o_secondY, .ref h_o_rootOf, .ref h_o_becomes, .ref h_o_comes, .ref h_o_next, .int o_x])), (h_o_all, .inl (ca 0, 350, .inl o_all_r)), (h_o_rootOf, .inl (ca 0, 64, .inl q26))] := hD
        have hf := Option.some.inj hf
        subst hf
        rw [eG0] at hG
        have hG : _ = res := hG
        subst hG
        exact W.iret (v := q54) hx hb hr (fun t ht hW => ⟨⟨q54, (), rfl, rfl, by rw [ht]; exact (hP.sub [3, 4, 1, 5, 0, 2] rfl), (hD.sub [3, 4, 1, 5, 0, 2] rfl rfl)⟩, hS.F ht⟩) hS.2.2 dX8_orbit_57
      · replace hf := ds_f c_43 hf
        refine lv_iload hx hb dX8_orbit_46 (lv_at hl 0 rfl) ?_
        refine lv_goto (tgt := 57) hx hb dX8_orbit_48 (by decide) ?_
        have hf := Option.some.inj hf
        subst hf
        rw [eG0] at hG
        have hG : _ = res := hG
        subst hG
        exact W.iret (v := q36) hx hb hr (fun t ht hW => ⟨⟨q36, (), rfl, rfl, by rw [ht]; exact (hP.sub [4, 0, 2, 5, 1, 3] rfl), (hD.sub [4, 0, 2, 5, 1, 3] rfl rfl)⟩, hS.F ht⟩) hS.2.2 dX8_orbit_57
    · replace hf := ds_t c_19 hf
      refine lv_iconst (v := -1) hx hb dX8_orbit_22 (by decide) ?_
      have hf := Option.some.inj hf
      subst hf
      rw [eG0] at hG
      have hG : _ = res := hG
      subst hG
      exact W.iret (v := (-1 : Int32)) hx hb hr (fun t ht hW => ⟨⟨(-1 : Int32), (), rfl, rfl, by rw [ht]; exact (hP.sub [4, 5, 3, 0, 1, 2] rfl), (hD.sub [4, 5, 3, 0, 1, 2] rfl rfl)⟩, hS.F ht⟩) hS.2.2 dX8_orbit_23
theorem dX8_nearest_0 : decode cX8_nearest 0 = .ok (.aload_n 0, 1) := by decide +kernel
theorem dX8_nearest_1 : decode cX8_nearest 1 = .ok (.iconst 0, 1) := by decide +kernel
theorem dX8_nearest_2 : decode cX8_nearest 2 = .ok (.putfield 51, 3) := by decide +kernel
theorem dX8_nearest_5 : decode cX8_nearest 5 = .ok (.iconst (-1), 1) := by decide +kernel
theorem dX8_nearest_6 : decode cX8_nearest 6 = .ok (.istore_n 2, 1) := by decide +kernel
theorem dX8_nearest_7 : decode cX8_nearest 7 = .ok (.iconst 0, 1) := by decide +kernel
theorem dX8_nearest_8 : decode cX8_nearest 8 = .ok (.istore_n 3, 1) := by decide +kernel
theorem dX8_nearest_9 : decode cX8_nearest 9 = .ok (.iconst 0, 1) := by decide +kernel
theorem dX8_nearest_10 : decode cX8_nearest 10 = .ok (.istore 4, 2) := by decide +kernel
theorem dX8_nearest_12 : decode cX8_nearest 12 = .ok (.iload 4, 2) := by decide +kernel
theorem dX8_nearest_14 : decode cX8_nearest 14 = .ok (.bipush 17, 2) := by decide +kernel
theorem dX8_nearest_16 : decode cX8_nearest 16 = .ok (.if_icmp .ge 60, 3) := by decide +kernel
theorem dX8_nearest_19 : decode cX8_nearest 19 = .ok (.aload_n 0, 1) := by decide +kernel
theorem dX8_nearest_20 : decode cX8_nearest 20 = .ok (.iload 4, 2) := by decide +kernel
theorem dX8_nearest_22 : decode cX8_nearest 22 = .ok (.invokevirtual 275, 3) := by decide +kernel
theorem dX8_nearest_25 : decode cX8_nearest 25 = .ok (.ifCond .ne 6, 3) := by decide +kernel
theorem dX8_nearest_28 : decode cX8_nearest 28 = .ok (.goto 42, 3) := by decide +kernel
theorem dX8_nearest_31 : decode cX8_nearest 31 = .ok (.aload_n 0, 1) := by decide +kernel
theorem dX8_nearest_32 : decode cX8_nearest 32 = .ok (.iload 4, 2) := by decide +kernel
theorem dX8_nearest_34 : decode cX8_nearest 34 = .ok (.invokevirtual 278, 3) := by decide +kernel
theorem dX8_nearest_37 : decode cX8_nearest 37 = .ok (.aload_n 0, 1) := by decide +kernel
theorem dX8_nearest_38 : decode cX8_nearest 38 = .ok (.bipush 64, 2) := by decide +kernel
theorem dX8_nearest_40 : decode cX8_nearest 40 = .ok (.invokevirtual 224, 3) := by decide +kernel
theorem dX8_nearest_43 : decode cX8_nearest 43 = .ok (.istore 5, 2) := by decide +kernel
theorem dX8_nearest_45 : decode cX8_nearest 45 = .ok (.aload_n 0, 1) := by decide +kernel
theorem dX8_nearest_46 : decode cX8_nearest 46 = .ok (.invokevirtual 281, 3) := by decide +kernel
theorem dX8_nearest_49 : decode cX8_nearest 49 = .ok (.iload_n 1, 1) := by decide +kernel
theorem dX8_nearest_50 : decode cX8_nearest 50 = .ok (.if_icmp .gt 20, 3) := by decide +kernel
theorem dX8_nearest_53 : decode cX8_nearest 53 = .ok (.iload_n 2, 1) := by decide +kernel
theorem dX8_nearest_54 : decode cX8_nearest 54 = .ok (.iconst (-1), 1) := by decide +kernel
theorem dX8_nearest_55 : decode cX8_nearest 55 = .ok (.if_icmp .eq 9, 3) := by decide +kernel
theorem dX8_nearest_58 : decode cX8_nearest 58 = .ok (.iload 5, 2) := by decide +kernel
theorem dX8_nearest_60 : decode cX8_nearest 60 = .ok (.iload_n 3, 1) := by decide +kernel
theorem dX8_nearest_61 : decode cX8_nearest 61 = .ok (.if_icmp .gt 9, 3) := by decide +kernel
theorem dX8_nearest_64 : decode cX8_nearest 64 = .ok (.iload 4, 2) := by decide +kernel
theorem dX8_nearest_66 : decode cX8_nearest 66 = .ok (.istore_n 2, 1) := by decide +kernel
theorem dX8_nearest_67 : decode cX8_nearest 67 = .ok (.iload 5, 2) := by decide +kernel
theorem dX8_nearest_69 : decode cX8_nearest 69 = .ok (.istore_n 3, 1) := by decide +kernel
theorem dX8_nearest_70 : decode cX8_nearest 70 = .ok (.iinc 4 1, 3) := by decide +kernel
theorem dX8_nearest_73 : decode cX8_nearest 73 = .ok (.goto (-61), 3) := by decide +kernel
theorem dX8_nearest_76 : decode cX8_nearest 76 = .ok (.iload_n 2, 1) := by decide +kernel
theorem dX8_nearest_77 : decode cX8_nearest 77 = .ok (.ireturn, 1) := by decide +kernel
def fX8_nearest_70 (o_rootOf_r : Nat → Int32) (v2 : Int32) (v3 : Int32) (v4 : Int32) : Option ((Int32 × Int32 × Int32 × (Nat → Int32)) ⊕ (Int32 × Int32 × (Nat → Int32))) :=
  some (.inl (v2, v3, (v4 + 1), o_rootOf_r))
def fX8_nearest_64 (o_rootOf_r : Nat → Int32) (v4 : Int32) (v5 : Int32) : Option ((Int32 × Int32 × Int32 × (Nat → Int32)) ⊕ (Int32 × Int32 × (Nat → Int32))) :=
  fX8_nearest_70 o_rootOf_r v4 v5 v4
def fX8_nearest_12_b (o_raised : Int32) (o_all_r : Nat → Int32) (o_halves_r : Nat → Int32) (o_makers_r : Nat → Int32) (o_plans_r : Nat → Int32) (p1 : Int32) (v2 : Int32) (v3 : Int32) (v4 : Int32) (o_rootOf_r : Nat → Int32) : Option ((Int32 × Int32 × Int32 × (Nat → Int32)) ⊕ (Int32 × Int32 × (Nat → Int32))) :=
  if (17 : Int32) ≤ v4 then some (.inr (v2, o_raised, o_rootOf_r)) else Option.bind (fX8_mayAsk o_all_r o_halves_r v4) fun q22 => if q22 = 0 then fX8_nearest_70 o_rootOf_r v2 v3 v4 else Option.bind (fX8_laysOrbits o_rootOf_r o_all_r o_makers_r o_halves_r o_plans_r v4) fun q34 => Option.bind (fX8_leaders o_all_r q34 (64 : Int32)) fun q40 => Option.bind (fX8_flawed o_all_r q34) fun q46 => if p1 < q46 then fX8_nearest_70 q34 v2 v3 v4 else if v2 = (-1 : Int32) then fX8_nearest_64 q34 v4 q40 else if v3 < q40 then fX8_nearest_70 q34 v2 v3 v4 else fX8_nearest_64 q34 v4 q40
def fX8_nearest_12 (o_raised : Int32) (o_all_r : Nat → Int32) (o_halves_r : Nat → Int32) (o_makers_r : Nat → Int32) (o_plans_r : Nat → Int32) (p1 : Int32) (v2 : Int32) (v3 : Int32) (v4 : Int32) (o_rootOf_r : Nat → Int32) : Option (Int32 × Int32 × (Nat → Int32)) := ds_it (fun s => fX8_nearest_12_b o_raised o_all_r o_halves_r o_makers_r o_plans_r p1 s.1 s.2.1 s.2.2.1 s.2.2.2) 1000 (v2, v3, v4, o_rootOf_r)
def fX8_nearest (o_all_r : Nat → Int32) (o_halves_r : Nat → Int32) (o_rootOf_r : Nat → Int32) (o_makers_r : Nat → Int32) (o_plans_r : Nat → Int32) (p1 : Int32) : Option (Int32 × Int32 × (Nat → Int32)) :=
  fX8_nearest_12 (0 : Int32) o_all_r o_halves_r o_makers_r o_plans_r p1 (-1 : Int32) (0 : Int32) (0 : Int32) o_rootOf_r
set_option maxHeartbeats 4000000 in
set_option maxRecDepth 100000 in
theorem c_X8_nearest (l : Launch) (dC : Nat → ClassId) (dI : Nat → Nat → Nat) (ca : Nat → ClassId) (sa : Nat → Nat) (h_o : Nat) (h_o_plans : Nat) (h_o_makers : Nat) (h_o_halves : Nat) (h_o_all : Nat) (h_o_text : Nat) (h_o_saved : Nat) (h_o_undone : Nat) (h_o_told : Nat) (h_o_shift : Nat) (h_o_rootOf : Nat) (h_o_becomes : Nat) (h_o_comes : Nat) (h_o_next : Nat) (sz : Nat) (o_raised : Int32) (o_undos : Int32) (o_reached : Int32) (o_length : Int32) (o_begin : Int32) (o_letters : Int32) (o_sort : Int32) (o_word : Int64) (o_wrongAt : Int32) (o_badAt : Int32) (o_bad : Int32) (o_firstX : Int32) (o_firstY : Int32) (o_secondX : Int32) (o_secondY : Int32) (o_x : Int32) (o_all_r : Nat → Int32) (o_halves_r : Nat → Int32) (o_rootOf_r : Nat → Int32) (o_makers_r : Nat → Int32) (o_plans_r : Nat → Int32) (p1 : Int32) (res : Int32 × Int32 × (Nat → Int32)) (hf : fX8_nearest o_all_r o_halves_r o_rootOf_r o_makers_r o_plans_r p1 = some res) : Met l yX8_nearest (Cond.code yX8_nearest cX8_nearest 6 (some .int) :: ds_gw) { frames := 6, cells := 0, slots := 0, locals := 138 } (va_Pc [.ref h_o, .int p1] (ds_Pre dC dI ca sa [(h_o, .inr (7, [.ref h_o_plans, .ref h_o_makers, .ref h_o_halves, .int o_raised, .ref h_o_all, .ref h_o_text, .ref h_o_saved, .ref h_o_undone, .int o_undos, .int o_reached, .int o_length, .int o_begin, .int o_letters, .int o_sort, .long o_word, .int o_wrongAt, .int o_badAt, .int o_bad, .ref h_o_told, .ref h_o_shift, .int o_firstX, .int o_firstY, .int o_secondX, .int o_secondY, .ref h_o_rootOf, .ref h_o_becomes, .ref h_o_comes, .ref h_o_next, .int o_x])), (h_o_all, .inl (ca 0, 350, .inl o_all_r)), (h_o_halves, .inl (ca 0, 34, .inl o_halves_r)), (h_o_rootOf, .inl (ca 0, 64, .inl o_rootOf_r)), (h_o_makers, .inl (ca 0, 34, .inl o_makers_r)), (h_o_plans, .inl (ca 0, 80, .inl o_plans_r))] sz)) (va_Qi (fun r (_ : Unit) => r = res.1) (ds_B dC dI (va_A [(h_o, .inr (7, [.ref h_o_plans, .ref h_o_makers, .ref h_o_halves, .int o_raised, .ref h_o_all, .ref h_o_text, .ref h_o_saved, .ref h_o_undone, .int o_undos, .int o_reached, .int o_length, .int o_begin, .int o_letters, .int o_sort, .long o_word, .int o_wrongAt, .int o_badAt, .int o_bad, .ref h_o_told, .ref h_o_shift, .int o_firstX, .int o_firstY, .int o_secondX, .int o_secondY, .ref h_o_rootOf, .ref h_o_becomes, .ref h_o_comes, .ref h_o_next, .int o_x])), (h_o_all, .inl (ca 0, 350, .inl o_all_r)), (h_o_halves, .inl (ca 0, 34, .inl o_halves_r)), (h_o_rootOf, .inl (ca 0, 64, .inl o_rootOf_r)), (h_o_makers, .inl (ca 0, 34, .inl o_makers_r)), (h_o_plans, .inl (ca 0, 80, .inl o_plans_r))] sz) [(h_o, .inr (7, [.ref h_o_plans, .ref h_o_makers, .ref h_o_halves, .int res.2.1, .ref h_o_all, .ref h_o_text, .ref h_o_saved, .ref h_o_undone, .int o_undos, .int o_reached, .int o_length, .int o_begin, .int o_letters, .int o_sort, .long o_word, .int o_wrongAt, .int o_badAt, .int o_bad, .ref h_o_told, .ref h_o_shift, .int o_firstX, .int o_firstY, .int o_secondX, .int o_secondY, .ref h_o_rootOf, .ref h_o_becomes, .ref h_o_comes, .ref h_o_next, .int o_x])), (h_o_all, .inl (ca 0, 350, .inl o_all_r)), (h_o_halves, .inl (ca 0, 34, .inl o_halves_r)), (h_o_rootOf, .inl (ca 0, 64, .inl res.2.2)), (h_o_makers, .inl (ca 0, 34, .inl o_makers_r)), (h_o_plans, .inl (ca 0, 80, .inl o_plans_r))]) (va_A [(h_o, .inr (7, [.ref h_o_plans, .ref h_o_makers, .ref h_o_halves, .int o_raised, .ref h_o_all, .ref h_o_text, .ref h_o_saved, .ref h_o_undone, .int o_undos, .int o_reached, .int o_length, .int o_begin, .int o_letters, .int o_sort, .long o_word, .int o_wrongAt, .int o_badAt, .int o_bad, .ref h_o_told, .ref h_o_shift, .int o_firstX, .int o_firstY, .int o_secondX, .int o_secondY, .ref h_o_rootOf, .ref h_o_becomes, .ref h_o_comes, .ref h_o_next, .int o_x])), (h_o_all, .inl (ca 0, 350, .inl o_all_r)), (h_o_halves, .inl (ca 0, 34, .inl o_halves_r)), (h_o_rootOf, .inl (ca 0, 64, .inl o_rootOf_r)), (h_o_makers, .inl (ca 0, 34, .inl o_makers_r)), (h_o_plans, .inl (ca 0, 80, .inl o_plans_r))] sz)) 0 0 (va_A [(h_o, .inr (7, [.ref h_o_plans, .ref h_o_makers, .ref h_o_halves, .int o_raised, .ref h_o_all, .ref h_o_text, .ref h_o_saved, .ref h_o_undone, .int o_undos, .int o_reached, .int o_length, .int o_begin, .int o_letters, .int o_sort, .long o_word, .int o_wrongAt, .int o_badAt, .int o_bad, .ref h_o_told, .ref h_o_shift, .int o_firstX, .int o_firstY, .int o_secondX, .int o_secondY, .ref h_o_rootOf, .ref h_o_becomes, .ref h_o_comes, .ref h_o_next, .int o_x])), (h_o_all, .inl (ca 0, 350, .inl o_all_r)), (h_o_halves, .inl (ca 0, 34, .inl o_halves_r)), (h_o_rootOf, .inl (ca 0, 64, .inl o_rootOf_r)), (h_o_makers, .inl (ca 0, 34, .inl o_makers_r)), (h_o_plans, .inl (ca 0, 80, .inl o_plans_r))] sz) := by
  refine Met.ofW (cc := cX8_nearest) (maxL := 6) (ret := (some .int)) (by decide) rfl ?_
  intro p e s m args below meth c s₁ B hml hv
  obtain ⟨rfl, hsz, hP, hK, hD0, hE⟩ := hv
  have hx := B.exec
  have hb := B.bytes
  have hr := B.returns
  have hts := atoms_spec (ws := Cond.code yX8_nearest cX8_nearest 6 (some .int) :: ds_gw) B.pre
  have hg : ∀ {w : Cond}, w ∈ ds_gw → w.before _ s = true := fun h => hts _ (List.mem_cons_of_mem _ h)
  have hown : s.vm.findClass RX8 = some m.cls := findClass_of_methodNamed B.named
  have hlocks := B.notSynchronized
  subst hsz
  have hD := hD0.self (sz := s.heap.size)
  generalize hAe : va_A [(h_o, .inr (7, [.ref h_o_plans, .ref h_o_makers, .ref h_o_halves, .int o_raised, .ref h_o_all, .ref h_o_text, .ref h_o_saved, .ref h_o_undone, .int o_undos, .int o_reached, .int o_length, .int o_begin, .int o_letters, .int o_sort, .long o_word, .int o_wrongAt, .int o_badAt, .int o_bad, .ref h_o_told, .ref h_o_shift, .int o_firstX, .int o_firstY, .int o_secondX, .int o_secondY, .ref h_o_rootOf, .ref h_o_becomes, .ref h_o_comes, .ref h_o_next, .int o_x])), (h_o_all, .inl (ca 0, 350, .inl o_all_r)), (h_o_halves, .inl (ca 0, 34, .inl o_halves_r)), (h_o_rootOf, .inl (ca 0, 64, .inl o_rootOf_r)), (h_o_makers, .inl (ca 0, 34, .inl o_makers_r)), (h_o_plans, .inl (ca 0, 80, .inl o_plans_r))] s.heap.size = A at hD hE ⊢
  have hA : ∀ q : Nat, s.heap.size ≤ q → A q := fun q h => by rw [← hAe]; exact Or.inr h
  have hS : va_S A s.heap s.heap [] := va_S.rf
  have hl := lv_entry ([.ref h_o, .int p1]) (n := 6) (Nat.le_of_ble_eq_true rfl)
  rw [lg_entry_eq]
  generalize (lg_sl ([.ref h_o, .int p1]) ++ List.replicate (6 - (lg_sl ([.ref h_o, .int p1])).length) Slot.unset).toArray = ls at hl ⊢
  have hl : lv_has ls 6 [(0, .ref h_o), (1, .int p1)] := hl
  obtain ⟨G0, eG0⟩ : ∃ G : (Int32 × Int32 × (Nat → Int32)) → Prop, G = (fun r => r = res) := ⟨_, rfl⟩
  obtain ⟨rr, hrr⟩ : ∃ z, z = res := ⟨_, rfl⟩
  rw [← hrr] at hf
  have hG : G0 rr := by subst eG0; exact hrr
  refine ds_cap (fun WW h1 h2 => ?_)
  have J_12 : ∀ (o_raised : Int32) (n : Nat) (v2 : Int32) (v3 : Int32) (v4 : Int32) (o_rootOf_r : Nat → Int32) (rr : Int32 × Int32 × (Nat → Int32)) (hf : ds_it (fun s => fX8_nearest_12_b o_raised o_all_r o_halves_r o_makers_r o_plans_r p1 s.1 s.2.1 s.2.2.1 s.2.2.2) n (v2, v3, v4, o_rootOf_r) = some rr) (hG : G0 rr) (H : Heap) (locs : List Loc) (hP : va_P (dC, dI) vwCl [(h_o, .inr (7, [.ref h_o_plans, .ref h_o_makers, .ref h_o_halves, .int o_raised, .ref h_o_all, .ref h_o_text, .ref h_o_saved, .ref h_o_undone, .int o_undos, .int o_reached, .int o_length, .int o_begin, .int o_letters, .int o_sort, .long o_word, .int o_wrongAt, .int o_badAt, .int o_bad, .ref h_o_told, .ref h_o_shift, .int o_firstX, .int o_firstY, .int o_secondX, .int o_secondY, .ref h_o_rootOf, .ref h_o_becomes, .ref h_o_comes, .ref h_o_next, .int o_x])), (h_o_all, .inl (ca 0, 350, .inl o_all_r)), (h_o_halves, .inl (ca 0, 34, .inl o_halves_r)), (h_o_rootOf, .inl (ca 0, 64, .inl o_rootOf_r)), (h_o_makers, .inl (ca 0, 34, .inl o_makers_r)), (h_o_plans, .inl (ca 0, 80, .inl o_plans_r))] H) (hD : va_D A [(h_o, .inr (7, [.ref h_o_plans, .ref h_o_makers, .ref h_o_halves, .int o_raised, .ref h_o_all, .ref h_o_text, .ref h_o_saved, .ref h_o_undone, .int o_undos, .int o_reached, .int o_length, .int o_begin, .int o_letters, .int o_sort, .long o_word, .int o_wrongAt, .int o_badAt, .int o_bad, .ref h_o_told, .ref h_o_shift, .int o_firstX, .int o_firstY, .int o_secondX, .int o_secondY, .ref h_o_rootOf, .ref h_o_becomes, .ref h_o_comes, .ref h_o_next, .int o_x])), (h_o_all, .inl (ca 0, 350, .inl o_all_r)), (h_o_halves, .inl (ca 0, 34, .inl o_halves_r)), (h_o_rootOf, .inl (ca 0, 64, .inl o_rootOf_r)), (h_o_makers, .inl (ca 0, 34, .inl o_makers_r)), (h_o_plans, .inl (ca 0, 80, .inl o_plans_r))]) (hS : va_S A s.heap H locs) (ls : Array Slot) (hl : lv_has ls 6 [(0, .ref h_o), (1, .int p1), (2, .int v2), (3, .int v3), (4, .int v4)]), WW H locs (F0 m 12 ls []) := by
    intro o_raised n
    induction n with
    | zero => intro v2 v3 v4 o_rootOf_r rr hf; exact (ds_it_zero hf).elim
    | succ n ih12 =>
      intro v2 v3 v4 o_rootOf_r rr hf hG H locs hP hD hS ls hl
      refine h2 ?_
      obtain ⟨rr, hf, hG⟩ := ds_it_succ hf hG
      replace hf : fX8_nearest_12_b o_raised o_all_r o_halves_r o_makers_r o_plans_r p1 v2 v3 v4 o_rootOf_r = some rr := hf
      obtain ⟨G1, eG1⟩ : ∃ G : ((Int32 × Int32 × Int32 × (Nat → Int32)) ⊕ (Int32 × Int32 × (Nat → Int32))) → Prop, G = ds_G (fun s' => ∃ r', ds_it (fun s => fX8_nearest_12_b o_raised o_all_r o_halves_r o_makers_r o_plans_r p1 s.1 s.2.1 s.2.2.1 s.2.2.2) n s' = some r' ∧ G0 r') G0 := ⟨_, rfl⟩
      rw [← eG1] at hG
      have J_70 : ∀ (v2 : Int32) (v3 : Int32) (v4 : Int32) (o_rootOf_r : Nat → Int32) (rr : (Int32 × Int32 × Int32 × (Nat → Int32)) ⊕ (Int32 × Int32 × (Nat → Int32))) (hf : fX8_nearest_70 o_rootOf_r v2 v3 v4 = some rr) (hG : G1 rr) (H : Heap) (locs : List Loc) (hP : va_P (dC, dI) vwCl [(h_o, .inr (7, [.ref h_o_plans, .ref h_o_makers, .ref h_o_halves, .int o_raised, .ref h_o_all, .ref h_o_text, .ref h_o_saved, .ref h_o_undone, .int o_undos, .int o_reached, .int o_length, .int o_begin, .int o_letters, .int o_sort, .long o_word, .int o_wrongAt, .int o_badAt, .int o_bad, .ref h_o_told, .ref h_o_shift, .int o_firstX, .int o_firstY, .int o_secondX, .int o_secondY, .ref h_o_rootOf, .ref h_o_becomes, .ref h_o_comes, .ref h_o_next, .int o_x])), (h_o_all, .inl (ca 0, 350, .inl o_all_r)), (h_o_halves, .inl (ca 0, 34, .inl o_halves_r)), (h_o_rootOf, .inl (ca 0, 64, .inl o_rootOf_r)), (h_o_makers, .inl (ca 0, 34, .inl o_makers_r)), (h_o_plans, .inl (ca 0, 80, .inl o_plans_r))] H) (hD : va_D A [(h_o, .inr (7, [.ref h_o_plans, .ref h_o_makers, .ref h_o_halves, .int o_raised, .ref h_o_all, .ref h_o_text, .ref h_o_saved, .ref h_o_undone, .int o_undos, .int o_reached, .int o_length, .int o_begin, .int o_letters, .int o_sort, .long o_word, .int o_wrongAt, .int o_badAt, .int o_bad, .ref h_o_told, .ref h_o_shift, .int o_firstX, .int o_firstY, .int o_secondX, .int o_secondY, .ref h_o_rootOf, .ref h_o_becomes, .ref h_o_comes, .ref h_o_next, .int o_x])), (h_o_all, .inl (ca 0, 350, .inl o_all_r)), (h_o_halves, .inl (ca 0, 34, .inl o_halves_r)), (h_o_rootOf, .inl (ca 0, 64, .inl o_rootOf_r)), (h_o_makers, .inl (ca 0, 34, .inl o_makers_r)), (h_o_plans, .inl (ca 0, 80, .inl o_plans_r))]) (hS : va_S A s.heap H locs) (ls : Array Slot) (hl : lv_has ls 6 [(0, .ref h_o), (1, .int p1), (2, .int v2), (3, .int v3), (4, .int v4)]), WW H locs (F0 m 70 ls []) := by
        intro v2 v3 v4 o_rootOf_r rr hf hG H locs hP hD hS ls hl
        refine h2 ?_
        unfold fX8_nearest_70 at hf
        refine lv_iinc (v := (v4 + 1)) (lv' := [(4, .int (v4 + 1)), (0, .ref h_o), (1, .int p1), (2, .int v2), (3, .int v3)]) hx hb dX8_nearest_70 hl (k := 4) rfl rfl (by decide) rfl (fun ls hl => ?_)
        refine lv_goto (tgt := 12) hx hb dX8_nearest_73 (by decide) ?_
        have hf := Option.some.inj hf
        subst hf
        rw [eG1] at hG
        obtain ⟨rr, hf, hG⟩ := hG
        exact h1 (ih12 v2 v3 (v4 + 1) o_rootOf_r rr hf hG _ _ hP hD hS _ (lv_sub hl [1, 2, 3, 4, 0] rfl))
      have J_64 : ∀ (v4 : Int32) (v5 : Int32) (o_rootOf_r : Nat → Int32) (rr : (Int32 × Int32 × Int32 × (Nat → Int32)) ⊕ (Int32 × Int32 × (Nat → Int32))) (hf : fX8_nearest_64 o_rootOf_r v4 v5 = some rr) (hG : G1 rr) (H : Heap) (locs : List Loc) (hP : va_P (dC, dI) vwCl [(h_o, .inr (7, [.ref h_o_plans, .ref h_o_makers, .ref h_o_halves, .int o_raised, .ref h_o_all, .ref h_o_text, .ref h_o_saved, .ref h_o_undone, .int o_undos, .int o_reached, .int o_length, .int o_begin, .int o_letters, .int o_sort, .long o_word, .int o_wrongAt, .int o_badAt, .int o_bad, .ref h_o_told, .ref h_o_shift, .int o_firstX, .int o_firstY, .int o_secondX, .int o_secondY, .ref h_o_rootOf, .ref h_o_becomes, .ref h_o_comes, .ref h_o_next, .int o_x])), (h_o_all, .inl (ca 0, 350, .inl o_all_r)), (h_o_halves, .inl (ca 0, 34, .inl o_halves_r)), (h_o_rootOf, .inl (ca 0, 64, .inl o_rootOf_r)), (h_o_makers, .inl (ca 0, 34, .inl o_makers_r)), (h_o_plans, .inl (ca 0, 80, .inl o_plans_r))] H) (hD : va_D A [(h_o, .inr (7, [.ref h_o_plans, .ref h_o_makers, .ref h_o_halves, .int o_raised, .ref h_o_all, .ref h_o_text, .ref h_o_saved, .ref h_o_undone, .int o_undos, .int o_reached, .int o_length, .int o_begin, .int o_letters, .int o_sort, .long o_word, .int o_wrongAt, .int o_badAt, .int o_bad, .ref h_o_told, .ref h_o_shift, .int o_firstX, .int o_firstY, .int o_secondX, .int o_secondY, .ref h_o_rootOf, .ref h_o_becomes, .ref h_o_comes, .ref h_o_next, .int o_x])), (h_o_all, .inl (ca 0, 350, .inl o_all_r)), (h_o_halves, .inl (ca 0, 34, .inl o_halves_r)), (h_o_rootOf, .inl (ca 0, 64, .inl o_rootOf_r)), (h_o_makers, .inl (ca 0, 34, .inl o_makers_r)), (h_o_plans, .inl (ca 0, 80, .inl o_plans_r))]) (hS : va_S A s.heap H locs) (ls : Array Slot) (hl : lv_has ls 6 [(0, .ref h_o), (1, .int p1), (4, .int v4), (5, .int v5)]), WW H locs (F0 m 64 ls []) := by
        intro v4 v5 o_rootOf_r rr hf hG H locs hP hD hS ls hl
        refine h2 ?_
        unfold fX8_nearest_64 at hf
        refine lv_iload hx hb dX8_nearest_64 (lv_at hl 2 rfl) ?_
        refine lv_istore_n (lv' := [(2, .int v4), (0, .ref h_o), (1, .int p1), (4, .int v4), (5, .int v5)]) hx hb dX8_nearest_66 rfl hl (by decide) rfl (fun ls hl => ?_)
        refine lv_iload hx hb dX8_nearest_67 (lv_at hl 4 rfl) ?_
        refine lv_istore_n (lv' := [(3, .int v5), (2, .int v4), (0, .ref h_o), (1, .int p1), (4, .int v4), (5, .int v5)]) hx hb dX8_nearest_69 rfl hl (by decide) rfl (fun ls hl => ?_)
        exact h1 (J_70 v4 v5 v4 o_rootOf_r _ hf hG _ _ hP hD hS _ (lv_sub hl [2, 3, 1, 0, 4] rfl))
      unfold fX8_nearest_12_b at hf
      refine lv_iload hx hb dX8_nearest_12 (lv_at hl 4 rfl) ?_
      refine lv_bipush (v := 17) hx hb dX8_nearest_14 (by decide) ?_
      refine lv_icmp_ge (tgt := 76) hx hb dX8_nearest_16 (by decide) (fun c_16 => ?_) (fun c_16 => ?_)
      · replace hf := ds_t c_16 hf
        refine lv_iload_n hx hb dX8_nearest_76 rfl (lv_at hl 2 rfl) ?_
        have hf := Option.some.inj hf
        subst hf
        rw [eG1] at hG
        replace hG : G0 _ := hG
        rw [eG0] at hG
        have hG : _ = res := hG
        subst hG
        exact W.iret (v := v2) hx hb hr (fun t ht hW => ⟨⟨v2, (), rfl, rfl, by rw [ht]; exact hP, hD⟩, hS.F ht⟩) hS.2.2 dX8_nearest_77
      · replace hf := ds_f c_16 hf
        refine lv_aload_n hx hb dX8_nearest_19 rfl (lv_at hl 0 rfl) ?_
        refine lv_iload hx hb dX8_nearest_20 (lv_at hl 4 rfl) ?_
        obtain ⟨q22, hq22, hf⟩ := ds_ob hf
        refine ds_calli (wr := [(h_o_rootOf, .inl (ca 0, 64, .inl o_rootOf_r)), (h_o_makers, .inl (ca 0, 34, .inl o_makers_r)), (h_o_plans, .inl (ca 0, 80, .inl o_plans_r))]) (va_runV (As := [.int v4]) (rest := []) ⟨hx, hb, hml, hown, hts⟩ (c_X8_mayAsk l dC dI ca sa h_o h_o_plans h_o_makers h_o_halves h_o_all h_o_text h_o_saved h_o_undone h_o_told h_o_shift h_o_rootOf h_o_becomes h_o_comes h_o_next H.size o_raised o_undos o_reached o_length o_begin o_letters o_sort o_word o_wrongAt o_badAt o_bad o_firstX o_firstY o_secondX o_secondY o_x o_all_r o_halves_r v4 q22 hq22) (cwV 1 hts (ds_gV kw_832 kw_833 kw_834 kw_597 kw_835) rfl rfl rfl (by decide +kernel) ⟨Nat.le_of_ble_eq_true rfl, Nat.le_of_ble_eq_true rfl⟩) ⟨ds_blind, va_recv hK hP (ci := 7) (q0 := 0) rfl rfl, ds_at hP hD hK hE hS hA [0, 1, 2] rfl rfl _⟩ rfl rfl hl.1 rfl (lv_room (Nat.le_of_ble_eq_true rfl)) dX8_nearest_22 ⟨Nat.zero_le _, Nat.zero_le _⟩) hP hD hS hA [0, 1, 2] [3, 4, 5] rfl rfl rfl (by decide) (fun H locs hP hD hS => ?_)
        have hP : va_P (dC, dI) vwCl [(h_o_rootOf, .inl (ca 0, 64, .inl o_rootOf_r)), (h_o_makers, .inl (ca 0, 34, .inl o_makers_r)), (h_o_plans, .inl (ca 0, 80, .inl o_plans_r)), (h_o, .inr (7, [.ref h_o_plans, .ref h_o_makers, .ref h_o_halves, .int o_raised, .ref h_o_all, .ref h_o_text, .ref h_o_saved, .ref h_o_undone, .int o_undos, .int o_reached, .int o_length, .int o_begin, .int o_letters, .int o_sort, .long o_word, .int o_wrongAt, .int o_badAt, .int o_bad, .ref h_o_told, .ref h_o_shift, .int o_firstX, .int o_firstY, .int o_secondX, .int o_secondY, .ref h_o_rootOf, .ref h_o_becomes, .ref h_o_comes, .ref h_o_next, .int o_x])), (h_o_all, .inl (ca 0, 350, .inl o_all_r)), (h_o_halves, .inl (ca 0, 34, .inl o_halves_r))] H := hP
        have hD : va_D A [(h_o_rootOf, .inl (ca 0, 64, .inl o_rootOf_r)), (h_o_makers, .inl (ca 0, 34, .inl o_makers_r)), (h_o_plans, .inl (ca 0, 80, .inl o_plans_r)), (h_o, .inr (7, [.ref h_o_plans, .ref h_o_makers, .ref h_o_halves, .int o_raised, .ref h_o_all, .ref h_o_text, .ref h_o_saved, .ref h_o_undone, .int o_undos, .int o_reached, .int o_length, .int o_begin, .int o_letters, .int o_sort, .long o_word, .int o_wrongAt, .int o_badAt, .int o_bad, .ref h_o_told, .ref h_o_shift, .int o_firstX, .int o_firstY, .int o_secondX, .int o_secondY, .ref h_o_rootOf, .ref h_o_becomes, .ref h_o_comes, .ref h_o_next, .int o_x])), (h_o_all, .inl (ca 0, 350, .inl o_all_r)), (h_o_halves, .inl (ca 0, 34, .inl o_halves_r))] := hD
        refine lv_if_ne (tgt := 31) hx hb dX8_nearest_25 (by decide) (fun c_25 => ?_) (fun c_25 => ?_)
        · replace hf := ds_f c_25 hf
          refine lv_aload_n hx hb dX8_nearest_31 rfl (lv_at hl 0 rfl) ?_
          refine lv_iload hx hb dX8_nearest_32 (lv_at hl 4 rfl) ?_
          obtain ⟨q34, hq34, hf⟩ := ds_ob hf
          refine ds_callv (wr := []) (va_runV (As := [.int v4]) (rest := []) ⟨hx, hb, hml, hown, hts⟩ (c_X8_laysOrbits l dC dI ca sa h_o h_o_plans h_o_makers h_o_halves h_o_all h_o_text h_o_saved h_o_undone h_o_told h_o_shift h_o_rootOf h_o_becomes h_o_comes h_o_next H.size o_raised o_undos o_reached o_length o_begin o_letters o_sort o_word o_wrongAt o_badAt o_bad o_firstX o_firstY o_secondX o_secondY o_x o_rootOf_r o_all_r o_makers_r o_halves_r o_plans_r v4 q34 hq34) (cwV 1 hts (ds_gV kw_836 kw_837 kw_838 kw_597 kw_839) rfl rfl rfl (by decide +kernel) ⟨Nat.le_of_ble_eq_true rfl, Nat.le_of_ble_eq_true rfl⟩) ⟨ds_blind, va_recv hK hP (ci := 7) (q0 := 3) rfl rfl, ds_at hP hD hK hE hS hA [3, 0, 4, 1, 5, 2] rfl rfl _⟩ rfl rfl hl.1 rfl (lv_room (Nat.le_of_ble_eq_true rfl)) dX8_nearest_34 ⟨Nat.zero_le _, Nat.zero_le _⟩) hP hD hS hA [3, 0, 4, 1, 5, 2] [] rfl rfl rfl (by decide) (fun H locs hP hD hS => ?_)
          have hP : va_P (dC, dI) vwCl [(h_o, .inr (7, [.ref h_o_plans, .ref h_o_makers, .ref h_o_halves, .int o_raised, .ref h_o_all, .ref h_o_text, .ref h_o_saved, .ref h_o_undone, .int o_undos, .int o_reached, .int o_length, .int o_begin, .int o_letters, .int o_sort, .long o_word, .int o_wrongAt, .int o_badAt, .int o_bad, .ref h_o_told, .ref h_o_shift, .int o_firstX, .int o_firstY, .int o_secondX, .int o_secondY, .ref h_o_rootOf, .ref h_o_becomes, .ref h_o_comes, .ref h_o_next, .int o_x])), (h_o_rootOf, .inl (ca 0, 64, .inl q34)), (h_o_all, .inl (ca 0, 350, .inl o_all_r)), (h_o_makers, .inl (ca 0, 34, .inl o_makers_r)), (h_o_halves, .inl (ca 0, 34, .inl o_halves_r)), (h_o_plans, .inl (ca 0, 80, .inl o_plans_r))] H := hP
          have hD : va_D A [(h_o, .inr (7, [.ref h_o_plans, .ref h_o_makers, .ref h_o_halves, .int o_raised, .ref h_o_all, .ref h_o_text, .ref h_o_saved, .ref h_o_undone, .int o_undos, .int o_reached, .int o_length, .int o_begin, .int o_letters, .int o_sort, .long o_word, .int o_wrongAt, .int o_badAt, .int o_bad, .ref h_o_told, .ref h_o_shift, .int o_firstX, .int o_firstY, .int o_secondX, .int o_secondY, .ref h_o_rootOf, .ref h_o_becomes, .ref h_o_comes, .ref h_o_next, .int o_x])), (h_o_rootOf, .inl (ca 0, 64, .inl q34)), (h_o_all, .inl (ca 0, 350, .inl o_all_r)), (h_o_makers, .inl (ca 0, 34, .inl o_makers_r)), (h_o_halves, .inl (ca 0, 34, .inl o_halves_r)), (h_o_plans, .inl (ca 0, 80, .inl o_plans_r))] := hD
          refine lv_aload_n hx hb dX8_nearest_37 rfl (lv_at hl 0 rfl) ?_
          refine lv_bipush (v := 64) hx hb dX8_nearest_38 (by decide) ?_
          obtain ⟨q40, hq40, hf⟩ := ds_ob hf
          refine ds_calli (wr := [(h_o_makers, .inl (ca 0, 34, .inl o_makers_r)), (h_o_halves, .inl (ca 0, 34, .inl o_halves_r)), (h_o_plans, .inl (ca 0, 80, .inl o_plans_r))]) (va_runV (As := [.int (64 : Int32)]) (rest := []) ⟨hx, hb, hml, hown, hts⟩ (c_X8_leaders l dC dI ca sa h_o h_o_plans h_o_makers h_o_halves h_o_all h_o_text h_o_saved h_o_undone h_o_told h_o_shift h_o_rootOf h_o_becomes h_o_comes h_o_next H.size o_raised o_undos o_reached o_length o_begin o_letters o_sort o_word o_wrongAt o_badAt o_bad o_firstX o_firstY o_secondX o_secondY o_x o_all_r q34 (64 : Int32) q40 hq40) (cwV 1 hts (ds_gV kw_760 kw_761 kw_762 kw_597 kw_763) rfl rfl rfl (by decide +kernel) ⟨Nat.le_of_ble_eq_true rfl, Nat.le_of_ble_eq_true rfl⟩) ⟨ds_blind, va_recv hK hP (ci := 7) (q0 := 0) rfl rfl, ds_at hP hD hK hE hS hA [0, 2, 1] rfl rfl _⟩ rfl rfl hl.1 rfl (lv_room (Nat.le_of_ble_eq_true rfl)) dX8_nearest_40 ⟨Nat.zero_le _, Nat.zero_le _⟩) hP hD hS hA [0, 2, 1] [3, 4, 5] rfl rfl rfl (by decide) (fun H locs hP hD hS => ?_)
          have hP : va_P (dC, dI) vwCl [(h_o_makers, .inl (ca 0, 34, .inl o_makers_r)), (h_o_halves, .inl (ca 0, 34, .inl o_halves_r)), (h_o_plans, .inl (ca 0, 80, .inl o_plans_r)), (h_o, .inr (7, [.ref h_o_plans, .ref h_o_makers, .ref h_o_halves, .int o_raised, .ref h_o_all, .ref h_o_text, .ref h_o_saved, .ref h_o_undone, .int o_undos, .int o_reached, .int o_length, .int o_begin, .int o_letters, .int o_sort, .long o_word, .int o_wrongAt, .int o_badAt, .int o_bad, .ref h_o_told, .ref h_o_shift, .int o_firstX, .int o_firstY, .int o_secondX, .int o_secondY, .ref h_o_rootOf, .ref h_o_becomes, .ref h_o_comes, .ref h_o_next, .int o_x])), (h_o_all, .inl (ca 0, 350, .inl o_all_r)), (h_o_rootOf, .inl (ca 0, 64, .inl q34))] H := hP
          have hD : va_D A [(h_o_makers, .inl (ca 0, 34, .inl o_makers_r)), (h_o_halves, .inl (ca 0, 34, .inl o_halves_r)), (h_o_plans, .inl (ca 0, 80, .inl o_plans_r)), (h_o, .inr (7, [.ref h_o_plans, .ref h_o_makers, .ref h_o_halves, .int o_raised, .ref h_o_all, .ref h_o_text, .ref h_o_saved, .ref h_o_undone, .int o_undos, .int o_reached, .int o_length, .int o_begin, .int o_letters, .int o_sort, .long o_word, .int o_wrongAt, .int o_badAt, .int o_bad, .ref h_o_told, .ref h_o_shift, .int o_firstX, .int o_firstY, .int o_secondX, .int o_secondY, .ref h_o_rootOf, .ref h_o_becomes, .ref h_o_comes, .ref h_o_next, .int o_x])), (h_o_all, .inl (ca 0, 350, .inl o_all_r)), (h_o_rootOf, .inl (ca 0, 64, .inl q34))] := hD
          refine lv_istore (lv' := [(5, .int q40), (0, .ref h_o), (1, .int p1), (2, .int v2), (3, .int v3), (4, .int v4)]) hx hb dX8_nearest_43 hl (by decide) rfl (fun ls hl => ?_)
          refine lv_aload_n hx hb dX8_nearest_45 rfl (lv_at hl 1 rfl) ?_
          obtain ⟨q46, hq46, hf⟩ := ds_ob hf
          refine ds_calli (wr := [(h_o_makers, .inl (ca 0, 34, .inl o_makers_r)), (h_o_halves, .inl (ca 0, 34, .inl o_halves_r)), (h_o_plans, .inl (ca 0, 80, .inl o_plans_r))]) (va_runV (As := []) (rest := []) ⟨hx, hb, hml, hown, hts⟩ (c_X8_flawed l dC dI ca sa h_o h_o_plans h_o_makers h_o_halves h_o_all h_o_text h_o_saved h_o_undone h_o_told h_o_shift h_o_rootOf h_o_becomes h_o_comes h_o_next H.size o_raised o_undos o_reached o_length o_begin o_letters o_sort o_word o_wrongAt o_badAt o_bad o_firstX o_firstY o_secondX o_secondY o_x o_all_r q34  q46 hq46) (cwV 0 hts (ds_gV kw_840 kw_841 kw_842 kw_597 kw_843) rfl rfl rfl (by decide +kernel) ⟨Nat.le_of_ble_eq_true rfl, Nat.le_of_ble_eq_true rfl⟩) ⟨ds_blind, va_recv hK hP (ci := 7) (q0 := 3) rfl rfl, ds_at hP hD hK hE hS hA [3, 4, 5] rfl rfl _⟩ rfl rfl hl.1 rfl (lv_room (Nat.le_of_ble_eq_true rfl)) dX8_nearest_46 ⟨Nat.zero_le _, Nat.zero_le _⟩) hP hD hS hA [3, 4, 5] [0, 1, 2] rfl rfl rfl (by decide) (fun H locs hP hD hS => ?_)
          have hP : va_P (dC, dI) vwCl [(h_o_makers, .inl (ca 0, 34, .inl o_makers_r)), (h_o_halves, .inl (ca 0, 34, .inl o_halves_r)), (h_o_plans, .inl (ca 0, 80, .inl o_plans_r)), (h_o, .inr (7, [.ref h_o_plans, .ref h_o_makers, .ref h_o_halves, .int o_raised, .ref h_o_all, .ref h_o_text, .ref h_o_saved, .ref h_o_undone, .int o_undos, .int o_reached, .int o_length, .int o_begin, .int o_letters, .int o_sort, .long o_word, .int o_wrongAt, .int o_badAt, .int o_bad, .ref h_o_told, .ref h_o_shift, .int o_firstX, .int o_firstY, .int o_secondX, .int o_secondY, .ref h_o_rootOf, .ref h_o_becomes, .ref h_o_comes, .ref h_o_next, .int o_x])), (h_o_all, .inl (ca 0, 350, .inl o_all_r)), (h_o_rootOf, .inl (ca 0, 64, .inl q34))] H := hP
          have hD : va_D A [(h_o_makers, .inl (ca 0, 34, .inl o_makers_r)), (h_o_halves, .inl (ca 0, 34, .inl o_halves_r)), (h_o_plans, .inl (ca 0, 80, .inl o_plans_r)), (h_o, .inr (7, [.ref h_o_plans, .ref h_o_makers, .ref h_o_halves, .int o_raised, .ref h_o_all, .ref h_o_text, .ref h_o_saved, .ref h_o_undone, .int o_undos, .int o_reached, .int o_length, .int o_begin, .int o_letters, .int o_sort, .long o_word, .int o_wrongAt, .int o_badAt, .int o_bad, .ref h_o_told, .ref h_o_shift, .int o_firstX, .int o_firstY, .int o_secondX, .int o_secondY, .ref h_o_rootOf, .ref h_o_becomes, .ref h_o_comes, .ref h_o_next, .int o_x])), (h_o_all, .inl (ca 0, 350, .inl o_all_r)), (h_o_rootOf, .inl (ca 0, 64, .inl q34))] := hD
          refine lv_iload_n hx hb dX8_nearest_49 rfl (lv_at hl 2 rfl) ?_
          refine lv_icmp_gt (tgt := 70) hx hb dX8_nearest_50 (by decide) (fun c_50 => ?_) (fun c_50 => ?_)
          · replace hf := ds_t c_50 hf
            exact h1 (J_70 v2 v3 v4 q34 _ hf hG _ _ (hP.sub [3, 4, 1, 5, 0, 2] rfl) (hD.sub [3, 4, 1, 5, 0, 2] rfl rfl) hS _ (lv_sub hl [1, 2, 3, 4, 5] rfl))
          · replace hf := ds_f c_50 hf
            refine lv_iload_n hx hb dX8_nearest_53 rfl (lv_at hl 3 rfl) ?_
            refine lv_iconst (v := -1) hx hb dX8_nearest_54 (by decide) ?_
            refine lv_icmp_eq (tgt := 64) hx hb dX8_nearest_55 (by decide) (fun c_55 => ?_) (fun c_55 => ?_)
            · replace hf := ds_t c_55 hf
              exact h1 (J_64 v4 q40 q34 _ hf hG _ _ (hP.sub [3, 4, 1, 5, 0, 2] rfl) (hD.sub [3, 4, 1, 5, 0, 2] rfl rfl) hS _ (lv_sub hl [1, 2, 5, 0] rfl))
            · replace hf := ds_f c_55 hf
              refine lv_iload hx hb dX8_nearest_58 (lv_at hl 0 rfl) ?_
              refine lv_iload_n hx hb dX8_nearest_60 rfl (lv_at hl 4 rfl) ?_
              refine lv_icmp_gt (tgt := 70) hx hb dX8_nearest_61 (by decide) (fun c_61 => ?_) (fun c_61 => ?_)
              · replace hf := ds_t c_61 hf
                exact h1 (J_70 v2 v3 v4 q34 _ hf hG _ _ (hP.sub [3, 4, 1, 5, 0, 2] rfl) (hD.sub [3, 4, 1, 5, 0, 2] rfl rfl) hS _ (lv_sub hl [1, 2, 3, 4, 5] rfl))
              · replace hf := ds_f c_61 hf
                exact h1 (J_64 v4 q40 q34 _ hf hG _ _ (hP.sub [3, 4, 1, 5, 0, 2] rfl) (hD.sub [3, 4, 1, 5, 0, 2] rfl rfl) hS _ (lv_sub hl [1, 2, 5, 0] rfl))
        · replace hf := ds_t c_25 hf
          refine lv_goto (tgt := 70) hx hb dX8_nearest_28 (by decide) ?_
          exact h1 (J_70 v2 v3 v4 o_rootOf_r _ hf hG _ _ (hP.sub [3, 4, 5, 0, 1, 2] rfl) (hD.sub [3, 4, 5, 0, 1, 2] rfl rfl) hS _ (lv_sub hl [0, 1, 2, 3, 4] rfl))
  unfold fX8_nearest at hf
  refine lv_aload_n hx hb dX8_nearest_0 rfl (lv_at hl 0 rfl) ?_
  refine lv_iconst (v := 0) hx hb dX8_nearest_1 (by decide) ?_
  refine va_put (D := (dC, dI)) (ci := 7) (v := .int (0 : Int32)) (ty := tyX8 3) (C := RX8) (T := TX8) (N := 29) hx hb hts (fun w h => List.mem_cons_of_mem _ (kc_X8 w h)) tyX8 tyX8_ok nmX8 hown hK hP hD hS 0 rfl rfl 3 (by decide) (hg kw_564) (fun _ h9 => h9) rfl (by decide +kernel) rfl rfl (Nat.le_of_ble_eq_true rfl) dX8_nearest_2 (fun H locs hP hD hS => ?_)
  have hP : va_P (dC, dI) vwCl [(h_o, .inr (7, [.ref h_o_plans, .ref h_o_makers, .ref h_o_halves, .int (0 : Int32), .ref h_o_all, .ref h_o_text, .ref h_o_saved, .ref h_o_undone, .int o_undos, .int o_reached, .int o_length, .int o_begin, .int o_letters, .int o_sort, .long o_word, .int o_wrongAt, .int o_badAt, .int o_bad, .ref h_o_told, .ref h_o_shift, .int o_firstX, .int o_firstY, .int o_secondX, .int o_secondY, .ref h_o_rootOf, .ref h_o_becomes, .ref h_o_comes, .ref h_o_next, .int o_x])), (h_o_all, .inl (ca 0, 350, .inl o_all_r)), (h_o_halves, .inl (ca 0, 34, .inl o_halves_r)), (h_o_rootOf, .inl (ca 0, 64, .inl o_rootOf_r)), (h_o_makers, .inl (ca 0, 34, .inl o_makers_r)), (h_o_plans, .inl (ca 0, 80, .inl o_plans_r))] H := hP
  have hD : va_D A [(h_o, .inr (7, [.ref h_o_plans, .ref h_o_makers, .ref h_o_halves, .int (0 : Int32), .ref h_o_all, .ref h_o_text, .ref h_o_saved, .ref h_o_undone, .int o_undos, .int o_reached, .int o_length, .int o_begin, .int o_letters, .int o_sort, .long o_word, .int o_wrongAt, .int o_badAt, .int o_bad, .ref h_o_told, .ref h_o_shift, .int o_firstX, .int o_firstY, .int o_secondX, .int o_secondY, .ref h_o_rootOf, .ref h_o_becomes, .ref h_o_comes, .ref h_o_next, .int o_x])), (h_o_all, .inl (ca 0, 350, .inl o_all_r)), (h_o_halves, .inl (ca 0, 34, .inl o_halves_r)), (h_o_rootOf, .inl (ca 0, 64, .inl o_rootOf_r)), (h_o_makers, .inl (ca 0, 34, .inl o_makers_r)), (h_o_plans, .inl (ca 0, 80, .inl o_plans_r))] := hD
  refine lv_iconst (v := -1) hx hb dX8_nearest_5 (by decide) ?_
  refine lv_istore_n (lv' := [(2, .int (-1 : Int32)), (0, .ref h_o), (1, .int p1)]) hx hb dX8_nearest_6 rfl hl (by decide) rfl (fun ls hl => ?_)
  refine lv_iconst (v := 0) hx hb dX8_nearest_7 (by decide) ?_
  refine lv_istore_n (lv' := [(3, .int (0 : Int32)), (2, .int (-1 : Int32)), (0, .ref h_o), (1, .int p1)]) hx hb dX8_nearest_8 rfl hl (by decide) rfl (fun ls hl => ?_)
  refine lv_iconst (v := 0) hx hb dX8_nearest_9 (by decide) ?_
  refine lv_istore (lv' := [(4, .int (0 : Int32)), (3, .int (0 : Int32)), (2, .int (-1 : Int32)), (0, .ref h_o), (1, .int p1)]) hx hb dX8_nearest_10 hl (by decide) rfl (fun ls hl => ?_)
  exact h1 (J_12 (0 : Int32) 1000 (-1 : Int32) (0 : Int32) (0 : Int32) o_rootOf_r _ hf hG _ _ hP hD hS _ (lv_sub hl [3, 4, 2, 1, 0] rfl))
theorem dX8_keeps_0 : decode cX8_keeps 0 = .ok (.aload_n 0, 1) := by decide +kernel
theorem dX8_keeps_1 : decode cX8_keeps 1 = .ok (.getfield 124, 3) := by decide +kernel
theorem dX8_keeps_4 : decode cX8_keeps 4 = .ok (.bipush 8, 2) := by decide +kernel
theorem dX8_keeps_6 : decode cX8_keeps 6 = .ok (.if_icmp .ne 43, 3) := by decide +kernel
theorem dX8_keeps_9 : decode cX8_keeps 9 = .ok (.iconst 0, 1) := by decide +kernel
theorem dX8_keeps_10 : decode cX8_keeps 10 = .ok (.istore_n 1, 1) := by decide +kernel
theorem dX8_keeps_11 : decode cX8_keeps 11 = .ok (.iload_n 1, 1) := by decide +kernel
theorem dX8_keeps_12 : decode cX8_keeps 12 = .ok (.sipush 469, 3) := by decide +kernel
theorem dX8_keeps_15 : decode cX8_keeps 15 = .ok (.if_icmp .ge 24, 3) := by decide +kernel
theorem dX8_keeps_18 : decode cX8_keeps 18 = .ok (.aload_n 0, 1) := by decide +kernel
theorem dX8_keeps_19 : decode cX8_keeps 19 = .ok (.getfield 30, 3) := by decide +kernel
theorem dX8_keeps_22 : decode cX8_keeps 22 = .ok (.iload_n 1, 1) := by decide +kernel
theorem dX8_keeps_23 : decode cX8_keeps 23 = .ok (.aload_n 0, 1) := by decide +kernel
theorem dX8_keeps_24 : decode cX8_keeps 24 = .ok (.getfield 30, 3) := by decide +kernel
theorem dX8_keeps_27 : decode cX8_keeps 27 = .ok (.iload_n 1, 1) := by decide +kernel
theorem dX8_keeps_28 : decode cX8_keeps 28 = .ok (.bipush 67, 2) := by decide +kernel
theorem dX8_keeps_30 : decode cX8_keeps 30 = .ok (.iadd, 1) := by decide +kernel
theorem dX8_keeps_31 : decode cX8_keeps 31 = .ok (.iaload, 1) := by decide +kernel
theorem dX8_keeps_32 : decode cX8_keeps 32 = .ok (.iastore, 1) := by decide +kernel
theorem dX8_keeps_33 : decode cX8_keeps 33 = .ok (.iinc 1 1, 3) := by decide +kernel
theorem dX8_keeps_36 : decode cX8_keeps 36 = .ok (.goto (-25), 3) := by decide +kernel
theorem dX8_keeps_39 : decode cX8_keeps 39 = .ok (.aload_n 0, 1) := by decide +kernel
theorem dX8_keeps_40 : decode cX8_keeps 40 = .ok (.dup, 1) := by decide +kernel
theorem dX8_keeps_41 : decode cX8_keeps 41 = .ok (.getfield 124, 3) := by decide +kernel
theorem dX8_keeps_44 : decode cX8_keeps 44 = .ok (.iconst 1, 1) := by decide +kernel
theorem dX8_keeps_45 : decode cX8_keeps 45 = .ok (.isub, 1) := by decide +kernel
theorem dX8_keeps_46 : decode cX8_keeps 46 = .ok (.putfield 124, 3) := by decide +kernel
theorem dX8_keeps_49 : decode cX8_keeps 49 = .ok (.iconst 0, 1) := by decide +kernel
theorem dX8_keeps_50 : decode cX8_keeps 50 = .ok (.istore_n 1, 1) := by decide +kernel
theorem dX8_keeps_51 : decode cX8_keeps 51 = .ok (.iload_n 1, 1) := by decide +kernel
theorem dX8_keeps_52 : decode cX8_keeps 52 = .ok (.bipush 67, 2) := by decide +kernel
theorem dX8_keeps_54 : decode cX8_keeps 54 = .ok (.if_icmp .ge 29, 3) := by decide +kernel
theorem dX8_keeps_57 : decode cX8_keeps 57 = .ok (.aload_n 0, 1) := by decide +kernel
theorem dX8_keeps_58 : decode cX8_keeps 58 = .ok (.getfield 30, 3) := by decide +kernel
theorem dX8_keeps_61 : decode cX8_keeps 61 = .ok (.bipush 67, 2) := by decide +kernel
theorem dX8_keeps_63 : decode cX8_keeps 63 = .ok (.aload_n 0, 1) := by decide +kernel
theorem dX8_keeps_64 : decode cX8_keeps 64 = .ok (.getfield 124, 3) := by decide +kernel
theorem dX8_keeps_67 : decode cX8_keeps 67 = .ok (.imul, 1) := by decide +kernel
theorem dX8_keeps_68 : decode cX8_keeps 68 = .ok (.iload_n 1, 1) := by decide +kernel
theorem dX8_keeps_69 : decode cX8_keeps 69 = .ok (.iadd, 1) := by decide +kernel
theorem dX8_keeps_70 : decode cX8_keeps 70 = .ok (.aload_n 0, 1) := by decide +kernel
theorem dX8_keeps_71 : decode cX8_keeps 71 = .ok (.getfield 19, 3) := by decide +kernel
theorem dX8_keeps_74 : decode cX8_keeps 74 = .ok (.iload_n 1, 1) := by decide +kernel
theorem dX8_keeps_75 : decode cX8_keeps 75 = .ok (.iaload, 1) := by decide +kernel
theorem dX8_keeps_76 : decode cX8_keeps 76 = .ok (.iastore, 1) := by decide +kernel
theorem dX8_keeps_77 : decode cX8_keeps 77 = .ok (.iinc 1 1, 3) := by decide +kernel
theorem dX8_keeps_80 : decode cX8_keeps 80 = .ok (.goto (-29), 3) := by decide +kernel
theorem dX8_keeps_83 : decode cX8_keeps 83 = .ok (.aload_n 0, 1) := by decide +kernel
theorem dX8_keeps_84 : decode cX8_keeps 84 = .ok (.dup, 1) := by decide +kernel
theorem dX8_keeps_85 : decode cX8_keeps 85 = .ok (.getfield 124, 3) := by decide +kernel
theorem dX8_keeps_88 : decode cX8_keeps 88 = .ok (.iconst 1, 1) := by decide +kernel
theorem dX8_keeps_89 : decode cX8_keeps 89 = .ok (.iadd, 1) := by decide +kernel
theorem dX8_keeps_90 : decode cX8_keeps 90 = .ok (.putfield 124, 3) := by decide +kernel
theorem dX8_keeps_93 : decode cX8_keeps 93 = .ok (.return_, 1) := by decide +kernel
def fX8_keeps_83 (o_undos : Int32) (o_undone_r : Nat → Int32) : Option (Int32 × (Nat → Int32)) :=
  some ((o_undos + (1 : Int32)), o_undone_r)
def fX8_keeps_51_b (o_undos : Int32) (o_all_r : Nat → Int32) (v1 : Int32) (o_undone_r : Nat → Int32) : Option ((Int32 × (Nat → Int32)) ⊕ (Int32 × (Nat → Int32))) :=
  if (67 : Int32) ≤ v1 then Option.bind (fX8_keeps_83 o_undos o_undone_r) fun z => some (.inr z) else if ds_in v1 350 = true then if ds_in (((67 : Int32) * o_undos) + v1) 536 = true then some (.inl ((v1 + 1), (upd o_undone_r ((((67 : Int32) * o_undos) + v1).toNatClampNeg) (o_all_r v1.toNatClampNeg)))) else none else none
def fX8_keeps_51 (o_undos : Int32) (o_all_r : Nat → Int32) (v1 : Int32) (o_undone_r : Nat → Int32) : Option (Int32 × (Nat → Int32)) := ds_it (fun s => fX8_keeps_51_b o_undos o_all_r s.1 s.2) 1000 (v1, o_undone_r)
def fX8_keeps_49 (o_undos : Int32) (o_undone_r : Nat → Int32) (o_all_r : Nat → Int32) : Option (Int32 × (Nat → Int32)) :=
  fX8_keeps_51 o_undos o_all_r (0 : Int32) o_undone_r
def fX8_keeps_39 (o_undos : Int32) (o_undone_r : Nat → Int32) (o_all_r : Nat → Int32) : Option (Int32 × (Nat → Int32)) :=
  fX8_keeps_49 (o_undos - (1 : Int32)) o_undone_r o_all_r
def fX8_keeps_11_b (o_undos : Int32) (o_all_r : Nat → Int32) (v1 : Int32) (o_undone_r : Nat → Int32) : Option ((Int32 × (Nat → Int32)) ⊕ (Int32 × (Nat → Int32))) :=
  if (469 : Int32) ≤ v1 then Option.bind (fX8_keeps_39 o_undos o_undone_r o_all_r) fun z => some (.inr z) else if ds_in (v1 + (67 : Int32)) 536 = true then if ds_in v1 536 = true then some (.inl ((v1 + 1), (upd o_undone_r v1.toNatClampNeg (o_undone_r (v1 + (67 : Int32)).toNatClampNeg)))) else none else none
def fX8_keeps_11 (o_undos : Int32) (o_all_r : Nat → Int32) (v1 : Int32) (o_undone_r : Nat → Int32) : Option (Int32 × (Nat → Int32)) := ds_it (fun s => fX8_keeps_11_b o_undos o_all_r s.1 s.2) 1000 (v1, o_undone_r)
def fX8_keeps (o_undos : Int32) (o_undone_r : Nat → Int32) (o_all_r : Nat → Int32) : Option (Int32 × (Nat → Int32)) :=
  if o_undos = (8 : Int32) then fX8_keeps_11 o_undos o_all_r (0 : Int32) o_undone_r else fX8_keeps_49 o_undos o_undone_r o_all_r
set_option maxHeartbeats 4000000 in
set_option maxRecDepth 100000 in
theorem c_X8_keeps (l : Launch) (dC : Nat → ClassId) (dI : Nat → Nat → Nat) (ca : Nat → ClassId) (sa : Nat → Nat) (h_o : Nat) (h_o_plans : Nat) (h_o_makers : Nat) (h_o_halves : Nat) (h_o_all : Nat) (h_o_text : Nat) (h_o_saved : Nat) (h_o_undone : Nat) (h_o_told : Nat) (h_o_shift : Nat) (h_o_rootOf : Nat) (h_o_becomes : Nat) (h_o_comes : Nat) (h_o_next : Nat) (sz : Nat) (o_raised : Int32) (o_undos : Int32) (o_reached : Int32) (o_length : Int32) (o_begin : Int32) (o_letters : Int32) (o_sort : Int32) (o_word : Int64) (o_wrongAt : Int32) (o_badAt : Int32) (o_bad : Int32) (o_firstX : Int32) (o_firstY : Int32) (o_secondX : Int32) (o_secondY : Int32) (o_x : Int32) (o_undone_r : Nat → Int32) (o_all_r : Nat → Int32) (res : Int32 × (Nat → Int32)) (hf : fX8_keeps o_undos o_undone_r o_all_r = some res) : Met l yX8_keeps (Cond.code yX8_keeps cX8_keeps 2 none :: ds_gw) { frames := 0, cells := 0, slots := 0, locals := 0 } (va_Pc [.ref h_o] (ds_Pre dC dI ca sa [(h_o, .inr (7, [.ref h_o_plans, .ref h_o_makers, .ref h_o_halves, .int o_raised, .ref h_o_all, .ref h_o_text, .ref h_o_saved, .ref h_o_undone, .int o_undos, .int o_reached, .int o_length, .int o_begin, .int o_letters, .int o_sort, .long o_word, .int o_wrongAt, .int o_badAt, .int o_bad, .ref h_o_told, .ref h_o_shift, .int o_firstX, .int o_firstY, .int o_secondX, .int o_secondY, .ref h_o_rootOf, .ref h_o_becomes, .ref h_o_comes, .ref h_o_next, .int o_x])), (h_o_undone, .inl (ca 0, 536, .inl o_undone_r)), (h_o_all, .inl (ca 0, 350, .inl o_all_r))] sz)) (va_Qv (fun (_ : Unit) => True) (ds_B dC dI (va_A [(h_o, .inr (7, [.ref h_o_plans, .ref h_o_makers, .ref h_o_halves, .int o_raised, .ref h_o_all, .ref h_o_text, .ref h_o_saved, .ref h_o_undone, .int o_undos, .int o_reached, .int o_length, .int o_begin, .int o_letters, .int o_sort, .long o_word, .int o_wrongAt, .int o_badAt, .int o_bad, .ref h_o_told, .ref h_o_shift, .int o_firstX, .int o_firstY, .int o_secondX, .int o_secondY, .ref h_o_rootOf, .ref h_o_becomes, .ref h_o_comes, .ref h_o_next, .int o_x])), (h_o_undone, .inl (ca 0, 536, .inl o_undone_r)), (h_o_all, .inl (ca 0, 350, .inl o_all_r))] sz) [(h_o, .inr (7, [.ref h_o_plans, .ref h_o_makers, .ref h_o_halves, .int o_raised, .ref h_o_all, .ref h_o_text, .ref h_o_saved, .ref h_o_undone, .int res.1, .int o_reached, .int o_length, .int o_begin, .int o_letters, .int o_sort, .long o_word, .int o_wrongAt, .int o_badAt, .int o_bad, .ref h_o_told, .ref h_o_shift, .int o_firstX, .int o_firstY, .int o_secondX, .int o_secondY, .ref h_o_rootOf, .ref h_o_becomes, .ref h_o_comes, .ref h_o_next, .int o_x])), (h_o_undone, .inl (ca 0, 536, .inl res.2)), (h_o_all, .inl (ca 0, 350, .inl o_all_r))]) (va_A [(h_o, .inr (7, [.ref h_o_plans, .ref h_o_makers, .ref h_o_halves, .int o_raised, .ref h_o_all, .ref h_o_text, .ref h_o_saved, .ref h_o_undone, .int o_undos, .int o_reached, .int o_length, .int o_begin, .int o_letters, .int o_sort, .long o_word, .int o_wrongAt, .int o_badAt, .int o_bad, .ref h_o_told, .ref h_o_shift, .int o_firstX, .int o_firstY, .int o_secondX, .int o_secondY, .ref h_o_rootOf, .ref h_o_becomes, .ref h_o_comes, .ref h_o_next, .int o_x])), (h_o_undone, .inl (ca 0, 536, .inl o_undone_r)), (h_o_all, .inl (ca 0, 350, .inl o_all_r))] sz)) 0 0 (va_A [(h_o, .inr (7, [.ref h_o_plans, .ref h_o_makers, .ref h_o_halves, .int o_raised, .ref h_o_all, .ref h_o_text, .ref h_o_saved, .ref h_o_undone, .int o_undos, .int o_reached, .int o_length, .int o_begin, .int o_letters, .int o_sort, .long o_word, .int o_wrongAt, .int o_badAt, .int o_bad, .ref h_o_told, .ref h_o_shift, .int o_firstX, .int o_firstY, .int o_secondX, .int o_secondY, .ref h_o_rootOf, .ref h_o_becomes, .ref h_o_comes, .ref h_o_next, .int o_x])), (h_o_undone, .inl (ca 0, 536, .inl o_undone_r)), (h_o_all, .inl (ca 0, 350, .inl o_all_r))] sz) := by
  refine Met.ofW (cc := cX8_keeps) (maxL := 2) (ret := none) (by decide) rfl ?_
  intro p e s m args below meth c s₁ B hml hv
  obtain ⟨rfl, hsz, hP, hK, hD0, hE⟩ := hv
  have hx := B.exec
  have hb := B.bytes
  have hr := B.returns
  have hts := atoms_spec (ws := Cond.code yX8_keeps cX8_keeps 2 none :: ds_gw) B.pre
  have hg : ∀ {w : Cond}, w ∈ ds_gw → w.before _ s = true := fun h => hts _ (List.mem_cons_of_mem _ h)
  have hown : s.vm.findClass RX8 = some m.cls := findClass_of_methodNamed B.named
  have hlocks := B.notSynchronized
  subst hsz
  have hD := hD0.self (sz := s.heap.size)
  generalize hAe : va_A [(h_o, .inr (7, [.ref h_o_plans, .ref h_o_makers, .ref h_o_halves, .int o_raised, .ref h_o_all, .ref h_o_text, .ref h_o_saved, .ref h_o_undone, .int o_undos, .int o_reached, .int o_length, .int o_begin, .int o_letters, .int o_sort, .long o_word, .int o_wrongAt, .int o_badAt, .int o_bad, .ref h_o_told, .ref h_o_shift, .int o_firstX, .int o_firstY, .int o_secondX, .int o_secondY, .ref h_o_rootOf, .ref h_o_becomes, .ref h_o_comes, .ref h_o_next, .int o_x])), (h_o_undone, .inl (ca 0, 536, .inl o_undone_r)), (h_o_all, .inl (ca 0, 350, .inl o_all_r))] s.heap.size = A at hD hE ⊢
  have hA : ∀ q : Nat, s.heap.size ≤ q → A q := fun q h => by rw [← hAe]; exact Or.inr h
  have hS : va_S A s.heap s.heap [] := va_S.rf
  have hl := lv_entry ([.ref h_o]) (n := 2) (Nat.le_of_ble_eq_true rfl)
  rw [lg_entry_eq]
  generalize (lg_sl ([.ref h_o]) ++ List.replicate (2 - (lg_sl ([.ref h_o])).length) Slot.unset).toArray = ls at hl ⊢
  have hl : lv_has ls 2 [(0, .ref h_o)] := hl
  obtain ⟨G0, eG0⟩ : ∃ G : (Int32 × (Nat → Int32)) → Prop, G = (fun r => r = res) := ⟨_, rfl⟩
  obtain ⟨rr, hrr⟩ : ∃ z, z = res := ⟨_, rfl⟩
  rw [← hrr] at hf
  have hG : G0 rr := by subst eG0; exact hrr
  refine ds_cap (fun WW h1 h2 => ?_)
  have J_83 : ∀ (o_undos : Int32) (o_undone_r : Nat → Int32) (rr : Int32 × (Nat → Int32)) (hf : fX8_keeps_83 o_undos o_undone_r = some rr) (hG : G0 rr) (H : Heap) (locs : List Loc) (hP : va_P (dC, dI) vwCl [(h_o, .inr (7, [.ref h_o_plans, .ref h_o_makers, .ref h_o_halves, .int o_raised, .ref h_o_all, .ref h_o_text, .ref h_o_saved, .ref h_o_undone, .int o_undos, .int o_reached, .int o_length, .int o_begin, .int o_letters, .int o_sort, .long o_word, .int o_wrongAt, .int o_badAt, .int o_bad, .ref h_o_told, .ref h_o_shift, .int o_firstX, .int o_firstY, .int o_secondX, .int o_secondY, .ref h_o_rootOf, .ref h_o_becomes, .ref h_o_comes, .ref h_o_next, .int o_x])), (h_o_undone, .inl (ca 0, 536, .inl o_undone_r)), (h_o_all, .inl (ca 0, 350, .inl o_all_r))] H) (hD : va_D A [(h_o, .inr (7, [.ref h_o_plans, .ref h_o_makers, .ref h_o_halves, .int o_raised, .ref h_o_all, .ref h_o_text, .ref h_o_saved, .ref h_o_undone, .int o_undos, .int o_reached, .int o_length, .int o_begin, .int o_letters, .int o_sort, .long o_word, .int o_wrongAt, .int o_badAt, .int o_bad, .ref h_o_told, .ref h_o_shift, .int o_firstX, .int o_firstY, .int o_secondX, .int o_secondY, .ref h_o_rootOf, .ref h_o_becomes, .ref h_o_comes, .ref h_o_next, .int o_x])), (h_o_undone, .inl (ca 0, 536, .inl o_undone_r)), (h_o_all, .inl (ca 0, 350, .inl o_all_r))]) (hS : va_S A s.heap H locs) (ls : Array Slot) (hl : lv_has ls 2 [(0, .ref h_o)]), WW H locs (F0 m 83 ls []) := by
    intro o_undos o_undone_r rr hf hG H locs hP hD hS ls hl
    refine h2 ?_
    unfold fX8_keeps_83 at hf
    refine lv_aload_n hx hb dX8_keeps_83 rfl (lv_at hl 0 rfl) ?_
    refine lv_dup hx hb dX8_keeps_84 rfl ?_
    refine va_get (D := (dC, dI)) (ci := 7) (v := .int o_undos) (C := RX8) (T := TX8) (N := 29) hx hb hts (fun w h => List.mem_cons_of_mem _ (kc_X8 w h)) hown hK hP 0 rfl rfl 8 (by decide) (hg kw_645) (fun _ h9 => h9) rfl dX8_keeps_85 ?_
    refine lv_iconst (v := 1) hx hb dX8_keeps_88 (by decide) ?_
    refine lv_iadd hx hb dX8_keeps_89 ?_
    refine va_put (D := (dC, dI)) (ci := 7) (v := .int (o_undos + (1 : Int32))) (ty := tyX8 8) (C := RX8) (T := TX8) (N := 29) hx hb hts (fun w h => List.mem_cons_of_mem _ (kc_X8 w h)) tyX8 tyX8_ok nmX8 hown hK hP hD hS 0 rfl rfl 8 (by decide) (hg kw_645) (fun _ h9 => h9) rfl (by decide +kernel) rfl rfl (Nat.le_of_ble_eq_true rfl) dX8_keeps_90 (fun H locs hP hD hS => ?_)
    have hP : va_P (dC, dI) vwCl [(h_o, .inr (7, [.ref h_o_plans, .ref h_o_makers, .ref h_o_halves, .int o_raised, .ref h_o_all, .ref h_o_text, .ref h_o_saved, .ref h_o_undone, .int (o_undos + (1 : Int32)), .int o_reached, .int o_length, .int o_begin, .int o_letters, .int o_sort, .long o_word, .int o_wrongAt, .int o_badAt, .int o_bad, .ref h_o_told, .ref h_o_shift, .int o_firstX, .int o_firstY, .int o_secondX, .int o_secondY, .ref h_o_rootOf, .ref h_o_becomes, .ref h_o_comes, .ref h_o_next, .int o_x])), (h_o_undone, .inl (ca 0, 536, .inl o_undone_r)), (h_o_all, .inl (ca 0, 350, .inl o_all_r))] H := hP
    have hD : va_D A [(h_o, .inr (7, [.ref h_o_plans, .ref h_o_makers, .ref h_o_halves, .int o_raised, .ref h_o_all, .ref h_o_text, .ref h_o_saved, .ref h_o_undone, .int (o_undos + (1 : Int32)), .int o_reached, .int o_length, .int o_begin, .int o_letters, .int o_sort, .long o_word, .int o_wrongAt, .int o_badAt, .int o_bad, .ref h_o_told, .ref h_o_shift, .int o_firstX, .int o_firstY, .int o_secondX, .int o_secondY, .ref h_o_rootOf, .ref h_o_becomes, .ref h_o_comes, .ref h_o_next, .int o_x])), (h_o_undone, .inl (ca 0, 536, .inl o_undone_r)), (h_o_all, .inl (ca 0, 350, .inl o_all_r))] := hD
    have hf := Option.some.inj hf
    subst hf
    rw [eG0] at hG
    have hG : _ = res := hG
    subst hG
    exact W.vret hx hb hr (fun t ht hW => ⟨⟨(), rfl, trivial, by rw [ht]; exact hP, hD⟩, hS.F ht⟩) hS.2.2 dX8_keeps_93
  have J_51 : ∀ (o_undos : Int32) (n : Nat) (v1 : Int32) (o_undone_r : Nat → Int32) (rr : Int32 × (Nat → Int32)) (hf : ds_it (fun s => fX8_keeps_51_b o_undos o_all_r s.1 s.2) n (v1, o_undone_r) = some rr) (hG : G0 rr) (H : Heap) (locs : List Loc) (hP : va_P (dC, dI) vwCl [(h_o, .inr (7, [.ref h_o_plans, .ref h_o_makers, .ref h_o_halves, .int o_raised, .ref h_o_all, .ref h_o_text, .ref h_o_saved, .ref h_o_undone, .int o_undos, .int o_reached, .int o_length, .int o_begin, .int o_letters, .int o_sort, .long o_word, .int o_wrongAt, .int o_badAt, .int o_bad, .ref h_o_told, .ref h_o_shift, .int o_firstX, .int o_firstY, .int o_secondX, .int o_secondY, .ref h_o_rootOf, .ref h_o_becomes, .ref h_o_comes, .ref h_o_next, .int o_x])), (h_o_undone, .inl (ca 0, 536, .inl o_undone_r)), (h_o_all, .inl (ca 0, 350, .inl o_all_r))] H) (hD : va_D A [(h_o, .inr (7, [.ref h_o_plans, .ref h_o_makers, .ref h_o_halves, .int o_raised, .ref h_o_all, .ref h_o_text, .ref h_o_saved, .ref h_o_undone, .int o_undos, .int o_reached, .int o_length, .int o_begin, .int o_letters, .int o_sort, .long o_word, .int o_wrongAt, .int o_badAt, .int o_bad, .ref h_o_told, .ref h_o_shift, .int o_firstX, .int o_firstY, .int o_secondX, .int o_secondY, .ref h_o_rootOf, .ref h_o_becomes, .ref h_o_comes, .ref h_o_next, .int o_x])), (h_o_undone, .inl (ca 0, 536, .inl o_undone_r)), (h_o_all, .inl (ca 0, 350, .inl o_all_r))]) (hS : va_S A s.heap H locs) (ls : Array Slot) (hl : lv_has ls 2 [(0, .ref h_o), (1, .int v1)]), WW H locs (F0 m 51 ls []) := by
    intro o_undos n
    induction n with
    | zero => intro v1 o_undone_r rr hf; exact (ds_it_zero hf).elim
    | succ n ih51 =>
      intro v1 o_undone_r rr hf hG H locs hP hD hS ls hl
      refine h2 ?_
      obtain ⟨rr, hf, hG⟩ := ds_it_succ hf hG
      replace hf : fX8_keeps_51_b o_undos o_all_r v1 o_undone_r = some rr := hf
      obtain ⟨G1, eG1⟩ : ∃ G : ((Int32 × (Nat → Int32)) ⊕ (Int32 × (Nat → Int32))) → Prop, G = ds_G (fun s' => ∃ r', ds_it (fun s => fX8_keeps_51_b o_undos o_all_r s.1 s.2) n s' = some r' ∧ G0 r') G0 := ⟨_, rfl⟩
      rw [← eG1] at hG
      unfold fX8_keeps_51_b at hf
      refine lv_iload_n hx hb dX8_keeps_51 rfl (lv_at hl 1 rfl) ?_
      refine lv_bipush (v := 67) hx hb dX8_keeps_52 (by decide) ?_
      refine lv_icmp_ge (tgt := 83) hx hb dX8_keeps_54 (by decide) (fun c_54 => ?_) (fun c_54 => ?_)
      · replace hf := ds_t c_54 hf
        obtain ⟨rr, hr_0, hf⟩ := ds_ob hf
        have hf := Option.some.inj hf
        subst hf
        rw [eG1] at hG
        replace hG : G0 rr := hG
        have hf := hr_0
        exact h1 (J_83 o_undos o_undone_r _ hf hG _ _ hP hD hS _ (lv_sub hl [0] rfl))
      · replace hf := ds_f c_54 hf
        refine lv_aload_n hx hb dX8_keeps_57 rfl (lv_at hl 0 rfl) ?_
        refine va_get (D := (dC, dI)) (ci := 7) (v := .ref h_o_undone) (C := RX8) (T := TX8) (N := 29) hx hb hts (fun w h => List.mem_cons_of_mem _ (kc_X8 w h)) hown hK hP 0 rfl rfl 7 (by decide) (hg kw_848) (fun _ h9 => h9) rfl dX8_keeps_58 ?_
        refine lv_bipush (v := 67) hx hb dX8_keeps_61 (by decide) ?_
        refine lv_aload_n hx hb dX8_keeps_63 rfl (lv_at hl 0 rfl) ?_
        refine va_get (D := (dC, dI)) (ci := 7) (v := .int o_undos) (C := RX8) (T := TX8) (N := 29) hx hb hts (fun w h => List.mem_cons_of_mem _ (kc_X8 w h)) hown hK hP 0 rfl rfl 8 (by decide) (hg kw_645) (fun _ h9 => h9) rfl dX8_keeps_64 ?_
        refine lv_imul hx hb dX8_keeps_67 ?_
        refine lv_iload_n hx hb dX8_keeps_68 rfl (lv_at hl 1 rfl) ?_
        refine lv_iadd hx hb dX8_keeps_69 ?_
        refine lv_aload_n hx hb dX8_keeps_70 rfl (lv_at hl 0 rfl) ?_
        refine va_get (D := (dC, dI)) (ci := 7) (v := .ref h_o_all) (C := RX8) (T := TX8) (N := 29) hx hb hts (fun w h => List.mem_cons_of_mem _ (kc_X8 w h)) hown hK hP 0 rfl rfl 4 (by decide) (hg kw_594) (fun _ h9 => h9) rfl dX8_keeps_71 ?_
        refine lv_iload_n hx hb dX8_keeps_74 rfl (lv_at hl 1 rfl) ?_
        obtain ⟨i_75, hf⟩ := ds_ci hf
        refine va_iald hx hb hK hP 2 0 rfl rfl i_75 dX8_keeps_75 ?_
        obtain ⟨i_76, hf⟩ := ds_ci hf
        refine va_iast hx hb hK hP hD hS 1 0 rfl rfl i_76 dX8_keeps_76 (fun H locs hP hD hS => ?_)
        have hP : va_P (dC, dI) vwCl [(h_o, .inr (7, [.ref h_o_plans, .ref h_o_makers, .ref h_o_halves, .int o_raised, .ref h_o_all, .ref h_o_text, .ref h_o_saved, .ref h_o_undone, .int o_undos, .int o_reached, .int o_length, .int o_begin, .int o_letters, .int o_sort, .long o_word, .int o_wrongAt, .int o_badAt, .int o_bad, .ref h_o_told, .ref h_o_shift, .int o_firstX, .int o_firstY, .int o_secondX, .int o_secondY, .ref h_o_rootOf, .ref h_o_becomes, .ref h_o_comes, .ref h_o_next, .int o_x])), (h_o_undone, .inl (ca 0, 536, .inl (upd o_undone_r ((((67 : Int32) * o_undos) + v1).toNatClampNeg) (o_all_r v1.toNatClampNeg)))), (h_o_all, .inl (ca 0, 350, .inl o_all_r))] H := hP
        have hD : va_D A [(h_o, .inr (7, [.ref h_o_plans, .ref h_o_makers, .ref h_o_halves, .int o_raised, .ref h_o_all, .ref h_o_text, .ref h_o_saved, .ref h_o_undone, .int o_undos, .int o_reached, .int o_length, .int o_begin, .int o_letters, .int o_sort, .long o_word, .int o_wrongAt, .int o_badAt, .int o_bad, .ref h_o_told, .ref h_o_shift, .int o_firstX, .int o_firstY, .int o_secondX, .int o_secondY, .ref h_o_rootOf, .ref h_o_becomes, .ref h_o_comes, .ref h_o_next, .int o_x])), (h_o_undone, .inl (ca 0, 536, .inl (upd o_undone_r ((((67 : Int32) * o_undos) + v1).toNatClampNeg) (o_all_r v1.toNatClampNeg)))), (h_o_all, .inl (ca 0, 350, .inl o_all_r))] := hD
        refine lv_iinc (v := (v1 + 1)) (lv' := [(1, .int (v1 + 1)), (0, .ref h_o)]) hx hb dX8_keeps_77 hl (k := 1) rfl rfl (by decide) rfl (fun ls hl => ?_)
        refine lv_goto (tgt := 51) hx hb dX8_keeps_80 (by decide) ?_
        have hf := Option.some.inj hf
        subst hf
        rw [eG1] at hG
        obtain ⟨rr, hf, hG⟩ := hG
        exact h1 (ih51 (v1 + 1) (upd o_undone_r ((((67 : Int32) * o_undos) + v1).toNatClampNeg) (o_all_r v1.toNatClampNeg)) rr hf hG _ _ hP hD hS _ (lv_sub hl [1, 0] rfl))
  have J_49 : ∀ (o_undos : Int32) (o_undone_r : Nat → Int32) (rr : Int32 × (Nat → Int32)) (hf : fX8_keeps_49 o_undos o_undone_r o_all_r = some rr) (hG : G0 rr) (H : Heap) (locs : List Loc) (hP : va_P (dC, dI) vwCl [(h_o, .inr (7, [.ref h_o_plans, .ref h_o_makers, .ref h_o_halves, .int o_raised, .ref h_o_all, .ref h_o_text, .ref h_o_saved, .ref h_o_undone, .int o_undos, .int o_reached, .int o_length, .int o_begin, .int o_letters, .int o_sort, .long o_word, .int o_wrongAt, .int o_badAt, .int o_bad, .ref h_o_told, .ref h_o_shift, .int o_firstX, .int o_firstY, .int o_secondX, .int o_secondY, .ref h_o_rootOf, .ref h_o_becomes, .ref h_o_comes, .ref h_o_next, .int o_x])), (h_o_undone, .inl (ca 0, 536, .inl o_undone_r)), (h_o_all, .inl (ca 0, 350, .inl o_all_r))] H) (hD : va_D A [(h_o, .inr (7, [.ref h_o_plans, .ref h_o_makers, .ref h_o_halves, .int o_raised, .ref h_o_all, .ref h_o_text, .ref h_o_saved, .ref h_o_undone, .int o_undos, .int o_reached, .int o_length, .int o_begin, .int o_letters, .int o_sort, .long o_word, .int o_wrongAt, .int o_badAt, .int o_bad, .ref h_o_told, .ref h_o_shift, .int o_firstX, .int o_firstY, .int o_secondX, .int o_secondY, .ref h_o_rootOf, .ref h_o_becomes, .ref h_o_comes, .ref h_o_next, .int o_x])), (h_o_undone, .inl (ca 0, 536, .inl o_undone_r)), (h_o_all, .inl (ca 0, 350, .inl o_all_r))]) (hS : va_S A s.heap H locs) (ls : Array Slot) (hl : lv_has ls 2 [(0, .ref h_o)]), WW H locs (F0 m 49 ls []) := by
    intro o_undos o_undone_r rr hf hG H locs hP hD hS ls hl
    refine h2 ?_
    unfold fX8_keeps_49 at hf
    refine lv_iconst (v := 0) hx hb dX8_keeps_49 (by decide) ?_
    refine lv_istore_n (lv' := [(1, .int (0 : Int32)), (0, .ref h_o)]) hx hb dX8_keeps_50 rfl hl (by decide) rfl (fun ls hl => ?_)
    exact h1 (J_51 o_undos 1000 (0 : Int32) o_undone_r _ hf hG _ _ hP hD hS _ (lv_sub hl [1, 0] rfl))
  have J_39 : ∀ (o_undos : Int32) (o_undone_r : Nat → Int32) (rr : Int32 × (Nat → Int32)) (hf : fX8_keeps_39 o_undos o_undone_r o_all_r = some rr) (hG : G0 rr) (H : Heap) (locs : List Loc) (hP : va_P (dC, dI) vwCl [(h_o, .inr (7, [.ref h_o_plans, .ref h_o_makers, .ref h_o_halves, .int o_raised, .ref h_o_all, .ref h_o_text, .ref h_o_saved, .ref h_o_undone, .int o_undos, .int o_reached, .int o_length, .int o_begin, .int o_letters, .int o_sort, .long o_word, .int o_wrongAt, .int o_badAt, .int o_bad, .ref h_o_told, .ref h_o_shift, .int o_firstX, .int o_firstY, .int o_secondX, .int o_secondY, .ref h_o_rootOf, .ref h_o_becomes, .ref h_o_comes, .ref h_o_next, .int o_x])), (h_o_undone, .inl (ca 0, 536, .inl o_undone_r)), (h_o_all, .inl (ca 0, 350, .inl o_all_r))] H) (hD : va_D A [(h_o, .inr (7, [.ref h_o_plans, .ref h_o_makers, .ref h_o_halves, .int o_raised, .ref h_o_all, .ref h_o_text, .ref h_o_saved, .ref h_o_undone, .int o_undos, .int o_reached, .int o_length, .int o_begin, .int o_letters, .int o_sort, .long o_word, .int o_wrongAt, .int o_badAt, .int o_bad, .ref h_o_told, .ref h_o_shift, .int o_firstX, .int o_firstY, .int o_secondX, .int o_secondY, .ref h_o_rootOf, .ref h_o_becomes, .ref h_o_comes, .ref h_o_next, .int o_x])), (h_o_undone, .inl (ca 0, 536, .inl o_undone_r)), (h_o_all, .inl (ca 0, 350, .inl o_all_r))]) (hS : va_S A s.heap H locs) (ls : Array Slot) (hl : lv_has ls 2 [(0, .ref h_o)]), WW H locs (F0 m 39 ls []) := by
    intro o_undos o_undone_r rr hf hG H locs hP hD hS ls hl
    refine h2 ?_
    unfold fX8_keeps_39 at hf
    refine lv_aload_n hx hb dX8_keeps_39 rfl (lv_at hl 0 rfl) ?_
    refine lv_dup hx hb dX8_keeps_40 rfl ?_
    refine va_get (D := (dC, dI)) (ci := 7) (v := .int o_undos) (C := RX8) (T := TX8) (N := 29) hx hb hts (fun w h => List.mem_cons_of_mem _ (kc_X8 w h)) hown hK hP 0 rfl rfl 8 (by decide) (hg kw_645) (fun _ h9 => h9) rfl dX8_keeps_41 ?_
    refine lv_iconst (v := 1) hx hb dX8_keeps_44 (by decide) ?_
    refine lv_isub hx hb dX8_keeps_45 ?_
    refine va_put (D := (dC, dI)) (ci := 7) (v := .int (o_undos - (1 : Int32))) (ty := tyX8 8) (C := RX8) (T := TX8) (N := 29) hx hb hts (fun w h => List.mem_cons_of_mem _ (kc_X8 w h)) tyX8 tyX8_ok nmX8 hown hK hP hD hS 0 rfl rfl 8 (by decide) (hg kw_645) (fun _ h9 => h9) rfl (by decide +kernel) rfl rfl (Nat.le_of_ble_eq_true rfl) dX8_keeps_46 (fun H locs hP hD hS => ?_)
    have hP : va_P (dC, dI) vwCl [(h_o, .inr (7, [.ref h_o_plans, .ref h_o_makers, .ref h_o_halves, .int o_raised, .ref h_o_all, .ref h_o_text, .ref h_o_saved, .ref h_o_undone, .int (o_undos - (1 : Int32)), .int o_reached, .int o_length, .int o_begin, .int o_letters, .int o_sort, .long o_word, .int o_wrongAt, .int o_badAt, .int o_bad, .ref h_o_told, .ref h_o_shift, .int o_firstX, .int o_firstY, .int o_secondX, .int o_secondY, .ref h_o_rootOf, .ref h_o_becomes, .ref h_o_comes, .ref h_o_next, .int o_x])), (h_o_undone, .inl (ca 0, 536, .inl o_undone_r)), (h_o_all, .inl (ca 0, 350, .inl o_all_r))] H := hP
    have hD : va_D A [(h_o, .inr (7, [.ref h_o_plans, .ref h_o_makers, .ref h_o_halves, .int o_raised, .ref h_o_all, .ref h_o_text, .ref h_o_saved, .ref h_o_undone, .int (o_undos - (1 : Int32)), .int o_reached, .int o_length, .int o_begin, .int o_letters, .int o_sort, .long o_word, .int o_wrongAt, .int o_badAt, .int o_bad, .ref h_o_told, .ref h_o_shift, .int o_firstX, .int o_firstY, .int o_secondX, .int o_secondY, .ref h_o_rootOf, .ref h_o_becomes, .ref h_o_comes, .ref h_o_next, .int o_x])), (h_o_undone, .inl (ca 0, 536, .inl o_undone_r)), (h_o_all, .inl (ca 0, 350, .inl o_all_r))] := hD
    exact h1 (J_49 (o_undos - (1 : Int32)) o_undone_r _ hf hG _ _ hP hD hS _ (lv_sub hl [0] rfl))
  have J_11 : ∀ (o_undos : Int32) (n : Nat) (v1 : Int32) (o_undone_r : Nat → Int32) (rr : Int32 × (Nat → Int32)) (hf : ds_it (fun s => fX8_keeps_11_b o_undos o_all_r s.1 s.2) n (v1, o_undone_r) = some rr) (hG : G0 rr) (H : Heap) (locs : List Loc) (hP : va_P (dC, dI) vwCl [(h_o, .inr (7, [.ref h_o_plans, .ref h_o_makers, .ref h_o_halves, .int o_raised, .ref h_o_all, .ref h_o_text, .ref h_o_saved, .ref h_o_undone, .int o_undos, .int o_reached, .int o_length, .int o_begin, .int o_letters, .int o_sort, .long o_word, .int o_wrongAt, .int o_badAt, .int o_bad, .ref h_o_told, .ref h_o_shift, .int o_firstX, .int o_firstY, .int o_secondX, .int o_secondY, .ref h_o_rootOf, .ref h_o_becomes, .ref h_o_comes, .ref h_o_next, .int o_x])), (h_o_undone, .inl (ca 0, 536, .inl o_undone_r)), (h_o_all, .inl (ca 0, 350, .inl o_all_r))] H) (hD : va_D A [(h_o, .inr (7, [.ref h_o_plans, .ref h_o_makers, .ref h_o_halves, .int o_raised, .ref h_o_all, .ref h_o_text, .ref h_o_saved, .ref h_o_undone, .int o_undos, .int o_reached, .int o_length, .int o_begin, .int o_letters, .int o_sort, .long o_word, .int o_wrongAt, .int o_badAt, .int o_bad, .ref h_o_told, .ref h_o_shift, .int o_firstX, .int o_firstY, .int o_secondX, .int o_secondY, .ref h_o_rootOf, .ref h_o_becomes, .ref h_o_comes, .ref h_o_next, .int o_x])), (h_o_undone, .inl (ca 0, 536, .inl o_undone_r)), (h_o_all, .inl (ca 0, 350, .inl o_all_r))]) (hS : va_S A s.heap H locs) (ls : Array Slot) (hl : lv_has ls 2 [(0, .ref h_o), (1, .int v1)]), WW H locs (F0 m 11 ls []) := by
    intro o_undos n
    induction n with
    | zero => intro v1 o_undone_r rr hf; exact (ds_it_zero hf).elim
    | succ n ih11 =>
      intro v1 o_undone_r rr hf hG H locs hP hD hS ls hl
      refine h2 ?_
      obtain ⟨rr, hf, hG⟩ := ds_it_succ hf hG
      replace hf : fX8_keeps_11_b o_undos o_all_r v1 o_undone_r = some rr := hf
      obtain ⟨G1, eG1⟩ : ∃ G : ((Int32 × (Nat → Int32)) ⊕ (Int32 × (Nat → Int32))) → Prop, G = ds_G (fun s' => ∃ r', ds_it (fun s => fX8_keeps_11_b o_undos o_all_r s.1 s.2) n s' = some r' ∧ G0 r') G0 := ⟨_, rfl⟩
      rw [← eG1] at hG
      unfold fX8_keeps_11_b at hf
      refine lv_iload_n hx hb dX8_keeps_11 rfl (lv_at hl 1 rfl) ?_
      refine lv_sipush (v := 469) hx hb dX8_keeps_12 (by decide) ?_
      refine lv_icmp_ge (tgt := 39) hx hb dX8_keeps_15 (by decide) (fun c_15 => ?_) (fun c_15 => ?_)
      · replace hf := ds_t c_15 hf
        obtain ⟨rr, hr_0, hf⟩ := ds_ob hf
        have hf := Option.some.inj hf
        subst hf
        rw [eG1] at hG
        replace hG : G0 rr := hG
        have hf := hr_0
        exact h1 (J_39 o_undos o_undone_r _ hf hG _ _ hP hD hS _ (lv_sub hl [0] rfl))
      · replace hf := ds_f c_15 hf
        refine lv_aload_n hx hb dX8_keeps_18 rfl (lv_at hl 0 rfl) ?_
        refine va_get (D := (dC, dI)) (ci := 7) (v := .ref h_o_undone) (C := RX8) (T := TX8) (N := 29) hx hb hts (fun w h => List.mem_cons_of_mem _ (kc_X8 w h)) hown hK hP 0 rfl rfl 7 (by decide) (hg kw_848) (fun _ h9 => h9) rfl dX8_keeps_19 ?_
        refine lv_iload_n hx hb dX8_keeps_22 rfl (lv_at hl 1 rfl) ?_
        refine lv_aload_n hx hb dX8_keeps_23 rfl (lv_at hl 0 rfl) ?_
        refine va_get (D := (dC, dI)) (ci := 7) (v := .ref h_o_undone) (C := RX8) (T := TX8) (N := 29) hx hb hts (fun w h => List.mem_cons_of_mem _ (kc_X8 w h)) hown hK hP 0 rfl rfl 7 (by decide) (hg kw_848) (fun _ h9 => h9) rfl dX8_keeps_24 ?_
        refine lv_iload_n hx hb dX8_keeps_27 rfl (lv_at hl 1 rfl) ?_
        refine lv_bipush (v := 67) hx hb dX8_keeps_28 (by decide) ?_
        refine lv_iadd hx hb dX8_keeps_30 ?_
        obtain ⟨i_31, hf⟩ := ds_ci hf
        refine va_iald hx hb hK hP 1 0 rfl rfl i_31 dX8_keeps_31 ?_
        obtain ⟨i_32, hf⟩ := ds_ci hf
        refine va_iast hx hb hK hP hD hS 1 0 rfl rfl i_32 dX8_keeps_32 (fun H locs hP hD hS => ?_)
        have hP : va_P (dC, dI) vwCl [(h_o, .inr (7, [.ref h_o_plans, .ref h_o_makers, .ref h_o_halves, .int o_raised, .ref h_o_all, .ref h_o_text, .ref h_o_saved, .ref h_o_undone, .int o_undos, .int o_reached, .int o_length, .int o_begin, .int o_letters, .int o_sort, .long o_word, .int o_wrongAt, .int o_badAt, .int o_bad, .ref h_o_told, .ref h_o_shift, .int o_firstX, .int o_firstY, .int o_secondX, .int o_secondY, .ref h_o_rootOf, .ref h_o_becomes, .ref h_o_comes, .ref h_o_next, .int o_x])), (h_o_undone, .inl (ca 0, 536, .inl (upd o_undone_r v1.toNatClampNeg (o_undone_r (v1 + (67 : Int32)).toNatClampNeg)))), (h_o_all, .inl (ca 0, 350, .inl o_all_r))] H := hP
        have hD : va_D A [(h_o, .inr (7, [.ref h_o_plans, .ref h_o_makers, .ref h_o_halves, .int o_raised, .ref h_o_all, .ref h_o_text, .ref h_o_saved, .ref h_o_undone, .int o_undos, .int o_reached, .int o_length, .int o_begin, .int o_letters, .int o_sort, .long o_word, .int o_wrongAt, .int o_badAt, .int o_bad, .ref h_o_told, .ref h_o_shift, .int o_firstX, .int o_firstY, .int o_secondX, .int o_secondY, .ref h_o_rootOf, .ref h_o_becomes, .ref h_o_comes, .ref h_o_next, .int o_x])), (h_o_undone, .inl (ca 0, 536, .inl (upd o_undone_r v1.toNatClampNeg (o_undone_r (v1 + (67 : Int32)).toNatClampNeg)))), (h_o_all, .inl (ca 0, 350, .inl o_all_r))] := hD
        refine lv_iinc (v := (v1 + 1)) (lv' := [(1, .int (v1 + 1)), (0, .ref h_o)]) hx hb dX8_keeps_33 hl (k := 1) rfl rfl (by decide) rfl (fun ls hl => ?_)
        refine lv_goto (tgt := 11) hx hb dX8_keeps_36 (by decide) ?_
        have hf := Option.some.inj hf
        subst hf
        rw [eG1] at hG
        obtain ⟨rr, hf, hG⟩ := hG
        exact h1 (ih11 (v1 + 1) (upd o_undone_r v1.toNatClampNeg (o_undone_r (v1 + (67 : Int32)).toNatClampNeg)) rr hf hG _ _ hP hD hS _ (lv_sub hl [1, 0] rfl))
  unfold fX8_keeps at hf
  refine lv_aload_n hx hb dX8_keeps_0 rfl (lv_at hl 0 rfl) ?_
  refine va_get (D := (dC, dI)) (ci := 7) (v := .int o_undos) (C := RX8) (T := TX8) (N := 29) hx hb hts (fun w h => List.mem_cons_of_mem _ (kc_X8 w h)) hown hK hP 0 rfl rfl 8 (by decide) (hg kw_645) (fun _ h9 => h9) rfl dX8_keeps_1 ?_
  refine lv_bipush (v := 8) hx hb dX8_keeps_4 (by decide) ?_
  refine lv_icmp_ne (tgt := 49) hx hb dX8_keeps_6 (by decide) (fun c_6 => ?_) (fun c_6 => ?_)
  · replace hf := ds_f c_6 hf
    exact h1 (J_49 o_undos o_undone_r _ hf hG _ _ hP hD hS _ (lv_sub hl [0] rfl))
  · replace hf := ds_t c_6 hf
    refine lv_iconst (v := 0) hx hb dX8_keeps_9 (by decide) ?_
    refine lv_istore_n (lv' := [(1, .int (0 : Int32)), (0, .ref h_o)]) hx hb dX8_keeps_10 rfl hl (by decide) rfl (fun ls hl => ?_)
    exact h1 (J_11 o_undos 1000 (0 : Int32) o_undone_r _ hf hG _ _ hP hD hS _ (lv_sub hl [1, 0] rfl))
theorem dX8_undo_0 : decode cX8_undo 0 = .ok (.aload_n 0, 1) := by decide +kernel
theorem dX8_undo_1 : decode cX8_undo 1 = .ok (.iconst 0, 1) := by decide +kernel
theorem dX8_undo_2 : decode cX8_undo 2 = .ok (.putfield 51, 3) := by decide +kernel
theorem dX8_undo_5 : decode cX8_undo 5 = .ok (.aload_n 0, 1) := by decide +kernel
theorem dX8_undo_6 : decode cX8_undo 6 = .ok (.getfield 124, 3) := by decide +kernel
theorem dX8_undo_9 : decode cX8_undo 9 = .ok (.ifCond .ne 5, 3) := by decide +kernel
theorem dX8_undo_12 : decode cX8_undo 12 = .ok (.iconst (-1), 1) := by decide +kernel
theorem dX8_undo_13 : decode cX8_undo 13 = .ok (.ireturn, 1) := by decide +kernel
theorem dX8_undo_14 : decode cX8_undo 14 = .ok (.aload_n 0, 1) := by decide +kernel
theorem dX8_undo_15 : decode cX8_undo 15 = .ok (.dup, 1) := by decide +kernel
theorem dX8_undo_16 : decode cX8_undo 16 = .ok (.getfield 124, 3) := by decide +kernel
theorem dX8_undo_19 : decode cX8_undo 19 = .ok (.iconst 1, 1) := by decide +kernel
theorem dX8_undo_20 : decode cX8_undo 20 = .ok (.isub, 1) := by decide +kernel
theorem dX8_undo_21 : decode cX8_undo 21 = .ok (.putfield 124, 3) := by decide +kernel
theorem dX8_undo_24 : decode cX8_undo 24 = .ok (.iconst 0, 1) := by decide +kernel
theorem dX8_undo_25 : decode cX8_undo 25 = .ok (.istore_n 1, 1) := by decide +kernel
theorem dX8_undo_26 : decode cX8_undo 26 = .ok (.iload_n 1, 1) := by decide +kernel
theorem dX8_undo_27 : decode cX8_undo 27 = .ok (.bipush 67, 2) := by decide +kernel
theorem dX8_undo_29 : decode cX8_undo 29 = .ok (.if_icmp .ge 29, 3) := by decide +kernel
theorem dX8_undo_32 : decode cX8_undo 32 = .ok (.aload_n 0, 1) := by decide +kernel
theorem dX8_undo_33 : decode cX8_undo 33 = .ok (.getfield 19, 3) := by decide +kernel
theorem dX8_undo_36 : decode cX8_undo 36 = .ok (.iload_n 1, 1) := by decide +kernel
theorem dX8_undo_37 : decode cX8_undo 37 = .ok (.aload_n 0, 1) := by decide +kernel
theorem dX8_undo_38 : decode cX8_undo 38 = .ok (.getfield 30, 3) := by decide +kernel
theorem dX8_undo_41 : decode cX8_undo 41 = .ok (.bipush 67, 2) := by decide +kernel
theorem dX8_undo_43 : decode cX8_undo 43 = .ok (.aload_n 0, 1) := by decide +kernel
theorem dX8_undo_44 : decode cX8_undo 44 = .ok (.getfield 124, 3) := by decide +kernel
theorem dX8_undo_47 : decode cX8_undo 47 = .ok (.imul, 1) := by decide +kernel
theorem dX8_undo_48 : decode cX8_undo 48 = .ok (.iload_n 1, 1) := by decide +kernel
theorem dX8_undo_49 : decode cX8_undo 49 = .ok (.iadd, 1) := by decide +kernel
theorem dX8_undo_50 : decode cX8_undo 50 = .ok (.iaload, 1) := by decide +kernel
theorem dX8_undo_51 : decode cX8_undo 51 = .ok (.iastore, 1) := by decide +kernel
theorem dX8_undo_52 : decode cX8_undo 52 = .ok (.iinc 1 1, 3) := by decide +kernel
theorem dX8_undo_55 : decode cX8_undo 55 = .ok (.goto (-29), 3) := by decide +kernel
theorem dX8_undo_58 : decode cX8_undo 58 = .ok (.aload_n 0, 1) := by decide +kernel
theorem dX8_undo_59 : decode cX8_undo 59 = .ok (.getfield 124, 3) := by decide +kernel
theorem dX8_undo_62 : decode cX8_undo 62 = .ok (.ireturn, 1) := by decide +kernel
def fX8_undo_58 (o_raised : Int32) (o_undos : Int32) (o_all_r : Nat → Int32) : Option (Int32 × Int32 × Int32 × (Nat → Int32)) :=
  some (o_undos, o_raised, o_undos, o_all_r)
def fX8_undo_26_b (o_raised : Int32) (o_undos : Int32) (o_undone_r : Nat → Int32) (v1 : Int32) (o_all_r : Nat → Int32) : Option ((Int32 × (Nat → Int32)) ⊕ (Int32 × Int32 × Int32 × (Nat → Int32))) :=
  if (67 : Int32) ≤ v1 then Option.bind (fX8_undo_58 o_raised o_undos o_all_r) fun z => some (.inr z) else if ds_in (((67 : Int32) * o_undos) + v1) 536 = true then if ds_in v1 350 = true then some (.inl ((v1 + 1), (upd o_all_r v1.toNatClampNeg (o_undone_r (((67 : Int32) * o_undos) + v1).toNatClampNeg)))) else none else none
def fX8_undo_26 (o_raised : Int32) (o_undos : Int32) (o_undone_r : Nat → Int32) (v1 : Int32) (o_all_r : Nat → Int32) : Option (Int32 × Int32 × Int32 × (Nat → Int32)) := ds_it (fun s => fX8_undo_26_b o_raised o_undos o_undone_r s.1 s.2) 1000 (v1, o_all_r)
def fX8_undo (o_undos : Int32) (o_undone_r : Nat → Int32) (o_all_r : Nat → Int32) : Option (Int32 × Int32 × Int32 × (Nat → Int32)) :=
  if o_undos = 0 then some ((-1 : Int32), (0 : Int32), o_undos, o_all_r) else fX8_undo_26 (0 : Int32) (o_undos - (1 : Int32)) o_undone_r (0 : Int32) o_all_r
set_option maxHeartbeats 4000000 in
set_option maxRecDepth 100000 in
theorem c_X8_undo (l : Launch) (dC : Nat → ClassId) (dI : Nat → Nat → Nat) (ca : Nat → ClassId) (sa : Nat → Nat) (h_o : Nat) (h_o_plans : Nat) (h_o_makers : Nat) (h_o_halves : Nat) (h_o_all : Nat) (h_o_text : Nat) (h_o_saved : Nat) (h_o_undone : Nat) (h_o_told : Nat) (h_o_shift : Nat) (h_o_rootOf : Nat) (h_o_becomes : Nat) (h_o_comes : Nat) (h_o_next : Nat) (sz : Nat) (o_raised : Int32) (o_undos : Int32) (o_reached : Int32) (o_length : Int32) (o_begin : Int32) (o_letters : Int32) (o_sort : Int32) (o_word : Int64) (o_wrongAt : Int32) (o_badAt : Int32) (o_bad : Int32) (o_firstX : Int32) (o_firstY : Int32) (o_secondX : Int32) (o_secondY : Int32) (o_x : Int32) (o_undone_r : Nat → Int32) (o_all_r : Nat → Int32) (res : Int32 × Int32 × Int32 × (Nat → Int32)) (hf : fX8_undo o_undos o_undone_r o_all_r = some res) : Met l yX8_undo (Cond.code yX8_undo cX8_undo 2 (some .int) :: ds_gw) { frames := 0, cells := 0, slots := 0, locals := 0 } (va_Pc [.ref h_o] (ds_Pre dC dI ca sa [(h_o, .inr (7, [.ref h_o_plans, .ref h_o_makers, .ref h_o_halves, .int o_raised, .ref h_o_all, .ref h_o_text, .ref h_o_saved, .ref h_o_undone, .int o_undos, .int o_reached, .int o_length, .int o_begin, .int o_letters, .int o_sort, .long o_word, .int o_wrongAt, .int o_badAt, .int o_bad, .ref h_o_told, .ref h_o_shift, .int o_firstX, .int o_firstY, .int o_secondX, .int o_secondY, .ref h_o_rootOf, .ref h_o_becomes, .ref h_o_comes, .ref h_o_next, .int o_x])), (h_o_undone, .inl (ca 0, 536, .inl o_undone_r)), (h_o_all, .inl (ca 0, 350, .inl o_all_r))] sz)) (va_Qi (fun r (_ : Unit) => r = res.1) (ds_B dC dI (va_A [(h_o, .inr (7, [.ref h_o_plans, .ref h_o_makers, .ref h_o_halves, .int o_raised, .ref h_o_all, .ref h_o_text, .ref h_o_saved, .ref h_o_undone, .int o_undos, .int o_reached, .int o_length, .int o_begin, .int o_letters, .int o_sort, .long o_word, .int o_wrongAt, .int o_badAt, .int o_bad, .ref h_o_told, .ref h_o_shift, .int o_firstX, .int o_firstY, .int o_secondX, .int o_secondY, .ref h_o_rootOf, .ref h_o_becomes, .ref h_o_comes, .ref h_o_next, .int o_x])), (h_o_undone, .inl (ca 0, 536, .inl o_undone_r)), (h_o_all, .inl (ca 0, 350, .inl o_all_r))] sz) [(h_o, .inr (7, [.ref h_o_plans, .ref h_o_makers, .ref h_o_halves, .int res.2.1, .ref h_o_all, .ref h_o_text, .ref h_o_saved, .ref h_o_undone, .int res.2.2.1, .int o_reached, .int o_length, .int o_begin, .int o_letters, .int o_sort, .long o_word, .int o_wrongAt, .int o_badAt, .int o_bad, .ref h_o_told, .ref h_o_shift, .int o_firstX, .int o_firstY, .int o_secondX, .int o_secondY, .ref h_o_rootOf, .ref h_o_becomes, .ref h_o_comes, .ref h_o_next, .int o_x])), (h_o_undone, .inl (ca 0, 536, .inl o_undone_r)), (h_o_all, .inl (ca 0, 350, .inl res.2.2.2))]) (va_A [(h_o, .inr (7, [.ref h_o_plans, .ref h_o_makers, .ref h_o_halves, .int o_raised, .ref h_o_all, .ref h_o_text, .ref h_o_saved, .ref h_o_undone, .int o_undos, .int o_reached, .int o_length, .int o_begin, .int o_letters, .int o_sort, .long o_word, .int o_wrongAt, .int o_badAt, .int o_bad, .ref h_o_told, .ref h_o_shift, .int o_firstX, .int o_firstY, .int o_secondX, .int o_secondY, .ref h_o_rootOf, .ref h_o_becomes, .ref h_o_comes, .ref h_o_next, .int o_x])), (h_o_undone, .inl (ca 0, 536, .inl o_undone_r)), (h_o_all, .inl (ca 0, 350, .inl o_all_r))] sz)) 0 0 (va_A [(h_o, .inr (7, [.ref h_o_plans, .ref h_o_makers, .ref h_o_halves, .int o_raised, .ref h_o_all, .ref h_o_text, .ref h_o_saved, .ref h_o_undone, .int o_undos, .int o_reached, .int o_length, .int o_begin, .int o_letters, .int o_sort, .long o_word, .int o_wrongAt, .int o_badAt, .int o_bad, .ref h_o_told, .ref h_o_shift, .int o_firstX, .int o_firstY, .int o_secondX, .int o_secondY, .ref h_o_rootOf, .ref h_o_becomes, .ref h_o_comes, .ref h_o_next, .int o_x])), (h_o_undone, .inl (ca 0, 536, .inl o_undone_r)), (h_o_all, .inl (ca 0, 350, .inl o_all_r))] sz) := by
  refine Met.ofW (cc := cX8_undo) (maxL := 2) (ret := (some .int)) (by decide) rfl ?_
  intro p e s m args below meth c s₁ B hml hv
  obtain ⟨rfl, hsz, hP, hK, hD0, hE⟩ := hv
  have hx := B.exec
  have hb := B.bytes
  have hr := B.returns
  have hts := atoms_spec (ws := Cond.code yX8_undo cX8_undo 2 (some .int) :: ds_gw) B.pre
  have hg : ∀ {w : Cond}, w ∈ ds_gw → w.before _ s = true := fun h => hts _ (List.mem_cons_of_mem _ h)
  have hown : s.vm.findClass RX8 = some m.cls := findClass_of_methodNamed B.named
  have hlocks := B.notSynchronized
  subst hsz
  have hD := hD0.self (sz := s.heap.size)
  generalize hAe : va_A [(h_o, .inr (7, [.ref h_o_plans, .ref h_o_makers, .ref h_o_halves, .int o_raised, .ref h_o_all, .ref h_o_text, .ref h_o_saved, .ref h_o_undone, .int o_undos, .int o_reached, .int o_length, .int o_begin, .int o_letters, .int o_sort, .long o_word, .int o_wrongAt, .int o_badAt, .int o_bad, .ref h_o_told, .ref h_o_shift, .int o_firstX, .int o_firstY, .int o_secondX, .int o_secondY, .ref h_o_rootOf, .ref h_o_becomes, .ref h_o_comes, .ref h_o_next, .int o_x])), (h_o_undone, .inl (ca 0, 536, .inl o_undone_r)), (h_o_all, .inl (ca 0, 350, .inl o_all_r))] s.heap.size = A at hD hE ⊢
  have hA : ∀ q : Nat, s.heap.size ≤ q → A q := fun q h => by rw [← hAe]; exact Or.inr h
  have hS : va_S A s.heap s.heap [] := va_S.rf
  have hl := lv_entry ([.ref h_o]) (n := 2) (Nat.le_of_ble_eq_true rfl)
  rw [lg_entry_eq]
  generalize (lg_sl ([.ref h_o]) ++ List.replicate (2 - (lg_sl ([.ref h_o])).length) Slot.unset).toArray = ls at hl ⊢
  have hl : lv_has ls 2 [(0, .ref h_o)] := hl
  obtain ⟨G0, eG0⟩ : ∃ G : (Int32 × Int32 × Int32 × (Nat → Int32)) → Prop, G = (fun r => r = res) := ⟨_, rfl⟩
  obtain ⟨rr, hrr⟩ : ∃ z, z = res := ⟨_, rfl⟩
  rw [← hrr] at hf
  have hG : G0 rr := by subst eG0; exact hrr
  refine ds_cap (fun WW h1 h2 => ?_)
  have J_58 : ∀ (o_raised : Int32) (o_undos : Int32) (o_all_r : Nat → Int32) (rr : Int32 × Int32 × Int32 × (Nat → Int32)) (hf : fX8_undo_58 o_raised o_undos o_all_r = some rr) (hG : G0 rr) (H : Heap) (locs : List Loc) (hP : va_P (dC, dI) vwCl [(h_o, .inr (7, [.ref h_o_plans, .ref h_o_makers, .ref h_o_halves, .int o_raised, .ref h_o_all, .ref h_o_text, .ref h_o_saved, .ref h_o_undone, .int o_undos, .int o_reached, .int o_length, .int o_begin, .int o_letters, .int o_sort, .long o_word, .int o_wrongAt, .int o_badAt, .int o_bad, .ref h_o_told, .ref h_o_shift, .int o_firstX, .int o_firstY, .int o_secondX, .int o_secondY, .ref h_o_rootOf, .ref h_o_becomes, .ref h_o_comes, .ref h_o_next, .int o_x])), (h_o_undone, .inl (ca 0, 536, .inl o_undone_r)), (h_o_all, .inl (ca 0, 350, .inl o_all_r))] H) (hD : va_D A [(h_o, .inr (7, [.ref h_o_plans, .ref h_o_makers, .ref h_o_halves, .int o_raised, .ref h_o_all, .ref h_o_text, .ref h_o_saved, .ref h_o_undone, .int o_undos, .int o_reached, .int o_length, .int o_begin, .int o_letters, .int o_sort, .long o_word, .int o_wrongAt, .int o_badAt, .int o_bad, .ref h_o_told, .ref h_o_shift, .int o_firstX, .int o_firstY, .int o_secondX, .int o_secondY, .ref h_o_rootOf, .ref h_o_becomes, .ref h_o_comes, .ref h_o_next, .int o_x])), (h_o_undone, .inl (ca 0, 536, .inl o_undone_r)), (h_o_all, .inl (ca 0, 350, .inl o_all_r))]) (hS : va_S A s.heap H locs) (ls : Array Slot) (hl : lv_has ls 2 [(0, .ref h_o)]), WW H locs (F0 m 58 ls []) := by
    intro o_raised o_undos o_all_r rr hf hG H locs hP hD hS ls hl
    refine h2 ?_
    unfold fX8_undo_58 at hf
    refine lv_aload_n hx hb dX8_undo_58 rfl (lv_at hl 0 rfl) ?_
    refine va_get (D := (dC, dI)) (ci := 7) (v := .int o_undos) (C := RX8) (T := TX8) (N := 29) hx hb hts (fun w h => List.mem_cons_of_mem _ (kc_X8 w h)) hown hK hP 0 rfl rfl 8 (by decide) (hg kw_645) (fun _ h9 => h9) rfl dX8_undo_59 ?_
    have hf := Option.some.inj hf
    subst hf
    rw [eG0] at hG
    have hG : _ = res := hG
    subst hG
    exact W.iret (v := o_undos) hx hb hr (fun t ht hW => ⟨⟨o_undos, (), rfl, rfl, by rw [ht]; exact hP, hD⟩, hS.F ht⟩) hS.2.2 dX8_undo_62
  have J_26 : ∀ (o_raised : Int32) (o_undos : Int32) (n : Nat) (v1 : Int32) (o_all_r : Nat → Int32) (rr : Int32 × Int32 × Int32 × (Nat → Int32)) (hf : ds_it (fun s => fX8_undo_26_b o_raised o_undos o_undone_r s.1 s.2) n (v1, o_all_r) = some rr) (hG : G0 rr) (H : Heap) (locs : List Loc) (hP : va_P (dC, dI) vwCl [(h_o, .inr (7, [.ref h_o_plans, .ref h_o_makers, .ref h_o_halves, .int o_raised, .ref h_o_all, .ref h_o_text, .ref h_o_saved, .ref h_o_undone, .int o_undos, .int o_reached, .int o_length, .int o_begin, .int o_letters, .int o_sort, .long o_word, .int o_wrongAt, .int o_badAt, .int o_bad, .ref h_o_told, .ref h_o_shift, .int o_firstX, .int o_firstY, .int o_secondX, .int o_secondY, .ref h_o_rootOf, .ref h_o_becomes, .ref h_o_comes, .ref h_o_next, .int o_x])), (h_o_undone, .inl (ca 0, 536, .inl o_undone_r)), (h_o_all, .inl (ca 0, 350, .inl o_all_r))] H) (hD : va_D A [(h_o, .inr (7, [.ref h_o_plans, .ref h_o_makers, .ref h_o_halves, .int o_raised, .ref h_o_all, .ref h_o_text, .ref h_o_saved, .ref h_o_undone, .int o_undos, .int o_reached, .int o_length, .int o_begin, .int o_letters, .int o_sort, .long o_word, .int o_wrongAt, .int o_badAt, .int o_bad, .ref h_o_told, .ref h_o_shift, .int o_firstX, .int o_firstY, .int o_secondX, .int o_secondY, .ref h_o_rootOf, .ref h_o_becomes, .ref h_o_comes, .ref h_o_next, .int o_x])), (h_o_undone, .inl (ca 0, 536, .inl o_undone_r)), (h_o_all, .inl (ca 0, 350, .inl o_all_r))]) (hS : va_S A s.heap H locs) (ls : Array Slot) (hl : lv_has ls 2 [(0, .ref h_o), (1, .int v1)]), WW H locs (F0 m 26 ls []) := by
    intro o_raised o_undos n
    induction n with
    | zero => intro v1 o_all_r rr hf; exact (ds_it_zero hf).elim
    | succ n ih26 =>
      intro v1 o_all_r rr hf hG H locs hP hD hS ls hl
      refine h2 ?_
      obtain ⟨rr, hf, hG⟩ := ds_it_succ hf hG
      replace hf : fX8_undo_26_b o_raised o_undos o_undone_r v1 o_all_r = some rr := hf
      obtain ⟨G1, eG1⟩ : ∃ G : ((Int32 × (Nat → Int32)) ⊕ (Int32 × Int32 × Int32 × (Nat → Int32))) → Prop, G = ds_G (fun s' => ∃ r', ds_it (fun s => fX8_undo_26_b o_raised o_undos o_undone_r s.1 s.2) n s' = some r' ∧ G0 r') G0 := ⟨_, rfl⟩
      rw [← eG1] at hG
      unfold fX8_undo_26_b at hf
      refine lv_iload_n hx hb dX8_undo_26 rfl (lv_at hl 1 rfl) ?_
      refine lv_bipush (v := 67) hx hb dX8_undo_27 (by decide) ?_
      refine lv_icmp_ge (tgt := 58) hx hb dX8_undo_29 (by decide) (fun c_29 => ?_) (fun c_29 => ?_)
      · replace hf := ds_t c_29 hf
        obtain ⟨rr, hr_0, hf⟩ := ds_ob hf
        have hf := Option.some.inj hf
        subst hf
        rw [eG1] at hG
        replace hG : G0 rr := hG
        have hf := hr_0
        exact h1 (J_58 o_raised o_undos o_all_r _ hf hG _ _ hP hD hS _ (lv_sub hl [0] rfl))
      · replace hf := ds_f c_29 hf
        refine lv_aload_n hx hb dX8_undo_32 rfl (lv_at hl 0 rfl) ?_
        refine va_get (D := (dC, dI)) (ci := 7) (v := .ref h_o_all) (C := RX8) (T := TX8) (N := 29) hx hb hts (fun w h => List.mem_cons_of_mem _ (kc_X8 w h)) hown hK hP 0 rfl rfl 4 (by decide) (hg kw_594) (fun _ h9 => h9) rfl dX8_undo_33 ?_
        refine lv_iload_n hx hb dX8_undo_36 rfl (lv_at hl 1 rfl) ?_
        refine lv_aload_n hx hb dX8_undo_37 rfl (lv_at hl 0 rfl) ?_
        refine va_get (D := (dC, dI)) (ci := 7) (v := .ref h_o_undone) (C := RX8) (T := TX8) (N := 29) hx hb hts (fun w h => List.mem_cons_of_mem _ (kc_X8 w h)) hown hK hP 0 rfl rfl 7 (by decide) (hg kw_848) (fun _ h9 => h9) rfl dX8_undo_38 ?_
        refine lv_bipush (v := 67) hx hb dX8_undo_41 (by decide) ?_
        refine lv_aload_n hx hb dX8_undo_43 rfl (lv_at hl 0 rfl) ?_
        refine va_get (D := (dC, dI)) (ci := 7) (v := .int o_undos) (C := RX8) (T := TX8) (N := 29) hx hb hts (fun w h => List.mem_cons_of_mem _ (kc_X8 w h)) hown hK hP 0 rfl rfl 8 (by decide) (hg kw_645) (fun _ h9 => h9) rfl dX8_undo_44 ?_
        refine lv_imul hx hb dX8_undo_47 ?_
        refine lv_iload_n hx hb dX8_undo_48 rfl (lv_at hl 1 rfl) ?_
        refine lv_iadd hx hb dX8_undo_49 ?_
        obtain ⟨i_50, hf⟩ := ds_ci hf
        refine va_iald hx hb hK hP 1 0 rfl rfl i_50 dX8_undo_50 ?_
        obtain ⟨i_51, hf⟩ := ds_ci hf
        refine va_iast hx hb hK hP hD hS 2 0 rfl rfl i_51 dX8_undo_51 (fun H locs hP hD hS => ?_)
        have hP : va_P (dC, dI) vwCl [(h_o, .inr (7, [.ref h_o_plans, .ref h_o_makers, .ref h_o_halves, .int o_raised, .ref h_o_all, .ref h_o_text, .ref h_o_saved, .ref h_o_undone, .int o_undos, .int o_reached, .int o_length, .int o_begin, .int o_letters, .int o_sort, .long o_word, .int o_wrongAt, .int o_badAt, .int o_bad, .ref h_o_told, .ref h_o_shift, .int o_firstX, .int o_firstY, .int o_secondX, .int o_secondY, .ref h_o_rootOf, .ref h_o_becomes, .ref h_o_comes, .ref h_o_next, .int o_x])), (h_o_undone, .inl (ca 0, 536, .inl o_undone_r)), (h_o_all, .inl (ca 0, 350, .inl (upd o_all_r v1.toNatClampNeg (o_undone_r (((67 : Int32) * o_undos) + v1).toNatClampNeg))))] H := hP
        have hD : va_D A [(h_o, .inr (7, [.ref h_o_plans, .ref h_o_makers, .ref h_o_halves, .int o_raised, .ref h_o_all, .ref h_o_text, .ref h_o_saved, .ref h_o_undone, .int o_undos, .int o_reached, .int o_length, .int o_begin, .int o_letters, .int o_sort, .long o_word, .int o_wrongAt, .int o_badAt, .int o_bad, .ref h_o_told, .ref h_o_shift, .int o_firstX, .int o_firstY, .int o_secondX, .int o_secondY, .ref h_o_rootOf, .ref h_o_becomes, .ref h_o_comes, .ref h_o_next, .int o_x])), (h_o_undone, .inl (ca 0, 536, .inl o_undone_r)), (h_o_all, .inl (ca 0, 350, .inl (upd o_all_r v1.toNatClampNeg (o_undone_r (((67 : Int32) * o_undos) + v1).toNatClampNeg))))] := hD
        refine lv_iinc (v := (v1 + 1)) (lv' := [(1, .int (v1 + 1)), (0, .ref h_o)]) hx hb dX8_undo_52 hl (k := 1) rfl rfl (by decide) rfl (fun ls hl => ?_)
        refine lv_goto (tgt := 26) hx hb dX8_undo_55 (by decide) ?_
        have hf := Option.some.inj hf
        subst hf
        rw [eG1] at hG
        obtain ⟨rr, hf, hG⟩ := hG
        exact h1 (ih26 (v1 + 1) (upd o_all_r v1.toNatClampNeg (o_undone_r (((67 : Int32) * o_undos) + v1).toNatClampNeg)) rr hf hG _ _ hP hD hS _ (lv_sub hl [1, 0] rfl))
  unfold fX8_undo at hf
  refine lv_aload_n hx hb dX8_undo_0 rfl (lv_at hl 0 rfl) ?_
  refine lv_iconst (v := 0) hx hb dX8_undo_1 (by decide) ?_
  refine va_put (D := (dC, dI)) (ci := 7) (v := .int (0 : Int32)) (ty := tyX8 3) (C := RX8) (T := TX8) (N := 29) hx hb hts (fun w h => List.mem_cons_of_mem _ (kc_X8 w h)) tyX8 tyX8_ok nmX8 hown hK hP hD hS 0 rfl rfl 3 (by decide) (hg kw_564) (fun _ h9 => h9) rfl (by decide +kernel) rfl rfl (Nat.le_of_ble_eq_true rfl) dX8_undo_2 (fun H locs hP hD hS => ?_)
  have hP : va_P (dC, dI) vwCl [(h_o, .inr (7, [.ref h_o_plans, .ref h_o_makers, .ref h_o_halves, .int (0 : Int32), .ref h_o_all, .ref h_o_text, .ref h_o_saved, .ref h_o_undone, .int o_undos, .int o_reached, .int o_length, .int o_begin, .int o_letters, .int o_sort, .long o_word, .int o_wrongAt, .int o_badAt, .int o_bad, .ref h_o_told, .ref h_o_shift, .int o_firstX, .int o_firstY, .int o_secondX, .int o_secondY, .ref h_o_rootOf, .ref h_o_becomes, .ref h_o_comes, .ref h_o_next, .int o_x])), (h_o_undone, .inl (ca 0, 536, .inl o_undone_r)), (h_o_all, .inl (ca 0, 350, .inl o_all_r))] H := hP
  have hD : va_D A [(h_o, .inr (7, [.ref h_o_plans, .ref h_o_makers, .ref h_o_halves, .int (0 : Int32), .ref h_o_all, .ref h_o_text, .ref h_o_saved, .ref h_o_undone, .int o_undos, .int o_reached, .int o_length, .int o_begin, .int o_letters, .int o_sort, .long o_word, .int o_wrongAt, .int o_badAt, .int o_bad, .ref h_o_told, .ref h_o_shift, .int o_firstX, .int o_firstY, .int o_secondX, .int o_secondY, .ref h_o_rootOf, .ref h_o_becomes, .ref h_o_comes, .ref h_o_next, .int o_x])), (h_o_undone, .inl (ca 0, 536, .inl o_undone_r)), (h_o_all, .inl (ca 0, 350, .inl o_all_r))] := hD
  refine lv_aload_n hx hb dX8_undo_5 rfl (lv_at hl 0 rfl) ?_
  refine va_get (D := (dC, dI)) (ci := 7) (v := .int o_undos) (C := RX8) (T := TX8) (N := 29) hx hb hts (fun w h => List.mem_cons_of_mem _ (kc_X8 w h)) hown hK hP 0 rfl rfl 8 (by decide) (hg kw_645) (fun _ h9 => h9) rfl dX8_undo_6 ?_
  refine lv_if_ne (tgt := 14) hx hb dX8_undo_9 (by decide) (fun c_9 => ?_) (fun c_9 => ?_)
  · replace hf := ds_f c_9 hf
    refine lv_aload_n hx hb dX8_undo_14 rfl (lv_at hl 0 rfl) ?_
    refine lv_dup hx hb dX8_undo_15 rfl ?_
    refine va_get (D := (dC, dI)) (ci := 7) (v := .int o_undos) (C := RX8) (T := TX8) (N := 29) hx hb hts (fun w h => List.mem_cons_of_mem _ (kc_X8 w h)) hown hK hP 0 rfl rfl 8 (by decide) (hg kw_645) (fun _ h9 => h9) rfl dX8_undo_16 ?_
    refine lv_iconst (v := 1) hx hb dX8_undo_19 (by decide) ?_
    refine lv_isub hx hb dX8_undo_20 ?_
    refine va_put (D := (dC, dI)) (ci := 7) (v := .int (o_undos - (1 : Int32))) (ty := tyX8 8) (C := RX8) (T := TX8) (N := 29) hx hb hts (fun w h => List.mem_cons_of_mem _ (kc_X8 w h)) tyX8 tyX8_ok nmX8 hown hK hP hD hS 0 rfl rfl 8 (by decide) (hg kw_645) (fun _ h9 => h9) rfl (by decide +kernel) rfl rfl (Nat.le_of_ble_eq_true rfl) dX8_undo_21 (fun H locs hP hD hS => ?_)
    have hP : va_P (dC, dI) vwCl [(h_o, .inr (7, [.ref h_o_plans, .ref h_o_makers, .ref h_o_halves, .int (0 : Int32), .ref h_o_all, .ref h_o_text, .ref h_o_saved, .ref h_o_undone, .int (o_undos - (1 : Int32)), .int o_reached, .int o_length, .int o_begin, .int o_letters, .int o_sort, .long o_word, .int o_wrongAt, .int o_badAt, .int o_bad, .ref h_o_told, .ref h_o_shift, .int o_firstX, .int o_firstY, .int o_secondX, .int o_secondY, .ref h_o_rootOf, .ref h_o_becomes, .ref h_o_comes, .ref h_o_next, .int o_x])), (h_o_undone, .inl (ca 0, 536, .inl o_undone_r)), (h_o_all, .inl (ca 0, 350, .inl o_all_r))] H := hP
    have hD : va_D A [(h_o, .inr (7, [.ref h_o_plans, .ref h_o_makers, .ref h_o_halves, .int (0 : Int32), .ref h_o_all, .ref h_o_text, .ref h_o_saved, .ref h_o_undone, .int (o_undos - (1 : Int32)), .int o_reached, .int o_length, .int o_begin, .int o_letters, .int o_sort, .long o_word, .int o_wrongAt, .int o_badAt, .int o_bad, .ref h_o_told, .ref h_o_shift, .int o_firstX, .int o_firstY, .int o_secondX, .int o_secondY, .ref h_o_rootOf, .ref h_o_becomes, .ref h_o_comes, .ref h_o_next, .int o_x])), (h_o_undone, .inl (ca 0, 536, .inl o_undone_r)), (h_o_all, .inl (ca 0, 350, .inl o_all_r))] := hD
    refine lv_iconst (v := 0) hx hb dX8_undo_24 (by decide) ?_
    refine lv_istore_n (lv' := [(1, .int (0 : Int32)), (0, .ref h_o)]) hx hb dX8_undo_25 rfl hl (by decide) rfl (fun ls hl => ?_)
    exact h1 (J_26 (0 : Int32) (o_undos - (1 : Int32)) 1000 (0 : Int32) o_all_r _ hf hG _ _ hP hD hS _ (lv_sub hl [1, 0] rfl))
  · replace hf := ds_t c_9 hf
    refine lv_iconst (v := -1) hx hb dX8_undo_12 (by decide) ?_
    have hf := Option.some.inj hf
    subst hf
    rw [eG0] at hG
    have hG : _ = res := hG
    subst hG
    exact W.iret (v := (-1 : Int32)) hx hb hr (fun t ht hW => ⟨⟨(-1 : Int32), (), rfl, rfl, by rw [ht]; exact hP, hD⟩, hS.F ht⟩) hS.2.2 dX8_undo_13
theorem dX8_paint_0 : decode cX8_paint 0 = .ok (.aload_n 0, 1) := by decide +kernel
theorem dX8_paint_1 : decode cX8_paint 1 = .ok (.iconst 0, 1) := by decide +kernel
theorem dX8_paint_2 : decode cX8_paint 2 = .ok (.putfield 51, 3) := by decide +kernel
theorem dX8_paint_5 : decode cX8_paint 5 = .ok (.aload_n 0, 1) := by decide +kernel
theorem dX8_paint_6 : decode cX8_paint 6 = .ok (.iload_n 1, 1) := by decide +kernel
theorem dX8_paint_7 : decode cX8_paint 7 = .ok (.iload_n 2, 1) := by decide +kernel
theorem dX8_paint_8 : decode cX8_paint 8 = .ok (.invokevirtual 284, 3) := by decide +kernel
theorem dX8_paint_11 : decode cX8_paint 11 = .ok (.ifCond .eq 22, 3) := by decide +kernel
theorem dX8_paint_14 : decode cX8_paint 14 = .ok (.iload_n 3, 1) := by decide +kernel
theorem dX8_paint_15 : decode cX8_paint 15 = .ok (.iconst 0, 1) := by decide +kernel
theorem dX8_paint_16 : decode cX8_paint 16 = .ok (.iconst 3, 1) := by decide +kernel
theorem dX8_paint_17 : decode cX8_paint 17 = .ok (.invokestatic 90, 3) := by decide +kernel
theorem dX8_paint_20 : decode cX8_paint 20 = .ok (.ifCond .eq 13, 3) := by decide +kernel
theorem dX8_paint_23 : decode cX8_paint 23 = .ok (.aload_n 0, 1) := by decide +kernel
theorem dX8_paint_24 : decode cX8_paint 24 = .ok (.iload_n 1, 1) := by decide +kernel
theorem dX8_paint_25 : decode cX8_paint 25 = .ok (.iload_n 2, 1) := by decide +kernel
theorem dX8_paint_26 : decode cX8_paint 26 = .ok (.invokevirtual 127, 3) := by decide +kernel
theorem dX8_paint_29 : decode cX8_paint 29 = .ok (.iload_n 3, 1) := by decide +kernel
theorem dX8_paint_30 : decode cX8_paint 30 = .ok (.if_icmp .ne 5, 3) := by decide +kernel
theorem dX8_paint_33 : decode cX8_paint 33 = .ok (.iconst 0, 1) := by decide +kernel
theorem dX8_paint_34 : decode cX8_paint 34 = .ok (.ireturn, 1) := by decide +kernel
theorem dX8_paint_35 : decode cX8_paint 35 = .ok (.aload_n 0, 1) := by decide +kernel
theorem dX8_paint_36 : decode cX8_paint 36 = .ok (.invokevirtual 287, 3) := by decide +kernel
theorem dX8_paint_39 : decode cX8_paint 39 = .ok (.aload_n 0, 1) := by decide +kernel
theorem dX8_paint_40 : decode cX8_paint 40 = .ok (.getfield 19, 3) := by decide +kernel
theorem dX8_paint_43 : decode cX8_paint 43 = .ok (.iconst 3, 1) := by decide +kernel
theorem dX8_paint_44 : decode cX8_paint 44 = .ok (.bipush 8, 2) := by decide +kernel
theorem dX8_paint_46 : decode cX8_paint 46 = .ok (.iload_n 2, 1) := by decide +kernel
theorem dX8_paint_47 : decode cX8_paint 47 = .ok (.imul, 1) := by decide +kernel
theorem dX8_paint_48 : decode cX8_paint 48 = .ok (.iadd, 1) := by decide +kernel
theorem dX8_paint_49 : decode cX8_paint 49 = .ok (.iload_n 1, 1) := by decide +kernel
theorem dX8_paint_50 : decode cX8_paint 50 = .ok (.iadd, 1) := by decide +kernel
theorem dX8_paint_51 : decode cX8_paint 51 = .ok (.iload_n 3, 1) := by decide +kernel
theorem dX8_paint_52 : decode cX8_paint 52 = .ok (.iastore, 1) := by decide +kernel
theorem dX8_paint_53 : decode cX8_paint 53 = .ok (.iconst 1, 1) := by decide +kernel
theorem dX8_paint_54 : decode cX8_paint 54 = .ok (.ireturn, 1) := by decide +kernel
def fX8_paint (o_undos : Int32) (o_all_r : Nat → Int32) (o_undone_r : Nat → Int32) (p1 : Int32) (p2 : Int32) (p3 : Int32) : Option (Int32 × Int32 × Int32 × (Nat → Int32) × (Nat → Int32)) :=
  Option.bind (fX8_isCell o_all_r p1 p2) fun q8 => if q8 = 0 then some ((0 : Int32), (0 : Int32), o_undos, o_all_r, o_undone_r) else Option.bind (fX8_in p3 (0 : Int32) (3 : Int32)) fun q17 => if q17 = 0 then some ((0 : Int32), (0 : Int32), o_undos, o_all_r, o_undone_r) else Option.bind (fX8_colour o_all_r p1 p2) fun q26 => if q26 = p3 then some ((0 : Int32), (0 : Int32), o_undos, o_all_r, o_undone_r) else Option.bind (fX8_keeps o_undos o_undone_r o_all_r) fun q36 => if ds_in (((3 : Int32) + ((8 : Int32) * p2)) + p1) 350 = true then some ((1 : Int32), (0 : Int32), q36.1, (upd o_all_r ((((3 : Int32) + ((8 : Int32) * p2)) + p1).toNatClampNeg) p3), q36.2) else none
set_option maxHeartbeats 4000000 in
set_option maxRecDepth 100000 in
theorem c_X8_paint (l : Launch) (dC : Nat → ClassId) (dI : Nat → Nat → Nat) (ca : Nat → ClassId) (sa : Nat → Nat) (h_o : Nat) (h_o_plans : Nat) (h_o_makers : Nat) (h_o_halves : Nat) (h_o_all : Nat) (h_o_text : Nat) (h_o_saved : Nat) (h_o_undone : Nat) (h_o_told : Nat) (h_o_shift : Nat) (h_o_rootOf : Nat) (h_o_becomes : Nat) (h_o_comes : Nat) (h_o_next : Nat) (sz : Nat) (o_raised : Int32) (o_undos : Int32) (o_reached : Int32) (o_length : Int32) (o_begin : Int32) (o_letters : Int32) (o_sort : Int32) (o_word : Int64) (o_wrongAt : Int32) (o_badAt : Int32) (o_bad : Int32) (o_firstX : Int32) (o_firstY : Int32) (o_secondX : Int32) (o_secondY : Int32) (o_x : Int32) (o_all_r : Nat → Int32) (o_undone_r : Nat → Int32) (p1 : Int32) (p2 : Int32) (p3 : Int32) (res : Int32 × Int32 × Int32 × (Nat → Int32) × (Nat → Int32)) (hf : fX8_paint o_undos o_all_r o_undone_r p1 p2 p3 = some res) : Met l yX8_paint (Cond.code yX8_paint cX8_paint 4 (some .boolean) :: ds_gw) { frames := 3, cells := 0, slots := 0, locals := 66 } (va_Pc [.ref h_o, .int p1, .int p2, .int p3] (ds_Pre dC dI ca sa [(h_o, .inr (7, [.ref h_o_plans, .ref h_o_makers, .ref h_o_halves, .int o_raised, .ref h_o_all, .ref h_o_text, .ref h_o_saved, .ref h_o_undone, .int o_undos, .int o_reached, .int o_length, .int o_begin, .int o_letters, .int o_sort, .long o_word, .int o_wrongAt, .int o_badAt, .int o_bad, .ref h_o_told, .ref h_o_shift, .int o_firstX, .int o_firstY, .int o_secondX, .int o_secondY, .ref h_o_rootOf, .ref h_o_becomes, .ref h_o_comes, .ref h_o_next, .int o_x])), (h_o_all, .inl (ca 0, 350, .inl o_all_r)), (h_o_undone, .inl (ca 0, 536, .inl o_undone_r))] sz)) (va_Qi (fun r (_ : Unit) => r = res.1) (ds_B dC dI (va_A [(h_o, .inr (7, [.ref h_o_plans, .ref h_o_makers, .ref h_o_halves, .int o_raised, .ref h_o_all, .ref h_o_text, .ref h_o_saved, .ref h_o_undone, .int o_undos, .int o_reached, .int o_length, .int o_begin, .int o_letters, .int o_sort, .long o_word, .int o_wrongAt, .int o_badAt, .int o_bad, .ref h_o_told, .ref h_o_shift, .int o_firstX, .int o_firstY, .int o_secondX, .int o_secondY, .ref h_o_rootOf, .ref h_o_becomes, .ref h_o_comes, .ref h_o_next, .int o_x])), (h_o_all, .inl (ca 0, 350, .inl o_all_r)), (h_o_undone, .inl (ca 0, 536, .inl o_undone_r))] sz) [(h_o, .inr (7, [.ref h_o_plans, .ref h_o_makers, .ref h_o_halves, .int res.2.1, .ref h_o_all, .ref h_o_text, .ref h_o_saved, .ref h_o_undone, .int res.2.2.1, .int o_reached, .int o_length, .int o_begin, .int o_letters, .int o_sort, .long o_word, .int o_wrongAt, .int o_badAt, .int o_bad, .ref h_o_told, .ref h_o_shift, .int o_firstX, .int o_firstY, .int o_secondX, .int o_secondY, .ref h_o_rootOf, .ref h_o_becomes, .ref h_o_comes, .ref h_o_next, .int o_x])), (h_o_all, .inl (ca 0, 350, .inl res.2.2.2.1)), (h_o_undone, .inl (ca 0, 536, .inl res.2.2.2.2))]) (va_A [(h_o, .inr (7, [.ref h_o_plans, .ref h_o_makers, .ref h_o_halves, .int o_raised, .ref h_o_all, .ref h_o_text, .ref h_o_saved, .ref h_o_undone, .int o_undos, .int o_reached, .int o_length, .int o_begin, .int o_letters, .int o_sort, .long o_word, .int o_wrongAt, .int o_badAt, .int o_bad, .ref h_o_told, .ref h_o_shift, .int o_firstX, .int o_firstY, .int o_secondX, .int o_secondY, .ref h_o_rootOf, .ref h_o_becomes, .ref h_o_comes, .ref h_o_next, .int o_x])), (h_o_all, .inl (ca 0, 350, .inl o_all_r)), (h_o_undone, .inl (ca 0, 536, .inl o_undone_r))] sz)) 0 0 (va_A [(h_o, .inr (7, [.ref h_o_plans, .ref h_o_makers, .ref h_o_halves, .int o_raised, .ref h_o_all, .ref h_o_text, .ref h_o_saved, .ref h_o_undone, .int o_undos, .int o_reached, .int o_length, .int o_begin, .int o_letters, .int o_sort, .long o_word, .int o_wrongAt, .int o_badAt, .int o_bad, .ref h_o_told, .ref h_o_shift, .int o_firstX, .int o_firstY, .int o_secondX, .int o_secondY, .ref h_o_rootOf, .ref h_o_becomes, .ref h_o_comes, .ref h_o_next, .int o_x])), (h_o_all, .inl (ca 0, 350, .inl o_all_r)), (h_o_undone, .inl (ca 0, 536, .inl o_undone_r))] sz) := by
  refine Met.ofW (cc := cX8_paint) (maxL := 4) (ret := (some .boolean)) (by decide) rfl ?_
  intro p e s m args below meth c s₁ B hml hv
  obtain ⟨rfl, hsz, hP, hK, hD0, hE⟩ := hv
  have hx := B.exec
  have hb := B.bytes
  have hr := B.returns
  have hts := atoms_spec (ws := Cond.code yX8_paint cX8_paint 4 (some .boolean) :: ds_gw) B.pre
  have hg : ∀ {w : Cond}, w ∈ ds_gw → w.before _ s = true := fun h => hts _ (List.mem_cons_of_mem _ h)
  have hown : s.vm.findClass RX8 = some m.cls := findClass_of_methodNamed B.named
  have hlocks := B.notSynchronized
  subst hsz
  have hD := hD0.self (sz := s.heap.size)
  generalize hAe : va_A [(h_o, .inr (7, [.ref h_o_plans, .ref h_o_makers, .ref h_o_halves, .int o_raised, .ref h_o_all, .ref h_o_text, .ref h_o_saved, .ref h_o_undone, .int o_undos, .int o_reached, .int o_length, .int o_begin, .int o_letters, .int o_sort, .long o_word, .int o_wrongAt, .int o_badAt, .int o_bad, .ref h_o_told, .ref h_o_shift, .int o_firstX, .int o_firstY, .int o_secondX, .int o_secondY, .ref h_o_rootOf, .ref h_o_becomes, .ref h_o_comes, .ref h_o_next, .int o_x])), (h_o_all, .inl (ca 0, 350, .inl o_all_r)), (h_o_undone, .inl (ca 0, 536, .inl o_undone_r))] s.heap.size = A at hD hE ⊢
  have hA : ∀ q : Nat, s.heap.size ≤ q → A q := fun q h => by rw [← hAe]; exact Or.inr h
  have hS : va_S A s.heap s.heap [] := va_S.rf
  have hl := lv_entry ([.ref h_o, .int p1, .int p2, .int p3]) (n := 4) (Nat.le_of_ble_eq_true rfl)
  rw [lg_entry_eq]
  generalize (lg_sl ([.ref h_o, .int p1, .int p2, .int p3]) ++ List.replicate (4 - (lg_sl ([.ref h_o, .int p1, .int p2, .int p3])).length) Slot.unset).toArray = ls at hl ⊢
  have hl : lv_has ls 4 [(0, .ref h_o), (1, .int p1), (2, .int p2), (3, .int p3)] := hl
  obtain ⟨G0, eG0⟩ : ∃ G : (Int32 × Int32 × Int32 × (Nat → Int32) × (Nat → Int32)) → Prop, G = (fun r => r = res) := ⟨_, rfl⟩
  obtain ⟨rr, hrr⟩ : ∃ z, z = res := ⟨_, rfl⟩
  rw [← hrr] at hf
  have hG : G0 rr := by subst eG0; exact hrr
  unfold fX8_paint at hf
  refine lv_aload_n hx hb dX8_paint_0 rfl (lv_at hl 0 rfl) ?_
  refine lv_iconst (v := 0) hx hb dX8_paint_1 (by decide) ?_
  refine va_put (D := (dC, dI)) (ci := 7) (v := .int (0 : Int32)) (ty := tyX8 3) (C := RX8) (T := TX8) (N := 29) hx hb hts (fun w h => List.mem_cons_of_mem _ (kc_X8 w h)) tyX8 tyX8_ok nmX8 hown hK hP hD hS 0 rfl rfl 3 (by decide) (hg kw_564) (fun _ h9 => h9) rfl (by decide +kernel) rfl rfl (Nat.le_of_ble_eq_true rfl) dX8_paint_2 (fun H locs hP hD hS => ?_)
  have hP : va_P (dC, dI) vwCl [(h_o, .inr (7, [.ref h_o_plans, .ref h_o_makers, .ref h_o_halves, .int (0 : Int32), .ref h_o_all, .ref h_o_text, .ref h_o_saved, .ref h_o_undone, .int o_undos, .int o_reached, .int o_length, .int o_begin, .int o_letters, .int o_sort, .long o_word, .int o_wrongAt, .int o_badAt, .int o_bad, .ref h_o_told, .ref h_o_shift, .int o_firstX, .int o_firstY, .int o_secondX, .int o_secondY, .ref h_o_rootOf, .ref h_o_becomes, .ref h_o_comes, .ref h_o_next, .int o_x])), (h_o_all, .inl (ca 0, 350, .inl o_all_r)), (h_o_undone, .inl (ca 0, 536, .inl o_undone_r))] H := hP
  have hD : va_D A [(h_o, .inr (7, [.ref h_o_plans, .ref h_o_makers, .ref h_o_halves, .int (0 : Int32), .ref h_o_all, .ref h_o_text, .ref h_o_saved, .ref h_o_undone, .int o_undos, .int o_reached, .int o_length, .int o_begin, .int o_letters, .int o_sort, .long o_word, .int o_wrongAt, .int o_badAt, .int o_bad, .ref h_o_told, .ref h_o_shift, .int o_firstX, .int o_firstY, .int o_secondX, .int o_secondY, .ref h_o_rootOf, .ref h_o_becomes, .ref h_o_comes, .ref h_o_next, .int o_x])), (h_o_all, .inl (ca 0, 350, .inl o_all_r)), (h_o_undone, .inl (ca 0, 536, .inl o_undone_r))] := hD
  refine lv_aload_n hx hb dX8_paint_5 rfl (lv_at hl 0 rfl) ?_
  refine lv_iload_n hx hb dX8_paint_6 rfl (lv_at hl 1 rfl) ?_
  refine lv_iload_n hx hb dX8_paint_7 rfl (lv_at hl 2 rfl) ?_
  obtain ⟨q8, hq8, hf⟩ := ds_ob hf
  refine ds_calli (wr := [(h_o_undone, .inl (ca 0, 536, .inl o_undone_r))]) (va_runV (As := [.int p1, .int p2]) (rest := []) ⟨hx, hb, hml, hown, hts⟩ (c_X8_isCell l dC dI ca sa h_o h_o_plans h_o_makers h_o_halves h_o_all h_o_text h_o_saved h_o_undone h_o_told h_o_shift h_o_rootOf h_o_becomes h_o_comes h_o_next H.size (0 : Int32) o_undos o_reached o_length o_begin o_letters o_sort o_word o_wrongAt o_badAt o_bad o_firstX o_firstY o_secondX o_secondY o_x o_all_r p1 p2 q8 hq8) (cwV 2 hts (ds_gV kw_844 kw_845 kw_846 kw_597 kw_847) rfl rfl rfl (by decide +kernel) ⟨Nat.le_of_ble_eq_true rfl, Nat.le_of_ble_eq_true rfl⟩) ⟨ds_blind, va_recv hK hP (ci := 7) (q0 := 0) rfl rfl, ds_at hP hD hK hE hS hA [0, 1] rfl rfl _⟩ rfl rfl hl.1 rfl (lv_room (Nat.le_of_ble_eq_true rfl)) dX8_paint_8 ⟨Nat.zero_le _, Nat.zero_le _⟩) hP hD hS hA [0, 1] [2] rfl rfl rfl (by decide) (fun H locs hP hD hS => ?_)
  have hP : va_P (dC, dI) vwCl [(h_o_undone, .inl (ca 0, 536, .inl o_undone_r)), (h_o, .inr (7, [.ref h_o_plans, .ref h_o_makers, .ref h_o_halves, .int (0 : Int32), .ref h_o_all, .ref h_o_text, .ref h_o_saved, .ref h_o_undone, .int o_undos, .int o_reached, .int o_length, .int o_begin, .int o_letters, .int o_sort, .long o_word, .int o_wrongAt, .int o_badAt, .int o_bad, .ref h_o_told, .ref h_o_shift, .int o_firstX, .int o_firstY, .int o_secondX, .int o_secondY, .ref h_o_rootOf, .ref h_o_becomes, .ref h_o_comes, .ref h_o_next, .int o_x])), (h_o_all, .inl (ca 0, 350, .inl o_all_r))] H := hP
  have hD : va_D A [(h_o_undone, .inl (ca 0, 536, .inl o_undone_r)), (h_o, .inr (7, [.ref h_o_plans, .ref h_o_makers, .ref h_o_halves, .int (0 : Int32), .ref h_o_all, .ref h_o_text, .ref h_o_saved, .ref h_o_undone, .int o_undos, .int o_reached, .int o_length, .int o_begin, .int o_letters, .int o_sort, .long o_word, .int o_wrongAt, .int o_badAt, .int o_bad, .ref h_o_told, .ref h_o_shift, .int o_firstX, .int o_firstY, .int o_secondX, .int o_secondY, .ref h_o_rootOf, .ref h_o_becomes, .ref h_o_comes, .ref h_o_next, .int o_x])), (h_o_all, .inl (ca 0, 350, .inl o_all_r))] := hD
  refine lv_if_eq (tgt := 33) hx hb dX8_paint_11 (by decide) (fun c_11 => ?_) (fun c_11 => ?_)
  · replace hf := ds_t c_11 hf
    refine lv_iconst (v := 0) hx hb dX8_paint_33 (by decide) ?_
    have hf := Option.some.inj hf
    subst hf
    rw [eG0] at hG
    have hG : _ = res := hG
    subst hG
    exact W.zret (v := (0 : Int32)) (ty := .boolean) hx hb hr rfl (fun t ht hW => ⟨⟨(0 : Int32), (), rfl, rfl, by rw [ht]; exact (hP.sub [1, 2, 0] rfl), (hD.sub [1, 2, 0] rfl rfl)⟩, hS.F ht⟩) hS.2.2 dX8_paint_34
  · replace hf := ds_f c_11 hf
    refine lv_iload_n hx hb dX8_paint_14 rfl (lv_at hl 3 rfl) ?_
    refine lv_iconst (v := 0) hx hb dX8_paint_15 (by decide) ?_
    refine lv_iconst (v := 3) hx hb dX8_paint_16 (by decide) ?_
    obtain ⟨q17, hq17, hf⟩ := ds_ob hf
    refine ds_calli (wr := [(h_o_undone, .inl (ca 0, 536, .inl o_undone_r)), (h_o, .inr (7, [.ref h_o_plans, .ref h_o_makers, .ref h_o_halves, .int (0 : Int32), .ref h_o_all, .ref h_o_text, .ref h_o_saved, .ref h_o_undone, .int o_undos, .int o_reached, .int o_length, .int o_begin, .int o_letters, .int o_sort, .long o_word, .int o_wrongAt, .int o_badAt, .int o_bad, .ref h_o_told, .ref h_o_shift, .int o_firstX, .int o_firstY, .int o_secondX, .int o_secondY, .ref h_o_rootOf, .ref h_o_becomes, .ref h_o_comes, .ref h_o_next, .int o_x])), (h_o_all, .inl (ca 0, 350, .inl o_all_r))]) (va_runS (As := [.int p3, .int (0 : Int32), .int (3 : Int32)]) (rest := []) ⟨hx, hb, hml, hown, hts⟩ (c_X8_in l dC dI ca sa  H.size  p3 (0 : Int32) (3 : Int32) q17 hq17) (va_cwS 3 hts (ds_gS kw_619 kw_620 kw_597 kw_621) rfl rfl rfl (by decide +kernel) ⟨Nat.le_of_ble_eq_true rfl, Nat.le_of_ble_eq_true rfl⟩) ⟨ds_blind, ds_at hP hD hK hE hS hA [] rfl rfl _⟩ rfl rfl hl.1 rfl (lv_room (Nat.le_of_ble_eq_true rfl)) dX8_paint_17 ⟨Nat.zero_le _, Nat.zero_le _⟩) hP hD hS hA [] [0, 1, 2] rfl rfl rfl (by decide) (fun H locs hP hD hS => ?_)
    have hP : va_P (dC, dI) vwCl [(h_o_undone, .inl (ca 0, 536, .inl o_undone_r)), (h_o, .inr (7, [.ref h_o_plans, .ref h_o_makers, .ref h_o_halves, .int (0 : Int32), .ref h_o_all, .ref h_o_text, .ref h_o_saved, .ref h_o_undone, .int o_undos, .int o_reached, .int o_length, .int o_begin, .int o_letters, .int o_sort, .long o_word, .int o_wrongAt, .int o_badAt, .int o_bad, .ref h_o_told, .ref h_o_shift, .int o_firstX, .int o_firstY, .int o_secondX, .int o_secondY, .ref h_o_rootOf, .ref h_o_becomes, .ref h_o_comes, .ref h_o_next, .int o_x])), (h_o_all, .inl (ca 0, 350, .inl o_all_r))] H := hP
    have hD : va_D A [(h_o_undone, .inl (ca 0, 536, .inl o_undone_r)), (h_o, .inr (7, [.ref h_o_plans, .ref h_o_makers, .ref h_o_halves, .int (0 : Int32), .ref h_o_all, .ref h_o_text, .ref h_o_saved, .ref h_o_undone, .int o_undos, .int o_reached, .int o_length, .int o_begin, .int o_letters, .int o_sort, .long o_word, .int o_wrongAt, .int o_badAt, .int o_bad, .ref h_o_told, .ref h_o_shift, .int o_firstX, .int o_firstY, .int o_secondX, .int o_secondY, .ref h_o_rootOf, .ref h_o_becomes, .ref h_o_comes, .ref h_o_next, .int o_x])), (h_o_all, .inl (ca 0, 350, .inl o_all_r))] := hD
    refine lv_if_eq (tgt := 33) hx hb dX8_paint_20 (by decide) (fun c_20 => ?_) (fun c_20 => ?_)
    · replace hf := ds_t c_20 hf
      refine lv_iconst (v := 0) hx hb dX8_paint_33 (by decide) ?_
      have hf := Option.some.inj hf
      subst hf
      rw [eG0] at hG
      have hG : _ = res := hG
      subst hG
      exact W.zret (v := (0 : Int32)) (ty := .boolean) hx hb hr rfl (fun t ht hW => ⟨⟨(0 : Int32), (), rfl, rfl, by rw [ht]; exact (hP.sub [1, 2, 0] rfl), (hD.sub [1, 2, 0] rfl rfl)⟩, hS.F ht⟩) hS.2.2 dX8_paint_34
    · replace hf := ds_f c_20 hf
      refine lv_aload_n hx hb dX8_paint_23 rfl (lv_at hl 0 rfl) ?_
      refine lv_iload_n hx hb dX8_paint_24 rfl (lv_at hl 1 rfl) ?_
      refine lv_iload_n hx hb dX8_paint_25 rfl (lv_at hl 2 rfl) ?_
      obtain ⟨q26, hq26, hf⟩ := ds_ob hf
      refine ds_calli (wr := [(h_o_undone, .inl (ca 0, 536, .inl o_undone_r))]) (va_runV (As := [.int p1, .int p2]) (rest := []) ⟨hx, hb, hml, hown, hts⟩ (c_X8_colour l dC dI ca sa h_o h_o_plans h_o_makers h_o_halves h_o_all h_o_text h_o_saved h_o_undone h_o_told h_o_shift h_o_rootOf h_o_becomes h_o_comes h_o_next H.size (0 : Int32) o_undos o_reached o_length o_begin o_letters o_sort o_word o_wrongAt o_badAt o_bad o_firstX o_firstY o_secondX o_secondY o_x o_all_r p1 p2 q26 hq26) (cwV 2 hts (ds_gV kw_651 kw_652 kw_653 kw_597 kw_654) rfl rfl rfl (by decide +kernel) ⟨Nat.le_of_ble_eq_true rfl, Nat.le_of_ble_eq_true rfl⟩) ⟨ds_blind, va_recv hK hP (ci := 7) (q0 := 1) rfl rfl, ds_at hP hD hK hE hS hA [1, 2] rfl rfl _⟩ rfl rfl hl.1 rfl (lv_room (Nat.le_of_ble_eq_true rfl)) dX8_paint_26 ⟨Nat.zero_le _, Nat.zero_le _⟩) hP hD hS hA [1, 2] [0] rfl rfl rfl (by decide) (fun H locs hP hD hS => ?_)
      have hP : va_P (dC, dI) vwCl [(h_o_undone, .inl (ca 0, 536, .inl o_undone_r)), (h_o, .inr (7, [.ref h_o_plans, .ref h_o_makers, .ref h_o_halves, .int (0 : Int32), .ref h_o_all, .ref h_o_text, .ref h_o_saved, .ref h_o_undone, .int o_undos, .int o_reached, .int o_length, .int o_begin, .int o_letters, .int o_sort, .long o_word, .int o_wrongAt, .int o_badAt, .int o_bad, .ref h_o_told, .ref h_o_shift, .int o_firstX, .int o_firstY, .int o_secondX, .int o_secondY, .ref h_o_rootOf, .ref h_o_becomes, .ref h_o_comes, .ref h_o_next, .int o_x])), (h_o_all, .inl (ca 0, 350, .inl o_all_r))] H := hP
      have hD : va_D A [(h_o_undone, .inl (ca 0, 536, .inl o_undone_r)), (h_o, .inr (7, [.ref h_o_plans, .ref h_o_makers, .ref h_o_halves, .int (0 : Int32), .ref h_o_all, .ref h_o_text, .ref h_o_saved, .ref h_o_undone, .int o_undos, .int o_reached, .int o_length, .int o_begin, .int o_letters, .int o_sort, .long o_word, .int o_wrongAt, .int o_badAt, .int o_bad, .ref h_o_told, .ref h_o_shift, .int o_firstX, .int o_firstY, .int o_secondX, .int o_secondY, .ref h_o_rootOf, .ref h_o_becomes, .ref h_o_comes, .ref h_o_next, .int o_x])), (h_o_all, .inl (ca 0, 350, .inl o_all_r))] := hD
      refine lv_iload_n hx hb dX8_paint_29 rfl (lv_at hl 3 rfl) ?_
      refine lv_icmp_ne (tgt := 35) hx hb dX8_paint_30 (by decide) (fun c_30 => ?_) (fun c_30 => ?_)
      · replace hf := ds_f c_30 hf
        refine lv_aload_n hx hb dX8_paint_35 rfl (lv_at hl 0 rfl) ?_
        obtain ⟨q36, hq36, hf⟩ := ds_ob hf
        refine ds_callv (wr := []) (va_runV (As := []) (rest := []) ⟨hx, hb, hml, hown, hts⟩ (c_X8_keeps l dC dI ca sa h_o h_o_plans h_o_makers h_o_halves h_o_all h_o_text h_o_saved h_o_undone h_o_told h_o_shift h_o_rootOf h_o_becomes h_o_comes h_o_next H.size (0 : Int32) o_undos o_reached o_length o_begin o_letters o_sort o_word o_wrongAt o_badAt o_bad o_firstX o_firstY o_secondX o_secondY o_x o_undone_r o_all_r  q36 hq36) (cwV 0 hts (ds_gV kw_849 kw_850 kw_851 kw_597 kw_852) rfl rfl rfl (by decide +kernel) ⟨Nat.le_of_ble_eq_true rfl, Nat.le_of_ble_eq_true rfl⟩) ⟨ds_blind, va_recv hK hP (ci := 7) (q0 := 1) rfl rfl, ds_at hP hD hK hE hS hA [1, 0, 2] rfl rfl _⟩ rfl rfl hl.1 rfl (lv_room (Nat.le_of_ble_eq_true rfl)) dX8_paint_36 ⟨Nat.zero_le _, Nat.zero_le _⟩) hP hD hS hA [1, 0, 2] [] rfl rfl rfl (by decide) (fun H locs hP hD hS => ?_)
        have hP : va_P (dC, dI) vwCl [(h_o, .inr (7, [.ref h_o_plans, .ref h_o_makers, .ref h_o_halves, .int (0 : Int32), .ref h_o_all, .ref h_o_text, .ref h_o_saved, .ref h_o_undone, .int q36.1, .int o_reached, .int o_length, .int o_begin, .int o_letters, .int o_sort, .long o_word, .int o_wrongAt, .int o_badAt, .int o_bad, .ref h_o_told, .ref h_o_shift, .int o_firstX, .int o_firstY, .int o_secondX, .int o_secondY, .ref h_o_rootOf, .ref h_o_becomes, .ref h_o_comes, .ref h_o_next, .int o_x])), (h_o_undone, .inl (ca 0, 536, .inl q36.2)), (h_o_all, .inl (ca 0, 350, .inl o_all_r))] H := hP
        have hD : va_D A [(h_o, .inr (7, [.ref h_o_plans, .ref h_o_makers, .ref h_o_halves, .int (0 : Int32), .ref h_o_all, .ref h_o_text, .ref h_o_saved, .ref h_o_undone, .int q36.1, .int o_reached, .int o_length, .int o_begin, .int o_letters, .int o_sort, .long o_word, .int o_wrongAt, .int o_badAt, .int o_bad, .ref h_o_told, .ref h_o_shift, .int o_firstX, .int o_firstY, .int o_secondX, .int o_secondY, .ref h_o_rootOf, .ref h_o_becomes, .ref h_o_comes, .ref h_o_next, .int o_x])), (h_o_undone, .inl (ca 0, 536, .inl q36.2)), (h_o_all, .inl (ca 0, 350, .inl o_all_r))] := hD
        refine lv_aload_n hx hb dX8_paint_39 rfl (lv_at hl 0 rfl) ?_
        refine va_get (D := (dC, dI)) (ci := 7) (v := .ref h_o_all) (C := RX8) (T := TX8) (N := 29) hx hb hts (fun w h => List.mem_cons_of_mem _ (kc_X8 w h)) hown hK hP 0 rfl rfl 4 (by decide) (hg kw_594) (fun _ h9 => h9) rfl dX8_paint_40 ?_
        refine lv_iconst (v := 3) hx hb dX8_paint_43 (by decide) ?_
        refine lv_bipush (v := 8) hx hb dX8_paint_44 (by decide) ?_
        refine lv_iload_n hx hb dX8_paint_46 rfl (lv_at hl 2 rfl) ?_
        refine lv_imul hx hb dX8_paint_47 ?_
        refine lv_iadd hx hb dX8_paint_48 ?_
        refine lv_iload_n hx hb dX8_paint_49 rfl (lv_at hl 1 rfl) ?_
        refine lv_iadd hx hb dX8_paint_50 ?_
        refine lv_iload_n hx hb dX8_paint_51 rfl (lv_at hl 3 rfl) ?_
        obtain ⟨i_52, hf⟩ := ds_ci hf
        refine va_iast hx hb hK hP hD hS 2 0 rfl rfl i_52 dX8_paint_52 (fun H locs hP hD hS => ?_)
        have hP : va_P (dC, dI) vwCl [(h_o, .inr (7, [.ref h_o_plans, .ref h_o_makers, .ref h_o_halves, .int (0 : Int32), .ref h_o_all, .ref h_o_text, .ref h_o_saved, .ref h_o_undone, .int q36.1, .int o_reached, .int o_length, .int o_begin, .int o_letters, .int o_sort, .long o_word, .int o_wrongAt, .int o_badAt, .int o_bad, .ref h_o_told, .ref h_o_shift, .int o_firstX, .int o_firstY, .int o_secondX, .int o_secondY, .ref h_o_rootOf, .ref h_o_becomes, .ref h_o_comes, .ref h_o_next, .int o_x])), (h_o_undone, .inl (ca 0, 536, .inl q36.2)), (h_o_all, .inl (ca 0, 350, .inl (upd o_all_r ((((3 : Int32) + ((8 : Int32) * p2)) + p1).toNatClampNeg) p3)))] H := hP
        have hD : va_D A [(h_o, .inr (7, [.ref h_o_plans, .ref h_o_makers, .ref h_o_halves, .int (0 : Int32), .ref h_o_all, .ref h_o_text, .ref h_o_saved, .ref h_o_undone, .int q36.1, .int o_reached, .int o_length, .int o_begin, .int o_letters, .int o_sort, .long o_word, .int o_wrongAt, .int o_badAt, .int o_bad, .ref h_o_told, .ref h_o_shift, .int o_firstX, .int o_firstY, .int o_secondX, .int o_secondY, .ref h_o_rootOf, .ref h_o_becomes, .ref h_o_comes, .ref h_o_next, .int o_x])), (h_o_undone, .inl (ca 0, 536, .inl q36.2)), (h_o_all, .inl (ca 0, 350, .inl (upd o_all_r ((((3 : Int32) + ((8 : Int32) * p2)) + p1).toNatClampNeg) p3)))] := hD
        refine lv_iconst (v := 1) hx hb dX8_paint_53 (by decide) ?_
        have hf := Option.some.inj hf
        subst hf
        rw [eG0] at hG
        have hG : _ = res := hG
        subst hG
        exact W.zret (v := (1 : Int32)) (ty := .boolean) hx hb hr rfl (fun t ht hW => ⟨⟨(1 : Int32), (), rfl, rfl, by rw [ht]; exact (hP.sub [0, 2, 1] rfl), (hD.sub [0, 2, 1] rfl rfl)⟩, hS.F ht⟩) hS.2.2 dX8_paint_54
      · replace hf := ds_t c_30 hf
        refine lv_iconst (v := 0) hx hb dX8_paint_33 (by decide) ?_
        have hf := Option.some.inj hf
        subst hf
        rw [eG0] at hG
        have hG : _ = res := hG
        subst hG
        exact W.zret (v := (0 : Int32)) (ty := .boolean) hx hb hr rfl (fun t ht hW => ⟨⟨(0 : Int32), (), rfl, rfl, by rw [ht]; exact (hP.sub [1, 2, 0] rfl), (hD.sub [1, 2, 0] rfl rfl)⟩, hS.F ht⟩) hS.2.2 dX8_paint_34
theorem dX8_keepsNext_0 : decode cX8_keepsNext 0 = .ok (.iconst 0, 1) := by decide +kernel
theorem dX8_keepsNext_1 : decode cX8_keepsNext 1 = .ok (.istore_n 1, 1) := by decide +kernel
theorem dX8_keepsNext_2 : decode cX8_keepsNext 2 = .ok (.iload_n 1, 1) := by decide +kernel
theorem dX8_keepsNext_3 : decode cX8_keepsNext 3 = .ok (.bipush 64, 2) := by decide +kernel
theorem dX8_keepsNext_5 : decode cX8_keepsNext 5 = .ok (.if_icmp .ge 23, 3) := by decide +kernel
theorem dX8_keepsNext_8 : decode cX8_keepsNext 8 = .ok (.aload_n 0, 1) := by decide +kernel
theorem dX8_keepsNext_9 : decode cX8_keepsNext 9 = .ok (.getfield 48, 3) := by decide +kernel
theorem dX8_keepsNext_12 : decode cX8_keepsNext 12 = .ok (.iload_n 1, 1) := by decide +kernel
theorem dX8_keepsNext_13 : decode cX8_keepsNext 13 = .ok (.aload_n 0, 1) := by decide +kernel
theorem dX8_keepsNext_14 : decode cX8_keepsNext 14 = .ok (.getfield 19, 3) := by decide +kernel
theorem dX8_keepsNext_17 : decode cX8_keepsNext 17 = .ok (.iconst 3, 1) := by decide +kernel
theorem dX8_keepsNext_18 : decode cX8_keepsNext 18 = .ok (.iload_n 1, 1) := by decide +kernel
theorem dX8_keepsNext_19 : decode cX8_keepsNext 19 = .ok (.iadd, 1) := by decide +kernel
theorem dX8_keepsNext_20 : decode cX8_keepsNext 20 = .ok (.iaload, 1) := by decide +kernel
theorem dX8_keepsNext_21 : decode cX8_keepsNext 21 = .ok (.iastore, 1) := by decide +kernel
theorem dX8_keepsNext_22 : decode cX8_keepsNext 22 = .ok (.iinc 1 1, 3) := by decide +kernel
theorem dX8_keepsNext_25 : decode cX8_keepsNext 25 = .ok (.goto (-23), 3) := by decide +kernel
theorem dX8_keepsNext_28 : decode cX8_keepsNext 28 = .ok (.return_, 1) := by decide +kernel
def fX8_keepsNext_2_b (o_all_r : Nat → Int32) (v1 : Int32) (o_next_r : Nat → Int32) : Option ((Int32 × (Nat → Int32)) ⊕ ((Nat → Int32))) :=
  if (64 : Int32) ≤ v1 then some (.inr o_next_r) else if ds_in ((3 : Int32) + v1) 350 = true then if ds_in v1 64 = true then some (.inl ((v1 + 1), (upd o_next_r v1.toNatClampNeg (o_all_r ((3 : Int32) + v1).toNatClampNeg)))) else none else none
def fX8_keepsNext_2 (o_all_r : Nat → Int32) (v1 : Int32) (o_next_r : Nat → Int32) : Option ((Nat → Int32)) := ds_it (fun s => fX8_keepsNext_2_b o_all_r s.1 s.2) 1000 (v1, o_next_r)
def fX8_keepsNext (o_all_r : Nat → Int32) (o_next_r : Nat → Int32) : Option ((Nat → Int32)) :=
  fX8_keepsNext_2 o_all_r (0 : Int32) o_next_r
set_option maxHeartbeats 4000000 in
set_option maxRecDepth 100000 in
theorem c_X8_keepsNext (l : Launch) (dC : Nat → ClassId) (dI : Nat → Nat → Nat) (ca : Nat → ClassId) (sa : Nat → Nat) (h_o : Nat) (h_o_plans : Nat) (h_o_makers : Nat) (h_o_halves : Nat) (h_o_all : Nat) (h_o_text : Nat) (h_o_saved : Nat) (h_o_undone : Nat) (h_o_told : Nat) (h_o_shift : Nat) (h_o_rootOf : Nat) (h_o_becomes : Nat) (h_o_comes : Nat) (h_o_next : Nat) (sz : Nat) (o_raised : Int32) (o_undos : Int32) (o_reached : Int32) (o_length : Int32) (o_begin : Int32) (o_letters : Int32) (o_sort : Int32) (o_word : Int64) (o_wrongAt : Int32) (o_badAt : Int32) (o_bad : Int32) (o_firstX : Int32) (o_firstY : Int32) (o_secondX : Int32) (o_secondY : Int32) (o_x : Int32) (o_all_r : Nat → Int32) (o_next_r : Nat → Int32) (res : (Nat → Int32)) (hf : fX8_keepsNext o_all_r o_next_r = some res) : Met l yX8_keepsNext (Cond.code yX8_keepsNext cX8_keepsNext 2 none :: ds_gw) { frames := 0, cells := 0, slots := 0, locals := 0 } (va_Pc [.ref h_o] (ds_Pre dC dI ca sa [(h_o, .inr (7, [.ref h_o_plans, .ref h_o_makers, .ref h_o_halves, .int o_raised, .ref h_o_all, .ref h_o_text, .ref h_o_saved, .ref h_o_undone, .int o_undos, .int o_reached, .int o_length, .int o_begin, .int o_letters, .int o_sort, .long o_word, .int o_wrongAt, .int o_badAt, .int o_bad, .ref h_o_told, .ref h_o_shift, .int o_firstX, .int o_firstY, .int o_secondX, .int o_secondY, .ref h_o_rootOf, .ref h_o_becomes, .ref h_o_comes, .ref h_o_next, .int o_x])), (h_o_all, .inl (ca 0, 350, .inl o_all_r)), (h_o_next, .inl (ca 0, 64, .inl o_next_r))] sz)) (va_Qv (fun (_ : Unit) => True) (ds_B dC dI (va_A [(h_o, .inr (7, [.ref h_o_plans, .ref h_o_makers, .ref h_o_halves, .int o_raised, .ref h_o_all, .ref h_o_text, .ref h_o_saved, .ref h_o_undone, .int o_undos, .int o_reached, .int o_length, .int o_begin, .int o_letters, .int o_sort, .long o_word, .int o_wrongAt, .int o_badAt, .int o_bad, .ref h_o_told, .ref h_o_shift, .int o_firstX, .int o_firstY, .int o_secondX, .int o_secondY, .ref h_o_rootOf, .ref h_o_becomes, .ref h_o_comes, .ref h_o_next, .int o_x])), (h_o_all, .inl (ca 0, 350, .inl o_all_r)), (h_o_next, .inl (ca 0, 64, .inl o_next_r))] sz) [(h_o, .inr (7, [.ref h_o_plans, .ref h_o_makers, .ref h_o_halves, .int o_raised, .ref h_o_all, .ref h_o_text, .ref h_o_saved, .ref h_o_undone, .int o_undos, .int o_reached, .int o_length, .int o_begin, .int o_letters, .int o_sort, .long o_word, .int o_wrongAt, .int o_badAt, .int o_bad, .ref h_o_told, .ref h_o_shift, .int o_firstX, .int o_firstY, .int o_secondX, .int o_secondY, .ref h_o_rootOf, .ref h_o_becomes, .ref h_o_comes, .ref h_o_next, .int o_x])), (h_o_all, .inl (ca 0, 350, .inl o_all_r)), (h_o_next, .inl (ca 0, 64, .inl res))]) (va_A [(h_o, .inr (7, [.ref h_o_plans, .ref h_o_makers, .ref h_o_halves, .int o_raised, .ref h_o_all, .ref h_o_text, .ref h_o_saved, .ref h_o_undone, .int o_undos, .int o_reached, .int o_length, .int o_begin, .int o_letters, .int o_sort, .long o_word, .int o_wrongAt, .int o_badAt, .int o_bad, .ref h_o_told, .ref h_o_shift, .int o_firstX, .int o_firstY, .int o_secondX, .int o_secondY, .ref h_o_rootOf, .ref h_o_becomes, .ref h_o_comes, .ref h_o_next, .int o_x])), (h_o_all, .inl (ca 0, 350, .inl o_all_r)), (h_o_next, .inl (ca 0, 64, .inl o_next_r))] sz)) 0 0 (va_A [(h_o, .inr (7, [.ref h_o_plans, .ref h_o_makers, .ref h_o_halves, .int o_raised, .ref h_o_all, .ref h_o_text, .ref h_o_saved, .ref h_o_undone, .int o_undos, .int o_reached, .int o_length, .int o_begin, .int o_letters, .int o_sort, .long o_word, .int o_wrongAt, .int o_badAt, .int o_bad, .ref h_o_told, .ref h_o_shift, .int o_firstX, .int o_firstY, .int o_secondX, .int o_secondY, .ref h_o_rootOf, .ref h_o_becomes, .ref h_o_comes, .ref h_o_next, .int o_x])), (h_o_all, .inl (ca 0, 350, .inl o_all_r)), (h_o_next, .inl (ca 0, 64, .inl o_next_r))] sz) := by
  refine Met.ofW (cc := cX8_keepsNext) (maxL := 2) (ret := none) (by decide) rfl ?_
  intro p e s m args below meth c s₁ B hml hv
  obtain ⟨rfl, hsz, hP, hK, hD0, hE⟩ := hv
  have hx := B.exec
  have hb := B.bytes
  have hr := B.returns
  have hts := atoms_spec (ws := Cond.code yX8_keepsNext cX8_keepsNext 2 none :: ds_gw) B.pre
  have hg : ∀ {w : Cond}, w ∈ ds_gw → w.before _ s = true := fun h => hts _ (List.mem_cons_of_mem _ h)
  have hown : s.vm.findClass RX8 = some m.cls := findClass_of_methodNamed B.named
  have hlocks := B.notSynchronized
  subst hsz
  have hD := hD0.self (sz := s.heap.size)
  generalize hAe : va_A [(h_o, .inr (7, [.ref h_o_plans, .ref h_o_makers, .ref h_o_halves, .int o_raised, .ref h_o_all, .ref h_o_text, .ref h_o_saved, .ref h_o_undone, .int o_undos, .int o_reached, .int o_length, .int o_begin, .int o_letters, .int o_sort, .long o_word, .int o_wrongAt, .int o_badAt, .int o_bad, .ref h_o_told, .ref h_o_shift, .int o_firstX, .int o_firstY, .int o_secondX, .int o_secondY, .ref h_o_rootOf, .ref h_o_becomes, .ref h_o_comes, .ref h_o_next, .int o_x])), (h_o_all, .inl (ca 0, 350, .inl o_all_r)), (h_o_next, .inl (ca 0, 64, .inl o_next_r))] s.heap.size = A at hD hE ⊢
  have hA : ∀ q : Nat, s.heap.size ≤ q → A q := fun q h => by rw [← hAe]; exact Or.inr h
  have hS : va_S A s.heap s.heap [] := va_S.rf
  have hl := lv_entry ([.ref h_o]) (n := 2) (Nat.le_of_ble_eq_true rfl)
  rw [lg_entry_eq]
  generalize (lg_sl ([.ref h_o]) ++ List.replicate (2 - (lg_sl ([.ref h_o])).length) Slot.unset).toArray = ls at hl ⊢
  have hl : lv_has ls 2 [(0, .ref h_o)] := hl
  obtain ⟨G0, eG0⟩ : ∃ G : ((Nat → Int32)) → Prop, G = (fun r => r = res) := ⟨_, rfl⟩
  obtain ⟨rr, hrr⟩ : ∃ z, z = res := ⟨_, rfl⟩
  rw [← hrr] at hf
  have hG : G0 rr := by subst eG0; exact hrr
  refine ds_cap (fun WW h1 h2 => ?_)
  have J_2 : ∀ (n : Nat) (v1 : Int32) (o_next_r : Nat → Int32) (rr : (Nat → Int32)) (hf : ds_it (fun s => fX8_keepsNext_2_b o_all_r s.1 s.2) n (v1, o_next_r) = some rr) (hG : G0 rr) (H : Heap) (locs : List Loc) (hP : va_P (dC, dI) vwCl [(h_o, .inr (7, [.ref h_o_plans, .ref h_o_makers, .ref h_o_halves, .int o_raised, .ref h_o_all, .ref h_o_text, .ref h_o_saved, .ref h_o_undone, .int o_undos, .int o_reached, .int o_length, .int o_begin, .int o_letters, .int o_sort, .long o_word, .int o_wrongAt, .int o_badAt, .int o_bad, .ref h_o_told, .ref h_o_shift, .int o_firstX, .int o_firstY, .int o_secondX, .int o_secondY, .ref h_o_rootOf, .ref h_o_becomes, .ref h_o_comes, .ref h_o_next, .int o_x])), (h_o_all, .inl (ca 0, 350, .inl o_all_r)), (h_o_next, .inl (ca 0, 64, .inl o_next_r))] H) (hD : va_D A [(h_o, .inr (7, [.ref h_o_plans, .ref h_o_makers, .ref h_o_halves, .int o_raised, .ref h_o_all, .ref h_o_text, .ref h_o_saved, .ref h_o_undone, .int o_undos, .int o_reached, .int o_length, .int o_begin, .int o_letters, .int o_sort, .long o_word, .int o_wrongAt, .int o_badAt, .int o_bad, .ref h_o_told, .ref h_o_shift, .int o_firstX, .int o_firstY, .int o_secondX, .int o_secondY, .ref h_o_rootOf, .ref h_o_becomes, .ref h_o_comes, .ref h_o_next, .int o_x])), (h_o_all, .inl (ca 0, 350, .inl o_all_r)), (h_o_next, .inl (ca 0, 64, .inl o_next_r))]) (hS : va_S A s.heap H locs) (ls : Array Slot) (hl : lv_has ls 2 [(0, .ref h_o), (1, .int v1)]), WW H locs (F0 m 2 ls []) := by
    intro  n
    induction n with
    | zero => intro v1 o_next_r rr hf; exact (ds_it_zero hf).elim
    | succ n ih2 =>
      intro v1 o_next_r rr hf hG H locs hP hD hS ls hl
      refine h2 ?_
      obtain ⟨rr, hf, hG⟩ := ds_it_succ hf hG
      replace hf : fX8_keepsNext_2_b o_all_r v1 o_next_r = some rr := hf
      obtain ⟨G1, eG1⟩ : ∃ G : ((Int32 × (Nat → Int32)) ⊕ ((Nat → Int32))) → Prop, G = ds_G (fun s' => ∃ r', ds_it (fun s => fX8_keepsNext_2_b o_all_r s.1 s.2) n s' = some r' ∧ G0 r') G0 := ⟨_, rfl⟩
      rw [← eG1] at hG
      unfold fX8_keepsNext_2_b at hf
      refine lv_iload_n hx hb dX8_keepsNext_2 rfl (lv_at hl 1 rfl) ?_
      refine lv_bipush (v := 64) hx hb dX8_keepsNext_3 (by decide) ?_
      refine lv_icmp_ge (tgt := 28) hx hb dX8_keepsNext_5 (by decide) (fun c_5 => ?_) (fun c_5 => ?_)
      · replace hf := ds_t c_5 hf
        have hf := Option.some.inj hf
        subst hf
        rw [eG1] at hG
        replace hG : G0 _ := hG
        rw [eG0] at hG
        have hG : _ = res := hG
        subst hG
        exact W.vret hx hb hr (fun t ht hW => ⟨⟨(), rfl, trivial, by rw [ht]; exact hP, hD⟩, hS.F ht⟩) hS.2.2 dX8_keepsNext_28
      · replace hf := ds_f c_5 hf
        refine lv_aload_n hx hb dX8_keepsNext_8 rfl (lv_at hl 0 rfl) ?_
        refine va_get (D := (dC, dI)) (ci := 7) (v := .ref h_o_next) (C := RX8) (T := TX8) (N := 29) hx hb hts (fun w h => List.mem_cons_of_mem _ (kc_X8 w h)) hown hK hP 0 rfl rfl 27 (by decide) (hg kw_853) (fun _ h9 => h9) rfl dX8_keepsNext_9 ?_
        refine lv_iload_n hx hb dX8_keepsNext_12 rfl (lv_at hl 1 rfl) ?_
        refine lv_aload_n hx hb dX8_keepsNext_13 rfl (lv_at hl 0 rfl) ?_
        refine va_get (D := (dC, dI)) (ci := 7) (v := .ref h_o_all) (C := RX8) (T := TX8) (N := 29) hx hb hts (fun w h => List.mem_cons_of_mem _ (kc_X8 w h)) hown hK hP 0 rfl rfl 4 (by decide) (hg kw_594) (fun _ h9 => h9) rfl dX8_keepsNext_14 ?_
        refine lv_iconst (v := 3) hx hb dX8_keepsNext_17 (by decide) ?_
        refine lv_iload_n hx hb dX8_keepsNext_18 rfl (lv_at hl 1 rfl) ?_
        refine lv_iadd hx hb dX8_keepsNext_19 ?_
        obtain ⟨i_20, hf⟩ := ds_ci hf
        refine va_iald hx hb hK hP 1 0 rfl rfl i_20 dX8_keepsNext_20 ?_
        obtain ⟨i_21, hf⟩ := ds_ci hf
        refine va_iast hx hb hK hP hD hS 2 0 rfl rfl i_21 dX8_keepsNext_21 (fun H locs hP hD hS => ?_)
        have hP : va_P (dC, dI) vwCl [(h_o, .inr (7, [.ref h_o_plans, .ref h_o_makers, .ref h_o_halves, .int o_raised, .ref h_o_all, .ref h_o_text, .ref h_o_saved, .ref h_o_undone, .int o_undos, .int o_reached, .int o_length, .int o_begin, .int o_letters, .int o_sort, .long o_word, .int o_wrongAt, .int o_badAt, .int o_bad, .ref h_o_told, .ref h_o_shift, .int o_firstX, .int o_firstY, .int o_secondX, .int o_secondY, .ref h_o_rootOf, .ref h_o_becomes, .ref h_o_comes, .ref h_o_next, .int o_x])), (h_o_all, .inl (ca 0, 350, .inl o_all_r)), (h_o_next, .inl (ca 0, 64, .inl (upd o_next_r v1.toNatClampNeg (o_all_r ((3 : Int32) + v1).toNatClampNeg))))] H := hP
        have hD : va_D A [(h_o, .inr (7, [.ref h_o_plans, .ref h_o_makers, .ref h_o_halves, .int o_raised, .ref h_o_all, .ref h_o_text, .ref h_o_saved, .ref h_o_undone, .int o_undos, .int o_reached, .int o_length, .int o_begin, .int o_letters, .int o_sort, .long o_word, .int o_wrongAt, .int o_badAt, .int o_bad, .ref h_o_told, .ref h_o_shift, .int o_firstX, .int o_firstY, .int o_secondX, .int o_secondY, .ref h_o_rootOf, .ref h_o_becomes, .ref h_o_comes, .ref h_o_next, .int o_x])), (h_o_all, .inl (ca 0, 350, .inl o_all_r)), (h_o_next, .inl (ca 0, 64, .inl (upd o_next_r v1.toNatClampNeg (o_all_r ((3 : Int32) + v1).toNatClampNeg))))] := hD
        refine lv_iinc (v := (v1 + 1)) (lv' := [(1, .int (v1 + 1)), (0, .ref h_o)]) hx hb dX8_keepsNext_22 hl (k := 1) rfl rfl (by decide) rfl (fun ls hl => ?_)
        refine lv_goto (tgt := 2) hx hb dX8_keepsNext_25 (by decide) ?_
        have hf := Option.some.inj hf
        subst hf
        rw [eG1] at hG
        obtain ⟨rr, hf, hG⟩ := hG
        exact h1 (ih2 (v1 + 1) (upd o_next_r v1.toNatClampNeg (o_all_r ((3 : Int32) + v1).toNatClampNeg)) rr hf hG _ _ hP hD hS _ (lv_sub hl [1, 0] rfl))
  unfold fX8_keepsNext at hf
  refine lv_iconst (v := 0) hx hb dX8_keepsNext_0 (by decide) ?_
  refine lv_istore_n (lv' := [(1, .int (0 : Int32)), (0, .ref h_o)]) hx hb dX8_keepsNext_1 rfl hl (by decide) rfl (fun ls hl => ?_)
  exact h1 (J_2  1000 (0 : Int32) o_next_r _ hf hG _ _ hP hD hS _ (lv_sub hl [1, 0] rfl))

theorem dX0_lookAt_0 : decode cX0_lookAt 0 = .ok (.aload_n 0, 1) := by decide +kernel
theorem dX0_lookAt_1 : decode cX0_lookAt 1 = .ok (.getfield 27, 3) := by decide +kernel
theorem dX0_lookAt_4 : decode cX0_lookAt 4 = .ok (.ifCond .eq 15, 3) := by decide +kernel
theorem dX0_lookAt_7 : decode cX0_lookAt 7 = .ok (.aload_n 0, 1) := by decide +kernel
theorem dX0_lookAt_8 : decode cX0_lookAt 8 = .ok (.getfield 12, 3) := by decide +kernel
theorem dX0_lookAt_11 : decode cX0_lookAt 11 = .ok (.aload_n 1, 1) := by decide +kernel
theorem dX0_lookAt_12 : decode cX0_lookAt 12 = .ok (.invokevirtual 31, 3) := by decide +kernel
theorem dX0_lookAt_15 : decode cX0_lookAt 15 = .ok (.ifCond .eq 4, 3) := by decide +kernel
theorem dX0_lookAt_18 : decode cX0_lookAt 18 = .ok (.return_, 1) := by decide +kernel
theorem dX0_lookAt_19 : decode cX0_lookAt 19 = .ok (.aload_n 0, 1) := by decide +kernel
theorem dX0_lookAt_20 : decode cX0_lookAt 20 = .ok (.getfield 12, 3) := by decide +kernel
theorem dX0_lookAt_23 : decode cX0_lookAt 23 = .ok (.aload_n 1, 1) := by decide +kernel
theorem dX0_lookAt_24 : decode cX0_lookAt 24 = .ok (.invokevirtual 35, 3) := by decide +kernel
theorem dX0_lookAt_27 : decode cX0_lookAt 27 = .ok (.iconst 0, 1) := by decide +kernel
theorem dX0_lookAt_28 : decode cX0_lookAt 28 = .ok (.istore_n 2, 1) := by decide +kernel
theorem dX0_lookAt_29 : decode cX0_lookAt 29 = .ok (.iload_n 2, 1) := by decide +kernel
theorem dX0_lookAt_30 : decode cX0_lookAt 30 = .ok (.aload_n 0, 1) := by decide +kernel
theorem dX0_lookAt_31 : decode cX0_lookAt 31 = .ok (.getfield 23, 3) := by decide +kernel
theorem dX0_lookAt_34 : decode cX0_lookAt 34 = .ok (.arraylength, 1) := by decide +kernel
theorem dX0_lookAt_35 : decode cX0_lookAt 35 = .ok (.if_icmp .ge 76, 3) := by decide +kernel
theorem dX0_lookAt_38 : decode cX0_lookAt 38 = .ok (.aload_n 0, 1) := by decide +kernel
theorem dX0_lookAt_39 : decode cX0_lookAt 39 = .ok (.getfield 12, 3) := by decide +kernel
theorem dX0_lookAt_42 : decode cX0_lookAt 42 = .ok (.getfield 39, 3) := by decide +kernel
theorem dX0_lookAt_45 : decode cX0_lookAt 45 = .ok (.iload_n 2, 1) := by decide +kernel
theorem dX0_lookAt_46 : decode cX0_lookAt 46 = .ok (.invokestatic 42, 3) := by decide +kernel
theorem dX0_lookAt_49 : decode cX0_lookAt 49 = .ok (.ifCond .eq 29, 3) := by decide +kernel
theorem dX0_lookAt_52 : decode cX0_lookAt 52 = .ok (.aload_n 0, 1) := by decide +kernel
theorem dX0_lookAt_53 : decode cX0_lookAt 53 = .ok (.getfield 18, 3) := by decide +kernel
theorem dX0_lookAt_56 : decode cX0_lookAt 56 = .ok (.aload_n 0, 1) := by decide +kernel
theorem dX0_lookAt_57 : decode cX0_lookAt 57 = .ok (.getfield 12, 3) := by decide +kernel
theorem dX0_lookAt_60 : decode cX0_lookAt 60 = .ok (.aload_n 0, 1) := by decide +kernel
theorem dX0_lookAt_61 : decode cX0_lookAt 61 = .ok (.getfield 12, 3) := by decide +kernel
theorem dX0_lookAt_64 : decode cX0_lookAt 64 = .ok (.getfield 39, 3) := by decide +kernel
theorem dX0_lookAt_67 : decode cX0_lookAt 67 = .ok (.iload_n 2, 1) := by decide +kernel
theorem dX0_lookAt_68 : decode cX0_lookAt 68 = .ok (.invokevirtual 46, 3) := by decide +kernel
theorem dX0_lookAt_71 : decode cX0_lookAt 71 = .ok (.ifCond .eq 7, 3) := by decide +kernel
theorem dX0_lookAt_74 : decode cX0_lookAt 74 = .ok (.iconst 1, 1) := by decide +kernel
theorem dX0_lookAt_75 : decode cX0_lookAt 75 = .ok (.goto 4, 3) := by decide +kernel
theorem dX0_lookAt_78 : decode cX0_lookAt 78 = .ok (.iconst 0, 1) := by decide +kernel
theorem dX0_lookAt_79 : decode cX0_lookAt 79 = .ok (.istore_n 3, 1) := by decide +kernel
theorem dX0_lookAt_80 : decode cX0_lookAt 80 = .ok (.aload_n 0, 1) := by decide +kernel
theorem dX0_lookAt_81 : decode cX0_lookAt 81 = .ok (.getfield 23, 3) := by decide +kernel
theorem dX0_lookAt_84 : decode cX0_lookAt 84 = .ok (.iload_n 2, 1) := by decide +kernel
theorem dX0_lookAt_85 : decode cX0_lookAt 85 = .ok (.iload_n 3, 1) := by decide +kernel
theorem dX0_lookAt_86 : decode cX0_lookAt 86 = .ok (.ifCond .eq 17, 3) := by decide +kernel
theorem dX0_lookAt_89 : decode cX0_lookAt 89 = .ok (.aload_n 0, 1) := by decide +kernel
theorem dX0_lookAt_90 : decode cX0_lookAt 90 = .ok (.getfield 12, 3) := by decide +kernel
theorem dX0_lookAt_93 : decode cX0_lookAt 93 = .ok (.aload_n 0, 1) := by decide +kernel
theorem dX0_lookAt_94 : decode cX0_lookAt 94 = .ok (.getfield 18, 3) := by decide +kernel
theorem dX0_lookAt_97 : decode cX0_lookAt 97 = .ok (.invokevirtual 50, 3) := by decide +kernel
theorem dX0_lookAt_100 : decode cX0_lookAt 100 = .ok (.goto 4, 3) := by decide +kernel
theorem dX0_lookAt_103 : decode cX0_lookAt 103 = .ok (.lconst 0, 1) := by decide +kernel
theorem dX0_lookAt_104 : decode cX0_lookAt 104 = .ok (.lastore, 1) := by decide +kernel
theorem dX0_lookAt_105 : decode cX0_lookAt 105 = .ok (.iinc 2 1, 3) := by decide +kernel
theorem dX0_lookAt_108 : decode cX0_lookAt 108 = .ok (.goto (-79), 3) := by decide +kernel
theorem dX0_lookAt_111 : decode cX0_lookAt 111 = .ok (.aload_n 0, 1) := by decide +kernel
theorem dX0_lookAt_112 : decode cX0_lookAt 112 = .ok (.iconst 1, 1) := by decide +kernel
theorem dX0_lookAt_113 : decode cX0_lookAt 113 = .ok (.putfield 27, 3) := by decide +kernel
theorem dX0_lookAt_116 : decode cX0_lookAt 116 = .ok (.aload_n 0, 1) := by decide +kernel
theorem dX0_lookAt_117 : decode cX0_lookAt 117 = .ok (.iconst 0, 1) := by decide +kernel
theorem dX0_lookAt_118 : decode cX0_lookAt 118 = .ok (.putfield 54, 3) := by decide +kernel
theorem dX0_lookAt_121 : decode cX0_lookAt 121 = .ok (.return_, 1) := by decide +kernel
def fX0_lookAt_111 (o_seen_wide : Int32) (o_seen_high : Int32) (o_seen_hex : Int32) (o_seen_ones : Int64) (o_seen_twos : Int64) (o_found_r : Nat → Int64) (o_turned_wide : Int32) (o_turned_high : Int32) (o_turned_hex : Int32) (o_turned_ones : Int64) (o_turned_twos : Int64) : Option (Int32 × Int32 × Int32 × Int32 × Int32 × Int64 × Int64 × (Nat → Int64) × Int32 × Int32 × Int32 × Int64 × Int64) :=
  some ((1 : Int32), (0 : Int32), o_seen_wide, o_seen_high, o_seen_hex, o_seen_ones, o_seen_twos, o_found_r, o_turned_wide, o_turned_high, o_turned_hex, o_turned_ones, o_turned_twos)
def fX0_lookAt_104 (o_found_r : Nat → Int64) (o_turned_wide : Int32) (o_turned_high : Int32) (o_turned_hex : Int32) (o_turned_ones : Int64) (o_turned_twos : Int64) (v2 : Int32) (w0 : Int64) (s1 : Int32) : Option ((Int32 × (Nat → Int64) × Int32 × Int32 × Int32 × Int64 × Int64) ⊕ (Int32 × Int32 × Int32 × Int32 × Int32 × Int64 × Int64 × (Nat → Int64) × Int32 × Int32 × Int32 × Int64 × Int64)) :=
  if ds_in s1 12 = true then some (.inl ((v2 + 1), (vp_updL o_found_r s1.toNatClampNeg w0), o_turned_wide, o_turned_high, o_turned_hex, o_turned_ones, o_turned_twos)) else none
def fX0_lookAt_79 (o_seen_wide : Int32) (o_seen_high : Int32) (o_seen_ones : Int64) (o_seen_twos : Int64) (o_found_r : Nat → Int64) (o_turned_wide : Int32) (o_turned_high : Int32) (o_turned_hex : Int32) (o_turned_ones : Int64) (o_turned_twos : Int64) (v2 : Int32) (s0 : Int32) : Option ((Int32 × (Nat → Int64) × Int32 × Int32 × Int32 × Int64 × Int64) ⊕ (Int32 × Int32 × Int32 × Int32 × Int32 × Int64 × Int64 × (Nat → Int64) × Int32 × Int32 × Int32 × Int64 × Int64)) :=
  if s0 = 0 then fX0_lookAt_104 o_found_r o_turned_wide o_turned_high o_turned_hex o_turned_ones o_turned_twos v2 (0 : Int64) v2 else Option.bind (fX6_stepsFrom o_seen_wide o_seen_high o_seen_ones o_seen_twos o_turned_ones o_turned_twos) fun q97 => fX0_lookAt_104 o_found_r o_turned_wide o_turned_high o_turned_hex o_turned_ones o_turned_twos v2 q97 v2
def fX0_lookAt_78 (o_seen_wide : Int32) (o_seen_high : Int32) (o_seen_ones : Int64) (o_seen_twos : Int64) (o_found_r : Nat → Int64) (o_turned_wide : Int32) (o_turned_high : Int32) (o_turned_hex : Int32) (o_turned_ones : Int64) (o_turned_twos : Int64) (v2 : Int32) : Option ((Int32 × (Nat → Int64) × Int32 × Int32 × Int32 × Int64 × Int64) ⊕ (Int32 × Int32 × Int32 × Int32 × Int32 × Int64 × Int64 × (Nat → Int64) × Int32 × Int32 × Int32 × Int64 × Int64)) :=
  fX0_lookAt_79 o_seen_wide o_seen_high o_seen_ones o_seen_twos o_found_r o_turned_wide o_turned_high o_turned_hex o_turned_ones o_turned_twos v2 (0 : Int32)
def fX0_lookAt_29_b (o_seen_wide : Int32) (o_seen_high : Int32) (o_seen_hex : Int32) (o_seen_ones : Int64) (o_seen_twos : Int64) (v2 : Int32) (o_found_r : Nat → Int64) (o_turned_wide : Int32) (o_turned_high : Int32) (o_turned_hex : Int32) (o_turned_ones : Int64) (o_turned_twos : Int64) : Option ((Int32 × (Nat → Int64) × Int32 × Int32 × Int32 × Int64 × Int64) ⊕ (Int32 × Int32 × Int32 × Int32 × Int32 × Int64 × Int64 × (Nat → Int64) × Int32 × Int32 × Int32 × Int64 × Int64)) :=
  if (12 : Int32) ≤ v2 then Option.bind (fX0_lookAt_111 o_seen_wide o_seen_high o_seen_hex o_seen_ones o_seen_twos o_found_r o_turned_wide o_turned_high o_turned_hex o_turned_ones o_turned_twos) fun z => some (.inr z) else Option.bind (fX1_isTurning o_seen_hex v2) fun q46 => if q46 = 0 then fX0_lookAt_78 o_seen_wide o_seen_high o_seen_ones o_seen_twos o_found_r o_turned_wide o_turned_high o_turned_hex o_turned_ones o_turned_twos v2 else Option.bind (fX6_turnFrom o_seen_wide o_seen_high o_seen_hex o_seen_ones o_seen_twos o_seen_hex v2) fun q68 => if q68.1 = 0 then fX0_lookAt_78 o_seen_wide o_seen_high o_seen_ones o_seen_twos o_found_r q68.2.1 q68.2.2.1 q68.2.2.2.1 q68.2.2.2.2.1 q68.2.2.2.2.2 v2 else fX0_lookAt_79 o_seen_wide o_seen_high o_seen_ones o_seen_twos o_found_r q68.2.1 q68.2.2.1 q68.2.2.2.1 q68.2.2.2.2.1 q68.2.2.2.2.2 v2 (1 : Int32)
def fX0_lookAt_29 (o_seen_wide : Int32) (o_seen_high : Int32) (o_seen_hex : Int32) (o_seen_ones : Int64) (o_seen_twos : Int64) (v2 : Int32) (o_found_r : Nat → Int64) (o_turned_wide : Int32) (o_turned_high : Int32) (o_turned_hex : Int32) (o_turned_ones : Int64) (o_turned_twos : Int64) : Option (Int32 × Int32 × Int32 × Int32 × Int32 × Int64 × Int64 × (Nat → Int64) × Int32 × Int32 × Int32 × Int64 × Int64) := ds_it (fun s => fX0_lookAt_29_b o_seen_wide o_seen_high o_seen_hex o_seen_ones o_seen_twos s.1 s.2.1 s.2.2.1 s.2.2.2.1 s.2.2.2.2.1 s.2.2.2.2.2.1 s.2.2.2.2.2.2) 1000 (v2, o_found_r, o_turned_wide, o_turned_high, o_turned_hex, o_turned_ones, o_turned_twos)
def fX0_lookAt_19 (p1_wide : Int32) (p1_high : Int32) (p1_hex : Int32) (p1_ones : Int64) (p1_twos : Int64) (o_found_r : Nat → Int64) (o_turned_wide : Int32) (o_turned_high : Int32) (o_turned_hex : Int32) (o_turned_ones : Int64) (o_turned_twos : Int64) : Option (Int32 × Int32 × Int32 × Int32 × Int32 × Int64 × Int64 × (Nat → Int64) × Int32 × Int32 × Int32 × Int64 × Int64) :=
  Option.bind (fX6_copyFrom p1_wide p1_high p1_hex p1_ones p1_twos) fun q24 => fX0_lookAt_29 q24.1 q24.2.1 q24.2.2.1 q24.2.2.2.1 q24.2.2.2.2 (0 : Int32) o_found_r o_turned_wide o_turned_high o_turned_hex o_turned_ones o_turned_twos
def fX0_lookAt (o_looked : Int32) (o_stepsFound : Int32) (o_seen_wide : Int32) (o_seen_high : Int32) (o_seen_hex : Int32) (o_seen_ones : Int64) (o_seen_twos : Int64) (p1_wide : Int32) (p1_high : Int32) (p1_hex : Int32) (p1_ones : Int64) (p1_twos : Int64) (o_found_r : Nat → Int64) (o_turned_wide : Int32) (o_turned_high : Int32) (o_turned_hex : Int32) (o_turned_ones : Int64) (o_turned_twos : Int64) : Option (Int32 × Int32 × Int32 × Int32 × Int32 × Int64 × Int64 × (Nat → Int64) × Int32 × Int32 × Int32 × Int64 × Int64) :=
  if o_looked = 0 then fX0_lookAt_19 p1_wide p1_high p1_hex p1_ones p1_twos o_found_r o_turned_wide o_turned_high o_turned_hex o_turned_ones o_turned_twos else Option.bind (fX6_same o_seen_wide o_seen_high o_seen_hex o_seen_ones o_seen_twos p1_wide p1_high p1_hex p1_ones p1_twos) fun q12 => if q12 = 0 then fX0_lookAt_19 p1_wide p1_high p1_hex p1_ones p1_twos o_found_r o_turned_wide o_turned_high o_turned_hex o_turned_ones o_turned_twos else some (o_looked, o_stepsFound, o_seen_wide, o_seen_high, o_seen_hex, o_seen_ones, o_seen_twos, o_found_r, o_turned_wide, o_turned_high, o_turned_hex, o_turned_ones, o_turned_twos)
set_option maxHeartbeats 4000000 in
set_option maxRecDepth 100000 in
theorem c_X0_lookAt (l : Launch) (dC : Nat → ClassId) (dI : Nat → Nat → Nat) (ca : Nat → ClassId) (sa : Nat → Nat) (h_o : Nat) (h_o_seen : Nat) (h_o_turned : Nat) (h_o_found : Nat) (h_p1 : Nat) (sz : Nat) (o_looked : Int32) (o_stepsFound : Int32) (o_firstX : Int32) (o_firstY : Int32) (o_secondX : Int32) (o_secondY : Int32) (o_seen_wide : Int32) (o_seen_high : Int32) (o_seen_hex : Int32) (o_seen_ones : Int64) (o_seen_twos : Int64) (p1_wide : Int32) (p1_high : Int32) (p1_hex : Int32) (p1_ones : Int64) (p1_twos : Int64) (o_found_r : Nat → Int64) (o_turned_wide : Int32) (o_turned_high : Int32) (o_turned_hex : Int32) (o_turned_ones : Int64) (o_turned_twos : Int64) (res : Int32 × Int32 × Int32 × Int32 × Int32 × Int64 × Int64 × (Nat → Int64) × Int32 × Int32 × Int32 × Int64 × Int64) (hf : fX0_lookAt o_looked o_stepsFound o_seen_wide o_seen_high o_seen_hex o_seen_ones o_seen_twos p1_wide p1_high p1_hex p1_ones p1_twos o_found_r o_turned_wide o_turned_high o_turned_hex o_turned_ones o_turned_twos = some res) : Met l yX0_lookAt (Cond.code yX0_lookAt cX0_lookAt 4 none :: ds_gw) { frames := 5, cells := 0, slots := 0, locals := 127 } (va_Pc [.ref h_o, .ref h_p1] (ds_Pre dC dI ca sa [(h_o, .inr (0, [.ref h_o_seen, .ref h_o_turned, .ref h_o_found, .int o_looked, .int o_stepsFound, .int o_firstX, .int o_firstY, .int o_secondX, .int o_secondY])), (h_o_seen, .inr (5, [.int o_seen_wide, .int o_seen_high, .int o_seen_hex, .long o_seen_ones, .long o_seen_twos])), (h_p1, .inr (5, [.int p1_wide, .int p1_high, .int p1_hex, .long p1_ones, .long p1_twos])), (h_o_found, .inl (ca 1, 12, .inr (.inl o_found_r))), (h_o_turned, .inr (5, [.int o_turned_wide, .int o_turned_high, .int o_turned_hex, .long o_turned_ones, .long o_turned_twos]))] sz)) (va_Qv (fun (_ : Unit) => True) (ds_B dC dI (va_A [(h_o, .inr (0, [.ref h_o_seen, .ref h_o_turned, .ref h_o_found, .int o_looked, .int o_stepsFound, .int o_firstX, .int o_firstY, .int o_secondX, .int o_secondY])), (h_o_seen, .inr (5, [.int o_seen_wide, .int o_seen_high, .int o_seen_hex, .long o_seen_ones, .long o_seen_twos])), (h_p1, .inr (5, [.int p1_wide, .int p1_high, .int p1_hex, .long p1_ones, .long p1_twos])), (h_o_found, .inl (ca 1, 12, .inr (.inl o_found_r))), (h_o_turned, .inr (5, [.int o_turned_wide, .int o_turned_high, .int o_turned_hex, .long o_turned_ones, .long o_turned_twos]))] sz) [(h_o, .inr (0, [.ref h_o_seen, .ref h_o_turned, .ref h_o_found, .int res.1, .int res.2.1, .int o_firstX, .int o_firstY, .int o_secondX, .int o_secondY])), (h_o_seen, .inr (5, [.int res.2.2.1, .int res.2.2.2.1, .int res.2.2.2.2.1, .long res.2.2.2.2.2.1, .long res.2.2.2.2.2.2.1])), (h_p1, .inr (5, [.int p1_wide, .int p1_high, .int p1_hex, .long p1_ones, .long p1_twos])), (h_o_found, .inl (ca 1, 12, .inr (.inl res.2.2.2.2.2.2.2.1))), (h_o_turned, .inr (5, [.int res.2.2.2.2.2.2.2.2.1, .int res.2.2.2.2.2.2.2.2.2.1, .int res.2.2.2.2.2.2.2.2.2.2.1, .long res.2.2.2.2.2.2.2.2.2.2.2.1, .long res.2.2.2.2.2.2.2.2.2.2.2.2]))]) (va_A [(h_o, .inr (0, [.ref h_o_seen, .ref h_o_turned, .ref h_o_found, .int o_looked, .int o_stepsFound, .int o_firstX, .int o_firstY, .int o_secondX, .int o_secondY])), (h_o_seen, .inr (5, [.int o_seen_wide, .int o_seen_high, .int o_seen_hex, .long o_seen_ones, .long o_seen_twos])), (h_p1, .inr (5, [.int p1_wide, .int p1_high, .int p1_hex, .long p1_ones, .long p1_twos])), (h_o_found, .inl (ca 1, 12, .inr (.inl o_found_r))), (h_o_turned, .inr (5, [.int o_turned_wide, .int o_turned_high, .int o_turned_hex, .long o_turned_ones, .long o_turned_twos]))] sz)) 0 0 (va_A [(h_o, .inr (0, [.ref h_o_seen, .ref h_o_turned, .ref h_o_found, .int o_looked, .int o_stepsFound, .int o_firstX, .int o_firstY, .int o_secondX, .int o_secondY])), (h_o_seen, .inr (5, [.int o_seen_wide, .int o_seen_high, .int o_seen_hex, .long o_seen_ones, .long o_seen_twos])), (h_p1, .inr (5, [.int p1_wide, .int p1_high, .int p1_hex, .long p1_ones, .long p1_twos])), (h_o_found, .inl (ca 1, 12, .inr (.inl o_found_r))), (h_o_turned, .inr (5, [.int o_turned_wide, .int o_turned_high, .int o_turned_hex, .long o_turned_ones, .long o_turned_twos]))] sz) := by
  refine Met.ofW (cc := cX0_lookAt) (maxL := 4) (ret := none) (by decide) rfl ?_
  intro p e s m args below meth c s₁ B hml hv
  obtain ⟨rfl, hsz, hP, hK, hD0, hE⟩ := hv
  have hx := B.exec
  have hb := B.bytes
  have hr := B.returns
  have hts := atoms_spec (ws := Cond.code yX0_lookAt cX0_lookAt 4 none :: ds_gw) B.pre
  have hg : ∀ {w : Cond}, w ∈ ds_gw → w.before _ s = true := fun h => hts _ (List.mem_cons_of_mem _ h)
  have hown : s.vm.findClass RX0 = some m.cls := findClass_of_methodNamed B.named
  have hlocks := B.notSynchronized
  subst hsz
  have hD := hD0.self (sz := s.heap.size)
  generalize hAe : va_A [(h_o, .inr (0, [.ref h_o_seen, .ref h_o_turned, .ref h_o_found, .int o_looked, .int o_stepsFound, .int o_firstX, .int o_firstY, .int o_secondX, .int o_secondY])), (h_o_seen, .inr (5, [.int o_seen_wide, .int o_seen_high, .int o_seen_hex, .long o_seen_ones, .long o_seen_twos])), (h_p1, .inr (5, [.int p1_wide, .int p1_high, .int p1_hex, .long p1_ones, .long p1_twos])), (h_o_found, .inl (ca 1, 12, .inr (.inl o_found_r))), (h_o_turned, .inr (5, [.int o_turned_wide, .int o_turned_high, .int o_turned_hex, .long o_turned_ones, .long o_turned_twos]))] s.heap.size = A at hD hE ⊢
  have hA : ∀ q : Nat, s.heap.size ≤ q → A q := fun q h => by rw [← hAe]; exact Or.inr h
  have hS : va_S A s.heap s.heap [] := va_S.rf
  have hl := lv_entry ([.ref h_o, .ref h_p1]) (n := 4) (Nat.le_of_ble_eq_true rfl)
  rw [lg_entry_eq]
  generalize (lg_sl ([.ref h_o, .ref h_p1]) ++ List.replicate (4 - (lg_sl ([.ref h_o, .ref h_p1])).length) Slot.unset).toArray = ls at hl ⊢
  have hl : lv_has ls 4 [(0, .ref h_o), (1, .ref h_p1)] := hl
  obtain ⟨G0, eG0⟩ : ∃ G : (Int32 × Int32 × Int32 × Int32 × Int32 × Int64 × Int64 × (Nat → Int64) × Int32 × Int32 × Int32 × Int64 × Int64) → Prop, G = (fun r => r = res) := ⟨_, rfl⟩
  obtain ⟨rr, hrr⟩ : ∃ z, z = res := ⟨_, rfl⟩
  rw [← hrr] at hf
  have hG : G0 rr := by subst eG0; exact hrr
  refine ds_cap (fun WW h1 h2 => ?_)
  have J_111 : ∀ (o_looked : Int32) (o_stepsFound : Int32) (o_seen_wide : Int32) (o_seen_high : Int32) (o_seen_hex : Int32) (o_seen_ones : Int64) (o_seen_twos : Int64) (o_found_r : Nat → Int64) (o_turned_wide : Int32) (o_turned_high : Int32) (o_turned_hex : Int32) (o_turned_ones : Int64) (o_turned_twos : Int64) (rr : Int32 × Int32 × Int32 × Int32 × Int32 × Int64 × Int64 × (Nat → Int64) × Int32 × Int32 × Int32 × Int64 × Int64) (hf : fX0_lookAt_111 o_seen_wide o_seen_high o_seen_hex o_seen_ones o_seen_twos o_found_r o_turned_wide o_turned_high o_turned_hex o_turned_ones o_turned_twos = some rr) (hG : G0 rr) (H : Heap) (locs : List Loc) (hP : va_P (dC, dI) vwCl [(h_o, .inr (0, [.ref h_o_seen, .ref h_o_turned, .ref h_o_found, .int o_looked, .int o_stepsFound, .int o_firstX, .int o_firstY, .int o_secondX, .int o_secondY])), (h_o_seen, .inr (5, [.int o_seen_wide, .int o_seen_high, .int o_seen_hex, .long o_seen_ones, .long o_seen_twos])), (h_p1, .inr (5, [.int p1_wide, .int p1_high, .int p1_hex, .long p1_ones, .long p1_twos])), (h_o_found, .inl (ca 1, 12, .inr (.inl o_found_r))), (h_o_turned, .inr (5, [.int o_turned_wide, .int o_turned_high, .int o_turned_hex, .long o_turned_ones, .long o_turned_twos]))] H) (hD : va_D A [(h_o, .inr (0, [.ref h_o_seen, .ref h_o_turned, .ref h_o_found, .int o_looked, .int o_stepsFound, .int o_firstX, .int o_firstY, .int o_secondX, .int o_secondY])), (h_o_seen, .inr (5, [.int o_seen_wide, .int o_seen_high, .int o_seen_hex, .long o_seen_ones, .long o_seen_twos])), (h_p1, .inr (5, [.int p1_wide, .int p1_high, .int p1_hex, .long p1_ones, .long p1_twos])), (h_o_found, .inl (ca 1, 12, .inr (.inl o_found_r))), (h_o_turned, .inr (5, [.int o_turned_wide, .int o_turned_high, .int o_turned_hex, .long o_turned_ones, .long o_turned_twos]))]) (hS : va_S A s.heap H locs) (ls : Array Slot) (hl : lv_has ls 4 [(0, .ref h_o)]), WW H locs (F0 m 111 ls []) := by
    intro o_looked o_stepsFound o_seen_wide o_seen_high o_seen_hex o_seen_ones o_seen_twos o_found_r o_turned_wide o_turned_high o_turned_hex o_turned_ones o_turned_twos rr hf hG H locs hP hD hS ls hl
    refine h2 ?_
    unfold fX0_lookAt_111 at hf
    refine lv_aload_n hx hb dX0_lookAt_111 rfl (lv_at hl 0 rfl) ?_
    refine lv_iconst (v := 1) hx hb dX0_lookAt_112 (by decide) ?_
    refine va_put (D := (dC, dI)) (ci := 0) (v := .int (1 : Int32)) (ty := tyX0 3) (C := RX0) (T := TX0) (N := 9) hx hb hts (fun w h => List.mem_cons_of_mem _ (kc_X0 w h)) tyX0 tyX0_ok nmX0 hown hK hP hD hS 0 rfl rfl 3 (by decide) (hg kw_117) (fun _ h9 => h9) rfl (by decide +kernel) rfl rfl (Nat.le_of_ble_eq_true rfl) dX0_lookAt_113 (fun H locs hP hD hS => ?_)
    have hP : va_P (dC, dI) vwCl [(h_o, .inr (0, [.ref h_o_seen, .ref h_o_turned, .ref h_o_found, .int (1 : Int32), .int o_stepsFound, .int o_firstX, .int o_firstY, .int o_secondX, .int o_secondY])), (h_o_seen, .inr (5, [.int o_seen_wide, .int o_seen_high, .int o_seen_hex, .long o_seen_ones, .long o_seen_twos])), (h_p1, .inr (5, [.int p1_wide, .int p1_high, .int p1_hex, .long p1_ones, .long p1_twos])), (h_o_found, .inl (ca 1, 12, .inr (.inl o_found_r))), (h_o_turned, .inr (5, [.int o_turned_wide, .int o_turned_high, .int o_turned_hex, .long o_turned_ones, .long o_turned_twos]))] H := hP
    have hD : va_D A [(h_o, .inr (0, [.ref h_o_seen, .ref h_o_turned, .ref h_o_found, .int (1 : Int32), .int o_stepsFound, .int o_firstX, .int o_firstY, .int o_secondX, .int o_secondY])), (h_o_seen, .inr (5, [.int o_seen_wide, .int o_seen_high, .int o_seen_hex, .long o_seen_ones, .long o_seen_twos])), (h_p1, .inr (5, [.int p1_wide, .int p1_high, .int p1_hex, .long p1_ones, .long p1_twos])), (h_o_found, .inl (ca 1, 12, .inr (.inl o_found_r))), (h_o_turned, .inr (5, [.int o_turned_wide, .int o_turned_high, .int o_turned_hex, .long o_turned_ones, .long o_turned_twos]))] := hD
    refine lv_aload_n hx hb dX0_lookAt_116 rfl (lv_at hl 0 rfl) ?_
    refine lv_iconst (v := 0) hx hb dX0_lookAt_117 (by decide) ?_
    refine va_put (D := (dC, dI)) (ci := 0) (v := .int (0 : Int32)) (ty := tyX0 4) (C := RX0) (T := TX0) (N := 9) hx hb hts (fun w h => List.mem_cons_of_mem _ (kc_X0 w h)) tyX0 tyX0_ok nmX0 hown hK hP hD hS 0 rfl rfl 4 (by decide) (hg kw_127) (fun _ h9 => h9) rfl (by decide +kernel) rfl rfl (Nat.le_of_ble_eq_true rfl) dX0_lookAt_118 (fun H locs hP hD hS => ?_)
    have hP : va_P (dC, dI) vwCl [(h_o, .inr (0, [.ref h_o_seen, .ref h_o_turned, .ref h_o_found, .int (1 : Int32), .int (0 : Int32), .int o_firstX, .int o_firstY, .int o_secondX, .int o_secondY])), (h_o_seen, .inr (5, [.int o_seen_wide, .int o_seen_high, .int o_seen_hex, .long o_seen_ones, .long o_seen_twos])), (h_p1, .inr (5, [.int p1_wide, .int p1_high, .int p1_hex, .long p1_ones, .long p1_twos])), (h_o_found, .inl (ca 1, 12, .inr (.inl o_found_r))), (h_o_turned, .inr (5, [.int o_turned_wide, .int o_turned_high, .int o_turned_hex, .long o_turned_ones, .long o_turned_twos]))] H := hP
    have hD : va_D A [(h_o, .inr (0, [.ref h_o_seen, .ref h_o_turned, .ref h_o_found, .int (1 : Int32), .int (0 : Int32), .int o_firstX, .int o_firstY, .int o_secondX, .int o_secondY])), (h_o_seen, .inr (5, [.int o_seen_wide, .int o_seen_high, .int o_seen_hex, .long o_seen_ones, .long o_seen_twos])), (h_p1, .inr (5, [.int p1_wide, .int p1_high, .int p1_hex, .long p1_ones, .long p1_twos])), (h_o_found, .inl (ca 1, 12, .inr (.inl o_found_r))), (h_o_turned, .inr (5, [.int o_turned_wide, .int o_turned_high, .int o_turned_hex, .long o_turned_ones, .long o_turned_twos]))] := hD
    have hf := Option.some.inj hf
    subst hf
    rw [eG0] at hG
    have hG : _ = res := hG
    subst hG
    exact W.vret hx hb hr (fun t ht hW => ⟨⟨(), rfl, trivial, by rw [ht]; exact hP, hD⟩, hS.F ht⟩) hS.2.2 dX0_lookAt_121
  have J_29 : ∀ (o_looked : Int32) (o_stepsFound : Int32) (o_seen_wide : Int32) (o_seen_high : Int32) (o_seen_hex : Int32) (o_seen_ones : Int64) (o_seen_twos : Int64) (n : Nat) (v2 : Int32) (o_found_r : Nat → Int64) (o_turned_wide : Int32) (o_turned_high : Int32) (o_turned_hex : Int32) (o_turned_ones : Int64) (o_turned_twos : Int64) (rr : Int32 × Int32 × Int32 × Int32 × Int32 × Int64 × Int64 × (Nat → Int64) × Int32 × Int32 × Int32 × Int64 × Int64) (hf : ds_it (fun s => fX0_lookAt_29_b o_seen_wide o_seen_high o_seen_hex o_seen_ones o_seen_twos s.1 s.2.1 s.2.2.1 s.2.2.2.1 s.2.2.2.2.1 s.2.2.2.2.2.1 s.2.2.2.2.2.2) n (v2, o_found_r, o_turned_wide, o_turned_high, o_turned_hex, o_turned_ones, o_turned_twos) = some rr) (hG : G0 rr) (H : Heap) (locs : List Loc) (hP : va_P (dC, dI) vwCl [(h_o, .inr (0, [.ref h_o_seen, .ref h_o_turned, .ref h_o_found, .int o_looked, .int o_stepsFound, .int o_firstX, .int o_firstY, .int o_secondX, .int o_secondY])), (h_o_seen, .inr (5, [.int o_seen_wide, .int o_seen_high, .int o_seen_hex, .long o_seen_ones, .long o_seen_twos])), (h_p1, .inr (5, [.int p1_wide, .int p1_high, .int p1_hex, .long p1_ones, .long p1_twos])), (h_o_found, .inl (ca 1, 12, .inr (.inl o_found_r))), (h_o_turned, .inr (5, [.int o_turned_wide, .int o_turned_high, .int o_turned_hex, .long o_turned_ones, .long o_turned_twos]))] H) (hD : va_D A [(h_o, .inr (0, [.ref h_o_seen, .ref h_o_turned, .ref h_o_found, .int o_looked, .int o_stepsFound, .int o_firstX, .int o_firstY, .int o_secondX, .int o_secondY])), (h_o_seen, .inr (5, [.int o_seen_wide, .int o_seen_high, .int o_seen_hex, .long o_seen_ones, .long o_seen_twos])), (h_p1, .inr (5, [.int p1_wide, .int p1_high, .int p1_hex, .long p1_ones, .long p1_twos])), (h_o_found, .inl (ca 1, 12, .inr (.inl o_found_r))), (h_o_turned, .inr (5, [.int o_turned_wide, .int o_turned_high, .int o_turned_hex, .long o_turned_ones, .long o_turned_twos]))]) (hS : va_S A s.heap H locs) (ls : Array Slot) (hl : lv_has ls 4 [(0, .ref h_o), (2, .int v2)]), WW H locs (F0 m 29 ls []) := by
    intro o_looked o_stepsFound o_seen_wide o_seen_high o_seen_hex o_seen_ones o_seen_twos n
    induction n with
    | zero => intro v2 o_found_r o_turned_wide o_turned_high o_turned_hex o_turned_ones o_turned_twos rr hf; exact (ds_it_zero hf).elim
    | succ n ih29 =>
      intro v2 o_found_r o_turned_wide o_turned_high o_turned_hex o_turned_ones o_turned_twos rr hf hG H locs hP hD hS ls hl
      refine h2 ?_
      obtain ⟨rr, hf, hG⟩ := ds_it_succ hf hG
      replace hf : fX0_lookAt_29_b o_seen_wide o_seen_high o_seen_hex o_seen_ones o_seen_twos v2 o_found_r o_turned_wide o_turned_high o_turned_hex o_turned_ones o_turned_twos = some rr := hf
      obtain ⟨G1, eG1⟩ : ∃ G : ((Int32 × (Nat → Int64) × Int32 × Int32 × Int32 × Int64 × Int64) ⊕ (Int32 × Int32 × Int32 × Int32 × Int32 × Int64 × Int64 × (Nat → Int64) × Int32 × Int32 × Int32 × Int64 × Int64)) → Prop, G = ds_G (fun s' => ∃ r', ds_it (fun s => fX0_lookAt_29_b o_seen_wide o_seen_high o_seen_hex o_seen_ones o_seen_twos s.1 s.2.1 s.2.2.1 s.2.2.2.1 s.2.2.2.2.1 s.2.2.2.2.2.1 s.2.2.2.2.2.2) n s' = some r' ∧ G0 r') G0 := ⟨_, rfl⟩
      rw [← eG1] at hG
      have J_104 : ∀ (v2 : Int32) (w0 : Int64) (s1 : Int32) (o_found_r : Nat → Int64) (o_turned_wide : Int32) (o_turned_high : Int32) (o_turned_hex : Int32) (o_turned_ones : Int64) (o_turned_twos : Int64) (rr : (Int32 × (Nat → Int64) × Int32 × Int32 × Int32 × Int64 × Int64) ⊕ (Int32 × Int32 × Int32 × Int32 × Int32 × Int64 × Int64 × (Nat → Int64) × Int32 × Int32 × Int32 × Int64 × Int64)) (hf : fX0_lookAt_104 o_found_r o_turned_wide o_turned_high o_turned_hex o_turned_ones o_turned_twos v2 w0 s1 = some rr) (hG : G1 rr) (H : Heap) (locs : List Loc) (hP : va_P (dC, dI) vwCl [(h_o, .inr (0, [.ref h_o_seen, .ref h_o_turned, .ref h_o_found, .int o_looked, .int o_stepsFound, .int o_firstX, .int o_firstY, .int o_secondX, .int o_secondY])), (h_o_seen, .inr (5, [.int o_seen_wide, .int o_seen_high, .int o_seen_hex, .long o_seen_ones, .long o_seen_twos])), (h_p1, .inr (5, [.int p1_wide, .int p1_high, .int p1_hex, .long p1_ones, .long p1_twos])), (h_o_found, .inl (ca 1, 12, .inr (.inl o_found_r))), (h_o_turned, .inr (5, [.int o_turned_wide, .int o_turned_high, .int o_turned_hex, .long o_turned_ones, .long o_turned_twos]))] H) (hD : va_D A [(h_o, .inr (0, [.ref h_o_seen, .ref h_o_turned, .ref h_o_found, .int o_looked, .int o_stepsFound, .int o_firstX, .int o_firstY, .int o_secondX, .int o_secondY])), (h_o_seen, .inr (5, [.int o_seen_wide, .int o_seen_high, .int o_seen_hex, .long o_seen_ones, .long o_seen_twos])), (h_p1, .inr (5, [.int p1_wide, .int p1_high, .int p1_hex, .long p1_ones, .long p1_twos])), (h_o_found, .inl (ca 1, 12, .inr (.inl o_found_r))), (h_o_turned, .inr (5, [.int o_turned_wide, .int o_turned_high, .int o_turned_hex, .long o_turned_ones, .long o_turned_twos]))]) (hS : va_S A s.heap H locs) (ls : Array Slot) (hl : lv_has ls 4 [(0, .ref h_o), (2, .int v2)]), WW H locs (F0 m 104 ls [.long w0, .int s1, .ref h_o_found]) := by
        intro v2 w0 s1 o_found_r o_turned_wide o_turned_high o_turned_hex o_turned_ones o_turned_twos rr hf hG H locs hP hD hS ls hl
        refine h2 ?_
        unfold fX0_lookAt_104 at hf
        obtain ⟨i_104, hf⟩ := ds_ci hf
        refine va_last hx hb hK hP hD hS 3 1 rfl rfl i_104 dX0_lookAt_104 (fun H locs hP hD hS => ?_)
        have hP : va_P (dC, dI) vwCl [(h_o, .inr (0, [.ref h_o_seen, .ref h_o_turned, .ref h_o_found, .int o_looked, .int o_stepsFound, .int o_firstX, .int o_firstY, .int o_secondX, .int o_secondY])), (h_o_seen, .inr (5, [.int o_seen_wide, .int o_seen_high, .int o_seen_hex, .long o_seen_ones, .long o_seen_twos])), (h_p1, .inr (5, [.int p1_wide, .int p1_high, .int p1_hex, .long p1_ones, .long p1_twos])), (h_o_found, .inl (ca 1, 12, .inr (.inl (vp_updL o_found_r s1.toNatClampNeg w0)))), (h_o_turned, .inr (5, [.int o_turned_wide, .int o_turned_high, .int o_turned_hex, .long o_turned_ones, .long o_turned_twos]))] H := hP
        have hD : va_D A [(h_o, .inr (0, [.ref h_o_seen, .ref h_o_turned, .ref h_o_found, .int o_looked, .int o_stepsFound, .int o_firstX, .int o_firstY, .int o_secondX, .int o_secondY])), (h_o_seen, .inr (5, [.int o_seen_wide, .int o_seen_high, .int o_seen_hex, .long o_seen_ones, .long o_seen_twos])), (h_p1, .inr (5, [.int p1_wide, .int p1_high, .int p1_hex, .long p1_ones, .long p1_twos])), (h_o_found, .inl (ca 1, 12, .inr (.inl (vp_updL o_found_r s1.toNatClampNeg w0)))), (h_o_turned, .inr (5, [.int o_turned_wide, .int o_turned_high, .int o_turned_hex, .long o_turned_ones, .long o_turned_twos]))] := hD
        refine lv_iinc (v := (v2 + 1)) (lv' := [(2, .int (v2 + 1)), (0, .ref h_o)]) hx hb dX0_lookAt_105 hl (k := 1) rfl rfl (by decide) rfl (fun ls hl => ?_)
        refine lv_goto (tgt := 29) hx hb dX0_lookAt_108 (by decide) ?_
        have hf := Option.some.inj hf
        subst hf
        rw [eG1] at hG
        obtain ⟨rr, hf, hG⟩ := hG
        exact h1 (ih29 (v2 + 1) (vp_updL o_found_r s1.toNatClampNeg w0) o_turned_wide o_turned_high o_turned_hex o_turned_ones o_turned_twos rr hf hG _ _ hP hD hS _ (lv_sub hl [1, 0] rfl))
      have J_79 : ∀ (v2 : Int32) (s0 : Int32) (o_found_r : Nat → Int64) (o_turned_wide : Int32) (o_turned_high : Int32) (o_turned_hex : Int32) (o_turned_ones : Int64) (o_turned_twos : Int64) (rr : (Int32 × (Nat → Int64) × Int32 × Int32 × Int32 × Int64 × Int64) ⊕ (Int32 × Int32 × Int32 × Int32 × Int32 × Int64 × Int64 × (Nat → Int64) × Int32 × Int32 × Int32 × Int64 × Int64)) (hf : fX0_lookAt_79 o_seen_wide o_seen_high o_seen_ones o_seen_twos o_found_r o_turned_wide o_turned_high o_turned_hex o_turned_ones o_turned_twos v2 s0 = some rr) (hG : G1 rr) (H : Heap) (locs : List Loc) (hP : va_P (dC, dI) vwCl [(h_o, .inr (0, [.ref h_o_seen, .ref h_o_turned, .ref h_o_found, .int o_looked, .int o_stepsFound, .int o_firstX, .int o_firstY, .int o_secondX, .int o_secondY])), (h_o_seen, .inr (5, [.int o_seen_wide, .int o_seen_high, .int o_seen_hex, .long o_seen_ones, .long o_seen_twos])), (h_p1, .inr (5, [.int p1_wide, .int p1_high, .int p1_hex, .long p1_ones, .long p1_twos])), (h_o_found, .inl (ca 1, 12, .inr (.inl o_found_r))), (h_o_turned, .inr (5, [.int o_turned_wide, .int o_turned_high, .int o_turned_hex, .long o_turned_ones, .long o_turned_twos]))] H) (hD : va_D A [(h_o, .inr (0, [.ref h_o_seen, .ref h_o_turned, .ref h_o_found, .int o_looked, .int o_stepsFound, .int o_firstX, .int o_firstY, .int o_secondX, .int o_secondY])), (h_o_seen, .inr (5, [.int o_seen_wide, .int o_seen_high, .int o_seen_hex, .long o_seen_ones, .long o_seen_twos])), (h_p1, .inr (5, [.int p1_wide, .int p1_high, .int p1_hex, .long p1_ones, .long p1_twos])), (h_o_found, .inl (ca 1, 12, .inr (.inl o_found_r))), (h_o_turned, .inr (5, [.int o_turned_wide, .int o_turned_high, .int o_turned_hex, .long o_turned_ones, .long o_turned_twos]))]) (hS : va_S A s.heap H locs) (ls : Array Slot) (hl : lv_has ls 4 [(0, .ref h_o), (2, .int v2)]), WW H locs (F0 m 79 ls [.int s0]) := by
        intro v2 s0 o_found_r o_turned_wide o_turned_high o_turned_hex o_turned_ones o_turned_twos rr hf hG H locs hP hD hS ls hl
        refine h2 ?_
        unfold fX0_lookAt_79 at hf
        refine lv_istore_n (lv' := [(3, .int s0), (0, .ref h_o), (2, .int v2)]) hx hb dX0_lookAt_79 rfl hl (by decide) rfl (fun ls hl => ?_)
        refine lv_aload_n hx hb dX0_lookAt_80 rfl (lv_at hl 1 rfl) ?_
        refine va_get (D := (dC, dI)) (ci := 0) (v := .ref h_o_found) (C := RX0) (T := TX0) (N := 9) hx hb hts (fun w h => List.mem_cons_of_mem _ (kc_X0 w h)) hown hK hP 0 rfl rfl 2 (by decide) (hg kw_128) (fun _ h9 => h9) rfl dX0_lookAt_81 ?_
        refine lv_iload_n hx hb dX0_lookAt_84 rfl (lv_at hl 2 rfl) ?_
        refine lv_iload_n hx hb dX0_lookAt_85 rfl (lv_at hl 0 rfl) ?_
        refine lv_if_eq (tgt := 103) hx hb dX0_lookAt_86 (by decide) (fun c_86 => ?_) (fun c_86 => ?_)
        · replace hf := ds_t c_86 hf
          refine lv_lconst (v := 0) hx hb dX0_lookAt_103 (by decide) ?_
          exact h1 (J_104 v2 (0 : Int64) v2 o_found_r o_turned_wide o_turned_high o_turned_hex o_turned_ones o_turned_twos _ hf hG _ _ hP hD hS _ (lv_sub hl [1, 2] rfl))
        · replace hf := ds_f c_86 hf
          refine lv_aload_n hx hb dX0_lookAt_89 rfl (lv_at hl 1 rfl) ?_
          refine va_get (D := (dC, dI)) (ci := 0) (v := .ref h_o_seen) (C := RX0) (T := TX0) (N := 9) hx hb hts (fun w h => List.mem_cons_of_mem _ (kc_X0 w h)) hown hK hP 0 rfl rfl 0 (by decide) (hg kw_129) (fun _ h9 => h9) rfl dX0_lookAt_90 ?_
          refine lv_aload_n hx hb dX0_lookAt_93 rfl (lv_at hl 1 rfl) ?_
          refine va_get (D := (dC, dI)) (ci := 0) (v := .ref h_o_turned) (C := RX0) (T := TX0) (N := 9) hx hb hts (fun w h => List.mem_cons_of_mem _ (kc_X0 w h)) hown hK hP 0 rfl rfl 1 (by decide) (hg kw_130) (fun _ h9 => h9) rfl dX0_lookAt_94 ?_
          obtain ⟨q97, hq97, hf⟩ := ds_ob hf
          refine ds_calll (wr := [(h_o, .inr (0, [.ref h_o_seen, .ref h_o_turned, .ref h_o_found, .int o_looked, .int o_stepsFound, .int o_firstX, .int o_firstY, .int o_secondX, .int o_secondY])), (h_p1, .inr (5, [.int p1_wide, .int p1_high, .int p1_hex, .long p1_ones, .long p1_twos])), (h_o_found, .inl (ca 1, 12, .inr (.inl o_found_r)))]) (va_runV (As := [.ref h_o_turned]) (rest := [.int v2, .ref h_o_found]) ⟨hx, hb, hml, hown, hts⟩ (c_X6_stepsFrom l dC dI ca sa h_o_seen h_o_turned H.size o_seen_wide o_seen_high o_seen_hex o_seen_ones o_seen_twos o_turned_wide o_turned_high o_turned_hex o_turned_ones o_turned_twos  q97 hq97) (cwV 1 hts (ds_gV kw_131 kw_132 kw_133 kw_59 kw_134) rfl rfl rfl (by decide +kernel) ⟨Nat.le_of_ble_eq_true rfl, Nat.le_of_ble_eq_true rfl⟩) ⟨ds_blind, va_recv hK hP (ci := 5) (q0 := 1) rfl rfl, ds_at hP hD hK hE hS hA [1, 4] rfl rfl _⟩ rfl rfl hl.1 rfl (lv_room (Nat.le_of_ble_eq_true rfl)) dX0_lookAt_97 ⟨Nat.zero_le _, Nat.zero_le _⟩) hP hD hS hA [1, 4] [0, 2, 3] rfl rfl rfl (by decide) (fun H locs hP hD hS => ?_)
          have hP : va_P (dC, dI) vwCl [(h_o, .inr (0, [.ref h_o_seen, .ref h_o_turned, .ref h_o_found, .int o_looked, .int o_stepsFound, .int o_firstX, .int o_firstY, .int o_secondX, .int o_secondY])), (h_p1, .inr (5, [.int p1_wide, .int p1_high, .int p1_hex, .long p1_ones, .long p1_twos])), (h_o_found, .inl (ca 1, 12, .inr (.inl o_found_r))), (h_o_seen, .inr (5, [.int o_seen_wide, .int o_seen_high, .int o_seen_hex, .long o_seen_ones, .long o_seen_twos])), (h_o_turned, .inr (5, [.int o_turned_wide, .int o_turned_high, .int o_turned_hex, .long o_turned_ones, .long o_turned_twos]))] H := hP
          have hD : va_D A [(h_o, .inr (0, [.ref h_o_seen, .ref h_o_turned, .ref h_o_found, .int o_looked, .int o_stepsFound, .int o_firstX, .int o_firstY, .int o_secondX, .int o_secondY])), (h_p1, .inr (5, [.int p1_wide, .int p1_high, .int p1_hex, .long p1_ones, .long p1_twos])), (h_o_found, .inl (ca 1, 12, .inr (.inl o_found_r))), (h_o_seen, .inr (5, [.int o_seen_wide, .int o_seen_high, .int o_seen_hex, .long o_seen_ones, .long o_seen_twos])), (h_o_turned, .inr (5, [.int o_turned_wide, .int o_turned_high, .int o_turned_hex, .long o_turned_ones, .long o_turned_twos]))] := hD
          refine lv_goto (tgt := 104) hx hb dX0_lookAt_100 (by decide) ?_
          exact h1 (J_104 v2 q97 v2 o_found_r o_turned_wide o_turned_high o_turned_hex o_turned_ones o_turned_twos _ hf hG _ _ (hP.sub [0, 3, 1, 2, 4] rfl) (hD.sub [0, 3, 1, 2, 4] rfl rfl) hS _ (lv_sub hl [1, 2] rfl))
      have J_78 : ∀ (v2 : Int32) (o_found_r : Nat → Int64) (o_turned_wide : Int32) (o_turned_high : Int32) (o_turned_hex : Int32) (o_turned_ones : Int64) (o_turned_twos : Int64) (rr : (Int32 × (Nat → Int64) × Int32 × Int32 × Int32 × Int64 × Int64) ⊕ (Int32 × Int32 × Int32 × Int32 × Int32 × Int64 × Int64 × (Nat → Int64) × Int32 × Int32 × Int32 × Int64 × Int64)) (hf : fX0_lookAt_78 o_seen_wide o_seen_high o_seen_ones o_seen_twos o_found_r o_turned_wide o_turned_high o_turned_hex o_turned_ones o_turned_twos v2 = some rr) (hG : G1 rr) (H : Heap) (locs : List Loc) (hP : va_P (dC, dI) vwCl [(h_o, .inr (0, [.ref h_o_seen, .ref h_o_turned, .ref h_o_found, .int o_looked, .int o_stepsFound, .int o_firstX, .int o_firstY, .int o_secondX, .int o_secondY])), (h_o_seen, .inr (5, [.int o_seen_wide, .int o_seen_high, .int o_seen_hex, .long o_seen_ones, .long o_seen_twos])), (h_p1, .inr (5, [.int p1_wide, .int p1_high, .int p1_hex, .long p1_ones, .long p1_twos])), (h_o_found, .inl (ca 1, 12, .inr (.inl o_found_r))), (h_o_turned, .inr (5, [.int o_turned_wide, .int o_turned_high, .int o_turned_hex, .long o_turned_ones, .long o_turned_twos]))] H) (hD : va_D A [(h_o, .inr (0, [.ref h_o_seen, .ref h_o_turned, .ref h_o_found, .int o_looked, .int o_stepsFound, .int o_firstX, .int o_firstY, .int o_secondX, .int o_secondY])), (h_o_seen, .inr (5, [.int o_seen_wide, .int o_seen_high, .int o_seen_hex, .long o_seen_ones, .long o_seen_twos])), (h_p1, .inr (5, [.int p1_wide, .int p1_high, .int p1_hex, .long p1_ones, .long p1_twos])), (h_o_found, .inl (ca 1, 12, .inr (.inl o_found_r))), (h_o_turned, .inr (5, [.int o_turned_wide, .int o_turned_high, .int o_turned_hex, .long o_turned_ones, .long o_turned_twos]))]) (hS : va_S A s.heap H locs) (ls : Array Slot) (hl : lv_has ls 4 [(0, .ref h_o), (2, .int v2)]), WW H locs (F0 m 78 ls []) := by
        intro v2 o_found_r o_turned_wide o_turned_high o_turned_hex o_turned_ones o_turned_twos rr hf hG H locs hP hD hS ls hl
        refine h2 ?_
        unfold fX0_lookAt_78 at hf
        refine lv_iconst (v := 0) hx hb dX0_lookAt_78 (by decide) ?_
        exact h1 (J_79 v2 (0 : Int32) o_found_r o_turned_wide o_turned_high o_turned_hex o_turned_ones o_turned_twos _ hf hG _ _ hP hD hS _ (lv_sub hl [0, 1] rfl))
      unfold fX0_lookAt_29_b at hf
      refine lv_iload_n hx hb dX0_lookAt_29 rfl (lv_at hl 1 rfl) ?_
      refine lv_aload_n hx hb dX0_lookAt_30 rfl (lv_at hl 0 rfl) ?_
      refine va_get (D := (dC, dI)) (ci := 0) (v := .ref h_o_found) (C := RX0) (T := TX0) (N := 9) hx hb hts (fun w h => List.mem_cons_of_mem _ (kc_X0 w h)) hown hK hP 0 rfl rfl 2 (by decide) (hg kw_128) (fun _ h9 => h9) rfl dX0_lookAt_31 ?_
      refine va_alen (v := 12) hx hb hK hP 3 1 rfl rfl rfl dX0_lookAt_34 ?_
      refine lv_icmp_ge (tgt := 111) hx hb dX0_lookAt_35 (by decide) (fun c_35 => ?_) (fun c_35 => ?_)
      · replace hf := ds_t c_35 hf
        obtain ⟨rr, hr_0, hf⟩ := ds_ob hf
        have hf := Option.some.inj hf
        subst hf
        rw [eG1] at hG
        replace hG : G0 rr := hG
        have hf := hr_0
        exact h1 (J_111 o_looked o_stepsFound o_seen_wide o_seen_high o_seen_hex o_seen_ones o_seen_twos o_found_r o_turned_wide o_turned_high o_turned_hex o_turned_ones o_turned_twos _ hf hG _ _ hP hD hS _ (lv_sub hl [0] rfl))
      · replace hf := ds_f c_35 hf
        refine lv_aload_n hx hb dX0_lookAt_38 rfl (lv_at hl 0 rfl) ?_
        refine va_get (D := (dC, dI)) (ci := 0) (v := .ref h_o_seen) (C := RX0) (T := TX0) (N := 9) hx hb hts (fun w h => List.mem_cons_of_mem _ (kc_X0 w h)) hown hK hP 0 rfl rfl 0 (by decide) (hg kw_129) (fun _ h9 => h9) rfl dX0_lookAt_39 ?_
        refine va_getN (D := (dC, dI)) (ci := 5) (v := .int o_seen_hex) (C := RX6) (T := TX6) (N := 5) hx hb hts (fun w h => List.mem_cons_of_mem _ (kc_X6 w h)) hown hK hP 1 rfl rfl 2 (by decide) (va_Nw.use rfl (hE.1 _ kw_135)) (fun _ h9 => h9) rfl dX0_lookAt_42 ?_
        refine lv_iload_n hx hb dX0_lookAt_45 rfl (lv_at hl 1 rfl) ?_
        obtain ⟨q46, hq46, hf⟩ := ds_ob hf
        refine ds_calli (wr := [(h_o, .inr (0, [.ref h_o_seen, .ref h_o_turned, .ref h_o_found, .int o_looked, .int o_stepsFound, .int o_firstX, .int o_firstY, .int o_secondX, .int o_secondY])), (h_o_seen, .inr (5, [.int o_seen_wide, .int o_seen_high, .int o_seen_hex, .long o_seen_ones, .long o_seen_twos])), (h_p1, .inr (5, [.int p1_wide, .int p1_high, .int p1_hex, .long p1_ones, .long p1_twos])), (h_o_found, .inl (ca 1, 12, .inr (.inl o_found_r))), (h_o_turned, .inr (5, [.int o_turned_wide, .int o_turned_high, .int o_turned_hex, .long o_turned_ones, .long o_turned_twos]))]) (va_runS (As := [.int o_seen_hex, .int v2]) (rest := []) ⟨hx, hb, hml, hown, hts⟩ (c_X1_isTurning l dC dI ca sa  H.size  o_seen_hex v2 q46 hq46) (va_cwS 2 hts (ds_gS kw_136 kw_137 kw_2 kw_138) rfl rfl rfl (by decide +kernel) ⟨Nat.le_of_ble_eq_true rfl, Nat.le_of_ble_eq_true rfl⟩) ⟨ds_blind, ds_at hP hD hK hE hS hA [] rfl rfl _⟩ rfl rfl hl.1 rfl (lv_room (Nat.le_of_ble_eq_true rfl)) dX0_lookAt_46 ⟨Nat.zero_le _, Nat.zero_le _⟩) hP hD hS hA [] [0, 1, 2, 3, 4] rfl rfl rfl (by decide) (fun H locs hP hD hS => ?_)
        have hP : va_P (dC, dI) vwCl [(h_o, .inr (0, [.ref h_o_seen, .ref h_o_turned, .ref h_o_found, .int o_looked, .int o_stepsFound, .int o_firstX, .int o_firstY, .int o_secondX, .int o_secondY])), (h_o_seen, .inr (5, [.int o_seen_wide, .int o_seen_high, .int o_seen_hex, .long o_seen_ones, .long o_seen_twos])), (h_p1, .inr (5, [.int p1_wide, .int p1_high, .int p1_hex, .long p1_ones, .long p1_twos])), (h_o_found, .inl (ca 1, 12, .inr (.inl o_found_r))), (h_o_turned, .inr (5, [.int o_turned_wide, .int o_turned_high, .int o_turned_hex, .long o_turned_ones, .long o_turned_twos]))] H := hP
        have hD : va_D A [(h_o, .inr (0, [.ref h_o_seen, .ref h_o_turned, .ref h_o_found, .int o_looked, .int o_stepsFound, .int o_firstX, .int o_firstY, .int o_secondX, .int o_secondY])), (h_o_seen, .inr (5, [.int o_seen_wide, .int o_seen_high, .int o_seen_hex, .long o_seen_ones, .long o_seen_twos])), (h_p1, .inr (5, [.int p1_wide, .int p1_high, .int p1_hex, .long p1_ones, .long p1_twos])), (h_o_found, .inl (ca 1, 12, .inr (.inl o_found_r))), (h_o_turned, .inr (5, [.int o_turned_wide, .int o_turned_high, .int o_turned_hex, .long o_turned_ones, .long o_turned_twos]))] := hD
        refine lv_if_eq (tgt := 78) hx hb dX0_lookAt_49 (by decide) (fun c_49 => ?_) (fun c_49 => ?_)
        · replace hf := ds_t c_49 hf
          exact h1 (J_78 v2 o_found_r o_turned_wide o_turned_high o_turned_hex o_turned_ones o_turned_twos _ hf hG _ _ hP hD hS _ (lv_sub hl [0, 1] rfl))
        · replace hf := ds_f c_49 hf
          refine lv_aload_n hx hb dX0_lookAt_52 rfl (lv_at hl 0 rfl) ?_
          refine va_get (D := (dC, dI)) (ci := 0) (v := .ref h_o_turned) (C := RX0) (T := TX0) (N := 9) hx hb hts (fun w h => List.mem_cons_of_mem _ (kc_X0 w h)) hown hK hP 0 rfl rfl 1 (by decide) (hg kw_130) (fun _ h9 => h9) rfl dX0_lookAt_53 ?_
          refine lv_aload_n hx hb dX0_lookAt_56 rfl (lv_at hl 0 rfl) ?_
          refine va_get (D := (dC, dI)) (ci := 0) (v := .ref h_o_seen) (C := RX0) (T := TX0) (N := 9) hx hb hts (fun w h => List.mem_cons_of_mem _ (kc_X0 w h)) hown hK hP 0 rfl rfl 0 (by decide) (hg kw_129) (fun _ h9 => h9) rfl dX0_lookAt_57 ?_
          refine lv_aload_n hx hb dX0_lookAt_60 rfl (lv_at hl 0 rfl) ?_
          refine va_get (D := (dC, dI)) (ci := 0) (v := .ref h_o_seen) (C := RX0) (T := TX0) (N := 9) hx hb hts (fun w h => List.mem_cons_of_mem _ (kc_X0 w h)) hown hK hP 0 rfl rfl 0 (by decide) (hg kw_129) (fun _ h9 => h9) rfl dX0_lookAt_61 ?_
          refine va_getN (D := (dC, dI)) (ci := 5) (v := .int o_seen_hex) (C := RX6) (T := TX6) (N := 5) hx hb hts (fun w h => List.mem_cons_of_mem _ (kc_X6 w h)) hown hK hP 1 rfl rfl 2 (by decide) (va_Nw.use rfl (hE.1 _ kw_135)) (fun _ h9 => h9) rfl dX0_lookAt_64 ?_
          refine lv_iload_n hx hb dX0_lookAt_67 rfl (lv_at hl 1 rfl) ?_
          obtain ⟨q68, hq68, hf⟩ := ds_ob hf
          refine ds_calli (wr := [(h_o, .inr (0, [.ref h_o_seen, .ref h_o_turned, .ref h_o_found, .int o_looked, .int o_stepsFound, .int o_firstX, .int o_firstY, .int o_secondX, .int o_secondY])), (h_p1, .inr (5, [.int p1_wide, .int p1_high, .int p1_hex, .long p1_ones, .long p1_twos])), (h_o_found, .inl (ca 1, 12, .inr (.inl o_found_r)))]) (va_runV (As := [.ref h_o_seen, .int o_seen_hex, .int v2]) (rest := []) ⟨hx, hb, hml, hown, hts⟩ (c_X6_turnFrom l dC dI ca sa h_o_seen h_o_turned H.size o_seen_wide o_seen_high o_seen_hex o_seen_ones o_seen_twos o_turned_wide o_turned_high o_turned_hex o_turned_ones o_turned_twos o_seen_hex v2 q68 hq68) (cwV 3 hts (ds_gV kw_139 kw_140 kw_141 kw_59 kw_142) rfl rfl rfl (by decide +kernel) ⟨Nat.le_of_ble_eq_true rfl, Nat.le_of_ble_eq_true rfl⟩) ⟨ds_blind, va_recv hK hP (ci := 5) (q0 := 4) rfl rfl, ds_at hP hD hK hE hS hA [1, 4] rfl rfl _⟩ rfl rfl hl.1 rfl (lv_room (Nat.le_of_ble_eq_true rfl)) dX0_lookAt_68 ⟨Nat.zero_le _, Nat.zero_le _⟩) hP hD hS hA [1, 4] [0, 2, 3] rfl rfl rfl (by decide) (fun H locs hP hD hS => ?_)
          have hP : va_P (dC, dI) vwCl [(h_o, .inr (0, [.ref h_o_seen, .ref h_o_turned, .ref h_o_found, .int o_looked, .int o_stepsFound, .int o_firstX, .int o_firstY, .int o_secondX, .int o_secondY])), (h_p1, .inr (5, [.int p1_wide, .int p1_high, .int p1_hex, .long p1_ones, .long p1_twos])), (h_o_found, .inl (ca 1, 12, .inr (.inl o_found_r))), (h_o_seen, .inr (5, [.int o_seen_wide, .int o_seen_high, .int o_seen_hex, .long o_seen_ones, .long o_seen_twos])), (h_o_turned, .inr (5, [.int q68.2.1, .int q68.2.2.1, .int q68.2.2.2.1, .long q68.2.2.2.2.1, .long q68.2.2.2.2.2]))] H := hP
          have hD : va_D A [(h_o, .inr (0, [.ref h_o_seen, .ref h_o_turned, .ref h_o_found, .int o_looked, .int o_stepsFound, .int o_firstX, .int o_firstY, .int o_secondX, .int o_secondY])), (h_p1, .inr (5, [.int p1_wide, .int p1_high, .int p1_hex, .long p1_ones, .long p1_twos])), (h_o_found, .inl (ca 1, 12, .inr (.inl o_found_r))), (h_o_seen, .inr (5, [.int o_seen_wide, .int o_seen_high, .int o_seen_hex, .long o_seen_ones, .long o_seen_twos])), (h_o_turned, .inr (5, [.int q68.2.1, .int q68.2.2.1, .int q68.2.2.2.1, .long q68.2.2.2.2.1, .long q68.2.2.2.2.2]))] := hD
          refine lv_if_eq (tgt := 78) hx hb dX0_lookAt_71 (by decide) (fun c_71 => ?_) (fun c_71 => ?_)
          · replace hf := ds_t c_71 hf
            exact h1 (J_78 v2 o_found_r q68.2.1 q68.2.2.1 q68.2.2.2.1 q68.2.2.2.2.1 q68.2.2.2.2.2 _ hf hG _ _ (hP.sub [0, 3, 1, 2, 4] rfl) (hD.sub [0, 3, 1, 2, 4] rfl rfl) hS _ (lv_sub hl [0, 1] rfl))
          · replace hf := ds_f c_71 hf
            refine lv_iconst (v := 1) hx hb dX0_lookAt_74 (by decide) ?_
            refine lv_goto (tgt := 79) hx hb dX0_lookAt_75 (by decide) ?_
            exact h1 (J_79 v2 (1 : Int32) o_found_r q68.2.1 q68.2.2.1 q68.2.2.2.1 q68.2.2.2.2.1 q68.2.2.2.2.2 _ hf hG _ _ (hP.sub [0, 3, 1, 2, 4] rfl) (hD.sub [0, 3, 1, 2, 4] rfl rfl) hS _ (lv_sub hl [0, 1] rfl))
  have J_19 : ∀ (o_looked : Int32) (o_stepsFound : Int32) (o_seen_wide : Int32) (o_seen_high : Int32) (o_seen_hex : Int32) (o_seen_ones : Int64) (o_seen_twos : Int64) (o_found_r : Nat → Int64) (o_turned_wide : Int32) (o_turned_high : Int32) (o_turned_hex : Int32) (o_turned_ones : Int64) (o_turned_twos : Int64) (rr : Int32 × Int32 × Int32 × Int32 × Int32 × Int64 × Int64 × (Nat → Int64) × Int32 × Int32 × Int32 × Int64 × Int64) (hf : fX0_lookAt_19 p1_wide p1_high p1_hex p1_ones p1_twos o_found_r o_turned_wide o_turned_high o_turned_hex o_turned_ones o_turned_twos = some rr) (hG : G0 rr) (H : Heap) (locs : List Loc) (hP : va_P (dC, dI) vwCl [(h_o, .inr (0, [.ref h_o_seen, .ref h_o_turned, .ref h_o_found, .int o_looked, .int o_stepsFound, .int o_firstX, .int o_firstY, .int o_secondX, .int o_secondY])), (h_o_seen, .inr (5, [.int o_seen_wide, .int o_seen_high, .int o_seen_hex, .long o_seen_ones, .long o_seen_twos])), (h_p1, .inr (5, [.int p1_wide, .int p1_high, .int p1_hex, .long p1_ones, .long p1_twos])), (h_o_found, .inl (ca 1, 12, .inr (.inl o_found_r))), (h_o_turned, .inr (5, [.int o_turned_wide, .int o_turned_high, .int o_turned_hex, .long o_turned_ones, .long o_turned_twos]))] H) (hD : va_D A [(h_o, .inr (0, [.ref h_o_seen, .ref h_o_turned, .ref h_o_found, .int o_looked, .int o_stepsFound, .int o_firstX, .int o_firstY, .int o_secondX, .int o_secondY])), (h_o_seen, .inr (5, [.int o_seen_wide, .int o_seen_high, .int o_seen_hex, .long o_seen_ones, .long o_seen_twos])), (h_p1, .inr (5, [.int p1_wide, .int p1_high, .int p1_hex, .long p1_ones, .long p1_twos])), (h_o_found, .inl (ca 1, 12, .inr (.inl o_found_r))), (h_o_turned, .inr (5, [.int o_turned_wide, .int o_turned_high, .int o_turned_hex, .long o_turned_ones, .long o_turned_twos]))]) (hS : va_S A s.heap H locs) (ls : Array Slot) (hl : lv_has ls 4 [(0, .ref h_o), (1, .ref h_p1)]), WW H locs (F0 m 19 ls []) := by
    intro o_looked o_stepsFound o_seen_wide o_seen_high o_seen_hex o_seen_ones o_seen_twos o_found_r o_turned_wide o_turned_high o_turned_hex o_turned_ones o_turned_twos rr hf hG H locs hP hD hS ls hl
    refine h2 ?_
    unfold fX0_lookAt_19 at hf
    refine lv_aload_n hx hb dX0_lookAt_19 rfl (lv_at hl 0 rfl) ?_
    refine va_get (D := (dC, dI)) (ci := 0) (v := .ref h_o_seen) (C := RX0) (T := TX0) (N := 9) hx hb hts (fun w h => List.mem_cons_of_mem _ (kc_X0 w h)) hown hK hP 0 rfl rfl 0 (by decide) (hg kw_129) (fun _ h9 => h9) rfl dX0_lookAt_20 ?_
    refine lv_aload_n hx hb dX0_lookAt_23 rfl (lv_at hl 1 rfl) ?_
    obtain ⟨q24, hq24, hf⟩ := ds_ob hf
    refine ds_callv (wr := [(h_o, .inr (0, [.ref h_o_seen, .ref h_o_turned, .ref h_o_found, .int o_looked, .int o_stepsFound, .int o_firstX, .int o_firstY, .int o_secondX, .int o_secondY])), (h_o_found, .inl (ca 1, 12, .inr (.inl o_found_r))), (h_o_turned, .inr (5, [.int o_turned_wide, .int o_turned_high, .int o_turned_hex, .long o_turned_ones, .long o_turned_twos]))]) (va_runV (As := [.ref h_p1]) (rest := []) ⟨hx, hb, hml, hown, hts⟩ (c_X6_copyFrom l dC dI ca sa h_p1 h_o_seen H.size p1_wide p1_high p1_hex p1_ones p1_twos o_seen_wide o_seen_high o_seen_hex o_seen_ones o_seen_twos  q24 hq24) (cwV 1 hts (ds_gV kw_143 kw_144 kw_145 kw_59 kw_146) rfl rfl rfl (by decide +kernel) ⟨Nat.le_of_ble_eq_true rfl, Nat.le_of_ble_eq_true rfl⟩) ⟨ds_blind, va_recv hK hP (ci := 5) (q0 := 1) rfl rfl, ds_at hP hD hK hE hS hA [2, 1] rfl rfl _⟩ rfl rfl hl.1 rfl (lv_room (Nat.le_of_ble_eq_true rfl)) dX0_lookAt_24 ⟨Nat.zero_le _, Nat.zero_le _⟩) hP hD hS hA [2, 1] [0, 3, 4] rfl rfl rfl (by decide) (fun H locs hP hD hS => ?_)
    have hP : va_P (dC, dI) vwCl [(h_o, .inr (0, [.ref h_o_seen, .ref h_o_turned, .ref h_o_found, .int o_looked, .int o_stepsFound, .int o_firstX, .int o_firstY, .int o_secondX, .int o_secondY])), (h_o_found, .inl (ca 1, 12, .inr (.inl o_found_r))), (h_o_turned, .inr (5, [.int o_turned_wide, .int o_turned_high, .int o_turned_hex, .long o_turned_ones, .long o_turned_twos])), (h_p1, .inr (5, [.int p1_wide, .int p1_high, .int p1_hex, .long p1_ones, .long p1_twos])), (h_o_seen, .inr (5, [.int q24.1, .int q24.2.1, .int q24.2.2.1, .long q24.2.2.2.1, .long q24.2.2.2.2]))] H := hP
    have hD : va_D A [(h_o, .inr (0, [.ref h_o_seen, .ref h_o_turned, .ref h_o_found, .int o_looked, .int o_stepsFound, .int o_firstX, .int o_firstY, .int o_secondX, .int o_secondY])), (h_o_found, .inl (ca 1, 12, .inr (.inl o_found_r))), (h_o_turned, .inr (5, [.int o_turned_wide, .int o_turned_high, .int o_turned_hex, .long o_turned_ones, .long o_turned_twos])), (h_p1, .inr (5, [.int p1_wide, .int p1_high, .int p1_hex, .long p1_ones, .long p1_twos])), (h_o_seen, .inr (5, [.int q24.1, .int q24.2.1, .int q24.2.2.1, .long q24.2.2.2.1, .long q24.2.2.2.2]))] := hD
    refine lv_iconst (v := 0) hx hb dX0_lookAt_27 (by decide) ?_
    refine lv_istore_n (lv' := [(2, .int (0 : Int32)), (0, .ref h_o), (1, .ref h_p1)]) hx hb dX0_lookAt_28 rfl hl (by decide) rfl (fun ls hl => ?_)
    exact h1 (J_29 o_looked o_stepsFound q24.1 q24.2.1 q24.2.2.1 q24.2.2.2.1 q24.2.2.2.2 1000 (0 : Int32) o_found_r o_turned_wide o_turned_high o_turned_hex o_turned_ones o_turned_twos _ hf hG _ _ (hP.sub [0, 4, 3, 1, 2] rfl) (hD.sub [0, 4, 3, 1, 2] rfl rfl) hS _ (lv_sub hl [1, 0] rfl))
  unfold fX0_lookAt at hf
  refine lv_aload_n hx hb dX0_lookAt_0 rfl (lv_at hl 0 rfl) ?_
  refine va_get (D := (dC, dI)) (ci := 0) (v := .int o_looked) (C := RX0) (T := TX0) (N := 9) hx hb hts (fun w h => List.mem_cons_of_mem _ (kc_X0 w h)) hown hK hP 0 rfl rfl 3 (by decide) (hg kw_117) (fun _ h9 => h9) rfl dX0_lookAt_1 ?_
  refine lv_if_eq (tgt := 19) hx hb dX0_lookAt_4 (by decide) (fun c_4 => ?_) (fun c_4 => ?_)
  · replace hf := ds_t c_4 hf
    exact h1 (J_19 o_looked o_stepsFound o_seen_wide o_seen_high o_seen_hex o_seen_ones o_seen_twos o_found_r o_turned_wide o_turned_high o_turned_hex o_turned_ones o_turned_twos _ hf hG _ _ hP hD hS _ (lv_sub hl [0, 1] rfl))
  · replace hf := ds_f c_4 hf
    refine lv_aload_n hx hb dX0_lookAt_7 rfl (lv_at hl 0 rfl) ?_
    refine va_get (D := (dC, dI)) (ci := 0) (v := .ref h_o_seen) (C := RX0) (T := TX0) (N := 9) hx hb hts (fun w h => List.mem_cons_of_mem _ (kc_X0 w h)) hown hK hP 0 rfl rfl 0 (by decide) (hg kw_129) (fun _ h9 => h9) rfl dX0_lookAt_8 ?_
    refine lv_aload_n hx hb dX0_lookAt_11 rfl (lv_at hl 1 rfl) ?_
    obtain ⟨q12, hq12, hf⟩ := ds_ob hf
    refine ds_calli (wr := [(h_o, .inr (0, [.ref h_o_seen, .ref h_o_turned, .ref h_o_found, .int o_looked, .int o_stepsFound, .int o_firstX, .int o_firstY, .int o_secondX, .int o_secondY])), (h_o_found, .inl (ca 1, 12, .inr (.inl o_found_r))), (h_o_turned, .inr (5, [.int o_turned_wide, .int o_turned_high, .int o_turned_hex, .long o_turned_ones, .long o_turned_twos]))]) (va_runV (As := [.ref h_p1]) (rest := []) ⟨hx, hb, hml, hown, hts⟩ (c_X6_same l dC dI ca sa h_o_seen h_p1 s.heap.size o_seen_wide o_seen_high o_seen_hex o_seen_ones o_seen_twos p1_wide p1_high p1_hex p1_ones p1_twos  q12 hq12) (cwV 1 hts (ds_gV kw_147 kw_148 kw_149 kw_59 kw_150) rfl rfl rfl (by decide +kernel) ⟨Nat.le_of_ble_eq_true rfl, Nat.le_of_ble_eq_true rfl⟩) ⟨ds_blind, va_recv hK hP (ci := 5) (q0 := 1) rfl rfl, ds_at hP hD hK hE hS hA [1, 2] rfl rfl _⟩ rfl rfl hl.1 rfl (lv_room (Nat.le_of_ble_eq_true rfl)) dX0_lookAt_12 ⟨Nat.zero_le _, Nat.zero_le _⟩) hP hD hS hA [1, 2] [0, 3, 4] rfl rfl rfl (by decide) (fun H locs hP hD hS => ?_)
    have hP : va_P (dC, dI) vwCl [(h_o, .inr (0, [.ref h_o_seen, .ref h_o_turned, .ref h_o_found, .int o_looked, .int o_stepsFound, .int o_firstX, .int o_firstY, .int o_secondX, .int o_secondY])), (h_o_found, .inl (ca 1, 12, .inr (.inl o_found_r))), (h_o_turned, .inr (5, [.int o_turned_wide, .int o_turned_high, .int o_turned_hex, .long o_turned_ones, .long o_turned_twos])), (h_o_seen, .inr (5, [.int o_seen_wide, .int o_seen_high, .int o_seen_hex, .long o_seen_ones, .long o_seen_twos])), (h_p1, .inr (5, [.int p1_wide, .int p1_high, .int p1_hex, .long p1_ones, .long p1_twos]))] H := hP
    have hD : va_D A [(h_o, .inr (0, [.ref h_o_seen, .ref h_o_turned, .ref h_o_found, .int o_looked, .int o_stepsFound, .int o_firstX, .int o_firstY, .int o_secondX, .int o_secondY])), (h_o_found, .inl (ca 1, 12, .inr (.inl o_found_r))), (h_o_turned, .inr (5, [.int o_turned_wide, .int o_turned_high, .int o_turned_hex, .long o_turned_ones, .long o_turned_twos])), (h_o_seen, .inr (5, [.int o_seen_wide, .int o_seen_high, .int o_seen_hex, .long o_seen_ones, .long o_seen_twos])), (h_p1, .inr (5, [.int p1_wide, .int p1_high, .int p1_hex, .long p1_ones, .long p1_twos]))] := hD
    refine lv_if_eq (tgt := 19) hx hb dX0_lookAt_15 (by decide) (fun c_15 => ?_) (fun c_15 => ?_)
    · replace hf := ds_t c_15 hf
      exact h1 (J_19 o_looked o_stepsFound o_seen_wide o_seen_high o_seen_hex o_seen_ones o_seen_twos o_found_r o_turned_wide o_turned_high o_turned_hex o_turned_ones o_turned_twos _ hf hG _ _ (hP.sub [0, 3, 4, 1, 2] rfl) (hD.sub [0, 3, 4, 1, 2] rfl rfl) hS _ (lv_sub hl [0, 1] rfl))
    · replace hf := ds_f c_15 hf
      have hf := Option.some.inj hf
      subst hf
      rw [eG0] at hG
      have hG : _ = res := hG
      subst hG
      exact W.vret hx hb hr (fun t ht hW => ⟨⟨(), rfl, trivial, by rw [ht]; exact (hP.sub [0, 3, 4, 1, 2] rfl), (hD.sub [0, 3, 4, 1, 2] rfl rfl)⟩, hS.F ht⟩) hS.2.2 dX0_lookAt_18
theorem dX0_shiftsFor_0 : decode cX0_shiftsFor 0 = .ok (.iload_n 1, 1) := by decide +kernel
theorem dX0_shiftsFor_1 : decode cX0_shiftsFor 1 = .ok (.ifCond .lt 21, 3) := by decide +kernel
theorem dX0_shiftsFor_4 : decode cX0_shiftsFor 4 = .ok (.iload_n 1, 1) := by decide +kernel
theorem dX0_shiftsFor_5 : decode cX0_shiftsFor 5 = .ok (.aload_n 0, 1) := by decide +kernel
theorem dX0_shiftsFor_6 : decode cX0_shiftsFor 6 = .ok (.getfield 23, 3) := by decide +kernel
theorem dX0_shiftsFor_9 : decode cX0_shiftsFor 9 = .ok (.arraylength, 1) := by decide +kernel
theorem dX0_shiftsFor_10 : decode cX0_shiftsFor 10 = .ok (.if_icmp .ge 12, 3) := by decide +kernel
theorem dX0_shiftsFor_13 : decode cX0_shiftsFor 13 = .ok (.aload_n 0, 1) := by decide +kernel
theorem dX0_shiftsFor_14 : decode cX0_shiftsFor 14 = .ok (.getfield 23, 3) := by decide +kernel
theorem dX0_shiftsFor_17 : decode cX0_shiftsFor 17 = .ok (.iload_n 1, 1) := by decide +kernel
theorem dX0_shiftsFor_18 : decode cX0_shiftsFor 18 = .ok (.laload, 1) := by decide +kernel
theorem dX0_shiftsFor_19 : decode cX0_shiftsFor 19 = .ok (.goto 4, 3) := by decide +kernel
theorem dX0_shiftsFor_22 : decode cX0_shiftsFor 22 = .ok (.lconst 0, 1) := by decide +kernel
theorem dX0_shiftsFor_23 : decode cX0_shiftsFor 23 = .ok (.lreturn, 1) := by decide +kernel
def fX0_shiftsFor (o_found_r : Nat → Int64) (p1 : Int32) : Option (Int64) :=
  if p1 < 0 then some (0 : Int64) else if (12 : Int32) ≤ p1 then some (0 : Int64) else if ds_in p1 12 = true then some (o_found_r p1.toNatClampNeg) else none
set_option maxHeartbeats 4000000 in
set_option maxRecDepth 100000 in
theorem c_X0_shiftsFor (l : Launch) (dC : Nat → ClassId) (dI : Nat → Nat → Nat) (ca : Nat → ClassId) (sa : Nat → Nat) (h_o : Nat) (h_o_seen : Nat) (h_o_turned : Nat) (h_o_found : Nat) (sz : Nat) (o_looked : Int32) (o_stepsFound : Int32) (o_firstX : Int32) (o_firstY : Int32) (o_secondX : Int32) (o_secondY : Int32) (o_found_r : Nat → Int64) (p1 : Int32) (res : Int64) (hf : fX0_shiftsFor o_found_r p1 = some res) : Met l yX0_shiftsFor (Cond.code yX0_shiftsFor cX0_shiftsFor 2 (some .long) :: ds_gw) { frames := 0, cells := 0, slots := 0, locals := 0 } (va_Pc [.ref h_o, .int p1] (ds_Pre dC dI ca sa [(h_o, .inr (0, [.ref h_o_seen, .ref h_o_turned, .ref h_o_found, .int o_looked, .int o_stepsFound, .int o_firstX, .int o_firstY, .int o_secondX, .int o_secondY])), (h_o_found, .inl (ca 1, 12, .inr (.inl o_found_r)))] sz)) (va_Ql (fun r (_ : Unit) => r = res) (ds_B dC dI (va_A [(h_o, .inr (0, [.ref h_o_seen, .ref h_o_turned, .ref h_o_found, .int o_looked, .int o_stepsFound, .int o_firstX, .int o_firstY, .int o_secondX, .int o_secondY])), (h_o_found, .inl (ca 1, 12, .inr (.inl o_found_r)))] sz) [(h_o, .inr (0, [.ref h_o_seen, .ref h_o_turned, .ref h_o_found, .int o_looked, .int o_stepsFound, .int o_firstX, .int o_firstY, .int o_secondX, .int o_secondY])), (h_o_found, .inl (ca 1, 12, .inr (.inl o_found_r)))]) (va_A [(h_o, .inr (0, [.ref h_o_seen, .ref h_o_turned, .ref h_o_found, .int o_looked, .int o_stepsFound, .int o_firstX, .int o_firstY, .int o_secondX, .int o_secondY])), (h_o_found, .inl (ca 1, 12, .inr (.inl o_found_r)))] sz)) 0 0 (va_A [(h_o, .inr (0, [.ref h_o_seen, .ref h_o_turned, .ref h_o_found, .int o_looked, .int o_stepsFound, .int o_firstX, .int o_firstY, .int o_secondX, .int o_secondY])), (h_o_found, .inl (ca 1, 12, .inr (.inl o_found_r)))] sz) := by
  refine Met.ofW (cc := cX0_shiftsFor) (maxL := 2) (ret := (some .long)) (by decide) rfl ?_
  intro p e s m args below meth c s₁ B hml hv
  obtain ⟨rfl, hsz, hP, hK, hD0, hE⟩ := hv
  have hx := B.exec
  have hb := B.bytes
  have hr := B.returns
  have hts := atoms_spec (ws := Cond.code yX0_shiftsFor cX0_shiftsFor 2 (some .long) :: ds_gw) B.pre
  have hg : ∀ {w : Cond}, w ∈ ds_gw → w.before _ s = true := fun h => hts _ (List.mem_cons_of_mem _ h)
  have hown : s.vm.findClass RX0 = some m.cls := findClass_of_methodNamed B.named
  have hlocks := B.notSynchronized
  subst hsz
  have hD := hD0.self (sz := s.heap.size)
  generalize hAe : va_A [(h_o, .inr (0, [.ref h_o_seen, .ref h_o_turned, .ref h_o_found, .int o_looked, .int o_stepsFound, .int o_firstX, .int o_firstY, .int o_secondX, .int o_secondY])), (h_o_found, .inl (ca 1, 12, .inr (.inl o_found_r)))] s.heap.size = A at hD hE ⊢
  have hA : ∀ q : Nat, s.heap.size ≤ q → A q := fun q h => by rw [← hAe]; exact Or.inr h
  have hS : va_S A s.heap s.heap [] := va_S.rf
  have hl := lv_entry ([.ref h_o, .int p1]) (n := 2) (Nat.le_of_ble_eq_true rfl)
  rw [lg_entry_eq]
  generalize (lg_sl ([.ref h_o, .int p1]) ++ List.replicate (2 - (lg_sl ([.ref h_o, .int p1])).length) Slot.unset).toArray = ls at hl ⊢
  have hl : lv_has ls 2 [(0, .ref h_o), (1, .int p1)] := hl
  obtain ⟨G0, eG0⟩ : ∃ G : Int64 → Prop, G = (fun r => r = res) := ⟨_, rfl⟩
  obtain ⟨rr, hrr⟩ : ∃ z, z = res := ⟨_, rfl⟩
  rw [← hrr] at hf
  have hG : G0 rr := by subst eG0; exact hrr
  unfold fX0_shiftsFor at hf
  refine lv_iload_n hx hb dX0_shiftsFor_0 rfl (lv_at hl 1 rfl) ?_
  refine lv_if_lt (tgt := 22) hx hb dX0_shiftsFor_1 (by decide) (fun c_1 => ?_) (fun c_1 => ?_)
  · replace hf := ds_t c_1 hf
    refine lv_lconst (v := 0) hx hb dX0_shiftsFor_22 (by decide) ?_
    have hf := Option.some.inj hf
    subst hf
    rw [eG0] at hG
    have hG : _ = res := hG
    subst hG
    exact W.lret (v := (0 : Int64)) hx hb hr (fun t ht hW => ⟨⟨(0 : Int64), (), rfl, rfl, by rw [ht]; exact hP, hD⟩, hS.F ht⟩) hS.2.2 dX0_shiftsFor_23
  · replace hf := ds_f c_1 hf
    refine lv_iload_n hx hb dX0_shiftsFor_4 rfl (lv_at hl 1 rfl) ?_
    refine lv_aload_n hx hb dX0_shiftsFor_5 rfl (lv_at hl 0 rfl) ?_
    refine va_get (D := (dC, dI)) (ci := 0) (v := .ref h_o_found) (C := RX0) (T := TX0) (N := 9) hx hb hts (fun w h => List.mem_cons_of_mem _ (kc_X0 w h)) hown hK hP 0 rfl rfl 2 (by decide) (hg kw_128) (fun _ h9 => h9) rfl dX0_shiftsFor_6 ?_
    refine va_alen (v := 12) hx hb hK hP 1 1 rfl rfl rfl dX0_shiftsFor_9 ?_
    refine lv_icmp_ge (tgt := 22) hx hb dX0_shiftsFor_10 (by decide) (fun c_10 => ?_) (fun c_10 => ?_)
    · replace hf := ds_t c_10 hf
      refine lv_lconst (v := 0) hx hb dX0_shiftsFor_22 (by decide) ?_
      have hf := Option.some.inj hf
      subst hf
      rw [eG0] at hG
      have hG : _ = res := hG
      subst hG
      exact W.lret (v := (0 : Int64)) hx hb hr (fun t ht hW => ⟨⟨(0 : Int64), (), rfl, rfl, by rw [ht]; exact hP, hD⟩, hS.F ht⟩) hS.2.2 dX0_shiftsFor_23
    · replace hf := ds_f c_10 hf
      refine lv_aload_n hx hb dX0_shiftsFor_13 rfl (lv_at hl 0 rfl) ?_
      refine va_get (D := (dC, dI)) (ci := 0) (v := .ref h_o_found) (C := RX0) (T := TX0) (N := 9) hx hb hts (fun w h => List.mem_cons_of_mem _ (kc_X0 w h)) hown hK hP 0 rfl rfl 2 (by decide) (hg kw_128) (fun _ h9 => h9) rfl dX0_shiftsFor_14 ?_
      refine lv_iload_n hx hb dX0_shiftsFor_17 rfl (lv_at hl 1 rfl) ?_
      obtain ⟨i_18, hf⟩ := ds_ci hf
      refine va_lald hx hb hK hP 1 1 rfl rfl i_18 dX0_shiftsFor_18 ?_
      refine lv_goto (tgt := 23) hx hb dX0_shiftsFor_19 (by decide) ?_
      have hf := Option.some.inj hf
      subst hf
      rw [eG0] at hG
      have hG : _ = res := hG
      subst hG
      exact W.lret (v := (o_found_r p1.toNatClampNeg)) hx hb hr (fun t ht hW => ⟨⟨(o_found_r p1.toNatClampNeg), (), rfl, rfl, by rw [ht]; exact hP, hD⟩, hS.F ht⟩) hS.2.2 dX0_shiftsFor_23
theorem dX0_hasSymmetry_0 : decode cX0_hasSymmetry 0 = .ok (.aload_n 0, 1) := by decide +kernel
theorem dX0_hasSymmetry_1 : decode cX0_hasSymmetry 1 = .ok (.iload_n 1, 1) := by decide +kernel
theorem dX0_hasSymmetry_2 : decode cX0_hasSymmetry 2 = .ok (.invokevirtual 57, 3) := by decide +kernel
theorem dX0_hasSymmetry_5 : decode cX0_hasSymmetry 5 = .ok (.aload_n 0, 1) := by decide +kernel
theorem dX0_hasSymmetry_6 : decode cX0_hasSymmetry 6 = .ok (.getfield 12, 3) := by decide +kernel
theorem dX0_hasSymmetry_9 : decode cX0_hasSymmetry 9 = .ok (.iload_n 2, 1) := by decide +kernel
theorem dX0_hasSymmetry_10 : decode cX0_hasSymmetry 10 = .ok (.iload_n 3, 1) := by decide +kernel
theorem dX0_hasSymmetry_11 : decode cX0_hasSymmetry 11 = .ok (.invokevirtual 61, 3) := by decide +kernel
theorem dX0_hasSymmetry_14 : decode cX0_hasSymmetry 14 = .ok (.land, 1) := by decide +kernel
theorem dX0_hasSymmetry_15 : decode cX0_hasSymmetry 15 = .ok (.lconst 0, 1) := by decide +kernel
theorem dX0_hasSymmetry_16 : decode cX0_hasSymmetry 16 = .ok (.lcmp, 1) := by decide +kernel
theorem dX0_hasSymmetry_17 : decode cX0_hasSymmetry 17 = .ok (.ifCond .eq 7, 3) := by decide +kernel
theorem dX0_hasSymmetry_20 : decode cX0_hasSymmetry 20 = .ok (.iconst 1, 1) := by decide +kernel
theorem dX0_hasSymmetry_21 : decode cX0_hasSymmetry 21 = .ok (.goto 4, 3) := by decide +kernel
theorem dX0_hasSymmetry_24 : decode cX0_hasSymmetry 24 = .ok (.iconst 0, 1) := by decide +kernel
theorem dX0_hasSymmetry_25 : decode cX0_hasSymmetry 25 = .ok (.ireturn, 1) := by decide +kernel
def fX0_hasSymmetry (o_found_r : Nat → Int64) (o_seen_wide : Int32) (o_seen_high : Int32) (p1 : Int32) (p2 : Int32) (p3 : Int32) : Option (Int32) :=
  Option.bind (fX0_shiftsFor o_found_r p1) fun q2 => Option.bind (fX6_bitOfPlane o_seen_wide o_seen_high p2 p3) fun q11 => if (lg_cmp (q2 &&& q11) (0 : Int64)) = 0 then some (0 : Int32) else some (1 : Int32)
set_option maxHeartbeats 4000000 in
set_option maxRecDepth 100000 in
theorem c_X0_hasSymmetry (l : Launch) (dC : Nat → ClassId) (dI : Nat → Nat → Nat) (ca : Nat → ClassId) (sa : Nat → Nat) (h_o : Nat) (h_o_seen : Nat) (h_o_turned : Nat) (h_o_found : Nat) (sz : Nat) (o_looked : Int32) (o_stepsFound : Int32) (o_firstX : Int32) (o_firstY : Int32) (o_secondX : Int32) (o_secondY : Int32) (o_found_r : Nat → Int64) (o_seen_wide : Int32) (o_seen_high : Int32) (o_seen_hex : Int32) (o_seen_ones : Int64) (o_seen_twos : Int64) (p1 : Int32) (p2 : Int32) (p3 : Int32) (res : Int32) (hf : fX0_hasSymmetry o_found_r o_seen_wide o_seen_high p1 p2 p3 = some res) : Met l yX0_hasSymmetry (Cond.code yX0_hasSymmetry cX0_hasSymmetry 4 (some .boolean) :: ds_gw) { frames := 2, cells := 0, slots := 0, locals := 44 } (va_Pc [.ref h_o, .int p1, .int p2, .int p3] (ds_Pre dC dI ca sa [(h_o, .inr (0, [.ref h_o_seen, .ref h_o_turned, .ref h_o_found, .int o_looked, .int o_stepsFound, .int o_firstX, .int o_firstY, .int o_secondX, .int o_secondY])), (h_o_found, .inl (ca 1, 12, .inr (.inl o_found_r))), (h_o_seen, .inr (5, [.int o_seen_wide, .int o_seen_high, .int o_seen_hex, .long o_seen_ones, .long o_seen_twos]))] sz)) (va_Qi (fun r (_ : Unit) => r = res) (ds_B dC dI (va_A [(h_o, .inr (0, [.ref h_o_seen, .ref h_o_turned, .ref h_o_found, .int o_looked, .int o_stepsFound, .int o_firstX, .int o_firstY, .int o_secondX, .int o_secondY])), (h_o_found, .inl (ca 1, 12, .inr (.inl o_found_r))), (h_o_seen, .inr (5, [.int o_seen_wide, .int o_seen_high, .int o_seen_hex, .long o_seen_ones, .long o_seen_twos]))] sz) [(h_o, .inr (0, [.ref h_o_seen, .ref h_o_turned, .ref h_o_found, .int o_looked, .int o_stepsFound, .int o_firstX, .int o_firstY, .int o_secondX, .int o_secondY])), (h_o_found, .inl (ca 1, 12, .inr (.inl o_found_r))), (h_o_seen, .inr (5, [.int o_seen_wide, .int o_seen_high, .int o_seen_hex, .long o_seen_ones, .long o_seen_twos]))]) (va_A [(h_o, .inr (0, [.ref h_o_seen, .ref h_o_turned, .ref h_o_found, .int o_looked, .int o_stepsFound, .int o_firstX, .int o_firstY, .int o_secondX, .int o_secondY])), (h_o_found, .inl (ca 1, 12, .inr (.inl o_found_r))), (h_o_seen, .inr (5, [.int o_seen_wide, .int o_seen_high, .int o_seen_hex, .long o_seen_ones, .long o_seen_twos]))] sz)) 0 0 (va_A [(h_o, .inr (0, [.ref h_o_seen, .ref h_o_turned, .ref h_o_found, .int o_looked, .int o_stepsFound, .int o_firstX, .int o_firstY, .int o_secondX, .int o_secondY])), (h_o_found, .inl (ca 1, 12, .inr (.inl o_found_r))), (h_o_seen, .inr (5, [.int o_seen_wide, .int o_seen_high, .int o_seen_hex, .long o_seen_ones, .long o_seen_twos]))] sz) := by
  refine Met.ofW (cc := cX0_hasSymmetry) (maxL := 4) (ret := (some .boolean)) (by decide) rfl ?_
  intro p e s m args below meth c s₁ B hml hv
  obtain ⟨rfl, hsz, hP, hK, hD0, hE⟩ := hv
  have hx := B.exec
  have hb := B.bytes
  have hr := B.returns
  have hts := atoms_spec (ws := Cond.code yX0_hasSymmetry cX0_hasSymmetry 4 (some .boolean) :: ds_gw) B.pre
  have hg : ∀ {w : Cond}, w ∈ ds_gw → w.before _ s = true := fun h => hts _ (List.mem_cons_of_mem _ h)
  have hown : s.vm.findClass RX0 = some m.cls := findClass_of_methodNamed B.named
  have hlocks := B.notSynchronized
  subst hsz
  have hD := hD0.self (sz := s.heap.size)
  generalize hAe : va_A [(h_o, .inr (0, [.ref h_o_seen, .ref h_o_turned, .ref h_o_found, .int o_looked, .int o_stepsFound, .int o_firstX, .int o_firstY, .int o_secondX, .int o_secondY])), (h_o_found, .inl (ca 1, 12, .inr (.inl o_found_r))), (h_o_seen, .inr (5, [.int o_seen_wide, .int o_seen_high, .int o_seen_hex, .long o_seen_ones, .long o_seen_twos]))] s.heap.size = A at hD hE ⊢
  have hA : ∀ q : Nat, s.heap.size ≤ q → A q := fun q h => by rw [← hAe]; exact Or.inr h
  have hS : va_S A s.heap s.heap [] := va_S.rf
  have hl := lv_entry ([.ref h_o, .int p1, .int p2, .int p3]) (n := 4) (Nat.le_of_ble_eq_true rfl)
  rw [lg_entry_eq]
  generalize (lg_sl ([.ref h_o, .int p1, .int p2, .int p3]) ++ List.replicate (4 - (lg_sl ([.ref h_o, .int p1, .int p2, .int p3])).length) Slot.unset).toArray = ls at hl ⊢
  have hl : lv_has ls 4 [(0, .ref h_o), (1, .int p1), (2, .int p2), (3, .int p3)] := hl
  obtain ⟨G0, eG0⟩ : ∃ G : Int32 → Prop, G = (fun r => r = res) := ⟨_, rfl⟩
  obtain ⟨rr, hrr⟩ : ∃ z, z = res := ⟨_, rfl⟩
  rw [← hrr] at hf
  have hG : G0 rr := by subst eG0; exact hrr
  unfold fX0_hasSymmetry at hf
  refine lv_aload_n hx hb dX0_hasSymmetry_0 rfl (lv_at hl 0 rfl) ?_
  refine lv_iload_n hx hb dX0_hasSymmetry_1 rfl (lv_at hl 1 rfl) ?_
  obtain ⟨q2, hq2, hf⟩ := ds_ob hf
  refine ds_calll (wr := [(h_o_seen, .inr (5, [.int o_seen_wide, .int o_seen_high, .int o_seen_hex, .long o_seen_ones, .long o_seen_twos]))]) (va_runV (As := [.int p1]) (rest := []) ⟨hx, hb, hml, hown, hts⟩ (c_X0_shiftsFor l dC dI ca sa h_o h_o_seen h_o_turned h_o_found s.heap.size o_looked o_stepsFound o_firstX o_firstY o_secondX o_secondY o_found_r p1 q2 hq2) (cwV 1 hts (ds_gV kw_151 kw_152 kw_153 kw_154 kw_155) rfl rfl rfl (by decide +kernel) ⟨Nat.le_of_ble_eq_true rfl, Nat.le_of_ble_eq_true rfl⟩) ⟨ds_blind, va_recv hK hP (ci := 0) (q0 := 0) rfl rfl, ds_at hP hD hK hE hS hA [0, 1] rfl rfl _⟩ rfl rfl hl.1 rfl (lv_room (Nat.le_of_ble_eq_true rfl)) dX0_hasSymmetry_2 ⟨Nat.zero_le _, Nat.zero_le _⟩) hP hD hS hA [0, 1] [2] rfl rfl rfl (by decide) (fun H locs hP hD hS => ?_)
  have hP : va_P (dC, dI) vwCl [(h_o_seen, .inr (5, [.int o_seen_wide, .int o_seen_high, .int o_seen_hex, .long o_seen_ones, .long o_seen_twos])), (h_o, .inr (0, [.ref h_o_seen, .ref h_o_turned, .ref h_o_found, .int o_looked, .int o_stepsFound, .int o_firstX, .int o_firstY, .int o_secondX, .int o_secondY])), (h_o_found, .inl (ca 1, 12, .inr (.inl o_found_r)))] H := hP
  have hD : va_D A [(h_o_seen, .inr (5, [.int o_seen_wide, .int o_seen_high, .int o_seen_hex, .long o_seen_ones, .long o_seen_twos])), (h_o, .inr (0, [.ref h_o_seen, .ref h_o_turned, .ref h_o_found, .int o_looked, .int o_stepsFound, .int o_firstX, .int o_firstY, .int o_secondX, .int o_secondY])), (h_o_found, .inl (ca 1, 12, .inr (.inl o_found_r)))] := hD
  refine lv_aload_n hx hb dX0_hasSymmetry_5 rfl (lv_at hl 0 rfl) ?_
  refine va_get (D := (dC, dI)) (ci := 0) (v := .ref h_o_seen) (C := RX0) (T := TX0) (N := 9) hx hb hts (fun w h => List.mem_cons_of_mem _ (kc_X0 w h)) hown hK hP 1 rfl rfl 0 (by decide) (hg kw_129) (fun _ h9 => h9) rfl dX0_hasSymmetry_6 ?_
  refine lv_iload_n hx hb dX0_hasSymmetry_9 rfl (lv_at hl 2 rfl) ?_
  refine lv_iload_n hx hb dX0_hasSymmetry_10 rfl (lv_at hl 3 rfl) ?_
  obtain ⟨q11, hq11, hf⟩ := ds_ob hf
  refine ds_calll (wr := [(h_o, .inr (0, [.ref h_o_seen, .ref h_o_turned, .ref h_o_found, .int o_looked, .int o_stepsFound, .int o_firstX, .int o_firstY, .int o_secondX, .int o_secondY])), (h_o_found, .inl (ca 1, 12, .inr (.inl o_found_r)))]) (va_runV (As := [.int p2, .int p3]) (rest := [.long q2]) ⟨hx, hb, hml, hown, hts⟩ (c_X6_bitOfPlane l dC dI ca sa h_o_seen H.size o_seen_wide o_seen_high o_seen_hex o_seen_ones o_seen_twos p2 p3 q11 hq11) (cwV 2 hts (ds_gV kw_156 kw_114 kw_115 kw_59 kw_116) rfl rfl rfl (by decide +kernel) ⟨Nat.le_of_ble_eq_true rfl, Nat.le_of_ble_eq_true rfl⟩) ⟨ds_blind, va_recv hK hP (ci := 5) (q0 := 0) rfl rfl, ds_at hP hD hK hE hS hA [0] rfl rfl _⟩ rfl rfl hl.1 rfl (lv_room (Nat.le_of_ble_eq_true rfl)) dX0_hasSymmetry_11 ⟨Nat.zero_le _, Nat.zero_le _⟩) hP hD hS hA [0] [1, 2] rfl rfl rfl (by decide) (fun H locs hP hD hS => ?_)
  have hP : va_P (dC, dI) vwCl [(h_o, .inr (0, [.ref h_o_seen, .ref h_o_turned, .ref h_o_found, .int o_looked, .int o_stepsFound, .int o_firstX, .int o_firstY, .int o_secondX, .int o_secondY])), (h_o_found, .inl (ca 1, 12, .inr (.inl o_found_r))), (h_o_seen, .inr (5, [.int o_seen_wide, .int o_seen_high, .int o_seen_hex, .long o_seen_ones, .long o_seen_twos]))] H := hP
  have hD : va_D A [(h_o, .inr (0, [.ref h_o_seen, .ref h_o_turned, .ref h_o_found, .int o_looked, .int o_stepsFound, .int o_firstX, .int o_firstY, .int o_secondX, .int o_secondY])), (h_o_found, .inl (ca 1, 12, .inr (.inl o_found_r))), (h_o_seen, .inr (5, [.int o_seen_wide, .int o_seen_high, .int o_seen_hex, .long o_seen_ones, .long o_seen_twos]))] := hD
  refine lv_land hx hb dX0_hasSymmetry_14 ?_
  refine lv_lconst (v := 0) hx hb dX0_hasSymmetry_15 (by decide) ?_
  refine W.lcmp hx hb dX0_hasSymmetry_16 ?_
  refine lv_if_eq (tgt := 24) hx hb dX0_hasSymmetry_17 (by decide) (fun c_17 => ?_) (fun c_17 => ?_)
  · replace hf := ds_t c_17 hf
    refine lv_iconst (v := 0) hx hb dX0_hasSymmetry_24 (by decide) ?_
    have hf := Option.some.inj hf
    subst hf
    rw [eG0] at hG
    have hG : _ = res := hG
    subst hG
    exact W.zret (v := (0 : Int32)) (ty := .boolean) hx hb hr rfl (fun t ht hW => ⟨⟨(0 : Int32), (), rfl, rfl, by rw [ht]; exact hP, hD⟩, hS.F ht⟩) hS.2.2 dX0_hasSymmetry_25
  · replace hf := ds_f c_17 hf
    refine lv_iconst (v := 1) hx hb dX0_hasSymmetry_20 (by decide) ?_
    refine lv_goto (tgt := 25) hx hb dX0_hasSymmetry_21 (by decide) ?_
    have hf := Option.some.inj hf
    subst hf
    rw [eG0] at hG
    have hG : _ = res := hG
    subst hG
    exact W.zret (v := (1 : Int32)) (ty := .boolean) hx hb hr rfl (fun t ht hW => ⟨⟨(1 : Int32), (), rfl, rfl, by rw [ht]; exact hP, hD⟩, hS.F ht⟩) hS.2.2 dX0_hasSymmetry_25
theorem dX0_hasFlip_0 : decode cX0_hasFlip 0 = .ok (.aload_n 0, 1) := by decide +kernel
theorem dX0_hasFlip_1 : decode cX0_hasFlip 1 = .ok (.getfield 12, 3) := by decide +kernel
theorem dX0_hasFlip_4 : decode cX0_hasFlip 4 = .ok (.getfield 39, 3) := by decide +kernel
theorem dX0_hasFlip_7 : decode cX0_hasFlip 7 = .ok (.iload_n 1, 1) := by decide +kernel
theorem dX0_hasFlip_8 : decode cX0_hasFlip 8 = .ok (.invokestatic 65, 3) := by decide +kernel
theorem dX0_hasFlip_11 : decode cX0_hasFlip 11 = .ok (.ifCond .eq 17, 3) := by decide +kernel
theorem dX0_hasFlip_14 : decode cX0_hasFlip 14 = .ok (.aload_n 0, 1) := by decide +kernel
theorem dX0_hasFlip_15 : decode cX0_hasFlip 15 = .ok (.iload_n 1, 1) := by decide +kernel
theorem dX0_hasFlip_16 : decode cX0_hasFlip 16 = .ok (.invokevirtual 57, 3) := by decide +kernel
theorem dX0_hasFlip_19 : decode cX0_hasFlip 19 = .ok (.lconst 0, 1) := by decide +kernel
theorem dX0_hasFlip_20 : decode cX0_hasFlip 20 = .ok (.lcmp, 1) := by decide +kernel
theorem dX0_hasFlip_21 : decode cX0_hasFlip 21 = .ok (.ifCond .eq 7, 3) := by decide +kernel
theorem dX0_hasFlip_24 : decode cX0_hasFlip 24 = .ok (.iconst 1, 1) := by decide +kernel
theorem dX0_hasFlip_25 : decode cX0_hasFlip 25 = .ok (.goto 4, 3) := by decide +kernel
theorem dX0_hasFlip_28 : decode cX0_hasFlip 28 = .ok (.iconst 0, 1) := by decide +kernel
theorem dX0_hasFlip_29 : decode cX0_hasFlip 29 = .ok (.ireturn, 1) := by decide +kernel
def fX0_hasFlip (o_seen_hex : Int32) (o_found_r : Nat → Int64) (p1 : Int32) : Option (Int32) :=
  Option.bind (fX1_isFlip o_seen_hex p1) fun q8 => if q8 = 0 then some (0 : Int32) else Option.bind (fX0_shiftsFor o_found_r p1) fun q16 => if (lg_cmp q16 (0 : Int64)) = 0 then some (0 : Int32) else some (1 : Int32)
set_option maxHeartbeats 4000000 in
set_option maxRecDepth 100000 in
theorem c_X0_hasFlip (l : Launch) (dC : Nat → ClassId) (dI : Nat → Nat → Nat) (ca : Nat → ClassId) (sa : Nat → Nat) (h_o : Nat) (h_o_seen : Nat) (h_o_turned : Nat) (h_o_found : Nat) (sz : Nat) (o_looked : Int32) (o_stepsFound : Int32) (o_firstX : Int32) (o_firstY : Int32) (o_secondX : Int32) (o_secondY : Int32) (o_seen_wide : Int32) (o_seen_high : Int32) (o_seen_hex : Int32) (o_seen_ones : Int64) (o_seen_twos : Int64) (o_found_r : Nat → Int64) (p1 : Int32) (res : Int32) (hf : fX0_hasFlip o_seen_hex o_found_r p1 = some res) : Met l yX0_hasFlip (Cond.code yX0_hasFlip cX0_hasFlip 2 (some .boolean) :: ds_gw) { frames := 2, cells := 0, slots := 0, locals := 41 } (va_Pc [.ref h_o, .int p1] (ds_Pre dC dI ca sa [(h_o, .inr (0, [.ref h_o_seen, .ref h_o_turned, .ref h_o_found, .int o_looked, .int o_stepsFound, .int o_firstX, .int o_firstY, .int o_secondX, .int o_secondY])), (h_o_seen, .inr (5, [.int o_seen_wide, .int o_seen_high, .int o_seen_hex, .long o_seen_ones, .long o_seen_twos])), (h_o_found, .inl (ca 1, 12, .inr (.inl o_found_r)))] sz)) (va_Qi (fun r (_ : Unit) => r = res) (ds_B dC dI (va_A [(h_o, .inr (0, [.ref h_o_seen, .ref h_o_turned, .ref h_o_found, .int o_looked, .int o_stepsFound, .int o_firstX, .int o_firstY, .int o_secondX, .int o_secondY])), (h_o_seen, .inr (5, [.int o_seen_wide, .int o_seen_high, .int o_seen_hex, .long o_seen_ones, .long o_seen_twos])), (h_o_found, .inl (ca 1, 12, .inr (.inl o_found_r)))] sz) [(h_o, .inr (0, [.ref h_o_seen, .ref h_o_turned, .ref h_o_found, .int o_looked, .int o_stepsFound, .int o_firstX, .int o_firstY, .int o_secondX, .int o_secondY])), (h_o_seen, .inr (5, [.int o_seen_wide, .int o_seen_high, .int o_seen_hex, .long o_seen_ones, .long o_seen_twos])), (h_o_found, .inl (ca 1, 12, .inr (.inl o_found_r)))]) (va_A [(h_o, .inr (0, [.ref h_o_seen, .ref h_o_turned, .ref h_o_found, .int o_looked, .int o_stepsFound, .int o_firstX, .int o_firstY, .int o_secondX, .int o_secondY])), (h_o_seen, .inr (5, [.int o_seen_wide, .int o_seen_high, .int o_seen_hex, .long o_seen_ones, .long o_seen_twos])), (h_o_found, .inl (ca 1, 12, .inr (.inl o_found_r)))] sz)) 0 0 (va_A [(h_o, .inr (0, [.ref h_o_seen, .ref h_o_turned, .ref h_o_found, .int o_looked, .int o_stepsFound, .int o_firstX, .int o_firstY, .int o_secondX, .int o_secondY])), (h_o_seen, .inr (5, [.int o_seen_wide, .int o_seen_high, .int o_seen_hex, .long o_seen_ones, .long o_seen_twos])), (h_o_found, .inl (ca 1, 12, .inr (.inl o_found_r)))] sz) := by
  refine Met.ofW (cc := cX0_hasFlip) (maxL := 2) (ret := (some .boolean)) (by decide) rfl ?_
  intro p e s m args below meth c s₁ B hml hv
  obtain ⟨rfl, hsz, hP, hK, hD0, hE⟩ := hv
  have hx := B.exec
  have hb := B.bytes
  have hr := B.returns
  have hts := atoms_spec (ws := Cond.code yX0_hasFlip cX0_hasFlip 2 (some .boolean) :: ds_gw) B.pre
  have hg : ∀ {w : Cond}, w ∈ ds_gw → w.before _ s = true := fun h => hts _ (List.mem_cons_of_mem _ h)
  have hown : s.vm.findClass RX0 = some m.cls := findClass_of_methodNamed B.named
  have hlocks := B.notSynchronized
  subst hsz
  have hD := hD0.self (sz := s.heap.size)
  generalize hAe : va_A [(h_o, .inr (0, [.ref h_o_seen, .ref h_o_turned, .ref h_o_found, .int o_looked, .int o_stepsFound, .int o_firstX, .int o_firstY, .int o_secondX, .int o_secondY])), (h_o_seen, .inr (5, [.int o_seen_wide, .int o_seen_high, .int o_seen_hex, .long o_seen_ones, .long o_seen_twos])), (h_o_found, .inl (ca 1, 12, .inr (.inl o_found_r)))] s.heap.size = A at hD hE ⊢
  have hA : ∀ q : Nat, s.heap.size ≤ q → A q := fun q h => by rw [← hAe]; exact Or.inr h
  have hS : va_S A s.heap s.heap [] := va_S.rf
  have hl := lv_entry ([.ref h_o, .int p1]) (n := 2) (Nat.le_of_ble_eq_true rfl)
  rw [lg_entry_eq]
  generalize (lg_sl ([.ref h_o, .int p1]) ++ List.replicate (2 - (lg_sl ([.ref h_o, .int p1])).length) Slot.unset).toArray = ls at hl ⊢
  have hl : lv_has ls 2 [(0, .ref h_o), (1, .int p1)] := hl
  obtain ⟨G0, eG0⟩ : ∃ G : Int32 → Prop, G = (fun r => r = res) := ⟨_, rfl⟩
  obtain ⟨rr, hrr⟩ : ∃ z, z = res := ⟨_, rfl⟩
  rw [← hrr] at hf
  have hG : G0 rr := by subst eG0; exact hrr
  unfold fX0_hasFlip at hf
  refine lv_aload_n hx hb dX0_hasFlip_0 rfl (lv_at hl 0 rfl) ?_
  refine va_get (D := (dC, dI)) (ci := 0) (v := .ref h_o_seen) (C := RX0) (T := TX0) (N := 9) hx hb hts (fun w h => List.mem_cons_of_mem _ (kc_X0 w h)) hown hK hP 0 rfl rfl 0 (by decide) (hg kw_129) (fun _ h9 => h9) rfl dX0_hasFlip_1 ?_
  refine va_getN (D := (dC, dI)) (ci := 5) (v := .int o_seen_hex) (C := RX6) (T := TX6) (N := 5) hx hb hts (fun w h => List.mem_cons_of_mem _ (kc_X6 w h)) hown hK hP 1 rfl rfl 2 (by decide) (va_Nw.use rfl (hE.1 _ kw_135)) (fun _ h9 => h9) rfl dX0_hasFlip_4 ?_
  refine lv_iload_n hx hb dX0_hasFlip_7 rfl (lv_at hl 1 rfl) ?_
  obtain ⟨q8, hq8, hf⟩ := ds_ob hf
  refine ds_calli (wr := [(h_o, .inr (0, [.ref h_o_seen, .ref h_o_turned, .ref h_o_found, .int o_looked, .int o_stepsFound, .int o_firstX, .int o_firstY, .int o_secondX, .int o_secondY])), (h_o_seen, .inr (5, [.int o_seen_wide, .int o_seen_high, .int o_seen_hex, .long o_seen_ones, .long o_seen_twos])), (h_o_found, .inl (ca 1, 12, .inr (.inl o_found_r)))]) (va_runS (As := [.int o_seen_hex, .int p1]) (rest := []) ⟨hx, hb, hml, hown, hts⟩ (c_X1_isFlip l dC dI ca sa  s.heap.size  o_seen_hex p1 q8 hq8) (va_cwS 2 hts (ds_gS kw_157 kw_8 kw_2 kw_9) rfl rfl rfl (by decide +kernel) ⟨Nat.le_of_ble_eq_true rfl, Nat.le_of_ble_eq_true rfl⟩) ⟨ds_blind, ds_at hP hD hK hE hS hA [] rfl rfl _⟩ rfl rfl hl.1 rfl (lv_room (Nat.le_of_ble_eq_true rfl)) dX0_hasFlip_8 ⟨Nat.zero_le _, Nat.zero_le _⟩) hP hD hS hA [] [0, 1, 2] rfl rfl rfl (by decide) (fun H locs hP hD hS => ?_)
  have hP : va_P (dC, dI) vwCl [(h_o, .inr (0, [.ref h_o_seen, .ref h_o_turned, .ref h_o_found, .int o_looked, .int o_stepsFound, .int o_firstX, .int o_firstY, .int o_secondX, .int o_secondY])), (h_o_seen, .inr (5, [.int o_seen_wide, .int o_seen_high, .int o_seen_hex, .long o_seen_ones, .long o_seen_twos])), (h_o_found, .inl (ca 1, 12, .inr (.inl o_found_r)))] H := hP
  have hD : va_D A [(h_o, .inr (0, [.ref h_o_seen, .ref h_o_turned, .ref h_o_found, .int o_looked, .int o_stepsFound, .int o_firstX, .int o_firstY, .int o_secondX, .int o_secondY])), (h_o_seen, .inr (5, [.int o_seen_wide, .int o_seen_high, .int o_seen_hex, .long o_seen_ones, .long o_seen_twos])), (h_o_found, .inl (ca 1, 12, .inr (.inl o_found_r)))] := hD
  refine lv_if_eq (tgt := 28) hx hb dX0_hasFlip_11 (by decide) (fun c_11 => ?_) (fun c_11 => ?_)
  · replace hf := ds_t c_11 hf
    refine lv_iconst (v := 0) hx hb dX0_hasFlip_28 (by decide) ?_
    have hf := Option.some.inj hf
    subst hf
    rw [eG0] at hG
    have hG : _ = res := hG
    subst hG
    exact W.zret (v := (0 : Int32)) (ty := .boolean) hx hb hr rfl (fun t ht hW => ⟨⟨(0 : Int32), (), rfl, rfl, by rw [ht]; exact hP, hD⟩, hS.F ht⟩) hS.2.2 dX0_hasFlip_29
  · replace hf := ds_f c_11 hf
    refine lv_aload_n hx hb dX0_hasFlip_14 rfl (lv_at hl 0 rfl) ?_
    refine lv_iload_n hx hb dX0_hasFlip_15 rfl (lv_at hl 1 rfl) ?_
    obtain ⟨q16, hq16, hf⟩ := ds_ob hf
    refine ds_calll (wr := [(h_o_seen, .inr (5, [.int o_seen_wide, .int o_seen_high, .int o_seen_hex, .long o_seen_ones, .long o_seen_twos]))]) (va_runV (As := [.int p1]) (rest := []) ⟨hx, hb, hml, hown, hts⟩ (c_X0_shiftsFor l dC dI ca sa h_o h_o_seen h_o_turned h_o_found H.size o_looked o_stepsFound o_firstX o_firstY o_secondX o_secondY o_found_r p1 q16 hq16) (cwV 1 hts (ds_gV kw_151 kw_152 kw_153 kw_154 kw_155) rfl rfl rfl (by decide +kernel) ⟨Nat.le_of_ble_eq_true rfl, Nat.le_of_ble_eq_true rfl⟩) ⟨ds_blind, va_recv hK hP (ci := 0) (q0 := 0) rfl rfl, ds_at hP hD hK hE hS hA [0, 2] rfl rfl _⟩ rfl rfl hl.1 rfl (lv_room (Nat.le_of_ble_eq_true rfl)) dX0_hasFlip_16 ⟨Nat.zero_le _, Nat.zero_le _⟩) hP hD hS hA [0, 2] [1] rfl rfl rfl (by decide) (fun H locs hP hD hS => ?_)
    have hP : va_P (dC, dI) vwCl [(h_o_seen, .inr (5, [.int o_seen_wide, .int o_seen_high, .int o_seen_hex, .long o_seen_ones, .long o_seen_twos])), (h_o, .inr (0, [.ref h_o_seen, .ref h_o_turned, .ref h_o_found, .int o_looked, .int o_stepsFound, .int o_firstX, .int o_firstY, .int o_secondX, .int o_secondY])), (h_o_found, .inl (ca 1, 12, .inr (.inl o_found_r)))] H := hP
    have hD : va_D A [(h_o_seen, .inr (5, [.int o_seen_wide, .int o_seen_high, .int o_seen_hex, .long o_seen_ones, .long o_seen_twos])), (h_o, .inr (0, [.ref h_o_seen, .ref h_o_turned, .ref h_o_found, .int o_looked, .int o_stepsFound, .int o_firstX, .int o_firstY, .int o_secondX, .int o_secondY])), (h_o_found, .inl (ca 1, 12, .inr (.inl o_found_r)))] := hD
    refine lv_lconst (v := 0) hx hb dX0_hasFlip_19 (by decide) ?_
    refine W.lcmp hx hb dX0_hasFlip_20 ?_
    refine lv_if_eq (tgt := 28) hx hb dX0_hasFlip_21 (by decide) (fun c_21 => ?_) (fun c_21 => ?_)
    · replace hf := ds_t c_21 hf
      refine lv_iconst (v := 0) hx hb dX0_hasFlip_28 (by decide) ?_
      have hf := Option.some.inj hf
      subst hf
      rw [eG0] at hG
      have hG : _ = res := hG
      subst hG
      exact W.zret (v := (0 : Int32)) (ty := .boolean) hx hb hr rfl (fun t ht hW => ⟨⟨(0 : Int32), (), rfl, rfl, by rw [ht]; exact (hP.sub [1, 0, 2] rfl), (hD.sub [1, 0, 2] rfl rfl)⟩, hS.F ht⟩) hS.2.2 dX0_hasFlip_29
    · replace hf := ds_f c_21 hf
      refine lv_iconst (v := 1) hx hb dX0_hasFlip_24 (by decide) ?_
      refine lv_goto (tgt := 29) hx hb dX0_hasFlip_25 (by decide) ?_
      have hf := Option.some.inj hf
      subst hf
      rw [eG0] at hG
      have hG : _ = res := hG
      subst hG
      exact W.zret (v := (1 : Int32)) (ty := .boolean) hx hb hr rfl (fun t ht hW => ⟨⟨(1 : Int32), (), rfl, rfl, by rw [ht]; exact (hP.sub [1, 0, 2] rfl), (hD.sub [1, 0, 2] rfl rfl)⟩, hS.F ht⟩) hS.2.2 dX0_hasFlip_29
theorem dX0_span_0 : decode cX0_span 0 = .ok (.aload_n 0, 1) := by decide +kernel
theorem dX0_span_1 : decode cX0_span 1 = .ok (.iconst 0, 1) := by decide +kernel
theorem dX0_span_2 : decode cX0_span 2 = .ok (.invokevirtual 57, 3) := by decide +kernel
theorem dX0_span_5 : decode cX0_span 5 = .ok (.invokestatic 68, 3) := by decide +kernel
theorem dX0_span_8 : decode cX0_span 8 = .ok (.ireturn, 1) := by decide +kernel
def fX0_span (o_found_r : Nat → Int64) : Option (Int32) :=
  Option.bind (fX0_shiftsFor o_found_r (0 : Int32)) fun q2 => Option.bind (fJ13_bitCount_95d88 q2) fun q5 => some q5
set_option maxHeartbeats 4000000 in
set_option maxRecDepth 100000 in
theorem c_X0_span (l : Launch) (dC : Nat → ClassId) (dI : Nat → Nat → Nat) (ca : Nat → ClassId) (sa : Nat → Nat) (h_o : Nat) (h_o_seen : Nat) (h_o_turned : Nat) (h_o_found : Nat) (sz : Nat) (o_looked : Int32) (o_stepsFound : Int32) (o_firstX : Int32) (o_firstY : Int32) (o_secondX : Int32) (o_secondY : Int32) (o_found_r : Nat → Int64) (res : Int32) (hf : fX0_span o_found_r = some res) : Met l yX0_span (Cond.code yX0_span cX0_span 1 (some .int) :: ds_gw) { frames := 1, cells := 0, slots := 0, locals := 21 } (va_Pc [.ref h_o] (ds_Pre dC dI ca sa [(h_o, .inr (0, [.ref h_o_seen, .ref h_o_turned, .ref h_o_found, .int o_looked, .int o_stepsFound, .int o_firstX, .int o_firstY, .int o_secondX, .int o_secondY])), (h_o_found, .inl (ca 1, 12, .inr (.inl o_found_r)))] sz)) (va_Qi (fun r (_ : Unit) => r = res) (ds_B dC dI (va_A [(h_o, .inr (0, [.ref h_o_seen, .ref h_o_turned, .ref h_o_found, .int o_looked, .int o_stepsFound, .int o_firstX, .int o_firstY, .int o_secondX, .int o_secondY])), (h_o_found, .inl (ca 1, 12, .inr (.inl o_found_r)))] sz) [(h_o, .inr (0, [.ref h_o_seen, .ref h_o_turned, .ref h_o_found, .int o_looked, .int o_stepsFound, .int o_firstX, .int o_firstY, .int o_secondX, .int o_secondY])), (h_o_found, .inl (ca 1, 12, .inr (.inl o_found_r)))]) (va_A [(h_o, .inr (0, [.ref h_o_seen, .ref h_o_turned, .ref h_o_found, .int o_looked, .int o_stepsFound, .int o_firstX, .int o_firstY, .int o_secondX, .int o_secondY])), (h_o_found, .inl (ca 1, 12, .inr (.inl o_found_r)))] sz)) 0 0 (va_A [(h_o, .inr (0, [.ref h_o_seen, .ref h_o_turned, .ref h_o_found, .int o_looked, .int o_stepsFound, .int o_firstX, .int o_firstY, .int o_secondX, .int o_secondY])), (h_o_found, .inl (ca 1, 12, .inr (.inl o_found_r)))] sz) := by
  refine Met.ofW (cc := cX0_span) (maxL := 1) (ret := (some .int)) (by decide) rfl ?_
  intro p e s m args below meth c s₁ B hml hv
  obtain ⟨rfl, hsz, hP, hK, hD0, hE⟩ := hv
  have hx := B.exec
  have hb := B.bytes
  have hr := B.returns
  have hts := atoms_spec (ws := Cond.code yX0_span cX0_span 1 (some .int) :: ds_gw) B.pre
  have hg : ∀ {w : Cond}, w ∈ ds_gw → w.before _ s = true := fun h => hts _ (List.mem_cons_of_mem _ h)
  have hown : s.vm.findClass RX0 = some m.cls := findClass_of_methodNamed B.named
  have hlocks := B.notSynchronized
  subst hsz
  have hD := hD0.self (sz := s.heap.size)
  generalize hAe : va_A [(h_o, .inr (0, [.ref h_o_seen, .ref h_o_turned, .ref h_o_found, .int o_looked, .int o_stepsFound, .int o_firstX, .int o_firstY, .int o_secondX, .int o_secondY])), (h_o_found, .inl (ca 1, 12, .inr (.inl o_found_r)))] s.heap.size = A at hD hE ⊢
  have hA : ∀ q : Nat, s.heap.size ≤ q → A q := fun q h => by rw [← hAe]; exact Or.inr h
  have hS : va_S A s.heap s.heap [] := va_S.rf
  have hl := lv_entry ([.ref h_o]) (n := 1) (Nat.le_of_ble_eq_true rfl)
  rw [lg_entry_eq]
  generalize (lg_sl ([.ref h_o]) ++ List.replicate (1 - (lg_sl ([.ref h_o])).length) Slot.unset).toArray = ls at hl ⊢
  have hl : lv_has ls 1 [(0, .ref h_o)] := hl
  obtain ⟨G0, eG0⟩ : ∃ G : Int32 → Prop, G = (fun r => r = res) := ⟨_, rfl⟩
  obtain ⟨rr, hrr⟩ : ∃ z, z = res := ⟨_, rfl⟩
  rw [← hrr] at hf
  have hG : G0 rr := by subst eG0; exact hrr
  unfold fX0_span at hf
  refine lv_aload_n hx hb dX0_span_0 rfl (lv_at hl 0 rfl) ?_
  refine lv_iconst (v := 0) hx hb dX0_span_1 (by decide) ?_
  obtain ⟨q2, hq2, hf⟩ := ds_ob hf
  refine ds_calll (wr := []) (va_runV (As := [.int (0 : Int32)]) (rest := []) ⟨hx, hb, hml, hown, hts⟩ (c_X0_shiftsFor l dC dI ca sa h_o h_o_seen h_o_turned h_o_found s.heap.size o_looked o_stepsFound o_firstX o_firstY o_secondX o_secondY o_found_r (0 : Int32) q2 hq2) (cwV 1 hts (ds_gV kw_151 kw_152 kw_153 kw_154 kw_155) rfl rfl rfl (by decide +kernel) ⟨Nat.le_of_ble_eq_true rfl, Nat.le_of_ble_eq_true rfl⟩) ⟨ds_blind, va_recv hK hP (ci := 0) (q0 := 0) rfl rfl, ds_at hP hD hK hE hS hA [0, 1] rfl rfl _⟩ rfl rfl hl.1 rfl (lv_room (Nat.le_of_ble_eq_true rfl)) dX0_span_2 ⟨Nat.zero_le _, Nat.zero_le _⟩) hP hD hS hA [0, 1] [] rfl rfl rfl (by decide) (fun H locs hP hD hS => ?_)
  have hP : va_P (dC, dI) vwCl [(h_o, .inr (0, [.ref h_o_seen, .ref h_o_turned, .ref h_o_found, .int o_looked, .int o_stepsFound, .int o_firstX, .int o_firstY, .int o_secondX, .int o_secondY])), (h_o_found, .inl (ca 1, 12, .inr (.inl o_found_r)))] H := hP
  have hD : va_D A [(h_o, .inr (0, [.ref h_o_seen, .ref h_o_turned, .ref h_o_found, .int o_looked, .int o_stepsFound, .int o_firstX, .int o_firstY, .int o_secondX, .int o_secondY])), (h_o_found, .inl (ca 1, 12, .inr (.inl o_found_r)))] := hD
  obtain ⟨q5, hq5, hf⟩ := ds_ob hf
  refine ds_calli (wr := [(h_o, .inr (0, [.ref h_o_seen, .ref h_o_turned, .ref h_o_found, .int o_looked, .int o_stepsFound, .int o_firstX, .int o_firstY, .int o_secondX, .int o_secondY])), (h_o_found, .inl (ca 1, 12, .inr (.inl o_found_r)))]) (va_runS (As := [.long q2]) (rest := []) ⟨hx, hb, hml, hown, hts⟩ (c_J13_bitCount_95d88 l dC dI ca sa  H.size  q2 q5 hq5) (va_cwS 1 hts (ds_gS kw_158 kw_110 kw_111 kw_112) rfl rfl rfl (by decide +kernel) ⟨Nat.le_of_ble_eq_true rfl, Nat.le_of_ble_eq_true rfl⟩) ⟨ds_blind, ds_at hP hD hK hE hS hA [] rfl rfl _⟩ rfl rfl hl.1 rfl (lv_room (Nat.le_of_ble_eq_true rfl)) dX0_span_5 ⟨Nat.zero_le _, Nat.zero_le _⟩) hP hD hS hA [] [0, 1] rfl rfl rfl (by decide) (fun H locs hP hD hS => ?_)
  have hP : va_P (dC, dI) vwCl [(h_o, .inr (0, [.ref h_o_seen, .ref h_o_turned, .ref h_o_found, .int o_looked, .int o_stepsFound, .int o_firstX, .int o_firstY, .int o_secondX, .int o_secondY])), (h_o_found, .inl (ca 1, 12, .inr (.inl o_found_r)))] H := hP
  have hD : va_D A [(h_o, .inr (0, [.ref h_o_seen, .ref h_o_turned, .ref h_o_found, .int o_looked, .int o_stepsFound, .int o_firstX, .int o_firstY, .int o_secondX, .int o_secondY])), (h_o_found, .inl (ca 1, 12, .inr (.inl o_found_r)))] := hD
  have hf := Option.some.inj hf
  subst hf
  rw [eG0] at hG
  have hG : _ = res := hG
  subst hG
  exact W.iret (v := q5) hx hb hr (fun t ht hW => ⟨⟨q5, (), rfl, rfl, by rw [ht]; exact hP, hD⟩, hS.F ht⟩) hS.2.2 dX0_span_8
theorem dX0_motif_0 : decode cX0_motif 0 = .ok (.aload_n 0, 1) := by decide +kernel
theorem dX0_motif_1 : decode cX0_motif 1 = .ok (.invokevirtual 74, 3) := by decide +kernel
theorem dX0_motif_4 : decode cX0_motif 4 = .ok (.istore_n 1, 1) := by decide +kernel
theorem dX0_motif_5 : decode cX0_motif 5 = .ok (.iload_n 1, 1) := by decide +kernel
theorem dX0_motif_6 : decode cX0_motif 6 = .ok (.ifCond .le 15, 3) := by decide +kernel
theorem dX0_motif_9 : decode cX0_motif 9 = .ok (.aload_n 0, 1) := by decide +kernel
theorem dX0_motif_10 : decode cX0_motif 10 = .ok (.getfield 12, 3) := by decide +kernel
theorem dX0_motif_13 : decode cX0_motif 13 = .ok (.invokevirtual 78, 3) := by decide +kernel
theorem dX0_motif_16 : decode cX0_motif 16 = .ok (.iload_n 1, 1) := by decide +kernel
theorem dX0_motif_17 : decode cX0_motif 17 = .ok (.idiv, 1) := by decide +kernel
theorem dX0_motif_18 : decode cX0_motif 18 = .ok (.goto 4, 3) := by decide +kernel
theorem dX0_motif_21 : decode cX0_motif 21 = .ok (.iconst 0, 1) := by decide +kernel
theorem dX0_motif_22 : decode cX0_motif 22 = .ok (.ireturn, 1) := by decide +kernel
def fX0_motif (o_found_r : Nat → Int64) (o_seen_wide : Int32) (o_seen_high : Int32) : Option (Int32) :=
  Option.bind (fX0_span o_found_r) fun q1 => if q1 ≤ 0 then some (0 : Int32) else Option.bind (fX6_cells o_seen_wide o_seen_high) fun q13 => if q1 = 0 then none else some (q13 / q1)
set_option maxHeartbeats 4000000 in
set_option maxRecDepth 100000 in
theorem c_X0_motif (l : Launch) (dC : Nat → ClassId) (dI : Nat → Nat → Nat) (ca : Nat → ClassId) (sa : Nat → Nat) (h_o : Nat) (h_o_seen : Nat) (h_o_turned : Nat) (h_o_found : Nat) (sz : Nat) (o_looked : Int32) (o_stepsFound : Int32) (o_firstX : Int32) (o_firstY : Int32) (o_secondX : Int32) (o_secondY : Int32) (o_found_r : Nat → Int64) (o_seen_wide : Int32) (o_seen_high : Int32) (o_seen_hex : Int32) (o_seen_ones : Int64) (o_seen_twos : Int64) (res : Int32) (hf : fX0_motif o_found_r o_seen_wide o_seen_high = some res) : Met l yX0_motif (Cond.code yX0_motif cX0_motif 2 (some .int) :: ds_gw) { frames := 2, cells := 0, slots := 0, locals := 41 } (va_Pc [.ref h_o] (ds_Pre dC dI ca sa [(h_o, .inr (0, [.ref h_o_seen, .ref h_o_turned, .ref h_o_found, .int o_looked, .int o_stepsFound, .int o_firstX, .int o_firstY, .int o_secondX, .int o_secondY])), (h_o_found, .inl (ca 1, 12, .inr (.inl o_found_r))), (h_o_seen, .inr (5, [.int o_seen_wide, .int o_seen_high, .int o_seen_hex, .long o_seen_ones, .long o_seen_twos]))] sz)) (va_Qi (fun r (_ : Unit) => r = res) (ds_B dC dI (va_A [(h_o, .inr (0, [.ref h_o_seen, .ref h_o_turned, .ref h_o_found, .int o_looked, .int o_stepsFound, .int o_firstX, .int o_firstY, .int o_secondX, .int o_secondY])), (h_o_found, .inl (ca 1, 12, .inr (.inl o_found_r))), (h_o_seen, .inr (5, [.int o_seen_wide, .int o_seen_high, .int o_seen_hex, .long o_seen_ones, .long o_seen_twos]))] sz) [(h_o, .inr (0, [.ref h_o_seen, .ref h_o_turned, .ref h_o_found, .int o_looked, .int o_stepsFound, .int o_firstX, .int o_firstY, .int o_secondX, .int o_secondY])), (h_o_found, .inl (ca 1, 12, .inr (.inl o_found_r))), (h_o_seen, .inr (5, [.int o_seen_wide, .int o_seen_high, .int o_seen_hex, .long o_seen_ones, .long o_seen_twos]))]) (va_A [(h_o, .inr (0, [.ref h_o_seen, .ref h_o_turned, .ref h_o_found, .int o_looked, .int o_stepsFound, .int o_firstX, .int o_firstY, .int o_secondX, .int o_secondY])), (h_o_found, .inl (ca 1, 12, .inr (.inl o_found_r))), (h_o_seen, .inr (5, [.int o_seen_wide, .int o_seen_high, .int o_seen_hex, .long o_seen_ones, .long o_seen_twos]))] sz)) 0 0 (va_A [(h_o, .inr (0, [.ref h_o_seen, .ref h_o_turned, .ref h_o_found, .int o_looked, .int o_stepsFound, .int o_firstX, .int o_firstY, .int o_secondX, .int o_secondY])), (h_o_found, .inl (ca 1, 12, .inr (.inl o_found_r))), (h_o_seen, .inr (5, [.int o_seen_wide, .int o_seen_high, .int o_seen_hex, .long o_seen_ones, .long o_seen_twos]))] sz) := by
  refine Met.ofW (cc := cX0_motif) (maxL := 2) (ret := (some .int)) (by decide) rfl ?_
  intro p e s m args below meth c s₁ B hml hv
  obtain ⟨rfl, hsz, hP, hK, hD0, hE⟩ := hv
  have hx := B.exec
  have hb := B.bytes
  have hr := B.returns
  have hts := atoms_spec (ws := Cond.code yX0_motif cX0_motif 2 (some .int) :: ds_gw) B.pre
  have hg : ∀ {w : Cond}, w ∈ ds_gw → w.before _ s = true := fun h => hts _ (List.mem_cons_of_mem _ h)
  have hown : s.vm.findClass RX0 = some m.cls := findClass_of_methodNamed B.named
  have hlocks := B.notSynchronized
  subst hsz
  have hD := hD0.self (sz := s.heap.size)
  generalize hAe : va_A [(h_o, .inr (0, [.ref h_o_seen, .ref h_o_turned, .ref h_o_found, .int o_looked, .int o_stepsFound, .int o_firstX, .int o_firstY, .int o_secondX, .int o_secondY])), (h_o_found, .inl (ca 1, 12, .inr (.inl o_found_r))), (h_o_seen, .inr (5, [.int o_seen_wide, .int o_seen_high, .int o_seen_hex, .long o_seen_ones, .long o_seen_twos]))] s.heap.size = A at hD hE ⊢
  have hA : ∀ q : Nat, s.heap.size ≤ q → A q := fun q h => by rw [← hAe]; exact Or.inr h
  have hS : va_S A s.heap s.heap [] := va_S.rf
  have hl := lv_entry ([.ref h_o]) (n := 2) (Nat.le_of_ble_eq_true rfl)
  rw [lg_entry_eq]
  generalize (lg_sl ([.ref h_o]) ++ List.replicate (2 - (lg_sl ([.ref h_o])).length) Slot.unset).toArray = ls at hl ⊢
  have hl : lv_has ls 2 [(0, .ref h_o)] := hl
  obtain ⟨G0, eG0⟩ : ∃ G : Int32 → Prop, G = (fun r => r = res) := ⟨_, rfl⟩
  obtain ⟨rr, hrr⟩ : ∃ z, z = res := ⟨_, rfl⟩
  rw [← hrr] at hf
  have hG : G0 rr := by subst eG0; exact hrr
  unfold fX0_motif at hf
  refine lv_aload_n hx hb dX0_motif_0 rfl (lv_at hl 0 rfl) ?_
  obtain ⟨q1, hq1, hf⟩ := ds_ob hf
  refine ds_calli (wr := [(h_o_seen, .inr (5, [.int o_seen_wide, .int o_seen_high, .int o_seen_hex, .long o_seen_ones, .long o_seen_twos]))]) (va_runV (As := []) (rest := []) ⟨hx, hb, hml, hown, hts⟩ (c_X0_span l dC dI ca sa h_o h_o_seen h_o_turned h_o_found s.heap.size o_looked o_stepsFound o_firstX o_firstY o_secondX o_secondY o_found_r  q1 hq1) (cwV 0 hts (ds_gV kw_159 kw_160 kw_161 kw_154 kw_162) rfl rfl rfl (by decide +kernel) ⟨Nat.le_of_ble_eq_true rfl, Nat.le_of_ble_eq_true rfl⟩) ⟨ds_blind, va_recv hK hP (ci := 0) (q0 := 0) rfl rfl, ds_at hP hD hK hE hS hA [0, 1] rfl rfl _⟩ rfl rfl hl.1 rfl (lv_room (Nat.le_of_ble_eq_true rfl)) dX0_motif_1 ⟨Nat.zero_le _, Nat.zero_le _⟩) hP hD hS hA [0, 1] [2] rfl rfl rfl (by decide) (fun H locs hP hD hS => ?_)
  have hP : va_P (dC, dI) vwCl [(h_o_seen, .inr (5, [.int o_seen_wide, .int o_seen_high, .int o_seen_hex, .long o_seen_ones, .long o_seen_twos])), (h_o, .inr (0, [.ref h_o_seen, .ref h_o_turned, .ref h_o_found, .int o_looked, .int o_stepsFound, .int o_firstX, .int o_firstY, .int o_secondX, .int o_secondY])), (h_o_found, .inl (ca 1, 12, .inr (.inl o_found_r)))] H := hP
  have hD : va_D A [(h_o_seen, .inr (5, [.int o_seen_wide, .int o_seen_high, .int o_seen_hex, .long o_seen_ones, .long o_seen_twos])), (h_o, .inr (0, [.ref h_o_seen, .ref h_o_turned, .ref h_o_found, .int o_looked, .int o_stepsFound, .int o_firstX, .int o_firstY, .int o_secondX, .int o_secondY])), (h_o_found, .inl (ca 1, 12, .inr (.inl o_found_r)))] := hD
  refine lv_istore_n (lv' := [(1, .int q1), (0, .ref h_o)]) hx hb dX0_motif_4 rfl hl (by decide) rfl (fun ls hl => ?_)
  refine lv_iload_n hx hb dX0_motif_5 rfl (lv_at hl 0 rfl) ?_
  refine lv_if_le (tgt := 21) hx hb dX0_motif_6 (by decide) (fun c_6 => ?_) (fun c_6 => ?_)
  · replace hf := ds_t c_6 hf
    refine lv_iconst (v := 0) hx hb dX0_motif_21 (by decide) ?_
    have hf := Option.some.inj hf
    subst hf
    rw [eG0] at hG
    have hG : _ = res := hG
    subst hG
    exact W.iret (v := (0 : Int32)) hx hb hr (fun t ht hW => ⟨⟨(0 : Int32), (), rfl, rfl, by rw [ht]; exact (hP.sub [1, 2, 0] rfl), (hD.sub [1, 2, 0] rfl rfl)⟩, hS.F ht⟩) hS.2.2 dX0_motif_22
  · replace hf := ds_f c_6 hf
    refine lv_aload_n hx hb dX0_motif_9 rfl (lv_at hl 1 rfl) ?_
    refine va_get (D := (dC, dI)) (ci := 0) (v := .ref h_o_seen) (C := RX0) (T := TX0) (N := 9) hx hb hts (fun w h => List.mem_cons_of_mem _ (kc_X0 w h)) hown hK hP 1 rfl rfl 0 (by decide) (hg kw_129) (fun _ h9 => h9) rfl dX0_motif_10 ?_
    obtain ⟨q13, hq13, hf⟩ := ds_ob hf
    refine ds_calli (wr := [(h_o, .inr (0, [.ref h_o_seen, .ref h_o_turned, .ref h_o_found, .int o_looked, .int o_stepsFound, .int o_firstX, .int o_firstY, .int o_secondX, .int o_secondY])), (h_o_found, .inl (ca 1, 12, .inr (.inl o_found_r)))]) (va_runV (As := []) (rest := []) ⟨hx, hb, hml, hown, hts⟩ (c_X6_cells l dC dI ca sa h_o_seen H.size o_seen_wide o_seen_high o_seen_hex o_seen_ones o_seen_twos  q13 hq13) (cwV 0 hts (ds_gV kw_163 kw_164 kw_165 kw_59 kw_166) rfl rfl rfl (by decide +kernel) ⟨Nat.le_of_ble_eq_true rfl, Nat.le_of_ble_eq_true rfl⟩) ⟨ds_blind, va_recv hK hP (ci := 5) (q0 := 0) rfl rfl, ds_at hP hD hK hE hS hA [0] rfl rfl _⟩ rfl rfl hl.1 rfl (lv_room (Nat.le_of_ble_eq_true rfl)) dX0_motif_13 ⟨Nat.zero_le _, Nat.zero_le _⟩) hP hD hS hA [0] [1, 2] rfl rfl rfl (by decide) (fun H locs hP hD hS => ?_)
    have hP : va_P (dC, dI) vwCl [(h_o, .inr (0, [.ref h_o_seen, .ref h_o_turned, .ref h_o_found, .int o_looked, .int o_stepsFound, .int o_firstX, .int o_firstY, .int o_secondX, .int o_secondY])), (h_o_found, .inl (ca 1, 12, .inr (.inl o_found_r))), (h_o_seen, .inr (5, [.int o_seen_wide, .int o_seen_high, .int o_seen_hex, .long o_seen_ones, .long o_seen_twos]))] H := hP
    have hD : va_D A [(h_o, .inr (0, [.ref h_o_seen, .ref h_o_turned, .ref h_o_found, .int o_looked, .int o_stepsFound, .int o_firstX, .int o_firstY, .int o_secondX, .int o_secondY])), (h_o_found, .inl (ca 1, 12, .inr (.inl o_found_r))), (h_o_seen, .inr (5, [.int o_seen_wide, .int o_seen_high, .int o_seen_hex, .long o_seen_ones, .long o_seen_twos]))] := hD
    refine lv_iload_n hx hb dX0_motif_16 rfl (lv_at hl 0 rfl) ?_
    obtain ⟨n_17, hf⟩ := ds_cn hf
    refine lv_idiv hx hb dX0_motif_17 n_17 ?_
    refine lv_goto (tgt := 22) hx hb dX0_motif_18 (by decide) ?_
    have hf := Option.some.inj hf
    subst hf
    rw [eG0] at hG
    have hG : _ = res := hG
    subst hG
    exact W.iret (v := (q13 / q1)) hx hb hr (fun t ht hW => ⟨⟨(q13 / q1), (), rfl, rfl, by rw [ht]; exact hP, hD⟩, hS.F ht⟩) hS.2.2 dX0_motif_22
theorem dX0_turningBits_0 : decode cX0_turningBits 0 = .ok (.iconst 0, 1) := by decide +kernel
theorem dX0_turningBits_1 : decode cX0_turningBits 1 = .ok (.istore_n 1, 1) := by decide +kernel
theorem dX0_turningBits_2 : decode cX0_turningBits 2 = .ok (.iconst 0, 1) := by decide +kernel
theorem dX0_turningBits_3 : decode cX0_turningBits 3 = .ok (.istore_n 2, 1) := by decide +kernel
theorem dX0_turningBits_4 : decode cX0_turningBits 4 = .ok (.iload_n 2, 1) := by decide +kernel
theorem dX0_turningBits_5 : decode cX0_turningBits 5 = .ok (.aload_n 0, 1) := by decide +kernel
theorem dX0_turningBits_6 : decode cX0_turningBits 6 = .ok (.getfield 12, 3) := by decide +kernel
theorem dX0_turningBits_9 : decode cX0_turningBits 9 = .ok (.getfield 39, 3) := by decide +kernel
theorem dX0_turningBits_12 : decode cX0_turningBits 12 = .ok (.invokestatic 81, 3) := by decide +kernel
theorem dX0_turningBits_15 : decode cX0_turningBits 15 = .ok (.if_icmp .ge 25, 3) := by decide +kernel
theorem dX0_turningBits_18 : decode cX0_turningBits 18 = .ok (.aload_n 0, 1) := by decide +kernel
theorem dX0_turningBits_19 : decode cX0_turningBits 19 = .ok (.iload_n 2, 1) := by decide +kernel
theorem dX0_turningBits_20 : decode cX0_turningBits 20 = .ok (.invokevirtual 57, 3) := by decide +kernel
theorem dX0_turningBits_23 : decode cX0_turningBits 23 = .ok (.lconst 0, 1) := by decide +kernel
theorem dX0_turningBits_24 : decode cX0_turningBits 24 = .ok (.lcmp, 1) := by decide +kernel
theorem dX0_turningBits_25 : decode cX0_turningBits 25 = .ok (.ifCond .eq 9, 3) := by decide +kernel
theorem dX0_turningBits_28 : decode cX0_turningBits 28 = .ok (.iload_n 1, 1) := by decide +kernel
theorem dX0_turningBits_29 : decode cX0_turningBits 29 = .ok (.iconst 1, 1) := by decide +kernel
theorem dX0_turningBits_30 : decode cX0_turningBits 30 = .ok (.iload_n 2, 1) := by decide +kernel
theorem dX0_turningBits_31 : decode cX0_turningBits 31 = .ok (.ishl, 1) := by decide +kernel
theorem dX0_turningBits_32 : decode cX0_turningBits 32 = .ok (.ior, 1) := by decide +kernel
theorem dX0_turningBits_33 : decode cX0_turningBits 33 = .ok (.istore_n 1, 1) := by decide +kernel
theorem dX0_turningBits_34 : decode cX0_turningBits 34 = .ok (.iinc 2 1, 3) := by decide +kernel
theorem dX0_turningBits_37 : decode cX0_turningBits 37 = .ok (.goto (-33), 3) := by decide +kernel
theorem dX0_turningBits_40 : decode cX0_turningBits 40 = .ok (.iload_n 1, 1) := by decide +kernel
theorem dX0_turningBits_41 : decode cX0_turningBits 41 = .ok (.ireturn, 1) := by decide +kernel
def fX0_turningBits_34 (v1 : Int32) (v2 : Int32) : Option ((Int32 × Int32) ⊕ (Int32)) :=
  some (.inl (v1, (v2 + 1)))
def fX0_turningBits_4_b (o_seen_hex : Int32) (o_found_r : Nat → Int64) (v1 : Int32) (v2 : Int32) : Option ((Int32 × Int32) ⊕ (Int32)) :=
  Option.bind (fX1_turnings o_seen_hex) fun q12 => if q12 ≤ v2 then some (.inr v1) else Option.bind (fX0_shiftsFor o_found_r v2) fun q20 => if (lg_cmp q20 (0 : Int64)) = 0 then fX0_turningBits_34 v1 v2 else fX0_turningBits_34 (v1 ||| ((1 : Int32) <<< (v2 &&& 31))) v2
def fX0_turningBits_4 (o_seen_hex : Int32) (o_found_r : Nat → Int64) (v1 : Int32) (v2 : Int32) : Option (Int32) := ds_it (fun s => fX0_turningBits_4_b o_seen_hex o_found_r s.1 s.2) 1000 (v1, v2)
def fX0_turningBits (o_seen_hex : Int32) (o_found_r : Nat → Int64) : Option (Int32) :=
  fX0_turningBits_4 o_seen_hex o_found_r (0 : Int32) (0 : Int32)
set_option maxHeartbeats 4000000 in
set_option maxRecDepth 100000 in
theorem c_X0_turningBits (l : Launch) (dC : Nat → ClassId) (dI : Nat → Nat → Nat) (ca : Nat → ClassId) (sa : Nat → Nat) (h_o : Nat) (h_o_seen : Nat) (h_o_turned : Nat) (h_o_found : Nat) (sz : Nat) (o_looked : Int32) (o_stepsFound : Int32) (o_firstX : Int32) (o_firstY : Int32) (o_secondX : Int32) (o_secondY : Int32) (o_seen_wide : Int32) (o_seen_high : Int32) (o_seen_hex : Int32) (o_seen_ones : Int64) (o_seen_twos : Int64) (o_found_r : Nat → Int64) (res : Int32) (hf : fX0_turningBits o_seen_hex o_found_r = some res) : Met l yX0_turningBits (Cond.code yX0_turningBits cX0_turningBits 3 (some .int) :: ds_gw) { frames := 1, cells := 0, slots := 0, locals := 21 } (va_Pc [.ref h_o] (ds_Pre dC dI ca sa [(h_o, .inr (0, [.ref h_o_seen, .ref h_o_turned, .ref h_o_found, .int o_looked, .int o_stepsFound, .int o_firstX, .int o_firstY, .int o_secondX, .int o_secondY])), (h_o_seen, .inr (5, [.int o_seen_wide, .int o_seen_high, .int o_seen_hex, .long o_seen_ones, .long o_seen_twos])), (h_o_found, .inl (ca 1, 12, .inr (.inl o_found_r)))] sz)) (va_Qi (fun r (_ : Unit) => r = res) (ds_B dC dI (va_A [(h_o, .inr (0, [.ref h_o_seen, .ref h_o_turned, .ref h_o_found, .int o_looked, .int o_stepsFound, .int o_firstX, .int o_firstY, .int o_secondX, .int o_secondY])), (h_o_seen, .inr (5, [.int o_seen_wide, .int o_seen_high, .int o_seen_hex, .long o_seen_ones, .long o_seen_twos])), (h_o_found, .inl (ca 1, 12, .inr (.inl o_found_r)))] sz) [(h_o, .inr (0, [.ref h_o_seen, .ref h_o_turned, .ref h_o_found, .int o_looked, .int o_stepsFound, .int o_firstX, .int o_firstY, .int o_secondX, .int o_secondY])), (h_o_seen, .inr (5, [.int o_seen_wide, .int o_seen_high, .int o_seen_hex, .long o_seen_ones, .long o_seen_twos])), (h_o_found, .inl (ca 1, 12, .inr (.inl o_found_r)))]) (va_A [(h_o, .inr (0, [.ref h_o_seen, .ref h_o_turned, .ref h_o_found, .int o_looked, .int o_stepsFound, .int o_firstX, .int o_firstY, .int o_secondX, .int o_secondY])), (h_o_seen, .inr (5, [.int o_seen_wide, .int o_seen_high, .int o_seen_hex, .long o_seen_ones, .long o_seen_twos])), (h_o_found, .inl (ca 1, 12, .inr (.inl o_found_r)))] sz)) 0 0 (va_A [(h_o, .inr (0, [.ref h_o_seen, .ref h_o_turned, .ref h_o_found, .int o_looked, .int o_stepsFound, .int o_firstX, .int o_firstY, .int o_secondX, .int o_secondY])), (h_o_seen, .inr (5, [.int o_seen_wide, .int o_seen_high, .int o_seen_hex, .long o_seen_ones, .long o_seen_twos])), (h_o_found, .inl (ca 1, 12, .inr (.inl o_found_r)))] sz) := by
  refine Met.ofW (cc := cX0_turningBits) (maxL := 3) (ret := (some .int)) (by decide) rfl ?_
  intro p e s m args below meth c s₁ B hml hv
  obtain ⟨rfl, hsz, hP, hK, hD0, hE⟩ := hv
  have hx := B.exec
  have hb := B.bytes
  have hr := B.returns
  have hts := atoms_spec (ws := Cond.code yX0_turningBits cX0_turningBits 3 (some .int) :: ds_gw) B.pre
  have hg : ∀ {w : Cond}, w ∈ ds_gw → w.before _ s = true := fun h => hts _ (List.mem_cons_of_mem _ h)
  have hown : s.vm.findClass RX0 = some m.cls := findClass_of_methodNamed B.named
  have hlocks := B.notSynchronized
  subst hsz
  have hD := hD0.self (sz := s.heap.size)
  generalize hAe : va_A [(h_o, .inr (0, [.ref h_o_seen, .ref h_o_turned, .ref h_o_found, .int o_looked, .int o_stepsFound, .int o_firstX, .int o_firstY, .int o_secondX, .int o_secondY])), (h_o_seen, .inr (5, [.int o_seen_wide, .int o_seen_high, .int o_seen_hex, .long o_seen_ones, .long o_seen_twos])), (h_o_found, .inl (ca 1, 12, .inr (.inl o_found_r)))] s.heap.size = A at hD hE ⊢
  have hA : ∀ q : Nat, s.heap.size ≤ q → A q := fun q h => by rw [← hAe]; exact Or.inr h
  have hS : va_S A s.heap s.heap [] := va_S.rf
  have hl := lv_entry ([.ref h_o]) (n := 3) (Nat.le_of_ble_eq_true rfl)
  rw [lg_entry_eq]
  generalize (lg_sl ([.ref h_o]) ++ List.replicate (3 - (lg_sl ([.ref h_o])).length) Slot.unset).toArray = ls at hl ⊢
  have hl : lv_has ls 3 [(0, .ref h_o)] := hl
  obtain ⟨G0, eG0⟩ : ∃ G : Int32 → Prop, G = (fun r => r = res) := ⟨_, rfl⟩
  obtain ⟨rr, hrr⟩ : ∃ z, z = res := ⟨_, rfl⟩
  rw [← hrr] at hf
  have hG : G0 rr := by subst eG0; exact hrr
  refine ds_cap (fun WW h1 h2 => ?_)
  have J_4 : ∀ (n : Nat) (v1 : Int32) (v2 : Int32) (rr : Int32) (hf : ds_it (fun s => fX0_turningBits_4_b o_seen_hex o_found_r s.1 s.2) n (v1, v2) = some rr) (hG : G0 rr) (H : Heap) (locs : List Loc) (hP : va_P (dC, dI) vwCl [(h_o, .inr (0, [.ref h_o_seen, .ref h_o_turned, .ref h_o_found, .int o_looked, .int o_stepsFound, .int o_firstX, .int o_firstY, .int o_secondX, .int o_secondY])), (h_o_seen, .inr (5, [.int o_seen_wide, .int o_seen_high, .int o_seen_hex, .long o_seen_ones, .long o_seen_twos])), (h_o_found, .inl (ca 1, 12, .inr (.inl o_found_r)))] H) (hD : va_D A [(h_o, .inr (0, [.ref h_o_seen, .ref h_o_turned, .ref h_o_found, .int o_looked, .int o_stepsFound, .int o_firstX, .int o_firstY, .int o_secondX, .int o_secondY])), (h_o_seen, .inr (5, [.int o_seen_wide, .int o_seen_high, .int o_seen_hex, .long o_seen_ones, .long o_seen_twos])), (h_o_found, .inl (ca 1, 12, .inr (.inl o_found_r)))]) (hS : va_S A s.heap H locs) (ls : Array Slot) (hl : lv_has ls 3 [(0, .ref h_o), (1, .int v1), (2, .int v2)]), WW H locs (F0 m 4 ls []) := by
    intro  n
    induction n with
    | zero => intro v1 v2 rr hf; exact (ds_it_zero hf).elim
    | succ n ih4 =>
      intro v1 v2 rr hf hG H locs hP hD hS ls hl
      refine h2 ?_
      obtain ⟨rr, hf, hG⟩ := ds_it_succ hf hG
      replace hf : fX0_turningBits_4_b o_seen_hex o_found_r v1 v2 = some rr := hf
      obtain ⟨G1, eG1⟩ : ∃ G : ((Int32 × Int32) ⊕ (Int32)) → Prop, G = ds_G (fun s' => ∃ r', ds_it (fun s => fX0_turningBits_4_b o_seen_hex o_found_r s.1 s.2) n s' = some r' ∧ G0 r') G0 := ⟨_, rfl⟩
      rw [← eG1] at hG
      have J_34 : ∀ (v1 : Int32) (v2 : Int32) (rr : (Int32 × Int32) ⊕ (Int32)) (hf : fX0_turningBits_34 v1 v2 = some rr) (hG : G1 rr) (H : Heap) (locs : List Loc) (hP : va_P (dC, dI) vwCl [(h_o, .inr (0, [.ref h_o_seen, .ref h_o_turned, .ref h_o_found, .int o_looked, .int o_stepsFound, .int o_firstX, .int o_firstY, .int o_secondX, .int o_secondY])), (h_o_seen, .inr (5, [.int o_seen_wide, .int o_seen_high, .int o_seen_hex, .long o_seen_ones, .long o_seen_twos])), (h_o_found, .inl (ca 1, 12, .inr (.inl o_found_r)))] H) (hD : va_D A [(h_o, .inr (0, [.ref h_o_seen, .ref h_o_turned, .ref h_o_found, .int o_looked, .int o_stepsFound, .int o_firstX, .int o_firstY, .int o_secondX, .int o_secondY])), (h_o_seen, .inr (5, [.int o_seen_wide, .int o_seen_high, .int o_seen_hex, .long o_seen_ones, .long o_seen_twos])), (h_o_found, .inl (ca 1, 12, .inr (.inl o_found_r)))]) (hS : va_S A s.heap H locs) (ls : Array Slot) (hl : lv_has ls 3 [(0, .ref h_o), (1, .int v1), (2, .int v2)]), WW H locs (F0 m 34 ls []) := by
        intro v1 v2 rr hf hG H locs hP hD hS ls hl
        refine h2 ?_
        unfold fX0_turningBits_34 at hf
        refine lv_iinc (v := (v2 + 1)) (lv' := [(2, .int (v2 + 1)), (0, .ref h_o), (1, .int v1)]) hx hb dX0_turningBits_34 hl (k := 2) rfl rfl (by decide) rfl (fun ls hl => ?_)
        refine lv_goto (tgt := 4) hx hb dX0_turningBits_37 (by decide) ?_
        have hf := Option.some.inj hf
        subst hf
        rw [eG1] at hG
        obtain ⟨rr, hf, hG⟩ := hG
        exact h1 (ih4 v1 (v2 + 1) rr hf hG _ _ hP hD hS _ (lv_sub hl [1, 2, 0] rfl))
      unfold fX0_turningBits_4_b at hf
      refine lv_iload_n hx hb dX0_turningBits_4 rfl (lv_at hl 2 rfl) ?_
      refine lv_aload_n hx hb dX0_turningBits_5 rfl (lv_at hl 0 rfl) ?_
      refine va_get (D := (dC, dI)) (ci := 0) (v := .ref h_o_seen) (C := RX0) (T := TX0) (N := 9) hx hb hts (fun w h => List.mem_cons_of_mem _ (kc_X0 w h)) hown hK hP 0 rfl rfl 0 (by decide) (hg kw_129) (fun _ h9 => h9) rfl dX0_turningBits_6 ?_
      refine va_getN (D := (dC, dI)) (ci := 5) (v := .int o_seen_hex) (C := RX6) (T := TX6) (N := 5) hx hb hts (fun w h => List.mem_cons_of_mem _ (kc_X6 w h)) hown hK hP 1 rfl rfl 2 (by decide) (va_Nw.use rfl (hE.1 _ kw_135)) (fun _ h9 => h9) rfl dX0_turningBits_9 ?_
      obtain ⟨q12, hq12, hf⟩ := ds_ob hf
      refine ds_calli (wr := [(h_o, .inr (0, [.ref h_o_seen, .ref h_o_turned, .ref h_o_found, .int o_looked, .int o_stepsFound, .int o_firstX, .int o_firstY, .int o_secondX, .int o_secondY])), (h_o_seen, .inr (5, [.int o_seen_wide, .int o_seen_high, .int o_seen_hex, .long o_seen_ones, .long o_seen_twos])), (h_o_found, .inl (ca 1, 12, .inr (.inl o_found_r)))]) (va_runS (As := [.int o_seen_hex]) (rest := [.int v2]) ⟨hx, hb, hml, hown, hts⟩ (c_X1_turnings l dC dI ca sa  H.size  o_seen_hex q12 hq12) (va_cwS 1 hts (ds_gS kw_167 kw_1 kw_2 kw_3) rfl rfl rfl (by decide +kernel) ⟨Nat.le_of_ble_eq_true rfl, Nat.le_of_ble_eq_true rfl⟩) ⟨ds_blind, ds_at hP hD hK hE hS hA [] rfl rfl _⟩ rfl rfl hl.1 rfl (lv_room (Nat.le_of_ble_eq_true rfl)) dX0_turningBits_12 ⟨Nat.zero_le _, Nat.zero_le _⟩) hP hD hS hA [] [0, 1, 2] rfl rfl rfl (by decide) (fun H locs hP hD hS => ?_)
      have hP : va_P (dC, dI) vwCl [(h_o, .inr (0, [.ref h_o_seen, .ref h_o_turned, .ref h_o_found, .int o_looked, .int o_stepsFound, .int o_firstX, .int o_firstY, .int o_secondX, .int o_secondY])), (h_o_seen, .inr (5, [.int o_seen_wide, .int o_seen_high, .int o_seen_hex, .long o_seen_ones, .long o_seen_twos])), (h_o_found, .inl (ca 1, 12, .inr (.inl o_found_r)))] H := hP
      have hD : va_D A [(h_o, .inr (0, [.ref h_o_seen, .ref h_o_turned, .ref h_o_found, .int o_looked, .int o_stepsFound, .int o_firstX, .int o_firstY, .int o_secondX, .int o_secondY])), (h_o_seen, .inr (5, [.int o_seen_wide, .int o_seen_high, .int o_seen_hex, .long o_seen_ones, .long o_seen_twos])), (h_o_found, .inl (ca 1, 12, .inr (.inl o_found_r)))] := hD
      refine lv_icmp_ge (tgt := 40) hx hb dX0_turningBits_15 (by decide) (fun c_15 => ?_) (fun c_15 => ?_)
      · replace hf := ds_t c_15 hf
        refine lv_iload_n hx hb dX0_turningBits_40 rfl (lv_at hl 1 rfl) ?_
        have hf := Option.some.inj hf
        subst hf
        rw [eG1] at hG
        replace hG : G0 _ := hG
        rw [eG0] at hG
        have hG : _ = res := hG
        subst hG
        exact W.iret (v := v1) hx hb hr (fun t ht hW => ⟨⟨v1, (), rfl, rfl, by rw [ht]; exact hP, hD⟩, hS.F ht⟩) hS.2.2 dX0_turningBits_41
      · replace hf := ds_f c_15 hf
        refine lv_aload_n hx hb dX0_turningBits_18 rfl (lv_at hl 0 rfl) ?_
        refine lv_iload_n hx hb dX0_turningBits_19 rfl (lv_at hl 2 rfl) ?_
        obtain ⟨q20, hq20, hf⟩ := ds_ob hf
        refine ds_calll (wr := [(h_o_seen, .inr (5, [.int o_seen_wide, .int o_seen_high, .int o_seen_hex, .long o_seen_ones, .long o_seen_twos]))]) (va_runV (As := [.int v2]) (rest := []) ⟨hx, hb, hml, hown, hts⟩ (c_X0_shiftsFor l dC dI ca sa h_o h_o_seen h_o_turned h_o_found H.size o_looked o_stepsFound o_firstX o_firstY o_secondX o_secondY o_found_r v2 q20 hq20) (cwV 1 hts (ds_gV kw_151 kw_152 kw_153 kw_154 kw_155) rfl rfl rfl (by decide +kernel) ⟨Nat.le_of_ble_eq_true rfl, Nat.le_of_ble_eq_true rfl⟩) ⟨ds_blind, va_recv hK hP (ci := 0) (q0 := 0) rfl rfl, ds_at hP hD hK hE hS hA [0, 2] rfl rfl _⟩ rfl rfl hl.1 rfl (lv_room (Nat.le_of_ble_eq_true rfl)) dX0_turningBits_20 ⟨Nat.zero_le _, Nat.zero_le _⟩) hP hD hS hA [0, 2] [1] rfl rfl rfl (by decide) (fun H locs hP hD hS => ?_)
        have hP : va_P (dC, dI) vwCl [(h_o_seen, .inr (5, [.int o_seen_wide, .int o_seen_high, .int o_seen_hex, .long o_seen_ones, .long o_seen_twos])), (h_o, .inr (0, [.ref h_o_seen, .ref h_o_turned, .ref h_o_found, .int o_looked, .int o_stepsFound, .int o_firstX, .int o_firstY, .int o_secondX, .int o_secondY])), (h_o_found, .inl (ca 1, 12, .inr (.inl o_found_r)))] H := hP
        have hD : va_D A [(h_o_seen, .inr (5, [.int o_seen_wide, .int o_seen_high, .int o_seen_hex, .long o_seen_ones, .long o_seen_twos])), (h_o, .inr (0, [.ref h_o_seen, .ref h_o_turned, .ref h_o_found, .int o_looked, .int o_stepsFound, .int o_firstX, .int o_firstY, .int o_secondX, .int o_secondY])), (h_o_found, .inl (ca 1, 12, .inr (.inl o_found_r)))] := hD
        refine lv_lconst (v := 0) hx hb dX0_turningBits_23 (by decide) ?_
        refine W.lcmp hx hb dX0_turningBits_24 ?_
        refine lv_if_eq (tgt := 34) hx hb dX0_turningBits_25 (by decide) (fun c_25 => ?_) (fun c_25 => ?_)
        · replace hf := ds_t c_25 hf
          exact h1 (J_34 v1 v2 _ hf hG _ _ (hP.sub [1, 0, 2] rfl) (hD.sub [1, 0, 2] rfl rfl) hS _ (lv_sub hl [0, 1, 2] rfl))
        · replace hf := ds_f c_25 hf
          refine lv_iload_n hx hb dX0_turningBits_28 rfl (lv_at hl 1 rfl) ?_
          refine lv_iconst (v := 1) hx hb dX0_turningBits_29 (by decide) ?_
          refine lv_iload_n hx hb dX0_turningBits_30 rfl (lv_at hl 2 rfl) ?_
          refine lv_ishl hx hb dX0_turningBits_31 ?_
          refine lv_ior hx hb dX0_turningBits_32 ?_
          refine lv_istore_n (lv' := [(1, .int (v1 ||| ((1 : Int32) <<< (v2 &&& 31)))), (0, .ref h_o), (2, .int v2)]) hx hb dX0_turningBits_33 rfl hl (by decide) rfl (fun ls hl => ?_)
          exact h1 (J_34 (v1 ||| ((1 : Int32) <<< (v2 &&& 31))) v2 _ hf hG _ _ (hP.sub [1, 0, 2] rfl) (hD.sub [1, 0, 2] rfl rfl) hS _ (lv_sub hl [1, 0, 2] rfl))
  unfold fX0_turningBits at hf
  refine lv_iconst (v := 0) hx hb dX0_turningBits_0 (by decide) ?_
  refine lv_istore_n (lv' := [(1, .int (0 : Int32)), (0, .ref h_o)]) hx hb dX0_turningBits_1 rfl hl (by decide) rfl (fun ls hl => ?_)
  refine lv_iconst (v := 0) hx hb dX0_turningBits_2 (by decide) ?_
  refine lv_istore_n (lv' := [(2, .int (0 : Int32)), (1, .int (0 : Int32)), (0, .ref h_o)]) hx hb dX0_turningBits_3 rfl hl (by decide) rfl (fun ls hl => ?_)
  exact h1 (J_4  1000 (0 : Int32) (0 : Int32) _ hf hG _ _ hP hD hS _ (lv_sub hl [2, 1, 0] rfl))
theorem dX0_order_0 : decode cX0_order 0 = .ok (.iconst 1, 1) := by decide +kernel
theorem dX0_order_1 : decode cX0_order 1 = .ok (.aload_n 0, 1) := by decide +kernel
theorem dX0_order_2 : decode cX0_order 2 = .ok (.getfield 12, 3) := by decide +kernel
theorem dX0_order_5 : decode cX0_order 5 = .ok (.getfield 39, 3) := by decide +kernel
theorem dX0_order_8 : decode cX0_order 8 = .ok (.invokestatic 85, 3) := by decide +kernel
theorem dX0_order_11 : decode cX0_order 11 = .ok (.ishl, 1) := by decide +kernel
theorem dX0_order_12 : decode cX0_order 12 = .ok (.iconst 1, 1) := by decide +kernel
theorem dX0_order_13 : decode cX0_order 13 = .ok (.isub, 1) := by decide +kernel
theorem dX0_order_14 : decode cX0_order 14 = .ok (.istore_n 1, 1) := by decide +kernel
theorem dX0_order_15 : decode cX0_order 15 = .ok (.aload_n 0, 1) := by decide +kernel
theorem dX0_order_16 : decode cX0_order 16 = .ok (.invokevirtual 88, 3) := by decide +kernel
theorem dX0_order_19 : decode cX0_order 19 = .ok (.iload_n 1, 1) := by decide +kernel
theorem dX0_order_20 : decode cX0_order 20 = .ok (.iand, 1) := by decide +kernel
theorem dX0_order_21 : decode cX0_order 21 = .ok (.invokestatic 91, 3) := by decide +kernel
theorem dX0_order_24 : decode cX0_order 24 = .ok (.ireturn, 1) := by decide +kernel
def fX0_order (o_seen_hex : Int32) (o_found_r : Nat → Int64) : Option (Int32) :=
  Option.bind (fX1_turns o_seen_hex) fun q8 => Option.bind (some ((((1 : Int32) <<< (q8 &&& 31)) - (1 : Int32)))) fun x14 => Option.bind (fX0_turningBits o_seen_hex o_found_r) fun q16 => Option.bind (fJ6_bitCount_0f7a4 (q16 &&& x14)) fun q21 => some q21
set_option maxHeartbeats 4000000 in
set_option maxRecDepth 100000 in
theorem c_X0_order (l : Launch) (dC : Nat → ClassId) (dI : Nat → Nat → Nat) (ca : Nat → ClassId) (sa : Nat → Nat) (h_o : Nat) (h_o_seen : Nat) (h_o_turned : Nat) (h_o_found : Nat) (sz : Nat) (o_looked : Int32) (o_stepsFound : Int32) (o_firstX : Int32) (o_firstY : Int32) (o_secondX : Int32) (o_secondY : Int32) (o_seen_wide : Int32) (o_seen_high : Int32) (o_seen_hex : Int32) (o_seen_ones : Int64) (o_seen_twos : Int64) (o_found_r : Nat → Int64) (res : Int32) (hf : fX0_order o_seen_hex o_found_r = some res) : Met l yX0_order (Cond.code yX0_order cX0_order 2 (some .int) :: ds_gw) { frames := 2, cells := 0, slots := 0, locals := 43 } (va_Pc [.ref h_o] (ds_Pre dC dI ca sa [(h_o, .inr (0, [.ref h_o_seen, .ref h_o_turned, .ref h_o_found, .int o_looked, .int o_stepsFound, .int o_firstX, .int o_firstY, .int o_secondX, .int o_secondY])), (h_o_seen, .inr (5, [.int o_seen_wide, .int o_seen_high, .int o_seen_hex, .long o_seen_ones, .long o_seen_twos])), (h_o_found, .inl (ca 1, 12, .inr (.inl o_found_r)))] sz)) (va_Qi (fun r (_ : Unit) => r = res) (ds_B dC dI (va_A [(h_o, .inr (0, [.ref h_o_seen, .ref h_o_turned, .ref h_o_found, .int o_looked, .int o_stepsFound, .int o_firstX, .int o_firstY, .int o_secondX, .int o_secondY])), (h_o_seen, .inr (5, [.int o_seen_wide, .int o_seen_high, .int o_seen_hex, .long o_seen_ones, .long o_seen_twos])), (h_o_found, .inl (ca 1, 12, .inr (.inl o_found_r)))] sz) [(h_o, .inr (0, [.ref h_o_seen, .ref h_o_turned, .ref h_o_found, .int o_looked, .int o_stepsFound, .int o_firstX, .int o_firstY, .int o_secondX, .int o_secondY])), (h_o_seen, .inr (5, [.int o_seen_wide, .int o_seen_high, .int o_seen_hex, .long o_seen_ones, .long o_seen_twos])), (h_o_found, .inl (ca 1, 12, .inr (.inl o_found_r)))]) (va_A [(h_o, .inr (0, [.ref h_o_seen, .ref h_o_turned, .ref h_o_found, .int o_looked, .int o_stepsFound, .int o_firstX, .int o_firstY, .int o_secondX, .int o_secondY])), (h_o_seen, .inr (5, [.int o_seen_wide, .int o_seen_high, .int o_seen_hex, .long o_seen_ones, .long o_seen_twos])), (h_o_found, .inl (ca 1, 12, .inr (.inl o_found_r)))] sz)) 0 0 (va_A [(h_o, .inr (0, [.ref h_o_seen, .ref h_o_turned, .ref h_o_found, .int o_looked, .int o_stepsFound, .int o_firstX, .int o_firstY, .int o_secondX, .int o_secondY])), (h_o_seen, .inr (5, [.int o_seen_wide, .int o_seen_high, .int o_seen_hex, .long o_seen_ones, .long o_seen_twos])), (h_o_found, .inl (ca 1, 12, .inr (.inl o_found_r)))] sz) := by
  refine Met.ofW (cc := cX0_order) (maxL := 2) (ret := (some .int)) (by decide) rfl ?_
  intro p e s m args below meth c s₁ B hml hv
  obtain ⟨rfl, hsz, hP, hK, hD0, hE⟩ := hv
  have hx := B.exec
  have hb := B.bytes
  have hr := B.returns
  have hts := atoms_spec (ws := Cond.code yX0_order cX0_order 2 (some .int) :: ds_gw) B.pre
  have hg : ∀ {w : Cond}, w ∈ ds_gw → w.before _ s = true := fun h => hts _ (List.mem_cons_of_mem _ h)
  have hown : s.vm.findClass RX0 = some m.cls := findClass_of_methodNamed B.named
  have hlocks := B.notSynchronized
  subst hsz
  have hD := hD0.self (sz := s.heap.size)
  generalize hAe : va_A [(h_o, .inr (0, [.ref h_o_seen, .ref h_o_turned, .ref h_o_found, .int o_looked, .int o_stepsFound, .int o_firstX, .int o_firstY, .int o_secondX, .int o_secondY])), (h_o_seen, .inr (5, [.int o_seen_wide, .int o_seen_high, .int o_seen_hex, .long o_seen_ones, .long o_seen_twos])), (h_o_found, .inl (ca 1, 12, .inr (.inl o_found_r)))] s.heap.size = A at hD hE ⊢
  have hA : ∀ q : Nat, s.heap.size ≤ q → A q := fun q h => by rw [← hAe]; exact Or.inr h
  have hS : va_S A s.heap s.heap [] := va_S.rf
  have hl := lv_entry ([.ref h_o]) (n := 2) (Nat.le_of_ble_eq_true rfl)
  rw [lg_entry_eq]
  generalize (lg_sl ([.ref h_o]) ++ List.replicate (2 - (lg_sl ([.ref h_o])).length) Slot.unset).toArray = ls at hl ⊢
  have hl : lv_has ls 2 [(0, .ref h_o)] := hl
  obtain ⟨G0, eG0⟩ : ∃ G : Int32 → Prop, G = (fun r => r = res) := ⟨_, rfl⟩
  obtain ⟨rr, hrr⟩ : ∃ z, z = res := ⟨_, rfl⟩
  rw [← hrr] at hf
  have hG : G0 rr := by subst eG0; exact hrr
  unfold fX0_order at hf
  refine lv_iconst (v := 1) hx hb dX0_order_0 (by decide) ?_
  refine lv_aload_n hx hb dX0_order_1 rfl (lv_at hl 0 rfl) ?_
  refine va_get (D := (dC, dI)) (ci := 0) (v := .ref h_o_seen) (C := RX0) (T := TX0) (N := 9) hx hb hts (fun w h => List.mem_cons_of_mem _ (kc_X0 w h)) hown hK hP 0 rfl rfl 0 (by decide) (hg kw_129) (fun _ h9 => h9) rfl dX0_order_2 ?_
  refine va_getN (D := (dC, dI)) (ci := 5) (v := .int o_seen_hex) (C := RX6) (T := TX6) (N := 5) hx hb hts (fun w h => List.mem_cons_of_mem _ (kc_X6 w h)) hown hK hP 1 rfl rfl 2 (by decide) (va_Nw.use rfl (hE.1 _ kw_135)) (fun _ h9 => h9) rfl dX0_order_5 ?_
  obtain ⟨q8, hq8, hf⟩ := ds_ob hf
  refine ds_calli (wr := [(h_o, .inr (0, [.ref h_o_seen, .ref h_o_turned, .ref h_o_found, .int o_looked, .int o_stepsFound, .int o_firstX, .int o_firstY, .int o_secondX, .int o_secondY])), (h_o_seen, .inr (5, [.int o_seen_wide, .int o_seen_high, .int o_seen_hex, .long o_seen_ones, .long o_seen_twos])), (h_o_found, .inl (ca 1, 12, .inr (.inl o_found_r)))]) (va_runS (As := [.int o_seen_hex]) (rest := [.int (1 : Int32)]) ⟨hx, hb, hml, hown, hts⟩ (c_X1_turns l dC dI ca sa  s.heap.size  o_seen_hex q8 hq8) (va_cwS 1 hts (ds_gS kw_168 kw_5 kw_2 kw_6) rfl rfl rfl (by decide +kernel) ⟨Nat.le_of_ble_eq_true rfl, Nat.le_of_ble_eq_true rfl⟩) ⟨ds_blind, ds_at hP hD hK hE hS hA [] rfl rfl _⟩ rfl rfl hl.1 rfl (lv_room (Nat.le_of_ble_eq_true rfl)) dX0_order_8 ⟨Nat.zero_le _, Nat.zero_le _⟩) hP hD hS hA [] [0, 1, 2] rfl rfl rfl (by decide) (fun H locs hP hD hS => ?_)
  have hP : va_P (dC, dI) vwCl [(h_o, .inr (0, [.ref h_o_seen, .ref h_o_turned, .ref h_o_found, .int o_looked, .int o_stepsFound, .int o_firstX, .int o_firstY, .int o_secondX, .int o_secondY])), (h_o_seen, .inr (5, [.int o_seen_wide, .int o_seen_high, .int o_seen_hex, .long o_seen_ones, .long o_seen_twos])), (h_o_found, .inl (ca 1, 12, .inr (.inl o_found_r)))] H := hP
  have hD : va_D A [(h_o, .inr (0, [.ref h_o_seen, .ref h_o_turned, .ref h_o_found, .int o_looked, .int o_stepsFound, .int o_firstX, .int o_firstY, .int o_secondX, .int o_secondY])), (h_o_seen, .inr (5, [.int o_seen_wide, .int o_seen_high, .int o_seen_hex, .long o_seen_ones, .long o_seen_twos])), (h_o_found, .inl (ca 1, 12, .inr (.inl o_found_r)))] := hD
  refine lv_ishl hx hb dX0_order_11 ?_
  refine lv_iconst (v := 1) hx hb dX0_order_12 (by decide) ?_
  refine lv_isub hx hb dX0_order_13 ?_
  obtain ⟨x14, hx_14, hf⟩ := ds_ob hf
  refine ds_nmi hx_14 ?_
  refine lv_istore_n (lv' := [(1, .int x14), (0, .ref h_o)]) hx hb dX0_order_14 rfl hl (by decide) rfl (fun ls hl => ?_)
  refine lv_aload_n hx hb dX0_order_15 rfl (lv_at hl 1 rfl) ?_
  obtain ⟨q16, hq16, hf⟩ := ds_ob hf
  refine ds_calli (wr := []) (va_runV (As := []) (rest := []) ⟨hx, hb, hml, hown, hts⟩ (c_X0_turningBits l dC dI ca sa h_o h_o_seen h_o_turned h_o_found H.size o_looked o_stepsFound o_firstX o_firstY o_secondX o_secondY o_seen_wide o_seen_high o_seen_hex o_seen_ones o_seen_twos o_found_r  q16 hq16) (cwV 0 hts (ds_gV kw_169 kw_170 kw_171 kw_154 kw_172) rfl rfl rfl (by decide +kernel) ⟨Nat.le_of_ble_eq_true rfl, Nat.le_of_ble_eq_true rfl⟩) ⟨ds_blind, va_recv hK hP (ci := 0) (q0 := 0) rfl rfl, ds_at hP hD hK hE hS hA [0, 1, 2] rfl rfl _⟩ rfl rfl hl.1 rfl (lv_room (Nat.le_of_ble_eq_true rfl)) dX0_order_16 ⟨Nat.zero_le _, Nat.zero_le _⟩) hP hD hS hA [0, 1, 2] [] rfl rfl rfl (by decide) (fun H locs hP hD hS => ?_)
  have hP : va_P (dC, dI) vwCl [(h_o, .inr (0, [.ref h_o_seen, .ref h_o_turned, .ref h_o_found, .int o_looked, .int o_stepsFound, .int o_firstX, .int o_firstY, .int o_secondX, .int o_secondY])), (h_o_seen, .inr (5, [.int o_seen_wide, .int o_seen_high, .int o_seen_hex, .long o_seen_ones, .long o_seen_twos])), (h_o_found, .inl (ca 1, 12, .inr (.inl o_found_r)))] H := hP
  have hD : va_D A [(h_o, .inr (0, [.ref h_o_seen, .ref h_o_turned, .ref h_o_found, .int o_looked, .int o_stepsFound, .int o_firstX, .int o_firstY, .int o_secondX, .int o_secondY])), (h_o_seen, .inr (5, [.int o_seen_wide, .int o_seen_high, .int o_seen_hex, .long o_seen_ones, .long o_seen_twos])), (h_o_found, .inl (ca 1, 12, .inr (.inl o_found_r)))] := hD
  refine lv_iload_n hx hb dX0_order_19 rfl (lv_at hl 0 rfl) ?_
  refine lv_iand hx hb dX0_order_20 ?_
  obtain ⟨q21, hq21, hf⟩ := ds_ob hf
  refine ds_calli (wr := [(h_o, .inr (0, [.ref h_o_seen, .ref h_o_turned, .ref h_o_found, .int o_looked, .int o_stepsFound, .int o_firstX, .int o_firstY, .int o_secondX, .int o_secondY])), (h_o_seen, .inr (5, [.int o_seen_wide, .int o_seen_high, .int o_seen_hex, .long o_seen_ones, .long o_seen_twos])), (h_o_found, .inl (ca 1, 12, .inr (.inl o_found_r)))]) (va_runS (As := [.int (q16 &&& x14)]) (rest := []) ⟨hx, hb, hml, hown, hts⟩ (c_J6_bitCount_0f7a4 l dC dI ca sa  H.size  (q16 &&& x14) q21 hq21) (va_cwS 1 hts (ds_gS kw_173 kw_174 kw_175 kw_176) rfl rfl rfl (by decide +kernel) ⟨Nat.le_of_ble_eq_true rfl, Nat.le_of_ble_eq_true rfl⟩) ⟨ds_blind, ds_at hP hD hK hE hS hA [] rfl rfl _⟩ rfl rfl hl.1 rfl (lv_room (Nat.le_of_ble_eq_true rfl)) dX0_order_21 ⟨Nat.zero_le _, Nat.zero_le _⟩) hP hD hS hA [] [0, 1, 2] rfl rfl rfl (by decide) (fun H locs hP hD hS => ?_)
  have hP : va_P (dC, dI) vwCl [(h_o, .inr (0, [.ref h_o_seen, .ref h_o_turned, .ref h_o_found, .int o_looked, .int o_stepsFound, .int o_firstX, .int o_firstY, .int o_secondX, .int o_secondY])), (h_o_seen, .inr (5, [.int o_seen_wide, .int o_seen_high, .int o_seen_hex, .long o_seen_ones, .long o_seen_twos])), (h_o_found, .inl (ca 1, 12, .inr (.inl o_found_r)))] H := hP
  have hD : va_D A [(h_o, .inr (0, [.ref h_o_seen, .ref h_o_turned, .ref h_o_found, .int o_looked, .int o_stepsFound, .int o_firstX, .int o_firstY, .int o_secondX, .int o_secondY])), (h_o_seen, .inr (5, [.int o_seen_wide, .int o_seen_high, .int o_seen_hex, .long o_seen_ones, .long o_seen_twos])), (h_o_found, .inl (ca 1, 12, .inr (.inl o_found_r)))] := hD
  have hf := Option.some.inj hf
  subst hf
  rw [eG0] at hG
  have hG : _ = res := hG
  subst hG
  exact W.iret (v := q21) hx hb hr (fun t ht hW => ⟨⟨q21, (), rfl, rfl, by rw [ht]; exact hP, hD⟩, hS.F ht⟩) hS.2.2 dX0_order_24
theorem dX0_flips_0 : decode cX0_flips 0 = .ok (.aload_n 0, 1) := by decide +kernel
theorem dX0_flips_1 : decode cX0_flips 1 = .ok (.invokevirtual 88, 3) := by decide +kernel
theorem dX0_flips_4 : decode cX0_flips 4 = .ok (.invokestatic 91, 3) := by decide +kernel
theorem dX0_flips_7 : decode cX0_flips 7 = .ok (.aload_n 0, 1) := by decide +kernel
theorem dX0_flips_8 : decode cX0_flips 8 = .ok (.invokevirtual 96, 3) := by decide +kernel
theorem dX0_flips_11 : decode cX0_flips 11 = .ok (.isub, 1) := by decide +kernel
theorem dX0_flips_12 : decode cX0_flips 12 = .ok (.ireturn, 1) := by decide +kernel
def fX0_flips (o_seen_hex : Int32) (o_found_r : Nat → Int64) : Option (Int32) :=
  Option.bind (fX0_turningBits o_seen_hex o_found_r) fun q1 => Option.bind (fJ6_bitCount_0f7a4 q1) fun q4 => Option.bind (fX0_order o_seen_hex o_found_r) fun q8 => some (q4 - q8)
set_option maxHeartbeats 4000000 in
set_option maxRecDepth 100000 in
theorem c_X0_flips (l : Launch) (dC : Nat → ClassId) (dI : Nat → Nat → Nat) (ca : Nat → ClassId) (sa : Nat → Nat) (h_o : Nat) (h_o_seen : Nat) (h_o_turned : Nat) (h_o_found : Nat) (sz : Nat) (o_looked : Int32) (o_stepsFound : Int32) (o_firstX : Int32) (o_firstY : Int32) (o_secondX : Int32) (o_secondY : Int32) (o_seen_wide : Int32) (o_seen_high : Int32) (o_seen_hex : Int32) (o_seen_ones : Int64) (o_seen_twos : Int64) (o_found_r : Nat → Int64) (res : Int32) (hf : fX0_flips o_seen_hex o_found_r = some res) : Met l yX0_flips (Cond.code yX0_flips cX0_flips 1 (some .int) :: ds_gw) { frames := 3, cells := 0, slots := 0, locals := 64 } (va_Pc [.ref h_o] (ds_Pre dC dI ca sa [(h_o, .inr (0, [.ref h_o_seen, .ref h_o_turned, .ref h_o_found, .int o_looked, .int o_stepsFound, .int o_firstX, .int o_firstY, .int o_secondX, .int o_secondY])), (h_o_seen, .inr (5, [.int o_seen_wide, .int o_seen_high, .int o_seen_hex, .long o_seen_ones, .long o_seen_twos])), (h_o_found, .inl (ca 1, 12, .inr (.inl o_found_r)))] sz)) (va_Qi (fun r (_ : Unit) => r = res) (ds_B dC dI (va_A [(h_o, .inr (0, [.ref h_o_seen, .ref h_o_turned, .ref h_o_found, .int o_looked, .int o_stepsFound, .int o_firstX, .int o_firstY, .int o_secondX, .int o_secondY])), (h_o_seen, .inr (5, [.int o_seen_wide, .int o_seen_high, .int o_seen_hex, .long o_seen_ones, .long o_seen_twos])), (h_o_found, .inl (ca 1, 12, .inr (.inl o_found_r)))] sz) [(h_o, .inr (0, [.ref h_o_seen, .ref h_o_turned, .ref h_o_found, .int o_looked, .int o_stepsFound, .int o_firstX, .int o_firstY, .int o_secondX, .int o_secondY])), (h_o_seen, .inr (5, [.int o_seen_wide, .int o_seen_high, .int o_seen_hex, .long o_seen_ones, .long o_seen_twos])), (h_o_found, .inl (ca 1, 12, .inr (.inl o_found_r)))]) (va_A [(h_o, .inr (0, [.ref h_o_seen, .ref h_o_turned, .ref h_o_found, .int o_looked, .int o_stepsFound, .int o_firstX, .int o_firstY, .int o_secondX, .int o_secondY])), (h_o_seen, .inr (5, [.int o_seen_wide, .int o_seen_high, .int o_seen_hex, .long o_seen_ones, .long o_seen_twos])), (h_o_found, .inl (ca 1, 12, .inr (.inl o_found_r)))] sz)) 0 0 (va_A [(h_o, .inr (0, [.ref h_o_seen, .ref h_o_turned, .ref h_o_found, .int o_looked, .int o_stepsFound, .int o_firstX, .int o_firstY, .int o_secondX, .int o_secondY])), (h_o_seen, .inr (5, [.int o_seen_wide, .int o_seen_high, .int o_seen_hex, .long o_seen_ones, .long o_seen_twos])), (h_o_found, .inl (ca 1, 12, .inr (.inl o_found_r)))] sz) := by
  refine Met.ofW (cc := cX0_flips) (maxL := 1) (ret := (some .int)) (by decide) rfl ?_
  intro p e s m args below meth c s₁ B hml hv
  obtain ⟨rfl, hsz, hP, hK, hD0, hE⟩ := hv
  have hx := B.exec
  have hb := B.bytes
  have hr := B.returns
  have hts := atoms_spec (ws := Cond.code yX0_flips cX0_flips 1 (some .int) :: ds_gw) B.pre
  have hg : ∀ {w : Cond}, w ∈ ds_gw → w.before _ s = true := fun h => hts _ (List.mem_cons_of_mem _ h)
  have hown : s.vm.findClass RX0 = some m.cls := findClass_of_methodNamed B.named
  have hlocks := B.notSynchronized
  subst hsz
  have hD := hD0.self (sz := s.heap.size)
  generalize hAe : va_A [(h_o, .inr (0, [.ref h_o_seen, .ref h_o_turned, .ref h_o_found, .int o_looked, .int o_stepsFound, .int o_firstX, .int o_firstY, .int o_secondX, .int o_secondY])), (h_o_seen, .inr (5, [.int o_seen_wide, .int o_seen_high, .int o_seen_hex, .long o_seen_ones, .long o_seen_twos])), (h_o_found, .inl (ca 1, 12, .inr (.inl o_found_r)))] s.heap.size = A at hD hE ⊢
  have hA : ∀ q : Nat, s.heap.size ≤ q → A q := fun q h => by rw [← hAe]; exact Or.inr h
  have hS : va_S A s.heap s.heap [] := va_S.rf
  have hl := lv_entry ([.ref h_o]) (n := 1) (Nat.le_of_ble_eq_true rfl)
  rw [lg_entry_eq]
  generalize (lg_sl ([.ref h_o]) ++ List.replicate (1 - (lg_sl ([.ref h_o])).length) Slot.unset).toArray = ls at hl ⊢
  have hl : lv_has ls 1 [(0, .ref h_o)] := hl
  obtain ⟨G0, eG0⟩ : ∃ G : Int32 → Prop, G = (fun r => r = res) := ⟨_, rfl⟩
  obtain ⟨rr, hrr⟩ : ∃ z, z = res := ⟨_, rfl⟩
  rw [← hrr] at hf
  have hG : G0 rr := by subst eG0; exact hrr
  unfold fX0_flips at hf
  refine lv_aload_n hx hb dX0_flips_0 rfl (lv_at hl 0 rfl) ?_
  obtain ⟨q1, hq1, hf⟩ := ds_ob hf
  refine ds_calli (wr := []) (va_runV (As := []) (rest := []) ⟨hx, hb, hml, hown, hts⟩ (c_X0_turningBits l dC dI ca sa h_o h_o_seen h_o_turned h_o_found s.heap.size o_looked o_stepsFound o_firstX o_firstY o_secondX o_secondY o_seen_wide o_seen_high o_seen_hex o_seen_ones o_seen_twos o_found_r  q1 hq1) (cwV 0 hts (ds_gV kw_169 kw_170 kw_171 kw_154 kw_172) rfl rfl rfl (by decide +kernel) ⟨Nat.le_of_ble_eq_true rfl, Nat.le_of_ble_eq_true rfl⟩) ⟨ds_blind, va_recv hK hP (ci := 0) (q0 := 0) rfl rfl, ds_at hP hD hK hE hS hA [0, 1, 2] rfl rfl _⟩ rfl rfl hl.1 rfl (lv_room (Nat.le_of_ble_eq_true rfl)) dX0_flips_1 ⟨Nat.zero_le _, Nat.zero_le _⟩) hP hD hS hA [0, 1, 2] [] rfl rfl rfl (by decide) (fun H locs hP hD hS => ?_)
  have hP : va_P (dC, dI) vwCl [(h_o, .inr (0, [.ref h_o_seen, .ref h_o_turned, .ref h_o_found, .int o_looked, .int o_stepsFound, .int o_firstX, .int o_firstY, .int o_secondX, .int o_secondY])), (h_o_seen, .inr (5, [.int o_seen_wide, .int o_seen_high, .int o_seen_hex, .long o_seen_ones, .long o_seen_twos])), (h_o_found, .inl (ca 1, 12, .inr (.inl o_found_r)))] H := hP
  have hD : va_D A [(h_o, .inr (0, [.ref h_o_seen, .ref h_o_turned, .ref h_o_found, .int o_looked, .int o_stepsFound, .int o_firstX, .int o_firstY, .int o_secondX, .int o_secondY])), (h_o_seen, .inr (5, [.int o_seen_wide, .int o_seen_high, .int o_seen_hex, .long o_seen_ones, .long o_seen_twos])), (h_o_found, .inl (ca 1, 12, .inr (.inl o_found_r)))] := hD
  obtain ⟨q4, hq4, hf⟩ := ds_ob hf
  refine ds_calli (wr := [(h_o, .inr (0, [.ref h_o_seen, .ref h_o_turned, .ref h_o_found, .int o_looked, .int o_stepsFound, .int o_firstX, .int o_firstY, .int o_secondX, .int o_secondY])), (h_o_seen, .inr (5, [.int o_seen_wide, .int o_seen_high, .int o_seen_hex, .long o_seen_ones, .long o_seen_twos])), (h_o_found, .inl (ca 1, 12, .inr (.inl o_found_r)))]) (va_runS (As := [.int q1]) (rest := []) ⟨hx, hb, hml, hown, hts⟩ (c_J6_bitCount_0f7a4 l dC dI ca sa  H.size  q1 q4 hq4) (va_cwS 1 hts (ds_gS kw_173 kw_174 kw_175 kw_176) rfl rfl rfl (by decide +kernel) ⟨Nat.le_of_ble_eq_true rfl, Nat.le_of_ble_eq_true rfl⟩) ⟨ds_blind, ds_at hP hD hK hE hS hA [] rfl rfl _⟩ rfl rfl hl.1 rfl (lv_room (Nat.le_of_ble_eq_true rfl)) dX0_flips_4 ⟨Nat.zero_le _, Nat.zero_le _⟩) hP hD hS hA [] [0, 1, 2] rfl rfl rfl (by decide) (fun H locs hP hD hS => ?_)
  have hP : va_P (dC, dI) vwCl [(h_o, .inr (0, [.ref h_o_seen, .ref h_o_turned, .ref h_o_found, .int o_looked, .int o_stepsFound, .int o_firstX, .int o_firstY, .int o_secondX, .int o_secondY])), (h_o_seen, .inr (5, [.int o_seen_wide, .int o_seen_high, .int o_seen_hex, .long o_seen_ones, .long o_seen_twos])), (h_o_found, .inl (ca 1, 12, .inr (.inl o_found_r)))] H := hP
  have hD : va_D A [(h_o, .inr (0, [.ref h_o_seen, .ref h_o_turned, .ref h_o_found, .int o_looked, .int o_stepsFound, .int o_firstX, .int o_firstY, .int o_secondX, .int o_secondY])), (h_o_seen, .inr (5, [.int o_seen_wide, .int o_seen_high, .int o_seen_hex, .long o_seen_ones, .long o_seen_twos])), (h_o_found, .inl (ca 1, 12, .inr (.inl o_found_r)))] := hD
  refine lv_aload_n hx hb dX0_flips_7 rfl (lv_at hl 0 rfl) ?_
  obtain ⟨q8, hq8, hf⟩ := ds_ob hf
  refine ds_calli (wr := []) (va_runV (As := []) (rest := [.int q4]) ⟨hx, hb, hml, hown, hts⟩ (c_X0_order l dC dI ca sa h_o h_o_seen h_o_turned h_o_found H.size o_looked o_stepsFound o_firstX o_firstY o_secondX o_secondY o_seen_wide o_seen_high o_seen_hex o_seen_ones o_seen_twos o_found_r  q8 hq8) (cwV 0 hts (ds_gV kw_177 kw_178 kw_179 kw_154 kw_180) rfl rfl rfl (by decide +kernel) ⟨Nat.le_of_ble_eq_true rfl, Nat.le_of_ble_eq_true rfl⟩) ⟨ds_blind, va_recv hK hP (ci := 0) (q0 := 0) rfl rfl, ds_at hP hD hK hE hS hA [0, 1, 2] rfl rfl _⟩ rfl rfl hl.1 rfl (lv_room (Nat.le_of_ble_eq_true rfl)) dX0_flips_8 ⟨Nat.zero_le _, Nat.zero_le _⟩) hP hD hS hA [0, 1, 2] [] rfl rfl rfl (by decide) (fun H locs hP hD hS => ?_)
  have hP : va_P (dC, dI) vwCl [(h_o, .inr (0, [.ref h_o_seen, .ref h_o_turned, .ref h_o_found, .int o_looked, .int o_stepsFound, .int o_firstX, .int o_firstY, .int o_secondX, .int o_secondY])), (h_o_seen, .inr (5, [.int o_seen_wide, .int o_seen_high, .int o_seen_hex, .long o_seen_ones, .long o_seen_twos])), (h_o_found, .inl (ca 1, 12, .inr (.inl o_found_r)))] H := hP
  have hD : va_D A [(h_o, .inr (0, [.ref h_o_seen, .ref h_o_turned, .ref h_o_found, .int o_looked, .int o_stepsFound, .int o_firstX, .int o_firstY, .int o_secondX, .int o_secondY])), (h_o_seen, .inr (5, [.int o_seen_wide, .int o_seen_high, .int o_seen_hex, .long o_seen_ones, .long o_seen_twos])), (h_o_found, .inl (ca 1, 12, .inr (.inl o_found_r)))] := hD
  refine lv_isub hx hb dX0_flips_11 ?_
  have hf := Option.some.inj hf
  subst hf
  rw [eG0] at hG
  have hG : _ = res := hG
  subst hG
  exact W.iret (v := (q4 - q8)) hx hb hr (fun t ht hW => ⟨⟨(q4 - q8), (), rfl, rfl, by rw [ht]; exact hP, hD⟩, hS.F ht⟩) hS.2.2 dX0_flips_12
theorem dX0_isMirror_0 : decode cX0_isMirror 0 = .ok (.aload_n 0, 1) := by decide +kernel
theorem dX0_isMirror_1 : decode cX0_isMirror 1 = .ok (.getfield 12, 3) := by decide +kernel
theorem dX0_isMirror_4 : decode cX0_isMirror 4 = .ok (.getfield 39, 3) := by decide +kernel
theorem dX0_isMirror_7 : decode cX0_isMirror 7 = .ok (.iload_n 1, 1) := by decide +kernel
theorem dX0_isMirror_8 : decode cX0_isMirror 8 = .ok (.invokestatic 112, 3) := by decide +kernel
theorem dX0_isMirror_11 : decode cX0_isMirror 11 = .ok (.istore_n 2, 1) := by decide +kernel
theorem dX0_isMirror_12 : decode cX0_isMirror 12 = .ok (.aload_n 0, 1) := by decide +kernel
theorem dX0_isMirror_13 : decode cX0_isMirror 13 = .ok (.getfield 12, 3) := by decide +kernel
theorem dX0_isMirror_16 : decode cX0_isMirror 16 = .ok (.getfield 39, 3) := by decide +kernel
theorem dX0_isMirror_19 : decode cX0_isMirror 19 = .ok (.iload_n 1, 1) := by decide +kernel
theorem dX0_isMirror_20 : decode cX0_isMirror 20 = .ok (.invokestatic 116, 3) := by decide +kernel
theorem dX0_isMirror_23 : decode cX0_isMirror 23 = .ok (.istore_n 3, 1) := by decide +kernel
theorem dX0_isMirror_24 : decode cX0_isMirror 24 = .ok (.iconst 0, 1) := by decide +kernel
theorem dX0_isMirror_25 : decode cX0_isMirror 25 = .ok (.istore 4, 2) := by decide +kernel
theorem dX0_isMirror_27 : decode cX0_isMirror 27 = .ok (.iload 4, 2) := by decide +kernel
theorem dX0_isMirror_29 : decode cX0_isMirror 29 = .ok (.aload_n 0, 1) := by decide +kernel
theorem dX0_isMirror_30 : decode cX0_isMirror 30 = .ok (.getfield 12, 3) := by decide +kernel
theorem dX0_isMirror_33 : decode cX0_isMirror 33 = .ok (.invokevirtual 78, 3) := by decide +kernel
theorem dX0_isMirror_36 : decode cX0_isMirror 36 = .ok (.if_icmp .ge 27, 3) := by decide +kernel
theorem dX0_isMirror_39 : decode cX0_isMirror 39 = .ok (.aload_n 0, 1) := by decide +kernel
theorem dX0_isMirror_40 : decode cX0_isMirror 40 = .ok (.iload_n 1, 1) := by decide +kernel
theorem dX0_isMirror_41 : decode cX0_isMirror 41 = .ok (.iload 4, 2) := by decide +kernel
theorem dX0_isMirror_43 : decode cX0_isMirror 43 = .ok (.iload_n 2, 1) := by decide +kernel
theorem dX0_isMirror_44 : decode cX0_isMirror 44 = .ok (.imul, 1) := by decide +kernel
theorem dX0_isMirror_45 : decode cX0_isMirror 45 = .ok (.iload 4, 2) := by decide +kernel
theorem dX0_isMirror_47 : decode cX0_isMirror 47 = .ok (.iload_n 3, 1) := by decide +kernel
theorem dX0_isMirror_48 : decode cX0_isMirror 48 = .ok (.imul, 1) := by decide +kernel
theorem dX0_isMirror_49 : decode cX0_isMirror 49 = .ok (.invokevirtual 119, 3) := by decide +kernel
theorem dX0_isMirror_52 : decode cX0_isMirror 52 = .ok (.ifCond .eq 5, 3) := by decide +kernel
theorem dX0_isMirror_55 : decode cX0_isMirror 55 = .ok (.iconst 1, 1) := by decide +kernel
theorem dX0_isMirror_56 : decode cX0_isMirror 56 = .ok (.ireturn, 1) := by decide +kernel
theorem dX0_isMirror_57 : decode cX0_isMirror 57 = .ok (.iinc 4 1, 3) := by decide +kernel
theorem dX0_isMirror_60 : decode cX0_isMirror 60 = .ok (.goto (-33), 3) := by decide +kernel
theorem dX0_isMirror_63 : decode cX0_isMirror 63 = .ok (.iconst 0, 1) := by decide +kernel
theorem dX0_isMirror_64 : decode cX0_isMirror 64 = .ok (.ireturn, 1) := by decide +kernel
def fX0_isMirror_27_b (o_seen_wide : Int32) (o_seen_high : Int32) (o_found_r : Nat → Int64) (p1 : Int32) (v2 : Int32) (v3 : Int32) (v4 : Int32) : Option ((Int32) ⊕ (Int32)) :=
  Option.bind (fX6_cells o_seen_wide o_seen_high) fun q33 => if q33 ≤ v4 then some (.inr (0 : Int32)) else Option.bind (fX0_hasSymmetry o_found_r o_seen_wide o_seen_high p1 (v4 * v2) (v4 * v3)) fun q49 => if q49 = 0 then some (.inl (v4 + 1)) else some (.inr (1 : Int32))
def fX0_isMirror_27 (o_seen_wide : Int32) (o_seen_high : Int32) (o_found_r : Nat → Int64) (p1 : Int32) (v2 : Int32) (v3 : Int32) (v4 : Int32) : Option (Int32) := ds_it (fun s => fX0_isMirror_27_b o_seen_wide o_seen_high o_found_r p1 v2 v3 s) 1000 v4
def fX0_isMirror (o_seen_wide : Int32) (o_seen_high : Int32) (o_seen_hex : Int32) (o_found_r : Nat → Int64) (p1 : Int32) : Option (Int32) :=
  Option.bind (fX1_acrossX o_seen_hex p1) fun q8 => Option.bind (fX1_acrossY o_seen_hex p1) fun q20 => fX0_isMirror_27 o_seen_wide o_seen_high o_found_r p1 q8 q20 (0 : Int32)
set_option maxHeartbeats 4000000 in
set_option maxRecDepth 100000 in
theorem c_X0_isMirror (l : Launch) (dC : Nat → ClassId) (dI : Nat → Nat → Nat) (ca : Nat → ClassId) (sa : Nat → Nat) (h_o : Nat) (h_o_seen : Nat) (h_o_turned : Nat) (h_o_found : Nat) (sz : Nat) (o_looked : Int32) (o_stepsFound : Int32) (o_firstX : Int32) (o_firstY : Int32) (o_secondX : Int32) (o_secondY : Int32) (o_seen_wide : Int32) (o_seen_high : Int32) (o_seen_hex : Int32) (o_seen_ones : Int64) (o_seen_twos : Int64) (o_found_r : Nat → Int64) (p1 : Int32) (res : Int32) (hf : fX0_isMirror o_seen_wide o_seen_high o_seen_hex o_found_r p1 = some res) : Met l yX0_isMirror (Cond.code yX0_isMirror cX0_isMirror 5 (some .boolean) :: ds_gw) { frames := 3, cells := 0, slots := 0, locals := 67 } (va_Pc [.ref h_o, .int p1] (ds_Pre dC dI ca sa [(h_o, .inr (0, [.ref h_o_seen, .ref h_o_turned, .ref h_o_found, .int o_looked, .int o_stepsFound, .int o_firstX, .int o_firstY, .int o_secondX, .int o_secondY])), (h_o_seen, .inr (5, [.int o_seen_wide, .int o_seen_high, .int o_seen_hex, .long o_seen_ones, .long o_seen_twos])), (h_o_found, .inl (ca 1, 12, .inr (.inl o_found_r)))] sz)) (va_Qi (fun r (_ : Unit) => r = res) (ds_B dC dI (va_A [(h_o, .inr (0, [.ref h_o_seen, .ref h_o_turned, .ref h_o_found, .int o_looked, .int o_stepsFound, .int o_firstX, .int o_firstY, .int o_secondX, .int o_secondY])), (h_o_seen, .inr (5, [.int o_seen_wide, .int o_seen_high, .int o_seen_hex, .long o_seen_ones, .long o_seen_twos])), (h_o_found, .inl (ca 1, 12, .inr (.inl o_found_r)))] sz) [(h_o, .inr (0, [.ref h_o_seen, .ref h_o_turned, .ref h_o_found, .int o_looked, .int o_stepsFound, .int o_firstX, .int o_firstY, .int o_secondX, .int o_secondY])), (h_o_seen, .inr (5, [.int o_seen_wide, .int o_seen_high, .int o_seen_hex, .long o_seen_ones, .long o_seen_twos])), (h_o_found, .inl (ca 1, 12, .inr (.inl o_found_r)))]) (va_A [(h_o, .inr (0, [.ref h_o_seen, .ref h_o_turned, .ref h_o_found, .int o_looked, .int o_stepsFound, .int o_firstX, .int o_firstY, .int o_secondX, .int o_secondY])), (h_o_seen, .inr (5, [.int o_seen_wide, .int o_seen_high, .int o_seen_hex, .long o_seen_ones, .long o_seen_twos])), (h_o_found, .inl (ca 1, 12, .inr (.inl o_found_r)))] sz)) 0 0 (va_A [(h_o, .inr (0, [.ref h_o_seen, .ref h_o_turned, .ref h_o_found, .int o_looked, .int o_stepsFound, .int o_firstX, .int o_firstY, .int o_secondX, .int o_secondY])), (h_o_seen, .inr (5, [.int o_seen_wide, .int o_seen_high, .int o_seen_hex, .long o_seen_ones, .long o_seen_twos])), (h_o_found, .inl (ca 1, 12, .inr (.inl o_found_r)))] sz) := by
  refine Met.ofW (cc := cX0_isMirror) (maxL := 5) (ret := (some .boolean)) (by decide) rfl ?_
  intro p e s m args below meth c s₁ B hml hv
  obtain ⟨rfl, hsz, hP, hK, hD0, hE⟩ := hv
  have hx := B.exec
  have hb := B.bytes
  have hr := B.returns
  have hts := atoms_spec (ws := Cond.code yX0_isMirror cX0_isMirror 5 (some .boolean) :: ds_gw) B.pre
  have hg : ∀ {w : Cond}, w ∈ ds_gw → w.before _ s = true := fun h => hts _ (List.mem_cons_of_mem _ h)
  have hown : s.vm.findClass RX0 = some m.cls := findClass_of_methodNamed B.named
  have hlocks := B.notSynchronized
  subst hsz
  have hD := hD0.self (sz := s.heap.size)
  generalize hAe : va_A [(h_o, .inr (0, [.ref h_o_seen, .ref h_o_turned, .ref h_o_found, .int o_looked, .int o_stepsFound, .int o_firstX, .int o_firstY, .int o_secondX, .int o_secondY])), (h_o_seen, .inr (5, [.int o_seen_wide, .int o_seen_high, .int o_seen_hex, .long o_seen_ones, .long o_seen_twos])), (h_o_found, .inl (ca 1, 12, .inr (.inl o_found_r)))] s.heap.size = A at hD hE ⊢
  have hA : ∀ q : Nat, s.heap.size ≤ q → A q := fun q h => by rw [← hAe]; exact Or.inr h
  have hS : va_S A s.heap s.heap [] := va_S.rf
  have hl := lv_entry ([.ref h_o, .int p1]) (n := 5) (Nat.le_of_ble_eq_true rfl)
  rw [lg_entry_eq]
  generalize (lg_sl ([.ref h_o, .int p1]) ++ List.replicate (5 - (lg_sl ([.ref h_o, .int p1])).length) Slot.unset).toArray = ls at hl ⊢
  have hl : lv_has ls 5 [(0, .ref h_o), (1, .int p1)] := hl
  obtain ⟨G0, eG0⟩ : ∃ G : Int32 → Prop, G = (fun r => r = res) := ⟨_, rfl⟩
  obtain ⟨rr, hrr⟩ : ∃ z, z = res := ⟨_, rfl⟩
  rw [← hrr] at hf
  have hG : G0 rr := by subst eG0; exact hrr
  refine ds_cap (fun WW h1 h2 => ?_)
  have J_27 : ∀ (v2 : Int32) (v3 : Int32) (n : Nat) (v4 : Int32) (rr : Int32) (hf : ds_it (fun s => fX0_isMirror_27_b o_seen_wide o_seen_high o_found_r p1 v2 v3 s) n v4 = some rr) (hG : G0 rr) (H : Heap) (locs : List Loc) (hP : va_P (dC, dI) vwCl [(h_o, .inr (0, [.ref h_o_seen, .ref h_o_turned, .ref h_o_found, .int o_looked, .int o_stepsFound, .int o_firstX, .int o_firstY, .int o_secondX, .int o_secondY])), (h_o_seen, .inr (5, [.int o_seen_wide, .int o_seen_high, .int o_seen_hex, .long o_seen_ones, .long o_seen_twos])), (h_o_found, .inl (ca 1, 12, .inr (.inl o_found_r)))] H) (hD : va_D A [(h_o, .inr (0, [.ref h_o_seen, .ref h_o_turned, .ref h_o_found, .int o_looked, .int o_stepsFound, .int o_firstX, .int o_firstY, .int o_secondX, .int o_secondY])), (h_o_seen, .inr (5, [.int o_seen_wide, .int o_seen_high, .int o_seen_hex, .long o_seen_ones, .long o_seen_twos])), (h_o_found, .inl (ca 1, 12, .inr (.inl o_found_r)))]) (hS : va_S A s.heap H locs) (ls : Array Slot) (hl : lv_has ls 5 [(0, .ref h_o), (1, .int p1), (2, .int v2), (3, .int v3), (4, .int v4)]), WW H locs (F0 m 27 ls []) := by
    intro v2 v3 n
    induction n with
    | zero => intro v4 rr hf; exact (ds_it_zero hf).elim
    | succ n ih27 =>
      intro v4 rr hf hG H locs hP hD hS ls hl
      refine h2 ?_
      obtain ⟨rr, hf, hG⟩ := ds_it_succ hf hG
      replace hf : fX0_isMirror_27_b o_seen_wide o_seen_high o_found_r p1 v2 v3 v4 = some rr := hf
      obtain ⟨G1, eG1⟩ : ∃ G : ((Int32) ⊕ (Int32)) → Prop, G = ds_G (fun s' => ∃ r', ds_it (fun s => fX0_isMirror_27_b o_seen_wide o_seen_high o_found_r p1 v2 v3 s) n s' = some r' ∧ G0 r') G0 := ⟨_, rfl⟩
      rw [← eG1] at hG
      unfold fX0_isMirror_27_b at hf
      refine lv_iload hx hb dX0_isMirror_27 (lv_at hl 4 rfl) ?_
      refine lv_aload_n hx hb dX0_isMirror_29 rfl (lv_at hl 0 rfl) ?_
      refine va_get (D := (dC, dI)) (ci := 0) (v := .ref h_o_seen) (C := RX0) (T := TX0) (N := 9) hx hb hts (fun w h => List.mem_cons_of_mem _ (kc_X0 w h)) hown hK hP 0 rfl rfl 0 (by decide) (hg kw_129) (fun _ h9 => h9) rfl dX0_isMirror_30 ?_
      obtain ⟨q33, hq33, hf⟩ := ds_ob hf
      refine ds_calli (wr := [(h_o, .inr (0, [.ref h_o_seen, .ref h_o_turned, .ref h_o_found, .int o_looked, .int o_stepsFound, .int o_firstX, .int o_firstY, .int o_secondX, .int o_secondY])), (h_o_found, .inl (ca 1, 12, .inr (.inl o_found_r)))]) (va_runV (As := []) (rest := [.int v4]) ⟨hx, hb, hml, hown, hts⟩ (c_X6_cells l dC dI ca sa h_o_seen H.size o_seen_wide o_seen_high o_seen_hex o_seen_ones o_seen_twos  q33 hq33) (cwV 0 hts (ds_gV kw_163 kw_164 kw_165 kw_59 kw_166) rfl rfl rfl (by decide +kernel) ⟨Nat.le_of_ble_eq_true rfl, Nat.le_of_ble_eq_true rfl⟩) ⟨ds_blind, va_recv hK hP (ci := 5) (q0 := 1) rfl rfl, ds_at hP hD hK hE hS hA [1] rfl rfl _⟩ rfl rfl hl.1 rfl (lv_room (Nat.le_of_ble_eq_true rfl)) dX0_isMirror_33 ⟨Nat.zero_le _, Nat.zero_le _⟩) hP hD hS hA [1] [0, 2] rfl rfl rfl (by decide) (fun H locs hP hD hS => ?_)
      have hP : va_P (dC, dI) vwCl [(h_o, .inr (0, [.ref h_o_seen, .ref h_o_turned, .ref h_o_found, .int o_looked, .int o_stepsFound, .int o_firstX, .int o_firstY, .int o_secondX, .int o_secondY])), (h_o_found, .inl (ca 1, 12, .inr (.inl o_found_r))), (h_o_seen, .inr (5, [.int o_seen_wide, .int o_seen_high, .int o_seen_hex, .long o_seen_ones, .long o_seen_twos]))] H := hP
      have hD : va_D A [(h_o, .inr (0, [.ref h_o_seen, .ref h_o_turned, .ref h_o_found, .int o_looked, .int o_stepsFound, .int o_firstX, .int o_firstY, .int o_secondX, .int o_secondY])), (h_o_found, .inl (ca 1, 12, .inr (.inl o_found_r))), (h_o_seen, .inr (5, [.int o_seen_wide, .int o_seen_high, .int o_seen_hex, .long o_seen_ones, .long o_seen_twos]))] := hD
      refine lv_icmp_ge (tgt := 63) hx hb dX0_isMirror_36 (by decide) (fun c_36 => ?_) (fun c_36 => ?_)
      · replace hf := ds_t c_36 hf
        refine lv_iconst (v := 0) hx hb dX0_isMirror_63 (by decide) ?_
        have hf := Option.some.inj hf
        subst hf
        rw [eG1] at hG
        replace hG : G0 _ := hG
        rw [eG0] at hG
        have hG : _ = res := hG
        subst hG
        exact W.zret (v := (0 : Int32)) (ty := .boolean) hx hb hr rfl (fun t ht hW => ⟨⟨(0 : Int32), (), rfl, rfl, by rw [ht]; exact (hP.sub [0, 2, 1] rfl), (hD.sub [0, 2, 1] rfl rfl)⟩, hS.F ht⟩) hS.2.2 dX0_isMirror_64
      · replace hf := ds_f c_36 hf
        refine lv_aload_n hx hb dX0_isMirror_39 rfl (lv_at hl 0 rfl) ?_
        refine lv_iload_n hx hb dX0_isMirror_40 rfl (lv_at hl 1 rfl) ?_
        refine lv_iload hx hb dX0_isMirror_41 (lv_at hl 4 rfl) ?_
        refine lv_iload_n hx hb dX0_isMirror_43 rfl (lv_at hl 2 rfl) ?_
        refine lv_imul hx hb dX0_isMirror_44 ?_
        refine lv_iload hx hb dX0_isMirror_45 (lv_at hl 4 rfl) ?_
        refine lv_iload_n hx hb dX0_isMirror_47 rfl (lv_at hl 3 rfl) ?_
        refine lv_imul hx hb dX0_isMirror_48 ?_
        obtain ⟨q49, hq49, hf⟩ := ds_ob hf
        refine ds_calli (wr := []) (va_runV (As := [.int p1, .int (v4 * v2), .int (v4 * v3)]) (rest := []) ⟨hx, hb, hml, hown, hts⟩ (c_X0_hasSymmetry l dC dI ca sa h_o h_o_seen h_o_turned h_o_found H.size o_looked o_stepsFound o_firstX o_firstY o_secondX o_secondY o_found_r o_seen_wide o_seen_high o_seen_hex o_seen_ones o_seen_twos p1 (v4 * v2) (v4 * v3) q49 hq49) (cwV 3 hts (ds_gV kw_181 kw_182 kw_183 kw_154 kw_184) rfl rfl rfl (by decide +kernel) ⟨Nat.le_of_ble_eq_true rfl, Nat.le_of_ble_eq_true rfl⟩) ⟨ds_blind, va_recv hK hP (ci := 0) (q0 := 0) rfl rfl, ds_at hP hD hK hE hS hA [0, 1, 2] rfl rfl _⟩ rfl rfl hl.1 rfl (lv_room (Nat.le_of_ble_eq_true rfl)) dX0_isMirror_49 ⟨Nat.zero_le _, Nat.zero_le _⟩) hP hD hS hA [0, 1, 2] [] rfl rfl rfl (by decide) (fun H locs hP hD hS => ?_)
        have hP : va_P (dC, dI) vwCl [(h_o, .inr (0, [.ref h_o_seen, .ref h_o_turned, .ref h_o_found, .int o_looked, .int o_stepsFound, .int o_firstX, .int o_firstY, .int o_secondX, .int o_secondY])), (h_o_found, .inl (ca 1, 12, .inr (.inl o_found_r))), (h_o_seen, .inr (5, [.int o_seen_wide, .int o_seen_high, .int o_seen_hex, .long o_seen_ones, .long o_seen_twos]))] H := hP
        have hD : va_D A [(h_o, .inr (0, [.ref h_o_seen, .ref h_o_turned, .ref h_o_found, .int o_looked, .int o_stepsFound, .int o_firstX, .int o_firstY, .int o_secondX, .int o_secondY])), (h_o_found, .inl (ca 1, 12, .inr (.inl o_found_r))), (h_o_seen, .inr (5, [.int o_seen_wide, .int o_seen_high, .int o_seen_hex, .long o_seen_ones, .long o_seen_twos]))] := hD
        refine lv_if_eq (tgt := 57) hx hb dX0_isMirror_52 (by decide) (fun c_52 => ?_) (fun c_52 => ?_)
        · replace hf := ds_t c_52 hf
          refine lv_iinc (v := (v4 + 1)) (lv' := [(4, .int (v4 + 1)), (0, .ref h_o), (1, .int p1), (2, .int v2), (3, .int v3)]) hx hb dX0_isMirror_57 hl (k := 4) rfl rfl (by decide) rfl (fun ls hl => ?_)
          refine lv_goto (tgt := 27) hx hb dX0_isMirror_60 (by decide) ?_
          have hf := Option.some.inj hf
          subst hf
          rw [eG1] at hG
          obtain ⟨rr, hf, hG⟩ := hG
          exact h1 (ih27 (v4 + 1) rr hf hG _ _ (hP.sub [0, 2, 1] rfl) (hD.sub [0, 2, 1] rfl rfl) hS _ (lv_sub hl [1, 2, 3, 4, 0] rfl))
        · replace hf := ds_f c_52 hf
          refine lv_iconst (v := 1) hx hb dX0_isMirror_55 (by decide) ?_
          have hf := Option.some.inj hf
          subst hf
          rw [eG1] at hG
          replace hG : G0 _ := hG
          rw [eG0] at hG
          have hG : _ = res := hG
          subst hG
          exact W.zret (v := (1 : Int32)) (ty := .boolean) hx hb hr rfl (fun t ht hW => ⟨⟨(1 : Int32), (), rfl, rfl, by rw [ht]; exact (hP.sub [0, 2, 1] rfl), (hD.sub [0, 2, 1] rfl rfl)⟩, hS.F ht⟩) hS.2.2 dX0_isMirror_56
  unfold fX0_isMirror at hf
  refine lv_aload_n hx hb dX0_isMirror_0 rfl (lv_at hl 0 rfl) ?_
  refine va_get (D := (dC, dI)) (ci := 0) (v := .ref h_o_seen) (C := RX0) (T := TX0) (N := 9) hx hb hts (fun w h => List.mem_cons_of_mem _ (kc_X0 w h)) hown hK hP 0 rfl rfl 0 (by decide) (hg kw_129) (fun _ h9 => h9) rfl dX0_isMirror_1 ?_
  refine va_getN (D := (dC, dI)) (ci := 5) (v := .int o_seen_hex) (C := RX6) (T := TX6) (N := 5) hx hb hts (fun w h => List.mem_cons_of_mem _ (kc_X6 w h)) hown hK hP 1 rfl rfl 2 (by decide) (va_Nw.use rfl (hE.1 _ kw_135)) (fun _ h9 => h9) rfl dX0_isMirror_4 ?_
  refine lv_iload_n hx hb dX0_isMirror_7 rfl (lv_at hl 1 rfl) ?_
  obtain ⟨q8, hq8, hf⟩ := ds_ob hf
  refine ds_calli (wr := [(h_o, .inr (0, [.ref h_o_seen, .ref h_o_turned, .ref h_o_found, .int o_looked, .int o_stepsFound, .int o_firstX, .int o_firstY, .int o_secondX, .int o_secondY])), (h_o_seen, .inr (5, [.int o_seen_wide, .int o_seen_high, .int o_seen_hex, .long o_seen_ones, .long o_seen_twos])), (h_o_found, .inl (ca 1, 12, .inr (.inl o_found_r)))]) (va_runS (As := [.int o_seen_hex, .int p1]) (rest := []) ⟨hx, hb, hml, hown, hts⟩ (c_X1_acrossX l dC dI ca sa  s.heap.size  o_seen_hex p1 q8 hq8) (va_cwS 2 hts (ds_gS kw_185 kw_186 kw_2 kw_187) rfl rfl rfl (by decide +kernel) ⟨Nat.le_of_ble_eq_true rfl, Nat.le_of_ble_eq_true rfl⟩) ⟨ds_blind, ds_at hP hD hK hE hS hA [] rfl rfl _⟩ rfl rfl hl.1 rfl (lv_room (Nat.le_of_ble_eq_true rfl)) dX0_isMirror_8 ⟨Nat.zero_le _, Nat.zero_le _⟩) hP hD hS hA [] [0, 1, 2] rfl rfl rfl (by decide) (fun H locs hP hD hS => ?_)
  have hP : va_P (dC, dI) vwCl [(h_o, .inr (0, [.ref h_o_seen, .ref h_o_turned, .ref h_o_found, .int o_looked, .int o_stepsFound, .int o_firstX, .int o_firstY, .int o_secondX, .int o_secondY])), (h_o_seen, .inr (5, [.int o_seen_wide, .int o_seen_high, .int o_seen_hex, .long o_seen_ones, .long o_seen_twos])), (h_o_found, .inl (ca 1, 12, .inr (.inl o_found_r)))] H := hP
  have hD : va_D A [(h_o, .inr (0, [.ref h_o_seen, .ref h_o_turned, .ref h_o_found, .int o_looked, .int o_stepsFound, .int o_firstX, .int o_firstY, .int o_secondX, .int o_secondY])), (h_o_seen, .inr (5, [.int o_seen_wide, .int o_seen_high, .int o_seen_hex, .long o_seen_ones, .long o_seen_twos])), (h_o_found, .inl (ca 1, 12, .inr (.inl o_found_r)))] := hD
  refine lv_istore_n (lv' := [(2, .int q8), (0, .ref h_o), (1, .int p1)]) hx hb dX0_isMirror_11 rfl hl (by decide) rfl (fun ls hl => ?_)
  refine lv_aload_n hx hb dX0_isMirror_12 rfl (lv_at hl 1 rfl) ?_
  refine va_get (D := (dC, dI)) (ci := 0) (v := .ref h_o_seen) (C := RX0) (T := TX0) (N := 9) hx hb hts (fun w h => List.mem_cons_of_mem _ (kc_X0 w h)) hown hK hP 0 rfl rfl 0 (by decide) (hg kw_129) (fun _ h9 => h9) rfl dX0_isMirror_13 ?_
  refine va_getN (D := (dC, dI)) (ci := 5) (v := .int o_seen_hex) (C := RX6) (T := TX6) (N := 5) hx hb hts (fun w h => List.mem_cons_of_mem _ (kc_X6 w h)) hown hK hP 1 rfl rfl 2 (by decide) (va_Nw.use rfl (hE.1 _ kw_135)) (fun _ h9 => h9) rfl dX0_isMirror_16 ?_
  refine lv_iload_n hx hb dX0_isMirror_19 rfl (lv_at hl 2 rfl) ?_
  obtain ⟨q20, hq20, hf⟩ := ds_ob hf
  refine ds_calli (wr := [(h_o, .inr (0, [.ref h_o_seen, .ref h_o_turned, .ref h_o_found, .int o_looked, .int o_stepsFound, .int o_firstX, .int o_firstY, .int o_secondX, .int o_secondY])), (h_o_seen, .inr (5, [.int o_seen_wide, .int o_seen_high, .int o_seen_hex, .long o_seen_ones, .long o_seen_twos])), (h_o_found, .inl (ca 1, 12, .inr (.inl o_found_r)))]) (va_runS (As := [.int o_seen_hex, .int p1]) (rest := []) ⟨hx, hb, hml, hown, hts⟩ (c_X1_acrossY l dC dI ca sa  H.size  o_seen_hex p1 q20 hq20) (va_cwS 2 hts (ds_gS kw_188 kw_189 kw_2 kw_190) rfl rfl rfl (by decide +kernel) ⟨Nat.le_of_ble_eq_true rfl, Nat.le_of_ble_eq_true rfl⟩) ⟨ds_blind, ds_at hP hD hK hE hS hA [] rfl rfl _⟩ rfl rfl hl.1 rfl (lv_room (Nat.le_of_ble_eq_true rfl)) dX0_isMirror_20 ⟨Nat.zero_le _, Nat.zero_le _⟩) hP hD hS hA [] [0, 1, 2] rfl rfl rfl (by decide) (fun H locs hP hD hS => ?_)
  have hP : va_P (dC, dI) vwCl [(h_o, .inr (0, [.ref h_o_seen, .ref h_o_turned, .ref h_o_found, .int o_looked, .int o_stepsFound, .int o_firstX, .int o_firstY, .int o_secondX, .int o_secondY])), (h_o_seen, .inr (5, [.int o_seen_wide, .int o_seen_high, .int o_seen_hex, .long o_seen_ones, .long o_seen_twos])), (h_o_found, .inl (ca 1, 12, .inr (.inl o_found_r)))] H := hP
  have hD : va_D A [(h_o, .inr (0, [.ref h_o_seen, .ref h_o_turned, .ref h_o_found, .int o_looked, .int o_stepsFound, .int o_firstX, .int o_firstY, .int o_secondX, .int o_secondY])), (h_o_seen, .inr (5, [.int o_seen_wide, .int o_seen_high, .int o_seen_hex, .long o_seen_ones, .long o_seen_twos])), (h_o_found, .inl (ca 1, 12, .inr (.inl o_found_r)))] := hD
  refine lv_istore_n (lv' := [(3, .int q20), (2, .int q8), (0, .ref h_o), (1, .int p1)]) hx hb dX0_isMirror_23 rfl hl (by decide) rfl (fun ls hl => ?_)
  refine lv_iconst (v := 0) hx hb dX0_isMirror_24 (by decide) ?_
  refine lv_istore (lv' := [(4, .int (0 : Int32)), (3, .int q20), (2, .int q8), (0, .ref h_o), (1, .int p1)]) hx hb dX0_isMirror_25 hl (by decide) rfl (fun ls hl => ?_)
  exact h1 (J_27 q8 q20 1000 (0 : Int32) _ hf hG _ _ hP hD hS _ (lv_sub hl [3, 4, 2, 1, 0] rfl))
theorem dX0_mirrors_0 : decode cX0_mirrors 0 = .ok (.iconst 0, 1) := by decide +kernel
theorem dX0_mirrors_1 : decode cX0_mirrors 1 = .ok (.istore_n 1, 1) := by decide +kernel
theorem dX0_mirrors_2 : decode cX0_mirrors 2 = .ok (.iconst 0, 1) := by decide +kernel
theorem dX0_mirrors_3 : decode cX0_mirrors 3 = .ok (.istore_n 2, 1) := by decide +kernel
theorem dX0_mirrors_4 : decode cX0_mirrors 4 = .ok (.iload_n 2, 1) := by decide +kernel
theorem dX0_mirrors_5 : decode cX0_mirrors 5 = .ok (.aload_n 0, 1) := by decide +kernel
theorem dX0_mirrors_6 : decode cX0_mirrors 6 = .ok (.getfield 12, 3) := by decide +kernel
theorem dX0_mirrors_9 : decode cX0_mirrors 9 = .ok (.getfield 39, 3) := by decide +kernel
theorem dX0_mirrors_12 : decode cX0_mirrors 12 = .ok (.invokestatic 81, 3) := by decide +kernel
theorem dX0_mirrors_15 : decode cX0_mirrors 15 = .ok (.if_icmp .ge 28, 3) := by decide +kernel
theorem dX0_mirrors_18 : decode cX0_mirrors 18 = .ok (.aload_n 0, 1) := by decide +kernel
theorem dX0_mirrors_19 : decode cX0_mirrors 19 = .ok (.iload_n 2, 1) := by decide +kernel
theorem dX0_mirrors_20 : decode cX0_mirrors 20 = .ok (.invokevirtual 99, 3) := by decide +kernel
theorem dX0_mirrors_23 : decode cX0_mirrors 23 = .ok (.ifCond .eq 14, 3) := by decide +kernel
theorem dX0_mirrors_26 : decode cX0_mirrors 26 = .ok (.aload_n 0, 1) := by decide +kernel
theorem dX0_mirrors_27 : decode cX0_mirrors 27 = .ok (.iload_n 2, 1) := by decide +kernel
theorem dX0_mirrors_28 : decode cX0_mirrors 28 = .ok (.invokevirtual 103, 3) := by decide +kernel
theorem dX0_mirrors_31 : decode cX0_mirrors 31 = .ok (.ifCond .eq 6, 3) := by decide +kernel
theorem dX0_mirrors_34 : decode cX0_mirrors 34 = .ok (.iinc 1 1, 3) := by decide +kernel
theorem dX0_mirrors_37 : decode cX0_mirrors 37 = .ok (.iinc 2 1, 3) := by decide +kernel
theorem dX0_mirrors_40 : decode cX0_mirrors 40 = .ok (.goto (-36), 3) := by decide +kernel
theorem dX0_mirrors_43 : decode cX0_mirrors 43 = .ok (.iload_n 1, 1) := by decide +kernel
theorem dX0_mirrors_44 : decode cX0_mirrors 44 = .ok (.ireturn, 1) := by decide +kernel
def fX0_mirrors_37 (v1 : Int32) (v2 : Int32) : Option ((Int32 × Int32) ⊕ (Int32)) :=
  some (.inl (v1, (v2 + 1)))
def fX0_mirrors_4_b (o_seen_wide : Int32) (o_seen_high : Int32) (o_seen_hex : Int32) (o_found_r : Nat → Int64) (v1 : Int32) (v2 : Int32) : Option ((Int32 × Int32) ⊕ (Int32)) :=
  Option.bind (fX1_turnings o_seen_hex) fun q12 => if q12 ≤ v2 then some (.inr v1) else Option.bind (fX0_hasFlip o_seen_hex o_found_r v2) fun q20 => if q20 = 0 then fX0_mirrors_37 v1 v2 else Option.bind (fX0_isMirror o_seen_wide o_seen_high o_seen_hex o_found_r v2) fun q28 => if q28 = 0 then fX0_mirrors_37 v1 v2 else fX0_mirrors_37 (v1 + 1) v2
def fX0_mirrors_4 (o_seen_wide : Int32) (o_seen_high : Int32) (o_seen_hex : Int32) (o_found_r : Nat → Int64) (v1 : Int32) (v2 : Int32) : Option (Int32) := ds_it (fun s => fX0_mirrors_4_b o_seen_wide o_seen_high o_seen_hex o_found_r s.1 s.2) 1000 (v1, v2)
def fX0_mirrors (o_seen_wide : Int32) (o_seen_high : Int32) (o_seen_hex : Int32) (o_found_r : Nat → Int64) : Option (Int32) :=
  fX0_mirrors_4 o_seen_wide o_seen_high o_seen_hex o_found_r (0 : Int32) (0 : Int32)
set_option maxHeartbeats 4000000 in
set_option maxRecDepth 100000 in
theorem c_X0_mirrors (l : Launch) (dC : Nat → ClassId) (dI : Nat → Nat → Nat) (ca : Nat → ClassId) (sa : Nat → Nat) (h_o : Nat) (h_o_seen : Nat) (h_o_turned : Nat) (h_o_found : Nat) (sz : Nat) (o_looked : Int32) (o_stepsFound : Int32) (o_firstX : Int32) (o_firstY : Int32) (o_secondX : Int32) (o_secondY : Int32) (o_seen_wide : Int32) (o_seen_high : Int32) (o_seen_hex : Int32) (o_seen_ones : Int64) (o_seen_twos : Int64) (o_found_r : Nat → Int64) (res : Int32) (hf : fX0_mirrors o_seen_wide o_seen_high o_seen_hex o_found_r = some res) : Met l yX0_mirrors (Cond.code yX0_mirrors cX0_mirrors 3 (some .int) :: ds_gw) { frames := 4, cells := 0, slots := 0, locals := 91 } (va_Pc [.ref h_o] (ds_Pre dC dI ca sa [(h_o, .inr (0, [.ref h_o_seen, .ref h_o_turned, .ref h_o_found, .int o_looked, .int o_stepsFound, .int o_firstX, .int o_firstY, .int o_secondX, .int o_secondY])), (h_o_seen, .inr (5, [.int o_seen_wide, .int o_seen_high, .int o_seen_hex, .long o_seen_ones, .long o_seen_twos])), (h_o_found, .inl (ca 1, 12, .inr (.inl o_found_r)))] sz)) (va_Qi (fun r (_ : Unit) => r = res) (ds_B dC dI (va_A [(h_o, .inr (0, [.ref h_o_seen, .ref h_o_turned, .ref h_o_found, .int o_looked, .int o_stepsFound, .int o_firstX, .int o_firstY, .int o_secondX, .int o_secondY])), (h_o_seen, .inr (5, [.int o_seen_wide, .int o_seen_high, .int o_seen_hex, .long o_seen_ones, .long o_seen_twos])), (h_o_found, .inl (ca 1, 12, .inr (.inl o_found_r)))] sz) [(h_o, .inr (0, [.ref h_o_seen, .ref h_o_turned, .ref h_o_found, .int o_looked, .int o_stepsFound, .int o_firstX, .int o_firstY, .int o_secondX, .int o_secondY])), (h_o_seen, .inr (5, [.int o_seen_wide, .int o_seen_high, .int o_seen_hex, .long o_seen_ones, .long o_seen_twos])), (h_o_found, .inl (ca 1, 12, .inr (.inl o_found_r)))]) (va_A [(h_o, .inr (0, [.ref h_o_seen, .ref h_o_turned, .ref h_o_found, .int o_looked, .int o_stepsFound, .int o_firstX, .int o_firstY, .int o_secondX, .int o_secondY])), (h_o_seen, .inr (5, [.int o_seen_wide, .int o_seen_high, .int o_seen_hex, .long o_seen_ones, .long o_seen_twos])), (h_o_found, .inl (ca 1, 12, .inr (.inl o_found_r)))] sz)) 0 0 (va_A [(h_o, .inr (0, [.ref h_o_seen, .ref h_o_turned, .ref h_o_found, .int o_looked, .int o_stepsFound, .int o_firstX, .int o_firstY, .int o_secondX, .int o_secondY])), (h_o_seen, .inr (5, [.int o_seen_wide, .int o_seen_high, .int o_seen_hex, .long o_seen_ones, .long o_seen_twos])), (h_o_found, .inl (ca 1, 12, .inr (.inl o_found_r)))] sz) := by
  refine Met.ofW (cc := cX0_mirrors) (maxL := 3) (ret := (some .int)) (by decide) rfl ?_
  intro p e s m args below meth c s₁ B hml hv
  obtain ⟨rfl, hsz, hP, hK, hD0, hE⟩ := hv
  have hx := B.exec
  have hb := B.bytes
  have hr := B.returns
  have hts := atoms_spec (ws := Cond.code yX0_mirrors cX0_mirrors 3 (some .int) :: ds_gw) B.pre
  have hg : ∀ {w : Cond}, w ∈ ds_gw → w.before _ s = true := fun h => hts _ (List.mem_cons_of_mem _ h)
  have hown : s.vm.findClass RX0 = some m.cls := findClass_of_methodNamed B.named
  have hlocks := B.notSynchronized
  subst hsz
  have hD := hD0.self (sz := s.heap.size)
  generalize hAe : va_A [(h_o, .inr (0, [.ref h_o_seen, .ref h_o_turned, .ref h_o_found, .int o_looked, .int o_stepsFound, .int o_firstX, .int o_firstY, .int o_secondX, .int o_secondY])), (h_o_seen, .inr (5, [.int o_seen_wide, .int o_seen_high, .int o_seen_hex, .long o_seen_ones, .long o_seen_twos])), (h_o_found, .inl (ca 1, 12, .inr (.inl o_found_r)))] s.heap.size = A at hD hE ⊢
  have hA : ∀ q : Nat, s.heap.size ≤ q → A q := fun q h => by rw [← hAe]; exact Or.inr h
  have hS : va_S A s.heap s.heap [] := va_S.rf
  have hl := lv_entry ([.ref h_o]) (n := 3) (Nat.le_of_ble_eq_true rfl)
  rw [lg_entry_eq]
  generalize (lg_sl ([.ref h_o]) ++ List.replicate (3 - (lg_sl ([.ref h_o])).length) Slot.unset).toArray = ls at hl ⊢
  have hl : lv_has ls 3 [(0, .ref h_o)] := hl
  obtain ⟨G0, eG0⟩ : ∃ G : Int32 → Prop, G = (fun r => r = res) := ⟨_, rfl⟩
  obtain ⟨rr, hrr⟩ : ∃ z, z = res := ⟨_, rfl⟩
  rw [← hrr] at hf
  have hG : G0 rr := by subst eG0; exact hrr
  refine ds_cap (fun WW h1 h2 => ?_)
  have J_4 : ∀ (n : Nat) (v1 : Int32) (v2 : Int32) (rr : Int32) (hf : ds_it (fun s => fX0_mirrors_4_b o_seen_wide o_seen_high o_seen_hex o_found_r s.1 s.2) n (v1, v2) = some rr) (hG : G0 rr) (H : Heap) (locs : List Loc) (hP : va_P (dC, dI) vwCl [(h_o, .inr (0, [.ref h_o_seen, .ref h_o_turned, .ref h_o_found, .int o_looked, .int o_stepsFound, .int o_firstX, .int o_firstY, .int o_secondX, .int o_secondY])), (h_o_seen, .inr (5, [.int o_seen_wide, .int o_seen_high, .int o_seen_hex, .long o_seen_ones, .long o_seen_twos])), (h_o_found, .inl (ca 1, 12, .inr (.inl o_found_r)))] H) (hD : va_D A [(h_o, .inr (0, [.ref h_o_seen, .ref h_o_turned, .ref h_o_found, .int o_looked, .int o_stepsFound, .int o_firstX, .int o_firstY, .int o_secondX, .int o_secondY])), (h_o_seen, .inr (5, [.int o_seen_wide, .int o_seen_high, .int o_seen_hex, .long o_seen_ones, .long o_seen_twos])), (h_o_found, .inl (ca 1, 12, .inr (.inl o_found_r)))]) (hS : va_S A s.heap H locs) (ls : Array Slot) (hl : lv_has ls 3 [(0, .ref h_o), (1, .int v1), (2, .int v2)]), WW H locs (F0 m 4 ls []) := by
    intro  n
    induction n with
    | zero => intro v1 v2 rr hf; exact (ds_it_zero hf).elim
    | succ n ih4 =>
      intro v1 v2 rr hf hG H locs hP hD hS ls hl
      refine h2 ?_
      obtain ⟨rr, hf, hG⟩ := ds_it_succ hf hG
      replace hf : fX0_mirrors_4_b o_seen_wide o_seen_high o_seen_hex o_found_r v1 v2 = some rr := hf
      obtain ⟨G1, eG1⟩ : ∃ G : ((Int32 × Int32) ⊕ (Int32)) → Prop, G = ds_G (fun s' => ∃ r', ds_it (fun s => fX0_mirrors_4_b o_seen_wide o_seen_high o_seen_hex o_found_r s.1 s.2) n s' = some r' ∧ G0 r') G0 := ⟨_, rfl⟩
      rw [← eG1] at hG
      have J_37 : ∀ (v1 : Int32) (v2 : Int32) (rr : (Int32 × Int32) ⊕ (Int32)) (hf : fX0_mirrors_37 v1 v2 = some rr) (hG : G1 rr) (H : Heap) (locs : List Loc) (hP : va_P (dC, dI) vwCl [(h_o, .inr (0, [.ref h_o_seen, .ref h_o_turned, .ref h_o_found, .int o_looked, .int o_stepsFound, .int o_firstX, .int o_firstY, .int o_secondX, .int o_secondY])), (h_o_seen, .inr (5, [.int o_seen_wide, .int o_seen_high, .int o_seen_hex, .long o_seen_ones, .long o_seen_twos])), (h_o_found, .inl (ca 1, 12, .inr (.inl o_found_r)))] H) (hD : va_D A [(h_o, .inr (0, [.ref h_o_seen, .ref h_o_turned, .ref h_o_found, .int o_looked, .int o_stepsFound, .int o_firstX, .int o_firstY, .int o_secondX, .int o_secondY])), (h_o_seen, .inr (5, [.int o_seen_wide, .int o_seen_high, .int o_seen_hex, .long o_seen_ones, .long o_seen_twos])), (h_o_found, .inl (ca 1, 12, .inr (.inl o_found_r)))]) (hS : va_S A s.heap H locs) (ls : Array Slot) (hl : lv_has ls 3 [(0, .ref h_o), (1, .int v1), (2, .int v2)]), WW H locs (F0 m 37 ls []) := by
        intro v1 v2 rr hf hG H locs hP hD hS ls hl
        refine h2 ?_
        unfold fX0_mirrors_37 at hf
        refine lv_iinc (v := (v2 + 1)) (lv' := [(2, .int (v2 + 1)), (0, .ref h_o), (1, .int v1)]) hx hb dX0_mirrors_37 hl (k := 2) rfl rfl (by decide) rfl (fun ls hl => ?_)
        refine lv_goto (tgt := 4) hx hb dX0_mirrors_40 (by decide) ?_
        have hf := Option.some.inj hf
        subst hf
        rw [eG1] at hG
        obtain ⟨rr, hf, hG⟩ := hG
        exact h1 (ih4 v1 (v2 + 1) rr hf hG _ _ hP hD hS _ (lv_sub hl [1, 2, 0] rfl))
      unfold fX0_mirrors_4_b at hf
      refine lv_iload_n hx hb dX0_mirrors_4 rfl (lv_at hl 2 rfl) ?_
      refine lv_aload_n hx hb dX0_mirrors_5 rfl (lv_at hl 0 rfl) ?_
      refine va_get (D := (dC, dI)) (ci := 0) (v := .ref h_o_seen) (C := RX0) (T := TX0) (N := 9) hx hb hts (fun w h => List.mem_cons_of_mem _ (kc_X0 w h)) hown hK hP 0 rfl rfl 0 (by decide) (hg kw_129) (fun _ h9 => h9) rfl dX0_mirrors_6 ?_
      refine va_getN (D := (dC, dI)) (ci := 5) (v := .int o_seen_hex) (C := RX6) (T := TX6) (N := 5) hx hb hts (fun w h => List.mem_cons_of_mem _ (kc_X6 w h)) hown hK hP 1 rfl rfl 2 (by decide) (va_Nw.use rfl (hE.1 _ kw_135)) (fun _ h9 => h9) rfl dX0_mirrors_9 ?_
      obtain ⟨q12, hq12, hf⟩ := ds_ob hf
      refine ds_calli (wr := [(h_o, .inr (0, [.ref h_o_seen, .ref h_o_turned, .ref h_o_found, .int o_looked, .int o_stepsFound, .int o_firstX, .int o_firstY, .int o_secondX, .int o_secondY])), (h_o_seen, .inr (5, [.int o_seen_wide, .int o_seen_high, .int o_seen_hex, .long o_seen_ones, .long o_seen_twos])), (h_o_found, .inl (ca 1, 12, .inr (.inl o_found_r)))]) (va_runS (As := [.int o_seen_hex]) (rest := [.int v2]) ⟨hx, hb, hml, hown, hts⟩ (c_X1_turnings l dC dI ca sa  H.size  o_seen_hex q12 hq12) (va_cwS 1 hts (ds_gS kw_167 kw_1 kw_2 kw_3) rfl rfl rfl (by decide +kernel) ⟨Nat.le_of_ble_eq_true rfl, Nat.le_of_ble_eq_true rfl⟩) ⟨ds_blind, ds_at hP hD hK hE hS hA [] rfl rfl _⟩ rfl rfl hl.1 rfl (lv_room (Nat.le_of_ble_eq_true rfl)) dX0_mirrors_12 ⟨Nat.zero_le _, Nat.zero_le _⟩) hP hD hS hA [] [0, 1, 2] rfl rfl rfl (by decide) (fun H locs hP hD hS => ?_)
      have hP : va_P (dC, dI) vwCl [(h_o, .inr (0, [.ref h_o_seen, .ref h_o_turned, .ref h_o_found, .int o_looked, .int o_stepsFound, .int o_firstX, .int o_firstY, .int o_secondX, .int o_secondY])), (h_o_seen, .inr (5, [.int o_seen_wide, .int o_seen_high, .int o_seen_hex, .long o_seen_ones, .long o_seen_twos])), (h_o_found, .inl (ca 1, 12, .inr (.inl o_found_r)))] H := hP
      have hD : va_D A [(h_o, .inr (0, [.ref h_o_seen, .ref h_o_turned, .ref h_o_found, .int o_looked, .int o_stepsFound, .int o_firstX, .int o_firstY, .int o_secondX, .int o_secondY])), (h_o_seen, .inr (5, [.int o_seen_wide, .int o_seen_high, .int o_seen_hex, .long o_seen_ones, .long o_seen_twos])), (h_o_found, .inl (ca 1, 12, .inr (.inl o_found_r)))] := hD
      refine lv_icmp_ge (tgt := 43) hx hb dX0_mirrors_15 (by decide) (fun c_15 => ?_) (fun c_15 => ?_)
      · replace hf := ds_t c_15 hf
        refine lv_iload_n hx hb dX0_mirrors_43 rfl (lv_at hl 1 rfl) ?_
        have hf := Option.some.inj hf
        subst hf
        rw [eG1] at hG
        replace hG : G0 _ := hG
        rw [eG0] at hG
        have hG : _ = res := hG
        subst hG
        exact W.iret (v := v1) hx hb hr (fun t ht hW => ⟨⟨v1, (), rfl, rfl, by rw [ht]; exact hP, hD⟩, hS.F ht⟩) hS.2.2 dX0_mirrors_44
      · replace hf := ds_f c_15 hf
        refine lv_aload_n hx hb dX0_mirrors_18 rfl (lv_at hl 0 rfl) ?_
        refine lv_iload_n hx hb dX0_mirrors_19 rfl (lv_at hl 2 rfl) ?_
        obtain ⟨q20, hq20, hf⟩ := ds_ob hf
        refine ds_calli (wr := []) (va_runV (As := [.int v2]) (rest := []) ⟨hx, hb, hml, hown, hts⟩ (c_X0_hasFlip l dC dI ca sa h_o h_o_seen h_o_turned h_o_found H.size o_looked o_stepsFound o_firstX o_firstY o_secondX o_secondY o_seen_wide o_seen_high o_seen_hex o_seen_ones o_seen_twos o_found_r v2 q20 hq20) (cwV 1 hts (ds_gV kw_191 kw_192 kw_193 kw_154 kw_194) rfl rfl rfl (by decide +kernel) ⟨Nat.le_of_ble_eq_true rfl, Nat.le_of_ble_eq_true rfl⟩) ⟨ds_blind, va_recv hK hP (ci := 0) (q0 := 0) rfl rfl, ds_at hP hD hK hE hS hA [0, 1, 2] rfl rfl _⟩ rfl rfl hl.1 rfl (lv_room (Nat.le_of_ble_eq_true rfl)) dX0_mirrors_20 ⟨Nat.zero_le _, Nat.zero_le _⟩) hP hD hS hA [0, 1, 2] [] rfl rfl rfl (by decide) (fun H locs hP hD hS => ?_)
        have hP : va_P (dC, dI) vwCl [(h_o, .inr (0, [.ref h_o_seen, .ref h_o_turned, .ref h_o_found, .int o_looked, .int o_stepsFound, .int o_firstX, .int o_firstY, .int o_secondX, .int o_secondY])), (h_o_seen, .inr (5, [.int o_seen_wide, .int o_seen_high, .int o_seen_hex, .long o_seen_ones, .long o_seen_twos])), (h_o_found, .inl (ca 1, 12, .inr (.inl o_found_r)))] H := hP
        have hD : va_D A [(h_o, .inr (0, [.ref h_o_seen, .ref h_o_turned, .ref h_o_found, .int o_looked, .int o_stepsFound, .int o_firstX, .int o_firstY, .int o_secondX, .int o_secondY])), (h_o_seen, .inr (5, [.int o_seen_wide, .int o_seen_high, .int o_seen_hex, .long o_seen_ones, .long o_seen_twos])), (h_o_found, .inl (ca 1, 12, .inr (.inl o_found_r)))] := hD
        refine lv_if_eq (tgt := 37) hx hb dX0_mirrors_23 (by decide) (fun c_23 => ?_) (fun c_23 => ?_)
        · replace hf := ds_t c_23 hf
          exact h1 (J_37 v1 v2 _ hf hG _ _ hP hD hS _ (lv_sub hl [0, 1, 2] rfl))
        · replace hf := ds_f c_23 hf
          refine lv_aload_n hx hb dX0_mirrors_26 rfl (lv_at hl 0 rfl) ?_
          refine lv_iload_n hx hb dX0_mirrors_27 rfl (lv_at hl 2 rfl) ?_
          obtain ⟨q28, hq28, hf⟩ := ds_ob hf
          refine ds_calli (wr := []) (va_runV (As := [.int v2]) (rest := []) ⟨hx, hb, hml, hown, hts⟩ (c_X0_isMirror l dC dI ca sa h_o h_o_seen h_o_turned h_o_found H.size o_looked o_stepsFound o_firstX o_firstY o_secondX o_secondY o_seen_wide o_seen_high o_seen_hex o_seen_ones o_seen_twos o_found_r v2 q28 hq28) (cwV 1 hts (ds_gV kw_195 kw_196 kw_197 kw_154 kw_198) rfl rfl rfl (by decide +kernel) ⟨Nat.le_of_ble_eq_true rfl, Nat.le_of_ble_eq_true rfl⟩) ⟨ds_blind, va_recv hK hP (ci := 0) (q0 := 0) rfl rfl, ds_at hP hD hK hE hS hA [0, 1, 2] rfl rfl _⟩ rfl rfl hl.1 rfl (lv_room (Nat.le_of_ble_eq_true rfl)) dX0_mirrors_28 ⟨Nat.zero_le _, Nat.zero_le _⟩) hP hD hS hA [0, 1, 2] [] rfl rfl rfl (by decide) (fun H locs hP hD hS => ?_)
          have hP : va_P (dC, dI) vwCl [(h_o, .inr (0, [.ref h_o_seen, .ref h_o_turned, .ref h_o_found, .int o_looked, .int o_stepsFound, .int o_firstX, .int o_firstY, .int o_secondX, .int o_secondY])), (h_o_seen, .inr (5, [.int o_seen_wide, .int o_seen_high, .int o_seen_hex, .long o_seen_ones, .long o_seen_twos])), (h_o_found, .inl (ca 1, 12, .inr (.inl o_found_r)))] H := hP
          have hD : va_D A [(h_o, .inr (0, [.ref h_o_seen, .ref h_o_turned, .ref h_o_found, .int o_looked, .int o_stepsFound, .int o_firstX, .int o_firstY, .int o_secondX, .int o_secondY])), (h_o_seen, .inr (5, [.int o_seen_wide, .int o_seen_high, .int o_seen_hex, .long o_seen_ones, .long o_seen_twos])), (h_o_found, .inl (ca 1, 12, .inr (.inl o_found_r)))] := hD
          refine lv_if_eq (tgt := 37) hx hb dX0_mirrors_31 (by decide) (fun c_31 => ?_) (fun c_31 => ?_)
          · replace hf := ds_t c_31 hf
            exact h1 (J_37 v1 v2 _ hf hG _ _ hP hD hS _ (lv_sub hl [0, 1, 2] rfl))
          · replace hf := ds_f c_31 hf
            refine lv_iinc (v := (v1 + 1)) (lv' := [(1, .int (v1 + 1)), (0, .ref h_o), (2, .int v2)]) hx hb dX0_mirrors_34 hl (k := 1) rfl rfl (by decide) rfl (fun ls hl => ?_)
            exact h1 (J_37 (v1 + 1) v2 _ hf hG _ _ hP hD hS _ (lv_sub hl [1, 0, 2] rfl))
  unfold fX0_mirrors at hf
  refine lv_iconst (v := 0) hx hb dX0_mirrors_0 (by decide) ?_
  refine lv_istore_n (lv' := [(1, .int (0 : Int32)), (0, .ref h_o)]) hx hb dX0_mirrors_1 rfl hl (by decide) rfl (fun ls hl => ?_)
  refine lv_iconst (v := 0) hx hb dX0_mirrors_2 (by decide) ?_
  refine lv_istore_n (lv' := [(2, .int (0 : Int32)), (1, .int (0 : Int32)), (0, .ref h_o)]) hx hb dX0_mirrors_3 rfl hl (by decide) rfl (fun ls hl => ?_)
  exact h1 (J_4  1000 (0 : Int32) (0 : Int32) _ hf hG _ _ hP hD hS _ (lv_sub hl [2, 1, 0] rfl))
theorem dX0_comesAhead_0 : decode cX0_comesAhead 0 = .ok (.iload_n 3, 1) := by decide +kernel
theorem dX0_comesAhead_1 : decode cX0_comesAhead 1 = .ok (.ifCond .ne 10, 3) := by decide +kernel
theorem dX0_comesAhead_4 : decode cX0_comesAhead 4 = .ok (.iload 4, 2) := by decide +kernel
theorem dX0_comesAhead_6 : decode cX0_comesAhead 6 = .ok (.ifCond .ne 5, 3) := by decide +kernel
theorem dX0_comesAhead_9 : decode cX0_comesAhead 9 = .ok (.iconst 1, 1) := by decide +kernel
theorem dX0_comesAhead_10 : decode cX0_comesAhead 10 = .ok (.ireturn, 1) := by decide +kernel
theorem dX0_comesAhead_11 : decode cX0_comesAhead 11 = .ok (.aload_n 0, 1) := by decide +kernel
theorem dX0_comesAhead_12 : decode cX0_comesAhead 12 = .ok (.getfield 12, 3) := by decide +kernel
theorem dX0_comesAhead_15 : decode cX0_comesAhead 15 = .ok (.getfield 39, 3) := by decide +kernel
theorem dX0_comesAhead_18 : decode cX0_comesAhead 18 = .ok (.iload_n 1, 1) := by decide +kernel
theorem dX0_comesAhead_19 : decode cX0_comesAhead 19 = .ok (.iload_n 2, 1) := by decide +kernel
theorem dX0_comesAhead_20 : decode cX0_comesAhead 20 = .ok (.invokestatic 150, 3) := by decide +kernel
theorem dX0_comesAhead_23 : decode cX0_comesAhead 23 = .ok (.istore 5, 2) := by decide +kernel
theorem dX0_comesAhead_25 : decode cX0_comesAhead 25 = .ok (.aload_n 0, 1) := by decide +kernel
theorem dX0_comesAhead_26 : decode cX0_comesAhead 26 = .ok (.getfield 12, 3) := by decide +kernel
theorem dX0_comesAhead_29 : decode cX0_comesAhead 29 = .ok (.getfield 39, 3) := by decide +kernel
theorem dX0_comesAhead_32 : decode cX0_comesAhead 32 = .ok (.iload_n 3, 1) := by decide +kernel
theorem dX0_comesAhead_33 : decode cX0_comesAhead 33 = .ok (.iload 4, 2) := by decide +kernel
theorem dX0_comesAhead_35 : decode cX0_comesAhead 35 = .ok (.invokestatic 150, 3) := by decide +kernel
theorem dX0_comesAhead_38 : decode cX0_comesAhead 38 = .ok (.istore 6, 2) := by decide +kernel
theorem dX0_comesAhead_40 : decode cX0_comesAhead 40 = .ok (.iload 5, 2) := by decide +kernel
theorem dX0_comesAhead_42 : decode cX0_comesAhead 42 = .ok (.iload 6, 2) := by decide +kernel
theorem dX0_comesAhead_44 : decode cX0_comesAhead 44 = .ok (.if_icmp .eq 16, 3) := by decide +kernel
theorem dX0_comesAhead_47 : decode cX0_comesAhead 47 = .ok (.iload 5, 2) := by decide +kernel
theorem dX0_comesAhead_49 : decode cX0_comesAhead 49 = .ok (.iload 6, 2) := by decide +kernel
theorem dX0_comesAhead_51 : decode cX0_comesAhead 51 = .ok (.if_icmp .ge 7, 3) := by decide +kernel
theorem dX0_comesAhead_54 : decode cX0_comesAhead 54 = .ok (.iconst 1, 1) := by decide +kernel
theorem dX0_comesAhead_55 : decode cX0_comesAhead 55 = .ok (.goto 4, 3) := by decide +kernel
theorem dX0_comesAhead_58 : decode cX0_comesAhead 58 = .ok (.iconst 0, 1) := by decide +kernel
theorem dX0_comesAhead_59 : decode cX0_comesAhead 59 = .ok (.ireturn, 1) := by decide +kernel
theorem dX0_comesAhead_60 : decode cX0_comesAhead 60 = .ok (.iload_n 1, 1) := by decide +kernel
theorem dX0_comesAhead_61 : decode cX0_comesAhead 61 = .ok (.iload_n 3, 1) := by decide +kernel
theorem dX0_comesAhead_62 : decode cX0_comesAhead 62 = .ok (.if_icmp .eq 16, 3) := by decide +kernel
theorem dX0_comesAhead_65 : decode cX0_comesAhead 65 = .ok (.iload_n 1, 1) := by decide +kernel
theorem dX0_comesAhead_66 : decode cX0_comesAhead 66 = .ok (.iload_n 3, 1) := by decide +kernel
theorem dX0_comesAhead_67 : decode cX0_comesAhead 67 = .ok (.if_icmp .le 7, 3) := by decide +kernel
theorem dX0_comesAhead_70 : decode cX0_comesAhead 70 = .ok (.iconst 1, 1) := by decide +kernel
theorem dX0_comesAhead_71 : decode cX0_comesAhead 71 = .ok (.goto 18, 3) := by decide +kernel
theorem dX0_comesAhead_74 : decode cX0_comesAhead 74 = .ok (.iconst 0, 1) := by decide +kernel
theorem dX0_comesAhead_75 : decode cX0_comesAhead 75 = .ok (.goto 14, 3) := by decide +kernel
theorem dX0_comesAhead_78 : decode cX0_comesAhead 78 = .ok (.iload_n 2, 1) := by decide +kernel
theorem dX0_comesAhead_79 : decode cX0_comesAhead 79 = .ok (.iload 4, 2) := by decide +kernel
theorem dX0_comesAhead_81 : decode cX0_comesAhead 81 = .ok (.if_icmp .le 7, 3) := by decide +kernel
theorem dX0_comesAhead_84 : decode cX0_comesAhead 84 = .ok (.iconst 1, 1) := by decide +kernel
theorem dX0_comesAhead_85 : decode cX0_comesAhead 85 = .ok (.goto 4, 3) := by decide +kernel
theorem dX0_comesAhead_88 : decode cX0_comesAhead 88 = .ok (.iconst 0, 1) := by decide +kernel
theorem dX0_comesAhead_89 : decode cX0_comesAhead 89 = .ok (.ireturn, 1) := by decide +kernel
def fX0_comesAhead_11 (o_seen_hex : Int32) (p1 : Int32) (p2 : Int32) (p3 : Int32) (p4 : Int32) : Option (Int32) :=
  Option.bind (fX1_lengthOf o_seen_hex p1 p2) fun q20 => Option.bind (fX1_lengthOf o_seen_hex p3 p4) fun q35 => if q20 = q35 then if p1 = p3 then if p2 ≤ p4 then some (0 : Int32) else some (1 : Int32) else if p1 ≤ p3 then some (0 : Int32) else some (1 : Int32) else if q35 ≤ q20 then some (0 : Int32) else some (1 : Int32)
def fX0_comesAhead (o_seen_hex : Int32) (p1 : Int32) (p2 : Int32) (p3 : Int32) (p4 : Int32) : Option (Int32) :=
  if p3 = 0 then if p4 = 0 then some (1 : Int32) else fX0_comesAhead_11 o_seen_hex p1 p2 p3 p4 else fX0_comesAhead_11 o_seen_hex p1 p2 p3 p4
set_option maxHeartbeats 4000000 in
set_option maxRecDepth 100000 in
theorem c_X0_comesAhead (l : Launch) (dC : Nat → ClassId) (dI : Nat → Nat → Nat) (ca : Nat → ClassId) (sa : Nat → Nat) (h_o : Nat) (h_o_seen : Nat) (h_o_turned : Nat) (h_o_found : Nat) (sz : Nat) (o_looked : Int32) (o_stepsFound : Int32) (o_firstX : Int32) (o_firstY : Int32) (o_secondX : Int32) (o_secondY : Int32) (o_seen_wide : Int32) (o_seen_high : Int32) (o_seen_hex : Int32) (o_seen_ones : Int64) (o_seen_twos : Int64) (p1 : Int32) (p2 : Int32) (p3 : Int32) (p4 : Int32) (res : Int32) (hf : fX0_comesAhead o_seen_hex p1 p2 p3 p4 = some res) : Met l yX0_comesAhead (Cond.code yX0_comesAhead cX0_comesAhead 7 (some .boolean) :: ds_gw) { frames := 1, cells := 0, slots := 0, locals := 22 } (va_Pc [.ref h_o, .int p1, .int p2, .int p3, .int p4] (ds_Pre dC dI ca sa [(h_o, .inr (0, [.ref h_o_seen, .ref h_o_turned, .ref h_o_found, .int o_looked, .int o_stepsFound, .int o_firstX, .int o_firstY, .int o_secondX, .int o_secondY])), (h_o_seen, .inr (5, [.int o_seen_wide, .int o_seen_high, .int o_seen_hex, .long o_seen_ones, .long o_seen_twos]))] sz)) (va_Qi (fun r (_ : Unit) => r = res) (ds_B dC dI (va_A [(h_o, .inr (0, [.ref h_o_seen, .ref h_o_turned, .ref h_o_found, .int o_looked, .int o_stepsFound, .int o_firstX, .int o_firstY, .int o_secondX, .int o_secondY])), (h_o_seen, .inr (5, [.int o_seen_wide, .int o_seen_high, .int o_seen_hex, .long o_seen_ones, .long o_seen_twos]))] sz) [(h_o, .inr (0, [.ref h_o_seen, .ref h_o_turned, .ref h_o_found, .int o_looked, .int o_stepsFound, .int o_firstX, .int o_firstY, .int o_secondX, .int o_secondY])), (h_o_seen, .inr (5, [.int o_seen_wide, .int o_seen_high, .int o_seen_hex, .long o_seen_ones, .long o_seen_twos]))]) (va_A [(h_o, .inr (0, [.ref h_o_seen, .ref h_o_turned, .ref h_o_found, .int o_looked, .int o_stepsFound, .int o_firstX, .int o_firstY, .int o_secondX, .int o_secondY])), (h_o_seen, .inr (5, [.int o_seen_wide, .int o_seen_high, .int o_seen_hex, .long o_seen_ones, .long o_seen_twos]))] sz)) 0 0 (va_A [(h_o, .inr (0, [.ref h_o_seen, .ref h_o_turned, .ref h_o_found, .int o_looked, .int o_stepsFound, .int o_firstX, .int o_firstY, .int o_secondX, .int o_secondY])), (h_o_seen, .inr (5, [.int o_seen_wide, .int o_seen_high, .int o_seen_hex, .long o_seen_ones, .long o_seen_twos]))] sz) := by
  refine Met.ofW (cc := cX0_comesAhead) (maxL := 7) (ret := (some .boolean)) (by decide) rfl ?_
  intro p e s m args below meth c s₁ B hml hv
  obtain ⟨rfl, hsz, hP, hK, hD0, hE⟩ := hv
  have hx := B.exec
  have hb := B.bytes
  have hr := B.returns
  have hts := atoms_spec (ws := Cond.code yX0_comesAhead cX0_comesAhead 7 (some .boolean) :: ds_gw) B.pre
  have hg : ∀ {w : Cond}, w ∈ ds_gw → w.before _ s = true := fun h => hts _ (List.mem_cons_of_mem _ h)
  have hown : s.vm.findClass RX0 = some m.cls := findClass_of_methodNamed B.named
  have hlocks := B.notSynchronized
  subst hsz
  have hD := hD0.self (sz := s.heap.size)
  generalize hAe : va_A [(h_o, .inr (0, [.ref h_o_seen, .ref h_o_turned, .ref h_o_found, .int o_looked, .int o_stepsFound, .int o_firstX, .int o_firstY, .int o_secondX, .int o_secondY])), (h_o_seen, .inr (5, [.int o_seen_wide, .int o_seen_high, .int o_seen_hex, .long o_seen_ones, .long o_seen_twos]))] s.heap.size = A at hD hE ⊢
  have hA : ∀ q : Nat, s.heap.size ≤ q → A q := fun q h => by rw [← hAe]; exact Or.inr h
  have hS : va_S A s.heap s.heap [] := va_S.rf
  have hl := lv_entry ([.ref h_o, .int p1, .int p2, .int p3, .int p4]) (n := 7) (Nat.le_of_ble_eq_true rfl)
  rw [lg_entry_eq]
  generalize (lg_sl ([.ref h_o, .int p1, .int p2, .int p3, .int p4]) ++ List.replicate (7 - (lg_sl ([.ref h_o, .int p1, .int p2, .int p3, .int p4])).length) Slot.unset).toArray = ls at hl ⊢
  have hl : lv_has ls 7 [(0, .ref h_o), (1, .int p1), (2, .int p2), (3, .int p3), (4, .int p4)] := hl
  obtain ⟨G0, eG0⟩ : ∃ G : Int32 → Prop, G = (fun r => r = res) := ⟨_, rfl⟩
  obtain ⟨rr, hrr⟩ : ∃ z, z = res := ⟨_, rfl⟩
  rw [← hrr] at hf
  have hG : G0 rr := by subst eG0; exact hrr
  refine ds_cap (fun WW h1 h2 => ?_)
  have J_11 : ∀ (rr : Int32) (hf : fX0_comesAhead_11 o_seen_hex p1 p2 p3 p4 = some rr) (hG : G0 rr) (H : Heap) (locs : List Loc) (hP : va_P (dC, dI) vwCl [(h_o, .inr (0, [.ref h_o_seen, .ref h_o_turned, .ref h_o_found, .int o_looked, .int o_stepsFound, .int o_firstX, .int o_firstY, .int o_secondX, .int o_secondY])), (h_o_seen, .inr (5, [.int o_seen_wide, .int o_seen_high, .int o_seen_hex, .long o_seen_ones, .long o_seen_twos]))] H) (hD : va_D A [(h_o, .inr (0, [.ref h_o_seen, .ref h_o_turned, .ref h_o_found, .int o_looked, .int o_stepsFound, .int o_firstX, .int o_firstY, .int o_secondX, .int o_secondY])), (h_o_seen, .inr (5, [.int o_seen_wide, .int o_seen_high, .int o_seen_hex, .long o_seen_ones, .long o_seen_twos]))]) (hS : va_S A s.heap H locs) (ls : Array Slot) (hl : lv_has ls 7 [(0, .ref h_o), (1, .int p1), (2, .int p2), (3, .int p3), (4, .int p4)]), WW H locs (F0 m 11 ls []) := by
    intro  rr hf hG H locs hP hD hS ls hl
    refine h2 ?_
    unfold fX0_comesAhead_11 at hf
    refine lv_aload_n hx hb dX0_comesAhead_11 rfl (lv_at hl 0 rfl) ?_
    refine va_get (D := (dC, dI)) (ci := 0) (v := .ref h_o_seen) (C := RX0) (T := TX0) (N := 9) hx hb hts (fun w h => List.mem_cons_of_mem _ (kc_X0 w h)) hown hK hP 0 rfl rfl 0 (by decide) (hg kw_129) (fun _ h9 => h9) rfl dX0_comesAhead_12 ?_
    refine va_getN (D := (dC, dI)) (ci := 5) (v := .int o_seen_hex) (C := RX6) (T := TX6) (N := 5) hx hb hts (fun w h => List.mem_cons_of_mem _ (kc_X6 w h)) hown hK hP 1 rfl rfl 2 (by decide) (va_Nw.use rfl (hE.1 _ kw_135)) (fun _ h9 => h9) rfl dX0_comesAhead_15 ?_
    refine lv_iload_n hx hb dX0_comesAhead_18 rfl (lv_at hl 1 rfl) ?_
    refine lv_iload_n hx hb dX0_comesAhead_19 rfl (lv_at hl 2 rfl) ?_
    obtain ⟨q20, hq20, hf⟩ := ds_ob hf
    refine ds_calli (wr := [(h_o, .inr (0, [.ref h_o_seen, .ref h_o_turned, .ref h_o_found, .int o_looked, .int o_stepsFound, .int o_firstX, .int o_firstY, .int o_secondX, .int o_secondY])), (h_o_seen, .inr (5, [.int o_seen_wide, .int o_seen_high, .int o_seen_hex, .long o_seen_ones, .long o_seen_twos]))]) (va_runS (As := [.int o_seen_hex, .int p1, .int p2]) (rest := []) ⟨hx, hb, hml, hown, hts⟩ (c_X1_lengthOf l dC dI ca sa  H.size  o_seen_hex p1 p2 q20 hq20) (va_cwS 3 hts (ds_gS kw_199 kw_200 kw_2 kw_201) rfl rfl rfl (by decide +kernel) ⟨Nat.le_of_ble_eq_true rfl, Nat.le_of_ble_eq_true rfl⟩) ⟨ds_blind, ds_at hP hD hK hE hS hA [] rfl rfl _⟩ rfl rfl hl.1 rfl (lv_room (Nat.le_of_ble_eq_true rfl)) dX0_comesAhead_20 ⟨Nat.zero_le _, Nat.zero_le _⟩) hP hD hS hA [] [0, 1] rfl rfl rfl (by decide) (fun H locs hP hD hS => ?_)
    have hP : va_P (dC, dI) vwCl [(h_o, .inr (0, [.ref h_o_seen, .ref h_o_turned, .ref h_o_found, .int o_looked, .int o_stepsFound, .int o_firstX, .int o_firstY, .int o_secondX, .int o_secondY])), (h_o_seen, .inr (5, [.int o_seen_wide, .int o_seen_high, .int o_seen_hex, .long o_seen_ones, .long o_seen_twos]))] H := hP
    have hD : va_D A [(h_o, .inr (0, [.ref h_o_seen, .ref h_o_turned, .ref h_o_found, .int o_looked, .int o_stepsFound, .int o_firstX, .int o_firstY, .int o_secondX, .int o_secondY])), (h_o_seen, .inr (5, [.int o_seen_wide, .int o_seen_high, .int o_seen_hex, .long o_seen_ones, .long o_seen_twos]))] := hD
    refine lv_istore (lv' := [(5, .int q20), (0, .ref h_o), (1, .int p1), (2, .int p2), (3, .int p3), (4, .int p4)]) hx hb dX0_comesAhead_23 hl (by decide) rfl (fun ls hl => ?_)
    refine lv_aload_n hx hb dX0_comesAhead_25 rfl (lv_at hl 1 rfl) ?_
    refine va_get (D := (dC, dI)) (ci := 0) (v := .ref h_o_seen) (C := RX0) (T := TX0) (N := 9) hx hb hts (fun w h => List.mem_cons_of_mem _ (kc_X0 w h)) hown hK hP 0 rfl rfl 0 (by decide) (hg kw_129) (fun _ h9 => h9) rfl dX0_comesAhead_26 ?_
    refine va_getN (D := (dC, dI)) (ci := 5) (v := .int o_seen_hex) (C := RX6) (T := TX6) (N := 5) hx hb hts (fun w h => List.mem_cons_of_mem _ (kc_X6 w h)) hown hK hP 1 rfl rfl 2 (by decide) (va_Nw.use rfl (hE.1 _ kw_135)) (fun _ h9 => h9) rfl dX0_comesAhead_29 ?_
    refine lv_iload_n hx hb dX0_comesAhead_32 rfl (lv_at hl 4 rfl) ?_
    refine lv_iload hx hb dX0_comesAhead_33 (lv_at hl 5 rfl) ?_
    obtain ⟨q35, hq35, hf⟩ := ds_ob hf
    refine ds_calli (wr := [(h_o, .inr (0, [.ref h_o_seen, .ref h_o_turned, .ref h_o_found, .int o_looked, .int o_stepsFound, .int o_firstX, .int o_firstY, .int o_secondX, .int o_secondY])), (h_o_seen, .inr (5, [.int o_seen_wide, .int o_seen_high, .int o_seen_hex, .long o_seen_ones, .long o_seen_twos]))]) (va_runS (As := [.int o_seen_hex, .int p3, .int p4]) (rest := []) ⟨hx, hb, hml, hown, hts⟩ (c_X1_lengthOf l dC dI ca sa  H.size  o_seen_hex p3 p4 q35 hq35) (va_cwS 3 hts (ds_gS kw_199 kw_200 kw_2 kw_201) rfl rfl rfl (by decide +kernel) ⟨Nat.le_of_ble_eq_true rfl, Nat.le_of_ble_eq_true rfl⟩) ⟨ds_blind, ds_at hP hD hK hE hS hA [] rfl rfl _⟩ rfl rfl hl.1 rfl (lv_room (Nat.le_of_ble_eq_true rfl)) dX0_comesAhead_35 ⟨Nat.zero_le _, Nat.zero_le _⟩) hP hD hS hA [] [0, 1] rfl rfl rfl (by decide) (fun H locs hP hD hS => ?_)
    have hP : va_P (dC, dI) vwCl [(h_o, .inr (0, [.ref h_o_seen, .ref h_o_turned, .ref h_o_found, .int o_looked, .int o_stepsFound, .int o_firstX, .int o_firstY, .int o_secondX, .int o_secondY])), (h_o_seen, .inr (5, [.int o_seen_wide, .int o_seen_high, .int o_seen_hex, .long o_seen_ones, .long o_seen_twos]))] H := hP
    have hD : va_D A [(h_o, .inr (0, [.ref h_o_seen, .ref h_o_turned, .ref h_o_found, .int o_looked, .int o_stepsFound, .int o_firstX, .int o_firstY, .int o_secondX, .int o_secondY])), (h_o_seen, .inr (5, [.int o_seen_wide, .int o_seen_high, .int o_seen_hex, .long o_seen_ones, .long o_seen_twos]))] := hD
    refine lv_istore (lv' := [(6, .int q35), (5, .int q20), (0, .ref h_o), (1, .int p1), (2, .int p2), (3, .int p3), (4, .int p4)]) hx hb dX0_comesAhead_38 hl (by decide) rfl (fun ls hl => ?_)
    refine lv_iload hx hb dX0_comesAhead_40 (lv_at hl 1 rfl) ?_
    refine lv_iload hx hb dX0_comesAhead_42 (lv_at hl 0 rfl) ?_
    refine lv_icmp_eq (tgt := 60) hx hb dX0_comesAhead_44 (by decide) (fun c_44 => ?_) (fun c_44 => ?_)
    · replace hf := ds_t c_44 hf
      refine lv_iload_n hx hb dX0_comesAhead_60 rfl (lv_at hl 3 rfl) ?_
      refine lv_iload_n hx hb dX0_comesAhead_61 rfl (lv_at hl 5 rfl) ?_
      refine lv_icmp_eq (tgt := 78) hx hb dX0_comesAhead_62 (by decide) (fun c_62 => ?_) (fun c_62 => ?_)
      · replace hf := ds_t c_62 hf
        refine lv_iload_n hx hb dX0_comesAhead_78 rfl (lv_at hl 4 rfl) ?_
        refine lv_iload hx hb dX0_comesAhead_79 (lv_at hl 6 rfl) ?_
        refine lv_icmp_le (tgt := 88) hx hb dX0_comesAhead_81 (by decide) (fun c_81 => ?_) (fun c_81 => ?_)
        · replace hf := ds_t c_81 hf
          refine lv_iconst (v := 0) hx hb dX0_comesAhead_88 (by decide) ?_
          have hf := Option.some.inj hf
          subst hf
          rw [eG0] at hG
          have hG : _ = res := hG
          subst hG
          exact W.zret (v := (0 : Int32)) (ty := .boolean) hx hb hr rfl (fun t ht hW => ⟨⟨(0 : Int32), (), rfl, rfl, by rw [ht]; exact hP, hD⟩, hS.F ht⟩) hS.2.2 dX0_comesAhead_89
        · replace hf := ds_f c_81 hf
          refine lv_iconst (v := 1) hx hb dX0_comesAhead_84 (by decide) ?_
          refine lv_goto (tgt := 89) hx hb dX0_comesAhead_85 (by decide) ?_
          have hf := Option.some.inj hf
          subst hf
          rw [eG0] at hG
          have hG : _ = res := hG
          subst hG
          exact W.zret (v := (1 : Int32)) (ty := .boolean) hx hb hr rfl (fun t ht hW => ⟨⟨(1 : Int32), (), rfl, rfl, by rw [ht]; exact hP, hD⟩, hS.F ht⟩) hS.2.2 dX0_comesAhead_89
      · replace hf := ds_f c_62 hf
        refine lv_iload_n hx hb dX0_comesAhead_65 rfl (lv_at hl 3 rfl) ?_
        refine lv_iload_n hx hb dX0_comesAhead_66 rfl (lv_at hl 5 rfl) ?_
        refine lv_icmp_le (tgt := 74) hx hb dX0_comesAhead_67 (by decide) (fun c_67 => ?_) (fun c_67 => ?_)
        · replace hf := ds_t c_67 hf
          refine lv_iconst (v := 0) hx hb dX0_comesAhead_74 (by decide) ?_
          refine lv_goto (tgt := 89) hx hb dX0_comesAhead_75 (by decide) ?_
          have hf := Option.some.inj hf
          subst hf
          rw [eG0] at hG
          have hG : _ = res := hG
          subst hG
          exact W.zret (v := (0 : Int32)) (ty := .boolean) hx hb hr rfl (fun t ht hW => ⟨⟨(0 : Int32), (), rfl, rfl, by rw [ht]; exact hP, hD⟩, hS.F ht⟩) hS.2.2 dX0_comesAhead_89
        · replace hf := ds_f c_67 hf
          refine lv_iconst (v := 1) hx hb dX0_comesAhead_70 (by decide) ?_
          refine lv_goto (tgt := 89) hx hb dX0_comesAhead_71 (by decide) ?_
          have hf := Option.some.inj hf
          subst hf
          rw [eG0] at hG
          have hG : _ = res := hG
          subst hG
          exact W.zret (v := (1 : Int32)) (ty := .boolean) hx hb hr rfl (fun t ht hW => ⟨⟨(1 : Int32), (), rfl, rfl, by rw [ht]; exact hP, hD⟩, hS.F ht⟩) hS.2.2 dX0_comesAhead_89
    · replace hf := ds_f c_44 hf
      refine lv_iload hx hb dX0_comesAhead_47 (lv_at hl 1 rfl) ?_
      refine lv_iload hx hb dX0_comesAhead_49 (lv_at hl 0 rfl) ?_
      refine lv_icmp_ge (tgt := 58) hx hb dX0_comesAhead_51 (by decide) (fun c_51 => ?_) (fun c_51 => ?_)
      · replace hf := ds_t c_51 hf
        refine lv_iconst (v := 0) hx hb dX0_comesAhead_58 (by decide) ?_
        have hf := Option.some.inj hf
        subst hf
        rw [eG0] at hG
        have hG : _ = res := hG
        subst hG
        exact W.zret (v := (0 : Int32)) (ty := .boolean) hx hb hr rfl (fun t ht hW => ⟨⟨(0 : Int32), (), rfl, rfl, by rw [ht]; exact hP, hD⟩, hS.F ht⟩) hS.2.2 dX0_comesAhead_59
      · replace hf := ds_f c_51 hf
        refine lv_iconst (v := 1) hx hb dX0_comesAhead_54 (by decide) ?_
        refine lv_goto (tgt := 59) hx hb dX0_comesAhead_55 (by decide) ?_
        have hf := Option.some.inj hf
        subst hf
        rw [eG0] at hG
        have hG : _ = res := hG
        subst hG
        exact W.zret (v := (1 : Int32)) (ty := .boolean) hx hb hr rfl (fun t ht hW => ⟨⟨(1 : Int32), (), rfl, rfl, by rw [ht]; exact hP, hD⟩, hS.F ht⟩) hS.2.2 dX0_comesAhead_59
  unfold fX0_comesAhead at hf
  refine lv_iload_n hx hb dX0_comesAhead_0 rfl (lv_at hl 3 rfl) ?_
  refine lv_if_ne (tgt := 11) hx hb dX0_comesAhead_1 (by decide) (fun c_1 => ?_) (fun c_1 => ?_)
  · replace hf := ds_f c_1 hf
    exact h1 (J_11  _ hf hG _ _ hP hD hS _ (lv_sub hl [0, 1, 2, 3, 4] rfl))
  · replace hf := ds_t c_1 hf
    refine lv_iload hx hb dX0_comesAhead_4 (lv_at hl 4 rfl) ?_
    refine lv_if_ne (tgt := 11) hx hb dX0_comesAhead_6 (by decide) (fun c_6 => ?_) (fun c_6 => ?_)
    · replace hf := ds_f c_6 hf
      exact h1 (J_11  _ hf hG _ _ hP hD hS _ (lv_sub hl [0, 1, 2, 3, 4] rfl))
    · replace hf := ds_t c_6 hf
      refine lv_iconst (v := 1) hx hb dX0_comesAhead_9 (by decide) ?_
      have hf := Option.some.inj hf
      subst hf
      rw [eG0] at hG
      have hG : _ = res := hG
      subst hG
      exact W.zret (v := (1 : Int32)) (ty := .boolean) hx hb hr rfl (fun t ht hW => ⟨⟨(1 : Int32), (), rfl, rfl, by rw [ht]; exact hP, hD⟩, hS.F ht⟩) hS.2.2 dX0_comesAhead_10
theorem dX0_findSteps_0 : decode cX0_findSteps 0 = .ok (.aload_n 0, 1) := by decide +kernel
theorem dX0_findSteps_1 : decode cX0_findSteps 1 = .ok (.getfield 54, 3) := by decide +kernel
theorem dX0_findSteps_4 : decode cX0_findSteps 4 = .ok (.ifCond .eq 4, 3) := by decide +kernel
theorem dX0_findSteps_7 : decode cX0_findSteps 7 = .ok (.return_, 1) := by decide +kernel
theorem dX0_findSteps_8 : decode cX0_findSteps 8 = .ok (.aload_n 0, 1) := by decide +kernel
theorem dX0_findSteps_9 : decode cX0_findSteps 9 = .ok (.iconst 0, 1) := by decide +kernel
theorem dX0_findSteps_10 : decode cX0_findSteps 10 = .ok (.putfield 123, 3) := by decide +kernel
theorem dX0_findSteps_13 : decode cX0_findSteps 13 = .ok (.aload_n 0, 1) := by decide +kernel
theorem dX0_findSteps_14 : decode cX0_findSteps 14 = .ok (.iconst 0, 1) := by decide +kernel
theorem dX0_findSteps_15 : decode cX0_findSteps 15 = .ok (.putfield 127, 3) := by decide +kernel
theorem dX0_findSteps_18 : decode cX0_findSteps 18 = .ok (.aload_n 0, 1) := by decide +kernel
theorem dX0_findSteps_19 : decode cX0_findSteps 19 = .ok (.iconst 0, 1) := by decide +kernel
theorem dX0_findSteps_20 : decode cX0_findSteps 20 = .ok (.putfield 133, 3) := by decide +kernel
theorem dX0_findSteps_23 : decode cX0_findSteps 23 = .ok (.aload_n 0, 1) := by decide +kernel
theorem dX0_findSteps_24 : decode cX0_findSteps 24 = .ok (.iconst 0, 1) := by decide +kernel
theorem dX0_findSteps_25 : decode cX0_findSteps 25 = .ok (.putfield 136, 3) := by decide +kernel
theorem dX0_findSteps_28 : decode cX0_findSteps 28 = .ok (.bipush (-9), 2) := by decide +kernel
theorem dX0_findSteps_30 : decode cX0_findSteps 30 = .ok (.istore_n 1, 1) := by decide +kernel
theorem dX0_findSteps_31 : decode cX0_findSteps 31 = .ok (.iload_n 1, 1) := by decide +kernel
theorem dX0_findSteps_32 : decode cX0_findSteps 32 = .ok (.bipush 9, 2) := by decide +kernel
theorem dX0_findSteps_34 : decode cX0_findSteps 34 = .ok (.if_icmp .gt 69, 3) := by decide +kernel
theorem dX0_findSteps_37 : decode cX0_findSteps 37 = .ok (.bipush (-9), 2) := by decide +kernel
theorem dX0_findSteps_39 : decode cX0_findSteps 39 = .ok (.istore_n 2, 1) := by decide +kernel
theorem dX0_findSteps_40 : decode cX0_findSteps 40 = .ok (.iload_n 2, 1) := by decide +kernel
theorem dX0_findSteps_41 : decode cX0_findSteps 41 = .ok (.bipush 9, 2) := by decide +kernel
theorem dX0_findSteps_43 : decode cX0_findSteps 43 = .ok (.if_icmp .gt 54, 3) := by decide +kernel
theorem dX0_findSteps_46 : decode cX0_findSteps 46 = .ok (.iload_n 2, 1) := by decide +kernel
theorem dX0_findSteps_47 : decode cX0_findSteps 47 = .ok (.ifCond .ne 7, 3) := by decide +kernel
theorem dX0_findSteps_50 : decode cX0_findSteps 50 = .ok (.iload_n 1, 1) := by decide +kernel
theorem dX0_findSteps_51 : decode cX0_findSteps 51 = .ok (.ifCond .eq 40, 3) := by decide +kernel
theorem dX0_findSteps_54 : decode cX0_findSteps 54 = .ok (.aload_n 0, 1) := by decide +kernel
theorem dX0_findSteps_55 : decode cX0_findSteps 55 = .ok (.iload_n 2, 1) := by decide +kernel
theorem dX0_findSteps_56 : decode cX0_findSteps 56 = .ok (.iload_n 1, 1) := by decide +kernel
theorem dX0_findSteps_57 : decode cX0_findSteps 57 = .ok (.aload_n 0, 1) := by decide +kernel
theorem dX0_findSteps_58 : decode cX0_findSteps 58 = .ok (.getfield 123, 3) := by decide +kernel
theorem dX0_findSteps_61 : decode cX0_findSteps 61 = .ok (.aload_n 0, 1) := by decide +kernel
theorem dX0_findSteps_62 : decode cX0_findSteps 62 = .ok (.getfield 127, 3) := by decide +kernel
theorem dX0_findSteps_65 : decode cX0_findSteps 65 = .ok (.invokevirtual 146, 3) := by decide +kernel
theorem dX0_findSteps_68 : decode cX0_findSteps 68 = .ok (.ifCond .eq 23, 3) := by decide +kernel
theorem dX0_findSteps_71 : decode cX0_findSteps 71 = .ok (.aload_n 0, 1) := by decide +kernel
theorem dX0_findSteps_72 : decode cX0_findSteps 72 = .ok (.iconst 0, 1) := by decide +kernel
theorem dX0_findSteps_73 : decode cX0_findSteps 73 = .ok (.iload_n 2, 1) := by decide +kernel
theorem dX0_findSteps_74 : decode cX0_findSteps 74 = .ok (.iload_n 1, 1) := by decide +kernel
theorem dX0_findSteps_75 : decode cX0_findSteps 75 = .ok (.invokevirtual 119, 3) := by decide +kernel
theorem dX0_findSteps_78 : decode cX0_findSteps 78 = .ok (.ifCond .eq 13, 3) := by decide +kernel
theorem dX0_findSteps_81 : decode cX0_findSteps 81 = .ok (.aload_n 0, 1) := by decide +kernel
theorem dX0_findSteps_82 : decode cX0_findSteps 82 = .ok (.iload_n 2, 1) := by decide +kernel
theorem dX0_findSteps_83 : decode cX0_findSteps 83 = .ok (.putfield 123, 3) := by decide +kernel
theorem dX0_findSteps_86 : decode cX0_findSteps 86 = .ok (.aload_n 0, 1) := by decide +kernel
theorem dX0_findSteps_87 : decode cX0_findSteps 87 = .ok (.iload_n 1, 1) := by decide +kernel
theorem dX0_findSteps_88 : decode cX0_findSteps 88 = .ok (.putfield 127, 3) := by decide +kernel
theorem dX0_findSteps_91 : decode cX0_findSteps 91 = .ok (.iinc 2 1, 3) := by decide +kernel
theorem dX0_findSteps_94 : decode cX0_findSteps 94 = .ok (.goto (-54), 3) := by decide +kernel
theorem dX0_findSteps_97 : decode cX0_findSteps 97 = .ok (.iinc 1 1, 3) := by decide +kernel
theorem dX0_findSteps_100 : decode cX0_findSteps 100 = .ok (.goto (-69), 3) := by decide +kernel
theorem dX0_findSteps_103 : decode cX0_findSteps 103 = .ok (.bipush (-9), 2) := by decide +kernel
theorem dX0_findSteps_105 : decode cX0_findSteps 105 = .ok (.istore_n 1, 1) := by decide +kernel
theorem dX0_findSteps_106 : decode cX0_findSteps 106 = .ok (.iload_n 1, 1) := by decide +kernel
theorem dX0_findSteps_107 : decode cX0_findSteps 107 = .ok (.bipush 9, 2) := by decide +kernel
theorem dX0_findSteps_109 : decode cX0_findSteps 109 = .ok (.if_icmp .gt 76, 3) := by decide +kernel
theorem dX0_findSteps_112 : decode cX0_findSteps 112 = .ok (.bipush (-9), 2) := by decide +kernel
theorem dX0_findSteps_114 : decode cX0_findSteps 114 = .ok (.istore_n 2, 1) := by decide +kernel
theorem dX0_findSteps_115 : decode cX0_findSteps 115 = .ok (.iload_n 2, 1) := by decide +kernel
theorem dX0_findSteps_116 : decode cX0_findSteps 116 = .ok (.bipush 9, 2) := by decide +kernel
theorem dX0_findSteps_118 : decode cX0_findSteps 118 = .ok (.if_icmp .gt 61, 3) := by decide +kernel
theorem dX0_findSteps_121 : decode cX0_findSteps 121 = .ok (.iload_n 2, 1) := by decide +kernel
theorem dX0_findSteps_122 : decode cX0_findSteps 122 = .ok (.aload_n 0, 1) := by decide +kernel
theorem dX0_findSteps_123 : decode cX0_findSteps 123 = .ok (.getfield 127, 3) := by decide +kernel
theorem dX0_findSteps_126 : decode cX0_findSteps 126 = .ok (.imul, 1) := by decide +kernel
theorem dX0_findSteps_127 : decode cX0_findSteps 127 = .ok (.iload_n 1, 1) := by decide +kernel
theorem dX0_findSteps_128 : decode cX0_findSteps 128 = .ok (.aload_n 0, 1) := by decide +kernel
theorem dX0_findSteps_129 : decode cX0_findSteps 129 = .ok (.getfield 123, 3) := by decide +kernel
theorem dX0_findSteps_132 : decode cX0_findSteps 132 = .ok (.imul, 1) := by decide +kernel
theorem dX0_findSteps_133 : decode cX0_findSteps 133 = .ok (.if_icmp .eq 40, 3) := by decide +kernel
theorem dX0_findSteps_136 : decode cX0_findSteps 136 = .ok (.aload_n 0, 1) := by decide +kernel
theorem dX0_findSteps_137 : decode cX0_findSteps 137 = .ok (.iload_n 2, 1) := by decide +kernel
theorem dX0_findSteps_138 : decode cX0_findSteps 138 = .ok (.iload_n 1, 1) := by decide +kernel
theorem dX0_findSteps_139 : decode cX0_findSteps 139 = .ok (.aload_n 0, 1) := by decide +kernel
theorem dX0_findSteps_140 : decode cX0_findSteps 140 = .ok (.getfield 133, 3) := by decide +kernel
theorem dX0_findSteps_143 : decode cX0_findSteps 143 = .ok (.aload_n 0, 1) := by decide +kernel
theorem dX0_findSteps_144 : decode cX0_findSteps 144 = .ok (.getfield 136, 3) := by decide +kernel
theorem dX0_findSteps_147 : decode cX0_findSteps 147 = .ok (.invokevirtual 146, 3) := by decide +kernel
theorem dX0_findSteps_150 : decode cX0_findSteps 150 = .ok (.ifCond .eq 23, 3) := by decide +kernel
theorem dX0_findSteps_153 : decode cX0_findSteps 153 = .ok (.aload_n 0, 1) := by decide +kernel
theorem dX0_findSteps_154 : decode cX0_findSteps 154 = .ok (.iconst 0, 1) := by decide +kernel
theorem dX0_findSteps_155 : decode cX0_findSteps 155 = .ok (.iload_n 2, 1) := by decide +kernel
theorem dX0_findSteps_156 : decode cX0_findSteps 156 = .ok (.iload_n 1, 1) := by decide +kernel
theorem dX0_findSteps_157 : decode cX0_findSteps 157 = .ok (.invokevirtual 119, 3) := by decide +kernel
theorem dX0_findSteps_160 : decode cX0_findSteps 160 = .ok (.ifCond .eq 13, 3) := by decide +kernel
theorem dX0_findSteps_163 : decode cX0_findSteps 163 = .ok (.aload_n 0, 1) := by decide +kernel
theorem dX0_findSteps_164 : decode cX0_findSteps 164 = .ok (.iload_n 2, 1) := by decide +kernel
theorem dX0_findSteps_165 : decode cX0_findSteps 165 = .ok (.putfield 133, 3) := by decide +kernel
theorem dX0_findSteps_168 : decode cX0_findSteps 168 = .ok (.aload_n 0, 1) := by decide +kernel
theorem dX0_findSteps_169 : decode cX0_findSteps 169 = .ok (.iload_n 1, 1) := by decide +kernel
theorem dX0_findSteps_170 : decode cX0_findSteps 170 = .ok (.putfield 136, 3) := by decide +kernel
theorem dX0_findSteps_173 : decode cX0_findSteps 173 = .ok (.iinc 2 1, 3) := by decide +kernel
theorem dX0_findSteps_176 : decode cX0_findSteps 176 = .ok (.goto (-61), 3) := by decide +kernel
theorem dX0_findSteps_179 : decode cX0_findSteps 179 = .ok (.iinc 1 1, 3) := by decide +kernel
theorem dX0_findSteps_182 : decode cX0_findSteps 182 = .ok (.goto (-76), 3) := by decide +kernel
theorem dX0_findSteps_185 : decode cX0_findSteps 185 = .ok (.aload_n 0, 1) := by decide +kernel
theorem dX0_findSteps_186 : decode cX0_findSteps 186 = .ok (.iconst 1, 1) := by decide +kernel
theorem dX0_findSteps_187 : decode cX0_findSteps 187 = .ok (.putfield 54, 3) := by decide +kernel
theorem dX0_findSteps_190 : decode cX0_findSteps 190 = .ok (.return_, 1) := by decide +kernel
def fX0_findSteps_185 (o_firstX : Int32) (o_firstY : Int32) (o_secondX : Int32) (o_secondY : Int32) : Option (Int32 × Int32 × Int32 × Int32 × Int32) :=
  some ((1 : Int32), o_firstX, o_firstY, o_secondX, o_secondY)
def fX0_findSteps_179 (o_secondX : Int32) (o_secondY : Int32) (v1 : Int32) : Option ((Int32 × Int32 × Int32) ⊕ (Int32 × Int32 × Int32 × Int32 × Int32)) :=
  some (.inl ((v1 + 1), o_secondX, o_secondY))
def fX0_findSteps_173 (o_secondX : Int32) (o_secondY : Int32) (v2 : Int32) : Option ((Int32 × Int32 × Int32) ⊕ ((Int32 × Int32 × Int32) ⊕ (Int32 × Int32 × Int32 × Int32 × Int32))) :=
  some (.inl ((v2 + 1), o_secondX, o_secondY))
def fX0_findSteps_115_b (o_firstX : Int32) (o_firstY : Int32) (o_seen_wide : Int32) (o_seen_high : Int32) (o_seen_hex : Int32) (o_found_r : Nat → Int64) (v1 : Int32) (v2 : Int32) (o_secondX : Int32) (o_secondY : Int32) : Option ((Int32 × Int32 × Int32) ⊕ ((Int32 × Int32 × Int32) ⊕ (Int32 × Int32 × Int32 × Int32 × Int32))) :=
  if (9 : Int32) < v2 then Option.bind (fX0_findSteps_179 o_secondX o_secondY v1) fun z => some (.inr z) else if (v2 * o_firstY) = (v1 * o_firstX) then fX0_findSteps_173 o_secondX o_secondY v2 else Option.bind (fX0_comesAhead o_seen_hex v2 v1 o_secondX o_secondY) fun q147 => if q147 = 0 then fX0_findSteps_173 o_secondX o_secondY v2 else Option.bind (fX0_hasSymmetry o_found_r o_seen_wide o_seen_high (0 : Int32) v2 v1) fun q157 => if q157 = 0 then fX0_findSteps_173 o_secondX o_secondY v2 else fX0_findSteps_173 v2 v1 v2
def fX0_findSteps_115 (o_firstX : Int32) (o_firstY : Int32) (o_seen_wide : Int32) (o_seen_high : Int32) (o_seen_hex : Int32) (o_found_r : Nat → Int64) (v1 : Int32) (v2 : Int32) (o_secondX : Int32) (o_secondY : Int32) : Option ((Int32 × Int32 × Int32) ⊕ (Int32 × Int32 × Int32 × Int32 × Int32)) := ds_it (fun s => fX0_findSteps_115_b o_firstX o_firstY o_seen_wide o_seen_high o_seen_hex o_found_r v1 s.1 s.2.1 s.2.2) 1000 (v2, o_secondX, o_secondY)
def fX0_findSteps_106_b (o_firstX : Int32) (o_firstY : Int32) (o_seen_wide : Int32) (o_seen_high : Int32) (o_seen_hex : Int32) (o_found_r : Nat → Int64) (v1 : Int32) (o_secondX : Int32) (o_secondY : Int32) : Option ((Int32 × Int32 × Int32) ⊕ (Int32 × Int32 × Int32 × Int32 × Int32)) :=
  if (9 : Int32) < v1 then Option.bind (fX0_findSteps_185 o_firstX o_firstY o_secondX o_secondY) fun z => some (.inr z) else fX0_findSteps_115 o_firstX o_firstY o_seen_wide o_seen_high o_seen_hex o_found_r v1 (-9 : Int32) o_secondX o_secondY
def fX0_findSteps_106 (o_firstX : Int32) (o_firstY : Int32) (o_seen_wide : Int32) (o_seen_high : Int32) (o_seen_hex : Int32) (o_found_r : Nat → Int64) (v1 : Int32) (o_secondX : Int32) (o_secondY : Int32) : Option (Int32 × Int32 × Int32 × Int32 × Int32) := ds_it (fun s => fX0_findSteps_106_b o_firstX o_firstY o_seen_wide o_seen_high o_seen_hex o_found_r s.1 s.2.1 s.2.2) 1000 (v1, o_secondX, o_secondY)
def fX0_findSteps_103 (o_firstX : Int32) (o_firstY : Int32) (o_secondX : Int32) (o_secondY : Int32) (o_seen_wide : Int32) (o_seen_high : Int32) (o_seen_hex : Int32) (o_found_r : Nat → Int64) : Option (Int32 × Int32 × Int32 × Int32 × Int32) :=
  fX0_findSteps_106 o_firstX o_firstY o_seen_wide o_seen_high o_seen_hex o_found_r (-9 : Int32) o_secondX o_secondY
def fX0_findSteps_97 (o_firstX : Int32) (o_firstY : Int32) (v1 : Int32) : Option ((Int32 × Int32 × Int32) ⊕ (Int32 × Int32 × Int32 × Int32 × Int32)) :=
  some (.inl ((v1 + 1), o_firstX, o_firstY))
def fX0_findSteps_91 (o_firstX : Int32) (o_firstY : Int32) (v2 : Int32) : Option ((Int32 × Int32 × Int32) ⊕ ((Int32 × Int32 × Int32) ⊕ (Int32 × Int32 × Int32 × Int32 × Int32))) :=
  some (.inl ((v2 + 1), o_firstX, o_firstY))
def fX0_findSteps_54 (o_firstX : Int32) (o_firstY : Int32) (o_seen_wide : Int32) (o_seen_high : Int32) (o_seen_hex : Int32) (o_found_r : Nat → Int64) (v1 : Int32) (v2 : Int32) : Option ((Int32 × Int32 × Int32) ⊕ ((Int32 × Int32 × Int32) ⊕ (Int32 × Int32 × Int32 × Int32 × Int32))) :=
  Option.bind (fX0_comesAhead o_seen_hex v2 v1 o_firstX o_firstY) fun q65 => if q65 = 0 then fX0_findSteps_91 o_firstX o_firstY v2 else Option.bind (fX0_hasSymmetry o_found_r o_seen_wide o_seen_high (0 : Int32) v2 v1) fun q75 => if q75 = 0 then fX0_findSteps_91 o_firstX o_firstY v2 else fX0_findSteps_91 v2 v1 v2
def fX0_findSteps_40_b (o_seen_wide : Int32) (o_seen_high : Int32) (o_seen_hex : Int32) (o_found_r : Nat → Int64) (v1 : Int32) (v2 : Int32) (o_firstX : Int32) (o_firstY : Int32) : Option ((Int32 × Int32 × Int32) ⊕ ((Int32 × Int32 × Int32) ⊕ (Int32 × Int32 × Int32 × Int32 × Int32))) :=
  if (9 : Int32) < v2 then Option.bind (fX0_findSteps_97 o_firstX o_firstY v1) fun z => some (.inr z) else if v2 = 0 then if v1 = 0 then fX0_findSteps_91 o_firstX o_firstY v2 else fX0_findSteps_54 o_firstX o_firstY o_seen_wide o_seen_high o_seen_hex o_found_r v1 v2 else fX0_findSteps_54 o_firstX o_firstY o_seen_wide o_seen_high o_seen_hex o_found_r v1 v2
def fX0_findSteps_40 (o_seen_wide : Int32) (o_seen_high : Int32) (o_seen_hex : Int32) (o_found_r : Nat → Int64) (v1 : Int32) (v2 : Int32) (o_firstX : Int32) (o_firstY : Int32) : Option ((Int32 × Int32 × Int32) ⊕ (Int32 × Int32 × Int32 × Int32 × Int32)) := ds_it (fun s => fX0_findSteps_40_b o_seen_wide o_seen_high o_seen_hex o_found_r v1 s.1 s.2.1 s.2.2) 1000 (v2, o_firstX, o_firstY)
def fX0_findSteps_31_b (o_secondX : Int32) (o_secondY : Int32) (o_seen_wide : Int32) (o_seen_high : Int32) (o_seen_hex : Int32) (o_found_r : Nat → Int64) (v1 : Int32) (o_firstX : Int32) (o_firstY : Int32) : Option ((Int32 × Int32 × Int32) ⊕ (Int32 × Int32 × Int32 × Int32 × Int32)) :=
  if (9 : Int32) < v1 then Option.bind (fX0_findSteps_103 o_firstX o_firstY o_secondX o_secondY o_seen_wide o_seen_high o_seen_hex o_found_r) fun z => some (.inr z) else fX0_findSteps_40 o_seen_wide o_seen_high o_seen_hex o_found_r v1 (-9 : Int32) o_firstX o_firstY
def fX0_findSteps_31 (o_secondX : Int32) (o_secondY : Int32) (o_seen_wide : Int32) (o_seen_high : Int32) (o_seen_hex : Int32) (o_found_r : Nat → Int64) (v1 : Int32) (o_firstX : Int32) (o_firstY : Int32) : Option (Int32 × Int32 × Int32 × Int32 × Int32) := ds_it (fun s => fX0_findSteps_31_b o_secondX o_secondY o_seen_wide o_seen_high o_seen_hex o_found_r s.1 s.2.1 s.2.2) 1000 (v1, o_firstX, o_firstY)
def fX0_findSteps (o_stepsFound : Int32) (o_firstX : Int32) (o_firstY : Int32) (o_secondX : Int32) (o_secondY : Int32) (o_seen_wide : Int32) (o_seen_high : Int32) (o_seen_hex : Int32) (o_found_r : Nat → Int64) : Option (Int32 × Int32 × Int32 × Int32 × Int32) :=
  if o_stepsFound = 0 then fX0_findSteps_31 (0 : Int32) (0 : Int32) o_seen_wide o_seen_high o_seen_hex o_found_r (-9 : Int32) (0 : Int32) (0 : Int32) else some (o_stepsFound, o_firstX, o_firstY, o_secondX, o_secondY)
set_option maxHeartbeats 4000000 in
set_option maxRecDepth 100000 in
theorem c_X0_findSteps (l : Launch) (dC : Nat → ClassId) (dI : Nat → Nat → Nat) (ca : Nat → ClassId) (sa : Nat → Nat) (h_o : Nat) (h_o_seen : Nat) (h_o_turned : Nat) (h_o_found : Nat) (sz : Nat) (o_looked : Int32) (o_stepsFound : Int32) (o_firstX : Int32) (o_firstY : Int32) (o_secondX : Int32) (o_secondY : Int32) (o_seen_wide : Int32) (o_seen_high : Int32) (o_seen_hex : Int32) (o_seen_ones : Int64) (o_seen_twos : Int64) (o_found_r : Nat → Int64) (res : Int32 × Int32 × Int32 × Int32 × Int32) (hf : fX0_findSteps o_stepsFound o_firstX o_firstY o_secondX o_secondY o_seen_wide o_seen_high o_seen_hex o_found_r = some res) : Met l yX0_findSteps (Cond.code yX0_findSteps cX0_findSteps 3 none :: ds_gw) { frames := 3, cells := 0, slots := 0, locals := 67 } (va_Pc [.ref h_o] (ds_Pre dC dI ca sa [(h_o, .inr (0, [.ref h_o_seen, .ref h_o_turned, .ref h_o_found, .int o_looked, .int o_stepsFound, .int o_firstX, .int o_firstY, .int o_secondX, .int o_secondY])), (h_o_seen, .inr (5, [.int o_seen_wide, .int o_seen_high, .int o_seen_hex, .long o_seen_ones, .long o_seen_twos])), (h_o_found, .inl (ca 1, 12, .inr (.inl o_found_r)))] sz)) (va_Qv (fun (_ : Unit) => True) (ds_B dC dI (va_A [(h_o, .inr (0, [.ref h_o_seen, .ref h_o_turned, .ref h_o_found, .int o_looked, .int o_stepsFound, .int o_firstX, .int o_firstY, .int o_secondX, .int o_secondY])), (h_o_seen, .inr (5, [.int o_seen_wide, .int o_seen_high, .int o_seen_hex, .long o_seen_ones, .long o_seen_twos])), (h_o_found, .inl (ca 1, 12, .inr (.inl o_found_r)))] sz) [(h_o, .inr (0, [.ref h_o_seen, .ref h_o_turned, .ref h_o_found, .int o_looked, .int res.1, .int res.2.1, .int res.2.2.1, .int res.2.2.2.1, .int res.2.2.2.2])), (h_o_seen, .inr (5, [.int o_seen_wide, .int o_seen_high, .int o_seen_hex, .long o_seen_ones, .long o_seen_twos])), (h_o_found, .inl (ca 1, 12, .inr (.inl o_found_r)))]) (va_A [(h_o, .inr (0, [.ref h_o_seen, .ref h_o_turned, .ref h_o_found, .int o_looked, .int o_stepsFound, .int o_firstX, .int o_firstY, .int o_secondX, .int o_secondY])), (h_o_seen, .inr (5, [.int o_seen_wide, .int o_seen_high, .int o_seen_hex, .long o_seen_ones, .long o_seen_twos])), (h_o_found, .inl (ca 1, 12, .inr (.inl o_found_r)))] sz)) 0 0 (va_A [(h_o, .inr (0, [.ref h_o_seen, .ref h_o_turned, .ref h_o_found, .int o_looked, .int o_stepsFound, .int o_firstX, .int o_firstY, .int o_secondX, .int o_secondY])), (h_o_seen, .inr (5, [.int o_seen_wide, .int o_seen_high, .int o_seen_hex, .long o_seen_ones, .long o_seen_twos])), (h_o_found, .inl (ca 1, 12, .inr (.inl o_found_r)))] sz) := by
  refine Met.ofW (cc := cX0_findSteps) (maxL := 3) (ret := none) (by decide) rfl ?_
  intro p e s m args below meth c s₁ B hml hv
  obtain ⟨rfl, hsz, hP, hK, hD0, hE⟩ := hv
  have hx := B.exec
  have hb := B.bytes
  have hr := B.returns
  have hts := atoms_spec (ws := Cond.code yX0_findSteps cX0_findSteps 3 none :: ds_gw) B.pre
  have hg : ∀ {w : Cond}, w ∈ ds_gw → w.before _ s = true := fun h => hts _ (List.mem_cons_of_mem _ h)
  have hown : s.vm.findClass RX0 = some m.cls := findClass_of_methodNamed B.named
  have hlocks := B.notSynchronized
  subst hsz
  have hD := hD0.self (sz := s.heap.size)
  generalize hAe : va_A [(h_o, .inr (0, [.ref h_o_seen, .ref h_o_turned, .ref h_o_found, .int o_looked, .int o_stepsFound, .int o_firstX, .int o_firstY, .int o_secondX, .int o_secondY])), (h_o_seen, .inr (5, [.int o_seen_wide, .int o_seen_high, .int o_seen_hex, .long o_seen_ones, .long o_seen_twos])), (h_o_found, .inl (ca 1, 12, .inr (.inl o_found_r)))] s.heap.size = A at hD hE ⊢
  have hA : ∀ q : Nat, s.heap.size ≤ q → A q := fun q h => by rw [← hAe]; exact Or.inr h
  have hS : va_S A s.heap s.heap [] := va_S.rf
  have hl := lv_entry ([.ref h_o]) (n := 3) (Nat.le_of_ble_eq_true rfl)
  rw [lg_entry_eq]
  generalize (lg_sl ([.ref h_o]) ++ List.replicate (3 - (lg_sl ([.ref h_o])).length) Slot.unset).toArray = ls at hl ⊢
  have hl : lv_has ls 3 [(0, .ref h_o)] := hl
  obtain ⟨G0, eG0⟩ : ∃ G : (Int32 × Int32 × Int32 × Int32 × Int32) → Prop, G = (fun r => r = res) := ⟨_, rfl⟩
  obtain ⟨rr, hrr⟩ : ∃ z, z = res := ⟨_, rfl⟩
  rw [← hrr] at hf
  have hG : G0 rr := by subst eG0; exact hrr
  refine ds_cap (fun WW h1 h2 => ?_)
  have J_185 : ∀ (o_stepsFound : Int32) (o_firstX : Int32) (o_firstY : Int32) (o_secondX : Int32) (o_secondY : Int32) (rr : Int32 × Int32 × Int32 × Int32 × Int32) (hf : fX0_findSteps_185 o_firstX o_firstY o_secondX o_secondY = some rr) (hG : G0 rr) (H : Heap) (locs : List Loc) (hP : va_P (dC, dI) vwCl [(h_o, .inr (0, [.ref h_o_seen, .ref h_o_turned, .ref h_o_found, .int o_looked, .int o_stepsFound, .int o_firstX, .int o_firstY, .int o_secondX, .int o_secondY])), (h_o_seen, .inr (5, [.int o_seen_wide, .int o_seen_high, .int o_seen_hex, .long o_seen_ones, .long o_seen_twos])), (h_o_found, .inl (ca 1, 12, .inr (.inl o_found_r)))] H) (hD : va_D A [(h_o, .inr (0, [.ref h_o_seen, .ref h_o_turned, .ref h_o_found, .int o_looked, .int o_stepsFound, .int o_firstX, .int o_firstY, .int o_secondX, .int o_secondY])), (h_o_seen, .inr (5, [.int o_seen_wide, .int o_seen_high, .int o_seen_hex, .long o_seen_ones, .long o_seen_twos])), (h_o_found, .inl (ca 1, 12, .inr (.inl o_found_r)))]) (hS : va_S A s.heap H locs) (ls : Array Slot) (hl : lv_has ls 3 [(0, .ref h_o)]), WW H locs (F0 m 185 ls []) := by
    intro o_stepsFound o_firstX o_firstY o_secondX o_secondY rr hf hG H locs hP hD hS ls hl
    refine h2 ?_
    unfold fX0_findSteps_185 at hf
    refine lv_aload_n hx hb dX0_findSteps_185 rfl (lv_at hl 0 rfl) ?_
    refine lv_iconst (v := 1) hx hb dX0_findSteps_186 (by decide) ?_
    refine va_put (D := (dC, dI)) (ci := 0) (v := .int (1 : Int32)) (ty := tyX0 4) (C := RX0) (T := TX0) (N := 9) hx hb hts (fun w h => List.mem_cons_of_mem _ (kc_X0 w h)) tyX0 tyX0_ok nmX0 hown hK hP hD hS 0 rfl rfl 4 (by decide) (hg kw_127) (fun _ h9 => h9) rfl (by decide +kernel) rfl rfl (Nat.le_of_ble_eq_true rfl) dX0_findSteps_187 (fun H locs hP hD hS => ?_)
    have hP : va_P (dC, dI) vwCl [(h_o, .inr (0, [.ref h_o_seen, .ref h_o_turned, .ref h_o_found, .int o_looked, .int (1 : Int32), .int o_firstX, .int o_firstY, .int o_secondX, .int o_secondY])), (h_o_seen, .inr (5, [.int o_seen_wide, .int o_seen_high, .int o_seen_hex, .long o_seen_ones, .long o_seen_twos])), (h_o_found, .inl (ca 1, 12, .inr (.inl o_found_r)))] H := hP
    have hD : va_D A [(h_o, .inr (0, [.ref h_o_seen, .ref h_o_turned, .ref h_o_found, .int o_looked, .int (1 : Int32), .int o_firstX, .int o_firstY, .int o_secondX, .int o_secondY])), (h_o_seen, .inr (5, [.int o_seen_wide, .int o_seen_high, .int o_seen_hex, .long o_seen_ones, .long o_seen_twos])), (h_o_found, .inl (ca 1, 12, .inr (.inl o_found_r)))] := hD
    have hf := Option.some.inj hf
    subst hf
    rw [eG0] at hG
    have hG : _ = res := hG
    subst hG
    exact W.vret hx hb hr (fun t ht hW => ⟨⟨(), rfl, trivial, by rw [ht]; exact hP, hD⟩, hS.F ht⟩) hS.2.2 dX0_findSteps_190
  have J_106 : ∀ (o_stepsFound : Int32) (o_firstX : Int32) (o_firstY : Int32) (n : Nat) (v1 : Int32) (o_secondX : Int32) (o_secondY : Int32) (rr : Int32 × Int32 × Int32 × Int32 × Int32) (hf : ds_it (fun s => fX0_findSteps_106_b o_firstX o_firstY o_seen_wide o_seen_high o_seen_hex o_found_r s.1 s.2.1 s.2.2) n (v1, o_secondX, o_secondY) = some rr) (hG : G0 rr) (H : Heap) (locs : List Loc) (hP : va_P (dC, dI) vwCl [(h_o, .inr (0, [.ref h_o_seen, .ref h_o_turned, .ref h_o_found, .int o_looked, .int o_stepsFound, .int o_firstX, .int o_firstY, .int o_secondX, .int o_secondY])), (h_o_seen, .inr (5, [.int o_seen_wide, .int o_seen_high, .int o_seen_hex, .long o_seen_ones, .long o_seen_twos])), (h_o_found, .inl (ca 1, 12, .inr (.inl o_found_r)))] H) (hD : va_D A [(h_o, .inr (0, [.ref h_o_seen, .ref h_o_turned, .ref h_o_found, .int o_looked, .int o_stepsFound, .int o_firstX, .int o_firstY, .int o_secondX, .int o_secondY])), (h_o_seen, .inr (5, [.int o_seen_wide, .int o_seen_high, .int o_seen_hex, .long o_seen_ones, .long o_seen_twos])), (h_o_found, .inl (ca 1, 12, .inr (.inl o_found_r)))]) (hS : va_S A s.heap H locs) (ls : Array Slot) (hl : lv_has ls 3 [(0, .ref h_o), (1, .int v1)]), WW H locs (F0 m 106 ls []) := by
    intro o_stepsFound o_firstX o_firstY n
    induction n with
    | zero => intro v1 o_secondX o_secondY rr hf; exact (ds_it_zero hf).elim
    | succ n ih106 =>
      intro v1 o_secondX o_secondY rr hf hG H locs hP hD hS ls hl
      refine h2 ?_
      obtain ⟨rr, hf, hG⟩ := ds_it_succ hf hG
      replace hf : fX0_findSteps_106_b o_firstX o_firstY o_seen_wide o_seen_high o_seen_hex o_found_r v1 o_secondX o_secondY = some rr := hf
      obtain ⟨G1, eG1⟩ : ∃ G : ((Int32 × Int32 × Int32) ⊕ (Int32 × Int32 × Int32 × Int32 × Int32)) → Prop, G = ds_G (fun s' => ∃ r', ds_it (fun s => fX0_findSteps_106_b o_firstX o_firstY o_seen_wide o_seen_high o_seen_hex o_found_r s.1 s.2.1 s.2.2) n s' = some r' ∧ G0 r') G0 := ⟨_, rfl⟩
      rw [← eG1] at hG
      have J_179 : ∀ (v1 : Int32) (o_secondX : Int32) (o_secondY : Int32) (rr : (Int32 × Int32 × Int32) ⊕ (Int32 × Int32 × Int32 × Int32 × Int32)) (hf : fX0_findSteps_179 o_secondX o_secondY v1 = some rr) (hG : G1 rr) (H : Heap) (locs : List Loc) (hP : va_P (dC, dI) vwCl [(h_o, .inr (0, [.ref h_o_seen, .ref h_o_turned, .ref h_o_found, .int o_looked, .int o_stepsFound, .int o_firstX, .int o_firstY, .int o_secondX, .int o_secondY])), (h_o_seen, .inr (5, [.int o_seen_wide, .int o_seen_high, .int o_seen_hex, .long o_seen_ones, .long o_seen_twos])), (h_o_found, .inl (ca 1, 12, .inr (.inl o_found_r)))] H) (hD : va_D A [(h_o, .inr (0, [.ref h_o_seen, .ref h_o_turned, .ref h_o_found, .int o_looked, .int o_stepsFound, .int o_firstX, .int o_firstY, .int o_secondX, .int o_secondY])), (h_o_seen, .inr (5, [.int o_seen_wide, .int o_seen_high, .int o_seen_hex, .long o_seen_ones, .long o_seen_twos])), (h_o_found, .inl (ca 1, 12, .inr (.inl o_found_r)))]) (hS : va_S A s.heap H locs) (ls : Array Slot) (hl : lv_has ls 3 [(0, .ref h_o), (1, .int v1)]), WW H locs (F0 m 179 ls []) := by
        intro v1 o_secondX o_secondY rr hf hG H locs hP hD hS ls hl
        refine h2 ?_
        unfold fX0_findSteps_179 at hf
        refine lv_iinc (v := (v1 + 1)) (lv' := [(1, .int (v1 + 1)), (0, .ref h_o)]) hx hb dX0_findSteps_179 hl (k := 1) rfl rfl (by decide) rfl (fun ls hl => ?_)
        refine lv_goto (tgt := 106) hx hb dX0_findSteps_182 (by decide) ?_
        have hf := Option.some.inj hf
        subst hf
        rw [eG1] at hG
        obtain ⟨rr, hf, hG⟩ := hG
        exact h1 (ih106 (v1 + 1) o_secondX o_secondY rr hf hG _ _ hP hD hS _ (lv_sub hl [1, 0] rfl))
      have J_115 : ∀ (v1 : Int32) (n : Nat) (v2 : Int32) (o_secondX : Int32) (o_secondY : Int32) (rr : (Int32 × Int32 × Int32) ⊕ (Int32 × Int32 × Int32 × Int32 × Int32)) (hf : ds_it (fun s => fX0_findSteps_115_b o_firstX o_firstY o_seen_wide o_seen_high o_seen_hex o_found_r v1 s.1 s.2.1 s.2.2) n (v2, o_secondX, o_secondY) = some rr) (hG : G1 rr) (H : Heap) (locs : List Loc) (hP : va_P (dC, dI) vwCl [(h_o, .inr (0, [.ref h_o_seen, .ref h_o_turned, .ref h_o_found, .int o_looked, .int o_stepsFound, .int o_firstX, .int o_firstY, .int o_secondX, .int o_secondY])), (h_o_seen, .inr (5, [.int o_seen_wide, .int o_seen_high, .int o_seen_hex, .long o_seen_ones, .long o_seen_twos])), (h_o_found, .inl (ca 1, 12, .inr (.inl o_found_r)))] H) (hD : va_D A [(h_o, .inr (0, [.ref h_o_seen, .ref h_o_turned, .ref h_o_found, .int o_looked, .int o_stepsFound, .int o_firstX, .int o_firstY, .int o_secondX, .int o_secondY])), (h_o_seen, .inr (5, [.int o_seen_wide, .int o_seen_high, .int o_seen_hex, .long o_seen_ones, .long o_seen_twos])), (h_o_found, .inl (ca 1, 12, .inr (.inl o_found_r)))]) (hS : va_S A s.heap H locs) (ls : Array Slot) (hl : lv_has ls 3 [(0, .ref h_o), (1, .int v1), (2, .int v2)]), WW H locs (F0 m 115 ls []) := by
        intro v1 n
        induction n with
        | zero => intro v2 o_secondX o_secondY rr hf; exact (ds_it_zero hf).elim
        | succ n ih115 =>
          intro v2 o_secondX o_secondY rr hf hG H locs hP hD hS ls hl
          refine h2 ?_
          obtain ⟨rr, hf, hG⟩ := ds_it_succ hf hG
          replace hf : fX0_findSteps_115_b o_firstX o_firstY o_seen_wide o_seen_high o_seen_hex o_found_r v1 v2 o_secondX o_secondY = some rr := hf
          obtain ⟨G2, eG2⟩ : ∃ G : ((Int32 × Int32 × Int32) ⊕ ((Int32 × Int32 × Int32) ⊕ (Int32 × Int32 × Int32 × Int32 × Int32))) → Prop, G = ds_G (fun s' => ∃ r', ds_it (fun s => fX0_findSteps_115_b o_firstX o_firstY o_seen_wide o_seen_high o_seen_hex o_found_r v1 s.1 s.2.1 s.2.2) n s' = some r' ∧ G1 r') G1 := ⟨_, rfl⟩
          rw [← eG2] at hG
          have J_173 : ∀ (v2 : Int32) (o_secondX : Int32) (o_secondY : Int32) (rr : (Int32 × Int32 × Int32) ⊕ ((Int32 × Int32 × Int32) ⊕ (Int32 × Int32 × Int32 × Int32 × Int32))) (hf : fX0_findSteps_173 o_secondX o_secondY v2 = some rr) (hG : G2 rr) (H : Heap) (locs : List Loc) (hP : va_P (dC, dI) vwCl [(h_o, .inr (0, [.ref h_o_seen, .ref h_o_turned, .ref h_o_found, .int o_looked, .int o_stepsFound, .int o_firstX, .int o_firstY, .int o_secondX, .int o_secondY])), (h_o_seen, .inr (5, [.int o_seen_wide, .int o_seen_high, .int o_seen_hex, .long o_seen_ones, .long o_seen_twos])), (h_o_found, .inl (ca 1, 12, .inr (.inl o_found_r)))] H) (hD : va_D A [(h_o, .inr (0, [.ref h_o_seen, .ref h_o_turned, .ref h_o_found, .int o_looked, .int o_stepsFound, .int o_firstX, .int o_firstY, .int o_secondX, .int o_secondY])), (h_o_seen, .inr (5, [.int o_seen_wide, .int o_seen_high, .int o_seen_hex, .long o_seen_ones, .long o_seen_twos])), (h_o_found, .inl (ca 1, 12, .inr (.inl o_found_r)))]) (hS : va_S A s.heap H locs) (ls : Array Slot) (hl : lv_has ls 3 [(0, .ref h_o), (1, .int v1), (2, .int v2)]), WW H locs (F0 m 173 ls []) := by
            intro v2 o_secondX o_secondY rr hf hG H locs hP hD hS ls hl
            refine h2 ?_
            unfold fX0_findSteps_173 at hf
            refine lv_iinc (v := (v2 + 1)) (lv' := [(2, .int (v2 + 1)), (0, .ref h_o), (1, .int v1)]) hx hb dX0_findSteps_173 hl (k := 2) rfl rfl (by decide) rfl (fun ls hl => ?_)
            refine lv_goto (tgt := 115) hx hb dX0_findSteps_176 (by decide) ?_
            have hf := Option.some.inj hf
            subst hf
            rw [eG2] at hG
            obtain ⟨rr, hf, hG⟩ := hG
            exact h1 (ih115 (v2 + 1) o_secondX o_secondY rr hf hG _ _ hP hD hS _ (lv_sub hl [1, 2, 0] rfl))
          unfold fX0_findSteps_115_b at hf
          refine lv_iload_n hx hb dX0_findSteps_115 rfl (lv_at hl 2 rfl) ?_
          refine lv_bipush (v := 9) hx hb dX0_findSteps_116 (by decide) ?_
          refine lv_icmp_gt (tgt := 179) hx hb dX0_findSteps_118 (by decide) (fun c_118 => ?_) (fun c_118 => ?_)
          · replace hf := ds_t c_118 hf
            obtain ⟨rr, hr_0, hf⟩ := ds_ob hf
            have hf := Option.some.inj hf
            subst hf
            rw [eG2] at hG
            replace hG : G1 rr := hG
            have hf := hr_0
            exact h1 (J_179 v1 o_secondX o_secondY _ hf hG _ _ hP hD hS _ (lv_sub hl [0, 1] rfl))
          · replace hf := ds_f c_118 hf
            refine lv_iload_n hx hb dX0_findSteps_121 rfl (lv_at hl 2 rfl) ?_
            refine lv_aload_n hx hb dX0_findSteps_122 rfl (lv_at hl 0 rfl) ?_
            refine va_get (D := (dC, dI)) (ci := 0) (v := .int o_firstY) (C := RX0) (T := TX0) (N := 9) hx hb hts (fun w h => List.mem_cons_of_mem _ (kc_X0 w h)) hown hK hP 0 rfl rfl 6 (by decide) (hg kw_202) (fun _ h9 => h9) rfl dX0_findSteps_123 ?_
            refine lv_imul hx hb dX0_findSteps_126 ?_
            refine lv_iload_n hx hb dX0_findSteps_127 rfl (lv_at hl 1 rfl) ?_
            refine lv_aload_n hx hb dX0_findSteps_128 rfl (lv_at hl 0 rfl) ?_
            refine va_get (D := (dC, dI)) (ci := 0) (v := .int o_firstX) (C := RX0) (T := TX0) (N := 9) hx hb hts (fun w h => List.mem_cons_of_mem _ (kc_X0 w h)) hown hK hP 0 rfl rfl 5 (by decide) (hg kw_203) (fun _ h9 => h9) rfl dX0_findSteps_129 ?_
            refine lv_imul hx hb dX0_findSteps_132 ?_
            refine lv_icmp_eq (tgt := 173) hx hb dX0_findSteps_133 (by decide) (fun c_133 => ?_) (fun c_133 => ?_)
            · replace hf := ds_t c_133 hf
              exact h1 (J_173 v2 o_secondX o_secondY _ hf hG _ _ hP hD hS _ (lv_sub hl [0, 1, 2] rfl))
            · replace hf := ds_f c_133 hf
              refine lv_aload_n hx hb dX0_findSteps_136 rfl (lv_at hl 0 rfl) ?_
              refine lv_iload_n hx hb dX0_findSteps_137 rfl (lv_at hl 2 rfl) ?_
              refine lv_iload_n hx hb dX0_findSteps_138 rfl (lv_at hl 1 rfl) ?_
              refine lv_aload_n hx hb dX0_findSteps_139 rfl (lv_at hl 0 rfl) ?_
              refine va_get (D := (dC, dI)) (ci := 0) (v := .int o_secondX) (C := RX0) (T := TX0) (N := 9) hx hb hts (fun w h => List.mem_cons_of_mem _ (kc_X0 w h)) hown hK hP 0 rfl rfl 7 (by decide) (hg kw_204) (fun _ h9 => h9) rfl dX0_findSteps_140 ?_
              refine lv_aload_n hx hb dX0_findSteps_143 rfl (lv_at hl 0 rfl) ?_
              refine va_get (D := (dC, dI)) (ci := 0) (v := .int o_secondY) (C := RX0) (T := TX0) (N := 9) hx hb hts (fun w h => List.mem_cons_of_mem _ (kc_X0 w h)) hown hK hP 0 rfl rfl 8 (by decide) (hg kw_205) (fun _ h9 => h9) rfl dX0_findSteps_144 ?_
              obtain ⟨q147, hq147, hf⟩ := ds_ob hf
              refine ds_calli (wr := [(h_o_found, .inl (ca 1, 12, .inr (.inl o_found_r)))]) (va_runV (As := [.int v2, .int v1, .int o_secondX, .int o_secondY]) (rest := []) ⟨hx, hb, hml, hown, hts⟩ (c_X0_comesAhead l dC dI ca sa h_o h_o_seen h_o_turned h_o_found H.size o_looked o_stepsFound o_firstX o_firstY o_secondX o_secondY o_seen_wide o_seen_high o_seen_hex o_seen_ones o_seen_twos v2 v1 o_secondX o_secondY q147 hq147) (cwV 4 hts (ds_gV kw_206 kw_207 kw_208 kw_154 kw_209) rfl rfl rfl (by decide +kernel) ⟨Nat.le_of_ble_eq_true rfl, Nat.le_of_ble_eq_true rfl⟩) ⟨ds_blind, va_recv hK hP (ci := 0) (q0 := 0) rfl rfl, ds_at hP hD hK hE hS hA [0, 1] rfl rfl _⟩ rfl rfl hl.1 rfl (lv_room (Nat.le_of_ble_eq_true rfl)) dX0_findSteps_147 ⟨Nat.zero_le _, Nat.zero_le _⟩) hP hD hS hA [0, 1] [2] rfl rfl rfl (by decide) (fun H locs hP hD hS => ?_)
              have hP : va_P (dC, dI) vwCl [(h_o_found, .inl (ca 1, 12, .inr (.inl o_found_r))), (h_o, .inr (0, [.ref h_o_seen, .ref h_o_turned, .ref h_o_found, .int o_looked, .int o_stepsFound, .int o_firstX, .int o_firstY, .int o_secondX, .int o_secondY])), (h_o_seen, .inr (5, [.int o_seen_wide, .int o_seen_high, .int o_seen_hex, .long o_seen_ones, .long o_seen_twos]))] H := hP
              have hD : va_D A [(h_o_found, .inl (ca 1, 12, .inr (.inl o_found_r))), (h_o, .inr (0, [.ref h_o_seen, .ref h_o_turned, .ref h_o_found, .int o_looked, .int o_stepsFound, .int o_firstX, .int o_firstY, .int o_secondX, .int o_secondY])), (h_o_seen, .inr (5, [.int o_seen_wide, .int o_seen_high, .int o_seen_hex, .long o_seen_ones, .long o_seen_twos]))] := hD
              refine lv_if_eq (tgt := 173) hx hb dX0_findSteps_150 (by decide) (fun c_150 => ?_) (fun c_150 => ?_)
              · replace hf := ds_t c_150 hf
                exact h1 (J_173 v2 o_secondX o_secondY _ hf hG _ _ (hP.sub [1, 2, 0] rfl) (hD.sub [1, 2, 0] rfl rfl) hS _ (lv_sub hl [0, 1, 2] rfl))
              · replace hf := ds_f c_150 hf
                refine lv_aload_n hx hb dX0_findSteps_153 rfl (lv_at hl 0 rfl) ?_
                refine lv_iconst (v := 0) hx hb dX0_findSteps_154 (by decide) ?_
                refine lv_iload_n hx hb dX0_findSteps_155 rfl (lv_at hl 2 rfl) ?_
                refine lv_iload_n hx hb dX0_findSteps_156 rfl (lv_at hl 1 rfl) ?_
                obtain ⟨q157, hq157, hf⟩ := ds_ob hf
                refine ds_calli (wr := []) (va_runV (As := [.int (0 : Int32), .int v2, .int v1]) (rest := []) ⟨hx, hb, hml, hown, hts⟩ (c_X0_hasSymmetry l dC dI ca sa h_o h_o_seen h_o_turned h_o_found H.size o_looked o_stepsFound o_firstX o_firstY o_secondX o_secondY o_found_r o_seen_wide o_seen_high o_seen_hex o_seen_ones o_seen_twos (0 : Int32) v2 v1 q157 hq157) (cwV 3 hts (ds_gV kw_181 kw_182 kw_183 kw_154 kw_184) rfl rfl rfl (by decide +kernel) ⟨Nat.le_of_ble_eq_true rfl, Nat.le_of_ble_eq_true rfl⟩) ⟨ds_blind, va_recv hK hP (ci := 0) (q0 := 1) rfl rfl, ds_at hP hD hK hE hS hA [1, 0, 2] rfl rfl _⟩ rfl rfl hl.1 rfl (lv_room (Nat.le_of_ble_eq_true rfl)) dX0_findSteps_157 ⟨Nat.zero_le _, Nat.zero_le _⟩) hP hD hS hA [1, 0, 2] [] rfl rfl rfl (by decide) (fun H locs hP hD hS => ?_)
                have hP : va_P (dC, dI) vwCl [(h_o, .inr (0, [.ref h_o_seen, .ref h_o_turned, .ref h_o_found, .int o_looked, .int o_stepsFound, .int o_firstX, .int o_firstY, .int o_secondX, .int o_secondY])), (h_o_found, .inl (ca 1, 12, .inr (.inl o_found_r))), (h_o_seen, .inr (5, [.int o_seen_wide, .int o_seen_high, .int o_seen_hex, .long o_seen_ones, .long o_seen_twos]))] H := hP
                have hD : va_D A [(h_o, .inr (0, [.ref h_o_seen, .ref h_o_turned, .ref h_o_found, .int o_looked, .int o_stepsFound, .int o_firstX, .int o_firstY, .int o_secondX, .int o_secondY])), (h_o_found, .inl (ca 1, 12, .inr (.inl o_found_r))), (h_o_seen, .inr (5, [.int o_seen_wide, .int o_seen_high, .int o_seen_hex, .long o_seen_ones, .long o_seen_twos]))] := hD
                refine lv_if_eq (tgt := 173) hx hb dX0_findSteps_160 (by decide) (fun c_160 => ?_) (fun c_160 => ?_)
                · replace hf := ds_t c_160 hf
                  exact h1 (J_173 v2 o_secondX o_secondY _ hf hG _ _ (hP.sub [0, 2, 1] rfl) (hD.sub [0, 2, 1] rfl rfl) hS _ (lv_sub hl [0, 1, 2] rfl))
                · replace hf := ds_f c_160 hf
                  refine lv_aload_n hx hb dX0_findSteps_163 rfl (lv_at hl 0 rfl) ?_
                  refine lv_iload_n hx hb dX0_findSteps_164 rfl (lv_at hl 2 rfl) ?_
                  refine va_put (D := (dC, dI)) (ci := 0) (v := .int v2) (ty := tyX0 7) (C := RX0) (T := TX0) (N := 9) hx hb hts (fun w h => List.mem_cons_of_mem _ (kc_X0 w h)) tyX0 tyX0_ok nmX0 hown hK hP hD hS 0 rfl rfl 7 (by decide) (hg kw_204) (fun _ h9 => h9) rfl (by decide +kernel) rfl rfl (Nat.le_of_ble_eq_true rfl) dX0_findSteps_165 (fun H locs hP hD hS => ?_)
                  have hP : va_P (dC, dI) vwCl [(h_o, .inr (0, [.ref h_o_seen, .ref h_o_turned, .ref h_o_found, .int o_looked, .int o_stepsFound, .int o_firstX, .int o_firstY, .int v2, .int o_secondY])), (h_o_found, .inl (ca 1, 12, .inr (.inl o_found_r))), (h_o_seen, .inr (5, [.int o_seen_wide, .int o_seen_high, .int o_seen_hex, .long o_seen_ones, .long o_seen_twos]))] H := hP
                  have hD : va_D A [(h_o, .inr (0, [.ref h_o_seen, .ref h_o_turned, .ref h_o_found, .int o_looked, .int o_stepsFound, .int o_firstX, .int o_firstY, .int v2, .int o_secondY])), (h_o_found, .inl (ca 1, 12, .inr (.inl o_found_r))), (h_o_seen, .inr (5, [.int o_seen_wide, .int o_seen_high, .int o_seen_hex, .long o_seen_ones, .long o_seen_twos]))] := hD
                  refine lv_aload_n hx hb dX0_findSteps_168 rfl (lv_at hl 0 rfl) ?_
                  refine lv_iload_n hx hb dX0_findSteps_169 rfl (lv_at hl 1 rfl) ?_
                  refine va_put (D := (dC, dI)) (ci := 0) (v := .int v1) (ty := tyX0 8) (C := RX0) (T := TX0) (N := 9) hx hb hts (fun w h => List.mem_cons_of_mem _ (kc_X0 w h)) tyX0 tyX0_ok nmX0 hown hK hP hD hS 0 rfl rfl 8 (by decide) (hg kw_205) (fun _ h9 => h9) rfl (by decide +kernel) rfl rfl (Nat.le_of_ble_eq_true rfl) dX0_findSteps_170 (fun H locs hP hD hS => ?_)
                  have hP : va_P (dC, dI) vwCl [(h_o, .inr (0, [.ref h_o_seen, .ref h_o_turned, .ref h_o_found, .int o_looked, .int o_stepsFound, .int o_firstX, .int o_firstY, .int v2, .int v1])), (h_o_found, .inl (ca 1, 12, .inr (.inl o_found_r))), (h_o_seen, .inr (5, [.int o_seen_wide, .int o_seen_high, .int o_seen_hex, .long o_seen_ones, .long o_seen_twos]))] H := hP
                  have hD : va_D A [(h_o, .inr (0, [.ref h_o_seen, .ref h_o_turned, .ref h_o_found, .int o_looked, .int o_stepsFound, .int o_firstX, .int o_firstY, .int v2, .int v1])), (h_o_found, .inl (ca 1, 12, .inr (.inl o_found_r))), (h_o_seen, .inr (5, [.int o_seen_wide, .int o_seen_high, .int o_seen_hex, .long o_seen_ones, .long o_seen_twos]))] := hD
                  exact h1 (J_173 v2 v2 v1 _ hf hG _ _ (hP.sub [0, 2, 1] rfl) (hD.sub [0, 2, 1] rfl rfl) hS _ (lv_sub hl [0, 1, 2] rfl))
      unfold fX0_findSteps_106_b at hf
      refine lv_iload_n hx hb dX0_findSteps_106 rfl (lv_at hl 1 rfl) ?_
      refine lv_bipush (v := 9) hx hb dX0_findSteps_107 (by decide) ?_
      refine lv_icmp_gt (tgt := 185) hx hb dX0_findSteps_109 (by decide) (fun c_109 => ?_) (fun c_109 => ?_)
      · replace hf := ds_t c_109 hf
        obtain ⟨rr, hr_0, hf⟩ := ds_ob hf
        have hf := Option.some.inj hf
        subst hf
        rw [eG1] at hG
        replace hG : G0 rr := hG
        have hf := hr_0
        exact h1 (J_185 o_stepsFound o_firstX o_firstY o_secondX o_secondY _ hf hG _ _ hP hD hS _ (lv_sub hl [0] rfl))
      · replace hf := ds_f c_109 hf
        refine lv_bipush (v := -9) hx hb dX0_findSteps_112 (by decide) ?_
        refine lv_istore_n (lv' := [(2, .int (-9 : Int32)), (0, .ref h_o), (1, .int v1)]) hx hb dX0_findSteps_114 rfl hl (by decide) rfl (fun ls hl => ?_)
        exact h1 (J_115 v1 1000 (-9 : Int32) o_secondX o_secondY _ hf hG _ _ hP hD hS _ (lv_sub hl [1, 2, 0] rfl))
  have J_103 : ∀ (o_stepsFound : Int32) (o_firstX : Int32) (o_firstY : Int32) (o_secondX : Int32) (o_secondY : Int32) (rr : Int32 × Int32 × Int32 × Int32 × Int32) (hf : fX0_findSteps_103 o_firstX o_firstY o_secondX o_secondY o_seen_wide o_seen_high o_seen_hex o_found_r = some rr) (hG : G0 rr) (H : Heap) (locs : List Loc) (hP : va_P (dC, dI) vwCl [(h_o, .inr (0, [.ref h_o_seen, .ref h_o_turned, .ref h_o_found, .int o_looked, .int o_stepsFound, .int o_firstX, .int o_firstY, .int o_secondX, .int o_secondY])), (h_o_seen, .inr (5, [.int o_seen_wide, .int o_seen_high, .int o_seen_hex, .long o_seen_ones, .long o_seen_twos])), (h_o_found, .inl (ca 1, 12, .inr (.inl o_found_r)))] H) (hD : va_D A [(h_o, .inr (0, [.ref h_o_seen, .ref h_o_turned, .ref h_o_found, .int o_looked, .int o_stepsFound, .int o_firstX, .int o_firstY, .int o_secondX, .int o_secondY])), (h_o_seen, .inr (5, [.int o_seen_wide, .int o_seen_high, .int o_seen_hex, .long o_seen_ones, .long o_seen_twos])), (h_o_found, .inl (ca 1, 12, .inr (.inl o_found_r)))]) (hS : va_S A s.heap H locs) (ls : Array Slot) (hl : lv_has ls 3 [(0, .ref h_o)]), WW H locs (F0 m 103 ls []) := by
    intro o_stepsFound o_firstX o_firstY o_secondX o_secondY rr hf hG H locs hP hD hS ls hl
    refine h2 ?_
    unfold fX0_findSteps_103 at hf
    refine lv_bipush (v := -9) hx hb dX0_findSteps_103 (by decide) ?_
    refine lv_istore_n (lv' := [(1, .int (-9 : Int32)), (0, .ref h_o)]) hx hb dX0_findSteps_105 rfl hl (by decide) rfl (fun ls hl => ?_)
    exact h1 (J_106 o_stepsFound o_firstX o_firstY 1000 (-9 : Int32) o_secondX o_secondY _ hf hG _ _ hP hD hS _ (lv_sub hl [1, 0] rfl))
  have J_31 : ∀ (o_stepsFound : Int32) (o_secondX : Int32) (o_secondY : Int32) (n : Nat) (v1 : Int32) (o_firstX : Int32) (o_firstY : Int32) (rr : Int32 × Int32 × Int32 × Int32 × Int32) (hf : ds_it (fun s => fX0_findSteps_31_b o_secondX o_secondY o_seen_wide o_seen_high o_seen_hex o_found_r s.1 s.2.1 s.2.2) n (v1, o_firstX, o_firstY) = some rr) (hG : G0 rr) (H : Heap) (locs : List Loc) (hP : va_P (dC, dI) vwCl [(h_o, .inr (0, [.ref h_o_seen, .ref h_o_turned, .ref h_o_found, .int o_looked, .int o_stepsFound, .int o_firstX, .int o_firstY, .int o_secondX, .int o_secondY])), (h_o_seen, .inr (5, [.int o_seen_wide, .int o_seen_high, .int o_seen_hex, .long o_seen_ones, .long o_seen_twos])), (h_o_found, .inl (ca 1, 12, .inr (.inl o_found_r)))] H) (hD : va_D A [(h_o, .inr (0, [.ref h_o_seen, .ref h_o_turned, .ref h_o_found, .int o_looked, .int o_stepsFound, .int o_firstX, .int o_firstY, .int o_secondX, .int o_secondY])), (h_o_seen, .inr (5, [.int o_seen_wide, .int o_seen_high, .int o_seen_hex, .long o_seen_ones, .long o_seen_twos])), (h_o_found, .inl (ca 1, 12, .inr (.inl o_found_r)))]) (hS : va_S A s.heap H locs) (ls : Array Slot) (hl : lv_has ls 3 [(0, .ref h_o), (1, .int v1)]), WW H locs (F0 m 31 ls []) := by
    intro o_stepsFound o_secondX o_secondY n
    induction n with
    | zero => intro v1 o_firstX o_firstY rr hf; exact (ds_it_zero hf).elim
    | succ n ih31 =>
      intro v1 o_firstX o_firstY rr hf hG H locs hP hD hS ls hl
      refine h2 ?_
      obtain ⟨rr, hf, hG⟩ := ds_it_succ hf hG
      replace hf : fX0_findSteps_31_b o_secondX o_secondY o_seen_wide o_seen_high o_seen_hex o_found_r v1 o_firstX o_firstY = some rr := hf
      obtain ⟨G1, eG1⟩ : ∃ G : ((Int32 × Int32 × Int32) ⊕ (Int32 × Int32 × Int32 × Int32 × Int32)) → Prop, G = ds_G (fun s' => ∃ r', ds_it (fun s => fX0_findSteps_31_b o_secondX o_secondY o_seen_wide o_seen_high o_seen_hex o_found_r s.1 s.2.1 s.2.2) n s' = some r' ∧ G0 r') G0 := ⟨_, rfl⟩
      rw [← eG1] at hG
      have J_97 : ∀ (v1 : Int32) (o_firstX : Int32) (o_firstY : Int32) (rr : (Int32 × Int32 × Int32) ⊕ (Int32 × Int32 × Int32 × Int32 × Int32)) (hf : fX0_findSteps_97 o_firstX o_firstY v1 = some rr) (hG : G1 rr) (H : Heap) (locs : List Loc) (hP : va_P (dC, dI) vwCl [(h_o, .inr (0, [.ref h_o_seen, .ref h_o_turned, .ref h_o_found, .int o_looked, .int o_stepsFound, .int o_firstX, .int o_firstY, .int o_secondX, .int o_secondY])), (h_o_seen, .inr (5, [.int o_seen_wide, .int o_seen_high, .int o_seen_hex, .long o_seen_ones, .long o_seen_twos])), (h_o_found, .inl (ca 1, 12, .inr (.inl o_found_r)))] H) (hD : va_D A [(h_o, .inr (0, [.ref h_o_seen, .ref h_o_turned, .ref h_o_found, .int o_looked, .int o_stepsFound, .int o_firstX, .int o_firstY, .int o_secondX, .int o_secondY])), (h_o_seen, .inr (5, [.int o_seen_wide, .int o_seen_high, .int o_seen_hex, .long o_seen_ones, .long o_seen_twos])), (h_o_found, .inl (ca 1, 12, .inr (.inl o_found_r)))]) (hS : va_S A s.heap H locs) (ls : Array Slot) (hl : lv_has ls 3 [(0, .ref h_o), (1, .int v1)]), WW H locs (F0 m 97 ls []) := by
        intro v1 o_firstX o_firstY rr hf hG H locs hP hD hS ls hl
        refine h2 ?_
        unfold fX0_findSteps_97 at hf
        refine lv_iinc (v := (v1 + 1)) (lv' := [(1, .int (v1 + 1)), (0, .ref h_o)]) hx hb dX0_findSteps_97 hl (k := 1) rfl rfl (by decide) rfl (fun ls hl => ?_)
        refine lv_goto (tgt := 31) hx hb dX0_findSteps_100 (by decide) ?_
        have hf := Option.some.inj hf
        subst hf
        rw [eG1] at hG
        obtain ⟨rr, hf, hG⟩ := hG
        exact h1 (ih31 (v1 + 1) o_firstX o_firstY rr hf hG _ _ hP hD hS _ (lv_sub hl [1, 0] rfl))
      have J_40 : ∀ (v1 : Int32) (n : Nat) (v2 : Int32) (o_firstX : Int32) (o_firstY : Int32) (rr : (Int32 × Int32 × Int32) ⊕ (Int32 × Int32 × Int32 × Int32 × Int32)) (hf : ds_it (fun s => fX0_findSteps_40_b o_seen_wide o_seen_high o_seen_hex o_found_r v1 s.1 s.2.1 s.2.2) n (v2, o_firstX, o_firstY) = some rr) (hG : G1 rr) (H : Heap) (locs : List Loc) (hP : va_P (dC, dI) vwCl [(h_o, .inr (0, [.ref h_o_seen, .ref h_o_turned, .ref h_o_found, .int o_looked, .int o_stepsFound, .int o_firstX, .int o_firstY, .int o_secondX, .int o_secondY])), (h_o_seen, .inr (5, [.int o_seen_wide, .int o_seen_high, .int o_seen_hex, .long o_seen_ones, .long o_seen_twos])), (h_o_found, .inl (ca 1, 12, .inr (.inl o_found_r)))] H) (hD : va_D A [(h_o, .inr (0, [.ref h_o_seen, .ref h_o_turned, .ref h_o_found, .int o_looked, .int o_stepsFound, .int o_firstX, .int o_firstY, .int o_secondX, .int o_secondY])), (h_o_seen, .inr (5, [.int o_seen_wide, .int o_seen_high, .int o_seen_hex, .long o_seen_ones, .long o_seen_twos])), (h_o_found, .inl (ca 1, 12, .inr (.inl o_found_r)))]) (hS : va_S A s.heap H locs) (ls : Array Slot) (hl : lv_has ls 3 [(0, .ref h_o), (1, .int v1), (2, .int v2)]), WW H locs (F0 m 40 ls []) := by
        intro v1 n
        induction n with
        | zero => intro v2 o_firstX o_firstY rr hf; exact (ds_it_zero hf).elim
        | succ n ih40 =>
          intro v2 o_firstX o_firstY rr hf hG H locs hP hD hS ls hl
          refine h2 ?_
          obtain ⟨rr, hf, hG⟩ := ds_it_succ hf hG
          replace hf : fX0_findSteps_40_b o_seen_wide o_seen_high o_seen_hex o_found_r v1 v2 o_firstX o_firstY = some rr := hf
          obtain ⟨G2, eG2⟩ : ∃ G : ((Int32 × Int32 × Int32) ⊕ ((Int32 × Int32 × Int32) ⊕ (Int32 × Int32 × Int32 × Int32 × Int32))) → Prop, G = ds_G (fun s' => ∃ r', ds_it (fun s => fX0_findSteps_40_b o_seen_wide o_seen_high o_seen_hex o_found_r v1 s.1 s.2.1 s.2.2) n s' = some r' ∧ G1 r') G1 := ⟨_, rfl⟩
          rw [← eG2] at hG
          have J_91 : ∀ (v2 : Int32) (o_firstX : Int32) (o_firstY : Int32) (rr : (Int32 × Int32 × Int32) ⊕ ((Int32 × Int32 × Int32) ⊕ (Int32 × Int32 × Int32 × Int32 × Int32))) (hf : fX0_findSteps_91 o_firstX o_firstY v2 = some rr) (hG : G2 rr) (H : Heap) (locs : List Loc) (hP : va_P (dC, dI) vwCl [(h_o, .inr (0, [.ref h_o_seen, .ref h_o_turned, .ref h_o_found, .int o_looked, .int o_stepsFound, .int o_firstX, .int o_firstY, .int o_secondX, .int o_secondY])), (h_o_seen, .inr (5, [.int o_seen_wide, .int o_seen_high, .int o_seen_hex, .long o_seen_ones, .long o_seen_twos])), (h_o_found, .inl (ca 1, 12, .inr (.inl o_found_r)))] H) (hD : va_D A [(h_o, .inr (0, [.ref h_o_seen, .ref h_o_turned, .ref h_o_found, .int o_looked, .int o_stepsFound, .int o_firstX, .int o_firstY, .int o_secondX, .int o_secondY])), (h_o_seen, .inr (5, [.int o_seen_wide, .int o_seen_high, .int o_seen_hex, .long o_seen_ones, .long o_seen_twos])), (h_o_found, .inl (ca 1, 12, .inr (.inl o_found_r)))]) (hS : va_S A s.heap H locs) (ls : Array Slot) (hl : lv_has ls 3 [(0, .ref h_o), (1, .int v1), (2, .int v2)]), WW H locs (F0 m 91 ls []) := by
            intro v2 o_firstX o_firstY rr hf hG H locs hP hD hS ls hl
            refine h2 ?_
            unfold fX0_findSteps_91 at hf
            refine lv_iinc (v := (v2 + 1)) (lv' := [(2, .int (v2 + 1)), (0, .ref h_o), (1, .int v1)]) hx hb dX0_findSteps_91 hl (k := 2) rfl rfl (by decide) rfl (fun ls hl => ?_)
            refine lv_goto (tgt := 40) hx hb dX0_findSteps_94 (by decide) ?_
            have hf := Option.some.inj hf
            subst hf
            rw [eG2] at hG
            obtain ⟨rr, hf, hG⟩ := hG
            exact h1 (ih40 (v2 + 1) o_firstX o_firstY rr hf hG _ _ hP hD hS _ (lv_sub hl [1, 2, 0] rfl))
          have J_54 : ∀ (v2 : Int32) (o_firstX : Int32) (o_firstY : Int32) (rr : (Int32 × Int32 × Int32) ⊕ ((Int32 × Int32 × Int32) ⊕ (Int32 × Int32 × Int32 × Int32 × Int32))) (hf : fX0_findSteps_54 o_firstX o_firstY o_seen_wide o_seen_high o_seen_hex o_found_r v1 v2 = some rr) (hG : G2 rr) (H : Heap) (locs : List Loc) (hP : va_P (dC, dI) vwCl [(h_o, .inr (0, [.ref h_o_seen, .ref h_o_turned, .ref h_o_found, .int o_looked, .int o_stepsFound, .int o_firstX, .int o_firstY, .int o_secondX, .int o_secondY])), (h_o_seen, .inr (5, [.int o_seen_wide, .int o_seen_high, .int o_seen_hex, .long o_seen_ones, .long o_seen_twos])), (h_o_found, .inl (ca 1, 12, .inr (.inl o_found_r)))] H) (hD : va_D A [(h_o, .inr (0, [.ref h_o_seen, .ref h_o_turned, .ref h_o_found, .int o_looked, .int o_stepsFound, .int o_firstX, .int o_firstY, .int o_secondX, .int o_secondY])), (h_o_seen, .inr (5, [.int o_seen_wide, .int o_seen_high, .int o_seen_hex, .long o_seen_ones, .long o_seen_twos])), (h_o_found, .inl (ca 1, 12, .inr (.inl o_found_r)))]) (hS : va_S A s.heap H locs) (ls : Array Slot) (hl : lv_has ls 3 [(0, .ref h_o), (1, .int v1), (2, .int v2)]), WW H locs (F0 m 54 ls []) := by
            intro v2 o_firstX o_firstY rr hf hG H locs hP hD hS ls hl
            refine h2 ?_
            unfold fX0_findSteps_54 at hf
            refine lv_aload_n hx hb dX0_findSteps_54 rfl (lv_at hl 0 rfl) ?_
            refine lv_iload_n hx hb dX0_findSteps_55 rfl (lv_at hl 2 rfl) ?_
            refine lv_iload_n hx hb dX0_findSteps_56 rfl (lv_at hl 1 rfl) ?_
            refine lv_aload_n hx hb dX0_findSteps_57 rfl (lv_at hl 0 rfl) ?_
            refine va_get (D := (dC, dI)) (ci := 0) (v := .int o_firstX) (C := RX0) (T := TX0) (N := 9) hx hb hts (fun w h => List.mem_cons_of_mem _ (kc_X0 w h)) hown hK hP 0 rfl rfl 5 (by decide) (hg kw_203) (fun _ h9 => h9) rfl dX0_findSteps_58 ?_
            refine lv_aload_n hx hb dX0_findSteps_61 rfl (lv_at hl 0 rfl) ?_
            refine va_get (D := (dC, dI)) (ci := 0) (v := .int o_firstY) (C := RX0) (T := TX0) (N := 9) hx hb hts (fun w h => List.mem_cons_of_mem _ (kc_X0 w h)) hown hK hP 0 rfl rfl 6 (by decide) (hg kw_202) (fun _ h9 => h9) rfl dX0_findSteps_62 ?_
            obtain ⟨q65, hq65, hf⟩ := ds_ob hf
            refine ds_calli (wr := [(h_o_found, .inl (ca 1, 12, .inr (.inl o_found_r)))]) (va_runV (As := [.int v2, .int v1, .int o_firstX, .int o_firstY]) (rest := []) ⟨hx, hb, hml, hown, hts⟩ (c_X0_comesAhead l dC dI ca sa h_o h_o_seen h_o_turned h_o_found H.size o_looked o_stepsFound o_firstX o_firstY o_secondX o_secondY o_seen_wide o_seen_high o_seen_hex o_seen_ones o_seen_twos v2 v1 o_firstX o_firstY q65 hq65) (cwV 4 hts (ds_gV kw_206 kw_207 kw_208 kw_154 kw_209) rfl rfl rfl (by decide +kernel) ⟨Nat.le_of_ble_eq_true rfl, Nat.le_of_ble_eq_true rfl⟩) ⟨ds_blind, va_recv hK hP (ci := 0) (q0 := 0) rfl rfl, ds_at hP hD hK hE hS hA [0, 1] rfl rfl _⟩ rfl rfl hl.1 rfl (lv_room (Nat.le_of_ble_eq_true rfl)) dX0_findSteps_65 ⟨Nat.zero_le _, Nat.zero_le _⟩) hP hD hS hA [0, 1] [2] rfl rfl rfl (by decide) (fun H locs hP hD hS => ?_)
            have hP : va_P (dC, dI) vwCl [(h_o_found, .inl (ca 1, 12, .inr (.inl o_found_r))), (h_o, .inr (0, [.ref h_o_seen, .ref h_o_turned, .ref h_o_found, .int o_looked, .int o_stepsFound, .int o_firstX, .int o_firstY, .int o_secondX, .int o_secondY])), (h_o_seen, .inr (5, [.int o_seen_wide, .int o_seen_high, .int o_seen_hex, .long o_seen_ones, .long o_seen_twos]))] H := hP
            have hD : va_D A [(h_o_found, .inl (ca 1, 12, .inr (.inl o_found_r))), (h_o, .inr (0, [.ref h_o_seen, .ref h_o_turned, .ref h_o_found, .int o_looked, .int o_stepsFound, .int o_firstX, .int o_firstY, .int o_secondX, .int o_secondY])), (h_o_seen, .inr (5, [.int o_seen_wide, .int o_seen_high, .int o_seen_hex, .long o_seen_ones, .long o_seen_twos]))] := hD
            refine lv_if_eq (tgt := 91) hx hb dX0_findSteps_68 (by decide) (fun c_68 => ?_) (fun c_68 => ?_)
            · replace hf := ds_t c_68 hf
              exact h1 (J_91 v2 o_firstX o_firstY _ hf hG _ _ (hP.sub [1, 2, 0] rfl) (hD.sub [1, 2, 0] rfl rfl) hS _ (lv_sub hl [0, 1, 2] rfl))
            · replace hf := ds_f c_68 hf
              refine lv_aload_n hx hb dX0_findSteps_71 rfl (lv_at hl 0 rfl) ?_
              refine lv_iconst (v := 0) hx hb dX0_findSteps_72 (by decide) ?_
              refine lv_iload_n hx hb dX0_findSteps_73 rfl (lv_at hl 2 rfl) ?_
              refine lv_iload_n hx hb dX0_findSteps_74 rfl (lv_at hl 1 rfl) ?_
              obtain ⟨q75, hq75, hf⟩ := ds_ob hf
              refine ds_calli (wr := []) (va_runV (As := [.int (0 : Int32), .int v2, .int v1]) (rest := []) ⟨hx, hb, hml, hown, hts⟩ (c_X0_hasSymmetry l dC dI ca sa h_o h_o_seen h_o_turned h_o_found H.size o_looked o_stepsFound o_firstX o_firstY o_secondX o_secondY o_found_r o_seen_wide o_seen_high o_seen_hex o_seen_ones o_seen_twos (0 : Int32) v2 v1 q75 hq75) (cwV 3 hts (ds_gV kw_181 kw_182 kw_183 kw_154 kw_184) rfl rfl rfl (by decide +kernel) ⟨Nat.le_of_ble_eq_true rfl, Nat.le_of_ble_eq_true rfl⟩) ⟨ds_blind, va_recv hK hP (ci := 0) (q0 := 1) rfl rfl, ds_at hP hD hK hE hS hA [1, 0, 2] rfl rfl _⟩ rfl rfl hl.1 rfl (lv_room (Nat.le_of_ble_eq_true rfl)) dX0_findSteps_75 ⟨Nat.zero_le _, Nat.zero_le _⟩) hP hD hS hA [1, 0, 2] [] rfl rfl rfl (by decide) (fun H locs hP hD hS => ?_)
              have hP : va_P (dC, dI) vwCl [(h_o, .inr (0, [.ref h_o_seen, .ref h_o_turned, .ref h_o_found, .int o_looked, .int o_stepsFound, .int o_firstX, .int o_firstY, .int o_secondX, .int o_secondY])), (h_o_found, .inl (ca 1, 12, .inr (.inl o_found_r))), (h_o_seen, .inr (5, [.int o_seen_wide, .int o_seen_high, .int o_seen_hex, .long o_seen_ones, .long o_seen_twos]))] H := hP
              have hD : va_D A [(h_o, .inr (0, [.ref h_o_seen, .ref h_o_turned, .ref h_o_found, .int o_looked, .int o_stepsFound, .int o_firstX, .int o_firstY, .int o_secondX, .int o_secondY])), (h_o_found, .inl (ca 1, 12, .inr (.inl o_found_r))), (h_o_seen, .inr (5, [.int o_seen_wide, .int o_seen_high, .int o_seen_hex, .long o_seen_ones, .long o_seen_twos]))] := hD
              refine lv_if_eq (tgt := 91) hx hb dX0_findSteps_78 (by decide) (fun c_78 => ?_) (fun c_78 => ?_)
              · replace hf := ds_t c_78 hf
                exact h1 (J_91 v2 o_firstX o_firstY _ hf hG _ _ (hP.sub [0, 2, 1] rfl) (hD.sub [0, 2, 1] rfl rfl) hS _ (lv_sub hl [0, 1, 2] rfl))
              · replace hf := ds_f c_78 hf
                refine lv_aload_n hx hb dX0_findSteps_81 rfl (lv_at hl 0 rfl) ?_
                refine lv_iload_n hx hb dX0_findSteps_82 rfl (lv_at hl 2 rfl) ?_
                refine va_put (D := (dC, dI)) (ci := 0) (v := .int v2) (ty := tyX0 5) (C := RX0) (T := TX0) (N := 9) hx hb hts (fun w h => List.mem_cons_of_mem _ (kc_X0 w h)) tyX0 tyX0_ok nmX0 hown hK hP hD hS 0 rfl rfl 5 (by decide) (hg kw_203) (fun _ h9 => h9) rfl (by decide +kernel) rfl rfl (Nat.le_of_ble_eq_true rfl) dX0_findSteps_83 (fun H locs hP hD hS => ?_)
                have hP : va_P (dC, dI) vwCl [(h_o, .inr (0, [.ref h_o_seen, .ref h_o_turned, .ref h_o_found, .int o_looked, .int o_stepsFound, .int v2, .int o_firstY, .int o_secondX, .int o_secondY])), (h_o_found, .inl (ca 1, 12, .inr (.inl o_found_r))), (h_o_seen, .inr (5, [.int o_seen_wide, .int o_seen_high, .int o_seen_hex, .long o_seen_ones, .long o_seen_twos]))] H := hP
                have hD : va_D A [(h_o, .inr (0, [.ref h_o_seen, .ref h_o_turned, .ref h_o_found, .int o_looked, .int o_stepsFound, .int v2, .int o_firstY, .int o_secondX, .int o_secondY])), (h_o_found, .inl (ca 1, 12, .inr (.inl o_found_r))), (h_o_seen, .inr (5, [.int o_seen_wide, .int o_seen_high, .int o_seen_hex, .long o_seen_ones, .long o_seen_twos]))] := hD
                refine lv_aload_n hx hb dX0_findSteps_86 rfl (lv_at hl 0 rfl) ?_
                refine lv_iload_n hx hb dX0_findSteps_87 rfl (lv_at hl 1 rfl) ?_
                refine va_put (D := (dC, dI)) (ci := 0) (v := .int v1) (ty := tyX0 6) (C := RX0) (T := TX0) (N := 9) hx hb hts (fun w h => List.mem_cons_of_mem _ (kc_X0 w h)) tyX0 tyX0_ok nmX0 hown hK hP hD hS 0 rfl rfl 6 (by decide) (hg kw_202) (fun _ h9 => h9) rfl (by decide +kernel) rfl rfl (Nat.le_of_ble_eq_true rfl) dX0_findSteps_88 (fun H locs hP hD hS => ?_)
                have hP : va_P (dC, dI) vwCl [(h_o, .inr (0, [.ref h_o_seen, .ref h_o_turned, .ref h_o_found, .int o_looked, .int o_stepsFound, .int v2, .int v1, .int o_secondX, .int o_secondY])), (h_o_found, .inl (ca 1, 12, .inr (.inl o_found_r))), (h_o_seen, .inr (5, [.int o_seen_wide, .int o_seen_high, .int o_seen_hex, .long o_seen_ones, .long o_seen_twos]))] H := hP
                have hD : va_D A [(h_o, .inr (0, [.ref h_o_seen, .ref h_o_turned, .ref h_o_found, .int o_looked, .int o_stepsFound, .int v2, .int v1, .int o_secondX, .int o_secondY])), (h_o_found, .inl (ca 1, 12, .inr (.inl o_found_r))), (h_o_seen, .inr (5, [.int o_seen_wide, .int o_seen_high, .int o_seen_hex, .long o_seen_ones, .long o_seen_twos]))] := hD
                exact h1 (J_91 v2 v2 v1 _ hf hG _ _ (hP.sub [0, 2, 1] rfl) (hD.sub [0, 2, 1] rfl rfl) hS _ (lv_sub hl [0, 1, 2] rfl))
          unfold fX0_findSteps_40_b at hf
          refine lv_iload_n hx hb dX0_findSteps_40 rfl (lv_at hl 2 rfl) ?_
          refine lv_bipush (v := 9) hx hb dX0_findSteps_41 (by decide) ?_
          refine lv_icmp_gt (tgt := 97) hx hb dX0_findSteps_43 (by decide) (fun c_43 => ?_) (fun c_43 => ?_)
          · replace hf := ds_t c_43 hf
            obtain ⟨rr, hr_0, hf⟩ := ds_ob hf
            have hf := Option.some.inj hf
            subst hf
            rw [eG2] at hG
            replace hG : G1 rr := hG
            have hf := hr_0
            exact h1 (J_97 v1 o_firstX o_firstY _ hf hG _ _ hP hD hS _ (lv_sub hl [0, 1] rfl))
          · replace hf := ds_f c_43 hf
            refine lv_iload_n hx hb dX0_findSteps_46 rfl (lv_at hl 2 rfl) ?_
            refine lv_if_ne (tgt := 54) hx hb dX0_findSteps_47 (by decide) (fun c_47 => ?_) (fun c_47 => ?_)
            · replace hf := ds_f c_47 hf
              exact h1 (J_54 v2 o_firstX o_firstY _ hf hG _ _ hP hD hS _ (lv_sub hl [0, 1, 2] rfl))
            · replace hf := ds_t c_47 hf
              refine lv_iload_n hx hb dX0_findSteps_50 rfl (lv_at hl 1 rfl) ?_
              refine lv_if_eq (tgt := 91) hx hb dX0_findSteps_51 (by decide) (fun c_51 => ?_) (fun c_51 => ?_)
              · replace hf := ds_t c_51 hf
                exact h1 (J_91 v2 o_firstX o_firstY _ hf hG _ _ hP hD hS _ (lv_sub hl [0, 1, 2] rfl))
              · replace hf := ds_f c_51 hf
                exact h1 (J_54 v2 o_firstX o_firstY _ hf hG _ _ hP hD hS _ (lv_sub hl [0, 1, 2] rfl))
      unfold fX0_findSteps_31_b at hf
      refine lv_iload_n hx hb dX0_findSteps_31 rfl (lv_at hl 1 rfl) ?_
      refine lv_bipush (v := 9) hx hb dX0_findSteps_32 (by decide) ?_
      refine lv_icmp_gt (tgt := 103) hx hb dX0_findSteps_34 (by decide) (fun c_34 => ?_) (fun c_34 => ?_)
      · replace hf := ds_t c_34 hf
        obtain ⟨rr, hr_0, hf⟩ := ds_ob hf
        have hf := Option.some.inj hf
        subst hf
        rw [eG1] at hG
        replace hG : G0 rr := hG
        have hf := hr_0
        exact h1 (J_103 o_stepsFound o_firstX o_firstY o_secondX o_secondY _ hf hG _ _ hP hD hS _ (lv_sub hl [0] rfl))
      · replace hf := ds_f c_34 hf
        refine lv_bipush (v := -9) hx hb dX0_findSteps_37 (by decide) ?_
        refine lv_istore_n (lv' := [(2, .int (-9 : Int32)), (0, .ref h_o), (1, .int v1)]) hx hb dX0_findSteps_39 rfl hl (by decide) rfl (fun ls hl => ?_)
        exact h1 (J_40 v1 1000 (-9 : Int32) o_firstX o_firstY _ hf hG _ _ hP hD hS _ (lv_sub hl [1, 2, 0] rfl))
  unfold fX0_findSteps at hf
  refine lv_aload_n hx hb dX0_findSteps_0 rfl (lv_at hl 0 rfl) ?_
  refine va_get (D := (dC, dI)) (ci := 0) (v := .int o_stepsFound) (C := RX0) (T := TX0) (N := 9) hx hb hts (fun w h => List.mem_cons_of_mem _ (kc_X0 w h)) hown hK hP 0 rfl rfl 4 (by decide) (hg kw_127) (fun _ h9 => h9) rfl dX0_findSteps_1 ?_
  refine lv_if_eq (tgt := 8) hx hb dX0_findSteps_4 (by decide) (fun c_4 => ?_) (fun c_4 => ?_)
  · replace hf := ds_t c_4 hf
    refine lv_aload_n hx hb dX0_findSteps_8 rfl (lv_at hl 0 rfl) ?_
    refine lv_iconst (v := 0) hx hb dX0_findSteps_9 (by decide) ?_
    refine va_put (D := (dC, dI)) (ci := 0) (v := .int (0 : Int32)) (ty := tyX0 5) (C := RX0) (T := TX0) (N := 9) hx hb hts (fun w h => List.mem_cons_of_mem _ (kc_X0 w h)) tyX0 tyX0_ok nmX0 hown hK hP hD hS 0 rfl rfl 5 (by decide) (hg kw_203) (fun _ h9 => h9) rfl (by decide +kernel) rfl rfl (Nat.le_of_ble_eq_true rfl) dX0_findSteps_10 (fun H locs hP hD hS => ?_)
    have hP : va_P (dC, dI) vwCl [(h_o, .inr (0, [.ref h_o_seen, .ref h_o_turned, .ref h_o_found, .int o_looked, .int o_stepsFound, .int (0 : Int32), .int o_firstY, .int o_secondX, .int o_secondY])), (h_o_seen, .inr (5, [.int o_seen_wide, .int o_seen_high, .int o_seen_hex, .long o_seen_ones, .long o_seen_twos])), (h_o_found, .inl (ca 1, 12, .inr (.inl o_found_r)))] H := hP
    have hD : va_D A [(h_o, .inr (0, [.ref h_o_seen, .ref h_o_turned, .ref h_o_found, .int o_looked, .int o_stepsFound, .int (0 : Int32), .int o_firstY, .int o_secondX, .int o_secondY])), (h_o_seen, .inr (5, [.int o_seen_wide, .int o_seen_high, .int o_seen_hex, .long o_seen_ones, .long o_seen_twos])), (h_o_found, .inl (ca 1, 12, .inr (.inl o_found_r)))] := hD
    refine lv_aload_n hx hb dX0_findSteps_13 rfl (lv_at hl 0 rfl) ?_
    refine lv_iconst (v := 0) hx hb dX0_findSteps_14 (by decide) ?_
    refine va_put (D := (dC, dI)) (ci := 0) (v := .int (0 : Int32)) (ty := tyX0 6) (C := RX0) (T := TX0) (N := 9) hx hb hts (fun w h => List.mem_cons_of_mem _ (kc_X0 w h)) tyX0 tyX0_ok nmX0 hown hK hP hD hS 0 rfl rfl 6 (by decide) (hg kw_202) (fun _ h9 => h9) rfl (by decide +kernel) rfl rfl (Nat.le_of_ble_eq_true rfl) dX0_findSteps_15 (fun H locs hP hD hS => ?_)
    have hP : va_P (dC, dI) vwCl [(h_o, .inr (0, [.ref h_o_seen, .ref h_o_turned, .ref h_o_found, .int o_looked, .int o_stepsFound, .int (0 : Int32), .int (0 : Int32), .int o_secondX, .int o_secondY])), (h_o_seen, .inr (5, [.int o_seen_wide, .int o_seen_high, .int o_seen_hex, .long o_seen_ones, .long o_seen_twos])), (h_o_found, .inl (ca 1, 12, .inr (.inl o_found_r)))] H := hP
    have hD : va_D A [(h_o, .inr (0, [.ref h_o_seen, .ref h_o_turned, .ref h_o_found, .int o_looked, .int o_stepsFound, .int (0 : Int32), .int (0 : Int32), .int o_secondX, .int o_secondY])), (h_o_seen, .inr (5, [.int o_seen_wide, .int o_seen_high, .int o_seen_hex, .long o_seen_ones, .long o_seen_twos])), (h_o_found, .inl (ca 1, 12, .inr (.inl o_found_r)))] := hD
    refine lv_aload_n hx hb dX0_findSteps_18 rfl (lv_at hl 0 rfl) ?_
    refine lv_iconst (v := 0) hx hb dX0_findSteps_19 (by decide) ?_
    refine va_put (D := (dC, dI)) (ci := 0) (v := .int (0 : Int32)) (ty := tyX0 7) (C := RX0) (T := TX0) (N := 9) hx hb hts (fun w h => List.mem_cons_of_mem _ (kc_X0 w h)) tyX0 tyX0_ok nmX0 hown hK hP hD hS 0 rfl rfl 7 (by decide) (hg kw_204) (fun _ h9 => h9) rfl (by decide +kernel) rfl rfl (Nat.le_of_ble_eq_true rfl) dX0_findSteps_20 (fun H locs hP hD hS => ?_)
    have hP : va_P (dC, dI) vwCl [(h_o, .inr (0, [.ref h_o_seen, .ref h_o_turned, .ref h_o_found, .int o_looked, .int o_stepsFound, .int (0 : Int32), .int (0 : Int32), .int (0 : Int32), .int o_secondY])), (h_o_seen, .inr (5, [.int o_seen_wide, .int o_seen_high, .int o_seen_hex, .long o_seen_ones, .long o_seen_twos])), (h_o_found, .inl (ca 1, 12, .inr (.inl o_found_r)))] H := hP
    have hD : va_D A [(h_o, .inr (0, [.ref h_o_seen, .ref h_o_turned, .ref h_o_found, .int o_looked, .int o_stepsFound, .int (0 : Int32), .int (0 : Int32), .int (0 : Int32), .int o_secondY])), (h_o_seen, .inr (5, [.int o_seen_wide, .int o_seen_high, .int o_seen_hex, .long o_seen_ones, .long o_seen_twos])), (h_o_found, .inl (ca 1, 12, .inr (.inl o_found_r)))] := hD
    refine lv_aload_n hx hb dX0_findSteps_23 rfl (lv_at hl 0 rfl) ?_
    refine lv_iconst (v := 0) hx hb dX0_findSteps_24 (by decide) ?_
    refine va_put (D := (dC, dI)) (ci := 0) (v := .int (0 : Int32)) (ty := tyX0 8) (C := RX0) (T := TX0) (N := 9) hx hb hts (fun w h => List.mem_cons_of_mem _ (kc_X0 w h)) tyX0 tyX0_ok nmX0 hown hK hP hD hS 0 rfl rfl 8 (by decide) (hg kw_205) (fun _ h9 => h9) rfl (by decide +kernel) rfl rfl (Nat.le_of_ble_eq_true rfl) dX0_findSteps_25 (fun H locs hP hD hS => ?_)
    have hP : va_P (dC, dI) vwCl [(h_o, .inr (0, [.ref h_o_seen, .ref h_o_turned, .ref h_o_found, .int o_looked, .int o_stepsFound, .int (0 : Int32), .int (0 : Int32), .int (0 : Int32), .int (0 : Int32)])), (h_o_seen, .inr (5, [.int o_seen_wide, .int o_seen_high, .int o_seen_hex, .long o_seen_ones, .long o_seen_twos])), (h_o_found, .inl (ca 1, 12, .inr (.inl o_found_r)))] H := hP
    have hD : va_D A [(h_o, .inr (0, [.ref h_o_seen, .ref h_o_turned, .ref h_o_found, .int o_looked, .int o_stepsFound, .int (0 : Int32), .int (0 : Int32), .int (0 : Int32), .int (0 : Int32)])), (h_o_seen, .inr (5, [.int o_seen_wide, .int o_seen_high, .int o_seen_hex, .long o_seen_ones, .long o_seen_twos])), (h_o_found, .inl (ca 1, 12, .inr (.inl o_found_r)))] := hD
    refine lv_bipush (v := -9) hx hb dX0_findSteps_28 (by decide) ?_
    refine lv_istore_n (lv' := [(1, .int (-9 : Int32)), (0, .ref h_o)]) hx hb dX0_findSteps_30 rfl hl (by decide) rfl (fun ls hl => ?_)
    exact h1 (J_31 o_stepsFound (0 : Int32) (0 : Int32) 1000 (-9 : Int32) (0 : Int32) (0 : Int32) _ hf hG _ _ hP hD hS _ (lv_sub hl [1, 0] rfl))
  · replace hf := ds_f c_4 hf
    have hf := Option.some.inj hf
    subst hf
    rw [eG0] at hG
    have hG : _ = res := hG
    subst hG
    exact W.vret hx hb hr (fun t ht hW => ⟨⟨(), rfl, trivial, by rw [ht]; exact hP, hD⟩, hS.F ht⟩) hS.2.2 dX0_findSteps_7
theorem dX0_hasHalfSum_0 : decode cX0_hasHalfSum 0 = .ok (.iload_n 2, 1) := by decide +kernel
theorem dX0_hasHalfSum_1 : decode cX0_hasHalfSum 1 = .ok (.aload_n 0, 1) := by decide +kernel
theorem dX0_hasHalfSum_2 : decode cX0_hasHalfSum 2 = .ok (.getfield 12, 3) := by decide +kernel
theorem dX0_hasHalfSum_5 : decode cX0_hasHalfSum 5 = .ok (.getfield 39, 3) := by decide +kernel
theorem dX0_hasHalfSum_8 : decode cX0_hasHalfSum 8 = .ok (.iload_n 1, 1) := by decide +kernel
theorem dX0_hasHalfSum_9 : decode cX0_hasHalfSum 9 = .ok (.iload_n 2, 1) := by decide +kernel
theorem dX0_hasHalfSum_10 : decode cX0_hasHalfSum 10 = .ok (.iload_n 3, 1) := by decide +kernel
theorem dX0_hasHalfSum_11 : decode cX0_hasHalfSum 11 = .ok (.invokestatic 139, 3) := by decide +kernel
theorem dX0_hasHalfSum_14 : decode cX0_hasHalfSum 14 = .ok (.iadd, 1) := by decide +kernel
theorem dX0_hasHalfSum_15 : decode cX0_hasHalfSum 15 = .ok (.istore 4, 2) := by decide +kernel
theorem dX0_hasHalfSum_17 : decode cX0_hasHalfSum 17 = .ok (.iload_n 3, 1) := by decide +kernel
theorem dX0_hasHalfSum_18 : decode cX0_hasHalfSum 18 = .ok (.aload_n 0, 1) := by decide +kernel
theorem dX0_hasHalfSum_19 : decode cX0_hasHalfSum 19 = .ok (.getfield 12, 3) := by decide +kernel
theorem dX0_hasHalfSum_22 : decode cX0_hasHalfSum 22 = .ok (.getfield 39, 3) := by decide +kernel
theorem dX0_hasHalfSum_25 : decode cX0_hasHalfSum 25 = .ok (.iload_n 1, 1) := by decide +kernel
theorem dX0_hasHalfSum_26 : decode cX0_hasHalfSum 26 = .ok (.iload_n 2, 1) := by decide +kernel
theorem dX0_hasHalfSum_27 : decode cX0_hasHalfSum 27 = .ok (.iload_n 3, 1) := by decide +kernel
theorem dX0_hasHalfSum_28 : decode cX0_hasHalfSum 28 = .ok (.invokestatic 143, 3) := by decide +kernel
theorem dX0_hasHalfSum_31 : decode cX0_hasHalfSum 31 = .ok (.iadd, 1) := by decide +kernel
theorem dX0_hasHalfSum_32 : decode cX0_hasHalfSum 32 = .ok (.istore 5, 2) := by decide +kernel
theorem dX0_hasHalfSum_34 : decode cX0_hasHalfSum 34 = .ok (.iload 4, 2) := by decide +kernel
theorem dX0_hasHalfSum_36 : decode cX0_hasHalfSum 36 = .ok (.iconst 2, 1) := by decide +kernel
theorem dX0_hasHalfSum_37 : decode cX0_hasHalfSum 37 = .ok (.irem, 1) := by decide +kernel
theorem dX0_hasHalfSum_38 : decode cX0_hasHalfSum 38 = .ok (.ifCond .ne 30, 3) := by decide +kernel
theorem dX0_hasHalfSum_41 : decode cX0_hasHalfSum 41 = .ok (.iload 5, 2) := by decide +kernel
theorem dX0_hasHalfSum_43 : decode cX0_hasHalfSum 43 = .ok (.iconst 2, 1) := by decide +kernel
theorem dX0_hasHalfSum_44 : decode cX0_hasHalfSum 44 = .ok (.irem, 1) := by decide +kernel
theorem dX0_hasHalfSum_45 : decode cX0_hasHalfSum 45 = .ok (.ifCond .ne 23, 3) := by decide +kernel
theorem dX0_hasHalfSum_48 : decode cX0_hasHalfSum 48 = .ok (.aload_n 0, 1) := by decide +kernel
theorem dX0_hasHalfSum_49 : decode cX0_hasHalfSum 49 = .ok (.iconst 0, 1) := by decide +kernel
theorem dX0_hasHalfSum_50 : decode cX0_hasHalfSum 50 = .ok (.iload 4, 2) := by decide +kernel
theorem dX0_hasHalfSum_52 : decode cX0_hasHalfSum 52 = .ok (.iconst 2, 1) := by decide +kernel
theorem dX0_hasHalfSum_53 : decode cX0_hasHalfSum 53 = .ok (.idiv, 1) := by decide +kernel
theorem dX0_hasHalfSum_54 : decode cX0_hasHalfSum 54 = .ok (.iload 5, 2) := by decide +kernel
theorem dX0_hasHalfSum_56 : decode cX0_hasHalfSum 56 = .ok (.iconst 2, 1) := by decide +kernel
theorem dX0_hasHalfSum_57 : decode cX0_hasHalfSum 57 = .ok (.idiv, 1) := by decide +kernel
theorem dX0_hasHalfSum_58 : decode cX0_hasHalfSum 58 = .ok (.invokevirtual 119, 3) := by decide +kernel
theorem dX0_hasHalfSum_61 : decode cX0_hasHalfSum 61 = .ok (.ifCond .eq 7, 3) := by decide +kernel
theorem dX0_hasHalfSum_64 : decode cX0_hasHalfSum 64 = .ok (.iconst 1, 1) := by decide +kernel
theorem dX0_hasHalfSum_65 : decode cX0_hasHalfSum 65 = .ok (.goto 4, 3) := by decide +kernel
theorem dX0_hasHalfSum_68 : decode cX0_hasHalfSum 68 = .ok (.iconst 0, 1) := by decide +kernel
theorem dX0_hasHalfSum_69 : decode cX0_hasHalfSum 69 = .ok (.ireturn, 1) := by decide +kernel
def fX0_hasHalfSum (o_seen_wide : Int32) (o_seen_high : Int32) (o_seen_hex : Int32) (o_found_r : Nat → Int64) (p1 : Int32) (p2 : Int32) (p3 : Int32) : Option (Int32) :=
  Option.bind (fX1_turnedX o_seen_hex p1 p2 p3) fun q11 => Option.bind (fX1_turnedY o_seen_hex p1 p2 p3) fun q28 => if (ds_rem (p2 + q11) (2 : Int32)) = 0 then if (ds_rem (p3 + q28) (2 : Int32)) = 0 then Option.bind (fX0_hasSymmetry o_found_r o_seen_wide o_seen_high (0 : Int32) ((p2 + q11) / (2 : Int32)) ((p3 + q28) / (2 : Int32))) fun q58 => if q58 = 0 then some (0 : Int32) else some (1 : Int32) else some (0 : Int32) else some (0 : Int32)
set_option maxHeartbeats 4000000 in
set_option maxRecDepth 100000 in
theorem c_X0_hasHalfSum (l : Launch) (dC : Nat → ClassId) (dI : Nat → Nat → Nat) (ca : Nat → ClassId) (sa : Nat → Nat) (h_o : Nat) (h_o_seen : Nat) (h_o_turned : Nat) (h_o_found : Nat) (sz : Nat) (o_looked : Int32) (o_stepsFound : Int32) (o_firstX : Int32) (o_firstY : Int32) (o_secondX : Int32) (o_secondY : Int32) (o_seen_wide : Int32) (o_seen_high : Int32) (o_seen_hex : Int32) (o_seen_ones : Int64) (o_seen_twos : Int64) (o_found_r : Nat → Int64) (p1 : Int32) (p2 : Int32) (p3 : Int32) (res : Int32) (hf : fX0_hasHalfSum o_seen_wide o_seen_high o_seen_hex o_found_r p1 p2 p3 = some res) : Met l yX0_hasHalfSum (Cond.code yX0_hasHalfSum cX0_hasHalfSum 6 (some .boolean) :: ds_gw) { frames := 3, cells := 0, slots := 0, locals := 67 } (va_Pc [.ref h_o, .int p1, .int p2, .int p3] (ds_Pre dC dI ca sa [(h_o, .inr (0, [.ref h_o_seen, .ref h_o_turned, .ref h_o_found, .int o_looked, .int o_stepsFound, .int o_firstX, .int o_firstY, .int o_secondX, .int o_secondY])), (h_o_seen, .inr (5, [.int o_seen_wide, .int o_seen_high, .int o_seen_hex, .long o_seen_ones, .long o_seen_twos])), (h_o_found, .inl (ca 1, 12, .inr (.inl o_found_r)))] sz)) (va_Qi (fun r (_ : Unit) => r = res) (ds_B dC dI (va_A [(h_o, .inr (0, [.ref h_o_seen, .ref h_o_turned, .ref h_o_found, .int o_looked, .int o_stepsFound, .int o_firstX, .int o_firstY, .int o_secondX, .int o_secondY])), (h_o_seen, .inr (5, [.int o_seen_wide, .int o_seen_high, .int o_seen_hex, .long o_seen_ones, .long o_seen_twos])), (h_o_found, .inl (ca 1, 12, .inr (.inl o_found_r)))] sz) [(h_o, .inr (0, [.ref h_o_seen, .ref h_o_turned, .ref h_o_found, .int o_looked, .int o_stepsFound, .int o_firstX, .int o_firstY, .int o_secondX, .int o_secondY])), (h_o_seen, .inr (5, [.int o_seen_wide, .int o_seen_high, .int o_seen_hex, .long o_seen_ones, .long o_seen_twos])), (h_o_found, .inl (ca 1, 12, .inr (.inl o_found_r)))]) (va_A [(h_o, .inr (0, [.ref h_o_seen, .ref h_o_turned, .ref h_o_found, .int o_looked, .int o_stepsFound, .int o_firstX, .int o_firstY, .int o_secondX, .int o_secondY])), (h_o_seen, .inr (5, [.int o_seen_wide, .int o_seen_high, .int o_seen_hex, .long o_seen_ones, .long o_seen_twos])), (h_o_found, .inl (ca 1, 12, .inr (.inl o_found_r)))] sz)) 0 0 (va_A [(h_o, .inr (0, [.ref h_o_seen, .ref h_o_turned, .ref h_o_found, .int o_looked, .int o_stepsFound, .int o_firstX, .int o_firstY, .int o_secondX, .int o_secondY])), (h_o_seen, .inr (5, [.int o_seen_wide, .int o_seen_high, .int o_seen_hex, .long o_seen_ones, .long o_seen_twos])), (h_o_found, .inl (ca 1, 12, .inr (.inl o_found_r)))] sz) := by
  refine Met.ofW (cc := cX0_hasHalfSum) (maxL := 6) (ret := (some .boolean)) (by decide) rfl ?_
  intro p e s m args below meth c s₁ B hml hv
  obtain ⟨rfl, hsz, hP, hK, hD0, hE⟩ := hv
  have hx := B.exec
  have hb := B.bytes
  have hr := B.returns
  have hts := atoms_spec (ws := Cond.code yX0_hasHalfSum cX0_hasHalfSum 6 (some .boolean) :: ds_gw) B.pre
  have hg : ∀ {w : Cond}, w ∈ ds_gw → w.before _ s = true := fun h => hts _ (List.mem_cons_of_mem _ h)
  have hown : s.vm.findClass RX0 = some m.cls := findClass_of_methodNamed B.named
  have hlocks := B.notSynchronized
  subst hsz
  have hD := hD0.self (sz := s.heap.size)
  generalize hAe : va_A [(h_o, .inr (0, [.ref h_o_seen, .ref h_o_turned, .ref h_o_found, .int o_looked, .int o_stepsFound, .int o_firstX, .int o_firstY, .int o_secondX, .int o_secondY])), (h_o_seen, .inr (5, [.int o_seen_wide, .int o_seen_high, .int o_seen_hex, .long o_seen_ones, .long o_seen_twos])), (h_o_found, .inl (ca 1, 12, .inr (.inl o_found_r)))] s.heap.size = A at hD hE ⊢
  have hA : ∀ q : Nat, s.heap.size ≤ q → A q := fun q h => by rw [← hAe]; exact Or.inr h
  have hS : va_S A s.heap s.heap [] := va_S.rf
  have hl := lv_entry ([.ref h_o, .int p1, .int p2, .int p3]) (n := 6) (Nat.le_of_ble_eq_true rfl)
  rw [lg_entry_eq]
  generalize (lg_sl ([.ref h_o, .int p1, .int p2, .int p3]) ++ List.replicate (6 - (lg_sl ([.ref h_o, .int p1, .int p2, .int p3])).length) Slot.unset).toArray = ls at hl ⊢
  have hl : lv_has ls 6 [(0, .ref h_o), (1, .int p1), (2, .int p2), (3, .int p3)] := hl
  obtain ⟨G0, eG0⟩ : ∃ G : Int32 → Prop, G = (fun r => r = res) := ⟨_, rfl⟩
  obtain ⟨rr, hrr⟩ : ∃ z, z = res := ⟨_, rfl⟩
  rw [← hrr] at hf
  have hG : G0 rr := by subst eG0; exact hrr
  unfold fX0_hasHalfSum at hf
  refine lv_iload_n hx hb dX0_hasHalfSum_0 rfl (lv_at hl 2 rfl) ?_
  refine lv_aload_n hx hb dX0_hasHalfSum_1 rfl (lv_at hl 0 rfl) ?_
  refine va_get (D := (dC, dI)) (ci := 0) (v := .ref h_o_seen) (C := RX0) (T := TX0) (N := 9) hx hb hts (fun w h => List.mem_cons_of_mem _ (kc_X0 w h)) hown hK hP 0 rfl rfl 0 (by decide) (hg kw_129) (fun _ h9 => h9) rfl dX0_hasHalfSum_2 ?_
  refine va_getN (D := (dC, dI)) (ci := 5) (v := .int o_seen_hex) (C := RX6) (T := TX6) (N := 5) hx hb hts (fun w h => List.mem_cons_of_mem _ (kc_X6 w h)) hown hK hP 1 rfl rfl 2 (by decide) (va_Nw.use rfl (hE.1 _ kw_135)) (fun _ h9 => h9) rfl dX0_hasHalfSum_5 ?_
  refine lv_iload_n hx hb dX0_hasHalfSum_8 rfl (lv_at hl 1 rfl) ?_
  refine lv_iload_n hx hb dX0_hasHalfSum_9 rfl (lv_at hl 2 rfl) ?_
  refine lv_iload_n hx hb dX0_hasHalfSum_10 rfl (lv_at hl 3 rfl) ?_
  obtain ⟨q11, hq11, hf⟩ := ds_ob hf
  refine ds_calli (wr := [(h_o, .inr (0, [.ref h_o_seen, .ref h_o_turned, .ref h_o_found, .int o_looked, .int o_stepsFound, .int o_firstX, .int o_firstY, .int o_secondX, .int o_secondY])), (h_o_seen, .inr (5, [.int o_seen_wide, .int o_seen_high, .int o_seen_hex, .long o_seen_ones, .long o_seen_twos])), (h_o_found, .inl (ca 1, 12, .inr (.inl o_found_r)))]) (va_runS (As := [.int o_seen_hex, .int p1, .int p2, .int p3]) (rest := [.int p2]) ⟨hx, hb, hml, hown, hts⟩ (c_X1_turnedX l dC dI ca sa  s.heap.size  o_seen_hex p1 p2 p3 q11 hq11) (va_cwS 4 hts (ds_gS kw_210 kw_93 kw_2 kw_94) rfl rfl rfl (by decide +kernel) ⟨Nat.le_of_ble_eq_true rfl, Nat.le_of_ble_eq_true rfl⟩) ⟨ds_blind, ds_at hP hD hK hE hS hA [] rfl rfl _⟩ rfl rfl hl.1 rfl (lv_room (Nat.le_of_ble_eq_true rfl)) dX0_hasHalfSum_11 ⟨Nat.zero_le _, Nat.zero_le _⟩) hP hD hS hA [] [0, 1, 2] rfl rfl rfl (by decide) (fun H locs hP hD hS => ?_)
  have hP : va_P (dC, dI) vwCl [(h_o, .inr (0, [.ref h_o_seen, .ref h_o_turned, .ref h_o_found, .int o_looked, .int o_stepsFound, .int o_firstX, .int o_firstY, .int o_secondX, .int o_secondY])), (h_o_seen, .inr (5, [.int o_seen_wide, .int o_seen_high, .int o_seen_hex, .long o_seen_ones, .long o_seen_twos])), (h_o_found, .inl (ca 1, 12, .inr (.inl o_found_r)))] H := hP
  have hD : va_D A [(h_o, .inr (0, [.ref h_o_seen, .ref h_o_turned, .ref h_o_found, .int o_looked, .int o_stepsFound, .int o_firstX, .int o_firstY, .int o_secondX, .int o_secondY])), (h_o_seen, .inr (5, [.int o_seen_wide, .int o_seen_high, .int o_seen_hex, .long o_seen_ones, .long o_seen_twos])), (h_o_found, .inl (ca 1, 12, .inr (.inl o_found_r)))] := hD
  refine lv_iadd hx hb dX0_hasHalfSum_14 ?_
  refine lv_istore (lv' := [(4, .int (p2 + q11)), (0, .ref h_o), (1, .int p1), (2, .int p2), (3, .int p3)]) hx hb dX0_hasHalfSum_15 hl (by decide) rfl (fun ls hl => ?_)
  refine lv_iload_n hx hb dX0_hasHalfSum_17 rfl (lv_at hl 4 rfl) ?_
  refine lv_aload_n hx hb dX0_hasHalfSum_18 rfl (lv_at hl 1 rfl) ?_
  refine va_get (D := (dC, dI)) (ci := 0) (v := .ref h_o_seen) (C := RX0) (T := TX0) (N := 9) hx hb hts (fun w h => List.mem_cons_of_mem _ (kc_X0 w h)) hown hK hP 0 rfl rfl 0 (by decide) (hg kw_129) (fun _ h9 => h9) rfl dX0_hasHalfSum_19 ?_
  refine va_getN (D := (dC, dI)) (ci := 5) (v := .int o_seen_hex) (C := RX6) (T := TX6) (N := 5) hx hb hts (fun w h => List.mem_cons_of_mem _ (kc_X6 w h)) hown hK hP 1 rfl rfl 2 (by decide) (va_Nw.use rfl (hE.1 _ kw_135)) (fun _ h9 => h9) rfl dX0_hasHalfSum_22 ?_
  refine lv_iload_n hx hb dX0_hasHalfSum_25 rfl (lv_at hl 2 rfl) ?_
  refine lv_iload_n hx hb dX0_hasHalfSum_26 rfl (lv_at hl 3 rfl) ?_
  refine lv_iload_n hx hb dX0_hasHalfSum_27 rfl (lv_at hl 4 rfl) ?_
  obtain ⟨q28, hq28, hf⟩ := ds_ob hf
  refine ds_calli (wr := [(h_o, .inr (0, [.ref h_o_seen, .ref h_o_turned, .ref h_o_found, .int o_looked, .int o_stepsFound, .int o_firstX, .int o_firstY, .int o_secondX, .int o_secondY])), (h_o_seen, .inr (5, [.int o_seen_wide, .int o_seen_high, .int o_seen_hex, .long o_seen_ones, .long o_seen_twos])), (h_o_found, .inl (ca 1, 12, .inr (.inl o_found_r)))]) (va_runS (As := [.int o_seen_hex, .int p1, .int p2, .int p3]) (rest := [.int p3]) ⟨hx, hb, hml, hown, hts⟩ (c_X1_turnedY l dC dI ca sa  H.size  o_seen_hex p1 p2 p3 q28 hq28) (va_cwS 4 hts (ds_gS kw_211 kw_96 kw_2 kw_97) rfl rfl rfl (by decide +kernel) ⟨Nat.le_of_ble_eq_true rfl, Nat.le_of_ble_eq_true rfl⟩) ⟨ds_blind, ds_at hP hD hK hE hS hA [] rfl rfl _⟩ rfl rfl hl.1 rfl (lv_room (Nat.le_of_ble_eq_true rfl)) dX0_hasHalfSum_28 ⟨Nat.zero_le _, Nat.zero_le _⟩) hP hD hS hA [] [0, 1, 2] rfl rfl rfl (by decide) (fun H locs hP hD hS => ?_)
  have hP : va_P (dC, dI) vwCl [(h_o, .inr (0, [.ref h_o_seen, .ref h_o_turned, .ref h_o_found, .int o_looked, .int o_stepsFound, .int o_firstX, .int o_firstY, .int o_secondX, .int o_secondY])), (h_o_seen, .inr (5, [.int o_seen_wide, .int o_seen_high, .int o_seen_hex, .long o_seen_ones, .long o_seen_twos])), (h_o_found, .inl (ca 1, 12, .inr (.inl o_found_r)))] H := hP
  have hD : va_D A [(h_o, .inr (0, [.ref h_o_seen, .ref h_o_turned, .ref h_o_found, .int o_looked, .int o_stepsFound, .int o_firstX, .int o_firstY, .int o_secondX, .int o_secondY])), (h_o_seen, .inr (5, [.int o_seen_wide, .int o_seen_high, .int o_seen_hex, .long o_seen_ones, .long o_seen_twos])), (h_o_found, .inl (ca 1, 12, .inr (.inl o_found_r)))] := hD
  refine lv_iadd hx hb dX0_hasHalfSum_31 ?_
  refine lv_istore (lv' := [(5, .int (p3 + q28)), (4, .int (p2 + q11)), (0, .ref h_o), (1, .int p1), (2, .int p2), (3, .int p3)]) hx hb dX0_hasHalfSum_32 hl (by decide) rfl (fun ls hl => ?_)
  refine lv_iload hx hb dX0_hasHalfSum_34 (lv_at hl 1 rfl) ?_
  refine lv_iconst (v := 2) hx hb dX0_hasHalfSum_36 (by decide) ?_
  refine lv_irem hx hb dX0_hasHalfSum_37 (by decide) ?_
  refine lv_if_ne (tgt := 68) hx hb dX0_hasHalfSum_38 (by decide) (fun c_38 => ?_) (fun c_38 => ?_)
  · replace hf := ds_f c_38 hf
    refine lv_iconst (v := 0) hx hb dX0_hasHalfSum_68 (by decide) ?_
    have hf := Option.some.inj hf
    subst hf
    rw [eG0] at hG
    have hG : _ = res := hG
    subst hG
    exact W.zret (v := (0 : Int32)) (ty := .boolean) hx hb hr rfl (fun t ht hW => ⟨⟨(0 : Int32), (), rfl, rfl, by rw [ht]; exact hP, hD⟩, hS.F ht⟩) hS.2.2 dX0_hasHalfSum_69
  · replace hf := ds_t c_38 hf
    refine lv_iload hx hb dX0_hasHalfSum_41 (lv_at hl 0 rfl) ?_
    refine lv_iconst (v := 2) hx hb dX0_hasHalfSum_43 (by decide) ?_
    refine lv_irem hx hb dX0_hasHalfSum_44 (by decide) ?_
    refine lv_if_ne (tgt := 68) hx hb dX0_hasHalfSum_45 (by decide) (fun c_45 => ?_) (fun c_45 => ?_)
    · replace hf := ds_f c_45 hf
      refine lv_iconst (v := 0) hx hb dX0_hasHalfSum_68 (by decide) ?_
      have hf := Option.some.inj hf
      subst hf
      rw [eG0] at hG
      have hG : _ = res := hG
      subst hG
      exact W.zret (v := (0 : Int32)) (ty := .boolean) hx hb hr rfl (fun t ht hW => ⟨⟨(0 : Int32), (), rfl, rfl, by rw [ht]; exact hP, hD⟩, hS.F ht⟩) hS.2.2 dX0_hasHalfSum_69
    · replace hf := ds_t c_45 hf
      refine lv_aload_n hx hb dX0_hasHalfSum_48 rfl (lv_at hl 2 rfl) ?_
      refine lv_iconst (v := 0) hx hb dX0_hasHalfSum_49 (by decide) ?_
      refine lv_iload hx hb dX0_hasHalfSum_50 (lv_at hl 1 rfl) ?_
      refine lv_iconst (v := 2) hx hb dX0_hasHalfSum_52 (by decide) ?_
      refine lv_idiv hx hb dX0_hasHalfSum_53 (by decide) ?_
      refine lv_iload hx hb dX0_hasHalfSum_54 (lv_at hl 0 rfl) ?_
      refine lv_iconst (v := 2) hx hb dX0_hasHalfSum_56 (by decide) ?_
      refine lv_idiv hx hb dX0_hasHalfSum_57 (by decide) ?_
      obtain ⟨q58, hq58, hf⟩ := ds_ob hf
      refine ds_calli (wr := []) (va_runV (As := [.int (0 : Int32), .int ((p2 + q11) / (2 : Int32)), .int ((p3 + q28) / (2 : Int32))]) (rest := []) ⟨hx, hb, hml, hown, hts⟩ (c_X0_hasSymmetry l dC dI ca sa h_o h_o_seen h_o_turned h_o_found H.size o_looked o_stepsFound o_firstX o_firstY o_secondX o_secondY o_found_r o_seen_wide o_seen_high o_seen_hex o_seen_ones o_seen_twos (0 : Int32) ((p2 + q11) / (2 : Int32)) ((p3 + q28) / (2 : Int32)) q58 hq58) (cwV 3 hts (ds_gV kw_181 kw_182 kw_183 kw_154 kw_184) rfl rfl rfl (by decide +kernel) ⟨Nat.le_of_ble_eq_true rfl, Nat.le_of_ble_eq_true rfl⟩) ⟨ds_blind, va_recv hK hP (ci := 0) (q0 := 0) rfl rfl, ds_at hP hD hK hE hS hA [0, 2, 1] rfl rfl _⟩ rfl rfl hl.1 rfl (lv_room (Nat.le_of_ble_eq_true rfl)) dX0_hasHalfSum_58 ⟨Nat.zero_le _, Nat.zero_le _⟩) hP hD hS hA [0, 2, 1] [] rfl rfl rfl (by decide) (fun H locs hP hD hS => ?_)
      have hP : va_P (dC, dI) vwCl [(h_o, .inr (0, [.ref h_o_seen, .ref h_o_turned, .ref h_o_found, .int o_looked, .int o_stepsFound, .int o_firstX, .int o_firstY, .int o_secondX, .int o_secondY])), (h_o_found, .inl (ca 1, 12, .inr (.inl o_found_r))), (h_o_seen, .inr (5, [.int o_seen_wide, .int o_seen_high, .int o_seen_hex, .long o_seen_ones, .long o_seen_twos]))] H := hP
      have hD : va_D A [(h_o, .inr (0, [.ref h_o_seen, .ref h_o_turned, .ref h_o_found, .int o_looked, .int o_stepsFound, .int o_firstX, .int o_firstY, .int o_secondX, .int o_secondY])), (h_o_found, .inl (ca 1, 12, .inr (.inl o_found_r))), (h_o_seen, .inr (5, [.int o_seen_wide, .int o_seen_high, .int o_seen_hex, .long o_seen_ones, .long o_seen_twos]))] := hD
      refine lv_if_eq (tgt := 68) hx hb dX0_hasHalfSum_61 (by decide) (fun c_61 => ?_) (fun c_61 => ?_)
      · replace hf := ds_t c_61 hf
        refine lv_iconst (v := 0) hx hb dX0_hasHalfSum_68 (by decide) ?_
        have hf := Option.some.inj hf
        subst hf
        rw [eG0] at hG
        have hG : _ = res := hG
        subst hG
        exact W.zret (v := (0 : Int32)) (ty := .boolean) hx hb hr rfl (fun t ht hW => ⟨⟨(0 : Int32), (), rfl, rfl, by rw [ht]; exact (hP.sub [0, 2, 1] rfl), (hD.sub [0, 2, 1] rfl rfl)⟩, hS.F ht⟩) hS.2.2 dX0_hasHalfSum_69
      · replace hf := ds_f c_61 hf
        refine lv_iconst (v := 1) hx hb dX0_hasHalfSum_64 (by decide) ?_
        refine lv_goto (tgt := 69) hx hb dX0_hasHalfSum_65 (by decide) ?_
        have hf := Option.some.inj hf
        subst hf
        rw [eG0] at hG
        have hG : _ = res := hG
        subst hG
        exact W.zret (v := (1 : Int32)) (ty := .boolean) hx hb hr rfl (fun t ht hW => ⟨⟨(1 : Int32), (), rfl, rfl, by rw [ht]; exact (hP.sub [0, 2, 1] rfl), (hD.sub [0, 2, 1] rfl rfl)⟩, hS.F ht⟩) hS.2.2 dX0_hasHalfSum_69
theorem dX0_isParted_0 : decode cX0_isParted 0 = .ok (.aload_n 0, 1) := by decide +kernel
theorem dX0_isParted_1 : decode cX0_isParted 1 = .ok (.iload_n 1, 1) := by decide +kernel
theorem dX0_isParted_2 : decode cX0_isParted 2 = .ok (.aload_n 0, 1) := by decide +kernel
theorem dX0_isParted_3 : decode cX0_isParted 3 = .ok (.getfield 123, 3) := by decide +kernel
theorem dX0_isParted_6 : decode cX0_isParted 6 = .ok (.aload_n 0, 1) := by decide +kernel
theorem dX0_isParted_7 : decode cX0_isParted 7 = .ok (.getfield 127, 3) := by decide +kernel
theorem dX0_isParted_10 : decode cX0_isParted 10 = .ok (.invokevirtual 130, 3) := by decide +kernel
theorem dX0_isParted_13 : decode cX0_isParted 13 = .ok (.ifCond .eq 23, 3) := by decide +kernel
theorem dX0_isParted_16 : decode cX0_isParted 16 = .ok (.aload_n 0, 1) := by decide +kernel
theorem dX0_isParted_17 : decode cX0_isParted 17 = .ok (.iload_n 1, 1) := by decide +kernel
theorem dX0_isParted_18 : decode cX0_isParted 18 = .ok (.aload_n 0, 1) := by decide +kernel
theorem dX0_isParted_19 : decode cX0_isParted 19 = .ok (.getfield 133, 3) := by decide +kernel
theorem dX0_isParted_22 : decode cX0_isParted 22 = .ok (.aload_n 0, 1) := by decide +kernel
theorem dX0_isParted_23 : decode cX0_isParted 23 = .ok (.getfield 136, 3) := by decide +kernel
theorem dX0_isParted_26 : decode cX0_isParted 26 = .ok (.invokevirtual 130, 3) := by decide +kernel
theorem dX0_isParted_29 : decode cX0_isParted 29 = .ok (.ifCond .eq 7, 3) := by decide +kernel
theorem dX0_isParted_32 : decode cX0_isParted 32 = .ok (.iconst 1, 1) := by decide +kernel
theorem dX0_isParted_33 : decode cX0_isParted 33 = .ok (.goto 4, 3) := by decide +kernel
theorem dX0_isParted_36 : decode cX0_isParted 36 = .ok (.iconst 0, 1) := by decide +kernel
theorem dX0_isParted_37 : decode cX0_isParted 37 = .ok (.ireturn, 1) := by decide +kernel
def fX0_isParted (o_firstX : Int32) (o_firstY : Int32) (o_secondX : Int32) (o_secondY : Int32) (o_seen_wide : Int32) (o_seen_high : Int32) (o_seen_hex : Int32) (o_found_r : Nat → Int64) (p1 : Int32) : Option (Int32) :=
  Option.bind (fX0_hasHalfSum o_seen_wide o_seen_high o_seen_hex o_found_r p1 o_firstX o_firstY) fun q10 => if q10 = 0 then some (0 : Int32) else Option.bind (fX0_hasHalfSum o_seen_wide o_seen_high o_seen_hex o_found_r p1 o_secondX o_secondY) fun q26 => if q26 = 0 then some (0 : Int32) else some (1 : Int32)
set_option maxHeartbeats 4000000 in
set_option maxRecDepth 100000 in
theorem c_X0_isParted (l : Launch) (dC : Nat → ClassId) (dI : Nat → Nat → Nat) (ca : Nat → ClassId) (sa : Nat → Nat) (h_o : Nat) (h_o_seen : Nat) (h_o_turned : Nat) (h_o_found : Nat) (sz : Nat) (o_looked : Int32) (o_stepsFound : Int32) (o_firstX : Int32) (o_firstY : Int32) (o_secondX : Int32) (o_secondY : Int32) (o_seen_wide : Int32) (o_seen_high : Int32) (o_seen_hex : Int32) (o_seen_ones : Int64) (o_seen_twos : Int64) (o_found_r : Nat → Int64) (p1 : Int32) (res : Int32) (hf : fX0_isParted o_firstX o_firstY o_secondX o_secondY o_seen_wide o_seen_high o_seen_hex o_found_r p1 = some res) : Met l yX0_isParted (Cond.code yX0_isParted cX0_isParted 2 (some .boolean) :: ds_gw) { frames := 4, cells := 0, slots := 0, locals := 92 } (va_Pc [.ref h_o, .int p1] (ds_Pre dC dI ca sa [(h_o, .inr (0, [.ref h_o_seen, .ref h_o_turned, .ref h_o_found, .int o_looked, .int o_stepsFound, .int o_firstX, .int o_firstY, .int o_secondX, .int o_secondY])), (h_o_seen, .inr (5, [.int o_seen_wide, .int o_seen_high, .int o_seen_hex, .long o_seen_ones, .long o_seen_twos])), (h_o_found, .inl (ca 1, 12, .inr (.inl o_found_r)))] sz)) (va_Qi (fun r (_ : Unit) => r = res) (ds_B dC dI (va_A [(h_o, .inr (0, [.ref h_o_seen, .ref h_o_turned, .ref h_o_found, .int o_looked, .int o_stepsFound, .int o_firstX, .int o_firstY, .int o_secondX, .int o_secondY])), (h_o_seen, .inr (5, [.int o_seen_wide, .int o_seen_high, .int o_seen_hex, .long o_seen_ones, .long o_seen_twos])), (h_o_found, .inl (ca 1, 12, .inr (.inl o_found_r)))] sz) [(h_o, .inr (0, [.ref h_o_seen, .ref h_o_turned, .ref h_o_found, .int o_looked, .int o_stepsFound, .int o_firstX, .int o_firstY, .int o_secondX, .int o_secondY])), (h_o_seen, .inr (5, [.int o_seen_wide, .int o_seen_high, .int o_seen_hex, .long o_seen_ones, .long o_seen_twos])), (h_o_found, .inl (ca 1, 12, .inr (.inl o_found_r)))]) (va_A [(h_o, .inr (0, [.ref h_o_seen, .ref h_o_turned, .ref h_o_found, .int o_looked, .int o_stepsFound, .int o_firstX, .int o_firstY, .int o_secondX, .int o_secondY])), (h_o_seen, .inr (5, [.int o_seen_wide, .int o_seen_high, .int o_seen_hex, .long o_seen_ones, .long o_seen_twos])), (h_o_found, .inl (ca 1, 12, .inr (.inl o_found_r)))] sz)) 0 0 (va_A [(h_o, .inr (0, [.ref h_o_seen, .ref h_o_turned, .ref h_o_found, .int o_looked, .int o_stepsFound, .int o_firstX, .int o_firstY, .int o_secondX, .int o_secondY])), (h_o_seen, .inr (5, [.int o_seen_wide, .int o_seen_high, .int o_seen_hex, .long o_seen_ones, .long o_seen_twos])), (h_o_found, .inl (ca 1, 12, .inr (.inl o_found_r)))] sz) := by
  refine Met.ofW (cc := cX0_isParted) (maxL := 2) (ret := (some .boolean)) (by decide) rfl ?_
  intro p e s m args below meth c s₁ B hml hv
  obtain ⟨rfl, hsz, hP, hK, hD0, hE⟩ := hv
  have hx := B.exec
  have hb := B.bytes
  have hr := B.returns
  have hts := atoms_spec (ws := Cond.code yX0_isParted cX0_isParted 2 (some .boolean) :: ds_gw) B.pre
  have hg : ∀ {w : Cond}, w ∈ ds_gw → w.before _ s = true := fun h => hts _ (List.mem_cons_of_mem _ h)
  have hown : s.vm.findClass RX0 = some m.cls := findClass_of_methodNamed B.named
  have hlocks := B.notSynchronized
  subst hsz
  have hD := hD0.self (sz := s.heap.size)
  generalize hAe : va_A [(h_o, .inr (0, [.ref h_o_seen, .ref h_o_turned, .ref h_o_found, .int o_looked, .int o_stepsFound, .int o_firstX, .int o_firstY, .int o_secondX, .int o_secondY])), (h_o_seen, .inr (5, [.int o_seen_wide, .int o_seen_high, .int o_seen_hex, .long o_seen_ones, .long o_seen_twos])), (h_o_found, .inl (ca 1, 12, .inr (.inl o_found_r)))] s.heap.size = A at hD hE ⊢
  have hA : ∀ q : Nat, s.heap.size ≤ q → A q := fun q h => by rw [← hAe]; exact Or.inr h
  have hS : va_S A s.heap s.heap [] := va_S.rf
  have hl := lv_entry ([.ref h_o, .int p1]) (n := 2) (Nat.le_of_ble_eq_true rfl)
  rw [lg_entry_eq]
  generalize (lg_sl ([.ref h_o, .int p1]) ++ List.replicate (2 - (lg_sl ([.ref h_o, .int p1])).length) Slot.unset).toArray = ls at hl ⊢
  have hl : lv_has ls 2 [(0, .ref h_o), (1, .int p1)] := hl
  obtain ⟨G0, eG0⟩ : ∃ G : Int32 → Prop, G = (fun r => r = res) := ⟨_, rfl⟩
  obtain ⟨rr, hrr⟩ : ∃ z, z = res := ⟨_, rfl⟩
  rw [← hrr] at hf
  have hG : G0 rr := by subst eG0; exact hrr
  unfold fX0_isParted at hf
  refine lv_aload_n hx hb dX0_isParted_0 rfl (lv_at hl 0 rfl) ?_
  refine lv_iload_n hx hb dX0_isParted_1 rfl (lv_at hl 1 rfl) ?_
  refine lv_aload_n hx hb dX0_isParted_2 rfl (lv_at hl 0 rfl) ?_
  refine va_get (D := (dC, dI)) (ci := 0) (v := .int o_firstX) (C := RX0) (T := TX0) (N := 9) hx hb hts (fun w h => List.mem_cons_of_mem _ (kc_X0 w h)) hown hK hP 0 rfl rfl 5 (by decide) (hg kw_203) (fun _ h9 => h9) rfl dX0_isParted_3 ?_
  refine lv_aload_n hx hb dX0_isParted_6 rfl (lv_at hl 0 rfl) ?_
  refine va_get (D := (dC, dI)) (ci := 0) (v := .int o_firstY) (C := RX0) (T := TX0) (N := 9) hx hb hts (fun w h => List.mem_cons_of_mem _ (kc_X0 w h)) hown hK hP 0 rfl rfl 6 (by decide) (hg kw_202) (fun _ h9 => h9) rfl dX0_isParted_7 ?_
  obtain ⟨q10, hq10, hf⟩ := ds_ob hf
  refine ds_calli (wr := []) (va_runV (As := [.int p1, .int o_firstX, .int o_firstY]) (rest := []) ⟨hx, hb, hml, hown, hts⟩ (c_X0_hasHalfSum l dC dI ca sa h_o h_o_seen h_o_turned h_o_found s.heap.size o_looked o_stepsFound o_firstX o_firstY o_secondX o_secondY o_seen_wide o_seen_high o_seen_hex o_seen_ones o_seen_twos o_found_r p1 o_firstX o_firstY q10 hq10) (cwV 3 hts (ds_gV kw_212 kw_213 kw_214 kw_154 kw_215) rfl rfl rfl (by decide +kernel) ⟨Nat.le_of_ble_eq_true rfl, Nat.le_of_ble_eq_true rfl⟩) ⟨ds_blind, va_recv hK hP (ci := 0) (q0 := 0) rfl rfl, ds_at hP hD hK hE hS hA [0, 1, 2] rfl rfl _⟩ rfl rfl hl.1 rfl (lv_room (Nat.le_of_ble_eq_true rfl)) dX0_isParted_10 ⟨Nat.zero_le _, Nat.zero_le _⟩) hP hD hS hA [0, 1, 2] [] rfl rfl rfl (by decide) (fun H locs hP hD hS => ?_)
  have hP : va_P (dC, dI) vwCl [(h_o, .inr (0, [.ref h_o_seen, .ref h_o_turned, .ref h_o_found, .int o_looked, .int o_stepsFound, .int o_firstX, .int o_firstY, .int o_secondX, .int o_secondY])), (h_o_seen, .inr (5, [.int o_seen_wide, .int o_seen_high, .int o_seen_hex, .long o_seen_ones, .long o_seen_twos])), (h_o_found, .inl (ca 1, 12, .inr (.inl o_found_r)))] H := hP
  have hD : va_D A [(h_o, .inr (0, [.ref h_o_seen, .ref h_o_turned, .ref h_o_found, .int o_looked, .int o_stepsFound, .int o_firstX, .int o_firstY, .int o_secondX, .int o_secondY])), (h_o_seen, .inr (5, [.int o_seen_wide, .int o_seen_high, .int o_seen_hex, .long o_seen_ones, .long o_seen_twos])), (h_o_found, .inl (ca 1, 12, .inr (.inl o_found_r)))] := hD
  refine lv_if_eq (tgt := 36) hx hb dX0_isParted_13 (by decide) (fun c_13 => ?_) (fun c_13 => ?_)
  · replace hf := ds_t c_13 hf
    refine lv_iconst (v := 0) hx hb dX0_isParted_36 (by decide) ?_
    have hf := Option.some.inj hf
    subst hf
    rw [eG0] at hG
    have hG : _ = res := hG
    subst hG
    exact W.zret (v := (0 : Int32)) (ty := .boolean) hx hb hr rfl (fun t ht hW => ⟨⟨(0 : Int32), (), rfl, rfl, by rw [ht]; exact hP, hD⟩, hS.F ht⟩) hS.2.2 dX0_isParted_37
  · replace hf := ds_f c_13 hf
    refine lv_aload_n hx hb dX0_isParted_16 rfl (lv_at hl 0 rfl) ?_
    refine lv_iload_n hx hb dX0_isParted_17 rfl (lv_at hl 1 rfl) ?_
    refine lv_aload_n hx hb dX0_isParted_18 rfl (lv_at hl 0 rfl) ?_
    refine va_get (D := (dC, dI)) (ci := 0) (v := .int o_secondX) (C := RX0) (T := TX0) (N := 9) hx hb hts (fun w h => List.mem_cons_of_mem _ (kc_X0 w h)) hown hK hP 0 rfl rfl 7 (by decide) (hg kw_204) (fun _ h9 => h9) rfl dX0_isParted_19 ?_
    refine lv_aload_n hx hb dX0_isParted_22 rfl (lv_at hl 0 rfl) ?_
    refine va_get (D := (dC, dI)) (ci := 0) (v := .int o_secondY) (C := RX0) (T := TX0) (N := 9) hx hb hts (fun w h => List.mem_cons_of_mem _ (kc_X0 w h)) hown hK hP 0 rfl rfl 8 (by decide) (hg kw_205) (fun _ h9 => h9) rfl dX0_isParted_23 ?_
    obtain ⟨q26, hq26, hf⟩ := ds_ob hf
    refine ds_calli (wr := []) (va_runV (As := [.int p1, .int o_secondX, .int o_secondY]) (rest := []) ⟨hx, hb, hml, hown, hts⟩ (c_X0_hasHalfSum l dC dI ca sa h_o h_o_seen h_o_turned h_o_found H.size o_looked o_stepsFound o_firstX o_firstY o_secondX o_secondY o_seen_wide o_seen_high o_seen_hex o_seen_ones o_seen_twos o_found_r p1 o_secondX o_secondY q26 hq26) (cwV 3 hts (ds_gV kw_212 kw_213 kw_214 kw_154 kw_215) rfl rfl rfl (by decide +kernel) ⟨Nat.le_of_ble_eq_true rfl, Nat.le_of_ble_eq_true rfl⟩) ⟨ds_blind, va_recv hK hP (ci := 0) (q0 := 0) rfl rfl, ds_at hP hD hK hE hS hA [0, 1, 2] rfl rfl _⟩ rfl rfl hl.1 rfl (lv_room (Nat.le_of_ble_eq_true rfl)) dX0_isParted_26 ⟨Nat.zero_le _, Nat.zero_le _⟩) hP hD hS hA [0, 1, 2] [] rfl rfl rfl (by decide) (fun H locs hP hD hS => ?_)
    have hP : va_P (dC, dI) vwCl [(h_o, .inr (0, [.ref h_o_seen, .ref h_o_turned, .ref h_o_found, .int o_looked, .int o_stepsFound, .int o_firstX, .int o_firstY, .int o_secondX, .int o_secondY])), (h_o_seen, .inr (5, [.int o_seen_wide, .int o_seen_high, .int o_seen_hex, .long o_seen_ones, .long o_seen_twos])), (h_o_found, .inl (ca 1, 12, .inr (.inl o_found_r)))] H := hP
    have hD : va_D A [(h_o, .inr (0, [.ref h_o_seen, .ref h_o_turned, .ref h_o_found, .int o_looked, .int o_stepsFound, .int o_firstX, .int o_firstY, .int o_secondX, .int o_secondY])), (h_o_seen, .inr (5, [.int o_seen_wide, .int o_seen_high, .int o_seen_hex, .long o_seen_ones, .long o_seen_twos])), (h_o_found, .inl (ca 1, 12, .inr (.inl o_found_r)))] := hD
    refine lv_if_eq (tgt := 36) hx hb dX0_isParted_29 (by decide) (fun c_29 => ?_) (fun c_29 => ?_)
    · replace hf := ds_t c_29 hf
      refine lv_iconst (v := 0) hx hb dX0_isParted_36 (by decide) ?_
      have hf := Option.some.inj hf
      subst hf
      rw [eG0] at hG
      have hG : _ = res := hG
      subst hG
      exact W.zret (v := (0 : Int32)) (ty := .boolean) hx hb hr rfl (fun t ht hW => ⟨⟨(0 : Int32), (), rfl, rfl, by rw [ht]; exact hP, hD⟩, hS.F ht⟩) hS.2.2 dX0_isParted_37
    · replace hf := ds_f c_29 hf
      refine lv_iconst (v := 1) hx hb dX0_isParted_32 (by decide) ?_
      refine lv_goto (tgt := 37) hx hb dX0_isParted_33 (by decide) ?_
      have hf := Option.some.inj hf
      subst hf
      rw [eG0] at hG
      have hG : _ = res := hG
      subst hG
      exact W.zret (v := (1 : Int32)) (ty := .boolean) hx hb hr rfl (fun t ht hW => ⟨⟨(1 : Int32), (), rfl, rfl, by rw [ht]; exact hP, hD⟩, hS.F ht⟩) hS.2.2 dX0_isParted_37
theorem dX0_crossed_0 : decode cX0_crossed 0 = .ok (.iconst 0, 1) := by decide +kernel
theorem dX0_crossed_1 : decode cX0_crossed 1 = .ok (.istore_n 1, 1) := by decide +kernel
theorem dX0_crossed_2 : decode cX0_crossed 2 = .ok (.aload_n 0, 1) := by decide +kernel
theorem dX0_crossed_3 : decode cX0_crossed 3 = .ok (.invokevirtual 106, 3) := by decide +kernel
theorem dX0_crossed_6 : decode cX0_crossed 6 = .ok (.iconst 0, 1) := by decide +kernel
theorem dX0_crossed_7 : decode cX0_crossed 7 = .ok (.istore_n 2, 1) := by decide +kernel
theorem dX0_crossed_8 : decode cX0_crossed 8 = .ok (.iload_n 2, 1) := by decide +kernel
theorem dX0_crossed_9 : decode cX0_crossed 9 = .ok (.aload_n 0, 1) := by decide +kernel
theorem dX0_crossed_10 : decode cX0_crossed 10 = .ok (.getfield 12, 3) := by decide +kernel
theorem dX0_crossed_13 : decode cX0_crossed 13 = .ok (.getfield 39, 3) := by decide +kernel
theorem dX0_crossed_16 : decode cX0_crossed 16 = .ok (.invokestatic 81, 3) := by decide +kernel
theorem dX0_crossed_19 : decode cX0_crossed 19 = .ok (.if_icmp .ge 28, 3) := by decide +kernel
theorem dX0_crossed_22 : decode cX0_crossed 22 = .ok (.aload_n 0, 1) := by decide +kernel
theorem dX0_crossed_23 : decode cX0_crossed 23 = .ok (.iload_n 2, 1) := by decide +kernel
theorem dX0_crossed_24 : decode cX0_crossed 24 = .ok (.invokevirtual 99, 3) := by decide +kernel
theorem dX0_crossed_27 : decode cX0_crossed 27 = .ok (.ifCond .eq 14, 3) := by decide +kernel
theorem dX0_crossed_30 : decode cX0_crossed 30 = .ok (.aload_n 0, 1) := by decide +kernel
theorem dX0_crossed_31 : decode cX0_crossed 31 = .ok (.iload_n 2, 1) := by decide +kernel
theorem dX0_crossed_32 : decode cX0_crossed 32 = .ok (.invokevirtual 109, 3) := by decide +kernel
theorem dX0_crossed_35 : decode cX0_crossed 35 = .ok (.ifCond .ne 6, 3) := by decide +kernel
theorem dX0_crossed_38 : decode cX0_crossed 38 = .ok (.iinc 1 1, 3) := by decide +kernel
theorem dX0_crossed_41 : decode cX0_crossed 41 = .ok (.iinc 2 1, 3) := by decide +kernel
theorem dX0_crossed_44 : decode cX0_crossed 44 = .ok (.goto (-36), 3) := by decide +kernel
theorem dX0_crossed_47 : decode cX0_crossed 47 = .ok (.iload_n 1, 1) := by decide +kernel
theorem dX0_crossed_48 : decode cX0_crossed 48 = .ok (.ireturn, 1) := by decide +kernel
def fX0_crossed_41 (v1 : Int32) (v2 : Int32) : Option ((Int32 × Int32) ⊕ (Int32 × Int32 × Int32 × Int32 × Int32 × Int32)) :=
  some (.inl (v1, (v2 + 1)))
def fX0_crossed_8_b (o_stepsFound : Int32) (o_firstX : Int32) (o_firstY : Int32) (o_secondX : Int32) (o_secondY : Int32) (o_seen_wide : Int32) (o_seen_high : Int32) (o_seen_hex : Int32) (o_found_r : Nat → Int64) (v1 : Int32) (v2 : Int32) : Option ((Int32 × Int32) ⊕ (Int32 × Int32 × Int32 × Int32 × Int32 × Int32)) :=
  Option.bind (fX1_turnings o_seen_hex) fun q16 => if q16 ≤ v2 then some (.inr (v1, o_stepsFound, o_firstX, o_firstY, o_secondX, o_secondY)) else Option.bind (fX0_hasFlip o_seen_hex o_found_r v2) fun q24 => if q24 = 0 then fX0_crossed_41 v1 v2 else Option.bind (fX0_isParted o_firstX o_firstY o_secondX o_secondY o_seen_wide o_seen_high o_seen_hex o_found_r v2) fun q32 => if q32 = 0 then fX0_crossed_41 (v1 + 1) v2 else fX0_crossed_41 v1 v2
def fX0_crossed_8 (o_stepsFound : Int32) (o_firstX : Int32) (o_firstY : Int32) (o_secondX : Int32) (o_secondY : Int32) (o_seen_wide : Int32) (o_seen_high : Int32) (o_seen_hex : Int32) (o_found_r : Nat → Int64) (v1 : Int32) (v2 : Int32) : Option (Int32 × Int32 × Int32 × Int32 × Int32 × Int32) := ds_it (fun s => fX0_crossed_8_b o_stepsFound o_firstX o_firstY o_secondX o_secondY o_seen_wide o_seen_high o_seen_hex o_found_r s.1 s.2) 1000 (v1, v2)
def fX0_crossed (o_stepsFound : Int32) (o_firstX : Int32) (o_firstY : Int32) (o_secondX : Int32) (o_secondY : Int32) (o_seen_wide : Int32) (o_seen_high : Int32) (o_seen_hex : Int32) (o_found_r : Nat → Int64) : Option (Int32 × Int32 × Int32 × Int32 × Int32 × Int32) :=
  Option.bind (fX0_findSteps o_stepsFound o_firstX o_firstY o_secondX o_secondY o_seen_wide o_seen_high o_seen_hex o_found_r) fun q3 => fX0_crossed_8 q3.1 q3.2.1 q3.2.2.1 q3.2.2.2.1 q3.2.2.2.2 o_seen_wide o_seen_high o_seen_hex o_found_r (0 : Int32) (0 : Int32)
set_option maxHeartbeats 4000000 in
set_option maxRecDepth 100000 in
theorem c_X0_crossed (l : Launch) (dC : Nat → ClassId) (dI : Nat → Nat → Nat) (ca : Nat → ClassId) (sa : Nat → Nat) (h_o : Nat) (h_o_seen : Nat) (h_o_turned : Nat) (h_o_found : Nat) (sz : Nat) (o_looked : Int32) (o_stepsFound : Int32) (o_firstX : Int32) (o_firstY : Int32) (o_secondX : Int32) (o_secondY : Int32) (o_seen_wide : Int32) (o_seen_high : Int32) (o_seen_hex : Int32) (o_seen_ones : Int64) (o_seen_twos : Int64) (o_found_r : Nat → Int64) (res : Int32 × Int32 × Int32 × Int32 × Int32 × Int32) (hf : fX0_crossed o_stepsFound o_firstX o_firstY o_secondX o_secondY o_seen_wide o_seen_high o_seen_hex o_found_r = some res) : Met l yX0_crossed (Cond.code yX0_crossed cX0_crossed 3 (some .int) :: ds_gw) { frames := 5, cells := 0, slots := 0, locals := 113 } (va_Pc [.ref h_o] (ds_Pre dC dI ca sa [(h_o, .inr (0, [.ref h_o_seen, .ref h_o_turned, .ref h_o_found, .int o_looked, .int o_stepsFound, .int o_firstX, .int o_firstY, .int o_secondX, .int o_secondY])), (h_o_seen, .inr (5, [.int o_seen_wide, .int o_seen_high, .int o_seen_hex, .long o_seen_ones, .long o_seen_twos])), (h_o_found, .inl (ca 1, 12, .inr (.inl o_found_r)))] sz)) (va_Qi (fun r (_ : Unit) => r = res.1) (ds_B dC dI (va_A [(h_o, .inr (0, [.ref h_o_seen, .ref h_o_turned, .ref h_o_found, .int o_looked, .int o_stepsFound, .int o_firstX, .int o_firstY, .int o_secondX, .int o_secondY])), (h_o_seen, .inr (5, [.int o_seen_wide, .int o_seen_high, .int o_seen_hex, .long o_seen_ones, .long o_seen_twos])), (h_o_found, .inl (ca 1, 12, .inr (.inl o_found_r)))] sz) [(h_o, .inr (0, [.ref h_o_seen, .ref h_o_turned, .ref h_o_found, .int o_looked, .int res.2.1, .int res.2.2.1, .int res.2.2.2.1, .int res.2.2.2.2.1, .int res.2.2.2.2.2])), (h_o_seen, .inr (5, [.int o_seen_wide, .int o_seen_high, .int o_seen_hex, .long o_seen_ones, .long o_seen_twos])), (h_o_found, .inl (ca 1, 12, .inr (.inl o_found_r)))]) (va_A [(h_o, .inr (0, [.ref h_o_seen, .ref h_o_turned, .ref h_o_found, .int o_looked, .int o_stepsFound, .int o_firstX, .int o_firstY, .int o_secondX, .int o_secondY])), (h_o_seen, .inr (5, [.int o_seen_wide, .int o_seen_high, .int o_seen_hex, .long o_seen_ones, .long o_seen_twos])), (h_o_found, .inl (ca 1, 12, .inr (.inl o_found_r)))] sz)) 0 0 (va_A [(h_o, .inr (0, [.ref h_o_seen, .ref h_o_turned, .ref h_o_found, .int o_looked, .int o_stepsFound, .int o_firstX, .int o_firstY, .int o_secondX, .int o_secondY])), (h_o_seen, .inr (5, [.int o_seen_wide, .int o_seen_high, .int o_seen_hex, .long o_seen_ones, .long o_seen_twos])), (h_o_found, .inl (ca 1, 12, .inr (.inl o_found_r)))] sz) := by
  refine Met.ofW (cc := cX0_crossed) (maxL := 3) (ret := (some .int)) (by decide) rfl ?_
  intro p e s m args below meth c s₁ B hml hv
  obtain ⟨rfl, hsz, hP, hK, hD0, hE⟩ := hv
  have hx := B.exec
  have hb := B.bytes
  have hr := B.returns
  have hts := atoms_spec (ws := Cond.code yX0_crossed cX0_crossed 3 (some .int) :: ds_gw) B.pre
  have hg : ∀ {w : Cond}, w ∈ ds_gw → w.before _ s = true := fun h => hts _ (List.mem_cons_of_mem _ h)
  have hown : s.vm.findClass RX0 = some m.cls := findClass_of_methodNamed B.named
  have hlocks := B.notSynchronized
  subst hsz
  have hD := hD0.self (sz := s.heap.size)
  generalize hAe : va_A [(h_o, .inr (0, [.ref h_o_seen, .ref h_o_turned, .ref h_o_found, .int o_looked, .int o_stepsFound, .int o_firstX, .int o_firstY, .int o_secondX, .int o_secondY])), (h_o_seen, .inr (5, [.int o_seen_wide, .int o_seen_high, .int o_seen_hex, .long o_seen_ones, .long o_seen_twos])), (h_o_found, .inl (ca 1, 12, .inr (.inl o_found_r)))] s.heap.size = A at hD hE ⊢
  have hA : ∀ q : Nat, s.heap.size ≤ q → A q := fun q h => by rw [← hAe]; exact Or.inr h
  have hS : va_S A s.heap s.heap [] := va_S.rf
  have hl := lv_entry ([.ref h_o]) (n := 3) (Nat.le_of_ble_eq_true rfl)
  rw [lg_entry_eq]
  generalize (lg_sl ([.ref h_o]) ++ List.replicate (3 - (lg_sl ([.ref h_o])).length) Slot.unset).toArray = ls at hl ⊢
  have hl : lv_has ls 3 [(0, .ref h_o)] := hl
  obtain ⟨G0, eG0⟩ : ∃ G : (Int32 × Int32 × Int32 × Int32 × Int32 × Int32) → Prop, G = (fun r => r = res) := ⟨_, rfl⟩
  obtain ⟨rr, hrr⟩ : ∃ z, z = res := ⟨_, rfl⟩
  rw [← hrr] at hf
  have hG : G0 rr := by subst eG0; exact hrr
  refine ds_cap (fun WW h1 h2 => ?_)
  have J_8 : ∀ (o_stepsFound : Int32) (o_firstX : Int32) (o_firstY : Int32) (o_secondX : Int32) (o_secondY : Int32) (n : Nat) (v1 : Int32) (v2 : Int32) (rr : Int32 × Int32 × Int32 × Int32 × Int32 × Int32) (hf : ds_it (fun s => fX0_crossed_8_b o_stepsFound o_firstX o_firstY o_secondX o_secondY o_seen_wide o_seen_high o_seen_hex o_found_r s.1 s.2) n (v1, v2) = some rr) (hG : G0 rr) (H : Heap) (locs : List Loc) (hP : va_P (dC, dI) vwCl [(h_o, .inr (0, [.ref h_o_seen, .ref h_o_turned, .ref h_o_found, .int o_looked, .int o_stepsFound, .int o_firstX, .int o_firstY, .int o_secondX, .int o_secondY])), (h_o_seen, .inr (5, [.int o_seen_wide, .int o_seen_high, .int o_seen_hex, .long o_seen_ones, .long o_seen_twos])), (h_o_found, .inl (ca 1, 12, .inr (.inl o_found_r)))] H) (hD : va_D A [(h_o, .inr (0, [.ref h_o_seen, .ref h_o_turned, .ref h_o_found, .int o_looked, .int o_stepsFound, .int o_firstX, .int o_firstY, .int o_secondX, .int o_secondY])), (h_o_seen, .inr (5, [.int o_seen_wide, .int o_seen_high, .int o_seen_hex, .long o_seen_ones, .long o_seen_twos])), (h_o_found, .inl (ca 1, 12, .inr (.inl o_found_r)))]) (hS : va_S A s.heap H locs) (ls : Array Slot) (hl : lv_has ls 3 [(0, .ref h_o), (1, .int v1), (2, .int v2)]), WW H locs (F0 m 8 ls []) := by
    intro o_stepsFound o_firstX o_firstY o_secondX o_secondY n
    induction n with
    | zero => intro v1 v2 rr hf; exact (ds_it_zero hf).elim
    | succ n ih8 =>
      intro v1 v2 rr hf hG H locs hP hD hS ls hl
      refine h2 ?_
      obtain ⟨rr, hf, hG⟩ := ds_it_succ hf hG
      replace hf : fX0_crossed_8_b o_stepsFound o_firstX o_firstY o_secondX o_secondY o_seen_wide o_seen_high o_seen_hex o_found_r v1 v2 = some rr := hf
      obtain ⟨G1, eG1⟩ : ∃ G : ((Int32 × Int32) ⊕ (Int32 × Int32 × Int32 × Int32 × Int32 × Int32)) → Prop, G = ds_G (fun s' => ∃ r', ds_it (fun s => fX0_crossed_8_b o_stepsFound o_firstX o_firstY o_secondX o_secondY o_seen_wide o_seen_high o_seen_hex o_found_r s.1 s.2) n s' = some r' ∧ G0 r') G0 := ⟨_, rfl⟩
      rw [← eG1] at hG
      have J_41 : ∀ (v1 : Int32) (v2 : Int32) (rr : (Int32 × Int32) ⊕ (Int32 × Int32 × Int32 × Int32 × Int32 × Int32)) (hf : fX0_crossed_41 v1 v2 = some rr) (hG : G1 rr) (H : Heap) (locs : List Loc) (hP : va_P (dC, dI) vwCl [(h_o, .inr (0, [.ref h_o_seen, .ref h_o_turned, .ref h_o_found, .int o_looked, .int o_stepsFound, .int o_firstX, .int o_firstY, .int o_secondX, .int o_secondY])), (h_o_seen, .inr (5, [.int o_seen_wide, .int o_seen_high, .int o_seen_hex, .long o_seen_ones, .long o_seen_twos])), (h_o_found, .inl (ca 1, 12, .inr (.inl o_found_r)))] H) (hD : va_D A [(h_o, .inr (0, [.ref h_o_seen, .ref h_o_turned, .ref h_o_found, .int o_looked, .int o_stepsFound, .int o_firstX, .int o_firstY, .int o_secondX, .int o_secondY])), (h_o_seen, .inr (5, [.int o_seen_wide, .int o_seen_high, .int o_seen_hex, .long o_seen_ones, .long o_seen_twos])), (h_o_found, .inl (ca 1, 12, .inr (.inl o_found_r)))]) (hS : va_S A s.heap H locs) (ls : Array Slot) (hl : lv_has ls 3 [(0, .ref h_o), (1, .int v1), (2, .int v2)]), WW H locs (F0 m 41 ls []) := by
        intro v1 v2 rr hf hG H locs hP hD hS ls hl
        refine h2 ?_
        unfold fX0_crossed_41 at hf
        refine lv_iinc (v := (v2 + 1)) (lv' := [(2, .int (v2 + 1)), (0, .ref h_o), (1, .int v1)]) hx hb dX0_crossed_41 hl (k := 2) rfl rfl (by decide) rfl (fun ls hl => ?_)
        refine lv_goto (tgt := 8) hx hb dX0_crossed_44 (by decide) ?_
        have hf := Option.some.inj hf
        subst hf
        rw [eG1] at hG
        obtain ⟨rr, hf, hG⟩ := hG
        exact h1 (ih8 v1 (v2 + 1) rr hf hG _ _ hP hD hS _ (lv_sub hl [1, 2, 0] rfl))
      unfold fX0_crossed_8_b at hf
      refine lv_iload_n hx hb dX0_crossed_8 rfl (lv_at hl 2 rfl) ?_
      refine lv_aload_n hx hb dX0_crossed_9 rfl (lv_at hl 0 rfl) ?_
      refine va_get (D := (dC, dI)) (ci := 0) (v := .ref h_o_seen) (C := RX0) (T := TX0) (N := 9) hx hb hts (fun w h => List.mem_cons_of_mem _ (kc_X0 w h)) hown hK hP 0 rfl rfl 0 (by decide) (hg kw_129) (fun _ h9 => h9) rfl dX0_crossed_10 ?_
      refine va_getN (D := (dC, dI)) (ci := 5) (v := .int o_seen_hex) (C := RX6) (T := TX6) (N := 5) hx hb hts (fun w h => List.mem_cons_of_mem _ (kc_X6 w h)) hown hK hP 1 rfl rfl 2 (by decide) (va_Nw.use rfl (hE.1 _ kw_135)) (fun _ h9 => h9) rfl dX0_crossed_13 ?_
      obtain ⟨q16, hq16, hf⟩ := ds_ob hf
      refine ds_calli (wr := [(h_o, .inr (0, [.ref h_o_seen, .ref h_o_turned, .ref h_o_found, .int o_looked, .int o_stepsFound, .int o_firstX, .int o_firstY, .int o_secondX, .int o_secondY])), (h_o_seen, .inr (5, [.int o_seen_wide, .int o_seen_high, .int o_seen_hex, .long o_seen_ones, .long o_seen_twos])), (h_o_found, .inl (ca 1, 12, .inr (.inl o_found_r)))]) (va_runS (As := [.int o_seen_hex]) (rest := [.int v2]) ⟨hx, hb, hml, hown, hts⟩ (c_X1_turnings l dC dI ca sa  H.size  o_seen_hex q16 hq16) (va_cwS 1 hts (ds_gS kw_167 kw_1 kw_2 kw_3) rfl rfl rfl (by decide +kernel) ⟨Nat.le_of_ble_eq_true rfl, Nat.le_of_ble_eq_true rfl⟩) ⟨ds_blind, ds_at hP hD hK hE hS hA [] rfl rfl _⟩ rfl rfl hl.1 rfl (lv_room (Nat.le_of_ble_eq_true rfl)) dX0_crossed_16 ⟨Nat.zero_le _, Nat.zero_le _⟩) hP hD hS hA [] [0, 1, 2] rfl rfl rfl (by decide) (fun H locs hP hD hS => ?_)
      have hP : va_P (dC, dI) vwCl [(h_o, .inr (0, [.ref h_o_seen, .ref h_o_turned, .ref h_o_found, .int o_looked, .int o_stepsFound, .int o_firstX, .int o_firstY, .int o_secondX, .int o_secondY])), (h_o_seen, .inr (5, [.int o_seen_wide, .int o_seen_high, .int o_seen_hex, .long o_seen_ones, .long o_seen_twos])), (h_o_found, .inl (ca 1, 12, .inr (.inl o_found_r)))] H := hP
      have hD : va_D A [(h_o, .inr (0, [.ref h_o_seen, .ref h_o_turned, .ref h_o_found, .int o_looked, .int o_stepsFound, .int o_firstX, .int o_firstY, .int o_secondX, .int o_secondY])), (h_o_seen, .inr (5, [.int o_seen_wide, .int o_seen_high, .int o_seen_hex, .long o_seen_ones, .long o_seen_twos])), (h_o_found, .inl (ca 1, 12, .inr (.inl o_found_r)))] := hD
      refine lv_icmp_ge (tgt := 47) hx hb dX0_crossed_19 (by decide) (fun c_19 => ?_) (fun c_19 => ?_)
      · replace hf := ds_t c_19 hf
        refine lv_iload_n hx hb dX0_crossed_47 rfl (lv_at hl 1 rfl) ?_
        have hf := Option.some.inj hf
        subst hf
        rw [eG1] at hG
        replace hG : G0 _ := hG
        rw [eG0] at hG
        have hG : _ = res := hG
        subst hG
        exact W.iret (v := v1) hx hb hr (fun t ht hW => ⟨⟨v1, (), rfl, rfl, by rw [ht]; exact hP, hD⟩, hS.F ht⟩) hS.2.2 dX0_crossed_48
      · replace hf := ds_f c_19 hf
        refine lv_aload_n hx hb dX0_crossed_22 rfl (lv_at hl 0 rfl) ?_
        refine lv_iload_n hx hb dX0_crossed_23 rfl (lv_at hl 2 rfl) ?_
        obtain ⟨q24, hq24, hf⟩ := ds_ob hf
        refine ds_calli (wr := []) (va_runV (As := [.int v2]) (rest := []) ⟨hx, hb, hml, hown, hts⟩ (c_X0_hasFlip l dC dI ca sa h_o h_o_seen h_o_turned h_o_found H.size o_looked o_stepsFound o_firstX o_firstY o_secondX o_secondY o_seen_wide o_seen_high o_seen_hex o_seen_ones o_seen_twos o_found_r v2 q24 hq24) (cwV 1 hts (ds_gV kw_191 kw_192 kw_193 kw_154 kw_194) rfl rfl rfl (by decide +kernel) ⟨Nat.le_of_ble_eq_true rfl, Nat.le_of_ble_eq_true rfl⟩) ⟨ds_blind, va_recv hK hP (ci := 0) (q0 := 0) rfl rfl, ds_at hP hD hK hE hS hA [0, 1, 2] rfl rfl _⟩ rfl rfl hl.1 rfl (lv_room (Nat.le_of_ble_eq_true rfl)) dX0_crossed_24 ⟨Nat.zero_le _, Nat.zero_le _⟩) hP hD hS hA [0, 1, 2] [] rfl rfl rfl (by decide) (fun H locs hP hD hS => ?_)
        have hP : va_P (dC, dI) vwCl [(h_o, .inr (0, [.ref h_o_seen, .ref h_o_turned, .ref h_o_found, .int o_looked, .int o_stepsFound, .int o_firstX, .int o_firstY, .int o_secondX, .int o_secondY])), (h_o_seen, .inr (5, [.int o_seen_wide, .int o_seen_high, .int o_seen_hex, .long o_seen_ones, .long o_seen_twos])), (h_o_found, .inl (ca 1, 12, .inr (.inl o_found_r)))] H := hP
        have hD : va_D A [(h_o, .inr (0, [.ref h_o_seen, .ref h_o_turned, .ref h_o_found, .int o_looked, .int o_stepsFound, .int o_firstX, .int o_firstY, .int o_secondX, .int o_secondY])), (h_o_seen, .inr (5, [.int o_seen_wide, .int o_seen_high, .int o_seen_hex, .long o_seen_ones, .long o_seen_twos])), (h_o_found, .inl (ca 1, 12, .inr (.inl o_found_r)))] := hD
        refine lv_if_eq (tgt := 41) hx hb dX0_crossed_27 (by decide) (fun c_27 => ?_) (fun c_27 => ?_)
        · replace hf := ds_t c_27 hf
          exact h1 (J_41 v1 v2 _ hf hG _ _ hP hD hS _ (lv_sub hl [0, 1, 2] rfl))
        · replace hf := ds_f c_27 hf
          refine lv_aload_n hx hb dX0_crossed_30 rfl (lv_at hl 0 rfl) ?_
          refine lv_iload_n hx hb dX0_crossed_31 rfl (lv_at hl 2 rfl) ?_
          obtain ⟨q32, hq32, hf⟩ := ds_ob hf
          refine ds_calli (wr := []) (va_runV (As := [.int v2]) (rest := []) ⟨hx, hb, hml, hown, hts⟩ (c_X0_isParted l dC dI ca sa h_o h_o_seen h_o_turned h_o_found H.size o_looked o_stepsFound o_firstX o_firstY o_secondX o_secondY o_seen_wide o_seen_high o_seen_hex o_seen_ones o_seen_twos o_found_r v2 q32 hq32) (cwV 1 hts (ds_gV kw_216 kw_217 kw_218 kw_154 kw_219) rfl rfl rfl (by decide +kernel) ⟨Nat.le_of_ble_eq_true rfl, Nat.le_of_ble_eq_true rfl⟩) ⟨ds_blind, va_recv hK hP (ci := 0) (q0 := 0) rfl rfl, ds_at hP hD hK hE hS hA [0, 1, 2] rfl rfl _⟩ rfl rfl hl.1 rfl (lv_room (Nat.le_of_ble_eq_true rfl)) dX0_crossed_32 ⟨Nat.zero_le _, Nat.zero_le _⟩) hP hD hS hA [0, 1, 2] [] rfl rfl rfl (by decide) (fun H locs hP hD hS => ?_)
          have hP : va_P (dC, dI) vwCl [(h_o, .inr (0, [.ref h_o_seen, .ref h_o_turned, .ref h_o_found, .int o_looked, .int o_stepsFound, .int o_firstX, .int o_firstY, .int o_secondX, .int o_secondY])), (h_o_seen, .inr (5, [.int o_seen_wide, .int o_seen_high, .int o_seen_hex, .long o_seen_ones, .long o_seen_twos])), (h_o_found, .inl (ca 1, 12, .inr (.inl o_found_r)))] H := hP
          have hD : va_D A [(h_o, .inr (0, [.ref h_o_seen, .ref h_o_turned, .ref h_o_found, .int o_looked, .int o_stepsFound, .int o_firstX, .int o_firstY, .int o_secondX, .int o_secondY])), (h_o_seen, .inr (5, [.int o_seen_wide, .int o_seen_high, .int o_seen_hex, .long o_seen_ones, .long o_seen_twos])), (h_o_found, .inl (ca 1, 12, .inr (.inl o_found_r)))] := hD
          refine lv_if_ne (tgt := 41) hx hb dX0_crossed_35 (by decide) (fun c_35 => ?_) (fun c_35 => ?_)
          · replace hf := ds_f c_35 hf
            exact h1 (J_41 v1 v2 _ hf hG _ _ hP hD hS _ (lv_sub hl [0, 1, 2] rfl))
          · replace hf := ds_t c_35 hf
            refine lv_iinc (v := (v1 + 1)) (lv' := [(1, .int (v1 + 1)), (0, .ref h_o), (2, .int v2)]) hx hb dX0_crossed_38 hl (k := 1) rfl rfl (by decide) rfl (fun ls hl => ?_)
            exact h1 (J_41 (v1 + 1) v2 _ hf hG _ _ hP hD hS _ (lv_sub hl [1, 0, 2] rfl))
  unfold fX0_crossed at hf
  refine lv_iconst (v := 0) hx hb dX0_crossed_0 (by decide) ?_
  refine lv_istore_n (lv' := [(1, .int (0 : Int32)), (0, .ref h_o)]) hx hb dX0_crossed_1 rfl hl (by decide) rfl (fun ls hl => ?_)
  refine lv_aload_n hx hb dX0_crossed_2 rfl (lv_at hl 1 rfl) ?_
  obtain ⟨q3, hq3, hf⟩ := ds_ob hf
  refine ds_callv (wr := []) (va_runV (As := []) (rest := []) ⟨hx, hb, hml, hown, hts⟩ (c_X0_findSteps l dC dI ca sa h_o h_o_seen h_o_turned h_o_found s.heap.size o_looked o_stepsFound o_firstX o_firstY o_secondX o_secondY o_seen_wide o_seen_high o_seen_hex o_seen_ones o_seen_twos o_found_r  q3 hq3) (cwV 0 hts (ds_gV kw_220 kw_221 kw_222 kw_154 kw_223) rfl rfl rfl (by decide +kernel) ⟨Nat.le_of_ble_eq_true rfl, Nat.le_of_ble_eq_true rfl⟩) ⟨ds_blind, va_recv hK hP (ci := 0) (q0 := 0) rfl rfl, ds_at hP hD hK hE hS hA [0, 1, 2] rfl rfl _⟩ rfl rfl hl.1 rfl (lv_room (Nat.le_of_ble_eq_true rfl)) dX0_crossed_3 ⟨Nat.zero_le _, Nat.zero_le _⟩) hP hD hS hA [0, 1, 2] [] rfl rfl rfl (by decide) (fun H locs hP hD hS => ?_)
  have hP : va_P (dC, dI) vwCl [(h_o, .inr (0, [.ref h_o_seen, .ref h_o_turned, .ref h_o_found, .int o_looked, .int q3.1, .int q3.2.1, .int q3.2.2.1, .int q3.2.2.2.1, .int q3.2.2.2.2])), (h_o_seen, .inr (5, [.int o_seen_wide, .int o_seen_high, .int o_seen_hex, .long o_seen_ones, .long o_seen_twos])), (h_o_found, .inl (ca 1, 12, .inr (.inl o_found_r)))] H := hP
  have hD : va_D A [(h_o, .inr (0, [.ref h_o_seen, .ref h_o_turned, .ref h_o_found, .int o_looked, .int q3.1, .int q3.2.1, .int q3.2.2.1, .int q3.2.2.2.1, .int q3.2.2.2.2])), (h_o_seen, .inr (5, [.int o_seen_wide, .int o_seen_high, .int o_seen_hex, .long o_seen_ones, .long o_seen_twos])), (h_o_found, .inl (ca 1, 12, .inr (.inl o_found_r)))] := hD
  refine lv_iconst (v := 0) hx hb dX0_crossed_6 (by decide) ?_
  refine lv_istore_n (lv' := [(2, .int (0 : Int32)), (1, .int (0 : Int32)), (0, .ref h_o)]) hx hb dX0_crossed_7 rfl hl (by decide) rfl (fun ls hl => ?_)
  exact h1 (J_8 q3.1 q3.2.1 q3.2.2.1 q3.2.2.2.1 q3.2.2.2.2 1000 (0 : Int32) (0 : Int32) _ hf hG _ _ hP hD hS _ (lv_sub hl [2, 1, 0] rfl))
theorem dX0_hasFlipRound_0 : decode cX0_hasFlipRound 0 = .ok (.iconst 0, 1) := by decide +kernel
theorem dX0_hasFlipRound_1 : decode cX0_hasFlipRound 1 = .ok (.istore_n 3, 1) := by decide +kernel
theorem dX0_hasFlipRound_2 : decode cX0_hasFlipRound 2 = .ok (.iload_n 3, 1) := by decide +kernel
theorem dX0_hasFlipRound_3 : decode cX0_hasFlipRound 3 = .ok (.aload_n 0, 1) := by decide +kernel
theorem dX0_hasFlipRound_4 : decode cX0_hasFlipRound 4 = .ok (.getfield 12, 3) := by decide +kernel
theorem dX0_hasFlipRound_7 : decode cX0_hasFlipRound 7 = .ok (.getfield 39, 3) := by decide +kernel
theorem dX0_hasFlipRound_10 : decode cX0_hasFlipRound 10 = .ok (.invokestatic 81, 3) := by decide +kernel
theorem dX0_hasFlipRound_13 : decode cX0_hasFlipRound 13 = .ok (.if_icmp .ge 67, 3) := by decide +kernel
theorem dX0_hasFlipRound_16 : decode cX0_hasFlipRound 16 = .ok (.aload_n 0, 1) := by decide +kernel
theorem dX0_hasFlipRound_17 : decode cX0_hasFlipRound 17 = .ok (.getfield 12, 3) := by decide +kernel
theorem dX0_hasFlipRound_20 : decode cX0_hasFlipRound 20 = .ok (.getfield 39, 3) := by decide +kernel
theorem dX0_hasFlipRound_23 : decode cX0_hasFlipRound 23 = .ok (.iload_n 3, 1) := by decide +kernel
theorem dX0_hasFlipRound_24 : decode cX0_hasFlipRound 24 = .ok (.iload_n 1, 1) := by decide +kernel
theorem dX0_hasFlipRound_25 : decode cX0_hasFlipRound 25 = .ok (.iload_n 2, 1) := by decide +kernel
theorem dX0_hasFlipRound_26 : decode cX0_hasFlipRound 26 = .ok (.invokestatic 139, 3) := by decide +kernel
theorem dX0_hasFlipRound_29 : decode cX0_hasFlipRound 29 = .ok (.iload_n 1, 1) := by decide +kernel
theorem dX0_hasFlipRound_30 : decode cX0_hasFlipRound 30 = .ok (.ineg, 1) := by decide +kernel
theorem dX0_hasFlipRound_31 : decode cX0_hasFlipRound 31 = .ok (.if_icmp .ne 25, 3) := by decide +kernel
theorem dX0_hasFlipRound_34 : decode cX0_hasFlipRound 34 = .ok (.aload_n 0, 1) := by decide +kernel
theorem dX0_hasFlipRound_35 : decode cX0_hasFlipRound 35 = .ok (.getfield 12, 3) := by decide +kernel
theorem dX0_hasFlipRound_38 : decode cX0_hasFlipRound 38 = .ok (.getfield 39, 3) := by decide +kernel
theorem dX0_hasFlipRound_41 : decode cX0_hasFlipRound 41 = .ok (.iload_n 3, 1) := by decide +kernel
theorem dX0_hasFlipRound_42 : decode cX0_hasFlipRound 42 = .ok (.iload_n 1, 1) := by decide +kernel
theorem dX0_hasFlipRound_43 : decode cX0_hasFlipRound 43 = .ok (.iload_n 2, 1) := by decide +kernel
theorem dX0_hasFlipRound_44 : decode cX0_hasFlipRound 44 = .ok (.invokestatic 143, 3) := by decide +kernel
theorem dX0_hasFlipRound_47 : decode cX0_hasFlipRound 47 = .ok (.iload_n 2, 1) := by decide +kernel
theorem dX0_hasFlipRound_48 : decode cX0_hasFlipRound 48 = .ok (.ineg, 1) := by decide +kernel
theorem dX0_hasFlipRound_49 : decode cX0_hasFlipRound 49 = .ok (.if_icmp .ne 7, 3) := by decide +kernel
theorem dX0_hasFlipRound_52 : decode cX0_hasFlipRound 52 = .ok (.iconst 1, 1) := by decide +kernel
theorem dX0_hasFlipRound_53 : decode cX0_hasFlipRound 53 = .ok (.goto 4, 3) := by decide +kernel
theorem dX0_hasFlipRound_56 : decode cX0_hasFlipRound 56 = .ok (.iconst 0, 1) := by decide +kernel
theorem dX0_hasFlipRound_57 : decode cX0_hasFlipRound 57 = .ok (.istore 4, 2) := by decide +kernel
theorem dX0_hasFlipRound_59 : decode cX0_hasFlipRound 59 = .ok (.iload 4, 2) := by decide +kernel
theorem dX0_hasFlipRound_61 : decode cX0_hasFlipRound 61 = .ok (.ifCond .eq 13, 3) := by decide +kernel
theorem dX0_hasFlipRound_64 : decode cX0_hasFlipRound 64 = .ok (.aload_n 0, 1) := by decide +kernel
theorem dX0_hasFlipRound_65 : decode cX0_hasFlipRound 65 = .ok (.iload_n 3, 1) := by decide +kernel
theorem dX0_hasFlipRound_66 : decode cX0_hasFlipRound 66 = .ok (.invokevirtual 99, 3) := by decide +kernel
theorem dX0_hasFlipRound_69 : decode cX0_hasFlipRound 69 = .ok (.ifCond .eq 5, 3) := by decide +kernel
theorem dX0_hasFlipRound_72 : decode cX0_hasFlipRound 72 = .ok (.iconst 1, 1) := by decide +kernel
theorem dX0_hasFlipRound_73 : decode cX0_hasFlipRound 73 = .ok (.ireturn, 1) := by decide +kernel
theorem dX0_hasFlipRound_74 : decode cX0_hasFlipRound 74 = .ok (.iinc 3 1, 3) := by decide +kernel
theorem dX0_hasFlipRound_77 : decode cX0_hasFlipRound 77 = .ok (.goto (-75), 3) := by decide +kernel
theorem dX0_hasFlipRound_80 : decode cX0_hasFlipRound 80 = .ok (.iconst 0, 1) := by decide +kernel
theorem dX0_hasFlipRound_81 : decode cX0_hasFlipRound 81 = .ok (.ireturn, 1) := by decide +kernel
def fX0_hasFlipRound_74 (v3 : Int32) : Option ((Int32) ⊕ (Int32)) :=
  some (.inl (v3 + 1))
def fX0_hasFlipRound_57 (o_seen_hex : Int32) (o_found_r : Nat → Int64) (v3 : Int32) (s0 : Int32) : Option ((Int32) ⊕ (Int32)) :=
  if s0 = 0 then fX0_hasFlipRound_74 v3 else Option.bind (fX0_hasFlip o_seen_hex o_found_r v3) fun q66 => if q66 = 0 then fX0_hasFlipRound_74 v3 else some (.inr (1 : Int32))
def fX0_hasFlipRound_56 (o_seen_hex : Int32) (o_found_r : Nat → Int64) (v3 : Int32) : Option ((Int32) ⊕ (Int32)) :=
  fX0_hasFlipRound_57 o_seen_hex o_found_r v3 (0 : Int32)
def fX0_hasFlipRound_2_b (o_seen_hex : Int32) (o_found_r : Nat → Int64) (p1 : Int32) (p2 : Int32) (v3 : Int32) : Option ((Int32) ⊕ (Int32)) :=
  Option.bind (fX1_turnings o_seen_hex) fun q10 => if q10 ≤ v3 then some (.inr (0 : Int32)) else Option.bind (fX1_turnedX o_seen_hex v3 p1 p2) fun q26 => if q26 = (-p1) then Option.bind (fX1_turnedY o_seen_hex v3 p1 p2) fun q44 => if q44 = (-p2) then fX0_hasFlipRound_57 o_seen_hex o_found_r v3 (1 : Int32) else fX0_hasFlipRound_56 o_seen_hex o_found_r v3 else fX0_hasFlipRound_56 o_seen_hex o_found_r v3
def fX0_hasFlipRound_2 (o_seen_hex : Int32) (o_found_r : Nat → Int64) (p1 : Int32) (p2 : Int32) (v3 : Int32) : Option (Int32) := ds_it (fun s => fX0_hasFlipRound_2_b o_seen_hex o_found_r p1 p2 s) 1000 v3
def fX0_hasFlipRound (o_seen_hex : Int32) (o_found_r : Nat → Int64) (p1 : Int32) (p2 : Int32) : Option (Int32) :=
  fX0_hasFlipRound_2 o_seen_hex o_found_r p1 p2 (0 : Int32)
set_option maxHeartbeats 4000000 in
set_option maxRecDepth 100000 in
theorem c_X0_hasFlipRound (l : Launch) (dC : Nat → ClassId) (dI : Nat → Nat → Nat) (ca : Nat → ClassId) (sa : Nat → Nat) (h_o : Nat) (h_o_seen : Nat) (h_o_turned : Nat) (h_o_found : Nat) (sz : Nat) (o_looked : Int32) (o_stepsFound : Int32) (o_firstX : Int32) (o_firstY : Int32) (o_secondX : Int32) (o_secondY : Int32) (o_seen_wide : Int32) (o_seen_high : Int32) (o_seen_hex : Int32) (o_seen_ones : Int64) (o_seen_twos : Int64) (o_found_r : Nat → Int64) (p1 : Int32) (p2 : Int32) (res : Int32) (hf : fX0_hasFlipRound o_seen_hex o_found_r p1 p2 = some res) : Met l yX0_hasFlipRound (Cond.code yX0_hasFlipRound cX0_hasFlipRound 5 (some .boolean) :: ds_gw) { frames := 3, cells := 0, slots := 0, locals := 62 } (va_Pc [.ref h_o, .int p1, .int p2] (ds_Pre dC dI ca sa [(h_o, .inr (0, [.ref h_o_seen, .ref h_o_turned, .ref h_o_found, .int o_looked, .int o_stepsFound, .int o_firstX, .int o_firstY, .int o_secondX, .int o_secondY])), (h_o_seen, .inr (5, [.int o_seen_wide, .int o_seen_high, .int o_seen_hex, .long o_seen_ones, .long o_seen_twos])), (h_o_found, .inl (ca 1, 12, .inr (.inl o_found_r)))] sz)) (va_Qi (fun r (_ : Unit) => r = res) (ds_B dC dI (va_A [(h_o, .inr (0, [.ref h_o_seen, .ref h_o_turned, .ref h_o_found, .int o_looked, .int o_stepsFound, .int o_firstX, .int o_firstY, .int o_secondX, .int o_secondY])), (h_o_seen, .inr (5, [.int o_seen_wide, .int o_seen_high, .int o_seen_hex, .long o_seen_ones, .long o_seen_twos])), (h_o_found, .inl (ca 1, 12, .inr (.inl o_found_r)))] sz) [(h_o, .inr (0, [.ref h_o_seen, .ref h_o_turned, .ref h_o_found, .int o_looked, .int o_stepsFound, .int o_firstX, .int o_firstY, .int o_secondX, .int o_secondY])), (h_o_seen, .inr (5, [.int o_seen_wide, .int o_seen_high, .int o_seen_hex, .long o_seen_ones, .long o_seen_twos])), (h_o_found, .inl (ca 1, 12, .inr (.inl o_found_r)))]) (va_A [(h_o, .inr (0, [.ref h_o_seen, .ref h_o_turned, .ref h_o_found, .int o_looked, .int o_stepsFound, .int o_firstX, .int o_firstY, .int o_secondX, .int o_secondY])), (h_o_seen, .inr (5, [.int o_seen_wide, .int o_seen_high, .int o_seen_hex, .long o_seen_ones, .long o_seen_twos])), (h_o_found, .inl (ca 1, 12, .inr (.inl o_found_r)))] sz)) 0 0 (va_A [(h_o, .inr (0, [.ref h_o_seen, .ref h_o_turned, .ref h_o_found, .int o_looked, .int o_stepsFound, .int o_firstX, .int o_firstY, .int o_secondX, .int o_secondY])), (h_o_seen, .inr (5, [.int o_seen_wide, .int o_seen_high, .int o_seen_hex, .long o_seen_ones, .long o_seen_twos])), (h_o_found, .inl (ca 1, 12, .inr (.inl o_found_r)))] sz) := by
  refine Met.ofW (cc := cX0_hasFlipRound) (maxL := 5) (ret := (some .boolean)) (by decide) rfl ?_
  intro p e s m args below meth c s₁ B hml hv
  obtain ⟨rfl, hsz, hP, hK, hD0, hE⟩ := hv
  have hx := B.exec
  have hb := B.bytes
  have hr := B.returns
  have hts := atoms_spec (ws := Cond.code yX0_hasFlipRound cX0_hasFlipRound 5 (some .boolean) :: ds_gw) B.pre
  have hg : ∀ {w : Cond}, w ∈ ds_gw → w.before _ s = true := fun h => hts _ (List.mem_cons_of_mem _ h)
  have hown : s.vm.findClass RX0 = some m.cls := findClass_of_methodNamed B.named
  have hlocks := B.notSynchronized
  subst hsz
  have hD := hD0.self (sz := s.heap.size)
  generalize hAe : va_A [(h_o, .inr (0, [.ref h_o_seen, .ref h_o_turned, .ref h_o_found, .int o_looked, .int o_stepsFound, .int o_firstX, .int o_firstY, .int o_secondX, .int o_secondY])), (h_o_seen, .inr (5, [.int o_seen_wide, .int o_seen_high, .int o_seen_hex, .long o_seen_ones, .long o_seen_twos])), (h_o_found, .inl (ca 1, 12, .inr (.inl o_found_r)))] s.heap.size = A at hD hE ⊢
  have hA : ∀ q : Nat, s.heap.size ≤ q → A q := fun q h => by rw [← hAe]; exact Or.inr h
  have hS : va_S A s.heap s.heap [] := va_S.rf
  have hl := lv_entry ([.ref h_o, .int p1, .int p2]) (n := 5) (Nat.le_of_ble_eq_true rfl)
  rw [lg_entry_eq]
  generalize (lg_sl ([.ref h_o, .int p1, .int p2]) ++ List.replicate (5 - (lg_sl ([.ref h_o, .int p1, .int p2])).length) Slot.unset).toArray = ls at hl ⊢
  have hl : lv_has ls 5 [(0, .ref h_o), (1, .int p1), (2, .int p2)] := hl
  obtain ⟨G0, eG0⟩ : ∃ G : Int32 → Prop, G = (fun r => r = res) := ⟨_, rfl⟩
  obtain ⟨rr, hrr⟩ : ∃ z, z = res := ⟨_, rfl⟩
  rw [← hrr] at hf
  have hG : G0 rr := by subst eG0; exact hrr
  refine ds_cap (fun WW h1 h2 => ?_)
  have J_2 : ∀ (n : Nat) (v3 : Int32) (rr : Int32) (hf : ds_it (fun s => fX0_hasFlipRound_2_b o_seen_hex o_found_r p1 p2 s) n v3 = some rr) (hG : G0 rr) (H : Heap) (locs : List Loc) (hP : va_P (dC, dI) vwCl [(h_o, .inr (0, [.ref h_o_seen, .ref h_o_turned, .ref h_o_found, .int o_looked, .int o_stepsFound, .int o_firstX, .int o_firstY, .int o_secondX, .int o_secondY])), (h_o_seen, .inr (5, [.int o_seen_wide, .int o_seen_high, .int o_seen_hex, .long o_seen_ones, .long o_seen_twos])), (h_o_found, .inl (ca 1, 12, .inr (.inl o_found_r)))] H) (hD : va_D A [(h_o, .inr (0, [.ref h_o_seen, .ref h_o_turned, .ref h_o_found, .int o_looked, .int o_stepsFound, .int o_firstX, .int o_firstY, .int o_secondX, .int o_secondY])), (h_o_seen, .inr (5, [.int o_seen_wide, .int o_seen_high, .int o_seen_hex, .long o_seen_ones, .long o_seen_twos])), (h_o_found, .inl (ca 1, 12, .inr (.inl o_found_r)))]) (hS : va_S A s.heap H locs) (ls : Array Slot) (hl : lv_has ls 5 [(0, .ref h_o), (1, .int p1), (2, .int p2), (3, .int v3)]), WW H locs (F0 m 2 ls []) := by
    intro  n
    induction n with
    | zero => intro v3 rr hf; exact (ds_it_zero hf).elim
    | succ n ih2 =>
      intro v3 rr hf hG H locs hP hD hS ls hl
      refine h2 ?_
      obtain ⟨rr, hf, hG⟩ := ds_it_succ hf hG
      replace hf : fX0_hasFlipRound_2_b o_seen_hex o_found_r p1 p2 v3 = some rr := hf
      obtain ⟨G1, eG1⟩ : ∃ G : ((Int32) ⊕ (Int32)) → Prop, G = ds_G (fun s' => ∃ r', ds_it (fun s => fX0_hasFlipRound_2_b o_seen_hex o_found_r p1 p2 s) n s' = some r' ∧ G0 r') G0 := ⟨_, rfl⟩
      rw [← eG1] at hG
      have J_74 : ∀ (v3 : Int32) (rr : (Int32) ⊕ (Int32)) (hf : fX0_hasFlipRound_74 v3 = some rr) (hG : G1 rr) (H : Heap) (locs : List Loc) (hP : va_P (dC, dI) vwCl [(h_o, .inr (0, [.ref h_o_seen, .ref h_o_turned, .ref h_o_found, .int o_looked, .int o_stepsFound, .int o_firstX, .int o_firstY, .int o_secondX, .int o_secondY])), (h_o_seen, .inr (5, [.int o_seen_wide, .int o_seen_high, .int o_seen_hex, .long o_seen_ones, .long o_seen_twos])), (h_o_found, .inl (ca 1, 12, .inr (.inl o_found_r)))] H) (hD : va_D A [(h_o, .inr (0, [.ref h_o_seen, .ref h_o_turned, .ref h_o_found, .int o_looked, .int o_stepsFound, .int o_firstX, .int o_firstY, .int o_secondX, .int o_secondY])), (h_o_seen, .inr (5, [.int o_seen_wide, .int o_seen_high, .int o_seen_hex, .long o_seen_ones, .long o_seen_twos])), (h_o_found, .inl (ca 1, 12, .inr (.inl o_found_r)))]) (hS : va_S A s.heap H locs) (ls : Array Slot) (hl : lv_has ls 5 [(0, .ref h_o), (1, .int p1), (2, .int p2), (3, .int v3)]), WW H locs (F0 m 74 ls []) := by
        intro v3 rr hf hG H locs hP hD hS ls hl
        refine h2 ?_
        unfold fX0_hasFlipRound_74 at hf
        refine lv_iinc (v := (v3 + 1)) (lv' := [(3, .int (v3 + 1)), (0, .ref h_o), (1, .int p1), (2, .int p2)]) hx hb dX0_hasFlipRound_74 hl (k := 3) rfl rfl (by decide) rfl (fun ls hl => ?_)
        refine lv_goto (tgt := 2) hx hb dX0_hasFlipRound_77 (by decide) ?_
        have hf := Option.some.inj hf
        subst hf
        rw [eG1] at hG
        obtain ⟨rr, hf, hG⟩ := hG
        exact h1 (ih2 (v3 + 1) rr hf hG _ _ hP hD hS _ (lv_sub hl [1, 2, 3, 0] rfl))
      have J_57 : ∀ (v3 : Int32) (s0 : Int32) (rr : (Int32) ⊕ (Int32)) (hf : fX0_hasFlipRound_57 o_seen_hex o_found_r v3 s0 = some rr) (hG : G1 rr) (H : Heap) (locs : List Loc) (hP : va_P (dC, dI) vwCl [(h_o, .inr (0, [.ref h_o_seen, .ref h_o_turned, .ref h_o_found, .int o_looked, .int o_stepsFound, .int o_firstX, .int o_firstY, .int o_secondX, .int o_secondY])), (h_o_seen, .inr (5, [.int o_seen_wide, .int o_seen_high, .int o_seen_hex, .long o_seen_ones, .long o_seen_twos])), (h_o_found, .inl (ca 1, 12, .inr (.inl o_found_r)))] H) (hD : va_D A [(h_o, .inr (0, [.ref h_o_seen, .ref h_o_turned, .ref h_o_found, .int o_looked, .int o_stepsFound, .int o_firstX, .int o_firstY, .int o_secondX, .int o_secondY])), (h_o_seen, .inr (5, [.int o_seen_wide, .int o_seen_high, .int o_seen_hex, .long o_seen_ones, .long o_seen_twos])), (h_o_found, .inl (ca 1, 12, .inr (.inl o_found_r)))]) (hS : va_S A s.heap H locs) (ls : Array Slot) (hl : lv_has ls 5 [(0, .ref h_o), (1, .int p1), (2, .int p2), (3, .int v3)]), WW H locs (F0 m 57 ls [.int s0]) := by
        intro v3 s0 rr hf hG H locs hP hD hS ls hl
        refine h2 ?_
        unfold fX0_hasFlipRound_57 at hf
        refine lv_istore (lv' := [(4, .int s0), (0, .ref h_o), (1, .int p1), (2, .int p2), (3, .int v3)]) hx hb dX0_hasFlipRound_57 hl (by decide) rfl (fun ls hl => ?_)
        refine lv_iload hx hb dX0_hasFlipRound_59 (lv_at hl 0 rfl) ?_
        refine lv_if_eq (tgt := 74) hx hb dX0_hasFlipRound_61 (by decide) (fun c_61 => ?_) (fun c_61 => ?_)
        · replace hf := ds_t c_61 hf
          exact h1 (J_74 v3 _ hf hG _ _ hP hD hS _ (lv_sub hl [1, 2, 3, 4] rfl))
        · replace hf := ds_f c_61 hf
          refine lv_aload_n hx hb dX0_hasFlipRound_64 rfl (lv_at hl 1 rfl) ?_
          refine lv_iload_n hx hb dX0_hasFlipRound_65 rfl (lv_at hl 4 rfl) ?_
          obtain ⟨q66, hq66, hf⟩ := ds_ob hf
          refine ds_calli (wr := []) (va_runV (As := [.int v3]) (rest := []) ⟨hx, hb, hml, hown, hts⟩ (c_X0_hasFlip l dC dI ca sa h_o h_o_seen h_o_turned h_o_found H.size o_looked o_stepsFound o_firstX o_firstY o_secondX o_secondY o_seen_wide o_seen_high o_seen_hex o_seen_ones o_seen_twos o_found_r v3 q66 hq66) (cwV 1 hts (ds_gV kw_191 kw_192 kw_193 kw_154 kw_194) rfl rfl rfl (by decide +kernel) ⟨Nat.le_of_ble_eq_true rfl, Nat.le_of_ble_eq_true rfl⟩) ⟨ds_blind, va_recv hK hP (ci := 0) (q0 := 0) rfl rfl, ds_at hP hD hK hE hS hA [0, 1, 2] rfl rfl _⟩ rfl rfl hl.1 rfl (lv_room (Nat.le_of_ble_eq_true rfl)) dX0_hasFlipRound_66 ⟨Nat.zero_le _, Nat.zero_le _⟩) hP hD hS hA [0, 1, 2] [] rfl rfl rfl (by decide) (fun H locs hP hD hS => ?_)
          have hP : va_P (dC, dI) vwCl [(h_o, .inr (0, [.ref h_o_seen, .ref h_o_turned, .ref h_o_found, .int o_looked, .int o_stepsFound, .int o_firstX, .int o_firstY, .int o_secondX, .int o_secondY])), (h_o_seen, .inr (5, [.int o_seen_wide, .int o_seen_high, .int o_seen_hex, .long o_seen_ones, .long o_seen_twos])), (h_o_found, .inl (ca 1, 12, .inr (.inl o_found_r)))] H := hP
          have hD : va_D A [(h_o, .inr (0, [.ref h_o_seen, .ref h_o_turned, .ref h_o_found, .int o_looked, .int o_stepsFound, .int o_firstX, .int o_firstY, .int o_secondX, .int o_secondY])), (h_o_seen, .inr (5, [.int o_seen_wide, .int o_seen_high, .int o_seen_hex, .long o_seen_ones, .long o_seen_twos])), (h_o_found, .inl (ca 1, 12, .inr (.inl o_found_r)))] := hD
          refine lv_if_eq (tgt := 74) hx hb dX0_hasFlipRound_69 (by decide) (fun c_69 => ?_) (fun c_69 => ?_)
          · replace hf := ds_t c_69 hf
            exact h1 (J_74 v3 _ hf hG _ _ hP hD hS _ (lv_sub hl [1, 2, 3, 4] rfl))
          · replace hf := ds_f c_69 hf
            refine lv_iconst (v := 1) hx hb dX0_hasFlipRound_72 (by decide) ?_
            have hf := Option.some.inj hf
            subst hf
            rw [eG1] at hG
            replace hG : G0 _ := hG
            rw [eG0] at hG
            have hG : _ = res := hG
            subst hG
            exact W.zret (v := (1 : Int32)) (ty := .boolean) hx hb hr rfl (fun t ht hW => ⟨⟨(1 : Int32), (), rfl, rfl, by rw [ht]; exact hP, hD⟩, hS.F ht⟩) hS.2.2 dX0_hasFlipRound_73
      have J_56 : ∀ (v3 : Int32) (rr : (Int32) ⊕ (Int32)) (hf : fX0_hasFlipRound_56 o_seen_hex o_found_r v3 = some rr) (hG : G1 rr) (H : Heap) (locs : List Loc) (hP : va_P (dC, dI) vwCl [(h_o, .inr (0, [.ref h_o_seen, .ref h_o_turned, .ref h_o_found, .int o_looked, .int o_stepsFound, .int o_firstX, .int o_firstY, .int o_secondX, .int o_secondY])), (h_o_seen, .inr (5, [.int o_seen_wide, .int o_seen_high, .int o_seen_hex, .long o_seen_ones, .long o_seen_twos])), (h_o_found, .inl (ca 1, 12, .inr (.inl o_found_r)))] H) (hD : va_D A [(h_o, .inr (0, [.ref h_o_seen, .ref h_o_turned, .ref h_o_found, .int o_looked, .int o_stepsFound, .int o_firstX, .int o_firstY, .int o_secondX, .int o_secondY])), (h_o_seen, .inr (5, [.int o_seen_wide, .int o_seen_high, .int o_seen_hex, .long o_seen_ones, .long o_seen_twos])), (h_o_found, .inl (ca 1, 12, .inr (.inl o_found_r)))]) (hS : va_S A s.heap H locs) (ls : Array Slot) (hl : lv_has ls 5 [(0, .ref h_o), (1, .int p1), (2, .int p2), (3, .int v3)]), WW H locs (F0 m 56 ls []) := by
        intro v3 rr hf hG H locs hP hD hS ls hl
        refine h2 ?_
        unfold fX0_hasFlipRound_56 at hf
        refine lv_iconst (v := 0) hx hb dX0_hasFlipRound_56 (by decide) ?_
        exact h1 (J_57 v3 (0 : Int32) _ hf hG _ _ hP hD hS _ (lv_sub hl [0, 1, 2, 3] rfl))
      unfold fX0_hasFlipRound_2_b at hf
      refine lv_iload_n hx hb dX0_hasFlipRound_2 rfl (lv_at hl 3 rfl) ?_
      refine lv_aload_n hx hb dX0_hasFlipRound_3 rfl (lv_at hl 0 rfl) ?_
      refine va_get (D := (dC, dI)) (ci := 0) (v := .ref h_o_seen) (C := RX0) (T := TX0) (N := 9) hx hb hts (fun w h => List.mem_cons_of_mem _ (kc_X0 w h)) hown hK hP 0 rfl rfl 0 (by decide) (hg kw_129) (fun _ h9 => h9) rfl dX0_hasFlipRound_4 ?_
      refine va_getN (D := (dC, dI)) (ci := 5) (v := .int o_seen_hex) (C := RX6) (T := TX6) (N := 5) hx hb hts (fun w h => List.mem_cons_of_mem _ (kc_X6 w h)) hown hK hP 1 rfl rfl 2 (by decide) (va_Nw.use rfl (hE.1 _ kw_135)) (fun _ h9 => h9) rfl dX0_hasFlipRound_7 ?_
      obtain ⟨q10, hq10, hf⟩ := ds_ob hf
      refine ds_calli (wr := [(h_o, .inr (0, [.ref h_o_seen, .ref h_o_turned, .ref h_o_found, .int o_looked, .int o_stepsFound, .int o_firstX, .int o_firstY, .int o_secondX, .int o_secondY])), (h_o_seen, .inr (5, [.int o_seen_wide, .int o_seen_high, .int o_seen_hex, .long o_seen_ones, .long o_seen_twos])), (h_o_found, .inl (ca 1, 12, .inr (.inl o_found_r)))]) (va_runS (As := [.int o_seen_hex]) (rest := [.int v3]) ⟨hx, hb, hml, hown, hts⟩ (c_X1_turnings l dC dI ca sa  H.size  o_seen_hex q10 hq10) (va_cwS 1 hts (ds_gS kw_167 kw_1 kw_2 kw_3) rfl rfl rfl (by decide +kernel) ⟨Nat.le_of_ble_eq_true rfl, Nat.le_of_ble_eq_true rfl⟩) ⟨ds_blind, ds_at hP hD hK hE hS hA [] rfl rfl _⟩ rfl rfl hl.1 rfl (lv_room (Nat.le_of_ble_eq_true rfl)) dX0_hasFlipRound_10 ⟨Nat.zero_le _, Nat.zero_le _⟩) hP hD hS hA [] [0, 1, 2] rfl rfl rfl (by decide) (fun H locs hP hD hS => ?_)
      have hP : va_P (dC, dI) vwCl [(h_o, .inr (0, [.ref h_o_seen, .ref h_o_turned, .ref h_o_found, .int o_looked, .int o_stepsFound, .int o_firstX, .int o_firstY, .int o_secondX, .int o_secondY])), (h_o_seen, .inr (5, [.int o_seen_wide, .int o_seen_high, .int o_seen_hex, .long o_seen_ones, .long o_seen_twos])), (h_o_found, .inl (ca 1, 12, .inr (.inl o_found_r)))] H := hP
      have hD : va_D A [(h_o, .inr (0, [.ref h_o_seen, .ref h_o_turned, .ref h_o_found, .int o_looked, .int o_stepsFound, .int o_firstX, .int o_firstY, .int o_secondX, .int o_secondY])), (h_o_seen, .inr (5, [.int o_seen_wide, .int o_seen_high, .int o_seen_hex, .long o_seen_ones, .long o_seen_twos])), (h_o_found, .inl (ca 1, 12, .inr (.inl o_found_r)))] := hD
      refine lv_icmp_ge (tgt := 80) hx hb dX0_hasFlipRound_13 (by decide) (fun c_13 => ?_) (fun c_13 => ?_)
      · replace hf := ds_t c_13 hf
        refine lv_iconst (v := 0) hx hb dX0_hasFlipRound_80 (by decide) ?_
        have hf := Option.some.inj hf
        subst hf
        rw [eG1] at hG
        replace hG : G0 _ := hG
        rw [eG0] at hG
        have hG : _ = res := hG
        subst hG
        exact W.zret (v := (0 : Int32)) (ty := .boolean) hx hb hr rfl (fun t ht hW => ⟨⟨(0 : Int32), (), rfl, rfl, by rw [ht]; exact hP, hD⟩, hS.F ht⟩) hS.2.2 dX0_hasFlipRound_81
      · replace hf := ds_f c_13 hf
        refine lv_aload_n hx hb dX0_hasFlipRound_16 rfl (lv_at hl 0 rfl) ?_
        refine va_get (D := (dC, dI)) (ci := 0) (v := .ref h_o_seen) (C := RX0) (T := TX0) (N := 9) hx hb hts (fun w h => List.mem_cons_of_mem _ (kc_X0 w h)) hown hK hP 0 rfl rfl 0 (by decide) (hg kw_129) (fun _ h9 => h9) rfl dX0_hasFlipRound_17 ?_
        refine va_getN (D := (dC, dI)) (ci := 5) (v := .int o_seen_hex) (C := RX6) (T := TX6) (N := 5) hx hb hts (fun w h => List.mem_cons_of_mem _ (kc_X6 w h)) hown hK hP 1 rfl rfl 2 (by decide) (va_Nw.use rfl (hE.1 _ kw_135)) (fun _ h9 => h9) rfl dX0_hasFlipRound_20 ?_
        refine lv_iload_n hx hb dX0_hasFlipRound_23 rfl (lv_at hl 3 rfl) ?_
        refine lv_iload_n hx hb dX0_hasFlipRound_24 rfl (lv_at hl 1 rfl) ?_
        refine lv_iload_n hx hb dX0_hasFlipRound_25 rfl (lv_at hl 2 rfl) ?_
        obtain ⟨q26, hq26, hf⟩ := ds_ob hf
        refine ds_calli (wr := [(h_o, .inr (0, [.ref h_o_seen, .ref h_o_turned, .ref h_o_found, .int o_looked, .int o_stepsFound, .int o_firstX, .int o_firstY, .int o_secondX, .int o_secondY])), (h_o_seen, .inr (5, [.int o_seen_wide, .int o_seen_high, .int o_seen_hex, .long o_seen_ones, .long o_seen_twos])), (h_o_found, .inl (ca 1, 12, .inr (.inl o_found_r)))]) (va_runS (As := [.int o_seen_hex, .int v3, .int p1, .int p2]) (rest := []) ⟨hx, hb, hml, hown, hts⟩ (c_X1_turnedX l dC dI ca sa  H.size  o_seen_hex v3 p1 p2 q26 hq26) (va_cwS 4 hts (ds_gS kw_210 kw_93 kw_2 kw_94) rfl rfl rfl (by decide +kernel) ⟨Nat.le_of_ble_eq_true rfl, Nat.le_of_ble_eq_true rfl⟩) ⟨ds_blind, ds_at hP hD hK hE hS hA [] rfl rfl _⟩ rfl rfl hl.1 rfl (lv_room (Nat.le_of_ble_eq_true rfl)) dX0_hasFlipRound_26 ⟨Nat.zero_le _, Nat.zero_le _⟩) hP hD hS hA [] [0, 1, 2] rfl rfl rfl (by decide) (fun H locs hP hD hS => ?_)
        have hP : va_P (dC, dI) vwCl [(h_o, .inr (0, [.ref h_o_seen, .ref h_o_turned, .ref h_o_found, .int o_looked, .int o_stepsFound, .int o_firstX, .int o_firstY, .int o_secondX, .int o_secondY])), (h_o_seen, .inr (5, [.int o_seen_wide, .int o_seen_high, .int o_seen_hex, .long o_seen_ones, .long o_seen_twos])), (h_o_found, .inl (ca 1, 12, .inr (.inl o_found_r)))] H := hP
        have hD : va_D A [(h_o, .inr (0, [.ref h_o_seen, .ref h_o_turned, .ref h_o_found, .int o_looked, .int o_stepsFound, .int o_firstX, .int o_firstY, .int o_secondX, .int o_secondY])), (h_o_seen, .inr (5, [.int o_seen_wide, .int o_seen_high, .int o_seen_hex, .long o_seen_ones, .long o_seen_twos])), (h_o_found, .inl (ca 1, 12, .inr (.inl o_found_r)))] := hD
        refine lv_iload_n hx hb dX0_hasFlipRound_29 rfl (lv_at hl 1 rfl) ?_
        refine lv_ineg hx hb dX0_hasFlipRound_30 ?_
        refine lv_icmp_ne (tgt := 56) hx hb dX0_hasFlipRound_31 (by decide) (fun c_31 => ?_) (fun c_31 => ?_)
        · replace hf := ds_f c_31 hf
          exact h1 (J_56 v3 _ hf hG _ _ hP hD hS _ (lv_sub hl [0, 1, 2, 3] rfl))
        · replace hf := ds_t c_31 hf
          refine lv_aload_n hx hb dX0_hasFlipRound_34 rfl (lv_at hl 0 rfl) ?_
          refine va_get (D := (dC, dI)) (ci := 0) (v := .ref h_o_seen) (C := RX0) (T := TX0) (N := 9) hx hb hts (fun w h => List.mem_cons_of_mem _ (kc_X0 w h)) hown hK hP 0 rfl rfl 0 (by decide) (hg kw_129) (fun _ h9 => h9) rfl dX0_hasFlipRound_35 ?_
          refine va_getN (D := (dC, dI)) (ci := 5) (v := .int o_seen_hex) (C := RX6) (T := TX6) (N := 5) hx hb hts (fun w h => List.mem_cons_of_mem _ (kc_X6 w h)) hown hK hP 1 rfl rfl 2 (by decide) (va_Nw.use rfl (hE.1 _ kw_135)) (fun _ h9 => h9) rfl dX0_hasFlipRound_38 ?_
          refine lv_iload_n hx hb dX0_hasFlipRound_41 rfl (lv_at hl 3 rfl) ?_
          refine lv_iload_n hx hb dX0_hasFlipRound_42 rfl (lv_at hl 1 rfl) ?_
          refine lv_iload_n hx hb dX0_hasFlipRound_43 rfl (lv_at hl 2 rfl) ?_
          obtain ⟨q44, hq44, hf⟩ := ds_ob hf
          refine ds_calli (wr := [(h_o, .inr (0, [.ref h_o_seen, .ref h_o_turned, .ref h_o_found, .int o_looked, .int o_stepsFound, .int o_firstX, .int o_firstY, .int o_secondX, .int o_secondY])), (h_o_seen, .inr (5, [.int o_seen_wide, .int o_seen_high, .int o_seen_hex, .long o_seen_ones, .long o_seen_twos])), (h_o_found, .inl (ca 1, 12, .inr (.inl o_found_r)))]) (va_runS (As := [.int o_seen_hex, .int v3, .int p1, .int p2]) (rest := []) ⟨hx, hb, hml, hown, hts⟩ (c_X1_turnedY l dC dI ca sa  H.size  o_seen_hex v3 p1 p2 q44 hq44) (va_cwS 4 hts (ds_gS kw_211 kw_96 kw_2 kw_97) rfl rfl rfl (by decide +kernel) ⟨Nat.le_of_ble_eq_true rfl, Nat.le_of_ble_eq_true rfl⟩) ⟨ds_blind, ds_at hP hD hK hE hS hA [] rfl rfl _⟩ rfl rfl hl.1 rfl (lv_room (Nat.le_of_ble_eq_true rfl)) dX0_hasFlipRound_44 ⟨Nat.zero_le _, Nat.zero_le _⟩) hP hD hS hA [] [0, 1, 2] rfl rfl rfl (by decide) (fun H locs hP hD hS => ?_)
          have hP : va_P (dC, dI) vwCl [(h_o, .inr (0, [.ref h_o_seen, .ref h_o_turned, .ref h_o_found, .int o_looked, .int o_stepsFound, .int o_firstX, .int o_firstY, .int o_secondX, .int o_secondY])), (h_o_seen, .inr (5, [.int o_seen_wide, .int o_seen_high, .int o_seen_hex, .long o_seen_ones, .long o_seen_twos])), (h_o_found, .inl (ca 1, 12, .inr (.inl o_found_r)))] H := hP
          have hD : va_D A [(h_o, .inr (0, [.ref h_o_seen, .ref h_o_turned, .ref h_o_found, .int o_looked, .int o_stepsFound, .int o_firstX, .int o_firstY, .int o_secondX, .int o_secondY])), (h_o_seen, .inr (5, [.int o_seen_wide, .int o_seen_high, .int o_seen_hex, .long o_seen_ones, .long o_seen_twos])), (h_o_found, .inl (ca 1, 12, .inr (.inl o_found_r)))] := hD
          refine lv_iload_n hx hb dX0_hasFlipRound_47 rfl (lv_at hl 2 rfl) ?_
          refine lv_ineg hx hb dX0_hasFlipRound_48 ?_
          refine lv_icmp_ne (tgt := 56) hx hb dX0_hasFlipRound_49 (by decide) (fun c_49 => ?_) (fun c_49 => ?_)
          · replace hf := ds_f c_49 hf
            exact h1 (J_56 v3 _ hf hG _ _ hP hD hS _ (lv_sub hl [0, 1, 2, 3] rfl))
          · replace hf := ds_t c_49 hf
            refine lv_iconst (v := 1) hx hb dX0_hasFlipRound_52 (by decide) ?_
            refine lv_goto (tgt := 57) hx hb dX0_hasFlipRound_53 (by decide) ?_
            exact h1 (J_57 v3 (1 : Int32) _ hf hG _ _ hP hD hS _ (lv_sub hl [0, 1, 2, 3] rfl))
  unfold fX0_hasFlipRound at hf
  refine lv_iconst (v := 0) hx hb dX0_hasFlipRound_0 (by decide) ?_
  refine lv_istore_n (lv' := [(3, .int (0 : Int32)), (0, .ref h_o), (1, .int p1), (2, .int p2)]) hx hb dX0_hasFlipRound_1 rfl hl (by decide) rfl (fun ls hl => ?_)
  exact h1 (J_2  1000 (0 : Int32) _ hf hG _ _ hP hD hS _ (lv_sub hl [1, 2, 3, 0] rfl))
theorem dX0_turnsShortestRound_0 : decode cX0_turnsShortestRound 0 = .ok (.aload_n 0, 1) := by decide +kernel
theorem dX0_turnsShortestRound_1 : decode cX0_turnsShortestRound 1 = .ok (.getfield 12, 3) := by decide +kernel
theorem dX0_turnsShortestRound_4 : decode cX0_turnsShortestRound 4 = .ok (.getfield 39, 3) := by decide +kernel
theorem dX0_turnsShortestRound_7 : decode cX0_turnsShortestRound 7 = .ok (.aload_n 0, 1) := by decide +kernel
theorem dX0_turnsShortestRound_8 : decode cX0_turnsShortestRound 8 = .ok (.getfield 123, 3) := by decide +kernel
theorem dX0_turnsShortestRound_11 : decode cX0_turnsShortestRound 11 = .ok (.aload_n 0, 1) := by decide +kernel
theorem dX0_turnsShortestRound_12 : decode cX0_turnsShortestRound 12 = .ok (.getfield 127, 3) := by decide +kernel
theorem dX0_turnsShortestRound_15 : decode cX0_turnsShortestRound 15 = .ok (.invokestatic 150, 3) := by decide +kernel
theorem dX0_turnsShortestRound_18 : decode cX0_turnsShortestRound 18 = .ok (.istore_n 1, 1) := by decide +kernel
theorem dX0_turnsShortestRound_19 : decode cX0_turnsShortestRound 19 = .ok (.bipush (-9), 2) := by decide +kernel
theorem dX0_turnsShortestRound_21 : decode cX0_turnsShortestRound 21 = .ok (.istore_n 2, 1) := by decide +kernel
theorem dX0_turnsShortestRound_22 : decode cX0_turnsShortestRound 22 = .ok (.iload_n 2, 1) := by decide +kernel
theorem dX0_turnsShortestRound_23 : decode cX0_turnsShortestRound 23 = .ok (.bipush 9, 2) := by decide +kernel
theorem dX0_turnsShortestRound_25 : decode cX0_turnsShortestRound 25 = .ok (.if_icmp .gt 73, 3) := by decide +kernel
theorem dX0_turnsShortestRound_28 : decode cX0_turnsShortestRound 28 = .ok (.bipush (-9), 2) := by decide +kernel
theorem dX0_turnsShortestRound_30 : decode cX0_turnsShortestRound 30 = .ok (.istore_n 3, 1) := by decide +kernel
theorem dX0_turnsShortestRound_31 : decode cX0_turnsShortestRound 31 = .ok (.iload_n 3, 1) := by decide +kernel
theorem dX0_turnsShortestRound_32 : decode cX0_turnsShortestRound 32 = .ok (.bipush 9, 2) := by decide +kernel
theorem dX0_turnsShortestRound_34 : decode cX0_turnsShortestRound 34 = .ok (.if_icmp .gt 58, 3) := by decide +kernel
theorem dX0_turnsShortestRound_37 : decode cX0_turnsShortestRound 37 = .ok (.aload_n 0, 1) := by decide +kernel
theorem dX0_turnsShortestRound_38 : decode cX0_turnsShortestRound 38 = .ok (.getfield 12, 3) := by decide +kernel
theorem dX0_turnsShortestRound_41 : decode cX0_turnsShortestRound 41 = .ok (.getfield 39, 3) := by decide +kernel
theorem dX0_turnsShortestRound_44 : decode cX0_turnsShortestRound 44 = .ok (.iload_n 3, 1) := by decide +kernel
theorem dX0_turnsShortestRound_45 : decode cX0_turnsShortestRound 45 = .ok (.iload_n 2, 1) := by decide +kernel
theorem dX0_turnsShortestRound_46 : decode cX0_turnsShortestRound 46 = .ok (.invokestatic 150, 3) := by decide +kernel
theorem dX0_turnsShortestRound_49 : decode cX0_turnsShortestRound 49 = .ok (.iload_n 1, 1) := by decide +kernel
theorem dX0_turnsShortestRound_50 : decode cX0_turnsShortestRound 50 = .ok (.if_icmp .ne 7, 3) := by decide +kernel
theorem dX0_turnsShortestRound_53 : decode cX0_turnsShortestRound 53 = .ok (.iconst 1, 1) := by decide +kernel
theorem dX0_turnsShortestRound_54 : decode cX0_turnsShortestRound 54 = .ok (.goto 4, 3) := by decide +kernel
theorem dX0_turnsShortestRound_57 : decode cX0_turnsShortestRound 57 = .ok (.iconst 0, 1) := by decide +kernel
theorem dX0_turnsShortestRound_58 : decode cX0_turnsShortestRound 58 = .ok (.istore 4, 2) := by decide +kernel
theorem dX0_turnsShortestRound_60 : decode cX0_turnsShortestRound 60 = .ok (.iload 4, 2) := by decide +kernel
theorem dX0_turnsShortestRound_62 : decode cX0_turnsShortestRound 62 = .ok (.ifCond .eq 24, 3) := by decide +kernel
theorem dX0_turnsShortestRound_65 : decode cX0_turnsShortestRound 65 = .ok (.aload_n 0, 1) := by decide +kernel
theorem dX0_turnsShortestRound_66 : decode cX0_turnsShortestRound 66 = .ok (.iconst 0, 1) := by decide +kernel
theorem dX0_turnsShortestRound_67 : decode cX0_turnsShortestRound 67 = .ok (.iload_n 3, 1) := by decide +kernel
theorem dX0_turnsShortestRound_68 : decode cX0_turnsShortestRound 68 = .ok (.iload_n 2, 1) := by decide +kernel
theorem dX0_turnsShortestRound_69 : decode cX0_turnsShortestRound 69 = .ok (.invokevirtual 119, 3) := by decide +kernel
theorem dX0_turnsShortestRound_72 : decode cX0_turnsShortestRound 72 = .ok (.ifCond .eq 14, 3) := by decide +kernel
theorem dX0_turnsShortestRound_75 : decode cX0_turnsShortestRound 75 = .ok (.aload_n 0, 1) := by decide +kernel
theorem dX0_turnsShortestRound_76 : decode cX0_turnsShortestRound 76 = .ok (.iload_n 3, 1) := by decide +kernel
theorem dX0_turnsShortestRound_77 : decode cX0_turnsShortestRound 77 = .ok (.iload_n 2, 1) := by decide +kernel
theorem dX0_turnsShortestRound_78 : decode cX0_turnsShortestRound 78 = .ok (.invokevirtual 170, 3) := by decide +kernel
theorem dX0_turnsShortestRound_81 : decode cX0_turnsShortestRound 81 = .ok (.ifCond .eq 5, 3) := by decide +kernel
theorem dX0_turnsShortestRound_84 : decode cX0_turnsShortestRound 84 = .ok (.iconst 1, 1) := by decide +kernel
theorem dX0_turnsShortestRound_85 : decode cX0_turnsShortestRound 85 = .ok (.ireturn, 1) := by decide +kernel
theorem dX0_turnsShortestRound_86 : decode cX0_turnsShortestRound 86 = .ok (.iinc 3 1, 3) := by decide +kernel
theorem dX0_turnsShortestRound_89 : decode cX0_turnsShortestRound 89 = .ok (.goto (-58), 3) := by decide +kernel
theorem dX0_turnsShortestRound_92 : decode cX0_turnsShortestRound 92 = .ok (.iinc 2 1, 3) := by decide +kernel
theorem dX0_turnsShortestRound_95 : decode cX0_turnsShortestRound 95 = .ok (.goto (-73), 3) := by decide +kernel
theorem dX0_turnsShortestRound_98 : decode cX0_turnsShortestRound 98 = .ok (.iconst 0, 1) := by decide +kernel
theorem dX0_turnsShortestRound_99 : decode cX0_turnsShortestRound 99 = .ok (.ireturn, 1) := by decide +kernel
def fX0_turnsShortestRound_92 (v2 : Int32) : Option ((Int32) ⊕ (Int32)) :=
  some (.inl (v2 + 1))
def fX0_turnsShortestRound_86 (v3 : Int32) : Option ((Int32) ⊕ ((Int32) ⊕ (Int32))) :=
  some (.inl (v3 + 1))
def fX0_turnsShortestRound_58 (o_seen_wide : Int32) (o_seen_high : Int32) (o_seen_hex : Int32) (o_found_r : Nat → Int64) (v2 : Int32) (v3 : Int32) (s0 : Int32) : Option ((Int32) ⊕ ((Int32) ⊕ (Int32))) :=
  if s0 = 0 then fX0_turnsShortestRound_86 v3 else Option.bind (fX0_hasSymmetry o_found_r o_seen_wide o_seen_high (0 : Int32) v3 v2) fun q69 => if q69 = 0 then fX0_turnsShortestRound_86 v3 else Option.bind (fX0_hasFlipRound o_seen_hex o_found_r v3 v2) fun q78 => if q78 = 0 then fX0_turnsShortestRound_86 v3 else some (.inr (.inr (1 : Int32)))
def fX0_turnsShortestRound_31_b (o_seen_wide : Int32) (o_seen_high : Int32) (o_seen_hex : Int32) (o_found_r : Nat → Int64) (v1 : Int32) (v2 : Int32) (v3 : Int32) : Option ((Int32) ⊕ ((Int32) ⊕ (Int32))) :=
  if (9 : Int32) < v3 then Option.bind (fX0_turnsShortestRound_92 v2) fun z => some (.inr z) else Option.bind (fX1_lengthOf o_seen_hex v3 v2) fun q46 => if q46 = v1 then fX0_turnsShortestRound_58 o_seen_wide o_seen_high o_seen_hex o_found_r v2 v3 (1 : Int32) else fX0_turnsShortestRound_58 o_seen_wide o_seen_high o_seen_hex o_found_r v2 v3 (0 : Int32)
def fX0_turnsShortestRound_31 (o_seen_wide : Int32) (o_seen_high : Int32) (o_seen_hex : Int32) (o_found_r : Nat → Int64) (v1 : Int32) (v2 : Int32) (v3 : Int32) : Option ((Int32) ⊕ (Int32)) := ds_it (fun s => fX0_turnsShortestRound_31_b o_seen_wide o_seen_high o_seen_hex o_found_r v1 v2 s) 1000 v3
def fX0_turnsShortestRound_22_b (o_seen_wide : Int32) (o_seen_high : Int32) (o_seen_hex : Int32) (o_found_r : Nat → Int64) (v1 : Int32) (v2 : Int32) : Option ((Int32) ⊕ (Int32)) :=
  if (9 : Int32) < v2 then some (.inr (0 : Int32)) else fX0_turnsShortestRound_31 o_seen_wide o_seen_high o_seen_hex o_found_r v1 v2 (-9 : Int32)
def fX0_turnsShortestRound_22 (o_seen_wide : Int32) (o_seen_high : Int32) (o_seen_hex : Int32) (o_found_r : Nat → Int64) (v1 : Int32) (v2 : Int32) : Option (Int32) := ds_it (fun s => fX0_turnsShortestRound_22_b o_seen_wide o_seen_high o_seen_hex o_found_r v1 s) 1000 v2
def fX0_turnsShortestRound (o_firstX : Int32) (o_firstY : Int32) (o_seen_wide : Int32) (o_seen_high : Int32) (o_seen_hex : Int32) (o_found_r : Nat → Int64) : Option (Int32) :=
  Option.bind (fX1_lengthOf o_seen_hex o_firstX o_firstY) fun q15 => fX0_turnsShortestRound_22 o_seen_wide o_seen_high o_seen_hex o_found_r q15 (-9 : Int32)
set_option maxHeartbeats 4000000 in
set_option maxRecDepth 100000 in
theorem c_X0_turnsShortestRound (l : Launch) (dC : Nat → ClassId) (dI : Nat → Nat → Nat) (ca : Nat → ClassId) (sa : Nat → Nat) (h_o : Nat) (h_o_seen : Nat) (h_o_turned : Nat) (h_o_found : Nat) (sz : Nat) (o_looked : Int32) (o_stepsFound : Int32) (o_firstX : Int32) (o_firstY : Int32) (o_secondX : Int32) (o_secondY : Int32) (o_seen_wide : Int32) (o_seen_high : Int32) (o_seen_hex : Int32) (o_seen_ones : Int64) (o_seen_twos : Int64) (o_found_r : Nat → Int64) (res : Int32) (hf : fX0_turnsShortestRound o_firstX o_firstY o_seen_wide o_seen_high o_seen_hex o_found_r = some res) : Met l yX0_turnsShortestRound (Cond.code yX0_turnsShortestRound cX0_turnsShortestRound 5 (some .boolean) :: ds_gw) { frames := 4, cells := 0, slots := 0, locals := 86 } (va_Pc [.ref h_o] (ds_Pre dC dI ca sa [(h_o, .inr (0, [.ref h_o_seen, .ref h_o_turned, .ref h_o_found, .int o_looked, .int o_stepsFound, .int o_firstX, .int o_firstY, .int o_secondX, .int o_secondY])), (h_o_seen, .inr (5, [.int o_seen_wide, .int o_seen_high, .int o_seen_hex, .long o_seen_ones, .long o_seen_twos])), (h_o_found, .inl (ca 1, 12, .inr (.inl o_found_r)))] sz)) (va_Qi (fun r (_ : Unit) => r = res) (ds_B dC dI (va_A [(h_o, .inr (0, [.ref h_o_seen, .ref h_o_turned, .ref h_o_found, .int o_looked, .int o_stepsFound, .int o_firstX, .int o_firstY, .int o_secondX, .int o_secondY])), (h_o_seen, .inr (5, [.int o_seen_wide, .int o_seen_high, .int o_seen_hex, .long o_seen_ones, .long o_seen_twos])), (h_o_found, .inl (ca 1, 12, .inr (.inl o_found_r)))] sz) [(h_o, .inr (0, [.ref h_o_seen, .ref h_o_turned, .ref h_o_found, .int o_looked, .int o_stepsFound, .int o_firstX, .int o_firstY, .int o_secondX, .int o_secondY])), (h_o_seen, .inr (5, [.int o_seen_wide, .int o_seen_high, .int o_seen_hex, .long o_seen_ones, .long o_seen_twos])), (h_o_found, .inl (ca 1, 12, .inr (.inl o_found_r)))]) (va_A [(h_o, .inr (0, [.ref h_o_seen, .ref h_o_turned, .ref h_o_found, .int o_looked, .int o_stepsFound, .int o_firstX, .int o_firstY, .int o_secondX, .int o_secondY])), (h_o_seen, .inr (5, [.int o_seen_wide, .int o_seen_high, .int o_seen_hex, .long o_seen_ones, .long o_seen_twos])), (h_o_found, .inl (ca 1, 12, .inr (.inl o_found_r)))] sz)) 0 0 (va_A [(h_o, .inr (0, [.ref h_o_seen, .ref h_o_turned, .ref h_o_found, .int o_looked, .int o_stepsFound, .int o_firstX, .int o_firstY, .int o_secondX, .int o_secondY])), (h_o_seen, .inr (5, [.int o_seen_wide, .int o_seen_high, .int o_seen_hex, .long o_seen_ones, .long o_seen_twos])), (h_o_found, .inl (ca 1, 12, .inr (.inl o_found_r)))] sz) := by
  refine Met.ofW (cc := cX0_turnsShortestRound) (maxL := 5) (ret := (some .boolean)) (by decide) rfl ?_
  intro p e s m args below meth c s₁ B hml hv
  obtain ⟨rfl, hsz, hP, hK, hD0, hE⟩ := hv
  have hx := B.exec
  have hb := B.bytes
  have hr := B.returns
  have hts := atoms_spec (ws := Cond.code yX0_turnsShortestRound cX0_turnsShortestRound 5 (some .boolean) :: ds_gw) B.pre
  have hg : ∀ {w : Cond}, w ∈ ds_gw → w.before _ s = true := fun h => hts _ (List.mem_cons_of_mem _ h)
  have hown : s.vm.findClass RX0 = some m.cls := findClass_of_methodNamed B.named
  have hlocks := B.notSynchronized
  subst hsz
  have hD := hD0.self (sz := s.heap.size)
  generalize hAe : va_A [(h_o, .inr (0, [.ref h_o_seen, .ref h_o_turned, .ref h_o_found, .int o_looked, .int o_stepsFound, .int o_firstX, .int o_firstY, .int o_secondX, .int o_secondY])), (h_o_seen, .inr (5, [.int o_seen_wide, .int o_seen_high, .int o_seen_hex, .long o_seen_ones, .long o_seen_twos])), (h_o_found, .inl (ca 1, 12, .inr (.inl o_found_r)))] s.heap.size = A at hD hE ⊢
  have hA : ∀ q : Nat, s.heap.size ≤ q → A q := fun q h => by rw [← hAe]; exact Or.inr h
  have hS : va_S A s.heap s.heap [] := va_S.rf
  have hl := lv_entry ([.ref h_o]) (n := 5) (Nat.le_of_ble_eq_true rfl)
  rw [lg_entry_eq]
  generalize (lg_sl ([.ref h_o]) ++ List.replicate (5 - (lg_sl ([.ref h_o])).length) Slot.unset).toArray = ls at hl ⊢
  have hl : lv_has ls 5 [(0, .ref h_o)] := hl
  obtain ⟨G0, eG0⟩ : ∃ G : Int32 → Prop, G = (fun r => r = res) := ⟨_, rfl⟩
  obtain ⟨rr, hrr⟩ : ∃ z, z = res := ⟨_, rfl⟩
  rw [← hrr] at hf
  have hG : G0 rr := by subst eG0; exact hrr
  refine ds_cap (fun WW h1 h2 => ?_)
  have J_22 : ∀ (v1 : Int32) (n : Nat) (v2 : Int32) (rr : Int32) (hf : ds_it (fun s => fX0_turnsShortestRound_22_b o_seen_wide o_seen_high o_seen_hex o_found_r v1 s) n v2 = some rr) (hG : G0 rr) (H : Heap) (locs : List Loc) (hP : va_P (dC, dI) vwCl [(h_o, .inr (0, [.ref h_o_seen, .ref h_o_turned, .ref h_o_found, .int o_looked, .int o_stepsFound, .int o_firstX, .int o_firstY, .int o_secondX, .int o_secondY])), (h_o_seen, .inr (5, [.int o_seen_wide, .int o_seen_high, .int o_seen_hex, .long o_seen_ones, .long o_seen_twos])), (h_o_found, .inl (ca 1, 12, .inr (.inl o_found_r)))] H) (hD : va_D A [(h_o, .inr (0, [.ref h_o_seen, .ref h_o_turned, .ref h_o_found, .int o_looked, .int o_stepsFound, .int o_firstX, .int o_firstY, .int o_secondX, .int o_secondY])), (h_o_seen, .inr (5, [.int o_seen_wide, .int o_seen_high, .int o_seen_hex, .long o_seen_ones, .long o_seen_twos])), (h_o_found, .inl (ca 1, 12, .inr (.inl o_found_r)))]) (hS : va_S A s.heap H locs) (ls : Array Slot) (hl : lv_has ls 5 [(0, .ref h_o), (1, .int v1), (2, .int v2)]), WW H locs (F0 m 22 ls []) := by
    intro v1 n
    induction n with
    | zero => intro v2 rr hf; exact (ds_it_zero hf).elim
    | succ n ih22 =>
      intro v2 rr hf hG H locs hP hD hS ls hl
      refine h2 ?_
      obtain ⟨rr, hf, hG⟩ := ds_it_succ hf hG
      replace hf : fX0_turnsShortestRound_22_b o_seen_wide o_seen_high o_seen_hex o_found_r v1 v2 = some rr := hf
      obtain ⟨G1, eG1⟩ : ∃ G : ((Int32) ⊕ (Int32)) → Prop, G = ds_G (fun s' => ∃ r', ds_it (fun s => fX0_turnsShortestRound_22_b o_seen_wide o_seen_high o_seen_hex o_found_r v1 s) n s' = some r' ∧ G0 r') G0 := ⟨_, rfl⟩
      rw [← eG1] at hG
      have J_92 : ∀ (v2 : Int32) (rr : (Int32) ⊕ (Int32)) (hf : fX0_turnsShortestRound_92 v2 = some rr) (hG : G1 rr) (H : Heap) (locs : List Loc) (hP : va_P (dC, dI) vwCl [(h_o, .inr (0, [.ref h_o_seen, .ref h_o_turned, .ref h_o_found, .int o_looked, .int o_stepsFound, .int o_firstX, .int o_firstY, .int o_secondX, .int o_secondY])), (h_o_seen, .inr (5, [.int o_seen_wide, .int o_seen_high, .int o_seen_hex, .long o_seen_ones, .long o_seen_twos])), (h_o_found, .inl (ca 1, 12, .inr (.inl o_found_r)))] H) (hD : va_D A [(h_o, .inr (0, [.ref h_o_seen, .ref h_o_turned, .ref h_o_found, .int o_looked, .int o_stepsFound, .int o_firstX, .int o_firstY, .int o_secondX, .int o_secondY])), (h_o_seen, .inr (5, [.int o_seen_wide, .int o_seen_high, .int o_seen_hex, .long o_seen_ones, .long o_seen_twos])), (h_o_found, .inl (ca 1, 12, .inr (.inl o_found_r)))]) (hS : va_S A s.heap H locs) (ls : Array Slot) (hl : lv_has ls 5 [(0, .ref h_o), (1, .int v1), (2, .int v2)]), WW H locs (F0 m 92 ls []) := by
        intro v2 rr hf hG H locs hP hD hS ls hl
        refine h2 ?_
        unfold fX0_turnsShortestRound_92 at hf
        refine lv_iinc (v := (v2 + 1)) (lv' := [(2, .int (v2 + 1)), (0, .ref h_o), (1, .int v1)]) hx hb dX0_turnsShortestRound_92 hl (k := 2) rfl rfl (by decide) rfl (fun ls hl => ?_)
        refine lv_goto (tgt := 22) hx hb dX0_turnsShortestRound_95 (by decide) ?_
        have hf := Option.some.inj hf
        subst hf
        rw [eG1] at hG
        obtain ⟨rr, hf, hG⟩ := hG
        exact h1 (ih22 (v2 + 1) rr hf hG _ _ hP hD hS _ (lv_sub hl [1, 2, 0] rfl))
      have J_31 : ∀ (v2 : Int32) (n : Nat) (v3 : Int32) (rr : (Int32) ⊕ (Int32)) (hf : ds_it (fun s => fX0_turnsShortestRound_31_b o_seen_wide o_seen_high o_seen_hex o_found_r v1 v2 s) n v3 = some rr) (hG : G1 rr) (H : Heap) (locs : List Loc) (hP : va_P (dC, dI) vwCl [(h_o, .inr (0, [.ref h_o_seen, .ref h_o_turned, .ref h_o_found, .int o_looked, .int o_stepsFound, .int o_firstX, .int o_firstY, .int o_secondX, .int o_secondY])), (h_o_seen, .inr (5, [.int o_seen_wide, .int o_seen_high, .int o_seen_hex, .long o_seen_ones, .long o_seen_twos])), (h_o_found, .inl (ca 1, 12, .inr (.inl o_found_r)))] H) (hD : va_D A [(h_o, .inr (0, [.ref h_o_seen, .ref h_o_turned, .ref h_o_found, .int o_looked, .int o_stepsFound, .int o_firstX, .int o_firstY, .int o_secondX, .int o_secondY])), (h_o_seen, .inr (5, [.int o_seen_wide, .int o_seen_high, .int o_seen_hex, .long o_seen_ones, .long o_seen_twos])), (h_o_found, .inl (ca 1, 12, .inr (.inl o_found_r)))]) (hS : va_S A s.heap H locs) (ls : Array Slot) (hl : lv_has ls 5 [(0, .ref h_o), (1, .int v1), (2, .int v2), (3, .int v3)]), WW H locs (F0 m 31 ls []) := by
        intro v2 n
        induction n with
        | zero => intro v3 rr hf; exact (ds_it_zero hf).elim
        | succ n ih31 =>
          intro v3 rr hf hG H locs hP hD hS ls hl
          refine h2 ?_
          obtain ⟨rr, hf, hG⟩ := ds_it_succ hf hG
          replace hf : fX0_turnsShortestRound_31_b o_seen_wide o_seen_high o_seen_hex o_found_r v1 v2 v3 = some rr := hf
          obtain ⟨G2, eG2⟩ : ∃ G : ((Int32) ⊕ ((Int32) ⊕ (Int32))) → Prop, G = ds_G (fun s' => ∃ r', ds_it (fun s => fX0_turnsShortestRound_31_b o_seen_wide o_seen_high o_seen_hex o_found_r v1 v2 s) n s' = some r' ∧ G1 r') G1 := ⟨_, rfl⟩
          rw [← eG2] at hG
          have J_86 : ∀ (v3 : Int32) (rr : (Int32) ⊕ ((Int32) ⊕ (Int32))) (hf : fX0_turnsShortestRound_86 v3 = some rr) (hG : G2 rr) (H : Heap) (locs : List Loc) (hP : va_P (dC, dI) vwCl [(h_o, .inr (0, [.ref h_o_seen, .ref h_o_turned, .ref h_o_found, .int o_looked, .int o_stepsFound, .int o_firstX, .int o_firstY, .int o_secondX, .int o_secondY])), (h_o_seen, .inr (5, [.int o_seen_wide, .int o_seen_high, .int o_seen_hex, .long o_seen_ones, .long o_seen_twos])), (h_o_found, .inl (ca 1, 12, .inr (.inl o_found_r)))] H) (hD : va_D A [(h_o, .inr (0, [.ref h_o_seen, .ref h_o_turned, .ref h_o_found, .int o_looked, .int o_stepsFound, .int o_firstX, .int o_firstY, .int o_secondX, .int o_secondY])), (h_o_seen, .inr (5, [.int o_seen_wide, .int o_seen_high, .int o_seen_hex, .long o_seen_ones, .long o_seen_twos])), (h_o_found, .inl (ca 1, 12, .inr (.inl o_found_r)))]) (hS : va_S A s.heap H locs) (ls : Array Slot) (hl : lv_has ls 5 [(0, .ref h_o), (1, .int v1), (2, .int v2), (3, .int v3)]), WW H locs (F0 m 86 ls []) := by
            intro v3 rr hf hG H locs hP hD hS ls hl
            refine h2 ?_
            unfold fX0_turnsShortestRound_86 at hf
            refine lv_iinc (v := (v3 + 1)) (lv' := [(3, .int (v3 + 1)), (0, .ref h_o), (1, .int v1), (2, .int v2)]) hx hb dX0_turnsShortestRound_86 hl (k := 3) rfl rfl (by decide) rfl (fun ls hl => ?_)
            refine lv_goto (tgt := 31) hx hb dX0_turnsShortestRound_89 (by decide) ?_
            have hf := Option.some.inj hf
            subst hf
            rw [eG2] at hG
            obtain ⟨rr, hf, hG⟩ := hG
            exact h1 (ih31 (v3 + 1) rr hf hG _ _ hP hD hS _ (lv_sub hl [1, 2, 3, 0] rfl))
          have J_58 : ∀ (v3 : Int32) (s0 : Int32) (rr : (Int32) ⊕ ((Int32) ⊕ (Int32))) (hf : fX0_turnsShortestRound_58 o_seen_wide o_seen_high o_seen_hex o_found_r v2 v3 s0 = some rr) (hG : G2 rr) (H : Heap) (locs : List Loc) (hP : va_P (dC, dI) vwCl [(h_o, .inr (0, [.ref h_o_seen, .ref h_o_turned, .ref h_o_found, .int o_looked, .int o_stepsFound, .int o_firstX, .int o_firstY, .int o_secondX, .int o_secondY])), (h_o_seen, .inr (5, [.int o_seen_wide, .int o_seen_high, .int o_seen_hex, .long o_seen_ones, .long o_seen_twos])), (h_o_found, .inl (ca 1, 12, .inr (.inl o_found_r)))] H) (hD : va_D A [(h_o, .inr (0, [.ref h_o_seen, .ref h_o_turned, .ref h_o_found, .int o_looked, .int o_stepsFound, .int o_firstX, .int o_firstY, .int o_secondX, .int o_secondY])), (h_o_seen, .inr (5, [.int o_seen_wide, .int o_seen_high, .int o_seen_hex, .long o_seen_ones, .long o_seen_twos])), (h_o_found, .inl (ca 1, 12, .inr (.inl o_found_r)))]) (hS : va_S A s.heap H locs) (ls : Array Slot) (hl : lv_has ls 5 [(0, .ref h_o), (1, .int v1), (2, .int v2), (3, .int v3)]), WW H locs (F0 m 58 ls [.int s0]) := by
            intro v3 s0 rr hf hG H locs hP hD hS ls hl
            refine h2 ?_
            unfold fX0_turnsShortestRound_58 at hf
            refine lv_istore (lv' := [(4, .int s0), (0, .ref h_o), (1, .int v1), (2, .int v2), (3, .int v3)]) hx hb dX0_turnsShortestRound_58 hl (by decide) rfl (fun ls hl => ?_)
            refine lv_iload hx hb dX0_turnsShortestRound_60 (lv_at hl 0 rfl) ?_
            refine lv_if_eq (tgt := 86) hx hb dX0_turnsShortestRound_62 (by decide) (fun c_62 => ?_) (fun c_62 => ?_)
            · replace hf := ds_t c_62 hf
              exact h1 (J_86 v3 _ hf hG _ _ hP hD hS _ (lv_sub hl [1, 2, 3, 4] rfl))
            · replace hf := ds_f c_62 hf
              refine lv_aload_n hx hb dX0_turnsShortestRound_65 rfl (lv_at hl 1 rfl) ?_
              refine lv_iconst (v := 0) hx hb dX0_turnsShortestRound_66 (by decide) ?_
              refine lv_iload_n hx hb dX0_turnsShortestRound_67 rfl (lv_at hl 4 rfl) ?_
              refine lv_iload_n hx hb dX0_turnsShortestRound_68 rfl (lv_at hl 3 rfl) ?_
              obtain ⟨q69, hq69, hf⟩ := ds_ob hf
              refine ds_calli (wr := []) (va_runV (As := [.int (0 : Int32), .int v3, .int v2]) (rest := []) ⟨hx, hb, hml, hown, hts⟩ (c_X0_hasSymmetry l dC dI ca sa h_o h_o_seen h_o_turned h_o_found H.size o_looked o_stepsFound o_firstX o_firstY o_secondX o_secondY o_found_r o_seen_wide o_seen_high o_seen_hex o_seen_ones o_seen_twos (0 : Int32) v3 v2 q69 hq69) (cwV 3 hts (ds_gV kw_181 kw_182 kw_183 kw_154 kw_184) rfl rfl rfl (by decide +kernel) ⟨Nat.le_of_ble_eq_true rfl, Nat.le_of_ble_eq_true rfl⟩) ⟨ds_blind, va_recv hK hP (ci := 0) (q0 := 0) rfl rfl, ds_at hP hD hK hE hS hA [0, 2, 1] rfl rfl _⟩ rfl rfl hl.1 rfl (lv_room (Nat.le_of_ble_eq_true rfl)) dX0_turnsShortestRound_69 ⟨Nat.zero_le _, Nat.zero_le _⟩) hP hD hS hA [0, 2, 1] [] rfl rfl rfl (by decide) (fun H locs hP hD hS => ?_)
              have hP : va_P (dC, dI) vwCl [(h_o, .inr (0, [.ref h_o_seen, .ref h_o_turned, .ref h_o_found, .int o_looked, .int o_stepsFound, .int o_firstX, .int o_firstY, .int o_secondX, .int o_secondY])), (h_o_found, .inl (ca 1, 12, .inr (.inl o_found_r))), (h_o_seen, .inr (5, [.int o_seen_wide, .int o_seen_high, .int o_seen_hex, .long o_seen_ones, .long o_seen_twos]))] H := hP
              have hD : va_D A [(h_o, .inr (0, [.ref h_o_seen, .ref h_o_turned, .ref h_o_found, .int o_looked, .int o_stepsFound, .int o_firstX, .int o_firstY, .int o_secondX, .int o_secondY])), (h_o_found, .inl (ca 1, 12, .inr (.inl o_found_r))), (h_o_seen, .inr (5, [.int o_seen_wide, .int o_seen_high, .int o_seen_hex, .long o_seen_ones, .long o_seen_twos]))] := hD
              refine lv_if_eq (tgt := 86) hx hb dX0_turnsShortestRound_72 (by decide) (fun c_72 => ?_) (fun c_72 => ?_)
              · replace hf := ds_t c_72 hf
                exact h1 (J_86 v3 _ hf hG _ _ (hP.sub [0, 2, 1] rfl) (hD.sub [0, 2, 1] rfl rfl) hS _ (lv_sub hl [1, 2, 3, 4] rfl))
              · replace hf := ds_f c_72 hf
                refine lv_aload_n hx hb dX0_turnsShortestRound_75 rfl (lv_at hl 1 rfl) ?_
                refine lv_iload_n hx hb dX0_turnsShortestRound_76 rfl (lv_at hl 4 rfl) ?_
                refine lv_iload_n hx hb dX0_turnsShortestRound_77 rfl (lv_at hl 3 rfl) ?_
                obtain ⟨q78, hq78, hf⟩ := ds_ob hf
                refine ds_calli (wr := []) (va_runV (As := [.int v3, .int v2]) (rest := []) ⟨hx, hb, hml, hown, hts⟩ (c_X0_hasFlipRound l dC dI ca sa h_o h_o_seen h_o_turned h_o_found H.size o_looked o_stepsFound o_firstX o_firstY o_secondX o_secondY o_seen_wide o_seen_high o_seen_hex o_seen_ones o_seen_twos o_found_r v3 v2 q78 hq78) (cwV 2 hts (ds_gV kw_224 kw_225 kw_226 kw_154 kw_227) rfl rfl rfl (by decide +kernel) ⟨Nat.le_of_ble_eq_true rfl, Nat.le_of_ble_eq_true rfl⟩) ⟨ds_blind, va_recv hK hP (ci := 0) (q0 := 0) rfl rfl, ds_at hP hD hK hE hS hA [0, 2, 1] rfl rfl _⟩ rfl rfl hl.1 rfl (lv_room (Nat.le_of_ble_eq_true rfl)) dX0_turnsShortestRound_78 ⟨Nat.zero_le _, Nat.zero_le _⟩) hP hD hS hA [0, 2, 1] [] rfl rfl rfl (by decide) (fun H locs hP hD hS => ?_)
                have hP : va_P (dC, dI) vwCl [(h_o, .inr (0, [.ref h_o_seen, .ref h_o_turned, .ref h_o_found, .int o_looked, .int o_stepsFound, .int o_firstX, .int o_firstY, .int o_secondX, .int o_secondY])), (h_o_seen, .inr (5, [.int o_seen_wide, .int o_seen_high, .int o_seen_hex, .long o_seen_ones, .long o_seen_twos])), (h_o_found, .inl (ca 1, 12, .inr (.inl o_found_r)))] H := hP
                have hD : va_D A [(h_o, .inr (0, [.ref h_o_seen, .ref h_o_turned, .ref h_o_found, .int o_looked, .int o_stepsFound, .int o_firstX, .int o_firstY, .int o_secondX, .int o_secondY])), (h_o_seen, .inr (5, [.int o_seen_wide, .int o_seen_high, .int o_seen_hex, .long o_seen_ones, .long o_seen_twos])), (h_o_found, .inl (ca 1, 12, .inr (.inl o_found_r)))] := hD
                refine lv_if_eq (tgt := 86) hx hb dX0_turnsShortestRound_81 (by decide) (fun c_81 => ?_) (fun c_81 => ?_)
                · replace hf := ds_t c_81 hf
                  exact h1 (J_86 v3 _ hf hG _ _ hP hD hS _ (lv_sub hl [1, 2, 3, 4] rfl))
                · replace hf := ds_f c_81 hf
                  refine lv_iconst (v := 1) hx hb dX0_turnsShortestRound_84 (by decide) ?_
                  have hf := Option.some.inj hf
                  subst hf
                  rw [eG2] at hG
                  replace hG : G1 _ := hG
                  rw [eG1] at hG
                  replace hG : G0 _ := hG
                  rw [eG0] at hG
                  have hG : _ = res := hG
                  subst hG
                  exact W.zret (v := (1 : Int32)) (ty := .boolean) hx hb hr rfl (fun t ht hW => ⟨⟨(1 : Int32), (), rfl, rfl, by rw [ht]; exact hP, hD⟩, hS.F ht⟩) hS.2.2 dX0_turnsShortestRound_85
          unfold fX0_turnsShortestRound_31_b at hf
          refine lv_iload_n hx hb dX0_turnsShortestRound_31 rfl (lv_at hl 3 rfl) ?_
          refine lv_bipush (v := 9) hx hb dX0_turnsShortestRound_32 (by decide) ?_
          refine lv_icmp_gt (tgt := 92) hx hb dX0_turnsShortestRound_34 (by decide) (fun c_34 => ?_) (fun c_34 => ?_)
          · replace hf := ds_t c_34 hf
            obtain ⟨rr, hr_0, hf⟩ := ds_ob hf
            have hf := Option.some.inj hf
            subst hf
            rw [eG2] at hG
            replace hG : G1 rr := hG
            have hf := hr_0
            exact h1 (J_92 v2 _ hf hG _ _ hP hD hS _ (lv_sub hl [0, 1, 2] rfl))
          · replace hf := ds_f c_34 hf
            refine lv_aload_n hx hb dX0_turnsShortestRound_37 rfl (lv_at hl 0 rfl) ?_
            refine va_get (D := (dC, dI)) (ci := 0) (v := .ref h_o_seen) (C := RX0) (T := TX0) (N := 9) hx hb hts (fun w h => List.mem_cons_of_mem _ (kc_X0 w h)) hown hK hP 0 rfl rfl 0 (by decide) (hg kw_129) (fun _ h9 => h9) rfl dX0_turnsShortestRound_38 ?_
            refine va_getN (D := (dC, dI)) (ci := 5) (v := .int o_seen_hex) (C := RX6) (T := TX6) (N := 5) hx hb hts (fun w h => List.mem_cons_of_mem _ (kc_X6 w h)) hown hK hP 1 rfl rfl 2 (by decide) (va_Nw.use rfl (hE.1 _ kw_135)) (fun _ h9 => h9) rfl dX0_turnsShortestRound_41 ?_
            refine lv_iload_n hx hb dX0_turnsShortestRound_44 rfl (lv_at hl 3 rfl) ?_
            refine lv_iload_n hx hb dX0_turnsShortestRound_45 rfl (lv_at hl 2 rfl) ?_
            obtain ⟨q46, hq46, hf⟩ := ds_ob hf
            refine ds_calli (wr := [(h_o, .inr (0, [.ref h_o_seen, .ref h_o_turned, .ref h_o_found, .int o_looked, .int o_stepsFound, .int o_firstX, .int o_firstY, .int o_secondX, .int o_secondY])), (h_o_seen, .inr (5, [.int o_seen_wide, .int o_seen_high, .int o_seen_hex, .long o_seen_ones, .long o_seen_twos])), (h_o_found, .inl (ca 1, 12, .inr (.inl o_found_r)))]) (va_runS (As := [.int o_seen_hex, .int v3, .int v2]) (rest := []) ⟨hx, hb, hml, hown, hts⟩ (c_X1_lengthOf l dC dI ca sa  H.size  o_seen_hex v3 v2 q46 hq46) (va_cwS 3 hts (ds_gS kw_199 kw_200 kw_2 kw_201) rfl rfl rfl (by decide +kernel) ⟨Nat.le_of_ble_eq_true rfl, Nat.le_of_ble_eq_true rfl⟩) ⟨ds_blind, ds_at hP hD hK hE hS hA [] rfl rfl _⟩ rfl rfl hl.1 rfl (lv_room (Nat.le_of_ble_eq_true rfl)) dX0_turnsShortestRound_46 ⟨Nat.zero_le _, Nat.zero_le _⟩) hP hD hS hA [] [0, 1, 2] rfl rfl rfl (by decide) (fun H locs hP hD hS => ?_)
            have hP : va_P (dC, dI) vwCl [(h_o, .inr (0, [.ref h_o_seen, .ref h_o_turned, .ref h_o_found, .int o_looked, .int o_stepsFound, .int o_firstX, .int o_firstY, .int o_secondX, .int o_secondY])), (h_o_seen, .inr (5, [.int o_seen_wide, .int o_seen_high, .int o_seen_hex, .long o_seen_ones, .long o_seen_twos])), (h_o_found, .inl (ca 1, 12, .inr (.inl o_found_r)))] H := hP
            have hD : va_D A [(h_o, .inr (0, [.ref h_o_seen, .ref h_o_turned, .ref h_o_found, .int o_looked, .int o_stepsFound, .int o_firstX, .int o_firstY, .int o_secondX, .int o_secondY])), (h_o_seen, .inr (5, [.int o_seen_wide, .int o_seen_high, .int o_seen_hex, .long o_seen_ones, .long o_seen_twos])), (h_o_found, .inl (ca 1, 12, .inr (.inl o_found_r)))] := hD
            refine lv_iload_n hx hb dX0_turnsShortestRound_49 rfl (lv_at hl 1 rfl) ?_
            refine lv_icmp_ne (tgt := 57) hx hb dX0_turnsShortestRound_50 (by decide) (fun c_50 => ?_) (fun c_50 => ?_)
            · replace hf := ds_f c_50 hf
              refine lv_iconst (v := 0) hx hb dX0_turnsShortestRound_57 (by decide) ?_
              exact h1 (J_58 v3 (0 : Int32) _ hf hG _ _ hP hD hS _ (lv_sub hl [0, 1, 2, 3] rfl))
            · replace hf := ds_t c_50 hf
              refine lv_iconst (v := 1) hx hb dX0_turnsShortestRound_53 (by decide) ?_
              refine lv_goto (tgt := 58) hx hb dX0_turnsShortestRound_54 (by decide) ?_
              exact h1 (J_58 v3 (1 : Int32) _ hf hG _ _ hP hD hS _ (lv_sub hl [0, 1, 2, 3] rfl))
      unfold fX0_turnsShortestRound_22_b at hf
      refine lv_iload_n hx hb dX0_turnsShortestRound_22 rfl (lv_at hl 2 rfl) ?_
      refine lv_bipush (v := 9) hx hb dX0_turnsShortestRound_23 (by decide) ?_
      refine lv_icmp_gt (tgt := 98) hx hb dX0_turnsShortestRound_25 (by decide) (fun c_25 => ?_) (fun c_25 => ?_)
      · replace hf := ds_t c_25 hf
        refine lv_iconst (v := 0) hx hb dX0_turnsShortestRound_98 (by decide) ?_
        have hf := Option.some.inj hf
        subst hf
        rw [eG1] at hG
        replace hG : G0 _ := hG
        rw [eG0] at hG
        have hG : _ = res := hG
        subst hG
        exact W.zret (v := (0 : Int32)) (ty := .boolean) hx hb hr rfl (fun t ht hW => ⟨⟨(0 : Int32), (), rfl, rfl, by rw [ht]; exact hP, hD⟩, hS.F ht⟩) hS.2.2 dX0_turnsShortestRound_99
      · replace hf := ds_f c_25 hf
        refine lv_bipush (v := -9) hx hb dX0_turnsShortestRound_28 (by decide) ?_
        refine lv_istore_n (lv' := [(3, .int (-9 : Int32)), (0, .ref h_o), (1, .int v1), (2, .int v2)]) hx hb dX0_turnsShortestRound_30 rfl hl (by decide) rfl (fun ls hl => ?_)
        exact h1 (J_31 v2 1000 (-9 : Int32) _ hf hG _ _ hP hD hS _ (lv_sub hl [1, 2, 3, 0] rfl))
  unfold fX0_turnsShortestRound at hf
  refine lv_aload_n hx hb dX0_turnsShortestRound_0 rfl (lv_at hl 0 rfl) ?_
  refine va_get (D := (dC, dI)) (ci := 0) (v := .ref h_o_seen) (C := RX0) (T := TX0) (N := 9) hx hb hts (fun w h => List.mem_cons_of_mem _ (kc_X0 w h)) hown hK hP 0 rfl rfl 0 (by decide) (hg kw_129) (fun _ h9 => h9) rfl dX0_turnsShortestRound_1 ?_
  refine va_getN (D := (dC, dI)) (ci := 5) (v := .int o_seen_hex) (C := RX6) (T := TX6) (N := 5) hx hb hts (fun w h => List.mem_cons_of_mem _ (kc_X6 w h)) hown hK hP 1 rfl rfl 2 (by decide) (va_Nw.use rfl (hE.1 _ kw_135)) (fun _ h9 => h9) rfl dX0_turnsShortestRound_4 ?_
  refine lv_aload_n hx hb dX0_turnsShortestRound_7 rfl (lv_at hl 0 rfl) ?_
  refine va_get (D := (dC, dI)) (ci := 0) (v := .int o_firstX) (C := RX0) (T := TX0) (N := 9) hx hb hts (fun w h => List.mem_cons_of_mem _ (kc_X0 w h)) hown hK hP 0 rfl rfl 5 (by decide) (hg kw_203) (fun _ h9 => h9) rfl dX0_turnsShortestRound_8 ?_
  refine lv_aload_n hx hb dX0_turnsShortestRound_11 rfl (lv_at hl 0 rfl) ?_
  refine va_get (D := (dC, dI)) (ci := 0) (v := .int o_firstY) (C := RX0) (T := TX0) (N := 9) hx hb hts (fun w h => List.mem_cons_of_mem _ (kc_X0 w h)) hown hK hP 0 rfl rfl 6 (by decide) (hg kw_202) (fun _ h9 => h9) rfl dX0_turnsShortestRound_12 ?_
  obtain ⟨q15, hq15, hf⟩ := ds_ob hf
  refine ds_calli (wr := [(h_o, .inr (0, [.ref h_o_seen, .ref h_o_turned, .ref h_o_found, .int o_looked, .int o_stepsFound, .int o_firstX, .int o_firstY, .int o_secondX, .int o_secondY])), (h_o_seen, .inr (5, [.int o_seen_wide, .int o_seen_high, .int o_seen_hex, .long o_seen_ones, .long o_seen_twos])), (h_o_found, .inl (ca 1, 12, .inr (.inl o_found_r)))]) (va_runS (As := [.int o_seen_hex, .int o_firstX, .int o_firstY]) (rest := []) ⟨hx, hb, hml, hown, hts⟩ (c_X1_lengthOf l dC dI ca sa  s.heap.size  o_seen_hex o_firstX o_firstY q15 hq15) (va_cwS 3 hts (ds_gS kw_199 kw_200 kw_2 kw_201) rfl rfl rfl (by decide +kernel) ⟨Nat.le_of_ble_eq_true rfl, Nat.le_of_ble_eq_true rfl⟩) ⟨ds_blind, ds_at hP hD hK hE hS hA [] rfl rfl _⟩ rfl rfl hl.1 rfl (lv_room (Nat.le_of_ble_eq_true rfl)) dX0_turnsShortestRound_15 ⟨Nat.zero_le _, Nat.zero_le _⟩) hP hD hS hA [] [0, 1, 2] rfl rfl rfl (by decide) (fun H locs hP hD hS => ?_)
  have hP : va_P (dC, dI) vwCl [(h_o, .inr (0, [.ref h_o_seen, .ref h_o_turned, .ref h_o_found, .int o_looked, .int o_stepsFound, .int o_firstX, .int o_firstY, .int o_secondX, .int o_secondY])), (h_o_seen, .inr (5, [.int o_seen_wide, .int o_seen_high, .int o_seen_hex, .long o_seen_ones, .long o_seen_twos])), (h_o_found, .inl (ca 1, 12, .inr (.inl o_found_r)))] H := hP
  have hD : va_D A [(h_o, .inr (0, [.ref h_o_seen, .ref h_o_turned, .ref h_o_found, .int o_looked, .int o_stepsFound, .int o_firstX, .int o_firstY, .int o_secondX, .int o_secondY])), (h_o_seen, .inr (5, [.int o_seen_wide, .int o_seen_high, .int o_seen_hex, .long o_seen_ones, .long o_seen_twos])), (h_o_found, .inl (ca 1, 12, .inr (.inl o_found_r)))] := hD
  refine lv_istore_n (lv' := [(1, .int q15), (0, .ref h_o)]) hx hb dX0_turnsShortestRound_18 rfl hl (by decide) rfl (fun ls hl => ?_)
  refine lv_bipush (v := -9) hx hb dX0_turnsShortestRound_19 (by decide) ?_
  refine lv_istore_n (lv' := [(2, .int (-9 : Int32)), (1, .int q15), (0, .ref h_o)]) hx hb dX0_turnsShortestRound_21 rfl hl (by decide) rfl (fun ls hl => ?_)
  exact h1 (J_22 q15 1000 (-9 : Int32) _ hf hG _ _ hP hD hS _ (lv_sub hl [2, 1, 0] rfl))
theorem dX0_keepsFirstByMirror_0 : decode cX0_keepsFirstByMirror 0 = .ok (.iconst 0, 1) := by decide +kernel
theorem dX0_keepsFirstByMirror_1 : decode cX0_keepsFirstByMirror 1 = .ok (.istore_n 1, 1) := by decide +kernel
theorem dX0_keepsFirstByMirror_2 : decode cX0_keepsFirstByMirror 2 = .ok (.iload_n 1, 1) := by decide +kernel
theorem dX0_keepsFirstByMirror_3 : decode cX0_keepsFirstByMirror 3 = .ok (.aload_n 0, 1) := by decide +kernel
theorem dX0_keepsFirstByMirror_4 : decode cX0_keepsFirstByMirror 4 = .ok (.getfield 12, 3) := by decide +kernel
theorem dX0_keepsFirstByMirror_7 : decode cX0_keepsFirstByMirror 7 = .ok (.getfield 39, 3) := by decide +kernel
theorem dX0_keepsFirstByMirror_10 : decode cX0_keepsFirstByMirror 10 = .ok (.invokestatic 81, 3) := by decide +kernel
theorem dX0_keepsFirstByMirror_13 : decode cX0_keepsFirstByMirror 13 = .ok (.if_icmp .ge 89, 3) := by decide +kernel
theorem dX0_keepsFirstByMirror_16 : decode cX0_keepsFirstByMirror 16 = .ok (.aload_n 0, 1) := by decide +kernel
theorem dX0_keepsFirstByMirror_17 : decode cX0_keepsFirstByMirror 17 = .ok (.getfield 12, 3) := by decide +kernel
theorem dX0_keepsFirstByMirror_20 : decode cX0_keepsFirstByMirror 20 = .ok (.getfield 39, 3) := by decide +kernel
theorem dX0_keepsFirstByMirror_23 : decode cX0_keepsFirstByMirror 23 = .ok (.iload_n 1, 1) := by decide +kernel
theorem dX0_keepsFirstByMirror_24 : decode cX0_keepsFirstByMirror 24 = .ok (.aload_n 0, 1) := by decide +kernel
theorem dX0_keepsFirstByMirror_25 : decode cX0_keepsFirstByMirror 25 = .ok (.getfield 123, 3) := by decide +kernel
theorem dX0_keepsFirstByMirror_28 : decode cX0_keepsFirstByMirror 28 = .ok (.aload_n 0, 1) := by decide +kernel
theorem dX0_keepsFirstByMirror_29 : decode cX0_keepsFirstByMirror 29 = .ok (.getfield 127, 3) := by decide +kernel
theorem dX0_keepsFirstByMirror_32 : decode cX0_keepsFirstByMirror 32 = .ok (.invokestatic 139, 3) := by decide +kernel
theorem dX0_keepsFirstByMirror_35 : decode cX0_keepsFirstByMirror 35 = .ok (.aload_n 0, 1) := by decide +kernel
theorem dX0_keepsFirstByMirror_36 : decode cX0_keepsFirstByMirror 36 = .ok (.getfield 123, 3) := by decide +kernel
theorem dX0_keepsFirstByMirror_39 : decode cX0_keepsFirstByMirror 39 = .ok (.if_icmp .ne 33, 3) := by decide +kernel
theorem dX0_keepsFirstByMirror_42 : decode cX0_keepsFirstByMirror 42 = .ok (.aload_n 0, 1) := by decide +kernel
theorem dX0_keepsFirstByMirror_43 : decode cX0_keepsFirstByMirror 43 = .ok (.getfield 12, 3) := by decide +kernel
theorem dX0_keepsFirstByMirror_46 : decode cX0_keepsFirstByMirror 46 = .ok (.getfield 39, 3) := by decide +kernel
theorem dX0_keepsFirstByMirror_49 : decode cX0_keepsFirstByMirror 49 = .ok (.iload_n 1, 1) := by decide +kernel
theorem dX0_keepsFirstByMirror_50 : decode cX0_keepsFirstByMirror 50 = .ok (.aload_n 0, 1) := by decide +kernel
theorem dX0_keepsFirstByMirror_51 : decode cX0_keepsFirstByMirror 51 = .ok (.getfield 123, 3) := by decide +kernel
theorem dX0_keepsFirstByMirror_54 : decode cX0_keepsFirstByMirror 54 = .ok (.aload_n 0, 1) := by decide +kernel
theorem dX0_keepsFirstByMirror_55 : decode cX0_keepsFirstByMirror 55 = .ok (.getfield 127, 3) := by decide +kernel
theorem dX0_keepsFirstByMirror_58 : decode cX0_keepsFirstByMirror 58 = .ok (.invokestatic 143, 3) := by decide +kernel
theorem dX0_keepsFirstByMirror_61 : decode cX0_keepsFirstByMirror 61 = .ok (.aload_n 0, 1) := by decide +kernel
theorem dX0_keepsFirstByMirror_62 : decode cX0_keepsFirstByMirror 62 = .ok (.getfield 127, 3) := by decide +kernel
theorem dX0_keepsFirstByMirror_65 : decode cX0_keepsFirstByMirror 65 = .ok (.if_icmp .ne 7, 3) := by decide +kernel
theorem dX0_keepsFirstByMirror_68 : decode cX0_keepsFirstByMirror 68 = .ok (.iconst 1, 1) := by decide +kernel
theorem dX0_keepsFirstByMirror_69 : decode cX0_keepsFirstByMirror 69 = .ok (.goto 4, 3) := by decide +kernel
theorem dX0_keepsFirstByMirror_72 : decode cX0_keepsFirstByMirror 72 = .ok (.iconst 0, 1) := by decide +kernel
theorem dX0_keepsFirstByMirror_73 : decode cX0_keepsFirstByMirror 73 = .ok (.istore_n 2, 1) := by decide +kernel
theorem dX0_keepsFirstByMirror_74 : decode cX0_keepsFirstByMirror 74 = .ok (.iload_n 2, 1) := by decide +kernel
theorem dX0_keepsFirstByMirror_75 : decode cX0_keepsFirstByMirror 75 = .ok (.ifCond .eq 21, 3) := by decide +kernel
theorem dX0_keepsFirstByMirror_78 : decode cX0_keepsFirstByMirror 78 = .ok (.aload_n 0, 1) := by decide +kernel
theorem dX0_keepsFirstByMirror_79 : decode cX0_keepsFirstByMirror 79 = .ok (.iload_n 1, 1) := by decide +kernel
theorem dX0_keepsFirstByMirror_80 : decode cX0_keepsFirstByMirror 80 = .ok (.invokevirtual 99, 3) := by decide +kernel
theorem dX0_keepsFirstByMirror_83 : decode cX0_keepsFirstByMirror 83 = .ok (.ifCond .eq 13, 3) := by decide +kernel
theorem dX0_keepsFirstByMirror_86 : decode cX0_keepsFirstByMirror 86 = .ok (.aload_n 0, 1) := by decide +kernel
theorem dX0_keepsFirstByMirror_87 : decode cX0_keepsFirstByMirror 87 = .ok (.iload_n 1, 1) := by decide +kernel
theorem dX0_keepsFirstByMirror_88 : decode cX0_keepsFirstByMirror 88 = .ok (.invokevirtual 103, 3) := by decide +kernel
theorem dX0_keepsFirstByMirror_91 : decode cX0_keepsFirstByMirror 91 = .ok (.ifCond .eq 5, 3) := by decide +kernel
theorem dX0_keepsFirstByMirror_94 : decode cX0_keepsFirstByMirror 94 = .ok (.iconst 1, 1) := by decide +kernel
theorem dX0_keepsFirstByMirror_95 : decode cX0_keepsFirstByMirror 95 = .ok (.ireturn, 1) := by decide +kernel
theorem dX0_keepsFirstByMirror_96 : decode cX0_keepsFirstByMirror 96 = .ok (.iinc 1 1, 3) := by decide +kernel
theorem dX0_keepsFirstByMirror_99 : decode cX0_keepsFirstByMirror 99 = .ok (.goto (-97), 3) := by decide +kernel
theorem dX0_keepsFirstByMirror_102 : decode cX0_keepsFirstByMirror 102 = .ok (.iconst 0, 1) := by decide +kernel
theorem dX0_keepsFirstByMirror_103 : decode cX0_keepsFirstByMirror 103 = .ok (.ireturn, 1) := by decide +kernel
def fX0_keepsFirstByMirror_96 (v1 : Int32) : Option ((Int32) ⊕ (Int32)) :=
  some (.inl (v1 + 1))
def fX0_keepsFirstByMirror_73 (o_seen_wide : Int32) (o_seen_high : Int32) (o_seen_hex : Int32) (o_found_r : Nat → Int64) (v1 : Int32) (s0 : Int32) : Option ((Int32) ⊕ (Int32)) :=
  if s0 = 0 then fX0_keepsFirstByMirror_96 v1 else Option.bind (fX0_hasFlip o_seen_hex o_found_r v1) fun q80 => if q80 = 0 then fX0_keepsFirstByMirror_96 v1 else Option.bind (fX0_isMirror o_seen_wide o_seen_high o_seen_hex o_found_r v1) fun q88 => if q88 = 0 then fX0_keepsFirstByMirror_96 v1 else some (.inr (1 : Int32))
def fX0_keepsFirstByMirror_72 (o_seen_wide : Int32) (o_seen_high : Int32) (o_seen_hex : Int32) (o_found_r : Nat → Int64) (v1 : Int32) : Option ((Int32) ⊕ (Int32)) :=
  fX0_keepsFirstByMirror_73 o_seen_wide o_seen_high o_seen_hex o_found_r v1 (0 : Int32)
def fX0_keepsFirstByMirror_2_b (o_firstX : Int32) (o_firstY : Int32) (o_seen_wide : Int32) (o_seen_high : Int32) (o_seen_hex : Int32) (o_found_r : Nat → Int64) (v1 : Int32) : Option ((Int32) ⊕ (Int32)) :=
  Option.bind (fX1_turnings o_seen_hex) fun q10 => if q10 ≤ v1 then some (.inr (0 : Int32)) else Option.bind (fX1_turnedX o_seen_hex v1 o_firstX o_firstY) fun q32 => if q32 = o_firstX then Option.bind (fX1_turnedY o_seen_hex v1 o_firstX o_firstY) fun q58 => if q58 = o_firstY then fX0_keepsFirstByMirror_73 o_seen_wide o_seen_high o_seen_hex o_found_r v1 (1 : Int32) else fX0_keepsFirstByMirror_72 o_seen_wide o_seen_high o_seen_hex o_found_r v1 else fX0_keepsFirstByMirror_72 o_seen_wide o_seen_high o_seen_hex o_found_r v1
def fX0_keepsFirstByMirror_2 (o_firstX : Int32) (o_firstY : Int32) (o_seen_wide : Int32) (o_seen_high : Int32) (o_seen_hex : Int32) (o_found_r : Nat → Int64) (v1 : Int32) : Option (Int32) := ds_it (fun s => fX0_keepsFirstByMirror_2_b o_firstX o_firstY o_seen_wide o_seen_high o_seen_hex o_found_r s) 1000 v1
def fX0_keepsFirstByMirror (o_firstX : Int32) (o_firstY : Int32) (o_seen_wide : Int32) (o_seen_high : Int32) (o_seen_hex : Int32) (o_found_r : Nat → Int64) : Option (Int32) :=
  fX0_keepsFirstByMirror_2 o_firstX o_firstY o_seen_wide o_seen_high o_seen_hex o_found_r (0 : Int32)
set_option maxHeartbeats 4000000 in
set_option maxRecDepth 100000 in
theorem c_X0_keepsFirstByMirror (l : Launch) (dC : Nat → ClassId) (dI : Nat → Nat → Nat) (ca : Nat → ClassId) (sa : Nat → Nat) (h_o : Nat) (h_o_seen : Nat) (h_o_turned : Nat) (h_o_found : Nat) (sz : Nat) (o_looked : Int32) (o_stepsFound : Int32) (o_firstX : Int32) (o_firstY : Int32) (o_secondX : Int32) (o_secondY : Int32) (o_seen_wide : Int32) (o_seen_high : Int32) (o_seen_hex : Int32) (o_seen_ones : Int64) (o_seen_twos : Int64) (o_found_r : Nat → Int64) (res : Int32) (hf : fX0_keepsFirstByMirror o_firstX o_firstY o_seen_wide o_seen_high o_seen_hex o_found_r = some res) : Met l yX0_keepsFirstByMirror (Cond.code yX0_keepsFirstByMirror cX0_keepsFirstByMirror 3 (some .boolean) :: ds_gw) { frames := 4, cells := 0, slots := 0, locals := 91 } (va_Pc [.ref h_o] (ds_Pre dC dI ca sa [(h_o, .inr (0, [.ref h_o_seen, .ref h_o_turned, .ref h_o_found, .int o_looked, .int o_stepsFound, .int o_firstX, .int o_firstY, .int o_secondX, .int o_secondY])), (h_o_seen, .inr (5, [.int o_seen_wide, .int o_seen_high, .int o_seen_hex, .long o_seen_ones, .long o_seen_twos])), (h_o_found, .inl (ca 1, 12, .inr (.inl o_found_r)))] sz)) (va_Qi (fun r (_ : Unit) => r = res) (ds_B dC dI (va_A [(h_o, .inr (0, [.ref h_o_seen, .ref h_o_turned, .ref h_o_found, .int o_looked, .int o_stepsFound, .int o_firstX, .int o_firstY, .int o_secondX, .int o_secondY])), (h_o_seen, .inr (5, [.int o_seen_wide, .int o_seen_high, .int o_seen_hex, .long o_seen_ones, .long o_seen_twos])), (h_o_found, .inl (ca 1, 12, .inr (.inl o_found_r)))] sz) [(h_o, .inr (0, [.ref h_o_seen, .ref h_o_turned, .ref h_o_found, .int o_looked, .int o_stepsFound, .int o_firstX, .int o_firstY, .int o_secondX, .int o_secondY])), (h_o_seen, .inr (5, [.int o_seen_wide, .int o_seen_high, .int o_seen_hex, .long o_seen_ones, .long o_seen_twos])), (h_o_found, .inl (ca 1, 12, .inr (.inl o_found_r)))]) (va_A [(h_o, .inr (0, [.ref h_o_seen, .ref h_o_turned, .ref h_o_found, .int o_looked, .int o_stepsFound, .int o_firstX, .int o_firstY, .int o_secondX, .int o_secondY])), (h_o_seen, .inr (5, [.int o_seen_wide, .int o_seen_high, .int o_seen_hex, .long o_seen_ones, .long o_seen_twos])), (h_o_found, .inl (ca 1, 12, .inr (.inl o_found_r)))] sz)) 0 0 (va_A [(h_o, .inr (0, [.ref h_o_seen, .ref h_o_turned, .ref h_o_found, .int o_looked, .int o_stepsFound, .int o_firstX, .int o_firstY, .int o_secondX, .int o_secondY])), (h_o_seen, .inr (5, [.int o_seen_wide, .int o_seen_high, .int o_seen_hex, .long o_seen_ones, .long o_seen_twos])), (h_o_found, .inl (ca 1, 12, .inr (.inl o_found_r)))] sz) := by
  refine Met.ofW (cc := cX0_keepsFirstByMirror) (maxL := 3) (ret := (some .boolean)) (by decide) rfl ?_
  intro p e s m args below meth c s₁ B hml hv
  obtain ⟨rfl, hsz, hP, hK, hD0, hE⟩ := hv
  have hx := B.exec
  have hb := B.bytes
  have hr := B.returns
  have hts := atoms_spec (ws := Cond.code yX0_keepsFirstByMirror cX0_keepsFirstByMirror 3 (some .boolean) :: ds_gw) B.pre
  have hg : ∀ {w : Cond}, w ∈ ds_gw → w.before _ s = true := fun h => hts _ (List.mem_cons_of_mem _ h)
  have hown : s.vm.findClass RX0 = some m.cls := findClass_of_methodNamed B.named
  have hlocks := B.notSynchronized
  subst hsz
  have hD := hD0.self (sz := s.heap.size)
  generalize hAe : va_A [(h_o, .inr (0, [.ref h_o_seen, .ref h_o_turned, .ref h_o_found, .int o_looked, .int o_stepsFound, .int o_firstX, .int o_firstY, .int o_secondX, .int o_secondY])), (h_o_seen, .inr (5, [.int o_seen_wide, .int o_seen_high, .int o_seen_hex, .long o_seen_ones, .long o_seen_twos])), (h_o_found, .inl (ca 1, 12, .inr (.inl o_found_r)))] s.heap.size = A at hD hE ⊢
  have hA : ∀ q : Nat, s.heap.size ≤ q → A q := fun q h => by rw [← hAe]; exact Or.inr h
  have hS : va_S A s.heap s.heap [] := va_S.rf
  have hl := lv_entry ([.ref h_o]) (n := 3) (Nat.le_of_ble_eq_true rfl)
  rw [lg_entry_eq]
  generalize (lg_sl ([.ref h_o]) ++ List.replicate (3 - (lg_sl ([.ref h_o])).length) Slot.unset).toArray = ls at hl ⊢
  have hl : lv_has ls 3 [(0, .ref h_o)] := hl
  obtain ⟨G0, eG0⟩ : ∃ G : Int32 → Prop, G = (fun r => r = res) := ⟨_, rfl⟩
  obtain ⟨rr, hrr⟩ : ∃ z, z = res := ⟨_, rfl⟩
  rw [← hrr] at hf
  have hG : G0 rr := by subst eG0; exact hrr
  refine ds_cap (fun WW h1 h2 => ?_)
  have J_2 : ∀ (n : Nat) (v1 : Int32) (rr : Int32) (hf : ds_it (fun s => fX0_keepsFirstByMirror_2_b o_firstX o_firstY o_seen_wide o_seen_high o_seen_hex o_found_r s) n v1 = some rr) (hG : G0 rr) (H : Heap) (locs : List Loc) (hP : va_P (dC, dI) vwCl [(h_o, .inr (0, [.ref h_o_seen, .ref h_o_turned, .ref h_o_found, .int o_looked, .int o_stepsFound, .int o_firstX, .int o_firstY, .int o_secondX, .int o_secondY])), (h_o_seen, .inr (5, [.int o_seen_wide, .int o_seen_high, .int o_seen_hex, .long o_seen_ones, .long o_seen_twos])), (h_o_found, .inl (ca 1, 12, .inr (.inl o_found_r)))] H) (hD : va_D A [(h_o, .inr (0, [.ref h_o_seen, .ref h_o_turned, .ref h_o_found, .int o_looked, .int o_stepsFound, .int o_firstX, .int o_firstY, .int o_secondX, .int o_secondY])), (h_o_seen, .inr (5, [.int o_seen_wide, .int o_seen_high, .int o_seen_hex, .long o_seen_ones, .long o_seen_twos])), (h_o_found, .inl (ca 1, 12, .inr (.inl o_found_r)))]) (hS : va_S A s.heap H locs) (ls : Array Slot) (hl : lv_has ls 3 [(0, .ref h_o), (1, .int v1)]), WW H locs (F0 m 2 ls []) := by
    intro  n
    induction n with
    | zero => intro v1 rr hf; exact (ds_it_zero hf).elim
    | succ n ih2 =>
      intro v1 rr hf hG H locs hP hD hS ls hl
      refine h2 ?_
      obtain ⟨rr, hf, hG⟩ := ds_it_succ hf hG
      replace hf : fX0_keepsFirstByMirror_2_b o_firstX o_firstY o_seen_wide o_seen_high o_seen_hex o_found_r v1 = some rr := hf
      obtain ⟨G1, eG1⟩ : ∃ G : ((Int32) ⊕ (Int32)) → Prop, G = ds_G (fun s' => ∃ r', ds_it (fun s => fX0_keepsFirstByMirror_2_b o_firstX o_firstY o_seen_wide o_seen_high o_seen_hex o_found_r s) n s' = some r' ∧ G0 r') G0 := ⟨_, rfl⟩
      rw [← eG1] at hG
      have J_96 : ∀ (v1 : Int32) (rr : (Int32) ⊕ (Int32)) (hf : fX0_keepsFirstByMirror_96 v1 = some rr) (hG : G1 rr) (H : Heap) (locs : List Loc) (hP : va_P (dC, dI) vwCl [(h_o, .inr (0, [.ref h_o_seen, .ref h_o_turned, .ref h_o_found, .int o_looked, .int o_stepsFound, .int o_firstX, .int o_firstY, .int o_secondX, .int o_secondY])), (h_o_seen, .inr (5, [.int o_seen_wide, .int o_seen_high, .int o_seen_hex, .long o_seen_ones, .long o_seen_twos])), (h_o_found, .inl (ca 1, 12, .inr (.inl o_found_r)))] H) (hD : va_D A [(h_o, .inr (0, [.ref h_o_seen, .ref h_o_turned, .ref h_o_found, .int o_looked, .int o_stepsFound, .int o_firstX, .int o_firstY, .int o_secondX, .int o_secondY])), (h_o_seen, .inr (5, [.int o_seen_wide, .int o_seen_high, .int o_seen_hex, .long o_seen_ones, .long o_seen_twos])), (h_o_found, .inl (ca 1, 12, .inr (.inl o_found_r)))]) (hS : va_S A s.heap H locs) (ls : Array Slot) (hl : lv_has ls 3 [(0, .ref h_o), (1, .int v1)]), WW H locs (F0 m 96 ls []) := by
        intro v1 rr hf hG H locs hP hD hS ls hl
        refine h2 ?_
        unfold fX0_keepsFirstByMirror_96 at hf
        refine lv_iinc (v := (v1 + 1)) (lv' := [(1, .int (v1 + 1)), (0, .ref h_o)]) hx hb dX0_keepsFirstByMirror_96 hl (k := 1) rfl rfl (by decide) rfl (fun ls hl => ?_)
        refine lv_goto (tgt := 2) hx hb dX0_keepsFirstByMirror_99 (by decide) ?_
        have hf := Option.some.inj hf
        subst hf
        rw [eG1] at hG
        obtain ⟨rr, hf, hG⟩ := hG
        exact h1 (ih2 (v1 + 1) rr hf hG _ _ hP hD hS _ (lv_sub hl [1, 0] rfl))
      have J_73 : ∀ (v1 : Int32) (s0 : Int32) (rr : (Int32) ⊕ (Int32)) (hf : fX0_keepsFirstByMirror_73 o_seen_wide o_seen_high o_seen_hex o_found_r v1 s0 = some rr) (hG : G1 rr) (H : Heap) (locs : List Loc) (hP : va_P (dC, dI) vwCl [(h_o, .inr (0, [.ref h_o_seen, .ref h_o_turned, .ref h_o_found, .int o_looked, .int o_stepsFound, .int o_firstX, .int o_firstY, .int o_secondX, .int o_secondY])), (h_o_seen, .inr (5, [.int o_seen_wide, .int o_seen_high, .int o_seen_hex, .long o_seen_ones, .long o_seen_twos])), (h_o_found, .inl (ca 1, 12, .inr (.inl o_found_r)))] H) (hD : va_D A [(h_o, .inr (0, [.ref h_o_seen, .ref h_o_turned, .ref h_o_found, .int o_looked, .int o_stepsFound, .int o_firstX, .int o_firstY, .int o_secondX, .int o_secondY])), (h_o_seen, .inr (5, [.int o_seen_wide, .int o_seen_high, .int o_seen_hex, .long o_seen_ones, .long o_seen_twos])), (h_o_found, .inl (ca 1, 12, .inr (.inl o_found_r)))]) (hS : va_S A s.heap H locs) (ls : Array Slot) (hl : lv_has ls 3 [(0, .ref h_o), (1, .int v1)]), WW H locs (F0 m 73 ls [.int s0]) := by
        intro v1 s0 rr hf hG H locs hP hD hS ls hl
        refine h2 ?_
        unfold fX0_keepsFirstByMirror_73 at hf
        refine lv_istore_n (lv' := [(2, .int s0), (0, .ref h_o), (1, .int v1)]) hx hb dX0_keepsFirstByMirror_73 rfl hl (by decide) rfl (fun ls hl => ?_)
        refine lv_iload_n hx hb dX0_keepsFirstByMirror_74 rfl (lv_at hl 0 rfl) ?_
        refine lv_if_eq (tgt := 96) hx hb dX0_keepsFirstByMirror_75 (by decide) (fun c_75 => ?_) (fun c_75 => ?_)
        · replace hf := ds_t c_75 hf
          exact h1 (J_96 v1 _ hf hG _ _ hP hD hS _ (lv_sub hl [1, 2] rfl))
        · replace hf := ds_f c_75 hf
          refine lv_aload_n hx hb dX0_keepsFirstByMirror_78 rfl (lv_at hl 1 rfl) ?_
          refine lv_iload_n hx hb dX0_keepsFirstByMirror_79 rfl (lv_at hl 2 rfl) ?_
          obtain ⟨q80, hq80, hf⟩ := ds_ob hf
          refine ds_calli (wr := []) (va_runV (As := [.int v1]) (rest := []) ⟨hx, hb, hml, hown, hts⟩ (c_X0_hasFlip l dC dI ca sa h_o h_o_seen h_o_turned h_o_found H.size o_looked o_stepsFound o_firstX o_firstY o_secondX o_secondY o_seen_wide o_seen_high o_seen_hex o_seen_ones o_seen_twos o_found_r v1 q80 hq80) (cwV 1 hts (ds_gV kw_191 kw_192 kw_193 kw_154 kw_194) rfl rfl rfl (by decide +kernel) ⟨Nat.le_of_ble_eq_true rfl, Nat.le_of_ble_eq_true rfl⟩) ⟨ds_blind, va_recv hK hP (ci := 0) (q0 := 0) rfl rfl, ds_at hP hD hK hE hS hA [0, 1, 2] rfl rfl _⟩ rfl rfl hl.1 rfl (lv_room (Nat.le_of_ble_eq_true rfl)) dX0_keepsFirstByMirror_80 ⟨Nat.zero_le _, Nat.zero_le _⟩) hP hD hS hA [0, 1, 2] [] rfl rfl rfl (by decide) (fun H locs hP hD hS => ?_)
          have hP : va_P (dC, dI) vwCl [(h_o, .inr (0, [.ref h_o_seen, .ref h_o_turned, .ref h_o_found, .int o_looked, .int o_stepsFound, .int o_firstX, .int o_firstY, .int o_secondX, .int o_secondY])), (h_o_seen, .inr (5, [.int o_seen_wide, .int o_seen_high, .int o_seen_hex, .long o_seen_ones, .long o_seen_twos])), (h_o_found, .inl (ca 1, 12, .inr (.inl o_found_r)))] H := hP
          have hD : va_D A [(h_o, .inr (0, [.ref h_o_seen, .ref h_o_turned, .ref h_o_found, .int o_looked, .int o_stepsFound, .int o_firstX, .int o_firstY, .int o_secondX, .int o_secondY])), (h_o_seen, .inr (5, [.int o_seen_wide, .int o_seen_high, .int o_seen_hex, .long o_seen_ones, .long o_seen_twos])), (h_o_found, .inl (ca 1, 12, .inr (.inl o_found_r)))] := hD
          refine lv_if_eq (tgt := 96) hx hb dX0_keepsFirstByMirror_83 (by decide) (fun c_83 => ?_) (fun c_83 => ?_)
          · replace hf := ds_t c_83 hf
            exact h1 (J_96 v1 _ hf hG _ _ hP hD hS _ (lv_sub hl [1, 2] rfl))
          · replace hf := ds_f c_83 hf
            refine lv_aload_n hx hb dX0_keepsFirstByMirror_86 rfl (lv_at hl 1 rfl) ?_
            refine lv_iload_n hx hb dX0_keepsFirstByMirror_87 rfl (lv_at hl 2 rfl) ?_
            obtain ⟨q88, hq88, hf⟩ := ds_ob hf
            refine ds_calli (wr := []) (va_runV (As := [.int v1]) (rest := []) ⟨hx, hb, hml, hown, hts⟩ (c_X0_isMirror l dC dI ca sa h_o h_o_seen h_o_turned h_o_found H.size o_looked o_stepsFound o_firstX o_firstY o_secondX o_secondY o_seen_wide o_seen_high o_seen_hex o_seen_ones o_seen_twos o_found_r v1 q88 hq88) (cwV 1 hts (ds_gV kw_195 kw_196 kw_197 kw_154 kw_198) rfl rfl rfl (by decide +kernel) ⟨Nat.le_of_ble_eq_true rfl, Nat.le_of_ble_eq_true rfl⟩) ⟨ds_blind, va_recv hK hP (ci := 0) (q0 := 0) rfl rfl, ds_at hP hD hK hE hS hA [0, 1, 2] rfl rfl _⟩ rfl rfl hl.1 rfl (lv_room (Nat.le_of_ble_eq_true rfl)) dX0_keepsFirstByMirror_88 ⟨Nat.zero_le _, Nat.zero_le _⟩) hP hD hS hA [0, 1, 2] [] rfl rfl rfl (by decide) (fun H locs hP hD hS => ?_)
            have hP : va_P (dC, dI) vwCl [(h_o, .inr (0, [.ref h_o_seen, .ref h_o_turned, .ref h_o_found, .int o_looked, .int o_stepsFound, .int o_firstX, .int o_firstY, .int o_secondX, .int o_secondY])), (h_o_seen, .inr (5, [.int o_seen_wide, .int o_seen_high, .int o_seen_hex, .long o_seen_ones, .long o_seen_twos])), (h_o_found, .inl (ca 1, 12, .inr (.inl o_found_r)))] H := hP
            have hD : va_D A [(h_o, .inr (0, [.ref h_o_seen, .ref h_o_turned, .ref h_o_found, .int o_looked, .int o_stepsFound, .int o_firstX, .int o_firstY, .int o_secondX, .int o_secondY])), (h_o_seen, .inr (5, [.int o_seen_wide, .int o_seen_high, .int o_seen_hex, .long o_seen_ones, .long o_seen_twos])), (h_o_found, .inl (ca 1, 12, .inr (.inl o_found_r)))] := hD
            refine lv_if_eq (tgt := 96) hx hb dX0_keepsFirstByMirror_91 (by decide) (fun c_91 => ?_) (fun c_91 => ?_)
            · replace hf := ds_t c_91 hf
              exact h1 (J_96 v1 _ hf hG _ _ hP hD hS _ (lv_sub hl [1, 2] rfl))
            · replace hf := ds_f c_91 hf
              refine lv_iconst (v := 1) hx hb dX0_keepsFirstByMirror_94 (by decide) ?_
              have hf := Option.some.inj hf
              subst hf
              rw [eG1] at hG
              replace hG : G0 _ := hG
              rw [eG0] at hG
              have hG : _ = res := hG
              subst hG
              exact W.zret (v := (1 : Int32)) (ty := .boolean) hx hb hr rfl (fun t ht hW => ⟨⟨(1 : Int32), (), rfl, rfl, by rw [ht]; exact hP, hD⟩, hS.F ht⟩) hS.2.2 dX0_keepsFirstByMirror_95
      have J_72 : ∀ (v1 : Int32) (rr : (Int32) ⊕ (Int32)) (hf : fX0_keepsFirstByMirror_72 o_seen_wide o_seen_high o_seen_hex o_found_r v1 = some rr) (hG : G1 rr) (H : Heap) (locs : List Loc) (hP : va_P (dC, dI) vwCl [(h_o, .inr (0, [.ref h_o_seen, .ref h_o_turned, .ref h_o_found, .int o_looked, .int o_stepsFound, .int o_firstX, .int o_firstY, .int o_secondX, .int o_secondY])), (h_o_seen, .inr (5, [.int o_seen_wide, .int o_seen_high, .int o_seen_hex, .long o_seen_ones, .long o_seen_twos])), (h_o_found, .inl (ca 1, 12, .inr (.inl o_found_r)))] H) (hD : va_D A [(h_o, .inr (0, [.ref h_o_seen, .ref h_o_turned, .ref h_o_found, .int o_looked, .int o_stepsFound, .int o_firstX, .int o_firstY, .int o_secondX, .int o_secondY])), (h_o_seen, .inr (5, [.int o_seen_wide, .int o_seen_high, .int o_seen_hex, .long o_seen_ones, .long o_seen_twos])), (h_o_found, .inl (ca 1, 12, .inr (.inl o_found_r)))]) (hS : va_S A s.heap H locs) (ls : Array Slot) (hl : lv_has ls 3 [(0, .ref h_o), (1, .int v1)]), WW H locs (F0 m 72 ls []) := by
        intro v1 rr hf hG H locs hP hD hS ls hl
        refine h2 ?_
        unfold fX0_keepsFirstByMirror_72 at hf
        refine lv_iconst (v := 0) hx hb dX0_keepsFirstByMirror_72 (by decide) ?_
        exact h1 (J_73 v1 (0 : Int32) _ hf hG _ _ hP hD hS _ (lv_sub hl [0, 1] rfl))
      unfold fX0_keepsFirstByMirror_2_b at hf
      refine lv_iload_n hx hb dX0_keepsFirstByMirror_2 rfl (lv_at hl 1 rfl) ?_
      refine lv_aload_n hx hb dX0_keepsFirstByMirror_3 rfl (lv_at hl 0 rfl) ?_
      refine va_get (D := (dC, dI)) (ci := 0) (v := .ref h_o_seen) (C := RX0) (T := TX0) (N := 9) hx hb hts (fun w h => List.mem_cons_of_mem _ (kc_X0 w h)) hown hK hP 0 rfl rfl 0 (by decide) (hg kw_129) (fun _ h9 => h9) rfl dX0_keepsFirstByMirror_4 ?_
      refine va_getN (D := (dC, dI)) (ci := 5) (v := .int o_seen_hex) (C := RX6) (T := TX6) (N := 5) hx hb hts (fun w h => List.mem_cons_of_mem _ (kc_X6 w h)) hown hK hP 1 rfl rfl 2 (by decide) (va_Nw.use rfl (hE.1 _ kw_135)) (fun _ h9 => h9) rfl dX0_keepsFirstByMirror_7 ?_
      obtain ⟨q10, hq10, hf⟩ := ds_ob hf
      refine ds_calli (wr := [(h_o, .inr (0, [.ref h_o_seen, .ref h_o_turned, .ref h_o_found, .int o_looked, .int o_stepsFound, .int o_firstX, .int o_firstY, .int o_secondX, .int o_secondY])), (h_o_seen, .inr (5, [.int o_seen_wide, .int o_seen_high, .int o_seen_hex, .long o_seen_ones, .long o_seen_twos])), (h_o_found, .inl (ca 1, 12, .inr (.inl o_found_r)))]) (va_runS (As := [.int o_seen_hex]) (rest := [.int v1]) ⟨hx, hb, hml, hown, hts⟩ (c_X1_turnings l dC dI ca sa  H.size  o_seen_hex q10 hq10) (va_cwS 1 hts (ds_gS kw_167 kw_1 kw_2 kw_3) rfl rfl rfl (by decide +kernel) ⟨Nat.le_of_ble_eq_true rfl, Nat.le_of_ble_eq_true rfl⟩) ⟨ds_blind, ds_at hP hD hK hE hS hA [] rfl rfl _⟩ rfl rfl hl.1 rfl (lv_room (Nat.le_of_ble_eq_true rfl)) dX0_keepsFirstByMirror_10 ⟨Nat.zero_le _, Nat.zero_le _⟩) hP hD hS hA [] [0, 1, 2] rfl rfl rfl (by decide) (fun H locs hP hD hS => ?_)
      have hP : va_P (dC, dI) vwCl [(h_o, .inr (0, [.ref h_o_seen, .ref h_o_turned, .ref h_o_found, .int o_looked, .int o_stepsFound, .int o_firstX, .int o_firstY, .int o_secondX, .int o_secondY])), (h_o_seen, .inr (5, [.int o_seen_wide, .int o_seen_high, .int o_seen_hex, .long o_seen_ones, .long o_seen_twos])), (h_o_found, .inl (ca 1, 12, .inr (.inl o_found_r)))] H := hP
      have hD : va_D A [(h_o, .inr (0, [.ref h_o_seen, .ref h_o_turned, .ref h_o_found, .int o_looked, .int o_stepsFound, .int o_firstX, .int o_firstY, .int o_secondX, .int o_secondY])), (h_o_seen, .inr (5, [.int o_seen_wide, .int o_seen_high, .int o_seen_hex, .long o_seen_ones, .long o_seen_twos])), (h_o_found, .inl (ca 1, 12, .inr (.inl o_found_r)))] := hD
      refine lv_icmp_ge (tgt := 102) hx hb dX0_keepsFirstByMirror_13 (by decide) (fun c_13 => ?_) (fun c_13 => ?_)
      · replace hf := ds_t c_13 hf
        refine lv_iconst (v := 0) hx hb dX0_keepsFirstByMirror_102 (by decide) ?_
        have hf := Option.some.inj hf
        subst hf
        rw [eG1] at hG
        replace hG : G0 _ := hG
        rw [eG0] at hG
        have hG : _ = res := hG
        subst hG
        exact W.zret (v := (0 : Int32)) (ty := .boolean) hx hb hr rfl (fun t ht hW => ⟨⟨(0 : Int32), (), rfl, rfl, by rw [ht]; exact hP, hD⟩, hS.F ht⟩) hS.2.2 dX0_keepsFirstByMirror_103
      · replace hf := ds_f c_13 hf
        refine lv_aload_n hx hb dX0_keepsFirstByMirror_16 rfl (lv_at hl 0 rfl) ?_
        refine va_get (D := (dC, dI)) (ci := 0) (v := .ref h_o_seen) (C := RX0) (T := TX0) (N := 9) hx hb hts (fun w h => List.mem_cons_of_mem _ (kc_X0 w h)) hown hK hP 0 rfl rfl 0 (by decide) (hg kw_129) (fun _ h9 => h9) rfl dX0_keepsFirstByMirror_17 ?_
        refine va_getN (D := (dC, dI)) (ci := 5) (v := .int o_seen_hex) (C := RX6) (T := TX6) (N := 5) hx hb hts (fun w h => List.mem_cons_of_mem _ (kc_X6 w h)) hown hK hP 1 rfl rfl 2 (by decide) (va_Nw.use rfl (hE.1 _ kw_135)) (fun _ h9 => h9) rfl dX0_keepsFirstByMirror_20 ?_
        refine lv_iload_n hx hb dX0_keepsFirstByMirror_23 rfl (lv_at hl 1 rfl) ?_
        refine lv_aload_n hx hb dX0_keepsFirstByMirror_24 rfl (lv_at hl 0 rfl) ?_
        refine va_get (D := (dC, dI)) (ci := 0) (v := .int o_firstX) (C := RX0) (T := TX0) (N := 9) hx hb hts (fun w h => List.mem_cons_of_mem _ (kc_X0 w h)) hown hK hP 0 rfl rfl 5 (by decide) (hg kw_203) (fun _ h9 => h9) rfl dX0_keepsFirstByMirror_25 ?_
        refine lv_aload_n hx hb dX0_keepsFirstByMirror_28 rfl (lv_at hl 0 rfl) ?_
        refine va_get (D := (dC, dI)) (ci := 0) (v := .int o_firstY) (C := RX0) (T := TX0) (N := 9) hx hb hts (fun w h => List.mem_cons_of_mem _ (kc_X0 w h)) hown hK hP 0 rfl rfl 6 (by decide) (hg kw_202) (fun _ h9 => h9) rfl dX0_keepsFirstByMirror_29 ?_
        obtain ⟨q32, hq32, hf⟩ := ds_ob hf
        refine ds_calli (wr := [(h_o, .inr (0, [.ref h_o_seen, .ref h_o_turned, .ref h_o_found, .int o_looked, .int o_stepsFound, .int o_firstX, .int o_firstY, .int o_secondX, .int o_secondY])), (h_o_seen, .inr (5, [.int o_seen_wide, .int o_seen_high, .int o_seen_hex, .long o_seen_ones, .long o_seen_twos])), (h_o_found, .inl (ca 1, 12, .inr (.inl o_found_r)))]) (va_runS (As := [.int o_seen_hex, .int v1, .int o_firstX, .int o_firstY]) (rest := []) ⟨hx, hb, hml, hown, hts⟩ (c_X1_turnedX l dC dI ca sa  H.size  o_seen_hex v1 o_firstX o_firstY q32 hq32) (va_cwS 4 hts (ds_gS kw_210 kw_93 kw_2 kw_94) rfl rfl rfl (by decide +kernel) ⟨Nat.le_of_ble_eq_true rfl, Nat.le_of_ble_eq_true rfl⟩) ⟨ds_blind, ds_at hP hD hK hE hS hA [] rfl rfl _⟩ rfl rfl hl.1 rfl (lv_room (Nat.le_of_ble_eq_true rfl)) dX0_keepsFirstByMirror_32 ⟨Nat.zero_le _, Nat.zero_le _⟩) hP hD hS hA [] [0, 1, 2] rfl rfl rfl (by decide) (fun H locs hP hD hS => ?_)
        have hP : va_P (dC, dI) vwCl [(h_o, .inr (0, [.ref h_o_seen, .ref h_o_turned, .ref h_o_found, .int o_looked, .int o_stepsFound, .int o_firstX, .int o_firstY, .int o_secondX, .int o_secondY])), (h_o_seen, .inr (5, [.int o_seen_wide, .int o_seen_high, .int o_seen_hex, .long o_seen_ones, .long o_seen_twos])), (h_o_found, .inl (ca 1, 12, .inr (.inl o_found_r)))] H := hP
        have hD : va_D A [(h_o, .inr (0, [.ref h_o_seen, .ref h_o_turned, .ref h_o_found, .int o_looked, .int o_stepsFound, .int o_firstX, .int o_firstY, .int o_secondX, .int o_secondY])), (h_o_seen, .inr (5, [.int o_seen_wide, .int o_seen_high, .int o_seen_hex, .long o_seen_ones, .long o_seen_twos])), (h_o_found, .inl (ca 1, 12, .inr (.inl o_found_r)))] := hD
        refine lv_aload_n hx hb dX0_keepsFirstByMirror_35 rfl (lv_at hl 0 rfl) ?_
        refine va_get (D := (dC, dI)) (ci := 0) (v := .int o_firstX) (C := RX0) (T := TX0) (N := 9) hx hb hts (fun w h => List.mem_cons_of_mem _ (kc_X0 w h)) hown hK hP 0 rfl rfl 5 (by decide) (hg kw_203) (fun _ h9 => h9) rfl dX0_keepsFirstByMirror_36 ?_
        refine lv_icmp_ne (tgt := 72) hx hb dX0_keepsFirstByMirror_39 (by decide) (fun c_39 => ?_) (fun c_39 => ?_)
        · replace hf := ds_f c_39 hf
          exact h1 (J_72 v1 _ hf hG _ _ hP hD hS _ (lv_sub hl [0, 1] rfl))
        · replace hf := ds_t c_39 hf
          refine lv_aload_n hx hb dX0_keepsFirstByMirror_42 rfl (lv_at hl 0 rfl) ?_
          refine va_get (D := (dC, dI)) (ci := 0) (v := .ref h_o_seen) (C := RX0) (T := TX0) (N := 9) hx hb hts (fun w h => List.mem_cons_of_mem _ (kc_X0 w h)) hown hK hP 0 rfl rfl 0 (by decide) (hg kw_129) (fun _ h9 => h9) rfl dX0_keepsFirstByMirror_43 ?_
          refine va_getN (D := (dC, dI)) (ci := 5) (v := .int o_seen_hex) (C := RX6) (T := TX6) (N := 5) hx hb hts (fun w h => List.mem_cons_of_mem _ (kc_X6 w h)) hown hK hP 1 rfl rfl 2 (by decide) (va_Nw.use rfl (hE.1 _ kw_135)) (fun _ h9 => h9) rfl dX0_keepsFirstByMirror_46 ?_
          refine lv_iload_n hx hb dX0_keepsFirstByMirror_49 rfl (lv_at hl 1 rfl) ?_
          refine lv_aload_n hx hb dX0_keepsFirstByMirror_50 rfl (lv_at hl 0 rfl) ?_
          refine va_get (D := (dC, dI)) (ci := 0) (v := .int o_firstX) (C := RX0) (T := TX0) (N := 9) hx hb hts (fun w h => List.mem_cons_of_mem _ (kc_X0 w h)) hown hK hP 0 rfl rfl 5 (by decide) (hg kw_203) (fun _ h9 => h9) rfl dX0_keepsFirstByMirror_51 ?_
          refine lv_aload_n hx hb dX0_keepsFirstByMirror_54 rfl (lv_at hl 0 rfl) ?_
          refine va_get (D := (dC, dI)) (ci := 0) (v := .int o_firstY) (C := RX0) (T := TX0) (N := 9) hx hb hts (fun w h => List.mem_cons_of_mem _ (kc_X0 w h)) hown hK hP 0 rfl rfl 6 (by decide) (hg kw_202) (fun _ h9 => h9) rfl dX0_keepsFirstByMirror_55 ?_
          obtain ⟨q58, hq58, hf⟩ := ds_ob hf
          refine ds_calli (wr := [(h_o, .inr (0, [.ref h_o_seen, .ref h_o_turned, .ref h_o_found, .int o_looked, .int o_stepsFound, .int o_firstX, .int o_firstY, .int o_secondX, .int o_secondY])), (h_o_seen, .inr (5, [.int o_seen_wide, .int o_seen_high, .int o_seen_hex, .long o_seen_ones, .long o_seen_twos])), (h_o_found, .inl (ca 1, 12, .inr (.inl o_found_r)))]) (va_runS (As := [.int o_seen_hex, .int v1, .int o_firstX, .int o_firstY]) (rest := []) ⟨hx, hb, hml, hown, hts⟩ (c_X1_turnedY l dC dI ca sa  H.size  o_seen_hex v1 o_firstX o_firstY q58 hq58) (va_cwS 4 hts (ds_gS kw_211 kw_96 kw_2 kw_97) rfl rfl rfl (by decide +kernel) ⟨Nat.le_of_ble_eq_true rfl, Nat.le_of_ble_eq_true rfl⟩) ⟨ds_blind, ds_at hP hD hK hE hS hA [] rfl rfl _⟩ rfl rfl hl.1 rfl (lv_room (Nat.le_of_ble_eq_true rfl)) dX0_keepsFirstByMirror_58 ⟨Nat.zero_le _, Nat.zero_le _⟩) hP hD hS hA [] [0, 1, 2] rfl rfl rfl (by decide) (fun H locs hP hD hS => ?_)
          have hP : va_P (dC, dI) vwCl [(h_o, .inr (0, [.ref h_o_seen, .ref h_o_turned, .ref h_o_found, .int o_looked, .int o_stepsFound, .int o_firstX, .int o_firstY, .int o_secondX, .int o_secondY])), (h_o_seen, .inr (5, [.int o_seen_wide, .int o_seen_high, .int o_seen_hex, .long o_seen_ones, .long o_seen_twos])), (h_o_found, .inl (ca 1, 12, .inr (.inl o_found_r)))] H := hP
          have hD : va_D A [(h_o, .inr (0, [.ref h_o_seen, .ref h_o_turned, .ref h_o_found, .int o_looked, .int o_stepsFound, .int o_firstX, .int o_firstY, .int o_secondX, .int o_secondY])), (h_o_seen, .inr (5, [.int o_seen_wide, .int o_seen_high, .int o_seen_hex, .long o_seen_ones, .long o_seen_twos])), (h_o_found, .inl (ca 1, 12, .inr (.inl o_found_r)))] := hD
          refine lv_aload_n hx hb dX0_keepsFirstByMirror_61 rfl (lv_at hl 0 rfl) ?_
          refine va_get (D := (dC, dI)) (ci := 0) (v := .int o_firstY) (C := RX0) (T := TX0) (N := 9) hx hb hts (fun w h => List.mem_cons_of_mem _ (kc_X0 w h)) hown hK hP 0 rfl rfl 6 (by decide) (hg kw_202) (fun _ h9 => h9) rfl dX0_keepsFirstByMirror_62 ?_
          refine lv_icmp_ne (tgt := 72) hx hb dX0_keepsFirstByMirror_65 (by decide) (fun c_65 => ?_) (fun c_65 => ?_)
          · replace hf := ds_f c_65 hf
            exact h1 (J_72 v1 _ hf hG _ _ hP hD hS _ (lv_sub hl [0, 1] rfl))
          · replace hf := ds_t c_65 hf
            refine lv_iconst (v := 1) hx hb dX0_keepsFirstByMirror_68 (by decide) ?_
            refine lv_goto (tgt := 73) hx hb dX0_keepsFirstByMirror_69 (by decide) ?_
            exact h1 (J_73 v1 (1 : Int32) _ hf hG _ _ hP hD hS _ (lv_sub hl [0, 1] rfl))
  unfold fX0_keepsFirstByMirror at hf
  refine lv_iconst (v := 0) hx hb dX0_keepsFirstByMirror_0 (by decide) ?_
  refine lv_istore_n (lv' := [(1, .int (0 : Int32)), (0, .ref h_o)]) hx hb dX0_keepsFirstByMirror_1 rfl hl (by decide) rfl (fun ls hl => ?_)
  exact h1 (J_2  1000 (0 : Int32) _ hf hG _ _ hP hD hS _ (lv_sub hl [1, 0] rfl))
theorem dX0_planeClass_0 : decode cX0_planeClass 0 = .ok (.aload_n 0, 1) := by decide +kernel
theorem dX0_planeClass_1 : decode cX0_planeClass 1 = .ok (.invokevirtual 154, 3) := by decide +kernel
theorem dX0_planeClass_4 : decode cX0_planeClass 4 = .ok (.ifCond .ne 7, 3) := by decide +kernel
theorem dX0_planeClass_7 : decode cX0_planeClass 7 = .ok (.iconst 1, 1) := by decide +kernel
theorem dX0_planeClass_8 : decode cX0_planeClass 8 = .ok (.goto 4, 3) := by decide +kernel
theorem dX0_planeClass_11 : decode cX0_planeClass 11 = .ok (.iconst 0, 1) := by decide +kernel
theorem dX0_planeClass_12 : decode cX0_planeClass 12 = .ok (.istore_n 1, 1) := by decide +kernel
theorem dX0_planeClass_13 : decode cX0_planeClass 13 = .ok (.aload_n 0, 1) := by decide +kernel
theorem dX0_planeClass_14 : decode cX0_planeClass 14 = .ok (.invokevirtual 106, 3) := by decide +kernel
theorem dX0_planeClass_17 : decode cX0_planeClass 17 = .ok (.aload_n 0, 1) := by decide +kernel
theorem dX0_planeClass_18 : decode cX0_planeClass 18 = .ok (.invokevirtual 96, 3) := by decide +kernel
theorem dX0_planeClass_21 : decode cX0_planeClass 21 = .ok (.tableswitch 123 2 6 #[35, 63, 87, 123, 111], 35) := by decide +kernel
theorem dX0_planeClass_56 : decode cX0_planeClass 56 = .ok (.iload_n 1, 1) := by decide +kernel
theorem dX0_planeClass_57 : decode cX0_planeClass 57 = .ok (.ifCond .eq 7, 3) := by decide +kernel
theorem dX0_planeClass_60 : decode cX0_planeClass 60 = .ok (.iconst 1, 1) := by decide +kernel
theorem dX0_planeClass_61 : decode cX0_planeClass 61 = .ok (.goto 22, 3) := by decide +kernel
theorem dX0_planeClass_64 : decode cX0_planeClass 64 = .ok (.aload_n 0, 1) := by decide +kernel
theorem dX0_planeClass_65 : decode cX0_planeClass 65 = .ok (.invokevirtual 157, 3) := by decide +kernel
theorem dX0_planeClass_68 : decode cX0_planeClass 68 = .ok (.ifCond .le 8, 3) := by decide +kernel
theorem dX0_planeClass_71 : decode cX0_planeClass 71 = .ok (.bipush 8, 2) := by decide +kernel
theorem dX0_planeClass_73 : decode cX0_planeClass 73 = .ok (.goto 10, 3) := by decide +kernel
theorem dX0_planeClass_76 : decode cX0_planeClass 76 = .ok (.bipush 7, 2) := by decide +kernel
theorem dX0_planeClass_78 : decode cX0_planeClass 78 = .ok (.aload_n 0, 1) := by decide +kernel
theorem dX0_planeClass_79 : decode cX0_planeClass 79 = .ok (.invokevirtual 160, 3) := by decide +kernel
theorem dX0_planeClass_82 : decode cX0_planeClass 82 = .ok (.isub, 1) := by decide +kernel
theorem dX0_planeClass_83 : decode cX0_planeClass 83 = .ok (.ireturn, 1) := by decide +kernel
theorem dX0_planeClass_84 : decode cX0_planeClass 84 = .ok (.iload_n 1, 1) := by decide +kernel
theorem dX0_planeClass_85 : decode cX0_planeClass 85 = .ok (.ifCond .eq 8, 3) := by decide +kernel
theorem dX0_planeClass_88 : decode cX0_planeClass 88 = .ok (.bipush 12, 2) := by decide +kernel
theorem dX0_planeClass_90 : decode cX0_planeClass 90 = .ok (.goto 17, 3) := by decide +kernel
theorem dX0_planeClass_93 : decode cX0_planeClass 93 = .ok (.aload_n 0, 1) := by decide +kernel
theorem dX0_planeClass_94 : decode cX0_planeClass 94 = .ok (.invokevirtual 163, 3) := by decide +kernel
theorem dX0_planeClass_97 : decode cX0_planeClass 97 = .ok (.ifCond .eq 8, 3) := by decide +kernel
theorem dX0_planeClass_100 : decode cX0_planeClass 100 = .ok (.bipush 13, 2) := by decide +kernel
theorem dX0_planeClass_102 : decode cX0_planeClass 102 = .ok (.goto 5, 3) := by decide +kernel
theorem dX0_planeClass_105 : decode cX0_planeClass 105 = .ok (.bipush 14, 2) := by decide +kernel
theorem dX0_planeClass_107 : decode cX0_planeClass 107 = .ok (.ireturn, 1) := by decide +kernel
theorem dX0_planeClass_108 : decode cX0_planeClass 108 = .ok (.iload_n 1, 1) := by decide +kernel
theorem dX0_planeClass_109 : decode cX0_planeClass 109 = .ok (.ifCond .eq 8, 3) := by decide +kernel
theorem dX0_planeClass_112 : decode cX0_planeClass 112 = .ok (.bipush 9, 2) := by decide +kernel
theorem dX0_planeClass_114 : decode cX0_planeClass 114 = .ok (.goto 17, 3) := by decide +kernel
theorem dX0_planeClass_117 : decode cX0_planeClass 117 = .ok (.aload_n 0, 1) := by decide +kernel
theorem dX0_planeClass_118 : decode cX0_planeClass 118 = .ok (.invokevirtual 167, 3) := by decide +kernel
theorem dX0_planeClass_121 : decode cX0_planeClass 121 = .ok (.ifCond .eq 8, 3) := by decide +kernel
theorem dX0_planeClass_124 : decode cX0_planeClass 124 = .ok (.bipush 10, 2) := by decide +kernel
theorem dX0_planeClass_126 : decode cX0_planeClass 126 = .ok (.goto 5, 3) := by decide +kernel
theorem dX0_planeClass_129 : decode cX0_planeClass 129 = .ok (.bipush 11, 2) := by decide +kernel
theorem dX0_planeClass_131 : decode cX0_planeClass 131 = .ok (.ireturn, 1) := by decide +kernel
theorem dX0_planeClass_132 : decode cX0_planeClass 132 = .ok (.iload_n 1, 1) := by decide +kernel
theorem dX0_planeClass_133 : decode cX0_planeClass 133 = .ok (.ifCond .eq 8, 3) := by decide +kernel
theorem dX0_planeClass_136 : decode cX0_planeClass 136 = .ok (.bipush 15, 2) := by decide +kernel
theorem dX0_planeClass_138 : decode cX0_planeClass 138 = .ok (.goto 5, 3) := by decide +kernel
theorem dX0_planeClass_141 : decode cX0_planeClass 141 = .ok (.bipush 16, 2) := by decide +kernel
theorem dX0_planeClass_143 : decode cX0_planeClass 143 = .ok (.ireturn, 1) := by decide +kernel
theorem dX0_planeClass_144 : decode cX0_planeClass 144 = .ok (.iload_n 1, 1) := by decide +kernel
theorem dX0_planeClass_145 : decode cX0_planeClass 145 = .ok (.ifCond .eq 7, 3) := by decide +kernel
theorem dX0_planeClass_148 : decode cX0_planeClass 148 = .ok (.iconst 0, 1) := by decide +kernel
theorem dX0_planeClass_149 : decode cX0_planeClass 149 = .ok (.goto 20, 3) := by decide +kernel
theorem dX0_planeClass_152 : decode cX0_planeClass 152 = .ok (.aload_n 0, 1) := by decide +kernel
theorem dX0_planeClass_153 : decode cX0_planeClass 153 = .ok (.invokevirtual 157, 3) := by decide +kernel
theorem dX0_planeClass_156 : decode cX0_planeClass 156 = .ok (.ifCond .le 7, 3) := by decide +kernel
theorem dX0_planeClass_159 : decode cX0_planeClass 159 = .ok (.iconst 4, 1) := by decide +kernel
theorem dX0_planeClass_160 : decode cX0_planeClass 160 = .ok (.goto 9, 3) := by decide +kernel
theorem dX0_planeClass_163 : decode cX0_planeClass 163 = .ok (.iconst 3, 1) := by decide +kernel
theorem dX0_planeClass_164 : decode cX0_planeClass 164 = .ok (.aload_n 0, 1) := by decide +kernel
theorem dX0_planeClass_165 : decode cX0_planeClass 165 = .ok (.invokevirtual 160, 3) := by decide +kernel
theorem dX0_planeClass_168 : decode cX0_planeClass 168 = .ok (.isub, 1) := by decide +kernel
theorem dX0_planeClass_169 : decode cX0_planeClass 169 = .ok (.ireturn, 1) := by decide +kernel
def fX0_planeClass_144 (o_stepsFound : Int32) (o_firstX : Int32) (o_firstY : Int32) (o_secondX : Int32) (o_secondY : Int32) (o_seen_wide : Int32) (o_seen_high : Int32) (o_seen_hex : Int32) (o_found_r : Nat → Int64) (v1 : Int32) : Option (Int32 × Int32 × Int32 × Int32 × Int32 × Int32) :=
  if v1 = 0 then Option.bind (fX0_crossed o_stepsFound o_firstX o_firstY o_secondX o_secondY o_seen_wide o_seen_high o_seen_hex o_found_r) fun q153 => if q153.1 ≤ 0 then Option.bind (fX0_mirrors o_seen_wide o_seen_high o_seen_hex o_found_r) fun q165 => some (((3 : Int32) - q165), q153.2.1, q153.2.2.1, q153.2.2.2.1, q153.2.2.2.2.1, q153.2.2.2.2.2) else some ((4 : Int32), q153.2.1, q153.2.2.1, q153.2.2.2.1, q153.2.2.2.2.1, q153.2.2.2.2.2) else some ((0 : Int32), o_stepsFound, o_firstX, o_firstY, o_secondX, o_secondY)
def fX0_planeClass_12 (o_stepsFound : Int32) (o_firstX : Int32) (o_firstY : Int32) (o_secondX : Int32) (o_secondY : Int32) (o_seen_wide : Int32) (o_seen_high : Int32) (o_seen_hex : Int32) (o_found_r : Nat → Int64) (s0 : Int32) : Option (Int32 × Int32 × Int32 × Int32 × Int32 × Int32) :=
  Option.bind (fX0_findSteps o_stepsFound o_firstX o_firstY o_secondX o_secondY o_seen_wide o_seen_high o_seen_hex o_found_r) fun q14 => Option.bind (fX0_order o_seen_hex o_found_r) fun q18 => if q18 = 2 then if s0 = 0 then Option.bind (fX0_crossed q14.1 q14.2.1 q14.2.2.1 q14.2.2.2.1 q14.2.2.2.2 o_seen_wide o_seen_high o_seen_hex o_found_r) fun q65 => if q65.1 ≤ 0 then Option.bind (fX0_mirrors o_seen_wide o_seen_high o_seen_hex o_found_r) fun q79 => some (((7 : Int32) - q79), q65.2.1, q65.2.2.1, q65.2.2.2.1, q65.2.2.2.2.1, q65.2.2.2.2.2) else some ((8 : Int32), q65.2.1, q65.2.2.1, q65.2.2.2.1, q65.2.2.2.2.1, q65.2.2.2.2.2) else some ((1 : Int32), q14.1, q14.2.1, q14.2.2.1, q14.2.2.2.1, q14.2.2.2.2) else if q18 = 3 then if s0 = 0 then Option.bind (fX0_turnsShortestRound q14.2.1 q14.2.2.1 o_seen_wide o_seen_high o_seen_hex o_found_r) fun q94 => if q94 = 0 then some ((14 : Int32), q14.1, q14.2.1, q14.2.2.1, q14.2.2.2.1, q14.2.2.2.2) else some ((13 : Int32), q14.1, q14.2.1, q14.2.2.1, q14.2.2.2.1, q14.2.2.2.2) else some ((12 : Int32), q14.1, q14.2.1, q14.2.2.1, q14.2.2.2.1, q14.2.2.2.2) else if q18 = 4 then if s0 = 0 then Option.bind (fX0_keepsFirstByMirror q14.2.1 q14.2.2.1 o_seen_wide o_seen_high o_seen_hex o_found_r) fun q118 => if q118 = 0 then some ((11 : Int32), q14.1, q14.2.1, q14.2.2.1, q14.2.2.2.1, q14.2.2.2.2) else some ((10 : Int32), q14.1, q14.2.1, q14.2.2.1, q14.2.2.2.1, q14.2.2.2.2) else some ((9 : Int32), q14.1, q14.2.1, q14.2.2.1, q14.2.2.2.1, q14.2.2.2.2) else if q18 = 5 then fX0_planeClass_144 q14.1 q14.2.1 q14.2.2.1 q14.2.2.2.1 q14.2.2.2.2 o_seen_wide o_seen_high o_seen_hex o_found_r s0 else if q18 = 6 then if s0 = 0 then some ((16 : Int32), q14.1, q14.2.1, q14.2.2.1, q14.2.2.2.1, q14.2.2.2.2) else some ((15 : Int32), q14.1, q14.2.1, q14.2.2.1, q14.2.2.2.1, q14.2.2.2.2) else fX0_planeClass_144 q14.1 q14.2.1 q14.2.2.1 q14.2.2.2.1 q14.2.2.2.2 o_seen_wide o_seen_high o_seen_hex o_found_r s0
def fX0_planeClass (o_stepsFound : Int32) (o_firstX : Int32) (o_firstY : Int32) (o_secondX : Int32) (o_secondY : Int32) (o_seen_wide : Int32) (o_seen_high : Int32) (o_seen_hex : Int32) (o_found_r : Nat → Int64) : Option (Int32 × Int32 × Int32 × Int32 × Int32 × Int32) :=
  Option.bind (fX0_flips o_seen_hex o_found_r) fun q1 => if q1 = 0 then fX0_planeClass_12 o_stepsFound o_firstX o_firstY o_secondX o_secondY o_seen_wide o_seen_high o_seen_hex o_found_r (1 : Int32) else fX0_planeClass_12 o_stepsFound o_firstX o_firstY o_secondX o_secondY o_seen_wide o_seen_high o_seen_hex o_found_r (0 : Int32)
set_option maxHeartbeats 4000000 in
set_option maxRecDepth 100000 in
theorem c_X0_planeClass (l : Launch) (dC : Nat → ClassId) (dI : Nat → Nat → Nat) (ca : Nat → ClassId) (sa : Nat → Nat) (h_o : Nat) (h_o_seen : Nat) (h_o_turned : Nat) (h_o_found : Nat) (sz : Nat) (o_looked : Int32) (o_stepsFound : Int32) (o_firstX : Int32) (o_firstY : Int32) (o_secondX : Int32) (o_secondY : Int32) (o_seen_wide : Int32) (o_seen_high : Int32) (o_seen_hex : Int32) (o_seen_ones : Int64) (o_seen_twos : Int64) (o_found_r : Nat → Int64) (res : Int32 × Int32 × Int32 × Int32 × Int32 × Int32) (hf : fX0_planeClass o_stepsFound o_firstX o_firstY o_secondX o_secondY o_seen_wide o_seen_high o_seen_hex o_found_r = some res) : Met l yX0_planeClass (Cond.code yX0_planeClass cX0_planeClass 2 (some .int) :: ds_gw) { frames := 6, cells := 0, slots := 0, locals := 135 } (va_Pc [.ref h_o] (ds_Pre dC dI ca sa [(h_o, .inr (0, [.ref h_o_seen, .ref h_o_turned, .ref h_o_found, .int o_looked, .int o_stepsFound, .int o_firstX, .int o_firstY, .int o_secondX, .int o_secondY])), (h_o_seen, .inr (5, [.int o_seen_wide, .int o_seen_high, .int o_seen_hex, .long o_seen_ones, .long o_seen_twos])), (h_o_found, .inl (ca 1, 12, .inr (.inl o_found_r)))] sz)) (va_Qi (fun r (_ : Unit) => r = res.1) (ds_B dC dI (va_A [(h_o, .inr (0, [.ref h_o_seen, .ref h_o_turned, .ref h_o_found, .int o_looked, .int o_stepsFound, .int o_firstX, .int o_firstY, .int o_secondX, .int o_secondY])), (h_o_seen, .inr (5, [.int o_seen_wide, .int o_seen_high, .int o_seen_hex, .long o_seen_ones, .long o_seen_twos])), (h_o_found, .inl (ca 1, 12, .inr (.inl o_found_r)))] sz) [(h_o, .inr (0, [.ref h_o_seen, .ref h_o_turned, .ref h_o_found, .int o_looked, .int res.2.1, .int res.2.2.1, .int res.2.2.2.1, .int res.2.2.2.2.1, .int res.2.2.2.2.2])), (h_o_seen, .inr (5, [.int o_seen_wide, .int o_seen_high, .int o_seen_hex, .long o_seen_ones, .long o_seen_twos])), (h_o_found, .inl (ca 1, 12, .inr (.inl o_found_r)))]) (va_A [(h_o, .inr (0, [.ref h_o_seen, .ref h_o_turned, .ref h_o_found, .int o_looked, .int o_stepsFound, .int o_firstX, .int o_firstY, .int o_secondX, .int o_secondY])), (h_o_seen, .inr (5, [.int o_seen_wide, .int o_seen_high, .int o_seen_hex, .long o_seen_ones, .long o_seen_twos])), (h_o_found, .inl (ca 1, 12, .inr (.inl o_found_r)))] sz)) 0 0 (va_A [(h_o, .inr (0, [.ref h_o_seen, .ref h_o_turned, .ref h_o_found, .int o_looked, .int o_stepsFound, .int o_firstX, .int o_firstY, .int o_secondX, .int o_secondY])), (h_o_seen, .inr (5, [.int o_seen_wide, .int o_seen_high, .int o_seen_hex, .long o_seen_ones, .long o_seen_twos])), (h_o_found, .inl (ca 1, 12, .inr (.inl o_found_r)))] sz) := by
  refine Met.ofW (cc := cX0_planeClass) (maxL := 2) (ret := (some .int)) (by decide) rfl ?_
  intro p e s m args below meth c s₁ B hml hv
  obtain ⟨rfl, hsz, hP, hK, hD0, hE⟩ := hv
  have hx := B.exec
  have hb := B.bytes
  have hr := B.returns
  have hts := atoms_spec (ws := Cond.code yX0_planeClass cX0_planeClass 2 (some .int) :: ds_gw) B.pre
  have hg : ∀ {w : Cond}, w ∈ ds_gw → w.before _ s = true := fun h => hts _ (List.mem_cons_of_mem _ h)
  have hown : s.vm.findClass RX0 = some m.cls := findClass_of_methodNamed B.named
  have hlocks := B.notSynchronized
  subst hsz
  have hD := hD0.self (sz := s.heap.size)
  generalize hAe : va_A [(h_o, .inr (0, [.ref h_o_seen, .ref h_o_turned, .ref h_o_found, .int o_looked, .int o_stepsFound, .int o_firstX, .int o_firstY, .int o_secondX, .int o_secondY])), (h_o_seen, .inr (5, [.int o_seen_wide, .int o_seen_high, .int o_seen_hex, .long o_seen_ones, .long o_seen_twos])), (h_o_found, .inl (ca 1, 12, .inr (.inl o_found_r)))] s.heap.size = A at hD hE ⊢
  have hA : ∀ q : Nat, s.heap.size ≤ q → A q := fun q h => by rw [← hAe]; exact Or.inr h
  have hS : va_S A s.heap s.heap [] := va_S.rf
  have hl := lv_entry ([.ref h_o]) (n := 2) (Nat.le_of_ble_eq_true rfl)
  rw [lg_entry_eq]
  generalize (lg_sl ([.ref h_o]) ++ List.replicate (2 - (lg_sl ([.ref h_o])).length) Slot.unset).toArray = ls at hl ⊢
  have hl : lv_has ls 2 [(0, .ref h_o)] := hl
  obtain ⟨G0, eG0⟩ : ∃ G : (Int32 × Int32 × Int32 × Int32 × Int32 × Int32) → Prop, G = (fun r => r = res) := ⟨_, rfl⟩
  obtain ⟨rr, hrr⟩ : ∃ z, z = res := ⟨_, rfl⟩
  rw [← hrr] at hf
  have hG : G0 rr := by subst eG0; exact hrr
  refine ds_cap (fun WW h1 h2 => ?_)
  have J_144 : ∀ (v1 : Int32) (o_stepsFound : Int32) (o_firstX : Int32) (o_firstY : Int32) (o_secondX : Int32) (o_secondY : Int32) (rr : Int32 × Int32 × Int32 × Int32 × Int32 × Int32) (hf : fX0_planeClass_144 o_stepsFound o_firstX o_firstY o_secondX o_secondY o_seen_wide o_seen_high o_seen_hex o_found_r v1 = some rr) (hG : G0 rr) (H : Heap) (locs : List Loc) (hP : va_P (dC, dI) vwCl [(h_o, .inr (0, [.ref h_o_seen, .ref h_o_turned, .ref h_o_found, .int o_looked, .int o_stepsFound, .int o_firstX, .int o_firstY, .int o_secondX, .int o_secondY])), (h_o_seen, .inr (5, [.int o_seen_wide, .int o_seen_high, .int o_seen_hex, .long o_seen_ones, .long o_seen_twos])), (h_o_found, .inl (ca 1, 12, .inr (.inl o_found_r)))] H) (hD : va_D A [(h_o, .inr (0, [.ref h_o_seen, .ref h_o_turned, .ref h_o_found, .int o_looked, .int o_stepsFound, .int o_firstX, .int o_firstY, .int o_secondX, .int o_secondY])), (h_o_seen, .inr (5, [.int o_seen_wide, .int o_seen_high, .int o_seen_hex, .long o_seen_ones, .long o_seen_twos])), (h_o_found, .inl (ca 1, 12, .inr (.inl o_found_r)))]) (hS : va_S A s.heap H locs) (ls : Array Slot) (hl : lv_has ls 2 [(0, .ref h_o), (1, .int v1)]), WW H locs (F0 m 144 ls []) := by
    intro v1 o_stepsFound o_firstX o_firstY o_secondX o_secondY rr hf hG H locs hP hD hS ls hl
    refine h2 ?_
    unfold fX0_planeClass_144 at hf
    refine lv_iload_n hx hb dX0_planeClass_144 rfl (lv_at hl 1 rfl) ?_
    refine lv_if_eq (tgt := 152) hx hb dX0_planeClass_145 (by decide) (fun c_145 => ?_) (fun c_145 => ?_)
    · replace hf := ds_t c_145 hf
      refine lv_aload_n hx hb dX0_planeClass_152 rfl (lv_at hl 0 rfl) ?_
      obtain ⟨q153, hq153, hf⟩ := ds_ob hf
      refine ds_calli (wr := []) (va_runV (As := []) (rest := []) ⟨hx, hb, hml, hown, hts⟩ (c_X0_crossed l dC dI ca sa h_o h_o_seen h_o_turned h_o_found H.size o_looked o_stepsFound o_firstX o_firstY o_secondX o_secondY o_seen_wide o_seen_high o_seen_hex o_seen_ones o_seen_twos o_found_r  q153 hq153) (cwV 0 hts (ds_gV kw_228 kw_229 kw_230 kw_154 kw_231) rfl rfl rfl (by decide +kernel) ⟨Nat.le_of_ble_eq_true rfl, Nat.le_of_ble_eq_true rfl⟩) ⟨ds_blind, va_recv hK hP (ci := 0) (q0 := 0) rfl rfl, ds_at hP hD hK hE hS hA [0, 1, 2] rfl rfl _⟩ rfl rfl hl.1 rfl (lv_room (Nat.le_of_ble_eq_true rfl)) dX0_planeClass_153 ⟨Nat.zero_le _, Nat.zero_le _⟩) hP hD hS hA [0, 1, 2] [] rfl rfl rfl (by decide) (fun H locs hP hD hS => ?_)
      have hP : va_P (dC, dI) vwCl [(h_o, .inr (0, [.ref h_o_seen, .ref h_o_turned, .ref h_o_found, .int o_looked, .int q153.2.1, .int q153.2.2.1, .int q153.2.2.2.1, .int q153.2.2.2.2.1, .int q153.2.2.2.2.2])), (h_o_seen, .inr (5, [.int o_seen_wide, .int o_seen_high, .int o_seen_hex, .long o_seen_ones, .long o_seen_twos])), (h_o_found, .inl (ca 1, 12, .inr (.inl o_found_r)))] H := hP
      have hD : va_D A [(h_o, .inr (0, [.ref h_o_seen, .ref h_o_turned, .ref h_o_found, .int o_looked, .int q153.2.1, .int q153.2.2.1, .int q153.2.2.2.1, .int q153.2.2.2.2.1, .int q153.2.2.2.2.2])), (h_o_seen, .inr (5, [.int o_seen_wide, .int o_seen_high, .int o_seen_hex, .long o_seen_ones, .long o_seen_twos])), (h_o_found, .inl (ca 1, 12, .inr (.inl o_found_r)))] := hD
      refine lv_if_le (tgt := 163) hx hb dX0_planeClass_156 (by decide) (fun c_156 => ?_) (fun c_156 => ?_)
      · replace hf := ds_t c_156 hf
        refine lv_iconst (v := 3) hx hb dX0_planeClass_163 (by decide) ?_
        refine lv_aload_n hx hb dX0_planeClass_164 rfl (lv_at hl 0 rfl) ?_
        obtain ⟨q165, hq165, hf⟩ := ds_ob hf
        refine ds_calli (wr := []) (va_runV (As := []) (rest := [.int (3 : Int32)]) ⟨hx, hb, hml, hown, hts⟩ (c_X0_mirrors l dC dI ca sa h_o h_o_seen h_o_turned h_o_found H.size o_looked q153.2.1 q153.2.2.1 q153.2.2.2.1 q153.2.2.2.2.1 q153.2.2.2.2.2 o_seen_wide o_seen_high o_seen_hex o_seen_ones o_seen_twos o_found_r  q165 hq165) (cwV 0 hts (ds_gV kw_232 kw_233 kw_234 kw_154 kw_235) rfl rfl rfl (by decide +kernel) ⟨Nat.le_of_ble_eq_true rfl, Nat.le_of_ble_eq_true rfl⟩) ⟨ds_blind, va_recv hK hP (ci := 0) (q0 := 0) rfl rfl, ds_at hP hD hK hE hS hA [0, 1, 2] rfl rfl _⟩ rfl rfl hl.1 rfl (lv_room (Nat.le_of_ble_eq_true rfl)) dX0_planeClass_165 ⟨Nat.zero_le _, Nat.zero_le _⟩) hP hD hS hA [0, 1, 2] [] rfl rfl rfl (by decide) (fun H locs hP hD hS => ?_)
        have hP : va_P (dC, dI) vwCl [(h_o, .inr (0, [.ref h_o_seen, .ref h_o_turned, .ref h_o_found, .int o_looked, .int q153.2.1, .int q153.2.2.1, .int q153.2.2.2.1, .int q153.2.2.2.2.1, .int q153.2.2.2.2.2])), (h_o_seen, .inr (5, [.int o_seen_wide, .int o_seen_high, .int o_seen_hex, .long o_seen_ones, .long o_seen_twos])), (h_o_found, .inl (ca 1, 12, .inr (.inl o_found_r)))] H := hP
        have hD : va_D A [(h_o, .inr (0, [.ref h_o_seen, .ref h_o_turned, .ref h_o_found, .int o_looked, .int q153.2.1, .int q153.2.2.1, .int q153.2.2.2.1, .int q153.2.2.2.2.1, .int q153.2.2.2.2.2])), (h_o_seen, .inr (5, [.int o_seen_wide, .int o_seen_high, .int o_seen_hex, .long o_seen_ones, .long o_seen_twos])), (h_o_found, .inl (ca 1, 12, .inr (.inl o_found_r)))] := hD
        refine lv_isub hx hb dX0_planeClass_168 ?_
        have hf := Option.some.inj hf
        subst hf
        rw [eG0] at hG
        have hG : _ = res := hG
        subst hG
        exact W.iret (v := ((3 : Int32) - q165)) hx hb hr (fun t ht hW => ⟨⟨((3 : Int32) - q165), (), rfl, rfl, by rw [ht]; exact hP, hD⟩, hS.F ht⟩) hS.2.2 dX0_planeClass_169
      · replace hf := ds_f c_156 hf
        refine lv_iconst (v := 4) hx hb dX0_planeClass_159 (by decide) ?_
        refine lv_goto (tgt := 169) hx hb dX0_planeClass_160 (by decide) ?_
        have hf := Option.some.inj hf
        subst hf
        rw [eG0] at hG
        have hG : _ = res := hG
        subst hG
        exact W.iret (v := (4 : Int32)) hx hb hr (fun t ht hW => ⟨⟨(4 : Int32), (), rfl, rfl, by rw [ht]; exact hP, hD⟩, hS.F ht⟩) hS.2.2 dX0_planeClass_169
    · replace hf := ds_f c_145 hf
      refine lv_iconst (v := 0) hx hb dX0_planeClass_148 (by decide) ?_
      refine lv_goto (tgt := 169) hx hb dX0_planeClass_149 (by decide) ?_
      have hf := Option.some.inj hf
      subst hf
      rw [eG0] at hG
      have hG : _ = res := hG
      subst hG
      exact W.iret (v := (0 : Int32)) hx hb hr (fun t ht hW => ⟨⟨(0 : Int32), (), rfl, rfl, by rw [ht]; exact hP, hD⟩, hS.F ht⟩) hS.2.2 dX0_planeClass_169
  have J_12 : ∀ (s0 : Int32) (o_stepsFound : Int32) (o_firstX : Int32) (o_firstY : Int32) (o_secondX : Int32) (o_secondY : Int32) (rr : Int32 × Int32 × Int32 × Int32 × Int32 × Int32) (hf : fX0_planeClass_12 o_stepsFound o_firstX o_firstY o_secondX o_secondY o_seen_wide o_seen_high o_seen_hex o_found_r s0 = some rr) (hG : G0 rr) (H : Heap) (locs : List Loc) (hP : va_P (dC, dI) vwCl [(h_o, .inr (0, [.ref h_o_seen, .ref h_o_turned, .ref h_o_found, .int o_looked, .int o_stepsFound, .int o_firstX, .int o_firstY, .int o_secondX, .int o_secondY])), (h_o_seen, .inr (5, [.int o_seen_wide, .int o_seen_high, .int o_seen_hex, .long o_seen_ones, .long o_seen_twos])), (h_o_found, .inl (ca 1, 12, .inr (.inl o_found_r)))] H) (hD : va_D A [(h_o, .inr (0, [.ref h_o_seen, .ref h_o_turned, .ref h_o_found, .int o_looked, .int o_stepsFound, .int o_firstX, .int o_firstY, .int o_secondX, .int o_secondY])), (h_o_seen, .inr (5, [.int o_seen_wide, .int o_seen_high, .int o_seen_hex, .long o_seen_ones, .long o_seen_twos])), (h_o_found, .inl (ca 1, 12, .inr (.inl o_found_r)))]) (hS : va_S A s.heap H locs) (ls : Array Slot) (hl : lv_has ls 2 [(0, .ref h_o)]), WW H locs (F0 m 12 ls [.int s0]) := by
    intro s0 o_stepsFound o_firstX o_firstY o_secondX o_secondY rr hf hG H locs hP hD hS ls hl
    refine h2 ?_
    unfold fX0_planeClass_12 at hf
    refine lv_istore_n (lv' := [(1, .int s0), (0, .ref h_o)]) hx hb dX0_planeClass_12 rfl hl (by decide) rfl (fun ls hl => ?_)
    refine lv_aload_n hx hb dX0_planeClass_13 rfl (lv_at hl 1 rfl) ?_
    obtain ⟨q14, hq14, hf⟩ := ds_ob hf
    refine ds_callv (wr := []) (va_runV (As := []) (rest := []) ⟨hx, hb, hml, hown, hts⟩ (c_X0_findSteps l dC dI ca sa h_o h_o_seen h_o_turned h_o_found H.size o_looked o_stepsFound o_firstX o_firstY o_secondX o_secondY o_seen_wide o_seen_high o_seen_hex o_seen_ones o_seen_twos o_found_r  q14 hq14) (cwV 0 hts (ds_gV kw_220 kw_221 kw_222 kw_154 kw_223) rfl rfl rfl (by decide +kernel) ⟨Nat.le_of_ble_eq_true rfl, Nat.le_of_ble_eq_true rfl⟩) ⟨ds_blind, va_recv hK hP (ci := 0) (q0 := 0) rfl rfl, ds_at hP hD hK hE hS hA [0, 1, 2] rfl rfl _⟩ rfl rfl hl.1 rfl (lv_room (Nat.le_of_ble_eq_true rfl)) dX0_planeClass_14 ⟨Nat.zero_le _, Nat.zero_le _⟩) hP hD hS hA [0, 1, 2] [] rfl rfl rfl (by decide) (fun H locs hP hD hS => ?_)
    have hP : va_P (dC, dI) vwCl [(h_o, .inr (0, [.ref h_o_seen, .ref h_o_turned, .ref h_o_found, .int o_looked, .int q14.1, .int q14.2.1, .int q14.2.2.1, .int q14.2.2.2.1, .int q14.2.2.2.2])), (h_o_seen, .inr (5, [.int o_seen_wide, .int o_seen_high, .int o_seen_hex, .long o_seen_ones, .long o_seen_twos])), (h_o_found, .inl (ca 1, 12, .inr (.inl o_found_r)))] H := hP
    have hD : va_D A [(h_o, .inr (0, [.ref h_o_seen, .ref h_o_turned, .ref h_o_found, .int o_looked, .int q14.1, .int q14.2.1, .int q14.2.2.1, .int q14.2.2.2.1, .int q14.2.2.2.2])), (h_o_seen, .inr (5, [.int o_seen_wide, .int o_seen_high, .int o_seen_hex, .long o_seen_ones, .long o_seen_twos])), (h_o_found, .inl (ca 1, 12, .inr (.inl o_found_r)))] := hD
    refine lv_aload_n hx hb dX0_planeClass_17 rfl (lv_at hl 1 rfl) ?_
    obtain ⟨q18, hq18, hf⟩ := ds_ob hf
    refine ds_calli (wr := []) (va_runV (As := []) (rest := []) ⟨hx, hb, hml, hown, hts⟩ (c_X0_order l dC dI ca sa h_o h_o_seen h_o_turned h_o_found H.size o_looked q14.1 q14.2.1 q14.2.2.1 q14.2.2.2.1 q14.2.2.2.2 o_seen_wide o_seen_high o_seen_hex o_seen_ones o_seen_twos o_found_r  q18 hq18) (cwV 0 hts (ds_gV kw_177 kw_178 kw_179 kw_154 kw_180) rfl rfl rfl (by decide +kernel) ⟨Nat.le_of_ble_eq_true rfl, Nat.le_of_ble_eq_true rfl⟩) ⟨ds_blind, va_recv hK hP (ci := 0) (q0 := 0) rfl rfl, ds_at hP hD hK hE hS hA [0, 1, 2] rfl rfl _⟩ rfl rfl hl.1 rfl (lv_room (Nat.le_of_ble_eq_true rfl)) dX0_planeClass_18 ⟨Nat.zero_le _, Nat.zero_le _⟩) hP hD hS hA [0, 1, 2] [] rfl rfl rfl (by decide) (fun H locs hP hD hS => ?_)
    have hP : va_P (dC, dI) vwCl [(h_o, .inr (0, [.ref h_o_seen, .ref h_o_turned, .ref h_o_found, .int o_looked, .int q14.1, .int q14.2.1, .int q14.2.2.1, .int q14.2.2.2.1, .int q14.2.2.2.2])), (h_o_seen, .inr (5, [.int o_seen_wide, .int o_seen_high, .int o_seen_hex, .long o_seen_ones, .long o_seen_twos])), (h_o_found, .inl (ca 1, 12, .inr (.inl o_found_r)))] H := hP
    have hD : va_D A [(h_o, .inr (0, [.ref h_o_seen, .ref h_o_turned, .ref h_o_found, .int o_looked, .int q14.1, .int q14.2.1, .int q14.2.2.1, .int q14.2.2.2.1, .int q14.2.2.2.2])), (h_o_seen, .inr (5, [.int o_seen_wide, .int o_seen_high, .int o_seen_hex, .long o_seen_ones, .long o_seen_twos])), (h_o_found, .inl (ca 1, 12, .inr (.inl o_found_r)))] := hD
    by_cases c_21_2 : q18 = 2
    · replace hf := ds_t c_21_2 hf
      refine lv_tableIn (off := 35) (tgt := 56) hx hb dX0_planeClass_21 (by rw [c_21_2]; decide) (by rw [c_21_2]; decide) (by rw [c_21_2]; decide) (by decide) ?_
      refine lv_iload_n hx hb dX0_planeClass_56 rfl (lv_at hl 0 rfl) ?_
      refine lv_if_eq (tgt := 64) hx hb dX0_planeClass_57 (by decide) (fun c_57 => ?_) (fun c_57 => ?_)
      · replace hf := ds_t c_57 hf
        refine lv_aload_n hx hb dX0_planeClass_64 rfl (lv_at hl 1 rfl) ?_
        obtain ⟨q65, hq65, hf⟩ := ds_ob hf
        refine ds_calli (wr := []) (va_runV (As := []) (rest := []) ⟨hx, hb, hml, hown, hts⟩ (c_X0_crossed l dC dI ca sa h_o h_o_seen h_o_turned h_o_found H.size o_looked q14.1 q14.2.1 q14.2.2.1 q14.2.2.2.1 q14.2.2.2.2 o_seen_wide o_seen_high o_seen_hex o_seen_ones o_seen_twos o_found_r  q65 hq65) (cwV 0 hts (ds_gV kw_228 kw_229 kw_230 kw_154 kw_231) rfl rfl rfl (by decide +kernel) ⟨Nat.le_of_ble_eq_true rfl, Nat.le_of_ble_eq_true rfl⟩) ⟨ds_blind, va_recv hK hP (ci := 0) (q0 := 0) rfl rfl, ds_at hP hD hK hE hS hA [0, 1, 2] rfl rfl _⟩ rfl rfl hl.1 rfl (lv_room (Nat.le_of_ble_eq_true rfl)) dX0_planeClass_65 ⟨Nat.zero_le _, Nat.zero_le _⟩) hP hD hS hA [0, 1, 2] [] rfl rfl rfl (by decide) (fun H locs hP hD hS => ?_)
        have hP : va_P (dC, dI) vwCl [(h_o, .inr (0, [.ref h_o_seen, .ref h_o_turned, .ref h_o_found, .int o_looked, .int q65.2.1, .int q65.2.2.1, .int q65.2.2.2.1, .int q65.2.2.2.2.1, .int q65.2.2.2.2.2])), (h_o_seen, .inr (5, [.int o_seen_wide, .int o_seen_high, .int o_seen_hex, .long o_seen_ones, .long o_seen_twos])), (h_o_found, .inl (ca 1, 12, .inr (.inl o_found_r)))] H := hP
        have hD : va_D A [(h_o, .inr (0, [.ref h_o_seen, .ref h_o_turned, .ref h_o_found, .int o_looked, .int q65.2.1, .int q65.2.2.1, .int q65.2.2.2.1, .int q65.2.2.2.2.1, .int q65.2.2.2.2.2])), (h_o_seen, .inr (5, [.int o_seen_wide, .int o_seen_high, .int o_seen_hex, .long o_seen_ones, .long o_seen_twos])), (h_o_found, .inl (ca 1, 12, .inr (.inl o_found_r)))] := hD
        refine lv_if_le (tgt := 76) hx hb dX0_planeClass_68 (by decide) (fun c_68 => ?_) (fun c_68 => ?_)
        · replace hf := ds_t c_68 hf
          refine lv_bipush (v := 7) hx hb dX0_planeClass_76 (by decide) ?_
          refine lv_aload_n hx hb dX0_planeClass_78 rfl (lv_at hl 1 rfl) ?_
          obtain ⟨q79, hq79, hf⟩ := ds_ob hf
          refine ds_calli (wr := []) (va_runV (As := []) (rest := [.int (7 : Int32)]) ⟨hx, hb, hml, hown, hts⟩ (c_X0_mirrors l dC dI ca sa h_o h_o_seen h_o_turned h_o_found H.size o_looked q65.2.1 q65.2.2.1 q65.2.2.2.1 q65.2.2.2.2.1 q65.2.2.2.2.2 o_seen_wide o_seen_high o_seen_hex o_seen_ones o_seen_twos o_found_r  q79 hq79) (cwV 0 hts (ds_gV kw_232 kw_233 kw_234 kw_154 kw_235) rfl rfl rfl (by decide +kernel) ⟨Nat.le_of_ble_eq_true rfl, Nat.le_of_ble_eq_true rfl⟩) ⟨ds_blind, va_recv hK hP (ci := 0) (q0 := 0) rfl rfl, ds_at hP hD hK hE hS hA [0, 1, 2] rfl rfl _⟩ rfl rfl hl.1 rfl (lv_room (Nat.le_of_ble_eq_true rfl)) dX0_planeClass_79 ⟨Nat.zero_le _, Nat.zero_le _⟩) hP hD hS hA [0, 1, 2] [] rfl rfl rfl (by decide) (fun H locs hP hD hS => ?_)
          have hP : va_P (dC, dI) vwCl [(h_o, .inr (0, [.ref h_o_seen, .ref h_o_turned, .ref h_o_found, .int o_looked, .int q65.2.1, .int q65.2.2.1, .int q65.2.2.2.1, .int q65.2.2.2.2.1, .int q65.2.2.2.2.2])), (h_o_seen, .inr (5, [.int o_seen_wide, .int o_seen_high, .int o_seen_hex, .long o_seen_ones, .long o_seen_twos])), (h_o_found, .inl (ca 1, 12, .inr (.inl o_found_r)))] H := hP
          have hD : va_D A [(h_o, .inr (0, [.ref h_o_seen, .ref h_o_turned, .ref h_o_found, .int o_looked, .int q65.2.1, .int q65.2.2.1, .int q65.2.2.2.1, .int q65.2.2.2.2.1, .int q65.2.2.2.2.2])), (h_o_seen, .inr (5, [.int o_seen_wide, .int o_seen_high, .int o_seen_hex, .long o_seen_ones, .long o_seen_twos])), (h_o_found, .inl (ca 1, 12, .inr (.inl o_found_r)))] := hD
          refine lv_isub hx hb dX0_planeClass_82 ?_
          have hf := Option.some.inj hf
          subst hf
          rw [eG0] at hG
          have hG : _ = res := hG
          subst hG
          exact W.iret (v := ((7 : Int32) - q79)) hx hb hr (fun t ht hW => ⟨⟨((7 : Int32) - q79), (), rfl, rfl, by rw [ht]; exact hP, hD⟩, hS.F ht⟩) hS.2.2 dX0_planeClass_83
        · replace hf := ds_f c_68 hf
          refine lv_bipush (v := 8) hx hb dX0_planeClass_71 (by decide) ?_
          refine lv_goto (tgt := 83) hx hb dX0_planeClass_73 (by decide) ?_
          have hf := Option.some.inj hf
          subst hf
          rw [eG0] at hG
          have hG : _ = res := hG
          subst hG
          exact W.iret (v := (8 : Int32)) hx hb hr (fun t ht hW => ⟨⟨(8 : Int32), (), rfl, rfl, by rw [ht]; exact hP, hD⟩, hS.F ht⟩) hS.2.2 dX0_planeClass_83
      · replace hf := ds_f c_57 hf
        refine lv_iconst (v := 1) hx hb dX0_planeClass_60 (by decide) ?_
        refine lv_goto (tgt := 83) hx hb dX0_planeClass_61 (by decide) ?_
        have hf := Option.some.inj hf
        subst hf
        rw [eG0] at hG
        have hG : _ = res := hG
        subst hG
        exact W.iret (v := (1 : Int32)) hx hb hr (fun t ht hW => ⟨⟨(1 : Int32), (), rfl, rfl, by rw [ht]; exact hP, hD⟩, hS.F ht⟩) hS.2.2 dX0_planeClass_83
    replace hf := ds_f c_21_2 hf
    by_cases c_21_3 : q18 = 3
    · replace hf := ds_t c_21_3 hf
      refine lv_tableIn (off := 63) (tgt := 84) hx hb dX0_planeClass_21 (by rw [c_21_3]; decide) (by rw [c_21_3]; decide) (by rw [c_21_3]; decide) (by decide) ?_
      refine lv_iload_n hx hb dX0_planeClass_84 rfl (lv_at hl 0 rfl) ?_
      refine lv_if_eq (tgt := 93) hx hb dX0_planeClass_85 (by decide) (fun c_85 => ?_) (fun c_85 => ?_)
      · replace hf := ds_t c_85 hf
        refine lv_aload_n hx hb dX0_planeClass_93 rfl (lv_at hl 1 rfl) ?_
        obtain ⟨q94, hq94, hf⟩ := ds_ob hf
        refine ds_calli (wr := []) (va_runV (As := []) (rest := []) ⟨hx, hb, hml, hown, hts⟩ (c_X0_turnsShortestRound l dC dI ca sa h_o h_o_seen h_o_turned h_o_found H.size o_looked q14.1 q14.2.1 q14.2.2.1 q14.2.2.2.1 q14.2.2.2.2 o_seen_wide o_seen_high o_seen_hex o_seen_ones o_seen_twos o_found_r  q94 hq94) (cwV 0 hts (ds_gV kw_236 kw_237 kw_238 kw_154 kw_239) rfl rfl rfl (by decide +kernel) ⟨Nat.le_of_ble_eq_true rfl, Nat.le_of_ble_eq_true rfl⟩) ⟨ds_blind, va_recv hK hP (ci := 0) (q0 := 0) rfl rfl, ds_at hP hD hK hE hS hA [0, 1, 2] rfl rfl _⟩ rfl rfl hl.1 rfl (lv_room (Nat.le_of_ble_eq_true rfl)) dX0_planeClass_94 ⟨Nat.zero_le _, Nat.zero_le _⟩) hP hD hS hA [0, 1, 2] [] rfl rfl rfl (by decide) (fun H locs hP hD hS => ?_)
        have hP : va_P (dC, dI) vwCl [(h_o, .inr (0, [.ref h_o_seen, .ref h_o_turned, .ref h_o_found, .int o_looked, .int q14.1, .int q14.2.1, .int q14.2.2.1, .int q14.2.2.2.1, .int q14.2.2.2.2])), (h_o_seen, .inr (5, [.int o_seen_wide, .int o_seen_high, .int o_seen_hex, .long o_seen_ones, .long o_seen_twos])), (h_o_found, .inl (ca 1, 12, .inr (.inl o_found_r)))] H := hP
        have hD : va_D A [(h_o, .inr (0, [.ref h_o_seen, .ref h_o_turned, .ref h_o_found, .int o_looked, .int q14.1, .int q14.2.1, .int q14.2.2.1, .int q14.2.2.2.1, .int q14.2.2.2.2])), (h_o_seen, .inr (5, [.int o_seen_wide, .int o_seen_high, .int o_seen_hex, .long o_seen_ones, .long o_seen_twos])), (h_o_found, .inl (ca 1, 12, .inr (.inl o_found_r)))] := hD
        refine lv_if_eq (tgt := 105) hx hb dX0_planeClass_97 (by decide) (fun c_97 => ?_) (fun c_97 => ?_)
        · replace hf := ds_t c_97 hf
          refine lv_bipush (v := 14) hx hb dX0_planeClass_105 (by decide) ?_
          have hf := Option.some.inj hf
          subst hf
          rw [eG0] at hG
          have hG : _ = res := hG
          subst hG
          exact W.iret (v := (14 : Int32)) hx hb hr (fun t ht hW => ⟨⟨(14 : Int32), (), rfl, rfl, by rw [ht]; exact hP, hD⟩, hS.F ht⟩) hS.2.2 dX0_planeClass_107
        · replace hf := ds_f c_97 hf
          refine lv_bipush (v := 13) hx hb dX0_planeClass_100 (by decide) ?_
          refine lv_goto (tgt := 107) hx hb dX0_planeClass_102 (by decide) ?_
          have hf := Option.some.inj hf
          subst hf
          rw [eG0] at hG
          have hG : _ = res := hG
          subst hG
          exact W.iret (v := (13 : Int32)) hx hb hr (fun t ht hW => ⟨⟨(13 : Int32), (), rfl, rfl, by rw [ht]; exact hP, hD⟩, hS.F ht⟩) hS.2.2 dX0_planeClass_107
      · replace hf := ds_f c_85 hf
        refine lv_bipush (v := 12) hx hb dX0_planeClass_88 (by decide) ?_
        refine lv_goto (tgt := 107) hx hb dX0_planeClass_90 (by decide) ?_
        have hf := Option.some.inj hf
        subst hf
        rw [eG0] at hG
        have hG : _ = res := hG
        subst hG
        exact W.iret (v := (12 : Int32)) hx hb hr (fun t ht hW => ⟨⟨(12 : Int32), (), rfl, rfl, by rw [ht]; exact hP, hD⟩, hS.F ht⟩) hS.2.2 dX0_planeClass_107
    replace hf := ds_f c_21_3 hf
    by_cases c_21_4 : q18 = 4
    · replace hf := ds_t c_21_4 hf
      refine lv_tableIn (off := 87) (tgt := 108) hx hb dX0_planeClass_21 (by rw [c_21_4]; decide) (by rw [c_21_4]; decide) (by rw [c_21_4]; decide) (by decide) ?_
      refine lv_iload_n hx hb dX0_planeClass_108 rfl (lv_at hl 0 rfl) ?_
      refine lv_if_eq (tgt := 117) hx hb dX0_planeClass_109 (by decide) (fun c_109 => ?_) (fun c_109 => ?_)
      · replace hf := ds_t c_109 hf
        refine lv_aload_n hx hb dX0_planeClass_117 rfl (lv_at hl 1 rfl) ?_
        obtain ⟨q118, hq118, hf⟩ := ds_ob hf
        refine ds_calli (wr := []) (va_runV (As := []) (rest := []) ⟨hx, hb, hml, hown, hts⟩ (c_X0_keepsFirstByMirror l dC dI ca sa h_o h_o_seen h_o_turned h_o_found H.size o_looked q14.1 q14.2.1 q14.2.2.1 q14.2.2.2.1 q14.2.2.2.2 o_seen_wide o_seen_high o_seen_hex o_seen_ones o_seen_twos o_found_r  q118 hq118) (cwV 0 hts (ds_gV kw_240 kw_241 kw_242 kw_154 kw_243) rfl rfl rfl (by decide +kernel) ⟨Nat.le_of_ble_eq_true rfl, Nat.le_of_ble_eq_true rfl⟩) ⟨ds_blind, va_recv hK hP (ci := 0) (q0 := 0) rfl rfl, ds_at hP hD hK hE hS hA [0, 1, 2] rfl rfl _⟩ rfl rfl hl.1 rfl (lv_room (Nat.le_of_ble_eq_true rfl)) dX0_planeClass_118 ⟨Nat.zero_le _, Nat.zero_le _⟩) hP hD hS hA [0, 1, 2] [] rfl rfl rfl (by decide) (fun H locs hP hD hS => ?_)
        have hP : va_P (dC, dI) vwCl [(h_o, .inr (0, [.ref h_o_seen, .ref h_o_turned, .ref h_o_found, .int o_looked, .int q14.1, .int q14.2.1, .int q14.2.2.1, .int q14.2.2.2.1, .int q14.2.2.2.2])), (h_o_seen, .inr (5, [.int o_seen_wide, .int o_seen_high, .int o_seen_hex, .long o_seen_ones, .long o_seen_twos])), (h_o_found, .inl (ca 1, 12, .inr (.inl o_found_r)))] H := hP
        have hD : va_D A [(h_o, .inr (0, [.ref h_o_seen, .ref h_o_turned, .ref h_o_found, .int o_looked, .int q14.1, .int q14.2.1, .int q14.2.2.1, .int q14.2.2.2.1, .int q14.2.2.2.2])), (h_o_seen, .inr (5, [.int o_seen_wide, .int o_seen_high, .int o_seen_hex, .long o_seen_ones, .long o_seen_twos])), (h_o_found, .inl (ca 1, 12, .inr (.inl o_found_r)))] := hD
        refine lv_if_eq (tgt := 129) hx hb dX0_planeClass_121 (by decide) (fun c_121 => ?_) (fun c_121 => ?_)
        · replace hf := ds_t c_121 hf
          refine lv_bipush (v := 11) hx hb dX0_planeClass_129 (by decide) ?_
          have hf := Option.some.inj hf
          subst hf
          rw [eG0] at hG
          have hG : _ = res := hG
          subst hG
          exact W.iret (v := (11 : Int32)) hx hb hr (fun t ht hW => ⟨⟨(11 : Int32), (), rfl, rfl, by rw [ht]; exact hP, hD⟩, hS.F ht⟩) hS.2.2 dX0_planeClass_131
        · replace hf := ds_f c_121 hf
          refine lv_bipush (v := 10) hx hb dX0_planeClass_124 (by decide) ?_
          refine lv_goto (tgt := 131) hx hb dX0_planeClass_126 (by decide) ?_
          have hf := Option.some.inj hf
          subst hf
          rw [eG0] at hG
          have hG : _ = res := hG
          subst hG
          exact W.iret (v := (10 : Int32)) hx hb hr (fun t ht hW => ⟨⟨(10 : Int32), (), rfl, rfl, by rw [ht]; exact hP, hD⟩, hS.F ht⟩) hS.2.2 dX0_planeClass_131
      · replace hf := ds_f c_109 hf
        refine lv_bipush (v := 9) hx hb dX0_planeClass_112 (by decide) ?_
        refine lv_goto (tgt := 131) hx hb dX0_planeClass_114 (by decide) ?_
        have hf := Option.some.inj hf
        subst hf
        rw [eG0] at hG
        have hG : _ = res := hG
        subst hG
        exact W.iret (v := (9 : Int32)) hx hb hr (fun t ht hW => ⟨⟨(9 : Int32), (), rfl, rfl, by rw [ht]; exact hP, hD⟩, hS.F ht⟩) hS.2.2 dX0_planeClass_131
    replace hf := ds_f c_21_4 hf
    by_cases c_21_5 : q18 = 5
    · replace hf := ds_t c_21_5 hf
      refine lv_tableIn (off := 123) (tgt := 144) hx hb dX0_planeClass_21 (by rw [c_21_5]; decide) (by rw [c_21_5]; decide) (by rw [c_21_5]; decide) (by decide) ?_
      exact h1 (J_144 s0 q14.1 q14.2.1 q14.2.2.1 q14.2.2.2.1 q14.2.2.2.2 _ hf hG _ _ hP hD hS _ (lv_sub hl [1, 0] rfl))
    replace hf := ds_f c_21_5 hf
    by_cases c_21_6 : q18 = 6
    · replace hf := ds_t c_21_6 hf
      refine lv_tableIn (off := 111) (tgt := 132) hx hb dX0_planeClass_21 (by rw [c_21_6]; decide) (by rw [c_21_6]; decide) (by rw [c_21_6]; decide) (by decide) ?_
      refine lv_iload_n hx hb dX0_planeClass_132 rfl (lv_at hl 0 rfl) ?_
      refine lv_if_eq (tgt := 141) hx hb dX0_planeClass_133 (by decide) (fun c_133 => ?_) (fun c_133 => ?_)
      · replace hf := ds_t c_133 hf
        refine lv_bipush (v := 16) hx hb dX0_planeClass_141 (by decide) ?_
        have hf := Option.some.inj hf
        subst hf
        rw [eG0] at hG
        have hG : _ = res := hG
        subst hG
        exact W.iret (v := (16 : Int32)) hx hb hr (fun t ht hW => ⟨⟨(16 : Int32), (), rfl, rfl, by rw [ht]; exact hP, hD⟩, hS.F ht⟩) hS.2.2 dX0_planeClass_143
      · replace hf := ds_f c_133 hf
        refine lv_bipush (v := 15) hx hb dX0_planeClass_136 (by decide) ?_
        refine lv_goto (tgt := 143) hx hb dX0_planeClass_138 (by decide) ?_
        have hf := Option.some.inj hf
        subst hf
        rw [eG0] at hG
        have hG : _ = res := hG
        subst hG
        exact W.iret (v := (15 : Int32)) hx hb hr (fun t ht hW => ⟨⟨(15 : Int32), (), rfl, rfl, by rw [ht]; exact hP, hD⟩, hS.F ht⟩) hS.2.2 dX0_planeClass_143
    replace hf := ds_f c_21_6 hf
    have n_21_2 := ds_toInt_ne c_21_2
    have n_21_3 := ds_toInt_ne c_21_3
    have n_21_4 := ds_toInt_ne c_21_4
    have n_21_5 := ds_toInt_ne c_21_5
    have n_21_6 := ds_toInt_ne c_21_6
    refine lv_tableOut (tgt := 144) hx hb dX0_planeClass_21 (by rw [show (2 : Int32).toInt = 2 by decide] at n_21_2; rw [show (3 : Int32).toInt = 3 by decide] at n_21_3; rw [show (4 : Int32).toInt = 4 by decide] at n_21_4; rw [show (5 : Int32).toInt = 5 by decide] at n_21_5; rw [show (6 : Int32).toInt = 6 by decide] at n_21_6; omega) (by decide) ?_
    exact h1 (J_144 s0 q14.1 q14.2.1 q14.2.2.1 q14.2.2.2.1 q14.2.2.2.2 _ hf hG _ _ hP hD hS _ (lv_sub hl [1, 0] rfl))
  unfold fX0_planeClass at hf
  refine lv_aload_n hx hb dX0_planeClass_0 rfl (lv_at hl 0 rfl) ?_
  obtain ⟨q1, hq1, hf⟩ := ds_ob hf
  refine ds_calli (wr := []) (va_runV (As := []) (rest := []) ⟨hx, hb, hml, hown, hts⟩ (c_X0_flips l dC dI ca sa h_o h_o_seen h_o_turned h_o_found s.heap.size o_looked o_stepsFound o_firstX o_firstY o_secondX o_secondY o_seen_wide o_seen_high o_seen_hex o_seen_ones o_seen_twos o_found_r  q1 hq1) (cwV 0 hts (ds_gV kw_244 kw_245 kw_246 kw_154 kw_247) rfl rfl rfl (by decide +kernel) ⟨Nat.le_of_ble_eq_true rfl, Nat.le_of_ble_eq_true rfl⟩) ⟨ds_blind, va_recv hK hP (ci := 0) (q0 := 0) rfl rfl, ds_at hP hD hK hE hS hA [0, 1, 2] rfl rfl _⟩ rfl rfl hl.1 rfl (lv_room (Nat.le_of_ble_eq_true rfl)) dX0_planeClass_1 ⟨Nat.zero_le _, Nat.zero_le _⟩) hP hD hS hA [0, 1, 2] [] rfl rfl rfl (by decide) (fun H locs hP hD hS => ?_)
  have hP : va_P (dC, dI) vwCl [(h_o, .inr (0, [.ref h_o_seen, .ref h_o_turned, .ref h_o_found, .int o_looked, .int o_stepsFound, .int o_firstX, .int o_firstY, .int o_secondX, .int o_secondY])), (h_o_seen, .inr (5, [.int o_seen_wide, .int o_seen_high, .int o_seen_hex, .long o_seen_ones, .long o_seen_twos])), (h_o_found, .inl (ca 1, 12, .inr (.inl o_found_r)))] H := hP
  have hD : va_D A [(h_o, .inr (0, [.ref h_o_seen, .ref h_o_turned, .ref h_o_found, .int o_looked, .int o_stepsFound, .int o_firstX, .int o_firstY, .int o_secondX, .int o_secondY])), (h_o_seen, .inr (5, [.int o_seen_wide, .int o_seen_high, .int o_seen_hex, .long o_seen_ones, .long o_seen_twos])), (h_o_found, .inl (ca 1, 12, .inr (.inl o_found_r)))] := hD
  refine lv_if_ne (tgt := 11) hx hb dX0_planeClass_4 (by decide) (fun c_4 => ?_) (fun c_4 => ?_)
  · replace hf := ds_f c_4 hf
    refine lv_iconst (v := 0) hx hb dX0_planeClass_11 (by decide) ?_
    exact h1 (J_12 (0 : Int32) o_stepsFound o_firstX o_firstY o_secondX o_secondY _ hf hG _ _ hP hD hS _ (lv_sub hl [0] rfl))
  · replace hf := ds_t c_4 hf
    refine lv_iconst (v := 1) hx hb dX0_planeClass_7 (by decide) ?_
    refine lv_goto (tgt := 12) hx hb dX0_planeClass_8 (by decide) ?_
    exact h1 (J_12 (1 : Int32) o_stepsFound o_firstX o_firstY o_secondX o_secondY _ hf hG _ _ hP hD hS _ (lv_sub hl [0] rfl))
theorem dX0_leavesPoint_0 : decode cX0_leavesPoint 0 = .ok (.iload_n 2, 1) := by decide +kernel
theorem dX0_leavesPoint_1 : decode cX0_leavesPoint 1 = .ok (.aload_n 0, 1) := by decide +kernel
theorem dX0_leavesPoint_2 : decode cX0_leavesPoint 2 = .ok (.getfield 12, 3) := by decide +kernel
theorem dX0_leavesPoint_5 : decode cX0_leavesPoint 5 = .ok (.getfield 39, 3) := by decide +kernel
theorem dX0_leavesPoint_8 : decode cX0_leavesPoint 8 = .ok (.iload_n 1, 1) := by decide +kernel
theorem dX0_leavesPoint_9 : decode cX0_leavesPoint 9 = .ok (.iload_n 2, 1) := by decide +kernel
theorem dX0_leavesPoint_10 : decode cX0_leavesPoint 10 = .ok (.iload_n 3, 1) := by decide +kernel
theorem dX0_leavesPoint_11 : decode cX0_leavesPoint 11 = .ok (.invokestatic 139, 3) := by decide +kernel
theorem dX0_leavesPoint_14 : decode cX0_leavesPoint 14 = .ok (.isub, 1) := by decide +kernel
theorem dX0_leavesPoint_15 : decode cX0_leavesPoint 15 = .ok (.istore 4, 2) := by decide +kernel
theorem dX0_leavesPoint_17 : decode cX0_leavesPoint 17 = .ok (.iload_n 3, 1) := by decide +kernel
theorem dX0_leavesPoint_18 : decode cX0_leavesPoint 18 = .ok (.aload_n 0, 1) := by decide +kernel
theorem dX0_leavesPoint_19 : decode cX0_leavesPoint 19 = .ok (.getfield 12, 3) := by decide +kernel
theorem dX0_leavesPoint_22 : decode cX0_leavesPoint 22 = .ok (.getfield 39, 3) := by decide +kernel
theorem dX0_leavesPoint_25 : decode cX0_leavesPoint 25 = .ok (.iload_n 1, 1) := by decide +kernel
theorem dX0_leavesPoint_26 : decode cX0_leavesPoint 26 = .ok (.iload_n 2, 1) := by decide +kernel
theorem dX0_leavesPoint_27 : decode cX0_leavesPoint 27 = .ok (.iload_n 3, 1) := by decide +kernel
theorem dX0_leavesPoint_28 : decode cX0_leavesPoint 28 = .ok (.invokestatic 143, 3) := by decide +kernel
theorem dX0_leavesPoint_31 : decode cX0_leavesPoint 31 = .ok (.isub, 1) := by decide +kernel
theorem dX0_leavesPoint_32 : decode cX0_leavesPoint 32 = .ok (.istore 5, 2) := by decide +kernel
theorem dX0_leavesPoint_34 : decode cX0_leavesPoint 34 = .ok (.iload 4, 2) := by decide +kernel
theorem dX0_leavesPoint_36 : decode cX0_leavesPoint 36 = .ok (.bipush 6, 2) := by decide +kernel
theorem dX0_leavesPoint_38 : decode cX0_leavesPoint 38 = .ok (.irem, 1) := by decide +kernel
theorem dX0_leavesPoint_39 : decode cX0_leavesPoint 39 = .ok (.ifCond .ne 33, 3) := by decide +kernel
theorem dX0_leavesPoint_42 : decode cX0_leavesPoint 42 = .ok (.iload 5, 2) := by decide +kernel
theorem dX0_leavesPoint_44 : decode cX0_leavesPoint 44 = .ok (.bipush 6, 2) := by decide +kernel
theorem dX0_leavesPoint_46 : decode cX0_leavesPoint 46 = .ok (.irem, 1) := by decide +kernel
theorem dX0_leavesPoint_47 : decode cX0_leavesPoint 47 = .ok (.ifCond .ne 25, 3) := by decide +kernel
theorem dX0_leavesPoint_50 : decode cX0_leavesPoint 50 = .ok (.aload_n 0, 1) := by decide +kernel
theorem dX0_leavesPoint_51 : decode cX0_leavesPoint 51 = .ok (.iload_n 1, 1) := by decide +kernel
theorem dX0_leavesPoint_52 : decode cX0_leavesPoint 52 = .ok (.iload 4, 2) := by decide +kernel
theorem dX0_leavesPoint_54 : decode cX0_leavesPoint 54 = .ok (.bipush 6, 2) := by decide +kernel
theorem dX0_leavesPoint_56 : decode cX0_leavesPoint 56 = .ok (.idiv, 1) := by decide +kernel
theorem dX0_leavesPoint_57 : decode cX0_leavesPoint 57 = .ok (.iload 5, 2) := by decide +kernel
theorem dX0_leavesPoint_59 : decode cX0_leavesPoint 59 = .ok (.bipush 6, 2) := by decide +kernel
theorem dX0_leavesPoint_61 : decode cX0_leavesPoint 61 = .ok (.idiv, 1) := by decide +kernel
theorem dX0_leavesPoint_62 : decode cX0_leavesPoint 62 = .ok (.invokevirtual 119, 3) := by decide +kernel
theorem dX0_leavesPoint_65 : decode cX0_leavesPoint 65 = .ok (.ifCond .eq 7, 3) := by decide +kernel
theorem dX0_leavesPoint_68 : decode cX0_leavesPoint 68 = .ok (.iconst 1, 1) := by decide +kernel
theorem dX0_leavesPoint_69 : decode cX0_leavesPoint 69 = .ok (.goto 4, 3) := by decide +kernel
theorem dX0_leavesPoint_72 : decode cX0_leavesPoint 72 = .ok (.iconst 0, 1) := by decide +kernel
theorem dX0_leavesPoint_73 : decode cX0_leavesPoint 73 = .ok (.ireturn, 1) := by decide +kernel
def fX0_leavesPoint (o_seen_wide : Int32) (o_seen_high : Int32) (o_seen_hex : Int32) (o_found_r : Nat → Int64) (p1 : Int32) (p2 : Int32) (p3 : Int32) : Option (Int32) :=
  Option.bind (fX1_turnedX o_seen_hex p1 p2 p3) fun q11 => Option.bind (fX1_turnedY o_seen_hex p1 p2 p3) fun q28 => if (ds_rem (p2 - q11) (6 : Int32)) = 0 then if (ds_rem (p3 - q28) (6 : Int32)) = 0 then Option.bind (fX0_hasSymmetry o_found_r o_seen_wide o_seen_high p1 ((p2 - q11) / (6 : Int32)) ((p3 - q28) / (6 : Int32))) fun q62 => if q62 = 0 then some (0 : Int32) else some (1 : Int32) else some (0 : Int32) else some (0 : Int32)
set_option maxHeartbeats 4000000 in
set_option maxRecDepth 100000 in
theorem c_X0_leavesPoint (l : Launch) (dC : Nat → ClassId) (dI : Nat → Nat → Nat) (ca : Nat → ClassId) (sa : Nat → Nat) (h_o : Nat) (h_o_seen : Nat) (h_o_turned : Nat) (h_o_found : Nat) (sz : Nat) (o_looked : Int32) (o_stepsFound : Int32) (o_firstX : Int32) (o_firstY : Int32) (o_secondX : Int32) (o_secondY : Int32) (o_seen_wide : Int32) (o_seen_high : Int32) (o_seen_hex : Int32) (o_seen_ones : Int64) (o_seen_twos : Int64) (o_found_r : Nat → Int64) (p1 : Int32) (p2 : Int32) (p3 : Int32) (res : Int32) (hf : fX0_leavesPoint o_seen_wide o_seen_high o_seen_hex o_found_r p1 p2 p3 = some res) : Met l yX0_leavesPoint (Cond.code yX0_leavesPoint cX0_leavesPoint 6 (some .boolean) :: ds_gw) { frames := 3, cells := 0, slots := 0, locals := 67 } (va_Pc [.ref h_o, .int p1, .int p2, .int p3] (ds_Pre dC dI ca sa [(h_o, .inr (0, [.ref h_o_seen, .ref h_o_turned, .ref h_o_found, .int o_looked, .int o_stepsFound, .int o_firstX, .int o_firstY, .int o_secondX, .int o_secondY])), (h_o_seen, .inr (5, [.int o_seen_wide, .int o_seen_high, .int o_seen_hex, .long o_seen_ones, .long o_seen_twos])), (h_o_found, .inl (ca 1, 12, .inr (.inl o_found_r)))] sz)) (va_Qi (fun r (_ : Unit) => r = res) (ds_B dC dI (va_A [(h_o, .inr (0, [.ref h_o_seen, .ref h_o_turned, .ref h_o_found, .int o_looked, .int o_stepsFound, .int o_firstX, .int o_firstY, .int o_secondX, .int o_secondY])), (h_o_seen, .inr (5, [.int o_seen_wide, .int o_seen_high, .int o_seen_hex, .long o_seen_ones, .long o_seen_twos])), (h_o_found, .inl (ca 1, 12, .inr (.inl o_found_r)))] sz) [(h_o, .inr (0, [.ref h_o_seen, .ref h_o_turned, .ref h_o_found, .int o_looked, .int o_stepsFound, .int o_firstX, .int o_firstY, .int o_secondX, .int o_secondY])), (h_o_seen, .inr (5, [.int o_seen_wide, .int o_seen_high, .int o_seen_hex, .long o_seen_ones, .long o_seen_twos])), (h_o_found, .inl (ca 1, 12, .inr (.inl o_found_r)))]) (va_A [(h_o, .inr (0, [.ref h_o_seen, .ref h_o_turned, .ref h_o_found, .int o_looked, .int o_stepsFound, .int o_firstX, .int o_firstY, .int o_secondX, .int o_secondY])), (h_o_seen, .inr (5, [.int o_seen_wide, .int o_seen_high, .int o_seen_hex, .long o_seen_ones, .long o_seen_twos])), (h_o_found, .inl (ca 1, 12, .inr (.inl o_found_r)))] sz)) 0 0 (va_A [(h_o, .inr (0, [.ref h_o_seen, .ref h_o_turned, .ref h_o_found, .int o_looked, .int o_stepsFound, .int o_firstX, .int o_firstY, .int o_secondX, .int o_secondY])), (h_o_seen, .inr (5, [.int o_seen_wide, .int o_seen_high, .int o_seen_hex, .long o_seen_ones, .long o_seen_twos])), (h_o_found, .inl (ca 1, 12, .inr (.inl o_found_r)))] sz) := by
  refine Met.ofW (cc := cX0_leavesPoint) (maxL := 6) (ret := (some .boolean)) (by decide) rfl ?_
  intro p e s m args below meth c s₁ B hml hv
  obtain ⟨rfl, hsz, hP, hK, hD0, hE⟩ := hv
  have hx := B.exec
  have hb := B.bytes
  have hr := B.returns
  have hts := atoms_spec (ws := Cond.code yX0_leavesPoint cX0_leavesPoint 6 (some .boolean) :: ds_gw) B.pre
  have hg : ∀ {w : Cond}, w ∈ ds_gw → w.before _ s = true := fun h => hts _ (List.mem_cons_of_mem _ h)
  have hown : s.vm.findClass RX0 = some m.cls := findClass_of_methodNamed B.named
  have hlocks := B.notSynchronized
  subst hsz
  have hD := hD0.self (sz := s.heap.size)
  generalize hAe : va_A [(h_o, .inr (0, [.ref h_o_seen, .ref h_o_turned, .ref h_o_found, .int o_looked, .int o_stepsFound, .int o_firstX, .int o_firstY, .int o_secondX, .int o_secondY])), (h_o_seen, .inr (5, [.int o_seen_wide, .int o_seen_high, .int o_seen_hex, .long o_seen_ones, .long o_seen_twos])), (h_o_found, .inl (ca 1, 12, .inr (.inl o_found_r)))] s.heap.size = A at hD hE ⊢
  have hA : ∀ q : Nat, s.heap.size ≤ q → A q := fun q h => by rw [← hAe]; exact Or.inr h
  have hS : va_S A s.heap s.heap [] := va_S.rf
  have hl := lv_entry ([.ref h_o, .int p1, .int p2, .int p3]) (n := 6) (Nat.le_of_ble_eq_true rfl)
  rw [lg_entry_eq]
  generalize (lg_sl ([.ref h_o, .int p1, .int p2, .int p3]) ++ List.replicate (6 - (lg_sl ([.ref h_o, .int p1, .int p2, .int p3])).length) Slot.unset).toArray = ls at hl ⊢
  have hl : lv_has ls 6 [(0, .ref h_o), (1, .int p1), (2, .int p2), (3, .int p3)] := hl
  obtain ⟨G0, eG0⟩ : ∃ G : Int32 → Prop, G = (fun r => r = res) := ⟨_, rfl⟩
  obtain ⟨rr, hrr⟩ : ∃ z, z = res := ⟨_, rfl⟩
  rw [← hrr] at hf
  have hG : G0 rr := by subst eG0; exact hrr
  unfold fX0_leavesPoint at hf
  refine lv_iload_n hx hb dX0_leavesPoint_0 rfl (lv_at hl 2 rfl) ?_
  refine lv_aload_n hx hb dX0_leavesPoint_1 rfl (lv_at hl 0 rfl) ?_
  refine va_get (D := (dC, dI)) (ci := 0) (v := .ref h_o_seen) (C := RX0) (T := TX0) (N := 9) hx hb hts (fun w h => List.mem_cons_of_mem _ (kc_X0 w h)) hown hK hP 0 rfl rfl 0 (by decide) (hg kw_129) (fun _ h9 => h9) rfl dX0_leavesPoint_2 ?_
  refine va_getN (D := (dC, dI)) (ci := 5) (v := .int o_seen_hex) (C := RX6) (T := TX6) (N := 5) hx hb hts (fun w h => List.mem_cons_of_mem _ (kc_X6 w h)) hown hK hP 1 rfl rfl 2 (by decide) (va_Nw.use rfl (hE.1 _ kw_135)) (fun _ h9 => h9) rfl dX0_leavesPoint_5 ?_
  refine lv_iload_n hx hb dX0_leavesPoint_8 rfl (lv_at hl 1 rfl) ?_
  refine lv_iload_n hx hb dX0_leavesPoint_9 rfl (lv_at hl 2 rfl) ?_
  refine lv_iload_n hx hb dX0_leavesPoint_10 rfl (lv_at hl 3 rfl) ?_
  obtain ⟨q11, hq11, hf⟩ := ds_ob hf
  refine ds_calli (wr := [(h_o, .inr (0, [.ref h_o_seen, .ref h_o_turned, .ref h_o_found, .int o_looked, .int o_stepsFound, .int o_firstX, .int o_firstY, .int o_secondX, .int o_secondY])), (h_o_seen, .inr (5, [.int o_seen_wide, .int o_seen_high, .int o_seen_hex, .long o_seen_ones, .long o_seen_twos])), (h_o_found, .inl (ca 1, 12, .inr (.inl o_found_r)))]) (va_runS (As := [.int o_seen_hex, .int p1, .int p2, .int p3]) (rest := [.int p2]) ⟨hx, hb, hml, hown, hts⟩ (c_X1_turnedX l dC dI ca sa  s.heap.size  o_seen_hex p1 p2 p3 q11 hq11) (va_cwS 4 hts (ds_gS kw_210 kw_93 kw_2 kw_94) rfl rfl rfl (by decide +kernel) ⟨Nat.le_of_ble_eq_true rfl, Nat.le_of_ble_eq_true rfl⟩) ⟨ds_blind, ds_at hP hD hK hE hS hA [] rfl rfl _⟩ rfl rfl hl.1 rfl (lv_room (Nat.le_of_ble_eq_true rfl)) dX0_leavesPoint_11 ⟨Nat.zero_le _, Nat.zero_le _⟩) hP hD hS hA [] [0, 1, 2] rfl rfl rfl (by decide) (fun H locs hP hD hS => ?_)
  have hP : va_P (dC, dI) vwCl [(h_o, .inr (0, [.ref h_o_seen, .ref h_o_turned, .ref h_o_found, .int o_looked, .int o_stepsFound, .int o_firstX, .int o_firstY, .int o_secondX, .int o_secondY])), (h_o_seen, .inr (5, [.int o_seen_wide, .int o_seen_high, .int o_seen_hex, .long o_seen_ones, .long o_seen_twos])), (h_o_found, .inl (ca 1, 12, .inr (.inl o_found_r)))] H := hP
  have hD : va_D A [(h_o, .inr (0, [.ref h_o_seen, .ref h_o_turned, .ref h_o_found, .int o_looked, .int o_stepsFound, .int o_firstX, .int o_firstY, .int o_secondX, .int o_secondY])), (h_o_seen, .inr (5, [.int o_seen_wide, .int o_seen_high, .int o_seen_hex, .long o_seen_ones, .long o_seen_twos])), (h_o_found, .inl (ca 1, 12, .inr (.inl o_found_r)))] := hD
  refine lv_isub hx hb dX0_leavesPoint_14 ?_
  refine lv_istore (lv' := [(4, .int (p2 - q11)), (0, .ref h_o), (1, .int p1), (2, .int p2), (3, .int p3)]) hx hb dX0_leavesPoint_15 hl (by decide) rfl (fun ls hl => ?_)
  refine lv_iload_n hx hb dX0_leavesPoint_17 rfl (lv_at hl 4 rfl) ?_
  refine lv_aload_n hx hb dX0_leavesPoint_18 rfl (lv_at hl 1 rfl) ?_
  refine va_get (D := (dC, dI)) (ci := 0) (v := .ref h_o_seen) (C := RX0) (T := TX0) (N := 9) hx hb hts (fun w h => List.mem_cons_of_mem _ (kc_X0 w h)) hown hK hP 0 rfl rfl 0 (by decide) (hg kw_129) (fun _ h9 => h9) rfl dX0_leavesPoint_19 ?_
  refine va_getN (D := (dC, dI)) (ci := 5) (v := .int o_seen_hex) (C := RX6) (T := TX6) (N := 5) hx hb hts (fun w h => List.mem_cons_of_mem _ (kc_X6 w h)) hown hK hP 1 rfl rfl 2 (by decide) (va_Nw.use rfl (hE.1 _ kw_135)) (fun _ h9 => h9) rfl dX0_leavesPoint_22 ?_
  refine lv_iload_n hx hb dX0_leavesPoint_25 rfl (lv_at hl 2 rfl) ?_
  refine lv_iload_n hx hb dX0_leavesPoint_26 rfl (lv_at hl 3 rfl) ?_
  refine lv_iload_n hx hb dX0_leavesPoint_27 rfl (lv_at hl 4 rfl) ?_
  obtain ⟨q28, hq28, hf⟩ := ds_ob hf
  refine ds_calli (wr := [(h_o, .inr (0, [.ref h_o_seen, .ref h_o_turned, .ref h_o_found, .int o_looked, .int o_stepsFound, .int o_firstX, .int o_firstY, .int o_secondX, .int o_secondY])), (h_o_seen, .inr (5, [.int o_seen_wide, .int o_seen_high, .int o_seen_hex, .long o_seen_ones, .long o_seen_twos])), (h_o_found, .inl (ca 1, 12, .inr (.inl o_found_r)))]) (va_runS (As := [.int o_seen_hex, .int p1, .int p2, .int p3]) (rest := [.int p3]) ⟨hx, hb, hml, hown, hts⟩ (c_X1_turnedY l dC dI ca sa  H.size  o_seen_hex p1 p2 p3 q28 hq28) (va_cwS 4 hts (ds_gS kw_211 kw_96 kw_2 kw_97) rfl rfl rfl (by decide +kernel) ⟨Nat.le_of_ble_eq_true rfl, Nat.le_of_ble_eq_true rfl⟩) ⟨ds_blind, ds_at hP hD hK hE hS hA [] rfl rfl _⟩ rfl rfl hl.1 rfl (lv_room (Nat.le_of_ble_eq_true rfl)) dX0_leavesPoint_28 ⟨Nat.zero_le _, Nat.zero_le _⟩) hP hD hS hA [] [0, 1, 2] rfl rfl rfl (by decide) (fun H locs hP hD hS => ?_)
  have hP : va_P (dC, dI) vwCl [(h_o, .inr (0, [.ref h_o_seen, .ref h_o_turned, .ref h_o_found, .int o_looked, .int o_stepsFound, .int o_firstX, .int o_firstY, .int o_secondX, .int o_secondY])), (h_o_seen, .inr (5, [.int o_seen_wide, .int o_seen_high, .int o_seen_hex, .long o_seen_ones, .long o_seen_twos])), (h_o_found, .inl (ca 1, 12, .inr (.inl o_found_r)))] H := hP
  have hD : va_D A [(h_o, .inr (0, [.ref h_o_seen, .ref h_o_turned, .ref h_o_found, .int o_looked, .int o_stepsFound, .int o_firstX, .int o_firstY, .int o_secondX, .int o_secondY])), (h_o_seen, .inr (5, [.int o_seen_wide, .int o_seen_high, .int o_seen_hex, .long o_seen_ones, .long o_seen_twos])), (h_o_found, .inl (ca 1, 12, .inr (.inl o_found_r)))] := hD
  refine lv_isub hx hb dX0_leavesPoint_31 ?_
  refine lv_istore (lv' := [(5, .int (p3 - q28)), (4, .int (p2 - q11)), (0, .ref h_o), (1, .int p1), (2, .int p2), (3, .int p3)]) hx hb dX0_leavesPoint_32 hl (by decide) rfl (fun ls hl => ?_)
  refine lv_iload hx hb dX0_leavesPoint_34 (lv_at hl 1 rfl) ?_
  refine lv_bipush (v := 6) hx hb dX0_leavesPoint_36 (by decide) ?_
  refine lv_irem hx hb dX0_leavesPoint_38 (by decide) ?_
  refine lv_if_ne (tgt := 72) hx hb dX0_leavesPoint_39 (by decide) (fun c_39 => ?_) (fun c_39 => ?_)
  · replace hf := ds_f c_39 hf
    refine lv_iconst (v := 0) hx hb dX0_leavesPoint_72 (by decide) ?_
    have hf := Option.some.inj hf
    subst hf
    rw [eG0] at hG
    have hG : _ = res := hG
    subst hG
    exact W.zret (v := (0 : Int32)) (ty := .boolean) hx hb hr rfl (fun t ht hW => ⟨⟨(0 : Int32), (), rfl, rfl, by rw [ht]; exact hP, hD⟩, hS.F ht⟩) hS.2.2 dX0_leavesPoint_73
  · replace hf := ds_t c_39 hf
    refine lv_iload hx hb dX0_leavesPoint_42 (lv_at hl 0 rfl) ?_
    refine lv_bipush (v := 6) hx hb dX0_leavesPoint_44 (by decide) ?_
    refine lv_irem hx hb dX0_leavesPoint_46 (by decide) ?_
    refine lv_if_ne (tgt := 72) hx hb dX0_leavesPoint_47 (by decide) (fun c_47 => ?_) (fun c_47 => ?_)
    · replace hf := ds_f c_47 hf
      refine lv_iconst (v := 0) hx hb dX0_leavesPoint_72 (by decide) ?_
      have hf := Option.some.inj hf
      subst hf
      rw [eG0] at hG
      have hG : _ = res := hG
      subst hG
      exact W.zret (v := (0 : Int32)) (ty := .boolean) hx hb hr rfl (fun t ht hW => ⟨⟨(0 : Int32), (), rfl, rfl, by rw [ht]; exact hP, hD⟩, hS.F ht⟩) hS.2.2 dX0_leavesPoint_73
    · replace hf := ds_t c_47 hf
      refine lv_aload_n hx hb dX0_leavesPoint_50 rfl (lv_at hl 2 rfl) ?_
      refine lv_iload_n hx hb dX0_leavesPoint_51 rfl (lv_at hl 3 rfl) ?_
      refine lv_iload hx hb dX0_leavesPoint_52 (lv_at hl 1 rfl) ?_
      refine lv_bipush (v := 6) hx hb dX0_leavesPoint_54 (by decide) ?_
      refine lv_idiv hx hb dX0_leavesPoint_56 (by decide) ?_
      refine lv_iload hx hb dX0_leavesPoint_57 (lv_at hl 0 rfl) ?_
      refine lv_bipush (v := 6) hx hb dX0_leavesPoint_59 (by decide) ?_
      refine lv_idiv hx hb dX0_leavesPoint_61 (by decide) ?_
      obtain ⟨q62, hq62, hf⟩ := ds_ob hf
      refine ds_calli (wr := []) (va_runV (As := [.int p1, .int ((p2 - q11) / (6 : Int32)), .int ((p3 - q28) / (6 : Int32))]) (rest := []) ⟨hx, hb, hml, hown, hts⟩ (c_X0_hasSymmetry l dC dI ca sa h_o h_o_seen h_o_turned h_o_found H.size o_looked o_stepsFound o_firstX o_firstY o_secondX o_secondY o_found_r o_seen_wide o_seen_high o_seen_hex o_seen_ones o_seen_twos p1 ((p2 - q11) / (6 : Int32)) ((p3 - q28) / (6 : Int32)) q62 hq62) (cwV 3 hts (ds_gV kw_181 kw_182 kw_183 kw_154 kw_184) rfl rfl rfl (by decide +kernel) ⟨Nat.le_of_ble_eq_true rfl, Nat.le_of_ble_eq_true rfl⟩) ⟨ds_blind, va_recv hK hP (ci := 0) (q0 := 0) rfl rfl, ds_at hP hD hK hE hS hA [0, 2, 1] rfl rfl _⟩ rfl rfl hl.1 rfl (lv_room (Nat.le_of_ble_eq_true rfl)) dX0_leavesPoint_62 ⟨Nat.zero_le _, Nat.zero_le _⟩) hP hD hS hA [0, 2, 1] [] rfl rfl rfl (by decide) (fun H locs hP hD hS => ?_)
      have hP : va_P (dC, dI) vwCl [(h_o, .inr (0, [.ref h_o_seen, .ref h_o_turned, .ref h_o_found, .int o_looked, .int o_stepsFound, .int o_firstX, .int o_firstY, .int o_secondX, .int o_secondY])), (h_o_found, .inl (ca 1, 12, .inr (.inl o_found_r))), (h_o_seen, .inr (5, [.int o_seen_wide, .int o_seen_high, .int o_seen_hex, .long o_seen_ones, .long o_seen_twos]))] H := hP
      have hD : va_D A [(h_o, .inr (0, [.ref h_o_seen, .ref h_o_turned, .ref h_o_found, .int o_looked, .int o_stepsFound, .int o_firstX, .int o_firstY, .int o_secondX, .int o_secondY])), (h_o_found, .inl (ca 1, 12, .inr (.inl o_found_r))), (h_o_seen, .inr (5, [.int o_seen_wide, .int o_seen_high, .int o_seen_hex, .long o_seen_ones, .long o_seen_twos]))] := hD
      refine lv_if_eq (tgt := 72) hx hb dX0_leavesPoint_65 (by decide) (fun c_65 => ?_) (fun c_65 => ?_)
      · replace hf := ds_t c_65 hf
        refine lv_iconst (v := 0) hx hb dX0_leavesPoint_72 (by decide) ?_
        have hf := Option.some.inj hf
        subst hf
        rw [eG0] at hG
        have hG : _ = res := hG
        subst hG
        exact W.zret (v := (0 : Int32)) (ty := .boolean) hx hb hr rfl (fun t ht hW => ⟨⟨(0 : Int32), (), rfl, rfl, by rw [ht]; exact (hP.sub [0, 2, 1] rfl), (hD.sub [0, 2, 1] rfl rfl)⟩, hS.F ht⟩) hS.2.2 dX0_leavesPoint_73
      · replace hf := ds_f c_65 hf
        refine lv_iconst (v := 1) hx hb dX0_leavesPoint_68 (by decide) ?_
        refine lv_goto (tgt := 73) hx hb dX0_leavesPoint_69 (by decide) ?_
        have hf := Option.some.inj hf
        subst hf
        rw [eG0] at hG
        have hG : _ = res := hG
        subst hG
        exact W.zret (v := (1 : Int32)) (ty := .boolean) hx hb hr rfl (fun t ht hW => ⟨⟨(1 : Int32), (), rfl, rfl, by rw [ht]; exact (hP.sub [0, 2, 1] rfl), (hD.sub [0, 2, 1] rfl rfl)⟩, hS.F ht⟩) hS.2.2 dX0_leavesPoint_73
theorem dX0_turnsAt_0 : decode cX0_turnsAt 0 = .ok (.iconst 0, 1) := by decide +kernel
theorem dX0_turnsAt_1 : decode cX0_turnsAt 1 = .ok (.istore_n 3, 1) := by decide +kernel
theorem dX0_turnsAt_2 : decode cX0_turnsAt 2 = .ok (.iconst 0, 1) := by decide +kernel
theorem dX0_turnsAt_3 : decode cX0_turnsAt 3 = .ok (.istore 4, 2) := by decide +kernel
theorem dX0_turnsAt_5 : decode cX0_turnsAt 5 = .ok (.iload 4, 2) := by decide +kernel
theorem dX0_turnsAt_7 : decode cX0_turnsAt 7 = .ok (.aload_n 0, 1) := by decide +kernel
theorem dX0_turnsAt_8 : decode cX0_turnsAt 8 = .ok (.getfield 12, 3) := by decide +kernel
theorem dX0_turnsAt_11 : decode cX0_turnsAt 11 = .ok (.getfield 39, 3) := by decide +kernel
theorem dX0_turnsAt_14 : decode cX0_turnsAt 14 = .ok (.invokestatic 85, 3) := by decide +kernel
theorem dX0_turnsAt_17 : decode cX0_turnsAt 17 = .ok (.if_icmp .ge 34, 3) := by decide +kernel
theorem dX0_turnsAt_20 : decode cX0_turnsAt 20 = .ok (.aload_n 0, 1) := by decide +kernel
theorem dX0_turnsAt_21 : decode cX0_turnsAt 21 = .ok (.iload 4, 2) := by decide +kernel
theorem dX0_turnsAt_23 : decode cX0_turnsAt 23 = .ok (.invokevirtual 57, 3) := by decide +kernel
theorem dX0_turnsAt_26 : decode cX0_turnsAt 26 = .ok (.lconst 0, 1) := by decide +kernel
theorem dX0_turnsAt_27 : decode cX0_turnsAt 27 = .ok (.lcmp, 1) := by decide +kernel
theorem dX0_turnsAt_28 : decode cX0_turnsAt 28 = .ok (.ifCond .eq 17, 3) := by decide +kernel
theorem dX0_turnsAt_31 : decode cX0_turnsAt 31 = .ok (.aload_n 0, 1) := by decide +kernel
theorem dX0_turnsAt_32 : decode cX0_turnsAt 32 = .ok (.iload 4, 2) := by decide +kernel
theorem dX0_turnsAt_34 : decode cX0_turnsAt 34 = .ok (.iload_n 1, 1) := by decide +kernel
theorem dX0_turnsAt_35 : decode cX0_turnsAt 35 = .ok (.iload_n 2, 1) := by decide +kernel
theorem dX0_turnsAt_36 : decode cX0_turnsAt 36 = .ok (.invokevirtual 174, 3) := by decide +kernel
theorem dX0_turnsAt_39 : decode cX0_turnsAt 39 = .ok (.ifCond .eq 6, 3) := by decide +kernel
theorem dX0_turnsAt_42 : decode cX0_turnsAt 42 = .ok (.iinc 3 1, 3) := by decide +kernel
theorem dX0_turnsAt_45 : decode cX0_turnsAt 45 = .ok (.iinc 4 1, 3) := by decide +kernel
theorem dX0_turnsAt_48 : decode cX0_turnsAt 48 = .ok (.goto (-43), 3) := by decide +kernel
theorem dX0_turnsAt_51 : decode cX0_turnsAt 51 = .ok (.iload_n 3, 1) := by decide +kernel
theorem dX0_turnsAt_52 : decode cX0_turnsAt 52 = .ok (.ireturn, 1) := by decide +kernel
def fX0_turnsAt_45 (v3 : Int32) (v4 : Int32) : Option ((Int32 × Int32) ⊕ (Int32)) :=
  some (.inl (v3, (v4 + 1)))
def fX0_turnsAt_5_b (o_seen_wide : Int32) (o_seen_high : Int32) (o_seen_hex : Int32) (o_found_r : Nat → Int64) (p1 : Int32) (p2 : Int32) (v3 : Int32) (v4 : Int32) : Option ((Int32 × Int32) ⊕ (Int32)) :=
  Option.bind (fX1_turns o_seen_hex) fun q14 => if q14 ≤ v4 then some (.inr v3) else Option.bind (fX0_shiftsFor o_found_r v4) fun q23 => if (lg_cmp q23 (0 : Int64)) = 0 then fX0_turnsAt_45 v3 v4 else Option.bind (fX0_leavesPoint o_seen_wide o_seen_high o_seen_hex o_found_r v4 p1 p2) fun q36 => if q36 = 0 then fX0_turnsAt_45 v3 v4 else fX0_turnsAt_45 (v3 + 1) v4
def fX0_turnsAt_5 (o_seen_wide : Int32) (o_seen_high : Int32) (o_seen_hex : Int32) (o_found_r : Nat → Int64) (p1 : Int32) (p2 : Int32) (v3 : Int32) (v4 : Int32) : Option (Int32) := ds_it (fun s => fX0_turnsAt_5_b o_seen_wide o_seen_high o_seen_hex o_found_r p1 p2 s.1 s.2) 1000 (v3, v4)
def fX0_turnsAt (o_seen_wide : Int32) (o_seen_high : Int32) (o_seen_hex : Int32) (o_found_r : Nat → Int64) (p1 : Int32) (p2 : Int32) : Option (Int32) :=
  fX0_turnsAt_5 o_seen_wide o_seen_high o_seen_hex o_found_r p1 p2 (0 : Int32) (0 : Int32)
set_option maxHeartbeats 4000000 in
set_option maxRecDepth 100000 in
theorem c_X0_turnsAt (l : Launch) (dC : Nat → ClassId) (dI : Nat → Nat → Nat) (ca : Nat → ClassId) (sa : Nat → Nat) (h_o : Nat) (h_o_seen : Nat) (h_o_turned : Nat) (h_o_found : Nat) (sz : Nat) (o_looked : Int32) (o_stepsFound : Int32) (o_firstX : Int32) (o_firstY : Int32) (o_secondX : Int32) (o_secondY : Int32) (o_seen_wide : Int32) (o_seen_high : Int32) (o_seen_hex : Int32) (o_seen_ones : Int64) (o_seen_twos : Int64) (o_found_r : Nat → Int64) (p1 : Int32) (p2 : Int32) (res : Int32) (hf : fX0_turnsAt o_seen_wide o_seen_high o_seen_hex o_found_r p1 p2 = some res) : Met l yX0_turnsAt (Cond.code yX0_turnsAt cX0_turnsAt 5 (some .int) :: ds_gw) { frames := 4, cells := 0, slots := 0, locals := 92 } (va_Pc [.ref h_o, .int p1, .int p2] (ds_Pre dC dI ca sa [(h_o, .inr (0, [.ref h_o_seen, .ref h_o_turned, .ref h_o_found, .int o_looked, .int o_stepsFound, .int o_firstX, .int o_firstY, .int o_secondX, .int o_secondY])), (h_o_seen, .inr (5, [.int o_seen_wide, .int o_seen_high, .int o_seen_hex, .long o_seen_ones, .long o_seen_twos])), (h_o_found, .inl (ca 1, 12, .inr (.inl o_found_r)))] sz)) (va_Qi (fun r (_ : Unit) => r = res) (ds_B dC dI (va_A [(h_o, .inr (0, [.ref h_o_seen, .ref h_o_turned, .ref h_o_found, .int o_looked, .int o_stepsFound, .int o_firstX, .int o_firstY, .int o_secondX, .int o_secondY])), (h_o_seen, .inr (5, [.int o_seen_wide, .int o_seen_high, .int o_seen_hex, .long o_seen_ones, .long o_seen_twos])), (h_o_found, .inl (ca 1, 12, .inr (.inl o_found_r)))] sz) [(h_o, .inr (0, [.ref h_o_seen, .ref h_o_turned, .ref h_o_found, .int o_looked, .int o_stepsFound, .int o_firstX, .int o_firstY, .int o_secondX, .int o_secondY])), (h_o_seen, .inr (5, [.int o_seen_wide, .int o_seen_high, .int o_seen_hex, .long o_seen_ones, .long o_seen_twos])), (h_o_found, .inl (ca 1, 12, .inr (.inl o_found_r)))]) (va_A [(h_o, .inr (0, [.ref h_o_seen, .ref h_o_turned, .ref h_o_found, .int o_looked, .int o_stepsFound, .int o_firstX, .int o_firstY, .int o_secondX, .int o_secondY])), (h_o_seen, .inr (5, [.int o_seen_wide, .int o_seen_high, .int o_seen_hex, .long o_seen_ones, .long o_seen_twos])), (h_o_found, .inl (ca 1, 12, .inr (.inl o_found_r)))] sz)) 0 0 (va_A [(h_o, .inr (0, [.ref h_o_seen, .ref h_o_turned, .ref h_o_found, .int o_looked, .int o_stepsFound, .int o_firstX, .int o_firstY, .int o_secondX, .int o_secondY])), (h_o_seen, .inr (5, [.int o_seen_wide, .int o_seen_high, .int o_seen_hex, .long o_seen_ones, .long o_seen_twos])), (h_o_found, .inl (ca 1, 12, .inr (.inl o_found_r)))] sz) := by
  refine Met.ofW (cc := cX0_turnsAt) (maxL := 5) (ret := (some .int)) (by decide) rfl ?_
  intro p e s m args below meth c s₁ B hml hv
  obtain ⟨rfl, hsz, hP, hK, hD0, hE⟩ := hv
  have hx := B.exec
  have hb := B.bytes
  have hr := B.returns
  have hts := atoms_spec (ws := Cond.code yX0_turnsAt cX0_turnsAt 5 (some .int) :: ds_gw) B.pre
  have hg : ∀ {w : Cond}, w ∈ ds_gw → w.before _ s = true := fun h => hts _ (List.mem_cons_of_mem _ h)
  have hown : s.vm.findClass RX0 = some m.cls := findClass_of_methodNamed B.named
  have hlocks := B.notSynchronized
  subst hsz
  have hD := hD0.self (sz := s.heap.size)
  generalize hAe : va_A [(h_o, .inr (0, [.ref h_o_seen, .ref h_o_turned, .ref h_o_found, .int o_looked, .int o_stepsFound, .int o_firstX, .int o_firstY, .int o_secondX, .int o_secondY])), (h_o_seen, .inr (5, [.int o_seen_wide, .int o_seen_high, .int o_seen_hex, .long o_seen_ones, .long o_seen_twos])), (h_o_found, .inl (ca 1, 12, .inr (.inl o_found_r)))] s.heap.size = A at hD hE ⊢
  have hA : ∀ q : Nat, s.heap.size ≤ q → A q := fun q h => by rw [← hAe]; exact Or.inr h
  have hS : va_S A s.heap s.heap [] := va_S.rf
  have hl := lv_entry ([.ref h_o, .int p1, .int p2]) (n := 5) (Nat.le_of_ble_eq_true rfl)
  rw [lg_entry_eq]
  generalize (lg_sl ([.ref h_o, .int p1, .int p2]) ++ List.replicate (5 - (lg_sl ([.ref h_o, .int p1, .int p2])).length) Slot.unset).toArray = ls at hl ⊢
  have hl : lv_has ls 5 [(0, .ref h_o), (1, .int p1), (2, .int p2)] := hl
  obtain ⟨G0, eG0⟩ : ∃ G : Int32 → Prop, G = (fun r => r = res) := ⟨_, rfl⟩
  obtain ⟨rr, hrr⟩ : ∃ z, z = res := ⟨_, rfl⟩
  rw [← hrr] at hf
  have hG : G0 rr := by subst eG0; exact hrr
  refine ds_cap (fun WW h1 h2 => ?_)
  have J_5 : ∀ (n : Nat) (v3 : Int32) (v4 : Int32) (rr : Int32) (hf : ds_it (fun s => fX0_turnsAt_5_b o_seen_wide o_seen_high o_seen_hex o_found_r p1 p2 s.1 s.2) n (v3, v4) = some rr) (hG : G0 rr) (H : Heap) (locs : List Loc) (hP : va_P (dC, dI) vwCl [(h_o, .inr (0, [.ref h_o_seen, .ref h_o_turned, .ref h_o_found, .int o_looked, .int o_stepsFound, .int o_firstX, .int o_firstY, .int o_secondX, .int o_secondY])), (h_o_seen, .inr (5, [.int o_seen_wide, .int o_seen_high, .int o_seen_hex, .long o_seen_ones, .long o_seen_twos])), (h_o_found, .inl (ca 1, 12, .inr (.inl o_found_r)))] H) (hD : va_D A [(h_o, .inr (0, [.ref h_o_seen, .ref h_o_turned, .ref h_o_found, .int o_looked, .int o_stepsFound, .int o_firstX, .int o_firstY, .int o_secondX, .int o_secondY])), (h_o_seen, .inr (5, [.int o_seen_wide, .int o_seen_high, .int o_seen_hex, .long o_seen_ones, .long o_seen_twos])), (h_o_found, .inl (ca 1, 12, .inr (.inl o_found_r)))]) (hS : va_S A s.heap H locs) (ls : Array Slot) (hl : lv_has ls 5 [(0, .ref h_o), (1, .int p1), (2, .int p2), (3, .int v3), (4, .int v4)]), WW H locs (F0 m 5 ls []) := by
    intro  n
    induction n with
    | zero => intro v3 v4 rr hf; exact (ds_it_zero hf).elim
    | succ n ih5 =>
      intro v3 v4 rr hf hG H locs hP hD hS ls hl
      refine h2 ?_
      obtain ⟨rr, hf, hG⟩ := ds_it_succ hf hG
      replace hf : fX0_turnsAt_5_b o_seen_wide o_seen_high o_seen_hex o_found_r p1 p2 v3 v4 = some rr := hf
      obtain ⟨G1, eG1⟩ : ∃ G : ((Int32 × Int32) ⊕ (Int32)) → Prop, G = ds_G (fun s' => ∃ r', ds_it (fun s => fX0_turnsAt_5_b o_seen_wide o_seen_high o_seen_hex o_found_r p1 p2 s.1 s.2) n s' = some r' ∧ G0 r') G0 := ⟨_, rfl⟩
      rw [← eG1] at hG
      have J_45 : ∀ (v3 : Int32) (v4 : Int32) (rr : (Int32 × Int32) ⊕ (Int32)) (hf : fX0_turnsAt_45 v3 v4 = some rr) (hG : G1 rr) (H : Heap) (locs : List Loc) (hP : va_P (dC, dI) vwCl [(h_o, .inr (0, [.ref h_o_seen, .ref h_o_turned, .ref h_o_found, .int o_looked, .int o_stepsFound, .int o_firstX, .int o_firstY, .int o_secondX, .int o_secondY])), (h_o_seen, .inr (5, [.int o_seen_wide, .int o_seen_high, .int o_seen_hex, .long o_seen_ones, .long o_seen_twos])), (h_o_found, .inl (ca 1, 12, .inr (.inl o_found_r)))] H) (hD : va_D A [(h_o, .inr (0, [.ref h_o_seen, .ref h_o_turned, .ref h_o_found, .int o_looked, .int o_stepsFound, .int o_firstX, .int o_firstY, .int o_secondX, .int o_secondY])), (h_o_seen, .inr (5, [.int o_seen_wide, .int o_seen_high, .int o_seen_hex, .long o_seen_ones, .long o_seen_twos])), (h_o_found, .inl (ca 1, 12, .inr (.inl o_found_r)))]) (hS : va_S A s.heap H locs) (ls : Array Slot) (hl : lv_has ls 5 [(0, .ref h_o), (1, .int p1), (2, .int p2), (3, .int v3), (4, .int v4)]), WW H locs (F0 m 45 ls []) := by
        intro v3 v4 rr hf hG H locs hP hD hS ls hl
        refine h2 ?_
        unfold fX0_turnsAt_45 at hf
        refine lv_iinc (v := (v4 + 1)) (lv' := [(4, .int (v4 + 1)), (0, .ref h_o), (1, .int p1), (2, .int p2), (3, .int v3)]) hx hb dX0_turnsAt_45 hl (k := 4) rfl rfl (by decide) rfl (fun ls hl => ?_)
        refine lv_goto (tgt := 5) hx hb dX0_turnsAt_48 (by decide) ?_
        have hf := Option.some.inj hf
        subst hf
        rw [eG1] at hG
        obtain ⟨rr, hf, hG⟩ := hG
        exact h1 (ih5 v3 (v4 + 1) rr hf hG _ _ hP hD hS _ (lv_sub hl [1, 2, 3, 4, 0] rfl))
      unfold fX0_turnsAt_5_b at hf
      refine lv_iload hx hb dX0_turnsAt_5 (lv_at hl 4 rfl) ?_
      refine lv_aload_n hx hb dX0_turnsAt_7 rfl (lv_at hl 0 rfl) ?_
      refine va_get (D := (dC, dI)) (ci := 0) (v := .ref h_o_seen) (C := RX0) (T := TX0) (N := 9) hx hb hts (fun w h => List.mem_cons_of_mem _ (kc_X0 w h)) hown hK hP 0 rfl rfl 0 (by decide) (hg kw_129) (fun _ h9 => h9) rfl dX0_turnsAt_8 ?_
      refine va_getN (D := (dC, dI)) (ci := 5) (v := .int o_seen_hex) (C := RX6) (T := TX6) (N := 5) hx hb hts (fun w h => List.mem_cons_of_mem _ (kc_X6 w h)) hown hK hP 1 rfl rfl 2 (by decide) (va_Nw.use rfl (hE.1 _ kw_135)) (fun _ h9 => h9) rfl dX0_turnsAt_11 ?_
      obtain ⟨q14, hq14, hf⟩ := ds_ob hf
      refine ds_calli (wr := [(h_o, .inr (0, [.ref h_o_seen, .ref h_o_turned, .ref h_o_found, .int o_looked, .int o_stepsFound, .int o_firstX, .int o_firstY, .int o_secondX, .int o_secondY])), (h_o_seen, .inr (5, [.int o_seen_wide, .int o_seen_high, .int o_seen_hex, .long o_seen_ones, .long o_seen_twos])), (h_o_found, .inl (ca 1, 12, .inr (.inl o_found_r)))]) (va_runS (As := [.int o_seen_hex]) (rest := [.int v4]) ⟨hx, hb, hml, hown, hts⟩ (c_X1_turns l dC dI ca sa  H.size  o_seen_hex q14 hq14) (va_cwS 1 hts (ds_gS kw_168 kw_5 kw_2 kw_6) rfl rfl rfl (by decide +kernel) ⟨Nat.le_of_ble_eq_true rfl, Nat.le_of_ble_eq_true rfl⟩) ⟨ds_blind, ds_at hP hD hK hE hS hA [] rfl rfl _⟩ rfl rfl hl.1 rfl (lv_room (Nat.le_of_ble_eq_true rfl)) dX0_turnsAt_14 ⟨Nat.zero_le _, Nat.zero_le _⟩) hP hD hS hA [] [0, 1, 2] rfl rfl rfl (by decide) (fun H locs hP hD hS => ?_)
      have hP : va_P (dC, dI) vwCl [(h_o, .inr (0, [.ref h_o_seen, .ref h_o_turned, .ref h_o_found, .int o_looked, .int o_stepsFound, .int o_firstX, .int o_firstY, .int o_secondX, .int o_secondY])), (h_o_seen, .inr (5, [.int o_seen_wide, .int o_seen_high, .int o_seen_hex, .long o_seen_ones, .long o_seen_twos])), (h_o_found, .inl (ca 1, 12, .inr (.inl o_found_r)))] H := hP
      have hD : va_D A [(h_o, .inr (0, [.ref h_o_seen, .ref h_o_turned, .ref h_o_found, .int o_looked, .int o_stepsFound, .int o_firstX, .int o_firstY, .int o_secondX, .int o_secondY])), (h_o_seen, .inr (5, [.int o_seen_wide, .int o_seen_high, .int o_seen_hex, .long o_seen_ones, .long o_seen_twos])), (h_o_found, .inl (ca 1, 12, .inr (.inl o_found_r)))] := hD
      refine lv_icmp_ge (tgt := 51) hx hb dX0_turnsAt_17 (by decide) (fun c_17 => ?_) (fun c_17 => ?_)
      · replace hf := ds_t c_17 hf
        refine lv_iload_n hx hb dX0_turnsAt_51 rfl (lv_at hl 3 rfl) ?_
        have hf := Option.some.inj hf
        subst hf
        rw [eG1] at hG
        replace hG : G0 _ := hG
        rw [eG0] at hG
        have hG : _ = res := hG
        subst hG
        exact W.iret (v := v3) hx hb hr (fun t ht hW => ⟨⟨v3, (), rfl, rfl, by rw [ht]; exact hP, hD⟩, hS.F ht⟩) hS.2.2 dX0_turnsAt_52
      · replace hf := ds_f c_17 hf
        refine lv_aload_n hx hb dX0_turnsAt_20 rfl (lv_at hl 0 rfl) ?_
        refine lv_iload hx hb dX0_turnsAt_21 (lv_at hl 4 rfl) ?_
        obtain ⟨q23, hq23, hf⟩ := ds_ob hf
        refine ds_calll (wr := [(h_o_seen, .inr (5, [.int o_seen_wide, .int o_seen_high, .int o_seen_hex, .long o_seen_ones, .long o_seen_twos]))]) (va_runV (As := [.int v4]) (rest := []) ⟨hx, hb, hml, hown, hts⟩ (c_X0_shiftsFor l dC dI ca sa h_o h_o_seen h_o_turned h_o_found H.size o_looked o_stepsFound o_firstX o_firstY o_secondX o_secondY o_found_r v4 q23 hq23) (cwV 1 hts (ds_gV kw_151 kw_152 kw_153 kw_154 kw_155) rfl rfl rfl (by decide +kernel) ⟨Nat.le_of_ble_eq_true rfl, Nat.le_of_ble_eq_true rfl⟩) ⟨ds_blind, va_recv hK hP (ci := 0) (q0 := 0) rfl rfl, ds_at hP hD hK hE hS hA [0, 2] rfl rfl _⟩ rfl rfl hl.1 rfl (lv_room (Nat.le_of_ble_eq_true rfl)) dX0_turnsAt_23 ⟨Nat.zero_le _, Nat.zero_le _⟩) hP hD hS hA [0, 2] [1] rfl rfl rfl (by decide) (fun H locs hP hD hS => ?_)
        have hP : va_P (dC, dI) vwCl [(h_o_seen, .inr (5, [.int o_seen_wide, .int o_seen_high, .int o_seen_hex, .long o_seen_ones, .long o_seen_twos])), (h_o, .inr (0, [.ref h_o_seen, .ref h_o_turned, .ref h_o_found, .int o_looked, .int o_stepsFound, .int o_firstX, .int o_firstY, .int o_secondX, .int o_secondY])), (h_o_found, .inl (ca 1, 12, .inr (.inl o_found_r)))] H := hP
        have hD : va_D A [(h_o_seen, .inr (5, [.int o_seen_wide, .int o_seen_high, .int o_seen_hex, .long o_seen_ones, .long o_seen_twos])), (h_o, .inr (0, [.ref h_o_seen, .ref h_o_turned, .ref h_o_found, .int o_looked, .int o_stepsFound, .int o_firstX, .int o_firstY, .int o_secondX, .int o_secondY])), (h_o_found, .inl (ca 1, 12, .inr (.inl o_found_r)))] := hD
        refine lv_lconst (v := 0) hx hb dX0_turnsAt_26 (by decide) ?_
        refine W.lcmp hx hb dX0_turnsAt_27 ?_
        refine lv_if_eq (tgt := 45) hx hb dX0_turnsAt_28 (by decide) (fun c_28 => ?_) (fun c_28 => ?_)
        · replace hf := ds_t c_28 hf
          exact h1 (J_45 v3 v4 _ hf hG _ _ (hP.sub [1, 0, 2] rfl) (hD.sub [1, 0, 2] rfl rfl) hS _ (lv_sub hl [0, 1, 2, 3, 4] rfl))
        · replace hf := ds_f c_28 hf
          refine lv_aload_n hx hb dX0_turnsAt_31 rfl (lv_at hl 0 rfl) ?_
          refine lv_iload hx hb dX0_turnsAt_32 (lv_at hl 4 rfl) ?_
          refine lv_iload_n hx hb dX0_turnsAt_34 rfl (lv_at hl 1 rfl) ?_
          refine lv_iload_n hx hb dX0_turnsAt_35 rfl (lv_at hl 2 rfl) ?_
          obtain ⟨q36, hq36, hf⟩ := ds_ob hf
          refine ds_calli (wr := []) (va_runV (As := [.int v4, .int p1, .int p2]) (rest := []) ⟨hx, hb, hml, hown, hts⟩ (c_X0_leavesPoint l dC dI ca sa h_o h_o_seen h_o_turned h_o_found H.size o_looked o_stepsFound o_firstX o_firstY o_secondX o_secondY o_seen_wide o_seen_high o_seen_hex o_seen_ones o_seen_twos o_found_r v4 p1 p2 q36 hq36) (cwV 3 hts (ds_gV kw_248 kw_249 kw_250 kw_154 kw_251) rfl rfl rfl (by decide +kernel) ⟨Nat.le_of_ble_eq_true rfl, Nat.le_of_ble_eq_true rfl⟩) ⟨ds_blind, va_recv hK hP (ci := 0) (q0 := 1) rfl rfl, ds_at hP hD hK hE hS hA [1, 0, 2] rfl rfl _⟩ rfl rfl hl.1 rfl (lv_room (Nat.le_of_ble_eq_true rfl)) dX0_turnsAt_36 ⟨Nat.zero_le _, Nat.zero_le _⟩) hP hD hS hA [1, 0, 2] [] rfl rfl rfl (by decide) (fun H locs hP hD hS => ?_)
          have hP : va_P (dC, dI) vwCl [(h_o, .inr (0, [.ref h_o_seen, .ref h_o_turned, .ref h_o_found, .int o_looked, .int o_stepsFound, .int o_firstX, .int o_firstY, .int o_secondX, .int o_secondY])), (h_o_seen, .inr (5, [.int o_seen_wide, .int o_seen_high, .int o_seen_hex, .long o_seen_ones, .long o_seen_twos])), (h_o_found, .inl (ca 1, 12, .inr (.inl o_found_r)))] H := hP
          have hD : va_D A [(h_o, .inr (0, [.ref h_o_seen, .ref h_o_turned, .ref h_o_found, .int o_looked, .int o_stepsFound, .int o_firstX, .int o_firstY, .int o_secondX, .int o_secondY])), (h_o_seen, .inr (5, [.int o_seen_wide, .int o_seen_high, .int o_seen_hex, .long o_seen_ones, .long o_seen_twos])), (h_o_found, .inl (ca 1, 12, .inr (.inl o_found_r)))] := hD
          refine lv_if_eq (tgt := 45) hx hb dX0_turnsAt_39 (by decide) (fun c_39 => ?_) (fun c_39 => ?_)
          · replace hf := ds_t c_39 hf
            exact h1 (J_45 v3 v4 _ hf hG _ _ hP hD hS _ (lv_sub hl [0, 1, 2, 3, 4] rfl))
          · replace hf := ds_f c_39 hf
            refine lv_iinc (v := (v3 + 1)) (lv' := [(3, .int (v3 + 1)), (0, .ref h_o), (1, .int p1), (2, .int p2), (4, .int v4)]) hx hb dX0_turnsAt_42 hl (k := 3) rfl rfl (by decide) rfl (fun ls hl => ?_)
            exact h1 (J_45 (v3 + 1) v4 _ hf hG _ _ hP hD hS _ (lv_sub hl [1, 2, 3, 0, 4] rfl))
  unfold fX0_turnsAt at hf
  refine lv_iconst (v := 0) hx hb dX0_turnsAt_0 (by decide) ?_
  refine lv_istore_n (lv' := [(3, .int (0 : Int32)), (0, .ref h_o), (1, .int p1), (2, .int p2)]) hx hb dX0_turnsAt_1 rfl hl (by decide) rfl (fun ls hl => ?_)
  refine lv_iconst (v := 0) hx hb dX0_turnsAt_2 (by decide) ?_
  refine lv_istore (lv' := [(4, .int (0 : Int32)), (3, .int (0 : Int32)), (0, .ref h_o), (1, .int p1), (2, .int p2)]) hx hb dX0_turnsAt_3 hl (by decide) rfl (fun ls hl => ?_)
  exact h1 (J_5  1000 (0 : Int32) (0 : Int32) _ hf hG _ _ hP hD hS _ (lv_sub hl [2, 3, 4, 1, 0] rfl))
theorem dX0_allOfKind_0 : decode cX0_allOfKind 0 = .ok (.lconst 0, 1) := by decide +kernel
theorem dX0_allOfKind_1 : decode cX0_allOfKind 1 = .ok (.lstore_n 3, 1) := by decide +kernel
theorem dX0_allOfKind_2 : decode cX0_allOfKind 2 = .ok (.iconst 0, 1) := by decide +kernel
theorem dX0_allOfKind_3 : decode cX0_allOfKind 3 = .ok (.istore 5, 2) := by decide +kernel
theorem dX0_allOfKind_5 : decode cX0_allOfKind 5 = .ok (.iload 5, 2) := by decide +kernel
theorem dX0_allOfKind_7 : decode cX0_allOfKind 7 = .ok (.aload_n 0, 1) := by decide +kernel
theorem dX0_allOfKind_8 : decode cX0_allOfKind 8 = .ok (.getfield 12, 3) := by decide +kernel
theorem dX0_allOfKind_11 : decode cX0_allOfKind 11 = .ok (.getfield 39, 3) := by decide +kernel
theorem dX0_allOfKind_14 : decode cX0_allOfKind 14 = .ok (.invokestatic 81, 3) := by decide +kernel
theorem dX0_allOfKind_17 : decode cX0_allOfKind 17 = .ok (.if_icmp .ge 72, 3) := by decide +kernel
theorem dX0_allOfKind_20 : decode cX0_allOfKind 20 = .ok (.aload_n 0, 1) := by decide +kernel
theorem dX0_allOfKind_21 : decode cX0_allOfKind 21 = .ok (.iload 5, 2) := by decide +kernel
theorem dX0_allOfKind_23 : decode cX0_allOfKind 23 = .ok (.invokevirtual 57, 3) := by decide +kernel
theorem dX0_allOfKind_26 : decode cX0_allOfKind 26 = .ok (.lstore 6, 2) := by decide +kernel
theorem dX0_allOfKind_28 : decode cX0_allOfKind 28 = .ok (.lload 6, 2) := by decide +kernel
theorem dX0_allOfKind_30 : decode cX0_allOfKind 30 = .ok (.lconst 0, 1) := by decide +kernel
theorem dX0_allOfKind_31 : decode cX0_allOfKind 31 = .ok (.lcmp, 1) := by decide +kernel
theorem dX0_allOfKind_32 : decode cX0_allOfKind 32 = .ok (.ifCond .eq 51, 3) := by decide +kernel
theorem dX0_allOfKind_35 : decode cX0_allOfKind 35 = .ok (.aload_n 0, 1) := by decide +kernel
theorem dX0_allOfKind_36 : decode cX0_allOfKind 36 = .ok (.getfield 12, 3) := by decide +kernel
theorem dX0_allOfKind_39 : decode cX0_allOfKind 39 = .ok (.getfield 39, 3) := by decide +kernel
theorem dX0_allOfKind_42 : decode cX0_allOfKind 42 = .ok (.iload 5, 2) := by decide +kernel
theorem dX0_allOfKind_44 : decode cX0_allOfKind 44 = .ok (.iload_n 1, 1) := by decide +kernel
theorem dX0_allOfKind_45 : decode cX0_allOfKind 45 = .ok (.iload_n 2, 1) := by decide +kernel
theorem dX0_allOfKind_46 : decode cX0_allOfKind 46 = .ok (.invokestatic 139, 3) := by decide +kernel
theorem dX0_allOfKind_49 : decode cX0_allOfKind 49 = .ok (.istore 8, 2) := by decide +kernel
theorem dX0_allOfKind_51 : decode cX0_allOfKind 51 = .ok (.aload_n 0, 1) := by decide +kernel
theorem dX0_allOfKind_52 : decode cX0_allOfKind 52 = .ok (.getfield 12, 3) := by decide +kernel
theorem dX0_allOfKind_55 : decode cX0_allOfKind 55 = .ok (.getfield 39, 3) := by decide +kernel
theorem dX0_allOfKind_58 : decode cX0_allOfKind 58 = .ok (.iload 5, 2) := by decide +kernel
theorem dX0_allOfKind_60 : decode cX0_allOfKind 60 = .ok (.iload_n 1, 1) := by decide +kernel
theorem dX0_allOfKind_61 : decode cX0_allOfKind 61 = .ok (.iload_n 2, 1) := by decide +kernel
theorem dX0_allOfKind_62 : decode cX0_allOfKind 62 = .ok (.invokestatic 143, 3) := by decide +kernel
theorem dX0_allOfKind_65 : decode cX0_allOfKind 65 = .ok (.istore 9, 2) := by decide +kernel
theorem dX0_allOfKind_67 : decode cX0_allOfKind 67 = .ok (.lload_n 3, 1) := by decide +kernel
theorem dX0_allOfKind_68 : decode cX0_allOfKind 68 = .ok (.aload_n 0, 1) := by decide +kernel
theorem dX0_allOfKind_69 : decode cX0_allOfKind 69 = .ok (.getfield 12, 3) := by decide +kernel
theorem dX0_allOfKind_72 : decode cX0_allOfKind 72 = .ok (.lload 6, 2) := by decide +kernel
theorem dX0_allOfKind_74 : decode cX0_allOfKind 74 = .ok (.iload 8, 2) := by decide +kernel
theorem dX0_allOfKind_76 : decode cX0_allOfKind 76 = .ok (.iload 9, 2) := by decide +kernel
theorem dX0_allOfKind_78 : decode cX0_allOfKind 78 = .ok (.invokevirtual 189, 3) := by decide +kernel
theorem dX0_allOfKind_81 : decode cX0_allOfKind 81 = .ok (.lor, 1) := by decide +kernel
theorem dX0_allOfKind_82 : decode cX0_allOfKind 82 = .ok (.lstore_n 3, 1) := by decide +kernel
theorem dX0_allOfKind_83 : decode cX0_allOfKind 83 = .ok (.iinc 5 1, 3) := by decide +kernel
theorem dX0_allOfKind_86 : decode cX0_allOfKind 86 = .ok (.goto (-81), 3) := by decide +kernel
theorem dX0_allOfKind_89 : decode cX0_allOfKind 89 = .ok (.lload_n 3, 1) := by decide +kernel
theorem dX0_allOfKind_90 : decode cX0_allOfKind 90 = .ok (.lreturn, 1) := by decide +kernel
def fX0_allOfKind_83 (u3 : Int64) (v5 : Int32) : Option ((Int64 × Int32) ⊕ (Int64)) :=
  some (.inl (u3, (v5 + 1)))
def fX0_allOfKind_5_b (o_seen_wide : Int32) (o_seen_high : Int32) (o_seen_hex : Int32) (o_found_r : Nat → Int64) (p1 : Int32) (p2 : Int32) (u3 : Int64) (v5 : Int32) : Option ((Int64 × Int32) ⊕ (Int64)) :=
  Option.bind (fX1_turnings o_seen_hex) fun q14 => if q14 ≤ v5 then some (.inr u3) else Option.bind (fX0_shiftsFor o_found_r v5) fun q23 => if (lg_cmp q23 (0 : Int64)) = 0 then fX0_allOfKind_83 u3 v5 else Option.bind (fX1_turnedX o_seen_hex v5 p1 p2) fun q46 => Option.bind (fX1_turnedY o_seen_hex v5 p1 p2) fun q62 => Option.bind (fX6_rolled o_seen_wide o_seen_high q23 q46 q62) fun q78 => fX0_allOfKind_83 (u3 ||| q78) v5
def fX0_allOfKind_5 (o_seen_wide : Int32) (o_seen_high : Int32) (o_seen_hex : Int32) (o_found_r : Nat → Int64) (p1 : Int32) (p2 : Int32) (u3 : Int64) (v5 : Int32) : Option (Int64) := ds_it (fun s => fX0_allOfKind_5_b o_seen_wide o_seen_high o_seen_hex o_found_r p1 p2 s.1 s.2) 1000 (u3, v5)
def fX0_allOfKind (o_seen_wide : Int32) (o_seen_high : Int32) (o_seen_hex : Int32) (o_found_r : Nat → Int64) (p1 : Int32) (p2 : Int32) : Option (Int64) :=
  fX0_allOfKind_5 o_seen_wide o_seen_high o_seen_hex o_found_r p1 p2 (0 : Int64) (0 : Int32)
set_option maxHeartbeats 4000000 in
set_option maxRecDepth 100000 in
theorem c_X0_allOfKind (l : Launch) (dC : Nat → ClassId) (dI : Nat → Nat → Nat) (ca : Nat → ClassId) (sa : Nat → Nat) (h_o : Nat) (h_o_seen : Nat) (h_o_turned : Nat) (h_o_found : Nat) (sz : Nat) (o_looked : Int32) (o_stepsFound : Int32) (o_firstX : Int32) (o_firstY : Int32) (o_secondX : Int32) (o_secondY : Int32) (o_seen_wide : Int32) (o_seen_high : Int32) (o_seen_hex : Int32) (o_seen_ones : Int64) (o_seen_twos : Int64) (o_found_r : Nat → Int64) (p1 : Int32) (p2 : Int32) (res : Int64) (hf : fX0_allOfKind o_seen_wide o_seen_high o_seen_hex o_found_r p1 p2 = some res) : Met l yX0_allOfKind (Cond.code yX0_allOfKind cX0_allOfKind 10 (some .long) :: ds_gw) { frames := 3, cells := 0, slots := 0, locals := 73 } (va_Pc [.ref h_o, .int p1, .int p2] (ds_Pre dC dI ca sa [(h_o, .inr (0, [.ref h_o_seen, .ref h_o_turned, .ref h_o_found, .int o_looked, .int o_stepsFound, .int o_firstX, .int o_firstY, .int o_secondX, .int o_secondY])), (h_o_seen, .inr (5, [.int o_seen_wide, .int o_seen_high, .int o_seen_hex, .long o_seen_ones, .long o_seen_twos])), (h_o_found, .inl (ca 1, 12, .inr (.inl o_found_r)))] sz)) (va_Ql (fun r (_ : Unit) => r = res) (ds_B dC dI (va_A [(h_o, .inr (0, [.ref h_o_seen, .ref h_o_turned, .ref h_o_found, .int o_looked, .int o_stepsFound, .int o_firstX, .int o_firstY, .int o_secondX, .int o_secondY])), (h_o_seen, .inr (5, [.int o_seen_wide, .int o_seen_high, .int o_seen_hex, .long o_seen_ones, .long o_seen_twos])), (h_o_found, .inl (ca 1, 12, .inr (.inl o_found_r)))] sz) [(h_o, .inr (0, [.ref h_o_seen, .ref h_o_turned, .ref h_o_found, .int o_looked, .int o_stepsFound, .int o_firstX, .int o_firstY, .int o_secondX, .int o_secondY])), (h_o_seen, .inr (5, [.int o_seen_wide, .int o_seen_high, .int o_seen_hex, .long o_seen_ones, .long o_seen_twos])), (h_o_found, .inl (ca 1, 12, .inr (.inl o_found_r)))]) (va_A [(h_o, .inr (0, [.ref h_o_seen, .ref h_o_turned, .ref h_o_found, .int o_looked, .int o_stepsFound, .int o_firstX, .int o_firstY, .int o_secondX, .int o_secondY])), (h_o_seen, .inr (5, [.int o_seen_wide, .int o_seen_high, .int o_seen_hex, .long o_seen_ones, .long o_seen_twos])), (h_o_found, .inl (ca 1, 12, .inr (.inl o_found_r)))] sz)) 0 0 (va_A [(h_o, .inr (0, [.ref h_o_seen, .ref h_o_turned, .ref h_o_found, .int o_looked, .int o_stepsFound, .int o_firstX, .int o_firstY, .int o_secondX, .int o_secondY])), (h_o_seen, .inr (5, [.int o_seen_wide, .int o_seen_high, .int o_seen_hex, .long o_seen_ones, .long o_seen_twos])), (h_o_found, .inl (ca 1, 12, .inr (.inl o_found_r)))] sz) := by
  refine Met.ofW (cc := cX0_allOfKind) (maxL := 10) (ret := (some .long)) (by decide) rfl ?_
  intro p e s m args below meth c s₁ B hml hv
  obtain ⟨rfl, hsz, hP, hK, hD0, hE⟩ := hv
  have hx := B.exec
  have hb := B.bytes
  have hr := B.returns
  have hts := atoms_spec (ws := Cond.code yX0_allOfKind cX0_allOfKind 10 (some .long) :: ds_gw) B.pre
  have hg : ∀ {w : Cond}, w ∈ ds_gw → w.before _ s = true := fun h => hts _ (List.mem_cons_of_mem _ h)
  have hown : s.vm.findClass RX0 = some m.cls := findClass_of_methodNamed B.named
  have hlocks := B.notSynchronized
  subst hsz
  have hD := hD0.self (sz := s.heap.size)
  generalize hAe : va_A [(h_o, .inr (0, [.ref h_o_seen, .ref h_o_turned, .ref h_o_found, .int o_looked, .int o_stepsFound, .int o_firstX, .int o_firstY, .int o_secondX, .int o_secondY])), (h_o_seen, .inr (5, [.int o_seen_wide, .int o_seen_high, .int o_seen_hex, .long o_seen_ones, .long o_seen_twos])), (h_o_found, .inl (ca 1, 12, .inr (.inl o_found_r)))] s.heap.size = A at hD hE ⊢
  have hA : ∀ q : Nat, s.heap.size ≤ q → A q := fun q h => by rw [← hAe]; exact Or.inr h
  have hS : va_S A s.heap s.heap [] := va_S.rf
  have hl := lv_entry ([.ref h_o, .int p1, .int p2]) (n := 10) (Nat.le_of_ble_eq_true rfl)
  rw [lg_entry_eq]
  generalize (lg_sl ([.ref h_o, .int p1, .int p2]) ++ List.replicate (10 - (lg_sl ([.ref h_o, .int p1, .int p2])).length) Slot.unset).toArray = ls at hl ⊢
  have hl : lv_has ls 10 [(0, .ref h_o), (1, .int p1), (2, .int p2)] := hl
  obtain ⟨G0, eG0⟩ : ∃ G : Int64 → Prop, G = (fun r => r = res) := ⟨_, rfl⟩
  obtain ⟨rr, hrr⟩ : ∃ z, z = res := ⟨_, rfl⟩
  rw [← hrr] at hf
  have hG : G0 rr := by subst eG0; exact hrr
  refine ds_cap (fun WW h1 h2 => ?_)
  have J_5 : ∀ (n : Nat) (u3 : Int64) (v5 : Int32) (rr : Int64) (hf : ds_it (fun s => fX0_allOfKind_5_b o_seen_wide o_seen_high o_seen_hex o_found_r p1 p2 s.1 s.2) n (u3, v5) = some rr) (hG : G0 rr) (H : Heap) (locs : List Loc) (hP : va_P (dC, dI) vwCl [(h_o, .inr (0, [.ref h_o_seen, .ref h_o_turned, .ref h_o_found, .int o_looked, .int o_stepsFound, .int o_firstX, .int o_firstY, .int o_secondX, .int o_secondY])), (h_o_seen, .inr (5, [.int o_seen_wide, .int o_seen_high, .int o_seen_hex, .long o_seen_ones, .long o_seen_twos])), (h_o_found, .inl (ca 1, 12, .inr (.inl o_found_r)))] H) (hD : va_D A [(h_o, .inr (0, [.ref h_o_seen, .ref h_o_turned, .ref h_o_found, .int o_looked, .int o_stepsFound, .int o_firstX, .int o_firstY, .int o_secondX, .int o_secondY])), (h_o_seen, .inr (5, [.int o_seen_wide, .int o_seen_high, .int o_seen_hex, .long o_seen_ones, .long o_seen_twos])), (h_o_found, .inl (ca 1, 12, .inr (.inl o_found_r)))]) (hS : va_S A s.heap H locs) (ls : Array Slot) (hl : lv_has ls 10 [(0, .ref h_o), (1, .int p1), (2, .int p2), (3, .long u3), (5, .int v5)]), WW H locs (F0 m 5 ls []) := by
    intro  n
    induction n with
    | zero => intro u3 v5 rr hf; exact (ds_it_zero hf).elim
    | succ n ih5 =>
      intro u3 v5 rr hf hG H locs hP hD hS ls hl
      refine h2 ?_
      obtain ⟨rr, hf, hG⟩ := ds_it_succ hf hG
      replace hf : fX0_allOfKind_5_b o_seen_wide o_seen_high o_seen_hex o_found_r p1 p2 u3 v5 = some rr := hf
      obtain ⟨G1, eG1⟩ : ∃ G : ((Int64 × Int32) ⊕ (Int64)) → Prop, G = ds_G (fun s' => ∃ r', ds_it (fun s => fX0_allOfKind_5_b o_seen_wide o_seen_high o_seen_hex o_found_r p1 p2 s.1 s.2) n s' = some r' ∧ G0 r') G0 := ⟨_, rfl⟩
      rw [← eG1] at hG
      have J_83 : ∀ (u3 : Int64) (v5 : Int32) (rr : (Int64 × Int32) ⊕ (Int64)) (hf : fX0_allOfKind_83 u3 v5 = some rr) (hG : G1 rr) (H : Heap) (locs : List Loc) (hP : va_P (dC, dI) vwCl [(h_o, .inr (0, [.ref h_o_seen, .ref h_o_turned, .ref h_o_found, .int o_looked, .int o_stepsFound, .int o_firstX, .int o_firstY, .int o_secondX, .int o_secondY])), (h_o_seen, .inr (5, [.int o_seen_wide, .int o_seen_high, .int o_seen_hex, .long o_seen_ones, .long o_seen_twos])), (h_o_found, .inl (ca 1, 12, .inr (.inl o_found_r)))] H) (hD : va_D A [(h_o, .inr (0, [.ref h_o_seen, .ref h_o_turned, .ref h_o_found, .int o_looked, .int o_stepsFound, .int o_firstX, .int o_firstY, .int o_secondX, .int o_secondY])), (h_o_seen, .inr (5, [.int o_seen_wide, .int o_seen_high, .int o_seen_hex, .long o_seen_ones, .long o_seen_twos])), (h_o_found, .inl (ca 1, 12, .inr (.inl o_found_r)))]) (hS : va_S A s.heap H locs) (ls : Array Slot) (hl : lv_has ls 10 [(0, .ref h_o), (1, .int p1), (2, .int p2), (3, .long u3), (5, .int v5)]), WW H locs (F0 m 83 ls []) := by
        intro u3 v5 rr hf hG H locs hP hD hS ls hl
        refine h2 ?_
        unfold fX0_allOfKind_83 at hf
        refine lv_iinc (v := (v5 + 1)) (lv' := [(5, .int (v5 + 1)), (0, .ref h_o), (1, .int p1), (2, .int p2), (3, .long u3)]) hx hb dX0_allOfKind_83 hl (k := 4) rfl rfl (by decide) rfl (fun ls hl => ?_)
        refine lv_goto (tgt := 5) hx hb dX0_allOfKind_86 (by decide) ?_
        have hf := Option.some.inj hf
        subst hf
        rw [eG1] at hG
        obtain ⟨rr, hf, hG⟩ := hG
        exact h1 (ih5 u3 (v5 + 1) rr hf hG _ _ hP hD hS _ (lv_sub hl [1, 2, 3, 4, 0] rfl))
      unfold fX0_allOfKind_5_b at hf
      refine lv_iload hx hb dX0_allOfKind_5 (lv_at hl 4 rfl) ?_
      refine lv_aload_n hx hb dX0_allOfKind_7 rfl (lv_at hl 0 rfl) ?_
      refine va_get (D := (dC, dI)) (ci := 0) (v := .ref h_o_seen) (C := RX0) (T := TX0) (N := 9) hx hb hts (fun w h => List.mem_cons_of_mem _ (kc_X0 w h)) hown hK hP 0 rfl rfl 0 (by decide) (hg kw_129) (fun _ h9 => h9) rfl dX0_allOfKind_8 ?_
      refine va_getN (D := (dC, dI)) (ci := 5) (v := .int o_seen_hex) (C := RX6) (T := TX6) (N := 5) hx hb hts (fun w h => List.mem_cons_of_mem _ (kc_X6 w h)) hown hK hP 1 rfl rfl 2 (by decide) (va_Nw.use rfl (hE.1 _ kw_135)) (fun _ h9 => h9) rfl dX0_allOfKind_11 ?_
      obtain ⟨q14, hq14, hf⟩ := ds_ob hf
      refine ds_calli (wr := [(h_o, .inr (0, [.ref h_o_seen, .ref h_o_turned, .ref h_o_found, .int o_looked, .int o_stepsFound, .int o_firstX, .int o_firstY, .int o_secondX, .int o_secondY])), (h_o_seen, .inr (5, [.int o_seen_wide, .int o_seen_high, .int o_seen_hex, .long o_seen_ones, .long o_seen_twos])), (h_o_found, .inl (ca 1, 12, .inr (.inl o_found_r)))]) (va_runS (As := [.int o_seen_hex]) (rest := [.int v5]) ⟨hx, hb, hml, hown, hts⟩ (c_X1_turnings l dC dI ca sa  H.size  o_seen_hex q14 hq14) (va_cwS 1 hts (ds_gS kw_167 kw_1 kw_2 kw_3) rfl rfl rfl (by decide +kernel) ⟨Nat.le_of_ble_eq_true rfl, Nat.le_of_ble_eq_true rfl⟩) ⟨ds_blind, ds_at hP hD hK hE hS hA [] rfl rfl _⟩ rfl rfl hl.1 rfl (lv_room (Nat.le_of_ble_eq_true rfl)) dX0_allOfKind_14 ⟨Nat.zero_le _, Nat.zero_le _⟩) hP hD hS hA [] [0, 1, 2] rfl rfl rfl (by decide) (fun H locs hP hD hS => ?_)
      have hP : va_P (dC, dI) vwCl [(h_o, .inr (0, [.ref h_o_seen, .ref h_o_turned, .ref h_o_found, .int o_looked, .int o_stepsFound, .int o_firstX, .int o_firstY, .int o_secondX, .int o_secondY])), (h_o_seen, .inr (5, [.int o_seen_wide, .int o_seen_high, .int o_seen_hex, .long o_seen_ones, .long o_seen_twos])), (h_o_found, .inl (ca 1, 12, .inr (.inl o_found_r)))] H := hP
      have hD : va_D A [(h_o, .inr (0, [.ref h_o_seen, .ref h_o_turned, .ref h_o_found, .int o_looked, .int o_stepsFound, .int o_firstX, .int o_firstY, .int o_secondX, .int o_secondY])), (h_o_seen, .inr (5, [.int o_seen_wide, .int o_seen_high, .int o_seen_hex, .long o_seen_ones, .long o_seen_twos])), (h_o_found, .inl (ca 1, 12, .inr (.inl o_found_r)))] := hD
      refine lv_icmp_ge (tgt := 89) hx hb dX0_allOfKind_17 (by decide) (fun c_17 => ?_) (fun c_17 => ?_)
      · replace hf := ds_t c_17 hf
        refine lv_lload_n hx hb dX0_allOfKind_89 rfl (lv_at hl 3 rfl) ?_
        have hf := Option.some.inj hf
        subst hf
        rw [eG1] at hG
        replace hG : G0 _ := hG
        rw [eG0] at hG
        have hG : _ = res := hG
        subst hG
        exact W.lret (v := u3) hx hb hr (fun t ht hW => ⟨⟨u3, (), rfl, rfl, by rw [ht]; exact hP, hD⟩, hS.F ht⟩) hS.2.2 dX0_allOfKind_90
      · replace hf := ds_f c_17 hf
        refine lv_aload_n hx hb dX0_allOfKind_20 rfl (lv_at hl 0 rfl) ?_
        refine lv_iload hx hb dX0_allOfKind_21 (lv_at hl 4 rfl) ?_
        obtain ⟨q23, hq23, hf⟩ := ds_ob hf
        refine ds_calll (wr := [(h_o_seen, .inr (5, [.int o_seen_wide, .int o_seen_high, .int o_seen_hex, .long o_seen_ones, .long o_seen_twos]))]) (va_runV (As := [.int v5]) (rest := []) ⟨hx, hb, hml, hown, hts⟩ (c_X0_shiftsFor l dC dI ca sa h_o h_o_seen h_o_turned h_o_found H.size o_looked o_stepsFound o_firstX o_firstY o_secondX o_secondY o_found_r v5 q23 hq23) (cwV 1 hts (ds_gV kw_151 kw_152 kw_153 kw_154 kw_155) rfl rfl rfl (by decide +kernel) ⟨Nat.le_of_ble_eq_true rfl, Nat.le_of_ble_eq_true rfl⟩) ⟨ds_blind, va_recv hK hP (ci := 0) (q0 := 0) rfl rfl, ds_at hP hD hK hE hS hA [0, 2] rfl rfl _⟩ rfl rfl hl.1 rfl (lv_room (Nat.le_of_ble_eq_true rfl)) dX0_allOfKind_23 ⟨Nat.zero_le _, Nat.zero_le _⟩) hP hD hS hA [0, 2] [1] rfl rfl rfl (by decide) (fun H locs hP hD hS => ?_)
        have hP : va_P (dC, dI) vwCl [(h_o_seen, .inr (5, [.int o_seen_wide, .int o_seen_high, .int o_seen_hex, .long o_seen_ones, .long o_seen_twos])), (h_o, .inr (0, [.ref h_o_seen, .ref h_o_turned, .ref h_o_found, .int o_looked, .int o_stepsFound, .int o_firstX, .int o_firstY, .int o_secondX, .int o_secondY])), (h_o_found, .inl (ca 1, 12, .inr (.inl o_found_r)))] H := hP
        have hD : va_D A [(h_o_seen, .inr (5, [.int o_seen_wide, .int o_seen_high, .int o_seen_hex, .long o_seen_ones, .long o_seen_twos])), (h_o, .inr (0, [.ref h_o_seen, .ref h_o_turned, .ref h_o_found, .int o_looked, .int o_stepsFound, .int o_firstX, .int o_firstY, .int o_secondX, .int o_secondY])), (h_o_found, .inl (ca 1, 12, .inr (.inl o_found_r)))] := hD
        refine lv_lstore (lv' := [(6, .long q23), (0, .ref h_o), (1, .int p1), (2, .int p2), (3, .long u3), (5, .int v5)]) hx hb dX0_allOfKind_26 hl (by decide) rfl (fun ls hl => ?_)
        refine lv_lload hx hb dX0_allOfKind_28 (lv_at hl 0 rfl) ?_
        refine lv_lconst (v := 0) hx hb dX0_allOfKind_30 (by decide) ?_
        refine W.lcmp hx hb dX0_allOfKind_31 ?_
        refine lv_if_eq (tgt := 83) hx hb dX0_allOfKind_32 (by decide) (fun c_32 => ?_) (fun c_32 => ?_)
        · replace hf := ds_t c_32 hf
          exact h1 (J_83 u3 v5 _ hf hG _ _ (hP.sub [1, 0, 2] rfl) (hD.sub [1, 0, 2] rfl rfl) hS _ (lv_sub hl [1, 2, 3, 4, 5] rfl))
        · replace hf := ds_f c_32 hf
          refine lv_aload_n hx hb dX0_allOfKind_35 rfl (lv_at hl 1 rfl) ?_
          refine va_get (D := (dC, dI)) (ci := 0) (v := .ref h_o_seen) (C := RX0) (T := TX0) (N := 9) hx hb hts (fun w h => List.mem_cons_of_mem _ (kc_X0 w h)) hown hK hP 1 rfl rfl 0 (by decide) (hg kw_129) (fun _ h9 => h9) rfl dX0_allOfKind_36 ?_
          refine va_getN (D := (dC, dI)) (ci := 5) (v := .int o_seen_hex) (C := RX6) (T := TX6) (N := 5) hx hb hts (fun w h => List.mem_cons_of_mem _ (kc_X6 w h)) hown hK hP 0 rfl rfl 2 (by decide) (va_Nw.use rfl (hE.1 _ kw_135)) (fun _ h9 => h9) rfl dX0_allOfKind_39 ?_
          refine lv_iload hx hb dX0_allOfKind_42 (lv_at hl 5 rfl) ?_
          refine lv_iload_n hx hb dX0_allOfKind_44 rfl (lv_at hl 2 rfl) ?_
          refine lv_iload_n hx hb dX0_allOfKind_45 rfl (lv_at hl 3 rfl) ?_
          obtain ⟨q46, hq46, hf⟩ := ds_ob hf
          refine ds_calli (wr := [(h_o_seen, .inr (5, [.int o_seen_wide, .int o_seen_high, .int o_seen_hex, .long o_seen_ones, .long o_seen_twos])), (h_o, .inr (0, [.ref h_o_seen, .ref h_o_turned, .ref h_o_found, .int o_looked, .int o_stepsFound, .int o_firstX, .int o_firstY, .int o_secondX, .int o_secondY])), (h_o_found, .inl (ca 1, 12, .inr (.inl o_found_r)))]) (va_runS (As := [.int o_seen_hex, .int v5, .int p1, .int p2]) (rest := []) ⟨hx, hb, hml, hown, hts⟩ (c_X1_turnedX l dC dI ca sa  H.size  o_seen_hex v5 p1 p2 q46 hq46) (va_cwS 4 hts (ds_gS kw_210 kw_93 kw_2 kw_94) rfl rfl rfl (by decide +kernel) ⟨Nat.le_of_ble_eq_true rfl, Nat.le_of_ble_eq_true rfl⟩) ⟨ds_blind, ds_at hP hD hK hE hS hA [] rfl rfl _⟩ rfl rfl hl.1 rfl (lv_room (Nat.le_of_ble_eq_true rfl)) dX0_allOfKind_46 ⟨Nat.zero_le _, Nat.zero_le _⟩) hP hD hS hA [] [0, 1, 2] rfl rfl rfl (by decide) (fun H locs hP hD hS => ?_)
          have hP : va_P (dC, dI) vwCl [(h_o_seen, .inr (5, [.int o_seen_wide, .int o_seen_high, .int o_seen_hex, .long o_seen_ones, .long o_seen_twos])), (h_o, .inr (0, [.ref h_o_seen, .ref h_o_turned, .ref h_o_found, .int o_looked, .int o_stepsFound, .int o_firstX, .int o_firstY, .int o_secondX, .int o_secondY])), (h_o_found, .inl (ca 1, 12, .inr (.inl o_found_r)))] H := hP
          have hD : va_D A [(h_o_seen, .inr (5, [.int o_seen_wide, .int o_seen_high, .int o_seen_hex, .long o_seen_ones, .long o_seen_twos])), (h_o, .inr (0, [.ref h_o_seen, .ref h_o_turned, .ref h_o_found, .int o_looked, .int o_stepsFound, .int o_firstX, .int o_firstY, .int o_secondX, .int o_secondY])), (h_o_found, .inl (ca 1, 12, .inr (.inl o_found_r)))] := hD
          refine lv_istore (lv' := [(8, .int q46), (6, .long q23), (0, .ref h_o), (1, .int p1), (2, .int p2), (3, .long u3), (5, .int v5)]) hx hb dX0_allOfKind_49 hl (by decide) rfl (fun ls hl => ?_)
          refine lv_aload_n hx hb dX0_allOfKind_51 rfl (lv_at hl 2 rfl) ?_
          refine va_get (D := (dC, dI)) (ci := 0) (v := .ref h_o_seen) (C := RX0) (T := TX0) (N := 9) hx hb hts (fun w h => List.mem_cons_of_mem _ (kc_X0 w h)) hown hK hP 1 rfl rfl 0 (by decide) (hg kw_129) (fun _ h9 => h9) rfl dX0_allOfKind_52 ?_
          refine va_getN (D := (dC, dI)) (ci := 5) (v := .int o_seen_hex) (C := RX6) (T := TX6) (N := 5) hx hb hts (fun w h => List.mem_cons_of_mem _ (kc_X6 w h)) hown hK hP 0 rfl rfl 2 (by decide) (va_Nw.use rfl (hE.1 _ kw_135)) (fun _ h9 => h9) rfl dX0_allOfKind_55 ?_
          refine lv_iload hx hb dX0_allOfKind_58 (lv_at hl 6 rfl) ?_
          refine lv_iload_n hx hb dX0_allOfKind_60 rfl (lv_at hl 3 rfl) ?_
          refine lv_iload_n hx hb dX0_allOfKind_61 rfl (lv_at hl 4 rfl) ?_
          obtain ⟨q62, hq62, hf⟩ := ds_ob hf
          refine ds_calli (wr := [(h_o_seen, .inr (5, [.int o_seen_wide, .int o_seen_high, .int o_seen_hex, .long o_seen_ones, .long o_seen_twos])), (h_o, .inr (0, [.ref h_o_seen, .ref h_o_turned, .ref h_o_found, .int o_looked, .int o_stepsFound, .int o_firstX, .int o_firstY, .int o_secondX, .int o_secondY])), (h_o_found, .inl (ca 1, 12, .inr (.inl o_found_r)))]) (va_runS (As := [.int o_seen_hex, .int v5, .int p1, .int p2]) (rest := []) ⟨hx, hb, hml, hown, hts⟩ (c_X1_turnedY l dC dI ca sa  H.size  o_seen_hex v5 p1 p2 q62 hq62) (va_cwS 4 hts (ds_gS kw_211 kw_96 kw_2 kw_97) rfl rfl rfl (by decide +kernel) ⟨Nat.le_of_ble_eq_true rfl, Nat.le_of_ble_eq_true rfl⟩) ⟨ds_blind, ds_at hP hD hK hE hS hA [] rfl rfl _⟩ rfl rfl hl.1 rfl (lv_room (Nat.le_of_ble_eq_true rfl)) dX0_allOfKind_62 ⟨Nat.zero_le _, Nat.zero_le _⟩) hP hD hS hA [] [0, 1, 2] rfl rfl rfl (by decide) (fun H locs hP hD hS => ?_)
          have hP : va_P (dC, dI) vwCl [(h_o_seen, .inr (5, [.int o_seen_wide, .int o_seen_high, .int o_seen_hex, .long o_seen_ones, .long o_seen_twos])), (h_o, .inr (0, [.ref h_o_seen, .ref h_o_turned, .ref h_o_found, .int o_looked, .int o_stepsFound, .int o_firstX, .int o_firstY, .int o_secondX, .int o_secondY])), (h_o_found, .inl (ca 1, 12, .inr (.inl o_found_r)))] H := hP
          have hD : va_D A [(h_o_seen, .inr (5, [.int o_seen_wide, .int o_seen_high, .int o_seen_hex, .long o_seen_ones, .long o_seen_twos])), (h_o, .inr (0, [.ref h_o_seen, .ref h_o_turned, .ref h_o_found, .int o_looked, .int o_stepsFound, .int o_firstX, .int o_firstY, .int o_secondX, .int o_secondY])), (h_o_found, .inl (ca 1, 12, .inr (.inl o_found_r)))] := hD
          refine lv_istore (lv' := [(9, .int q62), (8, .int q46), (6, .long q23), (0, .ref h_o), (1, .int p1), (2, .int p2), (3, .long u3), (5, .int v5)]) hx hb dX0_allOfKind_65 hl (by decide) rfl (fun ls hl => ?_)
          refine lv_lload_n hx hb dX0_allOfKind_67 rfl (lv_at hl 6 rfl) ?_
          refine lv_aload_n hx hb dX0_allOfKind_68 rfl (lv_at hl 3 rfl) ?_
          refine va_get (D := (dC, dI)) (ci := 0) (v := .ref h_o_seen) (C := RX0) (T := TX0) (N := 9) hx hb hts (fun w h => List.mem_cons_of_mem _ (kc_X0 w h)) hown hK hP 1 rfl rfl 0 (by decide) (hg kw_129) (fun _ h9 => h9) rfl dX0_allOfKind_69 ?_
          refine lv_lload hx hb dX0_allOfKind_72 (lv_at hl 2 rfl) ?_
          refine lv_iload hx hb dX0_allOfKind_74 (lv_at hl 1 rfl) ?_
          refine lv_iload hx hb dX0_allOfKind_76 (lv_at hl 0 rfl) ?_
          obtain ⟨q78, hq78, hf⟩ := ds_ob hf
          refine ds_calll (wr := [(h_o, .inr (0, [.ref h_o_seen, .ref h_o_turned, .ref h_o_found, .int o_looked, .int o_stepsFound, .int o_firstX, .int o_firstY, .int o_secondX, .int o_secondY])), (h_o_found, .inl (ca 1, 12, .inr (.inl o_found_r)))]) (va_runV (As := [.long q23, .int q46, .int q62]) (rest := [.long u3]) ⟨hx, hb, hml, hown, hts⟩ (c_X6_rolled l dC dI ca sa h_o_seen H.size o_seen_wide o_seen_high o_seen_hex o_seen_ones o_seen_twos q23 q46 q62 q78 hq78) (cwV 3 hts (ds_gV kw_252 kw_82 kw_83 kw_59 kw_84) rfl rfl rfl (by decide +kernel) ⟨Nat.le_of_ble_eq_true rfl, Nat.le_of_ble_eq_true rfl⟩) ⟨ds_blind, va_recv hK hP (ci := 5) (q0 := 0) rfl rfl, ds_at hP hD hK hE hS hA [0] rfl rfl _⟩ rfl rfl hl.1 rfl (lv_room (Nat.le_of_ble_eq_true rfl)) dX0_allOfKind_78 ⟨Nat.zero_le _, Nat.zero_le _⟩) hP hD hS hA [0] [1, 2] rfl rfl rfl (by decide) (fun H locs hP hD hS => ?_)
          have hP : va_P (dC, dI) vwCl [(h_o, .inr (0, [.ref h_o_seen, .ref h_o_turned, .ref h_o_found, .int o_looked, .int o_stepsFound, .int o_firstX, .int o_firstY, .int o_secondX, .int o_secondY])), (h_o_found, .inl (ca 1, 12, .inr (.inl o_found_r))), (h_o_seen, .inr (5, [.int o_seen_wide, .int o_seen_high, .int o_seen_hex, .long o_seen_ones, .long o_seen_twos]))] H := hP
          have hD : va_D A [(h_o, .inr (0, [.ref h_o_seen, .ref h_o_turned, .ref h_o_found, .int o_looked, .int o_stepsFound, .int o_firstX, .int o_firstY, .int o_secondX, .int o_secondY])), (h_o_found, .inl (ca 1, 12, .inr (.inl o_found_r))), (h_o_seen, .inr (5, [.int o_seen_wide, .int o_seen_high, .int o_seen_hex, .long o_seen_ones, .long o_seen_twos]))] := hD
          refine lv_lor hx hb dX0_allOfKind_81 ?_
          refine lv_lstore_n (lv' := [(3, .long (u3 ||| q78)), (9, .int q62), (8, .int q46), (6, .long q23), (0, .ref h_o), (1, .int p1), (2, .int p2), (5, .int v5)]) hx hb dX0_allOfKind_82 rfl hl (by decide) rfl (fun ls hl => ?_)
          exact h1 (J_83 (u3 ||| q78) v5 _ hf hG _ _ (hP.sub [0, 2, 1] rfl) (hD.sub [0, 2, 1] rfl rfl) hS _ (lv_sub hl [4, 5, 6, 0, 7] rfl))
  unfold fX0_allOfKind at hf
  refine lv_lconst (v := 0) hx hb dX0_allOfKind_0 (by decide) ?_
  refine lv_lstore_n (lv' := [(3, .long (0 : Int64)), (0, .ref h_o), (1, .int p1), (2, .int p2)]) hx hb dX0_allOfKind_1 rfl hl (by decide) rfl (fun ls hl => ?_)
  refine lv_iconst (v := 0) hx hb dX0_allOfKind_2 (by decide) ?_
  refine lv_istore (lv' := [(5, .int (0 : Int32)), (3, .long (0 : Int64)), (0, .ref h_o), (1, .int p1), (2, .int p2)]) hx hb dX0_allOfKind_3 hl (by decide) rfl (fun ls hl => ?_)
  exact h1 (J_5  1000 (0 : Int64) (0 : Int32) _ hf hG _ _ hP hD hS _ (lv_sub hl [2, 3, 4, 1, 0] rfl))
theorem dX0_kindsAhead_0 : decode cX0_kindsAhead 0 = .ok (.lconst 0, 1) := by decide +kernel
theorem dX0_kindsAhead_1 : decode cX0_kindsAhead 1 = .ok (.lstore_n 3, 1) := by decide +kernel
theorem dX0_kindsAhead_2 : decode cX0_kindsAhead 2 = .ok (.iconst 0, 1) := by decide +kernel
theorem dX0_kindsAhead_3 : decode cX0_kindsAhead 3 = .ok (.istore 5, 2) := by decide +kernel
theorem dX0_kindsAhead_5 : decode cX0_kindsAhead 5 = .ok (.iconst 0, 1) := by decide +kernel
theorem dX0_kindsAhead_6 : decode cX0_kindsAhead 6 = .ok (.istore 6, 2) := by decide +kernel
theorem dX0_kindsAhead_8 : decode cX0_kindsAhead 8 = .ok (.iload 6, 2) := by decide +kernel
theorem dX0_kindsAhead_10 : decode cX0_kindsAhead 10 = .ok (.aload_n 0, 1) := by decide +kernel
theorem dX0_kindsAhead_11 : decode cX0_kindsAhead 11 = .ok (.getfield 12, 3) := by decide +kernel
theorem dX0_kindsAhead_14 : decode cX0_kindsAhead 14 = .ok (.getfield 177, 3) := by decide +kernel
theorem dX0_kindsAhead_17 : decode cX0_kindsAhead 17 = .ok (.if_icmp .ge 74, 3) := by decide +kernel
theorem dX0_kindsAhead_20 : decode cX0_kindsAhead 20 = .ok (.iconst 0, 1) := by decide +kernel
theorem dX0_kindsAhead_21 : decode cX0_kindsAhead 21 = .ok (.istore 7, 2) := by decide +kernel
theorem dX0_kindsAhead_23 : decode cX0_kindsAhead 23 = .ok (.iload 7, 2) := by decide +kernel
theorem dX0_kindsAhead_25 : decode cX0_kindsAhead 25 = .ok (.aload_n 0, 1) := by decide +kernel
theorem dX0_kindsAhead_26 : decode cX0_kindsAhead 26 = .ok (.getfield 12, 3) := by decide +kernel
theorem dX0_kindsAhead_29 : decode cX0_kindsAhead 29 = .ok (.getfield 180, 3) := by decide +kernel
theorem dX0_kindsAhead_32 : decode cX0_kindsAhead 32 = .ok (.if_icmp .ge 53, 3) := by decide +kernel
theorem dX0_kindsAhead_35 : decode cX0_kindsAhead 35 = .ok (.lload_n 3, 1) := by decide +kernel
theorem dX0_kindsAhead_36 : decode cX0_kindsAhead 36 = .ok (.iload 7, 2) := by decide +kernel
theorem dX0_kindsAhead_38 : decode cX0_kindsAhead 38 = .ok (.iload 6, 2) := by decide +kernel
theorem dX0_kindsAhead_40 : decode cX0_kindsAhead 40 = .ok (.invokestatic 183, 3) := by decide +kernel
theorem dX0_kindsAhead_43 : decode cX0_kindsAhead 43 = .ok (.land, 1) := by decide +kernel
theorem dX0_kindsAhead_44 : decode cX0_kindsAhead 44 = .ok (.lconst 0, 1) := by decide +kernel
theorem dX0_kindsAhead_45 : decode cX0_kindsAhead 45 = .ok (.lcmp, 1) := by decide +kernel
theorem dX0_kindsAhead_46 : decode cX0_kindsAhead 46 = .ok (.ifCond .ne 33, 3) := by decide +kernel
theorem dX0_kindsAhead_49 : decode cX0_kindsAhead 49 = .ok (.aload_n 0, 1) := by decide +kernel
theorem dX0_kindsAhead_50 : decode cX0_kindsAhead 50 = .ok (.iload 7, 2) := by decide +kernel
theorem dX0_kindsAhead_52 : decode cX0_kindsAhead 52 = .ok (.iload 6, 2) := by decide +kernel
theorem dX0_kindsAhead_54 : decode cX0_kindsAhead 54 = .ok (.invokevirtual 186, 3) := by decide +kernel
theorem dX0_kindsAhead_57 : decode cX0_kindsAhead 57 = .ok (.lstore 8, 2) := by decide +kernel
theorem dX0_kindsAhead_59 : decode cX0_kindsAhead 59 = .ok (.lload 8, 2) := by decide +kernel
theorem dX0_kindsAhead_61 : decode cX0_kindsAhead 61 = .ok (.lload_n 1, 1) := by decide +kernel
theorem dX0_kindsAhead_62 : decode cX0_kindsAhead 62 = .ok (.land, 1) := by decide +kernel
theorem dX0_kindsAhead_63 : decode cX0_kindsAhead 63 = .ok (.lconst 0, 1) := by decide +kernel
theorem dX0_kindsAhead_64 : decode cX0_kindsAhead 64 = .ok (.lcmp, 1) := by decide +kernel
theorem dX0_kindsAhead_65 : decode cX0_kindsAhead 65 = .ok (.ifCond .eq 6, 3) := by decide +kernel
theorem dX0_kindsAhead_68 : decode cX0_kindsAhead 68 = .ok (.iload 5, 2) := by decide +kernel
theorem dX0_kindsAhead_70 : decode cX0_kindsAhead 70 = .ok (.ireturn, 1) := by decide +kernel
theorem dX0_kindsAhead_71 : decode cX0_kindsAhead 71 = .ok (.lload_n 3, 1) := by decide +kernel
theorem dX0_kindsAhead_72 : decode cX0_kindsAhead 72 = .ok (.lload 8, 2) := by decide +kernel
theorem dX0_kindsAhead_74 : decode cX0_kindsAhead 74 = .ok (.lor, 1) := by decide +kernel
theorem dX0_kindsAhead_75 : decode cX0_kindsAhead 75 = .ok (.lstore_n 3, 1) := by decide +kernel
theorem dX0_kindsAhead_76 : decode cX0_kindsAhead 76 = .ok (.iinc 5 1, 3) := by decide +kernel
theorem dX0_kindsAhead_79 : decode cX0_kindsAhead 79 = .ok (.iinc 7 1, 3) := by decide +kernel
theorem dX0_kindsAhead_82 : decode cX0_kindsAhead 82 = .ok (.goto (-59), 3) := by decide +kernel
theorem dX0_kindsAhead_85 : decode cX0_kindsAhead 85 = .ok (.iinc 6 1, 3) := by decide +kernel
theorem dX0_kindsAhead_88 : decode cX0_kindsAhead 88 = .ok (.goto (-80), 3) := by decide +kernel
theorem dX0_kindsAhead_91 : decode cX0_kindsAhead 91 = .ok (.iload 5, 2) := by decide +kernel
theorem dX0_kindsAhead_93 : decode cX0_kindsAhead 93 = .ok (.ireturn, 1) := by decide +kernel
def fX0_kindsAhead_85 (u3 : Int64) (v5 : Int32) (v6 : Int32) : Option ((Int64 × Int32 × Int32) ⊕ (Int32)) :=
  some (.inl (u3, v5, (v6 + 1)))
def fX0_kindsAhead_79 (u3 : Int64) (v5 : Int32) (v7 : Int32) : Option ((Int64 × Int32 × Int32) ⊕ ((Int64 × Int32 × Int32) ⊕ (Int32))) :=
  some (.inl (u3, v5, (v7 + 1)))
def fX0_kindsAhead_23_b (o_seen_wide : Int32) (o_seen_high : Int32) (o_seen_hex : Int32) (o_found_r : Nat → Int64) (p1 : Int64) (v6 : Int32) (u3 : Int64) (v5 : Int32) (v7 : Int32) : Option ((Int64 × Int32 × Int32) ⊕ ((Int64 × Int32 × Int32) ⊕ (Int32))) :=
  if o_seen_wide ≤ v7 then Option.bind (fX0_kindsAhead_85 u3 v5 v6) fun z => some (.inr z) else Option.bind (fX6_bit v7 v6) fun q40 => if (lg_cmp (u3 &&& q40) (0 : Int64)) = 0 then Option.bind (fX0_allOfKind o_seen_wide o_seen_high o_seen_hex o_found_r v7 v6) fun q54 => if (lg_cmp (q54 &&& p1) (0 : Int64)) = 0 then fX0_kindsAhead_79 (u3 ||| q54) (v5 + 1) v7 else some (.inr (.inr v5)) else fX0_kindsAhead_79 u3 v5 v7
def fX0_kindsAhead_23 (o_seen_wide : Int32) (o_seen_high : Int32) (o_seen_hex : Int32) (o_found_r : Nat → Int64) (p1 : Int64) (v6 : Int32) (u3 : Int64) (v5 : Int32) (v7 : Int32) : Option ((Int64 × Int32 × Int32) ⊕ (Int32)) := ds_it (fun s => fX0_kindsAhead_23_b o_seen_wide o_seen_high o_seen_hex o_found_r p1 v6 s.1 s.2.1 s.2.2) 1000 (u3, v5, v7)
def fX0_kindsAhead_8_b (o_seen_wide : Int32) (o_seen_high : Int32) (o_seen_hex : Int32) (o_found_r : Nat → Int64) (p1 : Int64) (u3 : Int64) (v5 : Int32) (v6 : Int32) : Option ((Int64 × Int32 × Int32) ⊕ (Int32)) :=
  if o_seen_high ≤ v6 then some (.inr v5) else fX0_kindsAhead_23 o_seen_wide o_seen_high o_seen_hex o_found_r p1 v6 u3 v5 (0 : Int32)
def fX0_kindsAhead_8 (o_seen_wide : Int32) (o_seen_high : Int32) (o_seen_hex : Int32) (o_found_r : Nat → Int64) (p1 : Int64) (u3 : Int64) (v5 : Int32) (v6 : Int32) : Option (Int32) := ds_it (fun s => fX0_kindsAhead_8_b o_seen_wide o_seen_high o_seen_hex o_found_r p1 s.1 s.2.1 s.2.2) 1000 (u3, v5, v6)
def fX0_kindsAhead (o_seen_wide : Int32) (o_seen_high : Int32) (o_seen_hex : Int32) (o_found_r : Nat → Int64) (p1 : Int64) : Option (Int32) :=
  fX0_kindsAhead_8 o_seen_wide o_seen_high o_seen_hex o_found_r p1 (0 : Int64) (0 : Int32) (0 : Int32)
set_option maxHeartbeats 4000000 in
set_option maxRecDepth 100000 in
theorem c_X0_kindsAhead (l : Launch) (dC : Nat → ClassId) (dI : Nat → Nat → Nat) (ca : Nat → ClassId) (sa : Nat → Nat) (h_o : Nat) (h_o_seen : Nat) (h_o_turned : Nat) (h_o_found : Nat) (sz : Nat) (o_looked : Int32) (o_stepsFound : Int32) (o_firstX : Int32) (o_firstY : Int32) (o_secondX : Int32) (o_secondY : Int32) (o_seen_wide : Int32) (o_seen_high : Int32) (o_seen_hex : Int32) (o_seen_ones : Int64) (o_seen_twos : Int64) (o_found_r : Nat → Int64) (p1 : Int64) (res : Int32) (hf : fX0_kindsAhead o_seen_wide o_seen_high o_seen_hex o_found_r p1 = some res) : Met l yX0_kindsAhead (Cond.code yX0_kindsAhead cX0_kindsAhead 10 (some .int) :: ds_gw) { frames := 4, cells := 0, slots := 0, locals := 102 } (va_Pc [.ref h_o, .long p1] (ds_Pre dC dI ca sa [(h_o, .inr (0, [.ref h_o_seen, .ref h_o_turned, .ref h_o_found, .int o_looked, .int o_stepsFound, .int o_firstX, .int o_firstY, .int o_secondX, .int o_secondY])), (h_o_seen, .inr (5, [.int o_seen_wide, .int o_seen_high, .int o_seen_hex, .long o_seen_ones, .long o_seen_twos])), (h_o_found, .inl (ca 1, 12, .inr (.inl o_found_r)))] sz)) (va_Qi (fun r (_ : Unit) => r = res) (ds_B dC dI (va_A [(h_o, .inr (0, [.ref h_o_seen, .ref h_o_turned, .ref h_o_found, .int o_looked, .int o_stepsFound, .int o_firstX, .int o_firstY, .int o_secondX, .int o_secondY])), (h_o_seen, .inr (5, [.int o_seen_wide, .int o_seen_high, .int o_seen_hex, .long o_seen_ones, .long o_seen_twos])), (h_o_found, .inl (ca 1, 12, .inr (.inl o_found_r)))] sz) [(h_o, .inr (0, [.ref h_o_seen, .ref h_o_turned, .ref h_o_found, .int o_looked, .int o_stepsFound, .int o_firstX, .int o_firstY, .int o_secondX, .int o_secondY])), (h_o_seen, .inr (5, [.int o_seen_wide, .int o_seen_high, .int o_seen_hex, .long o_seen_ones, .long o_seen_twos])), (h_o_found, .inl (ca 1, 12, .inr (.inl o_found_r)))]) (va_A [(h_o, .inr (0, [.ref h_o_seen, .ref h_o_turned, .ref h_o_found, .int o_looked, .int o_stepsFound, .int o_firstX, .int o_firstY, .int o_secondX, .int o_secondY])), (h_o_seen, .inr (5, [.int o_seen_wide, .int o_seen_high, .int o_seen_hex, .long o_seen_ones, .long o_seen_twos])), (h_o_found, .inl (ca 1, 12, .inr (.inl o_found_r)))] sz)) 0 0 (va_A [(h_o, .inr (0, [.ref h_o_seen, .ref h_o_turned, .ref h_o_found, .int o_looked, .int o_stepsFound, .int o_firstX, .int o_firstY, .int o_secondX, .int o_secondY])), (h_o_seen, .inr (5, [.int o_seen_wide, .int o_seen_high, .int o_seen_hex, .long o_seen_ones, .long o_seen_twos])), (h_o_found, .inl (ca 1, 12, .inr (.inl o_found_r)))] sz) := by
  refine Met.ofW (cc := cX0_kindsAhead) (maxL := 10) (ret := (some .int)) (by decide) rfl ?_
  intro p e s m args below meth c s₁ B hml hv
  obtain ⟨rfl, hsz, hP, hK, hD0, hE⟩ := hv
  have hx := B.exec
  have hb := B.bytes
  have hr := B.returns
  have hts := atoms_spec (ws := Cond.code yX0_kindsAhead cX0_kindsAhead 10 (some .int) :: ds_gw) B.pre
  have hg : ∀ {w : Cond}, w ∈ ds_gw → w.before _ s = true := fun h => hts _ (List.mem_cons_of_mem _ h)
  have hown : s.vm.findClass RX0 = some m.cls := findClass_of_methodNamed B.named
  have hlocks := B.notSynchronized
  subst hsz
  have hD := hD0.self (sz := s.heap.size)
  generalize hAe : va_A [(h_o, .inr (0, [.ref h_o_seen, .ref h_o_turned, .ref h_o_found, .int o_looked, .int o_stepsFound, .int o_firstX, .int o_firstY, .int o_secondX, .int o_secondY])), (h_o_seen, .inr (5, [.int o_seen_wide, .int o_seen_high, .int o_seen_hex, .long o_seen_ones, .long o_seen_twos])), (h_o_found, .inl (ca 1, 12, .inr (.inl o_found_r)))] s.heap.size = A at hD hE ⊢
  have hA : ∀ q : Nat, s.heap.size ≤ q → A q := fun q h => by rw [← hAe]; exact Or.inr h
  have hS : va_S A s.heap s.heap [] := va_S.rf
  have hl := lv_entry ([.ref h_o, .long p1]) (n := 10) (Nat.le_of_ble_eq_true rfl)
  rw [lg_entry_eq]
  generalize (lg_sl ([.ref h_o, .long p1]) ++ List.replicate (10 - (lg_sl ([.ref h_o, .long p1])).length) Slot.unset).toArray = ls at hl ⊢
  have hl : lv_has ls 10 [(0, .ref h_o), (1, .long p1)] := hl
  obtain ⟨G0, eG0⟩ : ∃ G : Int32 → Prop, G = (fun r => r = res) := ⟨_, rfl⟩
  obtain ⟨rr, hrr⟩ : ∃ z, z = res := ⟨_, rfl⟩
  rw [← hrr] at hf
  have hG : G0 rr := by subst eG0; exact hrr
  refine ds_cap (fun WW h1 h2 => ?_)
  have J_8 : ∀ (n : Nat) (u3 : Int64) (v5 : Int32) (v6 : Int32) (rr : Int32) (hf : ds_it (fun s => fX0_kindsAhead_8_b o_seen_wide o_seen_high o_seen_hex o_found_r p1 s.1 s.2.1 s.2.2) n (u3, v5, v6) = some rr) (hG : G0 rr) (H : Heap) (locs : List Loc) (hP : va_P (dC, dI) vwCl [(h_o, .inr (0, [.ref h_o_seen, .ref h_o_turned, .ref h_o_found, .int o_looked, .int o_stepsFound, .int o_firstX, .int o_firstY, .int o_secondX, .int o_secondY])), (h_o_seen, .inr (5, [.int o_seen_wide, .int o_seen_high, .int o_seen_hex, .long o_seen_ones, .long o_seen_twos])), (h_o_found, .inl (ca 1, 12, .inr (.inl o_found_r)))] H) (hD : va_D A [(h_o, .inr (0, [.ref h_o_seen, .ref h_o_turned, .ref h_o_found, .int o_looked, .int o_stepsFound, .int o_firstX, .int o_firstY, .int o_secondX, .int o_secondY])), (h_o_seen, .inr (5, [.int o_seen_wide, .int o_seen_high, .int o_seen_hex, .long o_seen_ones, .long o_seen_twos])), (h_o_found, .inl (ca 1, 12, .inr (.inl o_found_r)))]) (hS : va_S A s.heap H locs) (ls : Array Slot) (hl : lv_has ls 10 [(0, .ref h_o), (1, .long p1), (3, .long u3), (5, .int v5), (6, .int v6)]), WW H locs (F0 m 8 ls []) := by
    intro  n
    induction n with
    | zero => intro u3 v5 v6 rr hf; exact (ds_it_zero hf).elim
    | succ n ih8 =>
      intro u3 v5 v6 rr hf hG H locs hP hD hS ls hl
      refine h2 ?_
      obtain ⟨rr, hf, hG⟩ := ds_it_succ hf hG
      replace hf : fX0_kindsAhead_8_b o_seen_wide o_seen_high o_seen_hex o_found_r p1 u3 v5 v6 = some rr := hf
      obtain ⟨G1, eG1⟩ : ∃ G : ((Int64 × Int32 × Int32) ⊕ (Int32)) → Prop, G = ds_G (fun s' => ∃ r', ds_it (fun s => fX0_kindsAhead_8_b o_seen_wide o_seen_high o_seen_hex o_found_r p1 s.1 s.2.1 s.2.2) n s' = some r' ∧ G0 r') G0 := ⟨_, rfl⟩
      rw [← eG1] at hG
      have J_85 : ∀ (u3 : Int64) (v5 : Int32) (v6 : Int32) (rr : (Int64 × Int32 × Int32) ⊕ (Int32)) (hf : fX0_kindsAhead_85 u3 v5 v6 = some rr) (hG : G1 rr) (H : Heap) (locs : List Loc) (hP : va_P (dC, dI) vwCl [(h_o, .inr (0, [.ref h_o_seen, .ref h_o_turned, .ref h_o_found, .int o_looked, .int o_stepsFound, .int o_firstX, .int o_firstY, .int o_secondX, .int o_secondY])), (h_o_seen, .inr (5, [.int o_seen_wide, .int o_seen_high, .int o_seen_hex, .long o_seen_ones, .long o_seen_twos])), (h_o_found, .inl (ca 1, 12, .inr (.inl o_found_r)))] H) (hD : va_D A [(h_o, .inr (0, [.ref h_o_seen, .ref h_o_turned, .ref h_o_found, .int o_looked, .int o_stepsFound, .int o_firstX, .int o_firstY, .int o_secondX, .int o_secondY])), (h_o_seen, .inr (5, [.int o_seen_wide, .int o_seen_high, .int o_seen_hex, .long o_seen_ones, .long o_seen_twos])), (h_o_found, .inl (ca 1, 12, .inr (.inl o_found_r)))]) (hS : va_S A s.heap H locs) (ls : Array Slot) (hl : lv_has ls 10 [(0, .ref h_o), (1, .long p1), (3, .long u3), (5, .int v5), (6, .int v6)]), WW H locs (F0 m 85 ls []) := by
        intro u3 v5 v6 rr hf hG H locs hP hD hS ls hl
        refine h2 ?_
        unfold fX0_kindsAhead_85 at hf
        refine lv_iinc (v := (v6 + 1)) (lv' := [(6, .int (v6 + 1)), (0, .ref h_o), (1, .long p1), (3, .long u3), (5, .int v5)]) hx hb dX0_kindsAhead_85 hl (k := 4) rfl rfl (by decide) rfl (fun ls hl => ?_)
        refine lv_goto (tgt := 8) hx hb dX0_kindsAhead_88 (by decide) ?_
        have hf := Option.some.inj hf
        subst hf
        rw [eG1] at hG
        obtain ⟨rr, hf, hG⟩ := hG
        exact h1 (ih8 u3 v5 (v6 + 1) rr hf hG _ _ hP hD hS _ (lv_sub hl [1, 2, 3, 4, 0] rfl))
      have J_23 : ∀ (v6 : Int32) (n : Nat) (u3 : Int64) (v5 : Int32) (v7 : Int32) (rr : (Int64 × Int32 × Int32) ⊕ (Int32)) (hf : ds_it (fun s => fX0_kindsAhead_23_b o_seen_wide o_seen_high o_seen_hex o_found_r p1 v6 s.1 s.2.1 s.2.2) n (u3, v5, v7) = some rr) (hG : G1 rr) (H : Heap) (locs : List Loc) (hP : va_P (dC, dI) vwCl [(h_o, .inr (0, [.ref h_o_seen, .ref h_o_turned, .ref h_o_found, .int o_looked, .int o_stepsFound, .int o_firstX, .int o_firstY, .int o_secondX, .int o_secondY])), (h_o_seen, .inr (5, [.int o_seen_wide, .int o_seen_high, .int o_seen_hex, .long o_seen_ones, .long o_seen_twos])), (h_o_found, .inl (ca 1, 12, .inr (.inl o_found_r)))] H) (hD : va_D A [(h_o, .inr (0, [.ref h_o_seen, .ref h_o_turned, .ref h_o_found, .int o_looked, .int o_stepsFound, .int o_firstX, .int o_firstY, .int o_secondX, .int o_secondY])), (h_o_seen, .inr (5, [.int o_seen_wide, .int o_seen_high, .int o_seen_hex, .long o_seen_ones, .long o_seen_twos])), (h_o_found, .inl (ca 1, 12, .inr (.inl o_found_r)))]) (hS : va_S A s.heap H locs) (ls : Array Slot) (hl : lv_has ls 10 [(0, .ref h_o), (1, .long p1), (3, .long u3), (5, .int v5), (6, .int v6), (7, .int v7)]), WW H locs (F0 m 23 ls []) := by
        intro v6 n
        induction n with
        | zero => intro u3 v5 v7 rr hf; exact (ds_it_zero hf).elim
        | succ n ih23 =>
          intro u3 v5 v7 rr hf hG H locs hP hD hS ls hl
          refine h2 ?_
          obtain ⟨rr, hf, hG⟩ := ds_it_succ hf hG
          replace hf : fX0_kindsAhead_23_b o_seen_wide o_seen_high o_seen_hex o_found_r p1 v6 u3 v5 v7 = some rr := hf
          obtain ⟨G2, eG2⟩ : ∃ G : ((Int64 × Int32 × Int32) ⊕ ((Int64 × Int32 × Int32) ⊕ (Int32))) → Prop, G = ds_G (fun s' => ∃ r', ds_it (fun s => fX0_kindsAhead_23_b o_seen_wide o_seen_high o_seen_hex o_found_r p1 v6 s.1 s.2.1 s.2.2) n s' = some r' ∧ G1 r') G1 := ⟨_, rfl⟩
          rw [← eG2] at hG
          have J_79 : ∀ (u3 : Int64) (v5 : Int32) (v7 : Int32) (rr : (Int64 × Int32 × Int32) ⊕ ((Int64 × Int32 × Int32) ⊕ (Int32))) (hf : fX0_kindsAhead_79 u3 v5 v7 = some rr) (hG : G2 rr) (H : Heap) (locs : List Loc) (hP : va_P (dC, dI) vwCl [(h_o, .inr (0, [.ref h_o_seen, .ref h_o_turned, .ref h_o_found, .int o_looked, .int o_stepsFound, .int o_firstX, .int o_firstY, .int o_secondX, .int o_secondY])), (h_o_seen, .inr (5, [.int o_seen_wide, .int o_seen_high, .int o_seen_hex, .long o_seen_ones, .long o_seen_twos])), (h_o_found, .inl (ca 1, 12, .inr (.inl o_found_r)))] H) (hD : va_D A [(h_o, .inr (0, [.ref h_o_seen, .ref h_o_turned, .ref h_o_found, .int o_looked, .int o_stepsFound, .int o_firstX, .int o_firstY, .int o_secondX, .int o_secondY])), (h_o_seen, .inr (5, [.int o_seen_wide, .int o_seen_high, .int o_seen_hex, .long o_seen_ones, .long o_seen_twos])), (h_o_found, .inl (ca 1, 12, .inr (.inl o_found_r)))]) (hS : va_S A s.heap H locs) (ls : Array Slot) (hl : lv_has ls 10 [(0, .ref h_o), (1, .long p1), (3, .long u3), (5, .int v5), (6, .int v6), (7, .int v7)]), WW H locs (F0 m 79 ls []) := by
            intro u3 v5 v7 rr hf hG H locs hP hD hS ls hl
            refine h2 ?_
            unfold fX0_kindsAhead_79 at hf
            refine lv_iinc (v := (v7 + 1)) (lv' := [(7, .int (v7 + 1)), (0, .ref h_o), (1, .long p1), (3, .long u3), (5, .int v5), (6, .int v6)]) hx hb dX0_kindsAhead_79 hl (k := 5) rfl rfl (by decide) rfl (fun ls hl => ?_)
            refine lv_goto (tgt := 23) hx hb dX0_kindsAhead_82 (by decide) ?_
            have hf := Option.some.inj hf
            subst hf
            rw [eG2] at hG
            obtain ⟨rr, hf, hG⟩ := hG
            exact h1 (ih23 u3 v5 (v7 + 1) rr hf hG _ _ hP hD hS _ (lv_sub hl [1, 2, 3, 4, 5, 0] rfl))
          unfold fX0_kindsAhead_23_b at hf
          refine lv_iload hx hb dX0_kindsAhead_23 (lv_at hl 5 rfl) ?_
          refine lv_aload_n hx hb dX0_kindsAhead_25 rfl (lv_at hl 0 rfl) ?_
          refine va_get (D := (dC, dI)) (ci := 0) (v := .ref h_o_seen) (C := RX0) (T := TX0) (N := 9) hx hb hts (fun w h => List.mem_cons_of_mem _ (kc_X0 w h)) hown hK hP 0 rfl rfl 0 (by decide) (hg kw_129) (fun _ h9 => h9) rfl dX0_kindsAhead_26 ?_
          refine va_getN (D := (dC, dI)) (ci := 5) (v := .int o_seen_wide) (C := RX6) (T := TX6) (N := 5) hx hb hts (fun w h => List.mem_cons_of_mem _ (kc_X6 w h)) hown hK hP 1 rfl rfl 0 (by decide) (va_Nw.use rfl (hE.1 _ kw_253)) (fun _ h9 => h9) rfl dX0_kindsAhead_29 ?_
          refine lv_icmp_ge (tgt := 85) hx hb dX0_kindsAhead_32 (by decide) (fun c_32 => ?_) (fun c_32 => ?_)
          · replace hf := ds_t c_32 hf
            obtain ⟨rr, hr_0, hf⟩ := ds_ob hf
            have hf := Option.some.inj hf
            subst hf
            rw [eG2] at hG
            replace hG : G1 rr := hG
            have hf := hr_0
            exact h1 (J_85 u3 v5 v6 _ hf hG _ _ hP hD hS _ (lv_sub hl [0, 1, 2, 3, 4] rfl))
          · replace hf := ds_f c_32 hf
            refine lv_lload_n hx hb dX0_kindsAhead_35 rfl (lv_at hl 2 rfl) ?_
            refine lv_iload hx hb dX0_kindsAhead_36 (lv_at hl 5 rfl) ?_
            refine lv_iload hx hb dX0_kindsAhead_38 (lv_at hl 4 rfl) ?_
            obtain ⟨q40, hq40, hf⟩ := ds_ob hf
            refine ds_calll (wr := [(h_o, .inr (0, [.ref h_o_seen, .ref h_o_turned, .ref h_o_found, .int o_looked, .int o_stepsFound, .int o_firstX, .int o_firstY, .int o_secondX, .int o_secondY])), (h_o_seen, .inr (5, [.int o_seen_wide, .int o_seen_high, .int o_seen_hex, .long o_seen_ones, .long o_seen_twos])), (h_o_found, .inl (ca 1, 12, .inr (.inl o_found_r)))]) (va_runS (As := [.int v7, .int v6]) (rest := [.long u3]) ⟨hx, hb, hml, hown, hts⟩ (c_X6_bit l dC dI ca sa  H.size  v7 v6 q40 hq40) (va_cwS 2 hts (ds_gS kw_254 kw_103 kw_59 kw_104) rfl rfl rfl (by decide +kernel) ⟨Nat.le_of_ble_eq_true rfl, Nat.le_of_ble_eq_true rfl⟩) ⟨ds_blind, ds_at hP hD hK hE hS hA [] rfl rfl _⟩ rfl rfl hl.1 rfl (lv_room (Nat.le_of_ble_eq_true rfl)) dX0_kindsAhead_40 ⟨Nat.zero_le _, Nat.zero_le _⟩) hP hD hS hA [] [0, 1, 2] rfl rfl rfl (by decide) (fun H locs hP hD hS => ?_)
            have hP : va_P (dC, dI) vwCl [(h_o, .inr (0, [.ref h_o_seen, .ref h_o_turned, .ref h_o_found, .int o_looked, .int o_stepsFound, .int o_firstX, .int o_firstY, .int o_secondX, .int o_secondY])), (h_o_seen, .inr (5, [.int o_seen_wide, .int o_seen_high, .int o_seen_hex, .long o_seen_ones, .long o_seen_twos])), (h_o_found, .inl (ca 1, 12, .inr (.inl o_found_r)))] H := hP
            have hD : va_D A [(h_o, .inr (0, [.ref h_o_seen, .ref h_o_turned, .ref h_o_found, .int o_looked, .int o_stepsFound, .int o_firstX, .int o_firstY, .int o_secondX, .int o_secondY])), (h_o_seen, .inr (5, [.int o_seen_wide, .int o_seen_high, .int o_seen_hex, .long o_seen_ones, .long o_seen_twos])), (h_o_found, .inl (ca 1, 12, .inr (.inl o_found_r)))] := hD
            refine lv_land hx hb dX0_kindsAhead_43 ?_
            refine lv_lconst (v := 0) hx hb dX0_kindsAhead_44 (by decide) ?_
            refine W.lcmp hx hb dX0_kindsAhead_45 ?_
            refine lv_if_ne (tgt := 79) hx hb dX0_kindsAhead_46 (by decide) (fun c_46 => ?_) (fun c_46 => ?_)
            · replace hf := ds_f c_46 hf
              exact h1 (J_79 u3 v5 v7 _ hf hG _ _ hP hD hS _ (lv_sub hl [0, 1, 2, 3, 4, 5] rfl))
            · replace hf := ds_t c_46 hf
              refine lv_aload_n hx hb dX0_kindsAhead_49 rfl (lv_at hl 0 rfl) ?_
              refine lv_iload hx hb dX0_kindsAhead_50 (lv_at hl 5 rfl) ?_
              refine lv_iload hx hb dX0_kindsAhead_52 (lv_at hl 4 rfl) ?_
              obtain ⟨q54, hq54, hf⟩ := ds_ob hf
              refine ds_calll (wr := []) (va_runV (As := [.int v7, .int v6]) (rest := []) ⟨hx, hb, hml, hown, hts⟩ (c_X0_allOfKind l dC dI ca sa h_o h_o_seen h_o_turned h_o_found H.size o_looked o_stepsFound o_firstX o_firstY o_secondX o_secondY o_seen_wide o_seen_high o_seen_hex o_seen_ones o_seen_twos o_found_r v7 v6 q54 hq54) (cwV 2 hts (ds_gV kw_255 kw_256 kw_257 kw_154 kw_258) rfl rfl rfl (by decide +kernel) ⟨Nat.le_of_ble_eq_true rfl, Nat.le_of_ble_eq_true rfl⟩) ⟨ds_blind, va_recv hK hP (ci := 0) (q0 := 0) rfl rfl, ds_at hP hD hK hE hS hA [0, 1, 2] rfl rfl _⟩ rfl rfl hl.1 rfl (lv_room (Nat.le_of_ble_eq_true rfl)) dX0_kindsAhead_54 ⟨Nat.zero_le _, Nat.zero_le _⟩) hP hD hS hA [0, 1, 2] [] rfl rfl rfl (by decide) (fun H locs hP hD hS => ?_)
              have hP : va_P (dC, dI) vwCl [(h_o, .inr (0, [.ref h_o_seen, .ref h_o_turned, .ref h_o_found, .int o_looked, .int o_stepsFound, .int o_firstX, .int o_firstY, .int o_secondX, .int o_secondY])), (h_o_seen, .inr (5, [.int o_seen_wide, .int o_seen_high, .int o_seen_hex, .long o_seen_ones, .long o_seen_twos])), (h_o_found, .inl (ca 1, 12, .inr (.inl o_found_r)))] H := hP
              have hD : va_D A [(h_o, .inr (0, [.ref h_o_seen, .ref h_o_turned, .ref h_o_found, .int o_looked, .int o_stepsFound, .int o_firstX, .int o_firstY, .int o_secondX, .int o_secondY])), (h_o_seen, .inr (5, [.int o_seen_wide, .int o_seen_high, .int o_seen_hex, .long o_seen_ones, .long o_seen_twos])), (h_o_found, .inl (ca 1, 12, .inr (.inl o_found_r)))] := hD
              refine lv_lstore (lv' := [(8, .long q54), (0, .ref h_o), (1, .long p1), (3, .long u3), (5, .int v5), (6, .int v6), (7, .int v7)]) hx hb dX0_kindsAhead_57 hl (by decide) rfl (fun ls hl => ?_)
              refine lv_lload hx hb dX0_kindsAhead_59 (lv_at hl 0 rfl) ?_
              refine lv_lload_n hx hb dX0_kindsAhead_61 rfl (lv_at hl 2 rfl) ?_
              refine lv_land hx hb dX0_kindsAhead_62 ?_
              refine lv_lconst (v := 0) hx hb dX0_kindsAhead_63 (by decide) ?_
              refine W.lcmp hx hb dX0_kindsAhead_64 ?_
              refine lv_if_eq (tgt := 71) hx hb dX0_kindsAhead_65 (by decide) (fun c_65 => ?_) (fun c_65 => ?_)
              · replace hf := ds_t c_65 hf
                refine lv_lload_n hx hb dX0_kindsAhead_71 rfl (lv_at hl 3 rfl) ?_
                refine lv_lload hx hb dX0_kindsAhead_72 (lv_at hl 0 rfl) ?_
                refine lv_lor hx hb dX0_kindsAhead_74 ?_
                refine lv_lstore_n (lv' := [(3, .long (u3 ||| q54)), (8, .long q54), (0, .ref h_o), (1, .long p1), (5, .int v5), (6, .int v6), (7, .int v7)]) hx hb dX0_kindsAhead_75 rfl hl (by decide) rfl (fun ls hl => ?_)
                refine lv_iinc (v := (v5 + 1)) (lv' := [(5, .int (v5 + 1)), (3, .long (u3 ||| q54)), (8, .long q54), (0, .ref h_o), (1, .long p1), (6, .int v6), (7, .int v7)]) hx hb dX0_kindsAhead_76 hl (k := 4) rfl rfl (by decide) rfl (fun ls hl => ?_)
                exact h1 (J_79 (u3 ||| q54) (v5 + 1) v7 _ hf hG _ _ hP hD hS _ (lv_sub hl [3, 4, 1, 0, 5, 6] rfl))
              · replace hf := ds_f c_65 hf
                refine lv_iload hx hb dX0_kindsAhead_68 (lv_at hl 4 rfl) ?_
                have hf := Option.some.inj hf
                subst hf
                rw [eG2] at hG
                replace hG : G1 _ := hG
                rw [eG1] at hG
                replace hG : G0 _ := hG
                rw [eG0] at hG
                have hG : _ = res := hG
                subst hG
                exact W.iret (v := v5) hx hb hr (fun t ht hW => ⟨⟨v5, (), rfl, rfl, by rw [ht]; exact hP, hD⟩, hS.F ht⟩) hS.2.2 dX0_kindsAhead_70
      unfold fX0_kindsAhead_8_b at hf
      refine lv_iload hx hb dX0_kindsAhead_8 (lv_at hl 4 rfl) ?_
      refine lv_aload_n hx hb dX0_kindsAhead_10 rfl (lv_at hl 0 rfl) ?_
      refine va_get (D := (dC, dI)) (ci := 0) (v := .ref h_o_seen) (C := RX0) (T := TX0) (N := 9) hx hb hts (fun w h => List.mem_cons_of_mem _ (kc_X0 w h)) hown hK hP 0 rfl rfl 0 (by decide) (hg kw_129) (fun _ h9 => h9) rfl dX0_kindsAhead_11 ?_
      refine va_getN (D := (dC, dI)) (ci := 5) (v := .int o_seen_high) (C := RX6) (T := TX6) (N := 5) hx hb hts (fun w h => List.mem_cons_of_mem _ (kc_X6 w h)) hown hK hP 1 rfl rfl 1 (by decide) (va_Nw.use rfl (hE.1 _ kw_259)) (fun _ h9 => h9) rfl dX0_kindsAhead_14 ?_
      refine lv_icmp_ge (tgt := 91) hx hb dX0_kindsAhead_17 (by decide) (fun c_17 => ?_) (fun c_17 => ?_)
      · replace hf := ds_t c_17 hf
        refine lv_iload hx hb dX0_kindsAhead_91 (lv_at hl 3 rfl) ?_
        have hf := Option.some.inj hf
        subst hf
        rw [eG1] at hG
        replace hG : G0 _ := hG
        rw [eG0] at hG
        have hG : _ = res := hG
        subst hG
        exact W.iret (v := v5) hx hb hr (fun t ht hW => ⟨⟨v5, (), rfl, rfl, by rw [ht]; exact hP, hD⟩, hS.F ht⟩) hS.2.2 dX0_kindsAhead_93
      · replace hf := ds_f c_17 hf
        refine lv_iconst (v := 0) hx hb dX0_kindsAhead_20 (by decide) ?_
        refine lv_istore (lv' := [(7, .int (0 : Int32)), (0, .ref h_o), (1, .long p1), (3, .long u3), (5, .int v5), (6, .int v6)]) hx hb dX0_kindsAhead_21 hl (by decide) rfl (fun ls hl => ?_)
        exact h1 (J_23 v6 1000 u3 v5 (0 : Int32) _ hf hG _ _ hP hD hS _ (lv_sub hl [1, 2, 3, 4, 5, 0] rfl))
  unfold fX0_kindsAhead at hf
  refine lv_lconst (v := 0) hx hb dX0_kindsAhead_0 (by decide) ?_
  refine lv_lstore_n (lv' := [(3, .long (0 : Int64)), (0, .ref h_o), (1, .long p1)]) hx hb dX0_kindsAhead_1 rfl hl (by decide) rfl (fun ls hl => ?_)
  refine lv_iconst (v := 0) hx hb dX0_kindsAhead_2 (by decide) ?_
  refine lv_istore (lv' := [(5, .int (0 : Int32)), (3, .long (0 : Int64)), (0, .ref h_o), (1, .long p1)]) hx hb dX0_kindsAhead_3 hl (by decide) rfl (fun ls hl => ?_)
  refine lv_iconst (v := 0) hx hb dX0_kindsAhead_5 (by decide) ?_
  refine lv_istore (lv' := [(6, .int (0 : Int32)), (5, .int (0 : Int32)), (3, .long (0 : Int64)), (0, .ref h_o), (1, .long p1)]) hx hb dX0_kindsAhead_6 hl (by decide) rfl (fun ls hl => ?_)
  exact h1 (J_8  1000 (0 : Int64) (0 : Int32) (0 : Int32) _ hf hG _ _ hP hD hS _ (lv_sub hl [3, 4, 2, 1, 0] rfl))
theorem dX0_isAllOfOneColour_0 : decode cX0_isAllOfOneColour 0 = .ok (.iconst 0, 1) := by decide +kernel
theorem dX0_isAllOfOneColour_1 : decode cX0_isAllOfOneColour 1 = .ok (.istore_n 3, 1) := by decide +kernel
theorem dX0_isAllOfOneColour_2 : decode cX0_isAllOfOneColour 2 = .ok (.iload_n 3, 1) := by decide +kernel
theorem dX0_isAllOfOneColour_3 : decode cX0_isAllOfOneColour 3 = .ok (.iconst 4, 1) := by decide +kernel
theorem dX0_isAllOfOneColour_4 : decode cX0_isAllOfOneColour 4 = .ok (.if_icmp .ge 24, 3) := by decide +kernel
theorem dX0_isAllOfOneColour_7 : decode cX0_isAllOfOneColour 7 = .ok (.aload_n 0, 1) := by decide +kernel
theorem dX0_isAllOfOneColour_8 : decode cX0_isAllOfOneColour 8 = .ok (.getfield 12, 3) := by decide +kernel
theorem dX0_isAllOfOneColour_11 : decode cX0_isAllOfOneColour 11 = .ok (.iload_n 3, 1) := by decide +kernel
theorem dX0_isAllOfOneColour_12 : decode cX0_isAllOfOneColour 12 = .ok (.invokevirtual 196, 3) := by decide +kernel
theorem dX0_isAllOfOneColour_15 : decode cX0_isAllOfOneColour 15 = .ok (.lload_n 1, 1) := by decide +kernel
theorem dX0_isAllOfOneColour_16 : decode cX0_isAllOfOneColour 16 = .ok (.lcmp, 1) := by decide +kernel
theorem dX0_isAllOfOneColour_17 : decode cX0_isAllOfOneColour 17 = .ok (.ifCond .ne 5, 3) := by decide +kernel
theorem dX0_isAllOfOneColour_20 : decode cX0_isAllOfOneColour 20 = .ok (.iconst 1, 1) := by decide +kernel
theorem dX0_isAllOfOneColour_21 : decode cX0_isAllOfOneColour 21 = .ok (.ireturn, 1) := by decide +kernel
theorem dX0_isAllOfOneColour_22 : decode cX0_isAllOfOneColour 22 = .ok (.iinc 3 1, 3) := by decide +kernel
theorem dX0_isAllOfOneColour_25 : decode cX0_isAllOfOneColour 25 = .ok (.goto (-23), 3) := by decide +kernel
theorem dX0_isAllOfOneColour_28 : decode cX0_isAllOfOneColour 28 = .ok (.iconst 0, 1) := by decide +kernel
theorem dX0_isAllOfOneColour_29 : decode cX0_isAllOfOneColour 29 = .ok (.ireturn, 1) := by decide +kernel
def fX0_isAllOfOneColour_2_b (o_seen_wide : Int32) (o_seen_high : Int32) (o_seen_ones : Int64) (o_seen_twos : Int64) (p1 : Int64) (v3 : Int32) : Option ((Int32) ⊕ (Int32)) :=
  if (4 : Int32) ≤ v3 then some (.inr (0 : Int32)) else Option.bind (fX6_ofColour o_seen_wide o_seen_high o_seen_ones o_seen_twos v3) fun q12 => if (lg_cmp q12 p1) = 0 then some (.inr (1 : Int32)) else some (.inl (v3 + 1))
def fX0_isAllOfOneColour_2 (o_seen_wide : Int32) (o_seen_high : Int32) (o_seen_ones : Int64) (o_seen_twos : Int64) (p1 : Int64) (v3 : Int32) : Option (Int32) := ds_it (fun s => fX0_isAllOfOneColour_2_b o_seen_wide o_seen_high o_seen_ones o_seen_twos p1 s) 1000 v3
def fX0_isAllOfOneColour (o_seen_wide : Int32) (o_seen_high : Int32) (o_seen_ones : Int64) (o_seen_twos : Int64) (p1 : Int64) : Option (Int32) :=
  fX0_isAllOfOneColour_2 o_seen_wide o_seen_high o_seen_ones o_seen_twos p1 (0 : Int32)
set_option maxHeartbeats 4000000 in
set_option maxRecDepth 100000 in
theorem c_X0_isAllOfOneColour (l : Launch) (dC : Nat → ClassId) (dI : Nat → Nat → Nat) (ca : Nat → ClassId) (sa : Nat → Nat) (h_o : Nat) (h_o_seen : Nat) (h_o_turned : Nat) (h_o_found : Nat) (sz : Nat) (o_looked : Int32) (o_stepsFound : Int32) (o_firstX : Int32) (o_firstY : Int32) (o_secondX : Int32) (o_secondY : Int32) (o_seen_wide : Int32) (o_seen_high : Int32) (o_seen_hex : Int32) (o_seen_ones : Int64) (o_seen_twos : Int64) (p1 : Int64) (res : Int32) (hf : fX0_isAllOfOneColour o_seen_wide o_seen_high o_seen_ones o_seen_twos p1 = some res) : Met l yX0_isAllOfOneColour (Cond.code yX0_isAllOfOneColour cX0_isAllOfOneColour 4 (some .boolean) :: ds_gw) { frames := 2, cells := 0, slots := 0, locals := 49 } (va_Pc [.ref h_o, .long p1] (ds_Pre dC dI ca sa [(h_o, .inr (0, [.ref h_o_seen, .ref h_o_turned, .ref h_o_found, .int o_looked, .int o_stepsFound, .int o_firstX, .int o_firstY, .int o_secondX, .int o_secondY])), (h_o_seen, .inr (5, [.int o_seen_wide, .int o_seen_high, .int o_seen_hex, .long o_seen_ones, .long o_seen_twos]))] sz)) (va_Qi (fun r (_ : Unit) => r = res) (ds_B dC dI (va_A [(h_o, .inr (0, [.ref h_o_seen, .ref h_o_turned, .ref h_o_found, .int o_looked, .int o_stepsFound, .int o_firstX, .int o_firstY, .int o_secondX, .int o_secondY])), (h_o_seen, .inr (5, [.int o_seen_wide, .int o_seen_high, .int o_seen_hex, .long o_seen_ones, .long o_seen_twos]))] sz) [(h_o, .inr (0, [.ref h_o_seen, .ref h_o_turned, .ref h_o_found, .int o_looked, .int o_stepsFound, .int o_firstX, .int o_firstY, .int o_secondX, .int o_secondY])), (h_o_seen, .inr (5, [.int o_seen_wide, .int o_seen_high, .int o_seen_hex, .long o_seen_ones, .long o_seen_twos]))]) (va_A [(h_o, .inr (0, [.ref h_o_seen, .ref h_o_turned, .ref h_o_found, .int o_looked, .int o_stepsFound, .int o_firstX, .int o_firstY, .int o_secondX, .int o_secondY])), (h_o_seen, .inr (5, [.int o_seen_wide, .int o_seen_high, .int o_seen_hex, .long o_seen_ones, .long o_seen_twos]))] sz)) 0 0 (va_A [(h_o, .inr (0, [.ref h_o_seen, .ref h_o_turned, .ref h_o_found, .int o_looked, .int o_stepsFound, .int o_firstX, .int o_firstY, .int o_secondX, .int o_secondY])), (h_o_seen, .inr (5, [.int o_seen_wide, .int o_seen_high, .int o_seen_hex, .long o_seen_ones, .long o_seen_twos]))] sz) := by
  refine Met.ofW (cc := cX0_isAllOfOneColour) (maxL := 4) (ret := (some .boolean)) (by decide) rfl ?_
  intro p e s m args below meth c s₁ B hml hv
  obtain ⟨rfl, hsz, hP, hK, hD0, hE⟩ := hv
  have hx := B.exec
  have hb := B.bytes
  have hr := B.returns
  have hts := atoms_spec (ws := Cond.code yX0_isAllOfOneColour cX0_isAllOfOneColour 4 (some .boolean) :: ds_gw) B.pre
  have hg : ∀ {w : Cond}, w ∈ ds_gw → w.before _ s = true := fun h => hts _ (List.mem_cons_of_mem _ h)
  have hown : s.vm.findClass RX0 = some m.cls := findClass_of_methodNamed B.named
  have hlocks := B.notSynchronized
  subst hsz
  have hD := hD0.self (sz := s.heap.size)
  generalize hAe : va_A [(h_o, .inr (0, [.ref h_o_seen, .ref h_o_turned, .ref h_o_found, .int o_looked, .int o_stepsFound, .int o_firstX, .int o_firstY, .int o_secondX, .int o_secondY])), (h_o_seen, .inr (5, [.int o_seen_wide, .int o_seen_high, .int o_seen_hex, .long o_seen_ones, .long o_seen_twos]))] s.heap.size = A at hD hE ⊢
  have hA : ∀ q : Nat, s.heap.size ≤ q → A q := fun q h => by rw [← hAe]; exact Or.inr h
  have hS : va_S A s.heap s.heap [] := va_S.rf
  have hl := lv_entry ([.ref h_o, .long p1]) (n := 4) (Nat.le_of_ble_eq_true rfl)
  rw [lg_entry_eq]
  generalize (lg_sl ([.ref h_o, .long p1]) ++ List.replicate (4 - (lg_sl ([.ref h_o, .long p1])).length) Slot.unset).toArray = ls at hl ⊢
  have hl : lv_has ls 4 [(0, .ref h_o), (1, .long p1)] := hl
  obtain ⟨G0, eG0⟩ : ∃ G : Int32 → Prop, G = (fun r => r = res) := ⟨_, rfl⟩
  obtain ⟨rr, hrr⟩ : ∃ z, z = res := ⟨_, rfl⟩
  rw [← hrr] at hf
  have hG : G0 rr := by subst eG0; exact hrr
  refine ds_cap (fun WW h1 h2 => ?_)
  have J_2 : ∀ (n : Nat) (v3 : Int32) (rr : Int32) (hf : ds_it (fun s => fX0_isAllOfOneColour_2_b o_seen_wide o_seen_high o_seen_ones o_seen_twos p1 s) n v3 = some rr) (hG : G0 rr) (H : Heap) (locs : List Loc) (hP : va_P (dC, dI) vwCl [(h_o, .inr (0, [.ref h_o_seen, .ref h_o_turned, .ref h_o_found, .int o_looked, .int o_stepsFound, .int o_firstX, .int o_firstY, .int o_secondX, .int o_secondY])), (h_o_seen, .inr (5, [.int o_seen_wide, .int o_seen_high, .int o_seen_hex, .long o_seen_ones, .long o_seen_twos]))] H) (hD : va_D A [(h_o, .inr (0, [.ref h_o_seen, .ref h_o_turned, .ref h_o_found, .int o_looked, .int o_stepsFound, .int o_firstX, .int o_firstY, .int o_secondX, .int o_secondY])), (h_o_seen, .inr (5, [.int o_seen_wide, .int o_seen_high, .int o_seen_hex, .long o_seen_ones, .long o_seen_twos]))]) (hS : va_S A s.heap H locs) (ls : Array Slot) (hl : lv_has ls 4 [(0, .ref h_o), (1, .long p1), (3, .int v3)]), WW H locs (F0 m 2 ls []) := by
    intro  n
    induction n with
    | zero => intro v3 rr hf; exact (ds_it_zero hf).elim
    | succ n ih2 =>
      intro v3 rr hf hG H locs hP hD hS ls hl
      refine h2 ?_
      obtain ⟨rr, hf, hG⟩ := ds_it_succ hf hG
      replace hf : fX0_isAllOfOneColour_2_b o_seen_wide o_seen_high o_seen_ones o_seen_twos p1 v3 = some rr := hf
      obtain ⟨G1, eG1⟩ : ∃ G : ((Int32) ⊕ (Int32)) → Prop, G = ds_G (fun s' => ∃ r', ds_it (fun s => fX0_isAllOfOneColour_2_b o_seen_wide o_seen_high o_seen_ones o_seen_twos p1 s) n s' = some r' ∧ G0 r') G0 := ⟨_, rfl⟩
      rw [← eG1] at hG
      unfold fX0_isAllOfOneColour_2_b at hf
      refine lv_iload_n hx hb dX0_isAllOfOneColour_2 rfl (lv_at hl 2 rfl) ?_
      refine lv_iconst (v := 4) hx hb dX0_isAllOfOneColour_3 (by decide) ?_
      refine lv_icmp_ge (tgt := 28) hx hb dX0_isAllOfOneColour_4 (by decide) (fun c_4 => ?_) (fun c_4 => ?_)
      · replace hf := ds_t c_4 hf
        refine lv_iconst (v := 0) hx hb dX0_isAllOfOneColour_28 (by decide) ?_
        have hf := Option.some.inj hf
        subst hf
        rw [eG1] at hG
        replace hG : G0 _ := hG
        rw [eG0] at hG
        have hG : _ = res := hG
        subst hG
        exact W.zret (v := (0 : Int32)) (ty := .boolean) hx hb hr rfl (fun t ht hW => ⟨⟨(0 : Int32), (), rfl, rfl, by rw [ht]; exact hP, hD⟩, hS.F ht⟩) hS.2.2 dX0_isAllOfOneColour_29
      · replace hf := ds_f c_4 hf
        refine lv_aload_n hx hb dX0_isAllOfOneColour_7 rfl (lv_at hl 0 rfl) ?_
        refine va_get (D := (dC, dI)) (ci := 0) (v := .ref h_o_seen) (C := RX0) (T := TX0) (N := 9) hx hb hts (fun w h => List.mem_cons_of_mem _ (kc_X0 w h)) hown hK hP 0 rfl rfl 0 (by decide) (hg kw_129) (fun _ h9 => h9) rfl dX0_isAllOfOneColour_8 ?_
        refine lv_iload_n hx hb dX0_isAllOfOneColour_11 rfl (lv_at hl 2 rfl) ?_
        obtain ⟨q12, hq12, hf⟩ := ds_ob hf
        refine ds_calll (wr := [(h_o, .inr (0, [.ref h_o_seen, .ref h_o_turned, .ref h_o_found, .int o_looked, .int o_stepsFound, .int o_firstX, .int o_firstY, .int o_secondX, .int o_secondY]))]) (va_runV (As := [.int v3]) (rest := []) ⟨hx, hb, hml, hown, hts⟩ (c_X6_ofColour l dC dI ca sa h_o_seen H.size o_seen_wide o_seen_high o_seen_hex o_seen_ones o_seen_twos v3 q12 hq12) (cwV 1 hts (ds_gV kw_260 kw_106 kw_107 kw_59 kw_108) rfl rfl rfl (by decide +kernel) ⟨Nat.le_of_ble_eq_true rfl, Nat.le_of_ble_eq_true rfl⟩) ⟨ds_blind, va_recv hK hP (ci := 5) (q0 := 1) rfl rfl, ds_at hP hD hK hE hS hA [1] rfl rfl _⟩ rfl rfl hl.1 rfl (lv_room (Nat.le_of_ble_eq_true rfl)) dX0_isAllOfOneColour_12 ⟨Nat.zero_le _, Nat.zero_le _⟩) hP hD hS hA [1] [0] rfl rfl rfl (by decide) (fun H locs hP hD hS => ?_)
        have hP : va_P (dC, dI) vwCl [(h_o, .inr (0, [.ref h_o_seen, .ref h_o_turned, .ref h_o_found, .int o_looked, .int o_stepsFound, .int o_firstX, .int o_firstY, .int o_secondX, .int o_secondY])), (h_o_seen, .inr (5, [.int o_seen_wide, .int o_seen_high, .int o_seen_hex, .long o_seen_ones, .long o_seen_twos]))] H := hP
        have hD : va_D A [(h_o, .inr (0, [.ref h_o_seen, .ref h_o_turned, .ref h_o_found, .int o_looked, .int o_stepsFound, .int o_firstX, .int o_firstY, .int o_secondX, .int o_secondY])), (h_o_seen, .inr (5, [.int o_seen_wide, .int o_seen_high, .int o_seen_hex, .long o_seen_ones, .long o_seen_twos]))] := hD
        refine lv_lload_n hx hb dX0_isAllOfOneColour_15 rfl (lv_at hl 1 rfl) ?_
        refine W.lcmp hx hb dX0_isAllOfOneColour_16 ?_
        refine lv_if_ne (tgt := 22) hx hb dX0_isAllOfOneColour_17 (by decide) (fun c_17 => ?_) (fun c_17 => ?_)
        · replace hf := ds_f c_17 hf
          refine lv_iinc (v := (v3 + 1)) (lv' := [(3, .int (v3 + 1)), (0, .ref h_o), (1, .long p1)]) hx hb dX0_isAllOfOneColour_22 hl (k := 2) rfl rfl (by decide) rfl (fun ls hl => ?_)
          refine lv_goto (tgt := 2) hx hb dX0_isAllOfOneColour_25 (by decide) ?_
          have hf := Option.some.inj hf
          subst hf
          rw [eG1] at hG
          obtain ⟨rr, hf, hG⟩ := hG
          exact h1 (ih2 (v3 + 1) rr hf hG _ _ hP hD hS _ (lv_sub hl [1, 2, 0] rfl))
        · replace hf := ds_t c_17 hf
          refine lv_iconst (v := 1) hx hb dX0_isAllOfOneColour_20 (by decide) ?_
          have hf := Option.some.inj hf
          subst hf
          rw [eG1] at hG
          replace hG : G0 _ := hG
          rw [eG0] at hG
          have hG : _ = res := hG
          subst hG
          exact W.zret (v := (1 : Int32)) (ty := .boolean) hx hb hr rfl (fun t ht hW => ⟨⟨(1 : Int32), (), rfl, rfl, by rw [ht]; exact hP, hD⟩, hS.F ht⟩) hS.2.2 dX0_isAllOfOneColour_21
  unfold fX0_isAllOfOneColour at hf
  refine lv_iconst (v := 0) hx hb dX0_isAllOfOneColour_0 (by decide) ?_
  refine lv_istore_n (lv' := [(3, .int (0 : Int32)), (0, .ref h_o), (1, .long p1)]) hx hb dX0_isAllOfOneColour_1 rfl hl (by decide) rfl (fun ls hl => ?_)
  exact h1 (J_2  1000 (0 : Int32) _ hf hG _ _ hP hD hS _ (lv_sub hl [1, 2, 0] rfl))
theorem dX0_keepsColoursApart_0 : decode cX0_keepsColoursApart 0 = .ok (.iconst 0, 1) := by decide +kernel
theorem dX0_keepsColoursApart_1 : decode cX0_keepsColoursApart 1 = .ok (.istore_n 3, 1) := by decide +kernel
theorem dX0_keepsColoursApart_2 : decode cX0_keepsColoursApart 2 = .ok (.iload_n 3, 1) := by decide +kernel
theorem dX0_keepsColoursApart_3 : decode cX0_keepsColoursApart 3 = .ok (.iconst 4, 1) := by decide +kernel
theorem dX0_keepsColoursApart_4 : decode cX0_keepsColoursApart 4 = .ok (.if_icmp .ge 46, 3) := by decide +kernel
theorem dX0_keepsColoursApart_7 : decode cX0_keepsColoursApart 7 = .ok (.aload_n 0, 1) := by decide +kernel
theorem dX0_keepsColoursApart_8 : decode cX0_keepsColoursApart 8 = .ok (.getfield 12, 3) := by decide +kernel
theorem dX0_keepsColoursApart_11 : decode cX0_keepsColoursApart 11 = .ok (.aload_n 0, 1) := by decide +kernel
theorem dX0_keepsColoursApart_12 : decode cX0_keepsColoursApart 12 = .ok (.getfield 18, 3) := by decide +kernel
theorem dX0_keepsColoursApart_15 : decode cX0_keepsColoursApart 15 = .ok (.iload_n 3, 1) := by decide +kernel
theorem dX0_keepsColoursApart_16 : decode cX0_keepsColoursApart 16 = .ok (.invokevirtual 196, 3) := by decide +kernel
theorem dX0_keepsColoursApart_19 : decode cX0_keepsColoursApart 19 = .ok (.iload_n 1, 1) := by decide +kernel
theorem dX0_keepsColoursApart_20 : decode cX0_keepsColoursApart 20 = .ok (.iload_n 2, 1) := by decide +kernel
theorem dX0_keepsColoursApart_21 : decode cX0_keepsColoursApart 21 = .ok (.invokevirtual 189, 3) := by decide +kernel
theorem dX0_keepsColoursApart_24 : decode cX0_keepsColoursApart 24 = .ok (.lstore 4, 2) := by decide +kernel
theorem dX0_keepsColoursApart_26 : decode cX0_keepsColoursApart 26 = .ok (.lload 4, 2) := by decide +kernel
theorem dX0_keepsColoursApart_28 : decode cX0_keepsColoursApart 28 = .ok (.lconst 0, 1) := by decide +kernel
theorem dX0_keepsColoursApart_29 : decode cX0_keepsColoursApart 29 = .ok (.lcmp, 1) := by decide +kernel
theorem dX0_keepsColoursApart_30 : decode cX0_keepsColoursApart 30 = .ok (.ifCond .eq 14, 3) := by decide +kernel
theorem dX0_keepsColoursApart_33 : decode cX0_keepsColoursApart 33 = .ok (.aload_n 0, 1) := by decide +kernel
theorem dX0_keepsColoursApart_34 : decode cX0_keepsColoursApart 34 = .ok (.lload 4, 2) := by decide +kernel
theorem dX0_keepsColoursApart_36 : decode cX0_keepsColoursApart 36 = .ok (.invokevirtual 199, 3) := by decide +kernel
theorem dX0_keepsColoursApart_39 : decode cX0_keepsColoursApart 39 = .ok (.ifCond .ne 5, 3) := by decide +kernel
theorem dX0_keepsColoursApart_42 : decode cX0_keepsColoursApart 42 = .ok (.iconst 0, 1) := by decide +kernel
theorem dX0_keepsColoursApart_43 : decode cX0_keepsColoursApart 43 = .ok (.ireturn, 1) := by decide +kernel
theorem dX0_keepsColoursApart_44 : decode cX0_keepsColoursApart 44 = .ok (.iinc 3 1, 3) := by decide +kernel
theorem dX0_keepsColoursApart_47 : decode cX0_keepsColoursApart 47 = .ok (.goto (-45), 3) := by decide +kernel
theorem dX0_keepsColoursApart_50 : decode cX0_keepsColoursApart 50 = .ok (.iconst 1, 1) := by decide +kernel
theorem dX0_keepsColoursApart_51 : decode cX0_keepsColoursApart 51 = .ok (.ireturn, 1) := by decide +kernel
def fX0_keepsColoursApart_44 (v3 : Int32) : Option ((Int32) ⊕ (Int32)) :=
  some (.inl (v3 + 1))
def fX0_keepsColoursApart_2_b (o_turned_wide : Int32) (o_turned_high : Int32) (o_turned_ones : Int64) (o_turned_twos : Int64) (o_seen_wide : Int32) (o_seen_high : Int32) (o_seen_ones : Int64) (o_seen_twos : Int64) (p1 : Int32) (p2 : Int32) (v3 : Int32) : Option ((Int32) ⊕ (Int32)) :=
  if (4 : Int32) ≤ v3 then some (.inr (1 : Int32)) else Option.bind (fX6_ofColour o_turned_wide o_turned_high o_turned_ones o_turned_twos v3) fun q16 => Option.bind (fX6_rolled o_seen_wide o_seen_high q16 p1 p2) fun q21 => if (lg_cmp q21 (0 : Int64)) = 0 then fX0_keepsColoursApart_44 v3 else Option.bind (fX0_isAllOfOneColour o_seen_wide o_seen_high o_seen_ones o_seen_twos q21) fun q36 => if q36 = 0 then some (.inr (0 : Int32)) else fX0_keepsColoursApart_44 v3
def fX0_keepsColoursApart_2 (o_turned_wide : Int32) (o_turned_high : Int32) (o_turned_ones : Int64) (o_turned_twos : Int64) (o_seen_wide : Int32) (o_seen_high : Int32) (o_seen_ones : Int64) (o_seen_twos : Int64) (p1 : Int32) (p2 : Int32) (v3 : Int32) : Option (Int32) := ds_it (fun s => fX0_keepsColoursApart_2_b o_turned_wide o_turned_high o_turned_ones o_turned_twos o_seen_wide o_seen_high o_seen_ones o_seen_twos p1 p2 s) 1000 v3
def fX0_keepsColoursApart (o_turned_wide : Int32) (o_turned_high : Int32) (o_turned_ones : Int64) (o_turned_twos : Int64) (o_seen_wide : Int32) (o_seen_high : Int32) (o_seen_ones : Int64) (o_seen_twos : Int64) (p1 : Int32) (p2 : Int32) : Option (Int32) :=
  fX0_keepsColoursApart_2 o_turned_wide o_turned_high o_turned_ones o_turned_twos o_seen_wide o_seen_high o_seen_ones o_seen_twos p1 p2 (0 : Int32)
set_option maxHeartbeats 4000000 in
set_option maxRecDepth 100000 in
theorem c_X0_keepsColoursApart (l : Launch) (dC : Nat → ClassId) (dI : Nat → Nat → Nat) (ca : Nat → ClassId) (sa : Nat → Nat) (h_o : Nat) (h_o_seen : Nat) (h_o_turned : Nat) (h_o_found : Nat) (sz : Nat) (o_looked : Int32) (o_stepsFound : Int32) (o_firstX : Int32) (o_firstY : Int32) (o_secondX : Int32) (o_secondY : Int32) (o_turned_wide : Int32) (o_turned_high : Int32) (o_turned_hex : Int32) (o_turned_ones : Int64) (o_turned_twos : Int64) (o_seen_wide : Int32) (o_seen_high : Int32) (o_seen_hex : Int32) (o_seen_ones : Int64) (o_seen_twos : Int64) (p1 : Int32) (p2 : Int32) (res : Int32) (hf : fX0_keepsColoursApart o_turned_wide o_turned_high o_turned_ones o_turned_twos o_seen_wide o_seen_high o_seen_ones o_seen_twos p1 p2 = some res) : Met l yX0_keepsColoursApart (Cond.code yX0_keepsColoursApart cX0_keepsColoursApart 6 (some .boolean) :: ds_gw) { frames := 3, cells := 0, slots := 0, locals := 73 } (va_Pc [.ref h_o, .int p1, .int p2] (ds_Pre dC dI ca sa [(h_o, .inr (0, [.ref h_o_seen, .ref h_o_turned, .ref h_o_found, .int o_looked, .int o_stepsFound, .int o_firstX, .int o_firstY, .int o_secondX, .int o_secondY])), (h_o_turned, .inr (5, [.int o_turned_wide, .int o_turned_high, .int o_turned_hex, .long o_turned_ones, .long o_turned_twos])), (h_o_seen, .inr (5, [.int o_seen_wide, .int o_seen_high, .int o_seen_hex, .long o_seen_ones, .long o_seen_twos]))] sz)) (va_Qi (fun r (_ : Unit) => r = res) (ds_B dC dI (va_A [(h_o, .inr (0, [.ref h_o_seen, .ref h_o_turned, .ref h_o_found, .int o_looked, .int o_stepsFound, .int o_firstX, .int o_firstY, .int o_secondX, .int o_secondY])), (h_o_turned, .inr (5, [.int o_turned_wide, .int o_turned_high, .int o_turned_hex, .long o_turned_ones, .long o_turned_twos])), (h_o_seen, .inr (5, [.int o_seen_wide, .int o_seen_high, .int o_seen_hex, .long o_seen_ones, .long o_seen_twos]))] sz) [(h_o, .inr (0, [.ref h_o_seen, .ref h_o_turned, .ref h_o_found, .int o_looked, .int o_stepsFound, .int o_firstX, .int o_firstY, .int o_secondX, .int o_secondY])), (h_o_turned, .inr (5, [.int o_turned_wide, .int o_turned_high, .int o_turned_hex, .long o_turned_ones, .long o_turned_twos])), (h_o_seen, .inr (5, [.int o_seen_wide, .int o_seen_high, .int o_seen_hex, .long o_seen_ones, .long o_seen_twos]))]) (va_A [(h_o, .inr (0, [.ref h_o_seen, .ref h_o_turned, .ref h_o_found, .int o_looked, .int o_stepsFound, .int o_firstX, .int o_firstY, .int o_secondX, .int o_secondY])), (h_o_turned, .inr (5, [.int o_turned_wide, .int o_turned_high, .int o_turned_hex, .long o_turned_ones, .long o_turned_twos])), (h_o_seen, .inr (5, [.int o_seen_wide, .int o_seen_high, .int o_seen_hex, .long o_seen_ones, .long o_seen_twos]))] sz)) 0 0 (va_A [(h_o, .inr (0, [.ref h_o_seen, .ref h_o_turned, .ref h_o_found, .int o_looked, .int o_stepsFound, .int o_firstX, .int o_firstY, .int o_secondX, .int o_secondY])), (h_o_turned, .inr (5, [.int o_turned_wide, .int o_turned_high, .int o_turned_hex, .long o_turned_ones, .long o_turned_twos])), (h_o_seen, .inr (5, [.int o_seen_wide, .int o_seen_high, .int o_seen_hex, .long o_seen_ones, .long o_seen_twos]))] sz) := by
  refine Met.ofW (cc := cX0_keepsColoursApart) (maxL := 6) (ret := (some .boolean)) (by decide) rfl ?_
  intro p e s m args below meth c s₁ B hml hv
  obtain ⟨rfl, hsz, hP, hK, hD0, hE⟩ := hv
  have hx := B.exec
  have hb := B.bytes
  have hr := B.returns
  have hts := atoms_spec (ws := Cond.code yX0_keepsColoursApart cX0_keepsColoursApart 6 (some .boolean) :: ds_gw) B.pre
  have hg : ∀ {w : Cond}, w ∈ ds_gw → w.before _ s = true := fun h => hts _ (List.mem_cons_of_mem _ h)
  have hown : s.vm.findClass RX0 = some m.cls := findClass_of_methodNamed B.named
  have hlocks := B.notSynchronized
  subst hsz
  have hD := hD0.self (sz := s.heap.size)
  generalize hAe : va_A [(h_o, .inr (0, [.ref h_o_seen, .ref h_o_turned, .ref h_o_found, .int o_looked, .int o_stepsFound, .int o_firstX, .int o_firstY, .int o_secondX, .int o_secondY])), (h_o_turned, .inr (5, [.int o_turned_wide, .int o_turned_high, .int o_turned_hex, .long o_turned_ones, .long o_turned_twos])), (h_o_seen, .inr (5, [.int o_seen_wide, .int o_seen_high, .int o_seen_hex, .long o_seen_ones, .long o_seen_twos]))] s.heap.size = A at hD hE ⊢
  have hA : ∀ q : Nat, s.heap.size ≤ q → A q := fun q h => by rw [← hAe]; exact Or.inr h
  have hS : va_S A s.heap s.heap [] := va_S.rf
  have hl := lv_entry ([.ref h_o, .int p1, .int p2]) (n := 6) (Nat.le_of_ble_eq_true rfl)
  rw [lg_entry_eq]
  generalize (lg_sl ([.ref h_o, .int p1, .int p2]) ++ List.replicate (6 - (lg_sl ([.ref h_o, .int p1, .int p2])).length) Slot.unset).toArray = ls at hl ⊢
  have hl : lv_has ls 6 [(0, .ref h_o), (1, .int p1), (2, .int p2)] := hl
  obtain ⟨G0, eG0⟩ : ∃ G : Int32 → Prop, G = (fun r => r = res) := ⟨_, rfl⟩
  obtain ⟨rr, hrr⟩ : ∃ z, z = res := ⟨_, rfl⟩
  rw [← hrr] at hf
  have hG : G0 rr := by subst eG0; exact hrr
  refine ds_cap (fun WW h1 h2 => ?_)
  have J_2 : ∀ (n : Nat) (v3 : Int32) (rr : Int32) (hf : ds_it (fun s => fX0_keepsColoursApart_2_b o_turned_wide o_turned_high o_turned_ones o_turned_twos o_seen_wide o_seen_high o_seen_ones o_seen_twos p1 p2 s) n v3 = some rr) (hG : G0 rr) (H : Heap) (locs : List Loc) (hP : va_P (dC, dI) vwCl [(h_o, .inr (0, [.ref h_o_seen, .ref h_o_turned, .ref h_o_found, .int o_looked, .int o_stepsFound, .int o_firstX, .int o_firstY, .int o_secondX, .int o_secondY])), (h_o_turned, .inr (5, [.int o_turned_wide, .int o_turned_high, .int o_turned_hex, .long o_turned_ones, .long o_turned_twos])), (h_o_seen, .inr (5, [.int o_seen_wide, .int o_seen_high, .int o_seen_hex, .long o_seen_ones, .long o_seen_twos]))] H) (hD : va_D A [(h_o, .inr (0, [.ref h_o_seen, .ref h_o_turned, .ref h_o_found, .int o_looked, .int o_stepsFound, .int o_firstX, .int o_firstY, .int o_secondX, .int o_secondY])), (h_o_turned, .inr (5, [.int o_turned_wide, .int o_turned_high, .int o_turned_hex, .long o_turned_ones, .long o_turned_twos])), (h_o_seen, .inr (5, [.int o_seen_wide, .int o_seen_high, .int o_seen_hex, .long o_seen_ones, .long o_seen_twos]))]) (hS : va_S A s.heap H locs) (ls : Array Slot) (hl : lv_has ls 6 [(0, .ref h_o), (1, .int p1), (2, .int p2), (3, .int v3)]), WW H locs (F0 m 2 ls []) := by
    intro  n
    induction n with
    | zero => intro v3 rr hf; exact (ds_it_zero hf).elim
    | succ n ih2 =>
      intro v3 rr hf hG H locs hP hD hS ls hl
      refine h2 ?_
      obtain ⟨rr, hf, hG⟩ := ds_it_succ hf hG
      replace hf : fX0_keepsColoursApart_2_b o_turned_wide o_turned_high o_turned_ones o_turned_twos o_seen_wide o_seen_high o_seen_ones o_seen_twos p1 p2 v3 = some rr := hf
      obtain ⟨G1, eG1⟩ : ∃ G : ((Int32) ⊕ (Int32)) → Prop, G = ds_G (fun s' => ∃ r', ds_it (fun s => fX0_keepsColoursApart_2_b o_turned_wide o_turned_high o_turned_ones o_turned_twos o_seen_wide o_seen_high o_seen_ones o_seen_twos p1 p2 s) n s' = some r' ∧ G0 r') G0 := ⟨_, rfl⟩
      rw [← eG1] at hG
      have J_44 : ∀ (v3 : Int32) (rr : (Int32) ⊕ (Int32)) (hf : fX0_keepsColoursApart_44 v3 = some rr) (hG : G1 rr) (H : Heap) (locs : List Loc) (hP : va_P (dC, dI) vwCl [(h_o, .inr (0, [.ref h_o_seen, .ref h_o_turned, .ref h_o_found, .int o_looked, .int o_stepsFound, .int o_firstX, .int o_firstY, .int o_secondX, .int o_secondY])), (h_o_turned, .inr (5, [.int o_turned_wide, .int o_turned_high, .int o_turned_hex, .long o_turned_ones, .long o_turned_twos])), (h_o_seen, .inr (5, [.int o_seen_wide, .int o_seen_high, .int o_seen_hex, .long o_seen_ones, .long o_seen_twos]))] H) (hD : va_D A [(h_o, .inr (0, [.ref h_o_seen, .ref h_o_turned, .ref h_o_found, .int o_looked, .int o_stepsFound, .int o_firstX, .int o_firstY, .int o_secondX, .int o_secondY])), (h_o_turned, .inr (5, [.int o_turned_wide, .int o_turned_high, .int o_turned_hex, .long o_turned_ones, .long o_turned_twos])), (h_o_seen, .inr (5, [.int o_seen_wide, .int o_seen_high, .int o_seen_hex, .long o_seen_ones, .long o_seen_twos]))]) (hS : va_S A s.heap H locs) (ls : Array Slot) (hl : lv_has ls 6 [(0, .ref h_o), (1, .int p1), (2, .int p2), (3, .int v3)]), WW H locs (F0 m 44 ls []) := by
        intro v3 rr hf hG H locs hP hD hS ls hl
        refine h2 ?_
        unfold fX0_keepsColoursApart_44 at hf
        refine lv_iinc (v := (v3 + 1)) (lv' := [(3, .int (v3 + 1)), (0, .ref h_o), (1, .int p1), (2, .int p2)]) hx hb dX0_keepsColoursApart_44 hl (k := 3) rfl rfl (by decide) rfl (fun ls hl => ?_)
        refine lv_goto (tgt := 2) hx hb dX0_keepsColoursApart_47 (by decide) ?_
        have hf := Option.some.inj hf
        subst hf
        rw [eG1] at hG
        obtain ⟨rr, hf, hG⟩ := hG
        exact h1 (ih2 (v3 + 1) rr hf hG _ _ hP hD hS _ (lv_sub hl [1, 2, 3, 0] rfl))
      unfold fX0_keepsColoursApart_2_b at hf
      refine lv_iload_n hx hb dX0_keepsColoursApart_2 rfl (lv_at hl 3 rfl) ?_
      refine lv_iconst (v := 4) hx hb dX0_keepsColoursApart_3 (by decide) ?_
      refine lv_icmp_ge (tgt := 50) hx hb dX0_keepsColoursApart_4 (by decide) (fun c_4 => ?_) (fun c_4 => ?_)
      · replace hf := ds_t c_4 hf
        refine lv_iconst (v := 1) hx hb dX0_keepsColoursApart_50 (by decide) ?_
        have hf := Option.some.inj hf
        subst hf
        rw [eG1] at hG
        replace hG : G0 _ := hG
        rw [eG0] at hG
        have hG : _ = res := hG
        subst hG
        exact W.zret (v := (1 : Int32)) (ty := .boolean) hx hb hr rfl (fun t ht hW => ⟨⟨(1 : Int32), (), rfl, rfl, by rw [ht]; exact hP, hD⟩, hS.F ht⟩) hS.2.2 dX0_keepsColoursApart_51
      · replace hf := ds_f c_4 hf
        refine lv_aload_n hx hb dX0_keepsColoursApart_7 rfl (lv_at hl 0 rfl) ?_
        refine va_get (D := (dC, dI)) (ci := 0) (v := .ref h_o_seen) (C := RX0) (T := TX0) (N := 9) hx hb hts (fun w h => List.mem_cons_of_mem _ (kc_X0 w h)) hown hK hP 0 rfl rfl 0 (by decide) (hg kw_129) (fun _ h9 => h9) rfl dX0_keepsColoursApart_8 ?_
        refine lv_aload_n hx hb dX0_keepsColoursApart_11 rfl (lv_at hl 0 rfl) ?_
        refine va_get (D := (dC, dI)) (ci := 0) (v := .ref h_o_turned) (C := RX0) (T := TX0) (N := 9) hx hb hts (fun w h => List.mem_cons_of_mem _ (kc_X0 w h)) hown hK hP 0 rfl rfl 1 (by decide) (hg kw_130) (fun _ h9 => h9) rfl dX0_keepsColoursApart_12 ?_
        refine lv_iload_n hx hb dX0_keepsColoursApart_15 rfl (lv_at hl 3 rfl) ?_
        obtain ⟨q16, hq16, hf⟩ := ds_ob hf
        refine ds_calll (wr := [(h_o, .inr (0, [.ref h_o_seen, .ref h_o_turned, .ref h_o_found, .int o_looked, .int o_stepsFound, .int o_firstX, .int o_firstY, .int o_secondX, .int o_secondY])), (h_o_seen, .inr (5, [.int o_seen_wide, .int o_seen_high, .int o_seen_hex, .long o_seen_ones, .long o_seen_twos]))]) (va_runV (As := [.int v3]) (rest := [.ref h_o_seen]) ⟨hx, hb, hml, hown, hts⟩ (c_X6_ofColour l dC dI ca sa h_o_turned H.size o_turned_wide o_turned_high o_turned_hex o_turned_ones o_turned_twos v3 q16 hq16) (cwV 1 hts (ds_gV kw_260 kw_106 kw_107 kw_59 kw_108) rfl rfl rfl (by decide +kernel) ⟨Nat.le_of_ble_eq_true rfl, Nat.le_of_ble_eq_true rfl⟩) ⟨ds_blind, va_recv hK hP (ci := 5) (q0 := 1) rfl rfl, ds_at hP hD hK hE hS hA [1] rfl rfl _⟩ rfl rfl hl.1 rfl (lv_room (Nat.le_of_ble_eq_true rfl)) dX0_keepsColoursApart_16 ⟨Nat.zero_le _, Nat.zero_le _⟩) hP hD hS hA [1] [0, 2] rfl rfl rfl (by decide) (fun H locs hP hD hS => ?_)
        have hP : va_P (dC, dI) vwCl [(h_o, .inr (0, [.ref h_o_seen, .ref h_o_turned, .ref h_o_found, .int o_looked, .int o_stepsFound, .int o_firstX, .int o_firstY, .int o_secondX, .int o_secondY])), (h_o_seen, .inr (5, [.int o_seen_wide, .int o_seen_high, .int o_seen_hex, .long o_seen_ones, .long o_seen_twos])), (h_o_turned, .inr (5, [.int o_turned_wide, .int o_turned_high, .int o_turned_hex, .long o_turned_ones, .long o_turned_twos]))] H := hP
        have hD : va_D A [(h_o, .inr (0, [.ref h_o_seen, .ref h_o_turned, .ref h_o_found, .int o_looked, .int o_stepsFound, .int o_firstX, .int o_firstY, .int o_secondX, .int o_secondY])), (h_o_seen, .inr (5, [.int o_seen_wide, .int o_seen_high, .int o_seen_hex, .long o_seen_ones, .long o_seen_twos])), (h_o_turned, .inr (5, [.int o_turned_wide, .int o_turned_high, .int o_turned_hex, .long o_turned_ones, .long o_turned_twos]))] := hD
        refine lv_iload_n hx hb dX0_keepsColoursApart_19 rfl (lv_at hl 1 rfl) ?_
        refine lv_iload_n hx hb dX0_keepsColoursApart_20 rfl (lv_at hl 2 rfl) ?_
        obtain ⟨q21, hq21, hf⟩ := ds_ob hf
        refine ds_calll (wr := [(h_o, .inr (0, [.ref h_o_seen, .ref h_o_turned, .ref h_o_found, .int o_looked, .int o_stepsFound, .int o_firstX, .int o_firstY, .int o_secondX, .int o_secondY])), (h_o_turned, .inr (5, [.int o_turned_wide, .int o_turned_high, .int o_turned_hex, .long o_turned_ones, .long o_turned_twos]))]) (va_runV (As := [.long q16, .int p1, .int p2]) (rest := []) ⟨hx, hb, hml, hown, hts⟩ (c_X6_rolled l dC dI ca sa h_o_seen H.size o_seen_wide o_seen_high o_seen_hex o_seen_ones o_seen_twos q16 p1 p2 q21 hq21) (cwV 3 hts (ds_gV kw_252 kw_82 kw_83 kw_59 kw_84) rfl rfl rfl (by decide +kernel) ⟨Nat.le_of_ble_eq_true rfl, Nat.le_of_ble_eq_true rfl⟩) ⟨ds_blind, va_recv hK hP (ci := 5) (q0 := 1) rfl rfl, ds_at hP hD hK hE hS hA [1] rfl rfl _⟩ rfl rfl hl.1 rfl (lv_room (Nat.le_of_ble_eq_true rfl)) dX0_keepsColoursApart_21 ⟨Nat.zero_le _, Nat.zero_le _⟩) hP hD hS hA [1] [0, 2] rfl rfl rfl (by decide) (fun H locs hP hD hS => ?_)
        have hP : va_P (dC, dI) vwCl [(h_o, .inr (0, [.ref h_o_seen, .ref h_o_turned, .ref h_o_found, .int o_looked, .int o_stepsFound, .int o_firstX, .int o_firstY, .int o_secondX, .int o_secondY])), (h_o_turned, .inr (5, [.int o_turned_wide, .int o_turned_high, .int o_turned_hex, .long o_turned_ones, .long o_turned_twos])), (h_o_seen, .inr (5, [.int o_seen_wide, .int o_seen_high, .int o_seen_hex, .long o_seen_ones, .long o_seen_twos]))] H := hP
        have hD : va_D A [(h_o, .inr (0, [.ref h_o_seen, .ref h_o_turned, .ref h_o_found, .int o_looked, .int o_stepsFound, .int o_firstX, .int o_firstY, .int o_secondX, .int o_secondY])), (h_o_turned, .inr (5, [.int o_turned_wide, .int o_turned_high, .int o_turned_hex, .long o_turned_ones, .long o_turned_twos])), (h_o_seen, .inr (5, [.int o_seen_wide, .int o_seen_high, .int o_seen_hex, .long o_seen_ones, .long o_seen_twos]))] := hD
        refine lv_lstore (lv' := [(4, .long q21), (0, .ref h_o), (1, .int p1), (2, .int p2), (3, .int v3)]) hx hb dX0_keepsColoursApart_24 hl (by decide) rfl (fun ls hl => ?_)
        refine lv_lload hx hb dX0_keepsColoursApart_26 (lv_at hl 0 rfl) ?_
        refine lv_lconst (v := 0) hx hb dX0_keepsColoursApart_28 (by decide) ?_
        refine W.lcmp hx hb dX0_keepsColoursApart_29 ?_
        refine lv_if_eq (tgt := 44) hx hb dX0_keepsColoursApart_30 (by decide) (fun c_30 => ?_) (fun c_30 => ?_)
        · replace hf := ds_t c_30 hf
          exact h1 (J_44 v3 _ hf hG _ _ hP hD hS _ (lv_sub hl [1, 2, 3, 4] rfl))
        · replace hf := ds_f c_30 hf
          refine lv_aload_n hx hb dX0_keepsColoursApart_33 rfl (lv_at hl 1 rfl) ?_
          refine lv_lload hx hb dX0_keepsColoursApart_34 (lv_at hl 0 rfl) ?_
          obtain ⟨q36, hq36, hf⟩ := ds_ob hf
          refine ds_calli (wr := [(h_o_turned, .inr (5, [.int o_turned_wide, .int o_turned_high, .int o_turned_hex, .long o_turned_ones, .long o_turned_twos]))]) (va_runV (As := [.long q21]) (rest := []) ⟨hx, hb, hml, hown, hts⟩ (c_X0_isAllOfOneColour l dC dI ca sa h_o h_o_seen h_o_turned h_o_found H.size o_looked o_stepsFound o_firstX o_firstY o_secondX o_secondY o_seen_wide o_seen_high o_seen_hex o_seen_ones o_seen_twos q21 q36 hq36) (cwV 1 hts (ds_gV kw_261 kw_262 kw_263 kw_154 kw_264) rfl rfl rfl (by decide +kernel) ⟨Nat.le_of_ble_eq_true rfl, Nat.le_of_ble_eq_true rfl⟩) ⟨ds_blind, va_recv hK hP (ci := 0) (q0 := 0) rfl rfl, ds_at hP hD hK hE hS hA [0, 2] rfl rfl _⟩ rfl rfl hl.1 rfl (lv_room (Nat.le_of_ble_eq_true rfl)) dX0_keepsColoursApart_36 ⟨Nat.zero_le _, Nat.zero_le _⟩) hP hD hS hA [0, 2] [1] rfl rfl rfl (by decide) (fun H locs hP hD hS => ?_)
          have hP : va_P (dC, dI) vwCl [(h_o_turned, .inr (5, [.int o_turned_wide, .int o_turned_high, .int o_turned_hex, .long o_turned_ones, .long o_turned_twos])), (h_o, .inr (0, [.ref h_o_seen, .ref h_o_turned, .ref h_o_found, .int o_looked, .int o_stepsFound, .int o_firstX, .int o_firstY, .int o_secondX, .int o_secondY])), (h_o_seen, .inr (5, [.int o_seen_wide, .int o_seen_high, .int o_seen_hex, .long o_seen_ones, .long o_seen_twos]))] H := hP
          have hD : va_D A [(h_o_turned, .inr (5, [.int o_turned_wide, .int o_turned_high, .int o_turned_hex, .long o_turned_ones, .long o_turned_twos])), (h_o, .inr (0, [.ref h_o_seen, .ref h_o_turned, .ref h_o_found, .int o_looked, .int o_stepsFound, .int o_firstX, .int o_firstY, .int o_secondX, .int o_secondY])), (h_o_seen, .inr (5, [.int o_seen_wide, .int o_seen_high, .int o_seen_hex, .long o_seen_ones, .long o_seen_twos]))] := hD
          refine lv_if_ne (tgt := 44) hx hb dX0_keepsColoursApart_39 (by decide) (fun c_39 => ?_) (fun c_39 => ?_)
          · replace hf := ds_f c_39 hf
            exact h1 (J_44 v3 _ hf hG _ _ (hP.sub [1, 0, 2] rfl) (hD.sub [1, 0, 2] rfl rfl) hS _ (lv_sub hl [1, 2, 3, 4] rfl))
          · replace hf := ds_t c_39 hf
            refine lv_iconst (v := 0) hx hb dX0_keepsColoursApart_42 (by decide) ?_
            have hf := Option.some.inj hf
            subst hf
            rw [eG1] at hG
            replace hG : G0 _ := hG
            rw [eG0] at hG
            have hG : _ = res := hG
            subst hG
            exact W.zret (v := (0 : Int32)) (ty := .boolean) hx hb hr rfl (fun t ht hW => ⟨⟨(0 : Int32), (), rfl, rfl, by rw [ht]; exact (hP.sub [1, 0, 2] rfl), (hD.sub [1, 0, 2] rfl rfl)⟩, hS.F ht⟩) hS.2.2 dX0_keepsColoursApart_43
  unfold fX0_keepsColoursApart at hf
  refine lv_iconst (v := 0) hx hb dX0_keepsColoursApart_0 (by decide) ?_
  refine lv_istore_n (lv' := [(3, .int (0 : Int32)), (0, .ref h_o), (1, .int p1), (2, .int p2)]) hx hb dX0_keepsColoursApart_1 rfl hl (by decide) rfl (fun ls hl => ?_)
  exact h1 (J_2  1000 (0 : Int32) _ hf hG _ _ hP hD hS _ (lv_sub hl [1, 2, 3, 0] rfl))
theorem dX0_recolourings_0 : decode cX0_recolourings 0 = .ok (.aload_n 0, 1) := by decide +kernel
theorem dX0_recolourings_1 : decode cX0_recolourings 1 = .ok (.getfield 18, 3) := by decide +kernel
theorem dX0_recolourings_4 : decode cX0_recolourings 4 = .ok (.aload_n 0, 1) := by decide +kernel
theorem dX0_recolourings_5 : decode cX0_recolourings 5 = .ok (.getfield 12, 3) := by decide +kernel
theorem dX0_recolourings_8 : decode cX0_recolourings 8 = .ok (.aload_n 0, 1) := by decide +kernel
theorem dX0_recolourings_9 : decode cX0_recolourings 9 = .ok (.getfield 12, 3) := by decide +kernel
theorem dX0_recolourings_12 : decode cX0_recolourings 12 = .ok (.getfield 39, 3) := by decide +kernel
theorem dX0_recolourings_15 : decode cX0_recolourings 15 = .ok (.iload_n 1, 1) := by decide +kernel
theorem dX0_recolourings_16 : decode cX0_recolourings 16 = .ok (.invokevirtual 46, 3) := by decide +kernel
theorem dX0_recolourings_19 : decode cX0_recolourings 19 = .ok (.ifCond .ne 5, 3) := by decide +kernel
theorem dX0_recolourings_22 : decode cX0_recolourings 22 = .ok (.iconst 0, 1) := by decide +kernel
theorem dX0_recolourings_23 : decode cX0_recolourings 23 = .ok (.ireturn, 1) := by decide +kernel
theorem dX0_recolourings_24 : decode cX0_recolourings 24 = .ok (.iconst 0, 1) := by decide +kernel
theorem dX0_recolourings_25 : decode cX0_recolourings 25 = .ok (.istore_n 2, 1) := by decide +kernel
theorem dX0_recolourings_26 : decode cX0_recolourings 26 = .ok (.iconst 0, 1) := by decide +kernel
theorem dX0_recolourings_27 : decode cX0_recolourings 27 = .ok (.istore_n 3, 1) := by decide +kernel
theorem dX0_recolourings_28 : decode cX0_recolourings 28 = .ok (.iload_n 3, 1) := by decide +kernel
theorem dX0_recolourings_29 : decode cX0_recolourings 29 = .ok (.aload_n 0, 1) := by decide +kernel
theorem dX0_recolourings_30 : decode cX0_recolourings 30 = .ok (.getfield 12, 3) := by decide +kernel
theorem dX0_recolourings_33 : decode cX0_recolourings 33 = .ok (.getfield 177, 3) := by decide +kernel
theorem dX0_recolourings_36 : decode cX0_recolourings 36 = .ok (.if_icmp .ge 43, 3) := by decide +kernel
theorem dX0_recolourings_39 : decode cX0_recolourings 39 = .ok (.iconst 0, 1) := by decide +kernel
theorem dX0_recolourings_40 : decode cX0_recolourings 40 = .ok (.istore 4, 2) := by decide +kernel
theorem dX0_recolourings_42 : decode cX0_recolourings 42 = .ok (.iload 4, 2) := by decide +kernel
theorem dX0_recolourings_44 : decode cX0_recolourings 44 = .ok (.aload_n 0, 1) := by decide +kernel
theorem dX0_recolourings_45 : decode cX0_recolourings 45 = .ok (.getfield 12, 3) := by decide +kernel
theorem dX0_recolourings_48 : decode cX0_recolourings 48 = .ok (.getfield 180, 3) := by decide +kernel
theorem dX0_recolourings_51 : decode cX0_recolourings 51 = .ok (.if_icmp .ge 22, 3) := by decide +kernel
theorem dX0_recolourings_54 : decode cX0_recolourings 54 = .ok (.aload_n 0, 1) := by decide +kernel
theorem dX0_recolourings_55 : decode cX0_recolourings 55 = .ok (.iload 4, 2) := by decide +kernel
theorem dX0_recolourings_57 : decode cX0_recolourings 57 = .ok (.iload_n 3, 1) := by decide +kernel
theorem dX0_recolourings_58 : decode cX0_recolourings 58 = .ok (.invokevirtual 193, 3) := by decide +kernel
theorem dX0_recolourings_61 : decode cX0_recolourings 61 = .ok (.ifCond .eq 6, 3) := by decide +kernel
theorem dX0_recolourings_64 : decode cX0_recolourings 64 = .ok (.iinc 2 1, 3) := by decide +kernel
theorem dX0_recolourings_67 : decode cX0_recolourings 67 = .ok (.iinc 4 1, 3) := by decide +kernel
theorem dX0_recolourings_70 : decode cX0_recolourings 70 = .ok (.goto (-28), 3) := by decide +kernel
theorem dX0_recolourings_73 : decode cX0_recolourings 73 = .ok (.iinc 3 1, 3) := by decide +kernel
theorem dX0_recolourings_76 : decode cX0_recolourings 76 = .ok (.goto (-48), 3) := by decide +kernel
theorem dX0_recolourings_79 : decode cX0_recolourings 79 = .ok (.iload_n 2, 1) := by decide +kernel
theorem dX0_recolourings_80 : decode cX0_recolourings 80 = .ok (.ireturn, 1) := by decide +kernel
def fX0_recolourings_73 (v2 : Int32) (v3 : Int32) : Option ((Int32 × Int32) ⊕ (Int32 × Int32 × Int32 × Int32 × Int64 × Int64)) :=
  some (.inl (v2, (v3 + 1)))
def fX0_recolourings_67 (v2 : Int32) (v4 : Int32) : Option ((Int32 × Int32) ⊕ ((Int32 × Int32) ⊕ (Int32 × Int32 × Int32 × Int32 × Int64 × Int64))) :=
  some (.inl (v2, (v4 + 1)))
def fX0_recolourings_42_b (o_seen_wide : Int32) (o_seen_high : Int32) (o_seen_ones : Int64) (o_seen_twos : Int64) (o_turned_wide : Int32) (o_turned_high : Int32) (o_turned_ones : Int64) (o_turned_twos : Int64) (v3 : Int32) (v2 : Int32) (v4 : Int32) : Option ((Int32 × Int32) ⊕ ((Int32 × Int32) ⊕ (Int32 × Int32 × Int32 × Int32 × Int64 × Int64))) :=
  if o_seen_wide ≤ v4 then Option.bind (fX0_recolourings_73 v2 v3) fun z => some (.inr z) else Option.bind (fX0_keepsColoursApart o_turned_wide o_turned_high o_turned_ones o_turned_twos o_seen_wide o_seen_high o_seen_ones o_seen_twos v4 v3) fun q58 => if q58 = 0 then fX0_recolourings_67 v2 v4 else fX0_recolourings_67 (v2 + 1) v4
def fX0_recolourings_42 (o_seen_wide : Int32) (o_seen_high : Int32) (o_seen_ones : Int64) (o_seen_twos : Int64) (o_turned_wide : Int32) (o_turned_high : Int32) (o_turned_ones : Int64) (o_turned_twos : Int64) (v3 : Int32) (v2 : Int32) (v4 : Int32) : Option ((Int32 × Int32) ⊕ (Int32 × Int32 × Int32 × Int32 × Int64 × Int64)) := ds_it (fun s => fX0_recolourings_42_b o_seen_wide o_seen_high o_seen_ones o_seen_twos o_turned_wide o_turned_high o_turned_ones o_turned_twos v3 s.1 s.2) 1000 (v2, v4)
def fX0_recolourings_28_b (o_seen_wide : Int32) (o_seen_high : Int32) (o_seen_ones : Int64) (o_seen_twos : Int64) (o_turned_wide : Int32) (o_turned_high : Int32) (o_turned_hex : Int32) (o_turned_ones : Int64) (o_turned_twos : Int64) (v2 : Int32) (v3 : Int32) : Option ((Int32 × Int32) ⊕ (Int32 × Int32 × Int32 × Int32 × Int64 × Int64)) :=
  if o_seen_high ≤ v3 then some (.inr (v2, o_turned_wide, o_turned_high, o_turned_hex, o_turned_ones, o_turned_twos)) else fX0_recolourings_42 o_seen_wide o_seen_high o_seen_ones o_seen_twos o_turned_wide o_turned_high o_turned_ones o_turned_twos v3 v2 (0 : Int32)
def fX0_recolourings_28 (o_seen_wide : Int32) (o_seen_high : Int32) (o_seen_ones : Int64) (o_seen_twos : Int64) (o_turned_wide : Int32) (o_turned_high : Int32) (o_turned_hex : Int32) (o_turned_ones : Int64) (o_turned_twos : Int64) (v2 : Int32) (v3 : Int32) : Option (Int32 × Int32 × Int32 × Int32 × Int64 × Int64) := ds_it (fun s => fX0_recolourings_28_b o_seen_wide o_seen_high o_seen_ones o_seen_twos o_turned_wide o_turned_high o_turned_hex o_turned_ones o_turned_twos s.1 s.2) 1000 (v2, v3)
def fX0_recolourings (o_seen_wide : Int32) (o_seen_high : Int32) (o_seen_hex : Int32) (o_seen_ones : Int64) (o_seen_twos : Int64) (p1 : Int32) : Option (Int32 × Int32 × Int32 × Int32 × Int64 × Int64) :=
  Option.bind (fX6_turnFrom o_seen_wide o_seen_high o_seen_hex o_seen_ones o_seen_twos o_seen_hex p1) fun q16 => if q16.1 = 0 then some ((0 : Int32), q16.2.1, q16.2.2.1, q16.2.2.2.1, q16.2.2.2.2.1, q16.2.2.2.2.2) else fX0_recolourings_28 o_seen_wide o_seen_high o_seen_ones o_seen_twos q16.2.1 q16.2.2.1 q16.2.2.2.1 q16.2.2.2.2.1 q16.2.2.2.2.2 (0 : Int32) (0 : Int32)
set_option maxHeartbeats 4000000 in
set_option maxRecDepth 100000 in
theorem c_X0_recolourings (l : Launch) (dC : Nat → ClassId) (dI : Nat → Nat → Nat) (ca : Nat → ClassId) (sa : Nat → Nat) (h_o : Nat) (h_o_seen : Nat) (h_o_turned : Nat) (h_o_found : Nat) (sz : Nat) (o_looked : Int32) (o_stepsFound : Int32) (o_firstX : Int32) (o_firstY : Int32) (o_secondX : Int32) (o_secondY : Int32) (o_seen_wide : Int32) (o_seen_high : Int32) (o_seen_hex : Int32) (o_seen_ones : Int64) (o_seen_twos : Int64) (o_turned_wide : Int32) (o_turned_high : Int32) (o_turned_hex : Int32) (o_turned_ones : Int64) (o_turned_twos : Int64) (p1 : Int32) (res : Int32 × Int32 × Int32 × Int32 × Int64 × Int64) (hf : fX0_recolourings o_seen_wide o_seen_high o_seen_hex o_seen_ones o_seen_twos p1 = some res) : Met l yX0_recolourings (Cond.code yX0_recolourings cX0_recolourings 5 (some .int) :: ds_gw) { frames := 5, cells := 0, slots := 0, locals := 127 } (va_Pc [.ref h_o, .int p1] (ds_Pre dC dI ca sa [(h_o, .inr (0, [.ref h_o_seen, .ref h_o_turned, .ref h_o_found, .int o_looked, .int o_stepsFound, .int o_firstX, .int o_firstY, .int o_secondX, .int o_secondY])), (h_o_seen, .inr (5, [.int o_seen_wide, .int o_seen_high, .int o_seen_hex, .long o_seen_ones, .long o_seen_twos])), (h_o_turned, .inr (5, [.int o_turned_wide, .int o_turned_high, .int o_turned_hex, .long o_turned_ones, .long o_turned_twos]))] sz)) (va_Qi (fun r (_ : Unit) => r = res.1) (ds_B dC dI (va_A [(h_o, .inr (0, [.ref h_o_seen, .ref h_o_turned, .ref h_o_found, .int o_looked, .int o_stepsFound, .int o_firstX, .int o_firstY, .int o_secondX, .int o_secondY])), (h_o_seen, .inr (5, [.int o_seen_wide, .int o_seen_high, .int o_seen_hex, .long o_seen_ones, .long o_seen_twos])), (h_o_turned, .inr (5, [.int o_turned_wide, .int o_turned_high, .int o_turned_hex, .long o_turned_ones, .long o_turned_twos]))] sz) [(h_o, .inr (0, [.ref h_o_seen, .ref h_o_turned, .ref h_o_found, .int o_looked, .int o_stepsFound, .int o_firstX, .int o_firstY, .int o_secondX, .int o_secondY])), (h_o_seen, .inr (5, [.int o_seen_wide, .int o_seen_high, .int o_seen_hex, .long o_seen_ones, .long o_seen_twos])), (h_o_turned, .inr (5, [.int res.2.1, .int res.2.2.1, .int res.2.2.2.1, .long res.2.2.2.2.1, .long res.2.2.2.2.2]))]) (va_A [(h_o, .inr (0, [.ref h_o_seen, .ref h_o_turned, .ref h_o_found, .int o_looked, .int o_stepsFound, .int o_firstX, .int o_firstY, .int o_secondX, .int o_secondY])), (h_o_seen, .inr (5, [.int o_seen_wide, .int o_seen_high, .int o_seen_hex, .long o_seen_ones, .long o_seen_twos])), (h_o_turned, .inr (5, [.int o_turned_wide, .int o_turned_high, .int o_turned_hex, .long o_turned_ones, .long o_turned_twos]))] sz)) 0 0 (va_A [(h_o, .inr (0, [.ref h_o_seen, .ref h_o_turned, .ref h_o_found, .int o_looked, .int o_stepsFound, .int o_firstX, .int o_firstY, .int o_secondX, .int o_secondY])), (h_o_seen, .inr (5, [.int o_seen_wide, .int o_seen_high, .int o_seen_hex, .long o_seen_ones, .long o_seen_twos])), (h_o_turned, .inr (5, [.int o_turned_wide, .int o_turned_high, .int o_turned_hex, .long o_turned_ones, .long o_turned_twos]))] sz) := by
  refine Met.ofW (cc := cX0_recolourings) (maxL := 5) (ret := (some .int)) (by decide) rfl ?_
  intro p e s m args below meth c s₁ B hml hv
  obtain ⟨rfl, hsz, hP, hK, hD0, hE⟩ := hv
  have hx := B.exec
  have hb := B.bytes
  have hr := B.returns
  have hts := atoms_spec (ws := Cond.code yX0_recolourings cX0_recolourings 5 (some .int) :: ds_gw) B.pre
  have hg : ∀ {w : Cond}, w ∈ ds_gw → w.before _ s = true := fun h => hts _ (List.mem_cons_of_mem _ h)
  have hown : s.vm.findClass RX0 = some m.cls := findClass_of_methodNamed B.named
  have hlocks := B.notSynchronized
  subst hsz
  have hD := hD0.self (sz := s.heap.size)
  generalize hAe : va_A [(h_o, .inr (0, [.ref h_o_seen, .ref h_o_turned, .ref h_o_found, .int o_looked, .int o_stepsFound, .int o_firstX, .int o_firstY, .int o_secondX, .int o_secondY])), (h_o_seen, .inr (5, [.int o_seen_wide, .int o_seen_high, .int o_seen_hex, .long o_seen_ones, .long o_seen_twos])), (h_o_turned, .inr (5, [.int o_turned_wide, .int o_turned_high, .int o_turned_hex, .long o_turned_ones, .long o_turned_twos]))] s.heap.size = A at hD hE ⊢
  have hA : ∀ q : Nat, s.heap.size ≤ q → A q := fun q h => by rw [← hAe]; exact Or.inr h
  have hS : va_S A s.heap s.heap [] := va_S.rf
  have hl := lv_entry ([.ref h_o, .int p1]) (n := 5) (Nat.le_of_ble_eq_true rfl)
  rw [lg_entry_eq]
  generalize (lg_sl ([.ref h_o, .int p1]) ++ List.replicate (5 - (lg_sl ([.ref h_o, .int p1])).length) Slot.unset).toArray = ls at hl ⊢
  have hl : lv_has ls 5 [(0, .ref h_o), (1, .int p1)] := hl
  obtain ⟨G0, eG0⟩ : ∃ G : (Int32 × Int32 × Int32 × Int32 × Int64 × Int64) → Prop, G = (fun r => r = res) := ⟨_, rfl⟩
  obtain ⟨rr, hrr⟩ : ∃ z, z = res := ⟨_, rfl⟩
  rw [← hrr] at hf
  have hG : G0 rr := by subst eG0; exact hrr
  refine ds_cap (fun WW h1 h2 => ?_)
  have J_28 : ∀ (o_turned_wide : Int32) (o_turned_high : Int32) (o_turned_hex : Int32) (o_turned_ones : Int64) (o_turned_twos : Int64) (n : Nat) (v2 : Int32) (v3 : Int32) (rr : Int32 × Int32 × Int32 × Int32 × Int64 × Int64) (hf : ds_it (fun s => fX0_recolourings_28_b o_seen_wide o_seen_high o_seen_ones o_seen_twos o_turned_wide o_turned_high o_turned_hex o_turned_ones o_turned_twos s.1 s.2) n (v2, v3) = some rr) (hG : G0 rr) (H : Heap) (locs : List Loc) (hP : va_P (dC, dI) vwCl [(h_o, .inr (0, [.ref h_o_seen, .ref h_o_turned, .ref h_o_found, .int o_looked, .int o_stepsFound, .int o_firstX, .int o_firstY, .int o_secondX, .int o_secondY])), (h_o_seen, .inr (5, [.int o_seen_wide, .int o_seen_high, .int o_seen_hex, .long o_seen_ones, .long o_seen_twos])), (h_o_turned, .inr (5, [.int o_turned_wide, .int o_turned_high, .int o_turned_hex, .long o_turned_ones, .long o_turned_twos]))] H) (hD : va_D A [(h_o, .inr (0, [.ref h_o_seen, .ref h_o_turned, .ref h_o_found, .int o_looked, .int o_stepsFound, .int o_firstX, .int o_firstY, .int o_secondX, .int o_secondY])), (h_o_seen, .inr (5, [.int o_seen_wide, .int o_seen_high, .int o_seen_hex, .long o_seen_ones, .long o_seen_twos])), (h_o_turned, .inr (5, [.int o_turned_wide, .int o_turned_high, .int o_turned_hex, .long o_turned_ones, .long o_turned_twos]))]) (hS : va_S A s.heap H locs) (ls : Array Slot) (hl : lv_has ls 5 [(0, .ref h_o), (2, .int v2), (3, .int v3)]), WW H locs (F0 m 28 ls []) := by
    intro o_turned_wide o_turned_high o_turned_hex o_turned_ones o_turned_twos n
    induction n with
    | zero => intro v2 v3 rr hf; exact (ds_it_zero hf).elim
    | succ n ih28 =>
      intro v2 v3 rr hf hG H locs hP hD hS ls hl
      refine h2 ?_
      obtain ⟨rr, hf, hG⟩ := ds_it_succ hf hG
      replace hf : fX0_recolourings_28_b o_seen_wide o_seen_high o_seen_ones o_seen_twos o_turned_wide o_turned_high o_turned_hex o_turned_ones o_turned_twos v2 v3 = some rr := hf
      obtain ⟨G1, eG1⟩ : ∃ G : ((Int32 × Int32) ⊕ (Int32 × Int32 × Int32 × Int32 × Int64 × Int64)) → Prop, G = ds_G (fun s' => ∃ r', ds_it (fun s => fX0_recolourings_28_b o_seen_wide o_seen_high o_seen_ones o_seen_twos o_turned_wide o_turned_high o_turned_hex o_turned_ones o_turned_twos s.1 s.2) n s' = some r' ∧ G0 r') G0 := ⟨_, rfl⟩
      rw [← eG1] at hG
      have J_73 : ∀ (v2 : Int32) (v3 : Int32) (rr : (Int32 × Int32) ⊕ (Int32 × Int32 × Int32 × Int32 × Int64 × Int64)) (hf : fX0_recolourings_73 v2 v3 = some rr) (hG : G1 rr) (H : Heap) (locs : List Loc) (hP : va_P (dC, dI) vwCl [(h_o, .inr (0, [.ref h_o_seen, .ref h_o_turned, .ref h_o_found, .int o_looked, .int o_stepsFound, .int o_firstX, .int o_firstY, .int o_secondX, .int o_secondY])), (h_o_seen, .inr (5, [.int o_seen_wide, .int o_seen_high, .int o_seen_hex, .long o_seen_ones, .long o_seen_twos])), (h_o_turned, .inr (5, [.int o_turned_wide, .int o_turned_high, .int o_turned_hex, .long o_turned_ones, .long o_turned_twos]))] H) (hD : va_D A [(h_o, .inr (0, [.ref h_o_seen, .ref h_o_turned, .ref h_o_found, .int o_looked, .int o_stepsFound, .int o_firstX, .int o_firstY, .int o_secondX, .int o_secondY])), (h_o_seen, .inr (5, [.int o_seen_wide, .int o_seen_high, .int o_seen_hex, .long o_seen_ones, .long o_seen_twos])), (h_o_turned, .inr (5, [.int o_turned_wide, .int o_turned_high, .int o_turned_hex, .long o_turned_ones, .long o_turned_twos]))]) (hS : va_S A s.heap H locs) (ls : Array Slot) (hl : lv_has ls 5 [(0, .ref h_o), (2, .int v2), (3, .int v3)]), WW H locs (F0 m 73 ls []) := by
        intro v2 v3 rr hf hG H locs hP hD hS ls hl
        refine h2 ?_
        unfold fX0_recolourings_73 at hf
        refine lv_iinc (v := (v3 + 1)) (lv' := [(3, .int (v3 + 1)), (0, .ref h_o), (2, .int v2)]) hx hb dX0_recolourings_73 hl (k := 2) rfl rfl (by decide) rfl (fun ls hl => ?_)
        refine lv_goto (tgt := 28) hx hb dX0_recolourings_76 (by decide) ?_
        have hf := Option.some.inj hf
        subst hf
        rw [eG1] at hG
        obtain ⟨rr, hf, hG⟩ := hG
        exact h1 (ih28 v2 (v3 + 1) rr hf hG _ _ hP hD hS _ (lv_sub hl [1, 2, 0] rfl))
      have J_42 : ∀ (v3 : Int32) (n : Nat) (v2 : Int32) (v4 : Int32) (rr : (Int32 × Int32) ⊕ (Int32 × Int32 × Int32 × Int32 × Int64 × Int64)) (hf : ds_it (fun s => fX0_recolourings_42_b o_seen_wide o_seen_high o_seen_ones o_seen_twos o_turned_wide o_turned_high o_turned_ones o_turned_twos v3 s.1 s.2) n (v2, v4) = some rr) (hG : G1 rr) (H : Heap) (locs : List Loc) (hP : va_P (dC, dI) vwCl [(h_o, .inr (0, [.ref h_o_seen, .ref h_o_turned, .ref h_o_found, .int o_looked, .int o_stepsFound, .int o_firstX, .int o_firstY, .int o_secondX, .int o_secondY])), (h_o_seen, .inr (5, [.int o_seen_wide, .int o_seen_high, .int o_seen_hex, .long o_seen_ones, .long o_seen_twos])), (h_o_turned, .inr (5, [.int o_turned_wide, .int o_turned_high, .int o_turned_hex, .long o_turned_ones, .long o_turned_twos]))] H) (hD : va_D A [(h_o, .inr (0, [.ref h_o_seen, .ref h_o_turned, .ref h_o_found, .int o_looked, .int o_stepsFound, .int o_firstX, .int o_firstY, .int o_secondX, .int o_secondY])), (h_o_seen, .inr (5, [.int o_seen_wide, .int o_seen_high, .int o_seen_hex, .long o_seen_ones, .long o_seen_twos])), (h_o_turned, .inr (5, [.int o_turned_wide, .int o_turned_high, .int o_turned_hex, .long o_turned_ones, .long o_turned_twos]))]) (hS : va_S A s.heap H locs) (ls : Array Slot) (hl : lv_has ls 5 [(0, .ref h_o), (2, .int v2), (3, .int v3), (4, .int v4)]), WW H locs (F0 m 42 ls []) := by
        intro v3 n
        induction n with
        | zero => intro v2 v4 rr hf; exact (ds_it_zero hf).elim
        | succ n ih42 =>
          intro v2 v4 rr hf hG H locs hP hD hS ls hl
          refine h2 ?_
          obtain ⟨rr, hf, hG⟩ := ds_it_succ hf hG
          replace hf : fX0_recolourings_42_b o_seen_wide o_seen_high o_seen_ones o_seen_twos o_turned_wide o_turned_high o_turned_ones o_turned_twos v3 v2 v4 = some rr := hf
          obtain ⟨G2, eG2⟩ : ∃ G : ((Int32 × Int32) ⊕ ((Int32 × Int32) ⊕ (Int32 × Int32 × Int32 × Int32 × Int64 × Int64))) → Prop, G = ds_G (fun s' => ∃ r', ds_it (fun s => fX0_recolourings_42_b o_seen_wide o_seen_high o_seen_ones o_seen_twos o_turned_wide o_turned_high o_turned_ones o_turned_twos v3 s.1 s.2) n s' = some r' ∧ G1 r') G1 := ⟨_, rfl⟩
          rw [← eG2] at hG
          have J_67 : ∀ (v2 : Int32) (v4 : Int32) (rr : (Int32 × Int32) ⊕ ((Int32 × Int32) ⊕ (Int32 × Int32 × Int32 × Int32 × Int64 × Int64))) (hf : fX0_recolourings_67 v2 v4 = some rr) (hG : G2 rr) (H : Heap) (locs : List Loc) (hP : va_P (dC, dI) vwCl [(h_o, .inr (0, [.ref h_o_seen, .ref h_o_turned, .ref h_o_found, .int o_looked, .int o_stepsFound, .int o_firstX, .int o_firstY, .int o_secondX, .int o_secondY])), (h_o_seen, .inr (5, [.int o_seen_wide, .int o_seen_high, .int o_seen_hex, .long o_seen_ones, .long o_seen_twos])), (h_o_turned, .inr (5, [.int o_turned_wide, .int o_turned_high, .int o_turned_hex, .long o_turned_ones, .long o_turned_twos]))] H) (hD : va_D A [(h_o, .inr (0, [.ref h_o_seen, .ref h_o_turned, .ref h_o_found, .int o_looked, .int o_stepsFound, .int o_firstX, .int o_firstY, .int o_secondX, .int o_secondY])), (h_o_seen, .inr (5, [.int o_seen_wide, .int o_seen_high, .int o_seen_hex, .long o_seen_ones, .long o_seen_twos])), (h_o_turned, .inr (5, [.int o_turned_wide, .int o_turned_high, .int o_turned_hex, .long o_turned_ones, .long o_turned_twos]))]) (hS : va_S A s.heap H locs) (ls : Array Slot) (hl : lv_has ls 5 [(0, .ref h_o), (2, .int v2), (3, .int v3), (4, .int v4)]), WW H locs (F0 m 67 ls []) := by
            intro v2 v4 rr hf hG H locs hP hD hS ls hl
            refine h2 ?_
            unfold fX0_recolourings_67 at hf
            refine lv_iinc (v := (v4 + 1)) (lv' := [(4, .int (v4 + 1)), (0, .ref h_o), (2, .int v2), (3, .int v3)]) hx hb dX0_recolourings_67 hl (k := 3) rfl rfl (by decide) rfl (fun ls hl => ?_)
            refine lv_goto (tgt := 42) hx hb dX0_recolourings_70 (by decide) ?_
            have hf := Option.some.inj hf
            subst hf
            rw [eG2] at hG
            obtain ⟨rr, hf, hG⟩ := hG
            exact h1 (ih42 v2 (v4 + 1) rr hf hG _ _ hP hD hS _ (lv_sub hl [1, 2, 3, 0] rfl))
          unfold fX0_recolourings_42_b at hf
          refine lv_iload hx hb dX0_recolourings_42 (lv_at hl 3 rfl) ?_
          refine lv_aload_n hx hb dX0_recolourings_44 rfl (lv_at hl 0 rfl) ?_
          refine va_get (D := (dC, dI)) (ci := 0) (v := .ref h_o_seen) (C := RX0) (T := TX0) (N := 9) hx hb hts (fun w h => List.mem_cons_of_mem _ (kc_X0 w h)) hown hK hP 0 rfl rfl 0 (by decide) (hg kw_129) (fun _ h9 => h9) rfl dX0_recolourings_45 ?_
          refine va_getN (D := (dC, dI)) (ci := 5) (v := .int o_seen_wide) (C := RX6) (T := TX6) (N := 5) hx hb hts (fun w h => List.mem_cons_of_mem _ (kc_X6 w h)) hown hK hP 1 rfl rfl 0 (by decide) (va_Nw.use rfl (hE.1 _ kw_253)) (fun _ h9 => h9) rfl dX0_recolourings_48 ?_
          refine lv_icmp_ge (tgt := 73) hx hb dX0_recolourings_51 (by decide) (fun c_51 => ?_) (fun c_51 => ?_)
          · replace hf := ds_t c_51 hf
            obtain ⟨rr, hr_0, hf⟩ := ds_ob hf
            have hf := Option.some.inj hf
            subst hf
            rw [eG2] at hG
            replace hG : G1 rr := hG
            have hf := hr_0
            exact h1 (J_73 v2 v3 _ hf hG _ _ hP hD hS _ (lv_sub hl [0, 1, 2] rfl))
          · replace hf := ds_f c_51 hf
            refine lv_aload_n hx hb dX0_recolourings_54 rfl (lv_at hl 0 rfl) ?_
            refine lv_iload hx hb dX0_recolourings_55 (lv_at hl 3 rfl) ?_
            refine lv_iload_n hx hb dX0_recolourings_57 rfl (lv_at hl 2 rfl) ?_
            obtain ⟨q58, hq58, hf⟩ := ds_ob hf
            refine ds_calli (wr := []) (va_runV (As := [.int v4, .int v3]) (rest := []) ⟨hx, hb, hml, hown, hts⟩ (c_X0_keepsColoursApart l dC dI ca sa h_o h_o_seen h_o_turned h_o_found H.size o_looked o_stepsFound o_firstX o_firstY o_secondX o_secondY o_turned_wide o_turned_high o_turned_hex o_turned_ones o_turned_twos o_seen_wide o_seen_high o_seen_hex o_seen_ones o_seen_twos v4 v3 q58 hq58) (cwV 2 hts (ds_gV kw_265 kw_266 kw_267 kw_154 kw_268) rfl rfl rfl (by decide +kernel) ⟨Nat.le_of_ble_eq_true rfl, Nat.le_of_ble_eq_true rfl⟩) ⟨ds_blind, va_recv hK hP (ci := 0) (q0 := 0) rfl rfl, ds_at hP hD hK hE hS hA [0, 2, 1] rfl rfl _⟩ rfl rfl hl.1 rfl (lv_room (Nat.le_of_ble_eq_true rfl)) dX0_recolourings_58 ⟨Nat.zero_le _, Nat.zero_le _⟩) hP hD hS hA [0, 2, 1] [] rfl rfl rfl (by decide) (fun H locs hP hD hS => ?_)
            have hP : va_P (dC, dI) vwCl [(h_o, .inr (0, [.ref h_o_seen, .ref h_o_turned, .ref h_o_found, .int o_looked, .int o_stepsFound, .int o_firstX, .int o_firstY, .int o_secondX, .int o_secondY])), (h_o_turned, .inr (5, [.int o_turned_wide, .int o_turned_high, .int o_turned_hex, .long o_turned_ones, .long o_turned_twos])), (h_o_seen, .inr (5, [.int o_seen_wide, .int o_seen_high, .int o_seen_hex, .long o_seen_ones, .long o_seen_twos]))] H := hP
            have hD : va_D A [(h_o, .inr (0, [.ref h_o_seen, .ref h_o_turned, .ref h_o_found, .int o_looked, .int o_stepsFound, .int o_firstX, .int o_firstY, .int o_secondX, .int o_secondY])), (h_o_turned, .inr (5, [.int o_turned_wide, .int o_turned_high, .int o_turned_hex, .long o_turned_ones, .long o_turned_twos])), (h_o_seen, .inr (5, [.int o_seen_wide, .int o_seen_high, .int o_seen_hex, .long o_seen_ones, .long o_seen_twos]))] := hD
            refine lv_if_eq (tgt := 67) hx hb dX0_recolourings_61 (by decide) (fun c_61 => ?_) (fun c_61 => ?_)
            · replace hf := ds_t c_61 hf
              exact h1 (J_67 v2 v4 _ hf hG _ _ (hP.sub [0, 2, 1] rfl) (hD.sub [0, 2, 1] rfl rfl) hS _ (lv_sub hl [0, 1, 2, 3] rfl))
            · replace hf := ds_f c_61 hf
              refine lv_iinc (v := (v2 + 1)) (lv' := [(2, .int (v2 + 1)), (0, .ref h_o), (3, .int v3), (4, .int v4)]) hx hb dX0_recolourings_64 hl (k := 1) rfl rfl (by decide) rfl (fun ls hl => ?_)
              exact h1 (J_67 (v2 + 1) v4 _ hf hG _ _ (hP.sub [0, 2, 1] rfl) (hD.sub [0, 2, 1] rfl rfl) hS _ (lv_sub hl [1, 0, 2, 3] rfl))
      unfold fX0_recolourings_28_b at hf
      refine lv_iload_n hx hb dX0_recolourings_28 rfl (lv_at hl 2 rfl) ?_
      refine lv_aload_n hx hb dX0_recolourings_29 rfl (lv_at hl 0 rfl) ?_
      refine va_get (D := (dC, dI)) (ci := 0) (v := .ref h_o_seen) (C := RX0) (T := TX0) (N := 9) hx hb hts (fun w h => List.mem_cons_of_mem _ (kc_X0 w h)) hown hK hP 0 rfl rfl 0 (by decide) (hg kw_129) (fun _ h9 => h9) rfl dX0_recolourings_30 ?_
      refine va_getN (D := (dC, dI)) (ci := 5) (v := .int o_seen_high) (C := RX6) (T := TX6) (N := 5) hx hb hts (fun w h => List.mem_cons_of_mem _ (kc_X6 w h)) hown hK hP 1 rfl rfl 1 (by decide) (va_Nw.use rfl (hE.1 _ kw_259)) (fun _ h9 => h9) rfl dX0_recolourings_33 ?_
      refine lv_icmp_ge (tgt := 79) hx hb dX0_recolourings_36 (by decide) (fun c_36 => ?_) (fun c_36 => ?_)
      · replace hf := ds_t c_36 hf
        refine lv_iload_n hx hb dX0_recolourings_79 rfl (lv_at hl 1 rfl) ?_
        have hf := Option.some.inj hf
        subst hf
        rw [eG1] at hG
        replace hG : G0 _ := hG
        rw [eG0] at hG
        have hG : _ = res := hG
        subst hG
        exact W.iret (v := v2) hx hb hr (fun t ht hW => ⟨⟨v2, (), rfl, rfl, by rw [ht]; exact hP, hD⟩, hS.F ht⟩) hS.2.2 dX0_recolourings_80
      · replace hf := ds_f c_36 hf
        refine lv_iconst (v := 0) hx hb dX0_recolourings_39 (by decide) ?_
        refine lv_istore (lv' := [(4, .int (0 : Int32)), (0, .ref h_o), (2, .int v2), (3, .int v3)]) hx hb dX0_recolourings_40 hl (by decide) rfl (fun ls hl => ?_)
        exact h1 (J_42 v3 1000 v2 (0 : Int32) _ hf hG _ _ hP hD hS _ (lv_sub hl [1, 2, 3, 0] rfl))
  unfold fX0_recolourings at hf
  refine lv_aload_n hx hb dX0_recolourings_0 rfl (lv_at hl 0 rfl) ?_
  refine va_get (D := (dC, dI)) (ci := 0) (v := .ref h_o_turned) (C := RX0) (T := TX0) (N := 9) hx hb hts (fun w h => List.mem_cons_of_mem _ (kc_X0 w h)) hown hK hP 0 rfl rfl 1 (by decide) (hg kw_130) (fun _ h9 => h9) rfl dX0_recolourings_1 ?_
  refine lv_aload_n hx hb dX0_recolourings_4 rfl (lv_at hl 0 rfl) ?_
  refine va_get (D := (dC, dI)) (ci := 0) (v := .ref h_o_seen) (C := RX0) (T := TX0) (N := 9) hx hb hts (fun w h => List.mem_cons_of_mem _ (kc_X0 w h)) hown hK hP 0 rfl rfl 0 (by decide) (hg kw_129) (fun _ h9 => h9) rfl dX0_recolourings_5 ?_
  refine lv_aload_n hx hb dX0_recolourings_8 rfl (lv_at hl 0 rfl) ?_
  refine va_get (D := (dC, dI)) (ci := 0) (v := .ref h_o_seen) (C := RX0) (T := TX0) (N := 9) hx hb hts (fun w h => List.mem_cons_of_mem _ (kc_X0 w h)) hown hK hP 0 rfl rfl 0 (by decide) (hg kw_129) (fun _ h9 => h9) rfl dX0_recolourings_9 ?_
  refine va_getN (D := (dC, dI)) (ci := 5) (v := .int o_seen_hex) (C := RX6) (T := TX6) (N := 5) hx hb hts (fun w h => List.mem_cons_of_mem _ (kc_X6 w h)) hown hK hP 1 rfl rfl 2 (by decide) (va_Nw.use rfl (hE.1 _ kw_135)) (fun _ h9 => h9) rfl dX0_recolourings_12 ?_
  refine lv_iload_n hx hb dX0_recolourings_15 rfl (lv_at hl 1 rfl) ?_
  obtain ⟨q16, hq16, hf⟩ := ds_ob hf
  refine ds_calli (wr := [(h_o, .inr (0, [.ref h_o_seen, .ref h_o_turned, .ref h_o_found, .int o_looked, .int o_stepsFound, .int o_firstX, .int o_firstY, .int o_secondX, .int o_secondY]))]) (va_runV (As := [.ref h_o_seen, .int o_seen_hex, .int p1]) (rest := []) ⟨hx, hb, hml, hown, hts⟩ (c_X6_turnFrom l dC dI ca sa h_o_seen h_o_turned s.heap.size o_seen_wide o_seen_high o_seen_hex o_seen_ones o_seen_twos o_turned_wide o_turned_high o_turned_hex o_turned_ones o_turned_twos o_seen_hex p1 q16 hq16) (cwV 3 hts (ds_gV kw_139 kw_140 kw_141 kw_59 kw_142) rfl rfl rfl (by decide +kernel) ⟨Nat.le_of_ble_eq_true rfl, Nat.le_of_ble_eq_true rfl⟩) ⟨ds_blind, va_recv hK hP (ci := 5) (q0 := 2) rfl rfl, ds_at hP hD hK hE hS hA [1, 2] rfl rfl _⟩ rfl rfl hl.1 rfl (lv_room (Nat.le_of_ble_eq_true rfl)) dX0_recolourings_16 ⟨Nat.zero_le _, Nat.zero_le _⟩) hP hD hS hA [1, 2] [0] rfl rfl rfl (by decide) (fun H locs hP hD hS => ?_)
  have hP : va_P (dC, dI) vwCl [(h_o, .inr (0, [.ref h_o_seen, .ref h_o_turned, .ref h_o_found, .int o_looked, .int o_stepsFound, .int o_firstX, .int o_firstY, .int o_secondX, .int o_secondY])), (h_o_seen, .inr (5, [.int o_seen_wide, .int o_seen_high, .int o_seen_hex, .long o_seen_ones, .long o_seen_twos])), (h_o_turned, .inr (5, [.int q16.2.1, .int q16.2.2.1, .int q16.2.2.2.1, .long q16.2.2.2.2.1, .long q16.2.2.2.2.2]))] H := hP
  have hD : va_D A [(h_o, .inr (0, [.ref h_o_seen, .ref h_o_turned, .ref h_o_found, .int o_looked, .int o_stepsFound, .int o_firstX, .int o_firstY, .int o_secondX, .int o_secondY])), (h_o_seen, .inr (5, [.int o_seen_wide, .int o_seen_high, .int o_seen_hex, .long o_seen_ones, .long o_seen_twos])), (h_o_turned, .inr (5, [.int q16.2.1, .int q16.2.2.1, .int q16.2.2.2.1, .long q16.2.2.2.2.1, .long q16.2.2.2.2.2]))] := hD
  refine lv_if_ne (tgt := 24) hx hb dX0_recolourings_19 (by decide) (fun c_19 => ?_) (fun c_19 => ?_)
  · replace hf := ds_f c_19 hf
    refine lv_iconst (v := 0) hx hb dX0_recolourings_24 (by decide) ?_
    refine lv_istore_n (lv' := [(2, .int (0 : Int32)), (0, .ref h_o), (1, .int p1)]) hx hb dX0_recolourings_25 rfl hl (by decide) rfl (fun ls hl => ?_)
    refine lv_iconst (v := 0) hx hb dX0_recolourings_26 (by decide) ?_
    refine lv_istore_n (lv' := [(3, .int (0 : Int32)), (2, .int (0 : Int32)), (0, .ref h_o), (1, .int p1)]) hx hb dX0_recolourings_27 rfl hl (by decide) rfl (fun ls hl => ?_)
    exact h1 (J_28 q16.2.1 q16.2.2.1 q16.2.2.2.1 q16.2.2.2.2.1 q16.2.2.2.2.2 1000 (0 : Int32) (0 : Int32) _ hf hG _ _ hP hD hS _ (lv_sub hl [2, 1, 0] rfl))
  · replace hf := ds_t c_19 hf
    refine lv_iconst (v := 0) hx hb dX0_recolourings_22 (by decide) ?_
    have hf := Option.some.inj hf
    subst hf
    rw [eG0] at hG
    have hG : _ = res := hG
    subst hG
    exact W.iret (v := (0 : Int32)) hx hb hr (fun t ht hW => ⟨⟨(0 : Int32), (), rfl, rfl, by rw [ht]; exact hP, hD⟩, hS.F ht⟩) hS.2.2 dX0_recolourings_23

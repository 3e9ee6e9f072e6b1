/-! the law's own step: it answers, or it catches what the class throws -/
theorem kw_1157 : Cond.methodLink RL 7 yX7_step ∈ ds_gw := ds_g (ds_t4 91 (by decide +kernel)) rfl
theorem kw_1158 : Cond.instanceMethod yX7_step ∈ ds_gw := ds_g (ds_t4 92 (by decide +kernel)) rfl
theorem kw_1159 : Cond.selects RX7 yX7_step yX7_step ∈ ds_gw := ds_g (ds_t4 93 (by decide +kernel)) rfl
theorem kw_1160 : Cond.code yX7_step cX7_step 5 (some .int) ∈ ds_gw := ds_g (ds_t4 94 (by decide +kernel)) rfl
theorem kw_1161 : Cond.classLink RL 13 "java/util/NoSuchElementException" ∈ ds_gw := ds_g (ds_t4 90 (by decide +kernel)) rfl
theorem kw_1162 : Cond.methodLink RL 87 yL_step ∈ ds_gw := ds_g (ds_t4 87 (by decide +kernel)) rfl
theorem kw_1163 : Cond.static yL_step ∈ ds_gw := ds_g (ds_t4 88 (by decide +kernel)) rfl
theorem kw_1164 : Cond.initialized RL ∈ ds_gw := ds_g (ds_t1 0 (by decide +kernel)) rfl
theorem kw_1165 : Cond.codeWith yL_step cL_step 5 (some .int) [(0, 10, 13, 13)] ∈ ds_gw := ds_g (ds_t4 89 (by decide +kernel)) rfl
theorem kw_1166 : Cond.methodLink RL 92 yX8_step ∈ ds_gw := ds_g (ds_t5 217 (by decide +kernel)) rfl
theorem kw_1167 : Cond.instanceMethod yX8_step ∈ ds_gw := ds_g (ds_t5 218 (by decide +kernel)) rfl
theorem kw_1168 : Cond.selects RX8 yX8_step yX8_step ∈ ds_gw := ds_g (ds_t5 219 (by decide +kernel)) rfl
theorem kw_1169 : Cond.code yX8_step cX8_step 5 (some .int) ∈ ds_gw := ds_g (ds_t5 220 (by decide +kernel)) rfl
theorem kw_1170 : Cond.methodLink RL 93 yX8_thrown ∈ ds_gw := ds_g (ds_t5 17 (by decide +kernel)) rfl
theorem kw_1171 : Cond.instanceMethod yX8_thrown ∈ ds_gw := ds_g (ds_t5 18 (by decide +kernel)) rfl
theorem kw_1172 : Cond.selects RX8 yX8_thrown yX8_thrown ∈ ds_gw := ds_g (ds_t5 19 (by decide +kernel)) rfl
theorem kw_1173 : Cond.code yX8_thrown cX8_thrown 1 (some .int) ∈ ds_gw := ds_g (ds_t5 20 (by decide +kernel)) rfl
theorem dL_step_0 : decode cL_step 0 = .ok (.aload_n 3, 1) := by decide +kernel
theorem dL_step_1 : decode cL_step 1 = .ok (.iconst 0, 1) := by decide +kernel
theorem dL_step_2 : decode cL_step 2 = .ok (.aload_n 0, 1) := by decide +kernel
theorem dL_step_3 : decode cL_step 3 = .ok (.iload_n 1, 1) := by decide +kernel
theorem dL_step_4 : decode cL_step 4 = .ok (.iload_n 2, 1) := by decide +kernel
theorem dL_step_5 : decode cL_step 5 = .ok (.invokevirtual 7, 3) := by decide +kernel
theorem dL_step_8 : decode cL_step 8 = .ok (.i2l, 1) := by decide +kernel
theorem dL_step_9 : decode cL_step 9 = .ok (.lastore, 1) := by decide +kernel
theorem dL_step_10 : decode cL_step 10 = .ok (.goto 7, 3) := by decide +kernel
theorem dL_step_13 : decode cL_step 13 = .ok (.astore 4, 2) := by decide +kernel
theorem dL_step_15 : decode cL_step 15 = .ok (.iconst 1, 1) := by decide +kernel
theorem dL_step_16 : decode cL_step 16 = .ok (.ireturn, 1) := by decide +kernel
theorem dL_step_17 : decode cL_step 17 = .ok (.iconst 0, 1) := by decide +kernel
theorem dL_step_18 : decode cL_step 18 = .ok (.ireturn, 1) := by decide +kernel
theorem dl_gS {own : String} {idx : Nat} {y : MethodName} {c : ByteArray} {n : Nat} {r : Option FieldType} {hh : List (Nat × Nat × Nat × Nat)} {hd : Cond} (h1 : Cond.methodLink own idx y ∈ ds_gw) (h2 : Cond.static y ∈ ds_gw) (h4 : Cond.initialized y.cls ∈ ds_gw) (h5 : Cond.codeWith y c n r hh ∈ ds_gw) : GoodIn (hd :: ds_gw) (va_wsS own idx y (Cond.codeWith y c n r hh :: ds_gw)) := by
  intro w hw
  have h : w ∈ ds_gw := by
    unfold va_wsS at hw
    simp only [List.cons_append, List.nil_append, List.mem_cons] at hw
    rcases hw with rfl | rfl | rfl | rfl | hw <;> assumption
  exact ⟨List.mem_cons_of_mem _ h, ds_gw_good h⟩
theorem dl_ofWH {l : Launch} {y : MethodName} {ws ws' : List Cond} {rm : Room} {Pc : Array Value → State → Prop} {Qc : Array Value → State → Outcome → State → Prop} {mc ms : Nat} {free : Addr → Prop} {cc : ByteArray} {maxL : Nat} {ret : Option FieldType} {hh : List (Nat × Nat × Nat × Nat)}
    (hy : plainName y.cls = true) (hw : ws = Cond.codeWith y cc maxL ret hh :: ws')
    (body : ∀ p e s m args below meth c s₁, BodyLoose p l y (headSpec ws rm) cc maxL ret e s m args below meth c s₁ → c.maxLocals = maxL → Pc args s →
      W p l e (headSpec ws rm).room s m args below meth c s.heap [] 0 0 (MQ below Qc args s mc ms free) (entryFrame m args maxL)) : Met l y ws rm Pc Qc mc ms free := by
  refine MetFree.of_bodyS (code := cc) (maxLocals := maxL) (ret := ret) hy ?_ ?_
  · intro args s m h hn
    obtain ⟨m9, meth, c, hn9, h1, h2, h3, h4, -, h5, h6, -⟩ := Cond.codeWith_spec (atoms_spec (ws := ws) h _ (by rw [hw]; exact List.mem_cons_self))
    cases hn.symm.trans hn9
    exact ⟨meth, c, h1, h2, h3, h4, h5, h6⟩
  · intro p e s m args below meth c s₁ B hml hP _
    have hh0 : s₁.heap = s.heap := by rw [B.state]; rfl
    obtain ⟨t, a1, o, b1, b2, b3⟩ := body p e s m args below meth c s₁ B hml hP s₁ hh0 (Stand.of_body B)
    exact ⟨t, o, a1, b1, b2, b3⟩
section DLM
variable {p : Program} {l : Launch} {e : Env} {R : Room} {s : State} {m : MethodId} {args : Array Value} {below : List Frame} {meth : Method} {c : Code} {H : Heap} {locs : List Loc} {cells slots mc ms : Nat} {Q : State → Prop}
variable {pc : Nat} {ls : Array Slot} {rest st0 : List Value} {a : Array Value} {A : Nat → Prop} {H0 : Heap} {dC : Nat → ClassId} {dI : Nat → Nat → Nat} {ws wc w1 ws' : va_W}
theorem dl_callm {v : Int32} (hr : va_Run p l e R s m args below meth c H locs cells slots mc ms (F0 m pc ls st0) rest (va_Qi (fun r (_ : Unit) => r = v) (ds_B dC dI (va_A wc H.size) w1) (va_A wc H.size) a) (va_A wc H.size)) (hP : va_P (dC, dI) vwCl ws H) (hD : va_D A ws) (hS : va_S A H0 H locs) (hA : ∀ q : Nat, H0.size ≤ q → A q) (isC : List Nat) (hC : isC.map (fun i => ws[i]?) = wc.map some) (ha : w1.map (fun q => q.1) = wc.map (fun q => q.1)) (hw : dl_put ws isC w1 = ws')
    (kk : ∀ (H1 : Heap) (locs1 : List Loc), va_P (dC, dI) vwCl ws' H1 → va_D A ws' → va_S A H0 H1 locs1 → W p l e R s m args below meth c H1 locs1 (cells + mc) (slots + ms) Q (F0 m (pc + 3) ls (.int v :: rest))) : W p l e R s m args below meth c H locs cells slots Q (F0 m pc ls st0) := by
  have hF := va_free (wc := wc) hD hS hA isC hC
  refine va_calli hr hS (fun q _ h => hF q h) hF (fun r u t H1 locs1 ht hvm hw2 hB hz1 hk1 hS1 => ?_)
  subst hw2
  subst hw
  obtain ⟨hP1, hD1⟩ := hB
  rw [ht] at hP1
  obtain ⟨hP2, hD2⟩ := dl_join hP hD isC hC ha hk1 hP1
  exact kk H1 locs1 hP2 hD2 hS1
end DLM
def dl_PB (dC : Nat → ClassId) (dI : Nat → Nat → Nat) (ca : Nat → ClassId) (sa : Nat → Nat) (wx : va_W) (sq sz : Nat) : State → Prop := fun U => ds_Pre dC dI ca sa wx sz U ∧ dt_E sq (fun q => sz ≤ q) U U.heap
theorem dl_PB_blind {dC : Nat → ClassId} {dI : Nat → Nat → Nat} {ca : Nat → ClassId} {sa : Nat → Nat} {wx : va_W} {sq sz : Nat} {av : List Value} : FrameBlind (va_Pc av (dl_PB dC dI ca sa wx sq sz)) := by
  intro a U g mk q
  obtain ⟨q0, q1, qE⟩ := q
  exact ⟨q0, (ds_blind (av := av) a U g mk ⟨q0, q1⟩).2, dt_E.same (s := U) (U := U.calling g mk a) (H := U.heap) rfl qE⟩
def fL_step (p1_group_looked : Int32) (p1_group_stepsFound : Int32) (p1_group_firstX : Int32) (p1_group_firstY : Int32) (p1_group_secondX : Int32) (p1_group_secondY : Int32) (p1_group_seen_wide : Int32) (p1_group_seen_high : Int32) (p1_group_seen_hex : Int32) (p1_group_seen_ones : Int64) (p1_group_seen_twos : Int64) (p1_now_tile_wide : Int32) (p1_now_tile_high : Int32) (p1_now_tile_hex : Int32) (p1_now_tile_ones : Int64) (p1_now_tile_twos : Int64) (p1_group_found_r : Nat → Int64) (p1_group_turned_wide : Int32) (p1_group_turned_high : Int32) (p1_group_turned_hex : Int32) (p1_group_turned_ones : Int64) (p1_group_turned_twos : Int64) (p4_r : Nat → Int64) (p2 : Int32) (p3 : Int32) : Option (Int32 × Int32 × Int32 × Int32 × Int32 × Int32 × Int32 × Int32 × Int32 × Int32 × Int64 × Int64 × (Nat → Int64) × Int32 × Int32 × Int32 × Int64 × Int64 × (Nat → Int64)) :=
  Option.bind (fX7_step p1_group_looked p1_group_stepsFound p1_group_firstX p1_group_firstY p1_group_secondX p1_group_secondY p1_group_seen_wide p1_group_seen_high p1_group_seen_hex p1_group_seen_ones p1_group_seen_twos p1_now_tile_wide p1_now_tile_high p1_now_tile_hex p1_now_tile_ones p1_now_tile_twos p1_group_found_r p1_group_turned_wide p1_group_turned_high p1_group_turned_hex p1_group_turned_ones p1_group_turned_twos p2 p3) fun q5 => some ((0 : Int32), q5.2.1, q5.2.2.1, q5.2.2.2.1, q5.2.2.2.2.1, q5.2.2.2.2.2.1, q5.2.2.2.2.2.2.1, q5.2.2.2.2.2.2.2.1, q5.2.2.2.2.2.2.2.2.1, q5.2.2.2.2.2.2.2.2.2.1, q5.2.2.2.2.2.2.2.2.2.2.1, q5.2.2.2.2.2.2.2.2.2.2.2.1, q5.2.2.2.2.2.2.2.2.2.2.2.2.1, q5.2.2.2.2.2.2.2.2.2.2.2.2.2.1, q5.2.2.2.2.2.2.2.2.2.2.2.2.2.2.1, q5.2.2.2.2.2.2.2.2.2.2.2.2.2.2.2.1, q5.2.2.2.2.2.2.2.2.2.2.2.2.2.2.2.2.1, q5.2.2.2.2.2.2.2.2.2.2.2.2.2.2.2.2.2, (vp_updL p4_r ((0 : Int32).toNatClampNeg) q5.1.toInt64))
set_option maxHeartbeats 4000000 in
set_option maxRecDepth 100000 in
theorem c_L_step (l : Launch) (dC : Nat → ClassId) (dI : Nat → Nat → Nat) (ca : Nat → ClassId) (sa : Nat → Nat) (h_p1 : Nat) (h_p1_now : Nat) (h_p1_kept : Nat) (h_p1_past : Nat) (h_p1_orbits : Nat) (h_p1_group : Nat) (h_p1_trial : Nat) (h_p1_draft : Nat) (h_p1_now_tile : Nat) (h_p1_now_script : Nat) (h_p1_group_seen : Nat) (h_p1_group_turned : Nat) (h_p1_group_found : Nat) (h_p4 : Nat) (sz : Nat) (p1_now_filled : Int32) (p1_group_looked : Int32) (p1_group_stepsFound : Int32) (p1_group_firstX : Int32) (p1_group_firstY : Int32) (p1_group_secondX : Int32) (p1_group_secondY : Int32) (p1_group_seen_wide : Int32) (p1_group_seen_high : Int32) (p1_group_seen_hex : Int32) (p1_group_seen_ones : Int64) (p1_group_seen_twos : Int64) (p1_now_tile_wide : Int32) (p1_now_tile_high : Int32) (p1_now_tile_hex : Int32) (p1_now_tile_ones : Int64) (p1_now_tile_twos : Int64) (p1_group_found_r : Nat → Int64) (p1_group_turned_wide : Int32) (p1_group_turned_high : Int32) (p1_group_turned_hex : Int32) (p1_group_turned_ones : Int64) (p1_group_turned_twos : Int64) (p4_r : Nat → Int64) (p2 : Int32) (p3 : Int32) (res : Int32 × Int32 × Int32 × Int32 × Int32 × Int32 × Int32 × Int32 × Int32 × Int32 × Int64 × Int64 × (Nat → Int64) × Int32 × Int32 × Int32 × Int64 × Int64 × (Nat → Int64)) (hf : fL_step p1_group_looked p1_group_stepsFound p1_group_firstX p1_group_firstY p1_group_secondX p1_group_secondY p1_group_seen_wide p1_group_seen_high p1_group_seen_hex p1_group_seen_ones p1_group_seen_twos p1_now_tile_wide p1_now_tile_high p1_now_tile_hex p1_now_tile_ones p1_now_tile_twos p1_group_found_r p1_group_turned_wide p1_group_turned_high p1_group_turned_hex p1_group_turned_ones p1_group_turned_twos p4_r p2 p3 = some res) : Met l yL_step (Cond.codeWith yL_step cL_step 5 (some .int) [(0, 10, 13, 13)] :: ds_gw) { frames := 7, cells := 0, slots := 0, locals := 174 } (va_Pc [.ref h_p1, .int p2, .int p3, .ref h_p4] (ds_Pre dC dI ca sa [(h_p1, .inr (6, [.ref h_p1_now, .ref h_p1_kept, .ref h_p1_past, .ref h_p1_orbits, .ref h_p1_group, .ref h_p1_trial, .ref h_p1_draft])), (h_p1_now, .inr (2, [.ref h_p1_now_tile, .ref h_p1_now_script, .int p1_now_filled])), (h_p1_group, .inr (0, [.ref h_p1_group_seen, .ref h_p1_group_turned, .ref h_p1_group_found, .int p1_group_looked, .int p1_group_stepsFound, .int p1_group_firstX, .int p1_group_firstY, .int p1_group_secondX, .int p1_group_secondY])), (h_p1_group_seen, .inr (5, [.int p1_group_seen_wide, .int p1_group_seen_high, .int p1_group_seen_hex, .long p1_group_seen_ones, .long p1_group_seen_twos])), (h_p1_now_tile, .inr (5, [.int p1_now_tile_wide, .int p1_now_tile_high, .int p1_now_tile_hex, .long p1_now_tile_ones, .long p1_now_tile_twos])), (h_p1_group_found, .inl (ca 1, 12, .inr (.inl p1_group_found_r))), (h_p1_group_turned, .inr (5, [.int p1_group_turned_wide, .int p1_group_turned_high, .int p1_group_turned_hex, .long p1_group_turned_ones, .long p1_group_turned_twos])), (h_p4, .inl (ca 1, 1, .inr (.inl p4_r)))] sz)) (va_Qi (fun r (_ : Unit) => r = res.1) (ds_B dC dI (va_A [(h_p1, .inr (6, [.ref h_p1_now, .ref h_p1_kept, .ref h_p1_past, .ref h_p1_orbits, .ref h_p1_group, .ref h_p1_trial, .ref h_p1_draft])), (h_p1_now, .inr (2, [.ref h_p1_now_tile, .ref h_p1_now_script, .int p1_now_filled])), (h_p1_group, .inr (0, [.ref h_p1_group_seen, .ref h_p1_group_turned, .ref h_p1_group_found, .int p1_group_looked, .int p1_group_stepsFound, .int p1_group_firstX, .int p1_group_firstY, .int p1_group_secondX, .int p1_group_secondY])), (h_p1_group_seen, .inr (5, [.int p1_group_seen_wide, .int p1_group_seen_high, .int p1_group_seen_hex, .long p1_group_seen_ones, .long p1_group_seen_twos])), (h_p1_now_tile, .inr (5, [.int p1_now_tile_wide, .int p1_now_tile_high, .int p1_now_tile_hex, .long p1_now_tile_ones, .long p1_now_tile_twos])), (h_p1_group_found, .inl (ca 1, 12, .inr (.inl p1_group_found_r))), (h_p1_group_turned, .inr (5, [.int p1_group_turned_wide, .int p1_group_turned_high, .int p1_group_turned_hex, .long p1_group_turned_ones, .long p1_group_turned_twos])), (h_p4, .inl (ca 1, 1, .inr (.inl p4_r)))] sz) [(h_p1, .inr (6, [.ref h_p1_now, .ref h_p1_kept, .ref h_p1_past, .ref h_p1_orbits, .ref h_p1_group, .ref h_p1_trial, .ref h_p1_draft])), (h_p1_now, .inr (2, [.ref h_p1_now_tile, .ref h_p1_now_script, .int p1_now_filled])), (h_p1_group, .inr (0, [.ref h_p1_group_seen, .ref h_p1_group_turned, .ref h_p1_group_found, .int res.2.1, .int res.2.2.1, .int res.2.2.2.1, .int res.2.2.2.2.1, .int res.2.2.2.2.2.1, .int res.2.2.2.2.2.2.1])), (h_p1_group_seen, .inr (5, [.int res.2.2.2.2.2.2.2.1, .int res.2.2.2.2.2.2.2.2.1, .int res.2.2.2.2.2.2.2.2.2.1, .long res.2.2.2.2.2.2.2.2.2.2.1, .long res.2.2.2.2.2.2.2.2.2.2.2.1])), (h_p1_now_tile, .inr (5, [.int p1_now_tile_wide, .int p1_now_tile_high, .int p1_now_tile_hex, .long p1_now_tile_ones, .long p1_now_tile_twos])), (h_p1_group_found, .inl (ca 1, 12, .inr (.inl res.2.2.2.2.2.2.2.2.2.2.2.2.1))), (h_p1_group_turned, .inr (5, [.int res.2.2.2.2.2.2.2.2.2.2.2.2.2.1, .int res.2.2.2.2.2.2.2.2.2.2.2.2.2.2.1, .int res.2.2.2.2.2.2.2.2.2.2.2.2.2.2.2.1, .long res.2.2.2.2.2.2.2.2.2.2.2.2.2.2.2.2.1, .long res.2.2.2.2.2.2.2.2.2.2.2.2.2.2.2.2.2.1])), (h_p4, .inl (ca 1, 1, .inr (.inl res.2.2.2.2.2.2.2.2.2.2.2.2.2.2.2.2.2.2)))]) (va_A [(h_p1, .inr (6, [.ref h_p1_now, .ref h_p1_kept, .ref h_p1_past, .ref h_p1_orbits, .ref h_p1_group, .ref h_p1_trial, .ref h_p1_draft])), (h_p1_now, .inr (2, [.ref h_p1_now_tile, .ref h_p1_now_script, .int p1_now_filled])), (h_p1_group, .inr (0, [.ref h_p1_group_seen, .ref h_p1_group_turned, .ref h_p1_group_found, .int p1_group_looked, .int p1_group_stepsFound, .int p1_group_firstX, .int p1_group_firstY, .int p1_group_secondX, .int p1_group_secondY])), (h_p1_group_seen, .inr (5, [.int p1_group_seen_wide, .int p1_group_seen_high, .int p1_group_seen_hex, .long p1_group_seen_ones, .long p1_group_seen_twos])), (h_p1_now_tile, .inr (5, [.int p1_now_tile_wide, .int p1_now_tile_high, .int p1_now_tile_hex, .long p1_now_tile_ones, .long p1_now_tile_twos])), (h_p1_group_found, .inl (ca 1, 12, .inr (.inl p1_group_found_r))), (h_p1_group_turned, .inr (5, [.int p1_group_turned_wide, .int p1_group_turned_high, .int p1_group_turned_hex, .long p1_group_turned_ones, .long p1_group_turned_twos])), (h_p4, .inl (ca 1, 1, .inr (.inl p4_r)))] sz)) 0 0 (va_A [(h_p1, .inr (6, [.ref h_p1_now, .ref h_p1_kept, .ref h_p1_past, .ref h_p1_orbits, .ref h_p1_group, .ref h_p1_trial, .ref h_p1_draft])), (h_p1_now, .inr (2, [.ref h_p1_now_tile, .ref h_p1_now_script, .int p1_now_filled])), (h_p1_group, .inr (0, [.ref h_p1_group_seen, .ref h_p1_group_turned, .ref h_p1_group_found, .int p1_group_looked, .int p1_group_stepsFound, .int p1_group_firstX, .int p1_group_firstY, .int p1_group_secondX, .int p1_group_secondY])), (h_p1_group_seen, .inr (5, [.int p1_group_seen_wide, .int p1_group_seen_high, .int p1_group_seen_hex, .long p1_group_seen_ones, .long p1_group_seen_twos])), (h_p1_now_tile, .inr (5, [.int p1_now_tile_wide, .int p1_now_tile_high, .int p1_now_tile_hex, .long p1_now_tile_ones, .long p1_now_tile_twos])), (h_p1_group_found, .inl (ca 1, 12, .inr (.inl p1_group_found_r))), (h_p1_group_turned, .inr (5, [.int p1_group_turned_wide, .int p1_group_turned_high, .int p1_group_turned_hex, .long p1_group_turned_ones, .long p1_group_turned_twos])), (h_p4, .inl (ca 1, 1, .inr (.inl p4_r)))] sz) := by
  refine dl_ofWH (cc := cL_step) (hh := [(0, 10, 13, 13)]) (maxL := 5) (ret := (some .int)) (by decide) rfl ?_
  intro p e s m args below meth c s₁ B hml hv
  obtain ⟨rfl, hsz, hP, hK, hD0, hE⟩ := hv
  have hx := B.exec
  have hb := B.bytes
  have hr := B.returns
  have hts := atoms_spec (ws := Cond.codeWith yL_step cL_step 5 (some .int) [(0, 10, 13, 13)] :: ds_gw) B.pre
  have hg : ∀ {w : Cond}, w ∈ ds_gw → w.before _ s = true := fun h => hts _ (List.mem_cons_of_mem _ h)
  have hown : s.vm.findClass RL = some m.cls := findClass_of_methodNamed B.named
  have hlocks := B.notSynchronized
  subst hsz
  have hD := hD0.self (sz := s.heap.size)
  generalize hAe : va_A [(h_p1, .inr (6, [.ref h_p1_now, .ref h_p1_kept, .ref h_p1_past, .ref h_p1_orbits, .ref h_p1_group, .ref h_p1_trial, .ref h_p1_draft])), (h_p1_now, .inr (2, [.ref h_p1_now_tile, .ref h_p1_now_script, .int p1_now_filled])), (h_p1_group, .inr (0, [.ref h_p1_group_seen, .ref h_p1_group_turned, .ref h_p1_group_found, .int p1_group_looked, .int p1_group_stepsFound, .int p1_group_firstX, .int p1_group_firstY, .int p1_group_secondX, .int p1_group_secondY])), (h_p1_group_seen, .inr (5, [.int p1_group_seen_wide, .int p1_group_seen_high, .int p1_group_seen_hex, .long p1_group_seen_ones, .long p1_group_seen_twos])), (h_p1_now_tile, .inr (5, [.int p1_now_tile_wide, .int p1_now_tile_high, .int p1_now_tile_hex, .long p1_now_tile_ones, .long p1_now_tile_twos])), (h_p1_group_found, .inl (ca 1, 12, .inr (.inl p1_group_found_r))), (h_p1_group_turned, .inr (5, [.int p1_group_turned_wide, .int p1_group_turned_high, .int p1_group_turned_hex, .long p1_group_turned_ones, .long p1_group_turned_twos])), (h_p4, .inl (ca 1, 1, .inr (.inl p4_r)))] s.heap.size = A at hD hE ⊢
  have hA : ∀ q : Nat, s.heap.size ≤ q → A q := fun q h => by rw [← hAe]; exact Or.inr h
  have hS : va_S A s.heap s.heap [] := va_S.rf
  have hl := lv_entry ([.ref h_p1, .int p2, .int p3, .ref h_p4]) (n := 5) (Nat.le_of_ble_eq_true rfl)
  rw [lg_entry_eq]
  generalize (lg_sl ([.ref h_p1, .int p2, .int p3, .ref h_p4]) ++ List.replicate (5 - (lg_sl ([.ref h_p1, .int p2, .int p3, .ref h_p4])).length) Slot.unset).toArray = ls at hl ⊢
  have hl : lv_has ls 5 [(0, .ref h_p1), (1, .int p2), (2, .int p3), (3, .ref h_p4)] := hl
  obtain ⟨G0, eG0⟩ : ∃ G : (Int32 × Int32 × Int32 × Int32 × Int32 × Int32 × Int32 × Int32 × Int32 × Int32 × Int64 × Int64 × (Nat → Int64) × Int32 × Int32 × Int32 × Int64 × Int64 × (Nat → Int64)) → Prop, G = (fun r => r = res) := ⟨_, rfl⟩
  obtain ⟨rr, hrr⟩ : ∃ z, z = res := ⟨_, rfl⟩
  rw [← hrr] at hf
  have hG : G0 rr := by subst eG0; exact hrr
  unfold fL_step at hf
  refine lv_aload_n hx hb dL_step_0 rfl (lv_at hl 3 rfl) ?_
  refine lv_iconst (v := 0) hx hb dL_step_1 (by decide) ?_
  refine lv_aload_n hx hb dL_step_2 rfl (lv_at hl 0 rfl) ?_
  refine lv_iload_n hx hb dL_step_3 rfl (lv_at hl 1 rfl) ?_
  refine lv_iload_n hx hb dL_step_4 rfl (lv_at hl 2 rfl) ?_
  obtain ⟨q5, hq5, hf⟩ := ds_ob hf
  refine ds_calli (wr := [(h_p4, .inl (ca 1, 1, .inr (.inl p4_r)))]) (va_runV (As := [.int p2, .int p3]) (rest := [.int (0 : Int32), .ref h_p4]) ⟨hx, hb, hml, hown, hts⟩ (c_X7_step l dC dI ca sa h_p1 h_p1_now h_p1_kept h_p1_past h_p1_orbits h_p1_group h_p1_trial h_p1_draft h_p1_now_tile h_p1_now_script h_p1_group_seen h_p1_group_turned h_p1_group_found s.heap.size p1_now_filled p1_group_looked p1_group_stepsFound p1_group_firstX p1_group_firstY p1_group_secondX p1_group_secondY p1_group_seen_wide p1_group_seen_high p1_group_seen_hex p1_group_seen_ones p1_group_seen_twos p1_now_tile_wide p1_now_tile_high p1_now_tile_hex p1_now_tile_ones p1_now_tile_twos p1_group_found_r p1_group_turned_wide p1_group_turned_high p1_group_turned_hex p1_group_turned_ones p1_group_turned_twos p2 p3 q5 hq5) (cwV 2 hts (ds_gV kw_1157 kw_1158 kw_1159 kw_71 kw_1160) rfl rfl rfl (by decide +kernel) ⟨Nat.le_of_ble_eq_true rfl, Nat.le_of_ble_eq_true rfl⟩) ⟨ds_blind, va_recv hK hP (ci := 6) (q0 := 0) rfl rfl, ds_at hP hD hK hE hS hA [0, 1, 2, 3, 4, 5, 6] rfl rfl _⟩ rfl rfl hl.1 rfl (lv_room (Nat.le_of_ble_eq_true rfl)) dL_step_5 ⟨Nat.zero_le _, Nat.zero_le _⟩) hP hD hS hA [0, 1, 2, 3, 4, 5, 6] [7] rfl rfl rfl (by decide) (fun H locs hP hD hS => ?_)
  have hP : va_P (dC, dI) vwCl [(h_p4, .inl (ca 1, 1, .inr (.inl p4_r))), (h_p1, .inr (6, [.ref h_p1_now, .ref h_p1_kept, .ref h_p1_past, .ref h_p1_orbits, .ref h_p1_group, .ref h_p1_trial, .ref h_p1_draft])), (h_p1_now, .inr (2, [.ref h_p1_now_tile, .ref h_p1_now_script, .int p1_now_filled])), (h_p1_group, .inr (0, [.ref h_p1_group_seen, .ref h_p1_group_turned, .ref h_p1_group_found, .int q5.2.1, .int q5.2.2.1, .int q5.2.2.2.1, .int q5.2.2.2.2.1, .int q5.2.2.2.2.2.1, .int q5.2.2.2.2.2.2.1])), (h_p1_group_seen, .inr (5, [.int q5.2.2.2.2.2.2.2.1, .int q5.2.2.2.2.2.2.2.2.1, .int q5.2.2.2.2.2.2.2.2.2.1, .long q5.2.2.2.2.2.2.2.2.2.2.1, .long q5.2.2.2.2.2.2.2.2.2.2.2.1])), (h_p1_now_tile, .inr (5, [.int p1_now_tile_wide, .int p1_now_tile_high, .int p1_now_tile_hex, .long p1_now_tile_ones, .long p1_now_tile_twos])), (h_p1_group_found, .inl (ca 1, 12, .inr (.inl q5.2.2.2.2.2.2.2.2.2.2.2.2.1))), (h_p1_group_turned, .inr (5, [.int q5.2.2.2.2.2.2.2.2.2.2.2.2.2.1, .int q5.2.2.2.2.2.2.2.2.2.2.2.2.2.2.1, .int q5.2.2.2.2.2.2.2.2.2.2.2.2.2.2.2.1, .long q5.2.2.2.2.2.2.2.2.2.2.2.2.2.2.2.2.1, .long q5.2.2.2.2.2.2.2.2.2.2.2.2.2.2.2.2.2]))] H := hP
  have hD : va_D A [(h_p4, .inl (ca 1, 1, .inr (.inl p4_r))), (h_p1, .inr (6, [.ref h_p1_now, .ref h_p1_kept, .ref h_p1_past, .ref h_p1_orbits, .ref h_p1_group, .ref h_p1_trial, .ref h_p1_draft])), (h_p1_now, .inr (2, [.ref h_p1_now_tile, .ref h_p1_now_script, .int p1_now_filled])), (h_p1_group, .inr (0, [.ref h_p1_group_seen, .ref h_p1_group_turned, .ref h_p1_group_found, .int q5.2.1, .int q5.2.2.1, .int q5.2.2.2.1, .int q5.2.2.2.2.1, .int q5.2.2.2.2.2.1, .int q5.2.2.2.2.2.2.1])), (h_p1_group_seen, .inr (5, [.int q5.2.2.2.2.2.2.2.1, .int q5.2.2.2.2.2.2.2.2.1, .int q5.2.2.2.2.2.2.2.2.2.1, .long q5.2.2.2.2.2.2.2.2.2.2.1, .long q5.2.2.2.2.2.2.2.2.2.2.2.1])), (h_p1_now_tile, .inr (5, [.int p1_now_tile_wide, .int p1_now_tile_high, .int p1_now_tile_hex, .long p1_now_tile_ones, .long p1_now_tile_twos])), (h_p1_group_found, .inl (ca 1, 12, .inr (.inl q5.2.2.2.2.2.2.2.2.2.2.2.2.1))), (h_p1_group_turned, .inr (5, [.int q5.2.2.2.2.2.2.2.2.2.2.2.2.2.1, .int q5.2.2.2.2.2.2.2.2.2.2.2.2.2.2.1, .int q5.2.2.2.2.2.2.2.2.2.2.2.2.2.2.2.1, .long q5.2.2.2.2.2.2.2.2.2.2.2.2.2.2.2.2.1, .long q5.2.2.2.2.2.2.2.2.2.2.2.2.2.2.2.2.2]))] := hD
  refine lv_i2l (v := q5.1.toInt64) hx hb dL_step_8 rfl ?_
  refine va_last hx hb hK hP hD hS 0 1 rfl rfl (ds_in_ok (i := 0) (n := 1) (by decide)) dL_step_9 (fun H locs hP hD hS => ?_)
  have hP : va_P (dC, dI) vwCl [(h_p4, .inl (ca 1, 1, .inr (.inl (vp_updL p4_r ((0 : Int32).toNatClampNeg) q5.1.toInt64)))), (h_p1, .inr (6, [.ref h_p1_now, .ref h_p1_kept, .ref h_p1_past, .ref h_p1_orbits, .ref h_p1_group, .ref h_p1_trial, .ref h_p1_draft])), (h_p1_now, .inr (2, [.ref h_p1_now_tile, .ref h_p1_now_script, .int p1_now_filled])), (h_p1_group, .inr (0, [.ref h_p1_group_seen, .ref h_p1_group_turned, .ref h_p1_group_found, .int q5.2.1, .int q5.2.2.1, .int q5.2.2.2.1, .int q5.2.2.2.2.1, .int q5.2.2.2.2.2.1, .int q5.2.2.2.2.2.2.1])), (h_p1_group_seen, .inr (5, [.int q5.2.2.2.2.2.2.2.1, .int q5.2.2.2.2.2.2.2.2.1, .int q5.2.2.2.2.2.2.2.2.2.1, .long q5.2.2.2.2.2.2.2.2.2.2.1, .long q5.2.2.2.2.2.2.2.2.2.2.2.1])), (h_p1_now_tile, .inr (5, [.int p1_now_tile_wide, .int p1_now_tile_high, .int p1_now_tile_hex, .long p1_now_tile_ones, .long p1_now_tile_twos])), (h_p1_group_found, .inl (ca 1, 12, .inr (.inl q5.2.2.2.2.2.2.2.2.2.2.2.2.1))), (h_p1_group_turned, .inr (5, [.int q5.2.2.2.2.2.2.2.2.2.2.2.2.2.1, .int q5.2.2.2.2.2.2.2.2.2.2.2.2.2.2.1, .int q5.2.2.2.2.2.2.2.2.2.2.2.2.2.2.2.1, .long q5.2.2.2.2.2.2.2.2.2.2.2.2.2.2.2.2.1, .long q5.2.2.2.2.2.2.2.2.2.2.2.2.2.2.2.2.2]))] H := hP
  have hD : va_D A [(h_p4, .inl (ca 1, 1, .inr (.inl (vp_updL p4_r ((0 : Int32).toNatClampNeg) q5.1.toInt64)))), (h_p1, .inr (6, [.ref h_p1_now, .ref h_p1_kept, .ref h_p1_past, .ref h_p1_orbits, .ref h_p1_group, .ref h_p1_trial, .ref h_p1_draft])), (h_p1_now, .inr (2, [.ref h_p1_now_tile, .ref h_p1_now_script, .int p1_now_filled])), (h_p1_group, .inr (0, [.ref h_p1_group_seen, .ref h_p1_group_turned, .ref h_p1_group_found, .int q5.2.1, .int q5.2.2.1, .int q5.2.2.2.1, .int q5.2.2.2.2.1, .int q5.2.2.2.2.2.1, .int q5.2.2.2.2.2.2.1])), (h_p1_group_seen, .inr (5, [.int q5.2.2.2.2.2.2.2.1, .int q5.2.2.2.2.2.2.2.2.1, .int q5.2.2.2.2.2.2.2.2.2.1, .long q5.2.2.2.2.2.2.2.2.2.2.1, .long q5.2.2.2.2.2.2.2.2.2.2.2.1])), (h_p1_now_tile, .inr (5, [.int p1_now_tile_wide, .int p1_now_tile_high, .int p1_now_tile_hex, .long p1_now_tile_ones, .long p1_now_tile_twos])), (h_p1_group_found, .inl (ca 1, 12, .inr (.inl q5.2.2.2.2.2.2.2.2.2.2.2.2.1))), (h_p1_group_turned, .inr (5, [.int q5.2.2.2.2.2.2.2.2.2.2.2.2.2.1, .int q5.2.2.2.2.2.2.2.2.2.2.2.2.2.2.1, .int q5.2.2.2.2.2.2.2.2.2.2.2.2.2.2.2.1, .long q5.2.2.2.2.2.2.2.2.2.2.2.2.2.2.2.2.1, .long q5.2.2.2.2.2.2.2.2.2.2.2.2.2.2.2.2.2]))] := hD
  refine lv_goto (tgt := 17) hx hb dL_step_10 (by decide) ?_
  refine lv_iconst (v := 0) hx hb dL_step_17 (by decide) ?_
  have hf := Option.some.inj hf
  subst hf
  rw [eG0] at hG
  have hG : _ = res := hG
  subst hG
  exact W.iret (v := (0 : Int32)) hx hb hr (fun t ht hW => ⟨⟨(0 : Int32), (), rfl, rfl, by rw [ht]; exact (hP.sub [1, 2, 3, 4, 5, 6, 7, 0] rfl), (hD.sub [1, 2, 3, 4, 5, 6, 7, 0] rfl rfl)⟩, hS.F ht⟩) hS.2.2 dL_step_18
set_option maxHeartbeats 4000000 in
set_option maxRecDepth 100000 in
theorem c_L_stepB (l : Launch) (hl0 : l.stackTraces = false) (dC : Nat → ClassId) (dI : Nat → Nat → Nat) (ca : Nat → ClassId) (sa : Nat → Nat) (o hw : Nat) (fs : List Value) (sq sz : Nat) (p1 p2 : Int32) (hp : p2 < 0 ∨ 2 < p2) :
    Met l yL_step (Cond.codeWith yL_step cL_step 5 (some .int) [(0, 10, 13, 13)] :: ds_gw) { frames := 7, cells := 1, slots := 6, locals := 174 } (va_Pc [.ref o, .int p1, .int p2, .ref hw] (dl_PB dC dI ca sa [(o, .inr (6, fs))] sq sz)) (va_Qi (fun r (_ : Unit) => r = 1) (ds_B dC dI (va_A [] sz) []) (va_A [] sz)) 1 6 (va_A [] sz) := by
  refine dl_ofWH (cc := cL_step) (hh := [(0, 10, 13, 13)]) (maxL := 5) (ret := (some .int)) (by decide) rfl ?_
  intro p e s m args below meth c s₁ B hml hv
  obtain ⟨rfl, ⟨hsz, hP, hK, hD0, hE⟩, hX⟩ := hv
  have hx := B.exec
  have hb := B.bytes
  have hr := B.returns
  have hts := atoms_spec (ws := Cond.codeWith yL_step cL_step 5 (some .int) [(0, 10, 13, 13)] :: ds_gw) B.pre
  have hg : ∀ {w : Cond}, w ∈ ds_gw → w.before _ s = true := fun h => hts _ (List.mem_cons_of_mem _ h)
  have htab := vx_table (x := yL_step) B (hts _ List.mem_cons_self)
  have hown : s.vm.findClass RL = some m.cls := findClass_of_methodNamed B.named
  have hlocks := B.notSynchronized
  subst hsz
  have hS : va_S (va_A [] s.heap.size) s.heap s.heap [] := va_S.rf
  have hl := lv_entry ([.ref o, .int p1, .int p2, .ref hw]) (n := 5) (Nat.le_of_ble_eq_true rfl)
  rw [lg_entry_eq]
  generalize (lg_sl ([.ref o, .int p1, .int p2, .ref hw]) ++ List.replicate (5 - (lg_sl ([.ref o, .int p1, .int p2, .ref hw])).length) Slot.unset).toArray = ls at hl ⊢
  have hl : lv_has ls 5 [(0, .ref o), (1, .int p1), (2, .int p2), (3, .ref hw)] := hl
  refine lv_aload_n hx hb dL_step_0 rfl (lv_at hl 3 rfl) ?_
  refine lv_iconst (v := 0) hx hb dL_step_1 (by decide) ?_
  refine lv_aload_n hx hb dL_step_2 rfl (lv_at hl 0 rfl) ?_
  refine lv_iload_n hx hb dL_step_3 rfl (lv_at hl 1 rfl) ?_
  refine lv_iload_n hx hb dL_step_4 rfl (lv_at hl 2 rfl) ?_
  refine vx_calli (A0 := va_A [] s.heap.size) (vx_runV (As := [.int p1, .int p2]) (rest := [.int 0, .ref hw]) ⟨hx, hb, hml, hown, hts⟩ (dt_stepX l hl0 o sq s.heap.size p1 p2 hp) (cwV 2 hts (ds_gV kw_1157 kw_1158 kw_1159 kw_71 kw_1160) rfl rfl rfl (by decide +kernel) ⟨Nat.le_of_ble_eq_true rfl, Nat.le_of_ble_eq_true rfl⟩) ⟨dt_blind, va_recv hK hP (ci := 6) (q0 := 0) rfl rfl, fun U hU hW => ⟨rfl, by rw [hU], by rw [hU]; exact hX.warm hW⟩⟩ rfl rfl hl.1 rfl (lv_room (Nat.le_of_ble_eq_true rfl)) dL_step_5 ⟨Nat.le_of_ble_eq_true rfl, Nat.le_of_ble_eq_true rfl⟩) hS (fun q _ h => Or.inr h) (fun q h => Or.inr h) (fun q _ h => Or.inr h) ?_ ?_
  · intro E ce q9 u t H1 locs1 ht hal hpx hBX hz hk hS1 hcell hcv hcl
    subst hBX
    refine vx_catch (own := RL) (name := "java/util/NoSuchElementException") hown [] ⟨0, 10, 13, 13⟩ [] (htab.trans rfl) (fun z hz => nomatch hz) (by decide) (by decide) (hg kw_1161) (va_Nw.use (w := .castable "java/util/NoSuchElementException" "java/util/NoSuchElementException") rfl (hX.1 _ (by unfold dt_nw; simp))) hcell hcv hcl ?_
    refine lv_astore hx hb dL_step_13 hl (by decide) rfl (fun ls2 hl2 => ?_)
    refine lv_iconst (v := 1) hx hb dL_step_15 (by decide) ?_
    exact W.iret (v := (1 : Int32)) hx hb hr (fun t ht hW => ⟨⟨(1 : Int32), (), rfl, rfl, fun k q h => (by rw [List.getElem?_nil] at h; cases h), fun i j x y h => (by rw [List.getElem?_nil] at h; cases h), fun k q h => (by rw [List.getElem?_nil] at h; cases h)⟩, hS1.F ht⟩) hS1.2.2 dL_step_16
  · intro r u t H1 locs1 ht hal hpost
    exact hpost.elim


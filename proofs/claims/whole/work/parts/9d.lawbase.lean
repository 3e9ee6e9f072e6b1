/-! the law's rows: an int of the script, a truth out of it -/
def dl_hd : Cond := Cond.initialized RX7
def dl_in (v : Int32) (L : Nat) (f : Nat → Int32) (n : Nat) (x : Int32) : Prop := vp_in (v + Int32.ofInt (n : Int)) L ∧ f (v + Int32.ofInt (n : Int)).toNatClampNeg = x
section DLR
variable {p : Program} {l : Launch} {e : Env} {R : Room} {s : State} {m : MethodId} {args : Array Value} {below : List Frame} {meth : Method} {c : Code} {H : Heap} {locs : List Loc} {cells slots : Nat} {Q : State → Prop}
variable {cc : ByteArray} {pc : Nat} {ls : Array Slot} {rest : List Value} {D : va_G} {cl : List vw_C} {tys : List (ClassId × FieldType)} {ws : va_W}
theorem dl_arg {k n : Nat} {cA : ClassId} {L b : Nat} {f : Nat → Int32} {v x : Int32} (hx : p.tables.exec = Jvm.exec) (hb : c.code = cc) (hK : va_K D cl tys s) (hP : va_P D cl ws H) (hk : ws[k]? = some (b, .inl (cA, L, .inl f))) (ht : tys[0]? = some (cA, .int))
    (d0 : decode cc pc = .ok (.aload_n 0, 1)) (d1 : decode cc (pc + 1) = .ok (.iload 4, 2)) (d2 : decode cc (pc + 3) = .ok (.iconst (n : Int), 1)) (d3 : decode cc (pc + 4) = .ok (.iadd, 1)) (d4 : decode cc (pc + 5) = .ok (.iaload, 1))
    (h0 : ls[0]? = some (.val (.ref b))) (h4 : ls[4]? = some (.val (.int v))) (hi : dl_in v L f n x)
    (kk : W p l e R s m args below meth c H locs cells slots Q (F0 m (pc + 6) ls (.int x :: rest))) : W p l e R s m args below meth c H locs cells slots Q (F0 m pc ls rest) := by
  refine lv_aload_n hx hb d0 rfl h0 ?_
  refine lv_iload hx hb d1 h4 ?_
  refine lv_iconst (v := Int32.ofInt (n : Int)) hx hb d2 rfl ?_
  refine lv_iadd hx hb d3 ?_
  refine va_iald hx hb hK hP k 0 hk ht hi.1 d4 ?_
  rw [hi.2]
  exact kk
theorem dl_bool {x : Int32} (hx : p.tables.exec = Jvm.exec) (hb : c.code = cc) (d0 : decode cc pc = .ok (.ifCond .eq 7, 3)) (d3 : decode cc (pc + 3) = .ok (.iconst 1, 1)) (d4 : decode cc (pc + 4) = .ok (.goto 4, 3)) (d7 : decode cc (pc + 7) = .ok (.iconst 0, 1))
    (kk : W p l e R s m args below meth c H locs cells slots Q (F0 m (pc + 8) ls (.int (ds_q (decide (x ≠ 0))) :: rest))) : W p l e R s m args below meth c H locs cells slots Q (F0 m pc ls (.int x :: rest)) := by
  refine lv_if_eq (tgt := pc + 7) hx hb d0 (by omega) (fun h => ?_) (fun h => ?_)
  · refine lv_iconst (v := 0) hx hb d7 (by decide) ?_
    have e : ds_q (decide (x ≠ 0)) = 0 := by rw [h]; decide
    rw [e] at kk
    exact kk
  · refine lv_iconst (v := 1) hx hb d3 (by decide) ?_
    refine lv_goto (tgt := pc + 8) hx hb d4 (by omega) ?_
    have e : ds_q (decide (x ≠ 0)) = 1 := by rw [decide_eq_true h]; rfl
    rw [e] at kk
    exact kk
end DLR
/-- a world with some of its cells put anew -/
def dl_put : va_W → List Nat → va_W → va_W
  | ws, i :: is, c :: cs => dl_put (ws.set i c) is cs
  | ws, _, _ => ws
theorem dl_put_at : ∀ (is : List Nat) (cs ws : va_W), is.length = cs.length → ∀ (k : Nat) (q : Nat × va_E), (dl_put ws is cs)[k]? = some q → (∃ j : Nat, is[j]? = some k ∧ cs[j]? = some q) ∨ (k ∉ is ∧ ws[k]? = some q) := by
  intro is
  induction is with
  | nil => intro cs ws hl k q h; exact Or.inr ⟨List.not_mem_nil, by cases cs <;> exact h⟩
  | cons i is ih =>
    intro cs ws hl k q h
    cases cs with
    | nil => cases hl
    | cons c cs =>
      rcases ih cs (ws.set i c) (Nat.succ.inj hl) k q h with ⟨j, h1, h2⟩ | ⟨h1, h2⟩
      · exact Or.inl ⟨j + 1, h1, h2⟩
      · by_cases e : i = k
        · subst e
          have hlt : i < ws.length := by
            have h3 := (List.getElem?_eq_some_iff.mp h2).1
            rwa [List.length_set] at h3
          rw [List.getElem?_set_self hlt] at h2
          exact Or.inl ⟨0, rfl, h2⟩
        · rw [List.getElem?_set_ne e] at h2
          exact Or.inr ⟨fun hm => (List.mem_cons.mp hm).elim (fun z => e z.symm) h1, h2⟩
theorem dl_join {A0 : Nat → Prop} {D : va_G} {cl : List vw_C} {ws wc w1 : va_W} {H H1 : Heap} (hP : va_P D cl ws H) (hD : va_D A0 ws) (isC : List Nat) (hC : isC.map (fun i => ws[i]?) = wc.map some) (ha : w1.map (fun q => q.1) = wc.map (fun q => q.1))
    (hk : ∀ q : Nat, q < H.size → ¬ va_A wc H.size q → H1[q]? = H[q]?) (hP1 : va_P D cl w1 H1) : va_P D cl (dl_put ws isC w1) H1 ∧ va_D A0 (dl_put ws isC w1) := by
  have hl1 : isC.length = wc.length := by have h := congrArg List.length hC; simpa using h
  have hl2 : w1.length = wc.length := by have h := congrArg List.length ha; simpa using h
  have at1 : ∀ (j k : Nat), isC[j]? = some k → ws[k]? = wc[j]? ∧ j < wc.length := by
    intro j k h
    have hj : j < wc.length := by rw [← hl1]; exact (List.getElem?_eq_some_iff.mp h).1
    have h1 : (isC.map (fun i => ws[i]?))[j]? = some (ws[k]?) := by rw [List.getElem?_map, h]; rfl
    rw [hC, List.getElem?_map, List.getElem?_eq_getElem hj] at h1
    exact ⟨by rw [List.getElem?_eq_getElem hj]; exact (Option.some.inj h1).symm, hj⟩
  have at2 : ∀ (j : Nat) (q q0 : Nat × va_E), w1[j]? = some q → wc[j]? = some q0 → q0.1 = q.1 := by
    intro j q q0 h h0
    have h1 : (w1.map (fun q => q.1))[j]? = some q.1 := by rw [List.getElem?_map, h]; rfl
    rw [ha, List.getElem?_map, h0] at h1
    exact Option.some.inj h1
  have old : ∀ (k : Nat) (q : Nat × va_E), (dl_put ws isC w1)[k]? = some q → ∃ q0, ws[k]? = some q0 ∧ q0.1 = q.1 := by
    intro k q h
    rcases dl_put_at isC w1 ws (hl1.trans hl2.symm) k q h with ⟨j, h1, h2⟩ | ⟨h1, h2⟩
    · obtain ⟨e1, hj⟩ := at1 j k h1
      rw [List.getElem?_eq_getElem hj] at e1
      exact ⟨_, e1, at2 j q _ h2 (List.getElem?_eq_getElem hj)⟩
    · exact ⟨q, h2, rfl⟩
  refine ⟨fun k q h => ?_, fun i j x y hx hy hxy => ?_, fun k q h => ?_⟩
  · rcases dl_put_at isC w1 ws (hl1.trans hl2.symm) k q h with ⟨j, h1, h2⟩ | ⟨h1, h2⟩
    · exact hP1 j q h2
    · have hlt := (hP k q h2).lt
      refine (hP k q h2).kept (hk q.1 hlt (fun z => ?_))
      rcases z with ⟨k2, e, z⟩ | z
      · have hk2 : k2 < isC.length := by rw [hl1]; exact (List.getElem?_eq_some_iff.mp z).1
        obtain ⟨e1, hj⟩ := at1 k2 isC[k2] (List.getElem?_eq_getElem hk2)
        rw [z] at e1
        have hkk := hD.1 k isC[k2] q (q.1, e) h2 e1 rfl
        exact h1 (by rw [hkk]; exact List.getElem_mem hk2)
      · omega
  · obtain ⟨x0, a1, a2⟩ := old i x hx
    obtain ⟨y0, b1, b2⟩ := old j y hy
    exact hD.1 i j x0 y0 a1 b1 (by rw [a2, b2]; exact hxy)
  · obtain ⟨q0, a1, a2⟩ := old k q h
    rw [← a2]
    exact hD.2 k q0 a1
section DLC
variable {p : Program} {l : Launch} {e : Env} {R : Room} {s : State} {m : MethodId} {args : Array Value} {below : List Frame} {meth : Method} {c : Code} {H : Heap} {locs : List Loc} {cells slots : Nat} {Q : State → Prop}
variable {pc : Nat} {ls : Array Slot} {rest st0 : List Value} {a : Array Value} {A : Nat → Prop} {H0 : Heap} {dC : Nat → ClassId} {dI : Nat → Nat → Nat} {ws wc w1 ws' : va_W}
theorem dl_calli {v : Int32} (hr : va_Run p l e R s m args below meth c H locs cells slots 0 0 (F0 m pc ls st0) rest (va_Qi (fun r (_ : Unit) => r = v) (ds_B dC dI (va_A wc H.size) w1) (va_A wc H.size) a) (va_A wc H.size)) (hP : va_P (dC, dI) vwCl ws H) (hD : va_D A ws) (hS : va_S A H0 H locs) (hA : ∀ q : Nat, H0.size ≤ q → A q) (isC : List Nat) (hC : isC.map (fun i => ws[i]?) = wc.map some) (ha : w1.map (fun q => q.1) = wc.map (fun q => q.1)) (hw : dl_put ws isC w1 = ws')
    (kk : ∀ (H1 : Heap) (locs1 : List Loc), va_P (dC, dI) vwCl ws' H1 → va_D A ws' → va_S A H0 H1 locs1 → W p l e R s m args below meth c H1 locs1 cells slots Q (F0 m (pc + 3) ls (.int v :: rest))) : W p l e R s m args below meth c H locs cells slots Q (F0 m pc ls st0) := by
  have hF := va_free (wc := wc) hD hS hA isC hC
  refine va_calli hr hS (fun q _ h => hF q h) hF (fun r u t H1 locs1 ht hvm hw2 hB hz1 hk1 hS1 => ?_)
  subst hw2
  subst hw
  obtain ⟨hP1, hD1⟩ := hB
  rw [ht] at hP1
  obtain ⟨hP2, hD2⟩ := dl_join hP hD isC hC ha hk1 hP1
  exact kk H1 locs1 hP2 hD2 hS1
end DLC
theorem kw_932 : Cond.constantLong RL 19 (4294967295) ∈ ds_gw := ds_g (ds_t6 150 (by decide +kernel)) rfl
theorem kw_933 : Cond.methodLink RL 21 yX7_tell ∈ ds_gw := ds_g (ds_t1 206 (by decide +kernel)) rfl
theorem kw_934 : Cond.instanceMethod yX7_tell ∈ ds_gw := ds_g (ds_t1 207 (by decide +kernel)) rfl
theorem kw_935 : Cond.selects RX7 yX7_tell yX7_tell ∈ ds_gw := ds_g (ds_t1 208 (by decide +kernel)) rfl
theorem kw_936 : Cond.code yX7_tell cX7_tell 3 (some .int) ∈ ds_gw := ds_g (ds_t1 209 (by decide +kernel)) rfl
theorem kw_937 : Cond.methodLink RL 25 yX8_tell ∈ ds_gw := ds_g (ds_t5 21 (by decide +kernel)) rfl
theorem kw_938 : Cond.instanceMethod yX8_tell ∈ ds_gw := ds_g (ds_t5 22 (by decide +kernel)) rfl
theorem kw_939 : Cond.selects RX8 yX8_tell yX8_tell ∈ ds_gw := ds_g (ds_t5 23 (by decide +kernel)) rfl
theorem kw_940 : Cond.code yX8_tell cX8_tell 5 (some .int) ∈ ds_gw := ds_g (ds_t5 24 (by decide +kernel)) rfl
theorem kw_941 : Cond.methodLink RL 26 yX7_read ∈ ds_gw := ds_g (ds_t1 217 (by decide +kernel)) rfl
theorem kw_942 : Cond.instanceMethod yX7_read ∈ ds_gw := ds_g (ds_t1 218 (by decide +kernel)) rfl
theorem kw_943 : Cond.selects RX7 yX7_read yX7_read ∈ ds_gw := ds_g (ds_t1 219 (by decide +kernel)) rfl
theorem kw_944 : Cond.code yX7_read cX7_read 1 (some .int) ∈ ds_gw := ds_g (ds_t1 220 (by decide +kernel)) rfl
theorem kw_945 : Cond.methodLink RL 30 yX8_read ∈ ds_gw := ds_g (ds_t5 26 (by decide +kernel)) rfl
theorem kw_946 : Cond.instanceMethod yX8_read ∈ ds_gw := ds_g (ds_t5 27 (by decide +kernel)) rfl
theorem kw_947 : Cond.selects RX8 yX8_read yX8_read ∈ ds_gw := ds_g (ds_t5 28 (by decide +kernel)) rfl
theorem kw_948 : Cond.code yX8_read cX8_read 3 (some .int) ∈ ds_gw := ds_g (ds_t5 29 (by decide +kernel)) rfl
theorem kw_949 : Cond.methodLink RL 31 yX7_fault ∈ ds_gw := ds_g (ds_t2 94 (by decide +kernel)) rfl
theorem kw_950 : Cond.instanceMethod yX7_fault ∈ ds_gw := ds_g (ds_t2 95 (by decide +kernel)) rfl
theorem kw_951 : Cond.selects RX7 yX7_fault yX7_fault ∈ ds_gw := ds_g (ds_t2 96 (by decide +kernel)) rfl
theorem kw_952 : Cond.code yX7_fault cX7_fault 2 (some .int) ∈ ds_gw := ds_g (ds_t2 97 (by decide +kernel)) rfl
theorem kw_953 : Cond.methodLink RL 35 yX8_fault ∈ ds_gw := ds_g (ds_t5 59 (by decide +kernel)) rfl
theorem kw_954 : Cond.instanceMethod yX8_fault ∈ ds_gw := ds_g (ds_t5 60 (by decide +kernel)) rfl
theorem kw_955 : Cond.selects RX8 yX8_fault yX8_fault ∈ ds_gw := ds_g (ds_t5 61 (by decide +kernel)) rfl
theorem kw_956 : Cond.code yX8_fault cX8_fault 2 (some .int) ∈ ds_gw := ds_g (ds_t5 62 (by decide +kernel)) rfl
theorem kw_957 : Cond.methodLink RL 36 yX7_paint ∈ ds_gw := ds_g (ds_t2 98 (by decide +kernel)) rfl
theorem kw_958 : Cond.instanceMethod yX7_paint ∈ ds_gw := ds_g (ds_t2 99 (by decide +kernel)) rfl
theorem kw_959 : Cond.selects RX7 yX7_paint yX7_paint ∈ ds_gw := ds_g (ds_t2 100 (by decide +kernel)) rfl
theorem kw_960 : Cond.code yX7_paint cX7_paint 4 (some .boolean) ∈ ds_gw := ds_g (ds_t2 101 (by decide +kernel)) rfl
theorem kw_961 : Cond.methodLink RL 40 yX8_paint ∈ ds_gw := ds_g (ds_t6 77 (by decide +kernel)) rfl
theorem kw_962 : Cond.instanceMethod yX8_paint ∈ ds_gw := ds_g (ds_t6 78 (by decide +kernel)) rfl
theorem kw_963 : Cond.selects RX8 yX8_paint yX8_paint ∈ ds_gw := ds_g (ds_t6 79 (by decide +kernel)) rfl
theorem kw_964 : Cond.code yX8_paint cX8_paint 4 (some .boolean) ∈ ds_gw := ds_g (ds_t6 80 (by decide +kernel)) rfl
theorem kw_965 : Cond.methodLink RL 41 yX7_shift ∈ ds_gw := ds_g (ds_t2 131 (by decide +kernel)) rfl
theorem kw_966 : Cond.instanceMethod yX7_shift ∈ ds_gw := ds_g (ds_t2 132 (by decide +kernel)) rfl
theorem kw_967 : Cond.selects RX7 yX7_shift yX7_shift ∈ ds_gw := ds_g (ds_t2 133 (by decide +kernel)) rfl
theorem kw_968 : Cond.code yX7_shift cX7_shift 3 (some .boolean) ∈ ds_gw := ds_g (ds_t2 134 (by decide +kernel)) rfl
theorem kw_969 : Cond.methodLink RL 45 yX8_shift ∈ ds_gw := ds_g (ds_t6 85 (by decide +kernel)) rfl
theorem kw_970 : Cond.instanceMethod yX8_shift ∈ ds_gw := ds_g (ds_t6 86 (by decide +kernel)) rfl
theorem kw_971 : Cond.selects RX8 yX8_shift yX8_shift ∈ ds_gw := ds_g (ds_t6 87 (by decide +kernel)) rfl
theorem kw_972 : Cond.code yX8_shift cX8_shift 5 (some .boolean) ∈ ds_gw := ds_g (ds_t6 88 (by decide +kernel)) rfl
theorem kw_973 : Cond.methodLink RL 46 yX7_turn ∈ ds_gw := ds_g (ds_t2 158 (by decide +kernel)) rfl
theorem kw_974 : Cond.instanceMethod yX7_turn ∈ ds_gw := ds_g (ds_t2 159 (by decide +kernel)) rfl
theorem kw_975 : Cond.selects RX7 yX7_turn yX7_turn ∈ ds_gw := ds_g (ds_t2 160 (by decide +kernel)) rfl
theorem kw_976 : Cond.code yX7_turn cX7_turn 3 (some .boolean) ∈ ds_gw := ds_g (ds_t2 161 (by decide +kernel)) rfl
theorem kw_977 : Cond.methodLink RL 50 yX8_turn ∈ ds_gw := ds_g (ds_t6 97 (by decide +kernel)) rfl
theorem kw_978 : Cond.instanceMethod yX8_turn ∈ ds_gw := ds_g (ds_t6 98 (by decide +kernel)) rfl
theorem kw_979 : Cond.selects RX8 yX8_turn yX8_turn ∈ ds_gw := ds_g (ds_t6 99 (by decide +kernel)) rfl
theorem kw_980 : Cond.code yX8_turn cX8_turn 4 (some .boolean) ∈ ds_gw := ds_g (ds_t6 100 (by decide +kernel)) rfl
theorem kw_981 : Cond.methodLink RL 51 yX7_dye ∈ ds_gw := ds_g (ds_t2 201 (by decide +kernel)) rfl
theorem kw_982 : Cond.instanceMethod yX7_dye ∈ ds_gw := ds_g (ds_t2 202 (by decide +kernel)) rfl
theorem kw_983 : Cond.selects RX7 yX7_dye yX7_dye ∈ ds_gw := ds_g (ds_t2 203 (by decide +kernel)) rfl
theorem kw_984 : Cond.code yX7_dye cX7_dye 3 (some .boolean) ∈ ds_gw := ds_g (ds_t2 204 (by decide +kernel)) rfl
theorem kw_985 : Cond.methodLink RL 54 yX8_dye ∈ ds_gw := ds_g (ds_t6 101 (by decide +kernel)) rfl
theorem kw_986 : Cond.instanceMethod yX8_dye ∈ ds_gw := ds_g (ds_t6 102 (by decide +kernel)) rfl
theorem kw_987 : Cond.selects RX8 yX8_dye yX8_dye ∈ ds_gw := ds_g (ds_t6 103 (by decide +kernel)) rfl
theorem kw_988 : Cond.code yX8_dye cX8_dye 6 (some .boolean) ∈ ds_gw := ds_g (ds_t6 104 (by decide +kernel)) rfl
theorem kw_989 : Cond.methodLink RL 55 yX7_net ∈ ds_gw := ds_g (ds_t2 209 (by decide +kernel)) rfl
theorem kw_990 : Cond.instanceMethod yX7_net ∈ ds_gw := ds_g (ds_t2 210 (by decide +kernel)) rfl
theorem kw_991 : Cond.selects RX7 yX7_net yX7_net ∈ ds_gw := ds_g (ds_t2 211 (by decide +kernel)) rfl
theorem kw_992 : Cond.code yX7_net cX7_net 2 (some .boolean) ∈ ds_gw := ds_g (ds_t2 212 (by decide +kernel)) rfl
theorem kw_993 : Cond.methodLink RL 59 yX8_net ∈ ds_gw := ds_g (ds_t6 105 (by decide +kernel)) rfl
theorem kw_994 : Cond.instanceMethod yX8_net ∈ ds_gw := ds_g (ds_t6 106 (by decide +kernel)) rfl
theorem kw_995 : Cond.selects RX8 yX8_net yX8_net ∈ ds_gw := ds_g (ds_t6 107 (by decide +kernel)) rfl
theorem kw_996 : Cond.code yX8_net cX8_net 3 (some .boolean) ∈ ds_gw := ds_g (ds_t6 108 (by decide +kernel)) rfl
theorem kw_997 : Cond.methodLink RL 60 yX7_make ∈ ds_gw := ds_g (ds_t2 213 (by decide +kernel)) rfl
theorem kw_998 : Cond.instanceMethod yX7_make ∈ ds_gw := ds_g (ds_t2 214 (by decide +kernel)) rfl
theorem kw_999 : Cond.selects RX7 yX7_make yX7_make ∈ ds_gw := ds_g (ds_t2 215 (by decide +kernel)) rfl
theorem kw_1000 : Cond.code yX7_make cX7_make 9 (some .int) ∈ ds_gw := ds_g (ds_t2 216 (by decide +kernel)) rfl
theorem kw_1001 : Cond.methodLink RL 64 yX8_make ∈ ds_gw := ds_g (ds_t6 109 (by decide +kernel)) rfl
theorem kw_1002 : Cond.instanceMethod yX8_make ∈ ds_gw := ds_g (ds_t6 110 (by decide +kernel)) rfl
theorem kw_1003 : Cond.selects RX8 yX8_make yX8_make ∈ ds_gw := ds_g (ds_t6 111 (by decide +kernel)) rfl
theorem kw_1004 : Cond.code yX8_make cX8_make 8 (some .int) ∈ ds_gw := ds_g (ds_t6 112 (by decide +kernel)) rfl
theorem kw_1005 : Cond.methodLink RL 65 yX7_mend ∈ ds_gw := ds_g (ds_t3 8 (by decide +kernel)) rfl
theorem kw_1006 : Cond.instanceMethod yX7_mend ∈ ds_gw := ds_g (ds_t3 9 (by decide +kernel)) rfl
theorem kw_1007 : Cond.selects RX7 yX7_mend yX7_mend ∈ ds_gw := ds_g (ds_t3 10 (by decide +kernel)) rfl
theorem kw_1008 : Cond.code yX7_mend cX7_mend 6 (some .int) ∈ ds_gw := ds_g (ds_t3 11 (by decide +kernel)) rfl
theorem kw_1009 : Cond.methodLink RL 69 yX8_mend ∈ ds_gw := ds_g (ds_t6 118 (by decide +kernel)) rfl
theorem kw_1010 : Cond.instanceMethod yX8_mend ∈ ds_gw := ds_g (ds_t6 119 (by decide +kernel)) rfl
theorem kw_1011 : Cond.selects RX8 yX8_mend yX8_mend ∈ ds_gw := ds_g (ds_t6 120 (by decide +kernel)) rfl
theorem kw_1012 : Cond.code yX8_mend cX8_mend 5 (some .int) ∈ ds_gw := ds_g (ds_t6 121 (by decide +kernel)) rfl
theorem kw_1013 : Cond.methodLink RL 70 yX7_reduce ∈ ds_gw := ds_g (ds_t3 35 (by decide +kernel)) rfl
theorem kw_1014 : Cond.instanceMethod yX7_reduce ∈ ds_gw := ds_g (ds_t3 36 (by decide +kernel)) rfl
theorem kw_1015 : Cond.selects RX7 yX7_reduce yX7_reduce ∈ ds_gw := ds_g (ds_t3 37 (by decide +kernel)) rfl
theorem kw_1016 : Cond.code yX7_reduce cX7_reduce 2 (some .int) ∈ ds_gw := ds_g (ds_t3 38 (by decide +kernel)) rfl
theorem kw_1017 : Cond.methodLink RL 73 yX8_reduce ∈ ds_gw := ds_g (ds_t6 122 (by decide +kernel)) rfl
theorem kw_1018 : Cond.instanceMethod yX8_reduce ∈ ds_gw := ds_g (ds_t6 123 (by decide +kernel)) rfl
theorem kw_1019 : Cond.selects RX8 yX8_reduce yX8_reduce ∈ ds_gw := ds_g (ds_t6 124 (by decide +kernel)) rfl
theorem kw_1020 : Cond.code yX8_reduce cX8_reduce 4 (some .int) ∈ ds_gw := ds_g (ds_t6 125 (by decide +kernel)) rfl
theorem kw_1021 : Cond.methodLink RL 74 yX7_undo ∈ ds_gw := ds_g (ds_t3 48 (by decide +kernel)) rfl
theorem kw_1022 : Cond.instanceMethod yX7_undo ∈ ds_gw := ds_g (ds_t3 49 (by decide +kernel)) rfl
theorem kw_1023 : Cond.selects RX7 yX7_undo yX7_undo ∈ ds_gw := ds_g (ds_t3 50 (by decide +kernel)) rfl
theorem kw_1024 : Cond.code yX7_undo cX7_undo 1 (some .int) ∈ ds_gw := ds_g (ds_t3 51 (by decide +kernel)) rfl
theorem kw_1025 : Cond.methodLink RL 77 yX8_undo ∈ ds_gw := ds_g (ds_t6 73 (by decide +kernel)) rfl
theorem kw_1026 : Cond.instanceMethod yX8_undo ∈ ds_gw := ds_g (ds_t6 74 (by decide +kernel)) rfl
theorem kw_1027 : Cond.selects RX8 yX8_undo yX8_undo ∈ ds_gw := ds_g (ds_t6 75 (by decide +kernel)) rfl
theorem kw_1028 : Cond.code yX8_undo cX8_undo 2 (some .int) ∈ ds_gw := ds_g (ds_t6 76 (by decide +kernel)) rfl
theorem kw_1029 : Cond.methodLink RL 78 yX7_count ∈ ds_gw := ds_g (ds_t3 56 (by decide +kernel)) rfl
theorem kw_1030 : Cond.instanceMethod yX7_count ∈ ds_gw := ds_g (ds_t3 57 (by decide +kernel)) rfl
theorem kw_1031 : Cond.selects RX7 yX7_count yX7_count ∈ ds_gw := ds_g (ds_t3 58 (by decide +kernel)) rfl
theorem kw_1032 : Cond.code yX7_count cX7_count 3 (some .int) ∈ ds_gw := ds_g (ds_t3 59 (by decide +kernel)) rfl
theorem kw_1033 : Cond.methodLink RL 81 yX8_count ∈ ds_gw := ds_g (ds_t5 78 (by decide +kernel)) rfl
theorem kw_1034 : Cond.instanceMethod yX8_count ∈ ds_gw := ds_g (ds_t5 79 (by decide +kernel)) rfl
theorem kw_1035 : Cond.selects RX8 yX8_count yX8_count ∈ ds_gw := ds_g (ds_t5 80 (by decide +kernel)) rfl
theorem kw_1036 : Cond.code yX8_count cX8_count 2 (some .int) ∈ ds_gw := ds_g (ds_t5 81 (by decide +kernel)) rfl
theorem kw_1037 : Cond.methodLink RL 82 yX7_cell ∈ ds_gw := ds_g (ds_t3 198 (by decide +kernel)) rfl
theorem kw_1038 : Cond.instanceMethod yX7_cell ∈ ds_gw := ds_g (ds_t3 199 (by decide +kernel)) rfl
theorem kw_1039 : Cond.selects RX7 yX7_cell yX7_cell ∈ ds_gw := ds_g (ds_t3 200 (by decide +kernel)) rfl
theorem kw_1040 : Cond.code yX7_cell cX7_cell 3 (some .int) ∈ ds_gw := ds_g (ds_t3 201 (by decide +kernel)) rfl
theorem kw_1041 : Cond.methodLink RL 86 yX8_cell ∈ ds_gw := ds_g (ds_t5 63 (by decide +kernel)) rfl
theorem kw_1042 : Cond.instanceMethod yX8_cell ∈ ds_gw := ds_g (ds_t5 64 (by decide +kernel)) rfl
theorem kw_1043 : Cond.selects RX8 yX8_cell yX8_cell ∈ ds_gw := ds_g (ds_t5 65 (by decide +kernel)) rfl
theorem kw_1044 : Cond.code yX8_cell cX8_cell 3 (some .int) ∈ ds_gw := ds_g (ds_t5 66 (by decide +kernel)) rfl
theorem kw_1045 : Cond.methodLink RL 96 yX7_shifts ∈ ds_gw := ds_g (ds_t3 207 (by decide +kernel)) rfl
theorem kw_1046 : Cond.instanceMethod yX7_shifts ∈ ds_gw := ds_g (ds_t3 208 (by decide +kernel)) rfl
theorem kw_1047 : Cond.selects RX7 yX7_shifts yX7_shifts ∈ ds_gw := ds_g (ds_t3 209 (by decide +kernel)) rfl
theorem kw_1048 : Cond.code yX7_shifts cX7_shifts 7 (some .int) ∈ ds_gw := ds_g (ds_t3 210 (by decide +kernel)) rfl
theorem kw_1049 : Cond.methodLink RL 100 yX8_shifts ∈ ds_gw := ds_g (ds_t5 221 (by decide +kernel)) rfl
theorem kw_1050 : Cond.instanceMethod yX8_shifts ∈ ds_gw := ds_g (ds_t5 222 (by decide +kernel)) rfl
theorem kw_1051 : Cond.selects RX8 yX8_shifts yX8_shifts ∈ ds_gw := ds_g (ds_t5 223 (by decide +kernel)) rfl
theorem kw_1052 : Cond.code yX8_shifts cX8_shifts 7 (some .int) ∈ ds_gw := ds_g (ds_t5 224 (by decide +kernel)) rfl
theorem kw_1053 : Cond.methodLink RL 101 yX7_flip ∈ ds_gw := ds_g (ds_t3 215 (by decide +kernel)) rfl
theorem kw_1054 : Cond.instanceMethod yX7_flip ∈ ds_gw := ds_g (ds_t3 216 (by decide +kernel)) rfl
theorem kw_1055 : Cond.selects RX7 yX7_flip yX7_flip ∈ ds_gw := ds_g (ds_t3 217 (by decide +kernel)) rfl
theorem kw_1056 : Cond.code yX7_flip cX7_flip 2 (some .int) ∈ ds_gw := ds_g (ds_t3 218 (by decide +kernel)) rfl
theorem kw_1057 : Cond.methodLink RL 104 yX8_flip ∈ ds_gw := ds_g (ds_t5 225 (by decide +kernel)) rfl
theorem kw_1058 : Cond.instanceMethod yX8_flip ∈ ds_gw := ds_g (ds_t5 226 (by decide +kernel)) rfl
theorem kw_1059 : Cond.selects RX8 yX8_flip yX8_flip ∈ ds_gw := ds_g (ds_t5 227 (by decide +kernel)) rfl
theorem kw_1060 : Cond.code yX8_flip cX8_flip 2 (some .int) ∈ ds_gw := ds_g (ds_t5 228 (by decide +kernel)) rfl
theorem kw_1061 : Cond.methodLink RL 105 yX7_centre ∈ ds_gw := ds_g (ds_t3 221 (by decide +kernel)) rfl
theorem kw_1062 : Cond.instanceMethod yX7_centre ∈ ds_gw := ds_g (ds_t3 222 (by decide +kernel)) rfl
theorem kw_1063 : Cond.selects RX7 yX7_centre yX7_centre ∈ ds_gw := ds_g (ds_t3 223 (by decide +kernel)) rfl
theorem kw_1064 : Cond.code yX7_centre cX7_centre 8 (some .int) ∈ ds_gw := ds_g (ds_t3 224 (by decide +kernel)) rfl
theorem kw_1065 : Cond.methodLink RL 108 yX8_centre ∈ ds_gw := ds_g (ds_t5 229 (by decide +kernel)) rfl
theorem kw_1066 : Cond.instanceMethod yX8_centre ∈ ds_gw := ds_g (ds_t5 230 (by decide +kernel)) rfl
theorem kw_1067 : Cond.selects RX8 yX8_centre yX8_centre ∈ ds_gw := ds_g (ds_t5 231 (by decide +kernel)) rfl
theorem kw_1068 : Cond.code yX8_centre cX8_centre 7 (some .int) ∈ ds_gw := ds_g (ds_t5 232 (by decide +kernel)) rfl
theorem kw_1069 : Cond.methodLink RL 109 yX7_kind ∈ ds_gw := ds_g (ds_t3 233 (by decide +kernel)) rfl
theorem kw_1070 : Cond.instanceMethod yX7_kind ∈ ds_gw := ds_g (ds_t3 234 (by decide +kernel)) rfl
theorem kw_1071 : Cond.selects RX7 yX7_kind yX7_kind ∈ ds_gw := ds_g (ds_t3 235 (by decide +kernel)) rfl
theorem kw_1072 : Cond.code yX7_kind cX7_kind 3 (some .int) ∈ ds_gw := ds_g (ds_t3 236 (by decide +kernel)) rfl
theorem kw_1073 : Cond.methodLink RL 112 yX8_kind ∈ ds_gw := ds_g (ds_t5 237 (by decide +kernel)) rfl
theorem kw_1074 : Cond.instanceMethod yX8_kind ∈ ds_gw := ds_g (ds_t5 238 (by decide +kernel)) rfl
theorem kw_1075 : Cond.selects RX8 yX8_kind yX8_kind ∈ ds_gw := ds_g (ds_t5 239 (by decide +kernel)) rfl
theorem kw_1076 : Cond.code yX8_kind cX8_kind 3 (some .int) ∈ ds_gw := ds_g (ds_t6 0 (by decide +kernel)) rfl
theorem kw_1077 : Cond.methodLink RL 113 yX7_strip ∈ ds_gw := ds_g (ds_t3 238 (by decide +kernel)) rfl
theorem kw_1078 : Cond.instanceMethod yX7_strip ∈ ds_gw := ds_g (ds_t3 239 (by decide +kernel)) rfl
theorem kw_1079 : Cond.selects RX7 yX7_strip yX7_strip ∈ ds_gw := ds_g (ds_t4 0 (by decide +kernel)) rfl
theorem kw_1080 : Cond.code yX7_strip cX7_strip 2 (some .int) ∈ ds_gw := ds_g (ds_t4 1 (by decide +kernel)) rfl
theorem kw_1081 : Cond.methodLink RL 116 yX8_strip ∈ ds_gw := ds_g (ds_t6 1 (by decide +kernel)) rfl
theorem kw_1082 : Cond.instanceMethod yX8_strip ∈ ds_gw := ds_g (ds_t6 2 (by decide +kernel)) rfl
theorem kw_1083 : Cond.selects RX8 yX8_strip yX8_strip ∈ ds_gw := ds_g (ds_t6 3 (by decide +kernel)) rfl
theorem kw_1084 : Cond.code yX8_strip cX8_strip 3 (some .int) ∈ ds_gw := ds_g (ds_t6 4 (by decide +kernel)) rfl
theorem kw_1085 : Cond.methodLink RL 117 yX7_coloured ∈ ds_gw := ds_g (ds_t4 15 (by decide +kernel)) rfl
theorem kw_1086 : Cond.instanceMethod yX7_coloured ∈ ds_gw := ds_g (ds_t4 16 (by decide +kernel)) rfl
theorem kw_1087 : Cond.selects RX7 yX7_coloured yX7_coloured ∈ ds_gw := ds_g (ds_t4 17 (by decide +kernel)) rfl
theorem kw_1088 : Cond.code yX7_coloured cX7_coloured 3 (some .int) ∈ ds_gw := ds_g (ds_t4 18 (by decide +kernel)) rfl
theorem kw_1089 : Cond.methodLink RL 121 yX8_coloured ∈ ds_gw := ds_g (ds_t6 13 (by decide +kernel)) rfl
theorem kw_1090 : Cond.instanceMethod yX8_coloured ∈ ds_gw := ds_g (ds_t6 14 (by decide +kernel)) rfl
theorem kw_1091 : Cond.selects RX8 yX8_coloured yX8_coloured ∈ ds_gw := ds_g (ds_t6 15 (by decide +kernel)) rfl
theorem kw_1092 : Cond.code yX8_coloured cX8_coloured 7 (some .int) ∈ ds_gw := ds_g (ds_t6 16 (by decide +kernel)) rfl
theorem kw_1093 : Cond.methodLink RL 122 yX7_like ∈ ds_gw := ds_g (ds_t4 32 (by decide +kernel)) rfl
theorem kw_1094 : Cond.instanceMethod yX7_like ∈ ds_gw := ds_g (ds_t4 33 (by decide +kernel)) rfl
theorem kw_1095 : Cond.selects RX7 yX7_like yX7_like ∈ ds_gw := ds_g (ds_t4 34 (by decide +kernel)) rfl
theorem kw_1096 : Cond.code yX7_like cX7_like 6 (some .int) ∈ ds_gw := ds_g (ds_t4 35 (by decide +kernel)) rfl
theorem kw_1097 : Cond.methodLink RL 125 yX8_like ∈ ds_gw := ds_g (ds_t6 21 (by decide +kernel)) rfl
theorem kw_1098 : Cond.instanceMethod yX8_like ∈ ds_gw := ds_g (ds_t6 22 (by decide +kernel)) rfl
theorem kw_1099 : Cond.selects RX8 yX8_like yX8_like ∈ ds_gw := ds_g (ds_t6 23 (by decide +kernel)) rfl
theorem kw_1100 : Cond.code yX8_like cX8_like 6 (some .int) ∈ ds_gw := ds_g (ds_t6 24 (by decide +kernel)) rfl
theorem kw_1101 : Cond.methodLink RL 126 yX7_flaws ∈ ds_gw := ds_g (ds_t4 42 (by decide +kernel)) rfl
theorem kw_1102 : Cond.instanceMethod yX7_flaws ∈ ds_gw := ds_g (ds_t4 43 (by decide +kernel)) rfl
theorem kw_1103 : Cond.selects RX7 yX7_flaws yX7_flaws ∈ ds_gw := ds_g (ds_t4 44 (by decide +kernel)) rfl
theorem kw_1104 : Cond.code yX7_flaws cX7_flaws 2 (some .int) ∈ ds_gw := ds_g (ds_t4 45 (by decide +kernel)) rfl
theorem kw_1105 : Cond.methodLink RL 129 yX8_flaws ∈ ds_gw := ds_g (ds_t6 29 (by decide +kernel)) rfl
theorem kw_1106 : Cond.instanceMethod yX8_flaws ∈ ds_gw := ds_g (ds_t6 30 (by decide +kernel)) rfl
theorem kw_1107 : Cond.selects RX8 yX8_flaws yX8_flaws ∈ ds_gw := ds_g (ds_t6 31 (by decide +kernel)) rfl
theorem kw_1108 : Cond.code yX8_flaws cX8_flaws 2 (some .int) ∈ ds_gw := ds_g (ds_t6 32 (by decide +kernel)) rfl
theorem kw_1109 : Cond.methodLink RL 130 yX7_orbit ∈ ds_gw := ds_g (ds_t4 46 (by decide +kernel)) rfl
theorem kw_1110 : Cond.instanceMethod yX7_orbit ∈ ds_gw := ds_g (ds_t4 47 (by decide +kernel)) rfl
theorem kw_1111 : Cond.selects RX7 yX7_orbit yX7_orbit ∈ ds_gw := ds_g (ds_t4 48 (by decide +kernel)) rfl
theorem kw_1112 : Cond.code yX7_orbit cX7_orbit 7 (some .int) ∈ ds_gw := ds_g (ds_t4 49 (by decide +kernel)) rfl
theorem kw_1113 : Cond.methodLink RL 134 yX8_orbit ∈ ds_gw := ds_g (ds_t6 61 (by decide +kernel)) rfl
theorem kw_1114 : Cond.instanceMethod yX8_orbit ∈ ds_gw := ds_g (ds_t6 62 (by decide +kernel)) rfl
theorem kw_1115 : Cond.selects RX8 yX8_orbit yX8_orbit ∈ ds_gw := ds_g (ds_t6 63 (by decide +kernel)) rfl
theorem kw_1116 : Cond.code yX8_orbit cX8_orbit 6 (some .int) ∈ ds_gw := ds_g (ds_t6 64 (by decide +kernel)) rfl
theorem kw_1117 : Cond.methodLink RL 135 yX7_nearest ∈ ds_gw := ds_g (ds_t4 54 (by decide +kernel)) rfl
theorem kw_1118 : Cond.instanceMethod yX7_nearest ∈ ds_gw := ds_g (ds_t4 55 (by decide +kernel)) rfl
theorem kw_1119 : Cond.selects RX7 yX7_nearest yX7_nearest ∈ ds_gw := ds_g (ds_t4 56 (by decide +kernel)) rfl
theorem kw_1120 : Cond.code yX7_nearest cX7_nearest 5 (some .int) ∈ ds_gw := ds_g (ds_t4 57 (by decide +kernel)) rfl
theorem kw_1121 : Cond.methodLink RL 138 yX8_nearest ∈ ds_gw := ds_g (ds_t6 69 (by decide +kernel)) rfl
theorem kw_1122 : Cond.instanceMethod yX8_nearest ∈ ds_gw := ds_g (ds_t6 70 (by decide +kernel)) rfl
theorem kw_1123 : Cond.selects RX8 yX8_nearest yX8_nearest ∈ ds_gw := ds_g (ds_t6 71 (by decide +kernel)) rfl
theorem kw_1124 : Cond.code yX8_nearest cX8_nearest 6 (some .int) ∈ ds_gw := ds_g (ds_t6 72 (by decide +kernel)) rfl
theorem kw_1125 : Cond.methodLink RL 139 yX7_painted ∈ ds_gw := ds_g (ds_t4 58 (by decide +kernel)) rfl
theorem kw_1126 : Cond.instanceMethod yX7_painted ∈ ds_gw := ds_g (ds_t4 59 (by decide +kernel)) rfl
theorem kw_1127 : Cond.selects RX7 yX7_painted yX7_painted ∈ ds_gw := ds_g (ds_t4 60 (by decide +kernel)) rfl
theorem kw_1128 : Cond.code yX7_painted cX7_painted 4 (some .int) ∈ ds_gw := ds_g (ds_t4 61 (by decide +kernel)) rfl
theorem kw_1129 : Cond.methodLink RL 142 yX8_painted ∈ ds_gw := ds_g (ds_t6 130 (by decide +kernel)) rfl
theorem kw_1130 : Cond.instanceMethod yX8_painted ∈ ds_gw := ds_g (ds_t6 131 (by decide +kernel)) rfl
theorem kw_1131 : Cond.selects RX8 yX8_painted yX8_painted ∈ ds_gw := ds_g (ds_t6 132 (by decide +kernel)) rfl
theorem kw_1132 : Cond.code yX8_painted cX8_painted 6 (some .int) ∈ ds_gw := ds_g (ds_t6 133 (by decide +kernel)) rfl
theorem kw_1133 : Cond.methodLink RL 143 yX7_better ∈ ds_gw := ds_g (ds_t4 62 (by decide +kernel)) rfl
theorem kw_1134 : Cond.instanceMethod yX7_better ∈ ds_gw := ds_g (ds_t4 63 (by decide +kernel)) rfl
theorem kw_1135 : Cond.selects RX7 yX7_better yX7_better ∈ ds_gw := ds_g (ds_t4 64 (by decide +kernel)) rfl
theorem kw_1136 : Cond.code yX7_better cX7_better 9 (some .int) ∈ ds_gw := ds_g (ds_t4 65 (by decide +kernel)) rfl
theorem kw_1137 : Cond.methodLink RL 146 yX8_better ∈ ds_gw := ds_g (ds_t6 134 (by decide +kernel)) rfl
theorem kw_1138 : Cond.instanceMethod yX8_better ∈ ds_gw := ds_g (ds_t6 135 (by decide +kernel)) rfl
theorem kw_1139 : Cond.selects RX8 yX8_better yX8_better ∈ ds_gw := ds_g (ds_t6 136 (by decide +kernel)) rfl
theorem kw_1140 : Cond.code yX8_better cX8_better 8 (some .int) ∈ ds_gw := ds_g (ds_t6 137 (by decide +kernel)) rfl
theorem kw_1141 : Cond.methodLink RL 147 yX7_image ∈ ds_gw := ds_g (ds_t4 70 (by decide +kernel)) rfl
theorem kw_1142 : Cond.instanceMethod yX7_image ∈ ds_gw := ds_g (ds_t4 71 (by decide +kernel)) rfl
theorem kw_1143 : Cond.selects RX7 yX7_image yX7_image ∈ ds_gw := ds_g (ds_t4 72 (by decide +kernel)) rfl
theorem kw_1144 : Cond.code yX7_image cX7_image 2 (some .boolean) ∈ ds_gw := ds_g (ds_t4 73 (by decide +kernel)) rfl
theorem kw_1145 : Cond.methodLink RL 150 yX8_image ∈ ds_gw := ds_g (ds_t6 138 (by decide +kernel)) rfl
theorem kw_1146 : Cond.instanceMethod yX8_image ∈ ds_gw := ds_g (ds_t6 139 (by decide +kernel)) rfl
theorem kw_1147 : Cond.selects RX8 yX8_image yX8_image ∈ ds_gw := ds_g (ds_t6 140 (by decide +kernel)) rfl
theorem kw_1148 : Cond.code yX8_image cX8_image 2 (some .boolean) ∈ ds_gw := ds_g (ds_t6 141 (by decide +kernel)) rfl
theorem kw_1149 : Cond.methodLink RL 151 yX7_again ∈ ds_gw := ds_g (ds_t4 83 (by decide +kernel)) rfl
theorem kw_1150 : Cond.instanceMethod yX7_again ∈ ds_gw := ds_g (ds_t4 84 (by decide +kernel)) rfl
theorem kw_1151 : Cond.selects RX7 yX7_again yX7_again ∈ ds_gw := ds_g (ds_t4 85 (by decide +kernel)) rfl
theorem kw_1152 : Cond.code yX7_again cX7_again 3 (some .boolean) ∈ ds_gw := ds_g (ds_t4 86 (by decide +kernel)) rfl
theorem kw_1153 : Cond.methodLink RL 154 yX8_again ∈ ds_gw := ds_g (ds_t6 146 (by decide +kernel)) rfl
theorem kw_1154 : Cond.instanceMethod yX8_again ∈ ds_gw := ds_g (ds_t6 147 (by decide +kernel)) rfl
theorem kw_1155 : Cond.selects RX8 yX8_again yX8_again ∈ ds_gw := ds_g (ds_t6 148 (by decide +kernel)) rfl
theorem kw_1156 : Cond.code yX8_again cX8_again 2 (some .boolean) ∈ ds_gw := ds_g (ds_t6 149 (by decide +kernel)) rfl
theorem dL_law_0 : decode cL_law 0 = .ok (.new 8, 3) := by decide +kernel
theorem dL_law_3 : decode cL_law 3 = .ok (.dup, 1) := by decide +kernel
theorem dL_law_4 : decode cL_law 4 = .ok (.invokespecial 15, 3) := by decide +kernel
theorem dL_law_7 : decode cL_law 7 = .ok (.astore_n 1, 1) := by decide +kernel
theorem dL_law_8 : decode cL_law 8 = .ok (.new 16, 3) := by decide +kernel
theorem dL_law_11 : decode cL_law 11 = .ok (.dup, 1) := by decide +kernel
theorem dL_law_12 : decode cL_law 12 = .ok (.invokespecial 18, 3) := by decide +kernel
theorem dL_law_15 : decode cL_law 15 = .ok (.astore_n 2, 1) := by decide +kernel
theorem dL_law_16 : decode cL_law 16 = .ok (.iconst 1, 1) := by decide +kernel
theorem dL_law_17 : decode cL_law 17 = .ok (.newarray .long, 2) := by decide +kernel
theorem dL_law_19 : decode cL_law 19 = .ok (.astore_n 3, 1) := by decide +kernel
theorem dL_law_20 : decode cL_law 20 = .ok (.iconst 0, 1) := by decide +kernel
theorem dL_law_21 : decode cL_law 21 = .ok (.istore 4, 2) := by decide +kernel
theorem dL_law_23 : decode cL_law 23 = .ok (.iload 4, 2) := by decide +kernel
theorem dL_law_25 : decode cL_law 25 = .ok (.aload_n 0, 1) := by decide +kernel
theorem dL_law_26 : decode cL_law 26 = .ok (.arraylength, 1) := by decide +kernel
theorem dL_law_27 : decode cL_law 27 = .ok (.iconst 5, 1) := by decide +kernel
theorem dL_law_28 : decode cL_law 28 = .ok (.isub, 1) := by decide +kernel
theorem dL_law_29 : decode cL_law 29 = .ok (.if_icmp .gt 1205, 3) := by decide +kernel
theorem dL_law_32 : decode cL_law 32 = .ok (.aload_n 0, 1) := by decide +kernel
theorem dL_law_33 : decode cL_law 33 = .ok (.iload 4, 2) := by decide +kernel
theorem dL_law_35 : decode cL_law 35 = .ok (.iaload, 1) := by decide +kernel
theorem dL_law_36 : decode cL_law 36 = .ok (.bipush 31, 2) := by decide +kernel
theorem dL_law_38 : decode cL_law 38 = .ok (.iand, 1) := by decide +kernel
theorem dL_law_39 : decode cL_law 39 = .ok (.tableswitch 1189 0 28 #[129, 186, 199, 240, 289, 326, 351, 388, 429, 490, 515, 528, 541, 566, 603, 687, 736, 761, 810, 847, 872, 925, 950, 975, 1052, 1077, 1126, 1139, 1164], 129) := by decide +kernel
theorem dL_law_168 : decode cL_law 168 = .ok (.aload_n 1, 1) := by decide +kernel
theorem dL_law_169 : decode cL_law 169 = .ok (.aload_n 0, 1) := by decide +kernel
theorem dL_law_170 : decode cL_law 170 = .ok (.iload 4, 2) := by decide +kernel
theorem dL_law_172 : decode cL_law 172 = .ok (.iconst 1, 1) := by decide +kernel
theorem dL_law_173 : decode cL_law 173 = .ok (.iadd, 1) := by decide +kernel
theorem dL_law_174 : decode cL_law 174 = .ok (.iaload, 1) := by decide +kernel
theorem dL_law_175 : decode cL_law 175 = .ok (.i2l, 1) := by decide +kernel
theorem dL_law_176 : decode cL_law 176 = .ok (.bipush 32, 2) := by decide +kernel
theorem dL_law_178 : decode cL_law 178 = .ok (.lshl, 1) := by decide +kernel
theorem dL_law_179 : decode cL_law 179 = .ok (.aload_n 0, 1) := by decide +kernel
theorem dL_law_180 : decode cL_law 180 = .ok (.iload 4, 2) := by decide +kernel
theorem dL_law_182 : decode cL_law 182 = .ok (.iconst 2, 1) := by decide +kernel
theorem dL_law_183 : decode cL_law 183 = .ok (.iadd, 1) := by decide +kernel
theorem dL_law_184 : decode cL_law 184 = .ok (.iaload, 1) := by decide +kernel
theorem dL_law_185 : decode cL_law 185 = .ok (.i2l, 1) := by decide +kernel
theorem dL_law_186 : decode cL_law 186 = .ok (.ldc2_w 19, 3) := by decide +kernel
theorem dL_law_189 : decode cL_law 189 = .ok (.land, 1) := by decide +kernel
theorem dL_law_190 : decode cL_law 190 = .ok (.lor, 1) := by decide +kernel
theorem dL_law_191 : decode cL_law 191 = .ok (.invokevirtual 21, 3) := by decide +kernel
theorem dL_law_194 : decode cL_law 194 = .ok (.aload_n 2, 1) := by decide +kernel
theorem dL_law_195 : decode cL_law 195 = .ok (.aload_n 0, 1) := by decide +kernel
theorem dL_law_196 : decode cL_law 196 = .ok (.iload 4, 2) := by decide +kernel
theorem dL_law_198 : decode cL_law 198 = .ok (.iconst 1, 1) := by decide +kernel
theorem dL_law_199 : decode cL_law 199 = .ok (.iadd, 1) := by decide +kernel
theorem dL_law_200 : decode cL_law 200 = .ok (.iaload, 1) := by decide +kernel
theorem dL_law_201 : decode cL_law 201 = .ok (.i2l, 1) := by decide +kernel
theorem dL_law_202 : decode cL_law 202 = .ok (.bipush 32, 2) := by decide +kernel
theorem dL_law_204 : decode cL_law 204 = .ok (.lshl, 1) := by decide +kernel
theorem dL_law_205 : decode cL_law 205 = .ok (.aload_n 0, 1) := by decide +kernel
theorem dL_law_206 : decode cL_law 206 = .ok (.iload 4, 2) := by decide +kernel
theorem dL_law_208 : decode cL_law 208 = .ok (.iconst 2, 1) := by decide +kernel
theorem dL_law_209 : decode cL_law 209 = .ok (.iadd, 1) := by decide +kernel
theorem dL_law_210 : decode cL_law 210 = .ok (.iaload, 1) := by decide +kernel
theorem dL_law_211 : decode cL_law 211 = .ok (.i2l, 1) := by decide +kernel
theorem dL_law_212 : decode cL_law 212 = .ok (.ldc2_w 19, 3) := by decide +kernel
theorem dL_law_215 : decode cL_law 215 = .ok (.land, 1) := by decide +kernel
theorem dL_law_216 : decode cL_law 216 = .ok (.lor, 1) := by decide +kernel
theorem dL_law_217 : decode cL_law 217 = .ok (.invokevirtual 25, 3) := by decide +kernel
theorem dL_law_220 : decode cL_law 220 = .ok (.if_icmp .eq 1008, 3) := by decide +kernel
theorem dL_law_223 : decode cL_law 223 = .ok (.iconst 0, 1) := by decide +kernel
theorem dL_law_224 : decode cL_law 224 = .ok (.ireturn, 1) := by decide +kernel
theorem dL_law_225 : decode cL_law 225 = .ok (.aload_n 1, 1) := by decide +kernel
theorem dL_law_226 : decode cL_law 226 = .ok (.invokevirtual 26, 3) := by decide +kernel
theorem dL_law_229 : decode cL_law 229 = .ok (.aload_n 2, 1) := by decide +kernel
theorem dL_law_230 : decode cL_law 230 = .ok (.invokevirtual 30, 3) := by decide +kernel
theorem dL_law_233 : decode cL_law 233 = .ok (.if_icmp .eq 995, 3) := by decide +kernel
theorem dL_law_236 : decode cL_law 236 = .ok (.iconst 0, 1) := by decide +kernel
theorem dL_law_237 : decode cL_law 237 = .ok (.ireturn, 1) := by decide +kernel
theorem dL_law_238 : decode cL_law 238 = .ok (.aload_n 1, 1) := by decide +kernel
theorem dL_law_239 : decode cL_law 239 = .ok (.aload_n 0, 1) := by decide +kernel
theorem dL_law_240 : decode cL_law 240 = .ok (.iload 4, 2) := by decide +kernel
theorem dL_law_242 : decode cL_law 242 = .ok (.iconst 1, 1) := by decide +kernel
theorem dL_law_243 : decode cL_law 243 = .ok (.iadd, 1) := by decide +kernel
theorem dL_law_244 : decode cL_law 244 = .ok (.iaload, 1) := by decide +kernel
theorem dL_law_245 : decode cL_law 245 = .ok (.ifCond .eq 7, 3) := by decide +kernel
theorem dL_law_248 : decode cL_law 248 = .ok (.iconst 1, 1) := by decide +kernel
theorem dL_law_249 : decode cL_law 249 = .ok (.goto 4, 3) := by decide +kernel
theorem dL_law_252 : decode cL_law 252 = .ok (.iconst 0, 1) := by decide +kernel
theorem dL_law_253 : decode cL_law 253 = .ok (.invokevirtual 31, 3) := by decide +kernel
theorem dL_law_256 : decode cL_law 256 = .ok (.aload_n 2, 1) := by decide +kernel
theorem dL_law_257 : decode cL_law 257 = .ok (.aload_n 0, 1) := by decide +kernel
theorem dL_law_258 : decode cL_law 258 = .ok (.iload 4, 2) := by decide +kernel
theorem dL_law_260 : decode cL_law 260 = .ok (.iconst 1, 1) := by decide +kernel
theorem dL_law_261 : decode cL_law 261 = .ok (.iadd, 1) := by decide +kernel
theorem dL_law_262 : decode cL_law 262 = .ok (.iaload, 1) := by decide +kernel
theorem dL_law_263 : decode cL_law 263 = .ok (.ifCond .eq 7, 3) := by decide +kernel
theorem dL_law_266 : decode cL_law 266 = .ok (.iconst 1, 1) := by decide +kernel
theorem dL_law_267 : decode cL_law 267 = .ok (.goto 4, 3) := by decide +kernel
theorem dL_law_270 : decode cL_law 270 = .ok (.iconst 0, 1) := by decide +kernel
theorem dL_law_271 : decode cL_law 271 = .ok (.invokevirtual 35, 3) := by decide +kernel
theorem dL_law_274 : decode cL_law 274 = .ok (.if_icmp .eq 954, 3) := by decide +kernel
theorem dL_law_277 : decode cL_law 277 = .ok (.iconst 0, 1) := by decide +kernel
theorem dL_law_278 : decode cL_law 278 = .ok (.ireturn, 1) := by decide +kernel
theorem dL_law_279 : decode cL_law 279 = .ok (.aload_n 1, 1) := by decide +kernel
theorem dL_law_280 : decode cL_law 280 = .ok (.aload_n 0, 1) := by decide +kernel
theorem dL_law_281 : decode cL_law 281 = .ok (.iload 4, 2) := by decide +kernel
theorem dL_law_283 : decode cL_law 283 = .ok (.iconst 1, 1) := by decide +kernel
theorem dL_law_284 : decode cL_law 284 = .ok (.iadd, 1) := by decide +kernel
theorem dL_law_285 : decode cL_law 285 = .ok (.iaload, 1) := by decide +kernel
theorem dL_law_286 : decode cL_law 286 = .ok (.aload_n 0, 1) := by decide +kernel
theorem dL_law_287 : decode cL_law 287 = .ok (.iload 4, 2) := by decide +kernel
theorem dL_law_289 : decode cL_law 289 = .ok (.iconst 2, 1) := by decide +kernel
theorem dL_law_290 : decode cL_law 290 = .ok (.iadd, 1) := by decide +kernel
theorem dL_law_291 : decode cL_law 291 = .ok (.iaload, 1) := by decide +kernel
theorem dL_law_292 : decode cL_law 292 = .ok (.aload_n 0, 1) := by decide +kernel
theorem dL_law_293 : decode cL_law 293 = .ok (.iload 4, 2) := by decide +kernel
theorem dL_law_295 : decode cL_law 295 = .ok (.iconst 3, 1) := by decide +kernel
theorem dL_law_296 : decode cL_law 296 = .ok (.iadd, 1) := by decide +kernel
theorem dL_law_297 : decode cL_law 297 = .ok (.iaload, 1) := by decide +kernel
theorem dL_law_298 : decode cL_law 298 = .ok (.invokevirtual 36, 3) := by decide +kernel
theorem dL_law_301 : decode cL_law 301 = .ok (.aload_n 2, 1) := by decide +kernel
theorem dL_law_302 : decode cL_law 302 = .ok (.aload_n 0, 1) := by decide +kernel
theorem dL_law_303 : decode cL_law 303 = .ok (.iload 4, 2) := by decide +kernel
theorem dL_law_305 : decode cL_law 305 = .ok (.iconst 1, 1) := by decide +kernel
theorem dL_law_306 : decode cL_law 306 = .ok (.iadd, 1) := by decide +kernel
theorem dL_law_307 : decode cL_law 307 = .ok (.iaload, 1) := by decide +kernel
theorem dL_law_308 : decode cL_law 308 = .ok (.aload_n 0, 1) := by decide +kernel
theorem dL_law_309 : decode cL_law 309 = .ok (.iload 4, 2) := by decide +kernel
theorem dL_law_311 : decode cL_law 311 = .ok (.iconst 2, 1) := by decide +kernel
theorem dL_law_312 : decode cL_law 312 = .ok (.iadd, 1) := by decide +kernel
theorem dL_law_313 : decode cL_law 313 = .ok (.iaload, 1) := by decide +kernel
theorem dL_law_314 : decode cL_law 314 = .ok (.aload_n 0, 1) := by decide +kernel
theorem dL_law_315 : decode cL_law 315 = .ok (.iload 4, 2) := by decide +kernel
theorem dL_law_317 : decode cL_law 317 = .ok (.iconst 3, 1) := by decide +kernel
theorem dL_law_318 : decode cL_law 318 = .ok (.iadd, 1) := by decide +kernel
theorem dL_law_319 : decode cL_law 319 = .ok (.iaload, 1) := by decide +kernel
theorem dL_law_320 : decode cL_law 320 = .ok (.invokevirtual 40, 3) := by decide +kernel
theorem dL_law_323 : decode cL_law 323 = .ok (.if_icmp .eq 905, 3) := by decide +kernel
theorem dL_law_326 : decode cL_law 326 = .ok (.iconst 0, 1) := by decide +kernel
theorem dL_law_327 : decode cL_law 327 = .ok (.ireturn, 1) := by decide +kernel
theorem dL_law_328 : decode cL_law 328 = .ok (.aload_n 1, 1) := by decide +kernel
theorem dL_law_329 : decode cL_law 329 = .ok (.aload_n 0, 1) := by decide +kernel
theorem dL_law_330 : decode cL_law 330 = .ok (.iload 4, 2) := by decide +kernel
theorem dL_law_332 : decode cL_law 332 = .ok (.iconst 1, 1) := by decide +kernel
theorem dL_law_333 : decode cL_law 333 = .ok (.iadd, 1) := by decide +kernel
theorem dL_law_334 : decode cL_law 334 = .ok (.iaload, 1) := by decide +kernel
theorem dL_law_335 : decode cL_law 335 = .ok (.aload_n 0, 1) := by decide +kernel
theorem dL_law_336 : decode cL_law 336 = .ok (.iload 4, 2) := by decide +kernel
theorem dL_law_338 : decode cL_law 338 = .ok (.iconst 2, 1) := by decide +kernel
theorem dL_law_339 : decode cL_law 339 = .ok (.iadd, 1) := by decide +kernel
theorem dL_law_340 : decode cL_law 340 = .ok (.iaload, 1) := by decide +kernel
theorem dL_law_341 : decode cL_law 341 = .ok (.invokevirtual 41, 3) := by decide +kernel
theorem dL_law_344 : decode cL_law 344 = .ok (.aload_n 2, 1) := by decide +kernel
theorem dL_law_345 : decode cL_law 345 = .ok (.aload_n 0, 1) := by decide +kernel
theorem dL_law_346 : decode cL_law 346 = .ok (.iload 4, 2) := by decide +kernel
theorem dL_law_348 : decode cL_law 348 = .ok (.iconst 1, 1) := by decide +kernel
theorem dL_law_349 : decode cL_law 349 = .ok (.iadd, 1) := by decide +kernel
theorem dL_law_350 : decode cL_law 350 = .ok (.iaload, 1) := by decide +kernel
theorem dL_law_351 : decode cL_law 351 = .ok (.aload_n 0, 1) := by decide +kernel
theorem dL_law_352 : decode cL_law 352 = .ok (.iload 4, 2) := by decide +kernel
theorem dL_law_354 : decode cL_law 354 = .ok (.iconst 2, 1) := by decide +kernel
theorem dL_law_355 : decode cL_law 355 = .ok (.iadd, 1) := by decide +kernel
theorem dL_law_356 : decode cL_law 356 = .ok (.iaload, 1) := by decide +kernel
theorem dL_law_357 : decode cL_law 357 = .ok (.invokevirtual 45, 3) := by decide +kernel
theorem dL_law_360 : decode cL_law 360 = .ok (.if_icmp .eq 868, 3) := by decide +kernel
theorem dL_law_363 : decode cL_law 363 = .ok (.iconst 0, 1) := by decide +kernel
theorem dL_law_364 : decode cL_law 364 = .ok (.ireturn, 1) := by decide +kernel
theorem dL_law_365 : decode cL_law 365 = .ok (.aload_n 1, 1) := by decide +kernel
theorem dL_law_366 : decode cL_law 366 = .ok (.aload_n 0, 1) := by decide +kernel
theorem dL_law_367 : decode cL_law 367 = .ok (.iload 4, 2) := by decide +kernel
theorem dL_law_369 : decode cL_law 369 = .ok (.iconst 1, 1) := by decide +kernel
theorem dL_law_370 : decode cL_law 370 = .ok (.iadd, 1) := by decide +kernel
theorem dL_law_371 : decode cL_law 371 = .ok (.iaload, 1) := by decide +kernel
theorem dL_law_372 : decode cL_law 372 = .ok (.invokevirtual 46, 3) := by decide +kernel
theorem dL_law_375 : decode cL_law 375 = .ok (.aload_n 2, 1) := by decide +kernel
theorem dL_law_376 : decode cL_law 376 = .ok (.aload_n 0, 1) := by decide +kernel
theorem dL_law_377 : decode cL_law 377 = .ok (.iload 4, 2) := by decide +kernel
theorem dL_law_379 : decode cL_law 379 = .ok (.iconst 1, 1) := by decide +kernel
theorem dL_law_380 : decode cL_law 380 = .ok (.iadd, 1) := by decide +kernel
theorem dL_law_381 : decode cL_law 381 = .ok (.iaload, 1) := by decide +kernel
theorem dL_law_382 : decode cL_law 382 = .ok (.invokevirtual 50, 3) := by decide +kernel
theorem dL_law_385 : decode cL_law 385 = .ok (.if_icmp .eq 843, 3) := by decide +kernel
theorem dL_law_388 : decode cL_law 388 = .ok (.iconst 0, 1) := by decide +kernel
theorem dL_law_389 : decode cL_law 389 = .ok (.ireturn, 1) := by decide +kernel
theorem dL_law_390 : decode cL_law 390 = .ok (.aload_n 1, 1) := by decide +kernel
theorem dL_law_391 : decode cL_law 391 = .ok (.aload_n 0, 1) := by decide +kernel
theorem dL_law_392 : decode cL_law 392 = .ok (.iload 4, 2) := by decide +kernel
theorem dL_law_394 : decode cL_law 394 = .ok (.iconst 1, 1) := by decide +kernel
theorem dL_law_395 : decode cL_law 395 = .ok (.iadd, 1) := by decide +kernel
theorem dL_law_396 : decode cL_law 396 = .ok (.iaload, 1) := by decide +kernel
theorem dL_law_397 : decode cL_law 397 = .ok (.aload_n 0, 1) := by decide +kernel
theorem dL_law_398 : decode cL_law 398 = .ok (.iload 4, 2) := by decide +kernel
theorem dL_law_400 : decode cL_law 400 = .ok (.iconst 2, 1) := by decide +kernel
theorem dL_law_401 : decode cL_law 401 = .ok (.iadd, 1) := by decide +kernel
theorem dL_law_402 : decode cL_law 402 = .ok (.iaload, 1) := by decide +kernel
theorem dL_law_403 : decode cL_law 403 = .ok (.invokevirtual 51, 3) := by decide +kernel
theorem dL_law_406 : decode cL_law 406 = .ok (.aload_n 2, 1) := by decide +kernel
theorem dL_law_407 : decode cL_law 407 = .ok (.aload_n 0, 1) := by decide +kernel
theorem dL_law_408 : decode cL_law 408 = .ok (.iload 4, 2) := by decide +kernel
theorem dL_law_410 : decode cL_law 410 = .ok (.iconst 1, 1) := by decide +kernel
theorem dL_law_411 : decode cL_law 411 = .ok (.iadd, 1) := by decide +kernel
theorem dL_law_412 : decode cL_law 412 = .ok (.iaload, 1) := by decide +kernel
theorem dL_law_413 : decode cL_law 413 = .ok (.aload_n 0, 1) := by decide +kernel
theorem dL_law_414 : decode cL_law 414 = .ok (.iload 4, 2) := by decide +kernel
theorem dL_law_416 : decode cL_law 416 = .ok (.iconst 2, 1) := by decide +kernel
theorem dL_law_417 : decode cL_law 417 = .ok (.iadd, 1) := by decide +kernel
theorem dL_law_418 : decode cL_law 418 = .ok (.iaload, 1) := by decide +kernel
theorem dL_law_419 : decode cL_law 419 = .ok (.invokevirtual 54, 3) := by decide +kernel
theorem dL_law_422 : decode cL_law 422 = .ok (.if_icmp .eq 806, 3) := by decide +kernel
theorem dL_law_425 : decode cL_law 425 = .ok (.iconst 0, 1) := by decide +kernel
theorem dL_law_426 : decode cL_law 426 = .ok (.ireturn, 1) := by decide +kernel
theorem dL_law_427 : decode cL_law 427 = .ok (.aload_n 1, 1) := by decide +kernel
theorem dL_law_428 : decode cL_law 428 = .ok (.aload_n 0, 1) := by decide +kernel
theorem dL_law_429 : decode cL_law 429 = .ok (.iload 4, 2) := by decide +kernel
theorem dL_law_431 : decode cL_law 431 = .ok (.iconst 1, 1) := by decide +kernel
theorem dL_law_432 : decode cL_law 432 = .ok (.iadd, 1) := by decide +kernel
theorem dL_law_433 : decode cL_law 433 = .ok (.iaload, 1) := by decide +kernel
theorem dL_law_434 : decode cL_law 434 = .ok (.ifCond .eq 7, 3) := by decide +kernel
theorem dL_law_437 : decode cL_law 437 = .ok (.iconst 1, 1) := by decide +kernel
theorem dL_law_438 : decode cL_law 438 = .ok (.goto 4, 3) := by decide +kernel
theorem dL_law_441 : decode cL_law 441 = .ok (.iconst 0, 1) := by decide +kernel
theorem dL_law_442 : decode cL_law 442 = .ok (.invokevirtual 55, 3) := by decide +kernel
theorem dL_law_445 : decode cL_law 445 = .ok (.aload_n 2, 1) := by decide +kernel
theorem dL_law_446 : decode cL_law 446 = .ok (.aload_n 0, 1) := by decide +kernel
theorem dL_law_447 : decode cL_law 447 = .ok (.iload 4, 2) := by decide +kernel
theorem dL_law_449 : decode cL_law 449 = .ok (.iconst 1, 1) := by decide +kernel
theorem dL_law_450 : decode cL_law 450 = .ok (.iadd, 1) := by decide +kernel
theorem dL_law_451 : decode cL_law 451 = .ok (.iaload, 1) := by decide +kernel
theorem dL_law_452 : decode cL_law 452 = .ok (.ifCond .eq 7, 3) := by decide +kernel
theorem dL_law_455 : decode cL_law 455 = .ok (.iconst 1, 1) := by decide +kernel
theorem dL_law_456 : decode cL_law 456 = .ok (.goto 4, 3) := by decide +kernel
theorem dL_law_459 : decode cL_law 459 = .ok (.iconst 0, 1) := by decide +kernel
theorem dL_law_460 : decode cL_law 460 = .ok (.invokevirtual 59, 3) := by decide +kernel
theorem dL_law_463 : decode cL_law 463 = .ok (.if_icmp .eq 765, 3) := by decide +kernel
theorem dL_law_466 : decode cL_law 466 = .ok (.iconst 0, 1) := by decide +kernel
theorem dL_law_467 : decode cL_law 467 = .ok (.ireturn, 1) := by decide +kernel
theorem dL_law_468 : decode cL_law 468 = .ok (.aload_n 1, 1) := by decide +kernel
theorem dL_law_469 : decode cL_law 469 = .ok (.aload_n 0, 1) := by decide +kernel
theorem dL_law_470 : decode cL_law 470 = .ok (.iload 4, 2) := by decide +kernel
theorem dL_law_472 : decode cL_law 472 = .ok (.iconst 1, 1) := by decide +kernel
theorem dL_law_473 : decode cL_law 473 = .ok (.iadd, 1) := by decide +kernel
theorem dL_law_474 : decode cL_law 474 = .ok (.iaload, 1) := by decide +kernel
theorem dL_law_475 : decode cL_law 475 = .ok (.aload_n 0, 1) := by decide +kernel
theorem dL_law_476 : decode cL_law 476 = .ok (.iload 4, 2) := by decide +kernel
theorem dL_law_478 : decode cL_law 478 = .ok (.iconst 2, 1) := by decide +kernel
theorem dL_law_479 : decode cL_law 479 = .ok (.iadd, 1) := by decide +kernel
theorem dL_law_480 : decode cL_law 480 = .ok (.iaload, 1) := by decide +kernel
theorem dL_law_481 : decode cL_law 481 = .ok (.aload_n 0, 1) := by decide +kernel
theorem dL_law_482 : decode cL_law 482 = .ok (.iload 4, 2) := by decide +kernel
theorem dL_law_484 : decode cL_law 484 = .ok (.iconst 3, 1) := by decide +kernel
theorem dL_law_485 : decode cL_law 485 = .ok (.iadd, 1) := by decide +kernel
theorem dL_law_486 : decode cL_law 486 = .ok (.iaload, 1) := by decide +kernel
theorem dL_law_487 : decode cL_law 487 = .ok (.aload_n 0, 1) := by decide +kernel
theorem dL_law_488 : decode cL_law 488 = .ok (.iload 4, 2) := by decide +kernel
theorem dL_law_490 : decode cL_law 490 = .ok (.iconst 4, 1) := by decide +kernel
theorem dL_law_491 : decode cL_law 491 = .ok (.iadd, 1) := by decide +kernel
theorem dL_law_492 : decode cL_law 492 = .ok (.iaload, 1) := by decide +kernel
theorem dL_law_493 : decode cL_law 493 = .ok (.invokevirtual 60, 3) := by decide +kernel
theorem dL_law_496 : decode cL_law 496 = .ok (.aload_n 2, 1) := by decide +kernel
theorem dL_law_497 : decode cL_law 497 = .ok (.aload_n 0, 1) := by decide +kernel
theorem dL_law_498 : decode cL_law 498 = .ok (.iload 4, 2) := by decide +kernel
theorem dL_law_500 : decode cL_law 500 = .ok (.iconst 1, 1) := by decide +kernel
theorem dL_law_501 : decode cL_law 501 = .ok (.iadd, 1) := by decide +kernel
theorem dL_law_502 : decode cL_law 502 = .ok (.iaload, 1) := by decide +kernel
theorem dL_law_503 : decode cL_law 503 = .ok (.aload_n 0, 1) := by decide +kernel
theorem dL_law_504 : decode cL_law 504 = .ok (.iload 4, 2) := by decide +kernel
theorem dL_law_506 : decode cL_law 506 = .ok (.iconst 2, 1) := by decide +kernel
theorem dL_law_507 : decode cL_law 507 = .ok (.iadd, 1) := by decide +kernel
theorem dL_law_508 : decode cL_law 508 = .ok (.iaload, 1) := by decide +kernel
theorem dL_law_509 : decode cL_law 509 = .ok (.aload_n 0, 1) := by decide +kernel
theorem dL_law_510 : decode cL_law 510 = .ok (.iload 4, 2) := by decide +kernel
theorem dL_law_512 : decode cL_law 512 = .ok (.iconst 3, 1) := by decide +kernel
theorem dL_law_513 : decode cL_law 513 = .ok (.iadd, 1) := by decide +kernel
theorem dL_law_514 : decode cL_law 514 = .ok (.iaload, 1) := by decide +kernel
theorem dL_law_515 : decode cL_law 515 = .ok (.aload_n 0, 1) := by decide +kernel
theorem dL_law_516 : decode cL_law 516 = .ok (.iload 4, 2) := by decide +kernel
theorem dL_law_518 : decode cL_law 518 = .ok (.iconst 4, 1) := by decide +kernel
theorem dL_law_519 : decode cL_law 519 = .ok (.iadd, 1) := by decide +kernel
theorem dL_law_520 : decode cL_law 520 = .ok (.iaload, 1) := by decide +kernel
theorem dL_law_521 : decode cL_law 521 = .ok (.invokevirtual 64, 3) := by decide +kernel
theorem dL_law_524 : decode cL_law 524 = .ok (.if_icmp .eq 704, 3) := by decide +kernel
theorem dL_law_527 : decode cL_law 527 = .ok (.iconst 0, 1) := by decide +kernel
theorem dL_law_528 : decode cL_law 528 = .ok (.ireturn, 1) := by decide +kernel
theorem dL_law_529 : decode cL_law 529 = .ok (.aload_n 1, 1) := by decide +kernel
theorem dL_law_530 : decode cL_law 530 = .ok (.aload_n 0, 1) := by decide +kernel
theorem dL_law_531 : decode cL_law 531 = .ok (.iload 4, 2) := by decide +kernel
theorem dL_law_533 : decode cL_law 533 = .ok (.iconst 1, 1) := by decide +kernel
theorem dL_law_534 : decode cL_law 534 = .ok (.iadd, 1) := by decide +kernel
theorem dL_law_535 : decode cL_law 535 = .ok (.iaload, 1) := by decide +kernel
theorem dL_law_536 : decode cL_law 536 = .ok (.invokevirtual 65, 3) := by decide +kernel
theorem dL_law_539 : decode cL_law 539 = .ok (.aload_n 2, 1) := by decide +kernel
theorem dL_law_540 : decode cL_law 540 = .ok (.aload_n 0, 1) := by decide +kernel
theorem dL_law_541 : decode cL_law 541 = .ok (.iload 4, 2) := by decide +kernel
theorem dL_law_543 : decode cL_law 543 = .ok (.iconst 1, 1) := by decide +kernel
theorem dL_law_544 : decode cL_law 544 = .ok (.iadd, 1) := by decide +kernel
theorem dL_law_545 : decode cL_law 545 = .ok (.iaload, 1) := by decide +kernel
theorem dL_law_546 : decode cL_law 546 = .ok (.invokevirtual 69, 3) := by decide +kernel
theorem dL_law_549 : decode cL_law 549 = .ok (.if_icmp .eq 679, 3) := by decide +kernel
theorem dL_law_552 : decode cL_law 552 = .ok (.iconst 0, 1) := by decide +kernel
theorem dL_law_553 : decode cL_law 553 = .ok (.ireturn, 1) := by decide +kernel
theorem dL_law_554 : decode cL_law 554 = .ok (.aload_n 1, 1) := by decide +kernel
theorem dL_law_555 : decode cL_law 555 = .ok (.invokevirtual 70, 3) := by decide +kernel
theorem dL_law_558 : decode cL_law 558 = .ok (.aload_n 2, 1) := by decide +kernel
theorem dL_law_559 : decode cL_law 559 = .ok (.invokevirtual 73, 3) := by decide +kernel
theorem dL_law_562 : decode cL_law 562 = .ok (.if_icmp .eq 666, 3) := by decide +kernel
theorem dL_law_565 : decode cL_law 565 = .ok (.iconst 0, 1) := by decide +kernel
theorem dL_law_566 : decode cL_law 566 = .ok (.ireturn, 1) := by decide +kernel
theorem dL_law_567 : decode cL_law 567 = .ok (.aload_n 1, 1) := by decide +kernel
theorem dL_law_568 : decode cL_law 568 = .ok (.invokevirtual 74, 3) := by decide +kernel
theorem dL_law_571 : decode cL_law 571 = .ok (.aload_n 2, 1) := by decide +kernel
theorem dL_law_572 : decode cL_law 572 = .ok (.invokevirtual 77, 3) := by decide +kernel
theorem dL_law_575 : decode cL_law 575 = .ok (.if_icmp .eq 653, 3) := by decide +kernel
theorem dL_law_578 : decode cL_law 578 = .ok (.iconst 0, 1) := by decide +kernel
theorem dL_law_579 : decode cL_law 579 = .ok (.ireturn, 1) := by decide +kernel
theorem dL_law_580 : decode cL_law 580 = .ok (.aload_n 1, 1) := by decide +kernel
theorem dL_law_581 : decode cL_law 581 = .ok (.aload_n 0, 1) := by decide +kernel
theorem dL_law_582 : decode cL_law 582 = .ok (.iload 4, 2) := by decide +kernel
theorem dL_law_584 : decode cL_law 584 = .ok (.iconst 1, 1) := by decide +kernel
theorem dL_law_585 : decode cL_law 585 = .ok (.iadd, 1) := by decide +kernel
theorem dL_law_586 : decode cL_law 586 = .ok (.iaload, 1) := by decide +kernel
theorem dL_law_587 : decode cL_law 587 = .ok (.invokevirtual 78, 3) := by decide +kernel
theorem dL_law_590 : decode cL_law 590 = .ok (.aload_n 2, 1) := by decide +kernel
theorem dL_law_591 : decode cL_law 591 = .ok (.aload_n 0, 1) := by decide +kernel
theorem dL_law_592 : decode cL_law 592 = .ok (.iload 4, 2) := by decide +kernel
theorem dL_law_594 : decode cL_law 594 = .ok (.iconst 1, 1) := by decide +kernel
theorem dL_law_595 : decode cL_law 595 = .ok (.iadd, 1) := by decide +kernel
theorem dL_law_596 : decode cL_law 596 = .ok (.iaload, 1) := by decide +kernel
theorem dL_law_597 : decode cL_law 597 = .ok (.invokevirtual 81, 3) := by decide +kernel
theorem dL_law_600 : decode cL_law 600 = .ok (.if_icmp .eq 628, 3) := by decide +kernel
theorem dL_law_603 : decode cL_law 603 = .ok (.iconst 0, 1) := by decide +kernel
theorem dL_law_604 : decode cL_law 604 = .ok (.ireturn, 1) := by decide +kernel
theorem dL_law_605 : decode cL_law 605 = .ok (.aload_n 1, 1) := by decide +kernel
theorem dL_law_606 : decode cL_law 606 = .ok (.aload_n 0, 1) := by decide +kernel
theorem dL_law_607 : decode cL_law 607 = .ok (.iload 4, 2) := by decide +kernel
theorem dL_law_609 : decode cL_law 609 = .ok (.iconst 1, 1) := by decide +kernel
theorem dL_law_610 : decode cL_law 610 = .ok (.iadd, 1) := by decide +kernel
theorem dL_law_611 : decode cL_law 611 = .ok (.iaload, 1) := by decide +kernel
theorem dL_law_612 : decode cL_law 612 = .ok (.aload_n 0, 1) := by decide +kernel
theorem dL_law_613 : decode cL_law 613 = .ok (.iload 4, 2) := by decide +kernel
theorem dL_law_615 : decode cL_law 615 = .ok (.iconst 2, 1) := by decide +kernel
theorem dL_law_616 : decode cL_law 616 = .ok (.iadd, 1) := by decide +kernel
theorem dL_law_617 : decode cL_law 617 = .ok (.iaload, 1) := by decide +kernel
theorem dL_law_618 : decode cL_law 618 = .ok (.invokevirtual 82, 3) := by decide +kernel
theorem dL_law_621 : decode cL_law 621 = .ok (.aload_n 2, 1) := by decide +kernel
theorem dL_law_622 : decode cL_law 622 = .ok (.aload_n 0, 1) := by decide +kernel
theorem dL_law_623 : decode cL_law 623 = .ok (.iload 4, 2) := by decide +kernel
theorem dL_law_625 : decode cL_law 625 = .ok (.iconst 1, 1) := by decide +kernel
theorem dL_law_626 : decode cL_law 626 = .ok (.iadd, 1) := by decide +kernel
theorem dL_law_627 : decode cL_law 627 = .ok (.iaload, 1) := by decide +kernel
theorem dL_law_628 : decode cL_law 628 = .ok (.aload_n 0, 1) := by decide +kernel
theorem dL_law_629 : decode cL_law 629 = .ok (.iload 4, 2) := by decide +kernel
theorem dL_law_631 : decode cL_law 631 = .ok (.iconst 2, 1) := by decide +kernel
theorem dL_law_632 : decode cL_law 632 = .ok (.iadd, 1) := by decide +kernel
theorem dL_law_633 : decode cL_law 633 = .ok (.iaload, 1) := by decide +kernel
theorem dL_law_634 : decode cL_law 634 = .ok (.invokevirtual 86, 3) := by decide +kernel
theorem dL_law_637 : decode cL_law 637 = .ok (.if_icmp .eq 591, 3) := by decide +kernel
theorem dL_law_640 : decode cL_law 640 = .ok (.iconst 0, 1) := by decide +kernel
theorem dL_law_641 : decode cL_law 641 = .ok (.ireturn, 1) := by decide +kernel
theorem dL_law_642 : decode cL_law 642 = .ok (.aload_n 1, 1) := by decide +kernel
theorem dL_law_643 : decode cL_law 643 = .ok (.aload_n 0, 1) := by decide +kernel
theorem dL_law_644 : decode cL_law 644 = .ok (.iload 4, 2) := by decide +kernel
theorem dL_law_646 : decode cL_law 646 = .ok (.iconst 1, 1) := by decide +kernel
theorem dL_law_647 : decode cL_law 647 = .ok (.iadd, 1) := by decide +kernel
theorem dL_law_648 : decode cL_law 648 = .ok (.iaload, 1) := by decide +kernel
theorem dL_law_649 : decode cL_law 649 = .ok (.ifCond .eq 7, 3) := by decide +kernel
theorem dL_law_652 : decode cL_law 652 = .ok (.iconst 1, 1) := by decide +kernel
theorem dL_law_653 : decode cL_law 653 = .ok (.goto 4, 3) := by decide +kernel
theorem dL_law_656 : decode cL_law 656 = .ok (.iconst 0, 1) := by decide +kernel
theorem dL_law_657 : decode cL_law 657 = .ok (.aload_n 0, 1) := by decide +kernel
theorem dL_law_658 : decode cL_law 658 = .ok (.iload 4, 2) := by decide +kernel
theorem dL_law_660 : decode cL_law 660 = .ok (.iconst 2, 1) := by decide +kernel
theorem dL_law_661 : decode cL_law 661 = .ok (.iadd, 1) := by decide +kernel
theorem dL_law_662 : decode cL_law 662 = .ok (.iaload, 1) := by decide +kernel
theorem dL_law_663 : decode cL_law 663 = .ok (.aload_n 3, 1) := by decide +kernel
theorem dL_law_664 : decode cL_law 664 = .ok (.invokestatic 87, 3) := by decide +kernel
theorem dL_law_667 : decode cL_law 667 = .ok (.istore 5, 2) := by decide +kernel
theorem dL_law_669 : decode cL_law 669 = .ok (.aload_n 2, 1) := by decide +kernel
theorem dL_law_670 : decode cL_law 670 = .ok (.aload_n 0, 1) := by decide +kernel
theorem dL_law_671 : decode cL_law 671 = .ok (.iload 4, 2) := by decide +kernel
theorem dL_law_673 : decode cL_law 673 = .ok (.iconst 1, 1) := by decide +kernel
theorem dL_law_674 : decode cL_law 674 = .ok (.iadd, 1) := by decide +kernel
theorem dL_law_675 : decode cL_law 675 = .ok (.iaload, 1) := by decide +kernel
theorem dL_law_676 : decode cL_law 676 = .ok (.ifCond .eq 7, 3) := by decide +kernel
theorem dL_law_679 : decode cL_law 679 = .ok (.iconst 1, 1) := by decide +kernel
theorem dL_law_680 : decode cL_law 680 = .ok (.goto 4, 3) := by decide +kernel
theorem dL_law_683 : decode cL_law 683 = .ok (.iconst 0, 1) := by decide +kernel
theorem dL_law_684 : decode cL_law 684 = .ok (.aload_n 0, 1) := by decide +kernel
theorem dL_law_685 : decode cL_law 685 = .ok (.iload 4, 2) := by decide +kernel
theorem dL_law_687 : decode cL_law 687 = .ok (.iconst 2, 1) := by decide +kernel
theorem dL_law_688 : decode cL_law 688 = .ok (.iadd, 1) := by decide +kernel
theorem dL_law_689 : decode cL_law 689 = .ok (.iaload, 1) := by decide +kernel
theorem dL_law_690 : decode cL_law 690 = .ok (.invokevirtual 92, 3) := by decide +kernel
theorem dL_law_693 : decode cL_law 693 = .ok (.istore 6, 2) := by decide +kernel
theorem dL_law_695 : decode cL_law 695 = .ok (.aload_n 2, 1) := by decide +kernel
theorem dL_law_696 : decode cL_law 696 = .ok (.invokevirtual 93, 3) := by decide +kernel
theorem dL_law_699 : decode cL_law 699 = .ok (.iload 5, 2) := by decide +kernel
theorem dL_law_701 : decode cL_law 701 = .ok (.if_icmp .eq 5, 3) := by decide +kernel
theorem dL_law_704 : decode cL_law 704 = .ok (.iconst 0, 1) := by decide +kernel
theorem dL_law_705 : decode cL_law 705 = .ok (.ireturn, 1) := by decide +kernel
theorem dL_law_706 : decode cL_law 706 = .ok (.iload 5, 2) := by decide +kernel
theorem dL_law_708 : decode cL_law 708 = .ok (.ifCond .ne 15, 3) := by decide +kernel
theorem dL_law_711 : decode cL_law 711 = .ok (.aload_n 3, 1) := by decide +kernel
theorem dL_law_712 : decode cL_law 712 = .ok (.iconst 0, 1) := by decide +kernel
theorem dL_law_713 : decode cL_law 713 = .ok (.laload, 1) := by decide +kernel
theorem dL_law_714 : decode cL_law 714 = .ok (.iload 6, 2) := by decide +kernel
theorem dL_law_716 : decode cL_law 716 = .ok (.i2l, 1) := by decide +kernel
theorem dL_law_717 : decode cL_law 717 = .ok (.lcmp, 1) := by decide +kernel
theorem dL_law_718 : decode cL_law 718 = .ok (.ifCond .eq 5, 3) := by decide +kernel
theorem dL_law_721 : decode cL_law 721 = .ok (.iconst 0, 1) := by decide +kernel
theorem dL_law_722 : decode cL_law 722 = .ok (.ireturn, 1) := by decide +kernel
theorem dL_law_723 : decode cL_law 723 = .ok (.goto 505, 3) := by decide +kernel
theorem dL_law_726 : decode cL_law 726 = .ok (.aload_n 1, 1) := by decide +kernel
theorem dL_law_727 : decode cL_law 727 = .ok (.aload_n 0, 1) := by decide +kernel
theorem dL_law_728 : decode cL_law 728 = .ok (.iload 4, 2) := by decide +kernel
theorem dL_law_730 : decode cL_law 730 = .ok (.iconst 1, 1) := by decide +kernel
theorem dL_law_731 : decode cL_law 731 = .ok (.iadd, 1) := by decide +kernel
theorem dL_law_732 : decode cL_law 732 = .ok (.iaload, 1) := by decide +kernel
theorem dL_law_733 : decode cL_law 733 = .ok (.aload_n 0, 1) := by decide +kernel
theorem dL_law_734 : decode cL_law 734 = .ok (.iload 4, 2) := by decide +kernel
theorem dL_law_736 : decode cL_law 736 = .ok (.iconst 2, 1) := by decide +kernel
theorem dL_law_737 : decode cL_law 737 = .ok (.iadd, 1) := by decide +kernel
theorem dL_law_738 : decode cL_law 738 = .ok (.iaload, 1) := by decide +kernel
theorem dL_law_739 : decode cL_law 739 = .ok (.aload_n 0, 1) := by decide +kernel
theorem dL_law_740 : decode cL_law 740 = .ok (.iload 4, 2) := by decide +kernel
theorem dL_law_742 : decode cL_law 742 = .ok (.iconst 3, 1) := by decide +kernel
theorem dL_law_743 : decode cL_law 743 = .ok (.iadd, 1) := by decide +kernel
theorem dL_law_744 : decode cL_law 744 = .ok (.iaload, 1) := by decide +kernel
theorem dL_law_745 : decode cL_law 745 = .ok (.invokevirtual 96, 3) := by decide +kernel
theorem dL_law_748 : decode cL_law 748 = .ok (.aload_n 2, 1) := by decide +kernel
theorem dL_law_749 : decode cL_law 749 = .ok (.aload_n 0, 1) := by decide +kernel
theorem dL_law_750 : decode cL_law 750 = .ok (.iload 4, 2) := by decide +kernel
theorem dL_law_752 : decode cL_law 752 = .ok (.iconst 1, 1) := by decide +kernel
theorem dL_law_753 : decode cL_law 753 = .ok (.iadd, 1) := by decide +kernel
theorem dL_law_754 : decode cL_law 754 = .ok (.iaload, 1) := by decide +kernel
theorem dL_law_755 : decode cL_law 755 = .ok (.aload_n 0, 1) := by decide +kernel
theorem dL_law_756 : decode cL_law 756 = .ok (.iload 4, 2) := by decide +kernel
theorem dL_law_758 : decode cL_law 758 = .ok (.iconst 2, 1) := by decide +kernel
theorem dL_law_759 : decode cL_law 759 = .ok (.iadd, 1) := by decide +kernel
theorem dL_law_760 : decode cL_law 760 = .ok (.iaload, 1) := by decide +kernel
theorem dL_law_761 : decode cL_law 761 = .ok (.aload_n 0, 1) := by decide +kernel
theorem dL_law_762 : decode cL_law 762 = .ok (.iload 4, 2) := by decide +kernel
theorem dL_law_764 : decode cL_law 764 = .ok (.iconst 3, 1) := by decide +kernel
theorem dL_law_765 : decode cL_law 765 = .ok (.iadd, 1) := by decide +kernel
theorem dL_law_766 : decode cL_law 766 = .ok (.iaload, 1) := by decide +kernel
theorem dL_law_767 : decode cL_law 767 = .ok (.invokevirtual 100, 3) := by decide +kernel
theorem dL_law_770 : decode cL_law 770 = .ok (.if_icmp .eq 458, 3) := by decide +kernel
theorem dL_law_773 : decode cL_law 773 = .ok (.iconst 0, 1) := by decide +kernel
theorem dL_law_774 : decode cL_law 774 = .ok (.ireturn, 1) := by decide +kernel
theorem dL_law_775 : decode cL_law 775 = .ok (.aload_n 1, 1) := by decide +kernel
theorem dL_law_776 : decode cL_law 776 = .ok (.aload_n 0, 1) := by decide +kernel
theorem dL_law_777 : decode cL_law 777 = .ok (.iload 4, 2) := by decide +kernel
theorem dL_law_779 : decode cL_law 779 = .ok (.iconst 1, 1) := by decide +kernel
theorem dL_law_780 : decode cL_law 780 = .ok (.iadd, 1) := by decide +kernel
theorem dL_law_781 : decode cL_law 781 = .ok (.iaload, 1) := by decide +kernel
theorem dL_law_782 : decode cL_law 782 = .ok (.invokevirtual 101, 3) := by decide +kernel
theorem dL_law_785 : decode cL_law 785 = .ok (.aload_n 2, 1) := by decide +kernel
theorem dL_law_786 : decode cL_law 786 = .ok (.aload_n 0, 1) := by decide +kernel
theorem dL_law_787 : decode cL_law 787 = .ok (.iload 4, 2) := by decide +kernel
theorem dL_law_789 : decode cL_law 789 = .ok (.iconst 1, 1) := by decide +kernel
theorem dL_law_790 : decode cL_law 790 = .ok (.iadd, 1) := by decide +kernel
theorem dL_law_791 : decode cL_law 791 = .ok (.iaload, 1) := by decide +kernel
theorem dL_law_792 : decode cL_law 792 = .ok (.invokevirtual 104, 3) := by decide +kernel
theorem dL_law_795 : decode cL_law 795 = .ok (.if_icmp .eq 433, 3) := by decide +kernel
theorem dL_law_798 : decode cL_law 798 = .ok (.iconst 0, 1) := by decide +kernel
theorem dL_law_799 : decode cL_law 799 = .ok (.ireturn, 1) := by decide +kernel
theorem dL_law_800 : decode cL_law 800 = .ok (.aload_n 1, 1) := by decide +kernel
theorem dL_law_801 : decode cL_law 801 = .ok (.aload_n 0, 1) := by decide +kernel
theorem dL_law_802 : decode cL_law 802 = .ok (.iload 4, 2) := by decide +kernel
theorem dL_law_804 : decode cL_law 804 = .ok (.iconst 1, 1) := by decide +kernel
theorem dL_law_805 : decode cL_law 805 = .ok (.iadd, 1) := by decide +kernel
theorem dL_law_806 : decode cL_law 806 = .ok (.iaload, 1) := by decide +kernel
theorem dL_law_807 : decode cL_law 807 = .ok (.aload_n 0, 1) := by decide +kernel
theorem dL_law_808 : decode cL_law 808 = .ok (.iload 4, 2) := by decide +kernel
theorem dL_law_810 : decode cL_law 810 = .ok (.iconst 2, 1) := by decide +kernel
theorem dL_law_811 : decode cL_law 811 = .ok (.iadd, 1) := by decide +kernel
theorem dL_law_812 : decode cL_law 812 = .ok (.iaload, 1) := by decide +kernel
theorem dL_law_813 : decode cL_law 813 = .ok (.aload_n 0, 1) := by decide +kernel
theorem dL_law_814 : decode cL_law 814 = .ok (.iload 4, 2) := by decide +kernel
theorem dL_law_816 : decode cL_law 816 = .ok (.iconst 3, 1) := by decide +kernel
theorem dL_law_817 : decode cL_law 817 = .ok (.iadd, 1) := by decide +kernel
theorem dL_law_818 : decode cL_law 818 = .ok (.iaload, 1) := by decide +kernel
theorem dL_law_819 : decode cL_law 819 = .ok (.invokevirtual 105, 3) := by decide +kernel
theorem dL_law_822 : decode cL_law 822 = .ok (.aload_n 2, 1) := by decide +kernel
theorem dL_law_823 : decode cL_law 823 = .ok (.aload_n 0, 1) := by decide +kernel
theorem dL_law_824 : decode cL_law 824 = .ok (.iload 4, 2) := by decide +kernel
theorem dL_law_826 : decode cL_law 826 = .ok (.iconst 1, 1) := by decide +kernel
theorem dL_law_827 : decode cL_law 827 = .ok (.iadd, 1) := by decide +kernel
theorem dL_law_828 : decode cL_law 828 = .ok (.iaload, 1) := by decide +kernel
theorem dL_law_829 : decode cL_law 829 = .ok (.aload_n 0, 1) := by decide +kernel
theorem dL_law_830 : decode cL_law 830 = .ok (.iload 4, 2) := by decide +kernel
theorem dL_law_832 : decode cL_law 832 = .ok (.iconst 2, 1) := by decide +kernel
theorem dL_law_833 : decode cL_law 833 = .ok (.iadd, 1) := by decide +kernel
theorem dL_law_834 : decode cL_law 834 = .ok (.iaload, 1) := by decide +kernel
theorem dL_law_835 : decode cL_law 835 = .ok (.aload_n 0, 1) := by decide +kernel
theorem dL_law_836 : decode cL_law 836 = .ok (.iload 4, 2) := by decide +kernel
theorem dL_law_838 : decode cL_law 838 = .ok (.iconst 3, 1) := by decide +kernel
theorem dL_law_839 : decode cL_law 839 = .ok (.iadd, 1) := by decide +kernel
theorem dL_law_840 : decode cL_law 840 = .ok (.iaload, 1) := by decide +kernel
theorem dL_law_841 : decode cL_law 841 = .ok (.invokevirtual 108, 3) := by decide +kernel
theorem dL_law_844 : decode cL_law 844 = .ok (.if_icmp .eq 384, 3) := by decide +kernel
theorem dL_law_847 : decode cL_law 847 = .ok (.iconst 0, 1) := by decide +kernel
theorem dL_law_848 : decode cL_law 848 = .ok (.ireturn, 1) := by decide +kernel
theorem dL_law_849 : decode cL_law 849 = .ok (.aload_n 1, 1) := by decide +kernel
theorem dL_law_850 : decode cL_law 850 = .ok (.aload_n 0, 1) := by decide +kernel
theorem dL_law_851 : decode cL_law 851 = .ok (.iload 4, 2) := by decide +kernel
theorem dL_law_853 : decode cL_law 853 = .ok (.iconst 1, 1) := by decide +kernel
theorem dL_law_854 : decode cL_law 854 = .ok (.iadd, 1) := by decide +kernel
theorem dL_law_855 : decode cL_law 855 = .ok (.iaload, 1) := by decide +kernel
theorem dL_law_856 : decode cL_law 856 = .ok (.aload_n 0, 1) := by decide +kernel
theorem dL_law_857 : decode cL_law 857 = .ok (.iload 4, 2) := by decide +kernel
theorem dL_law_859 : decode cL_law 859 = .ok (.iconst 2, 1) := by decide +kernel
theorem dL_law_860 : decode cL_law 860 = .ok (.iadd, 1) := by decide +kernel
theorem dL_law_861 : decode cL_law 861 = .ok (.iaload, 1) := by decide +kernel
theorem dL_law_862 : decode cL_law 862 = .ok (.invokevirtual 109, 3) := by decide +kernel
theorem dL_law_865 : decode cL_law 865 = .ok (.aload_n 2, 1) := by decide +kernel
theorem dL_law_866 : decode cL_law 866 = .ok (.aload_n 0, 1) := by decide +kernel
theorem dL_law_867 : decode cL_law 867 = .ok (.iload 4, 2) := by decide +kernel
theorem dL_law_869 : decode cL_law 869 = .ok (.iconst 1, 1) := by decide +kernel
theorem dL_law_870 : decode cL_law 870 = .ok (.iadd, 1) := by decide +kernel
theorem dL_law_871 : decode cL_law 871 = .ok (.iaload, 1) := by decide +kernel
theorem dL_law_872 : decode cL_law 872 = .ok (.aload_n 0, 1) := by decide +kernel
theorem dL_law_873 : decode cL_law 873 = .ok (.iload 4, 2) := by decide +kernel
theorem dL_law_875 : decode cL_law 875 = .ok (.iconst 2, 1) := by decide +kernel
theorem dL_law_876 : decode cL_law 876 = .ok (.iadd, 1) := by decide +kernel
theorem dL_law_877 : decode cL_law 877 = .ok (.iaload, 1) := by decide +kernel
theorem dL_law_878 : decode cL_law 878 = .ok (.invokevirtual 112, 3) := by decide +kernel
theorem dL_law_881 : decode cL_law 881 = .ok (.if_icmp .eq 347, 3) := by decide +kernel
theorem dL_law_884 : decode cL_law 884 = .ok (.iconst 0, 1) := by decide +kernel
theorem dL_law_885 : decode cL_law 885 = .ok (.ireturn, 1) := by decide +kernel
theorem dL_law_886 : decode cL_law 886 = .ok (.aload_n 1, 1) := by decide +kernel
theorem dL_law_887 : decode cL_law 887 = .ok (.aload_n 0, 1) := by decide +kernel
theorem dL_law_888 : decode cL_law 888 = .ok (.iload 4, 2) := by decide +kernel
theorem dL_law_890 : decode cL_law 890 = .ok (.iconst 1, 1) := by decide +kernel
theorem dL_law_891 : decode cL_law 891 = .ok (.iadd, 1) := by decide +kernel
theorem dL_law_892 : decode cL_law 892 = .ok (.iaload, 1) := by decide +kernel
theorem dL_law_893 : decode cL_law 893 = .ok (.invokevirtual 113, 3) := by decide +kernel
theorem dL_law_896 : decode cL_law 896 = .ok (.aload_n 2, 1) := by decide +kernel
theorem dL_law_897 : decode cL_law 897 = .ok (.aload_n 0, 1) := by decide +kernel
theorem dL_law_898 : decode cL_law 898 = .ok (.iload 4, 2) := by decide +kernel
theorem dL_law_900 : decode cL_law 900 = .ok (.iconst 1, 1) := by decide +kernel
theorem dL_law_901 : decode cL_law 901 = .ok (.iadd, 1) := by decide +kernel
theorem dL_law_902 : decode cL_law 902 = .ok (.iaload, 1) := by decide +kernel
theorem dL_law_903 : decode cL_law 903 = .ok (.invokevirtual 116, 3) := by decide +kernel
theorem dL_law_906 : decode cL_law 906 = .ok (.if_icmp .eq 322, 3) := by decide +kernel
theorem dL_law_909 : decode cL_law 909 = .ok (.iconst 0, 1) := by decide +kernel
theorem dL_law_910 : decode cL_law 910 = .ok (.ireturn, 1) := by decide +kernel
theorem dL_law_911 : decode cL_law 911 = .ok (.aload_n 1, 1) := by decide +kernel
theorem dL_law_912 : decode cL_law 912 = .ok (.aload_n 0, 1) := by decide +kernel
theorem dL_law_913 : decode cL_law 913 = .ok (.iload 4, 2) := by decide +kernel
theorem dL_law_915 : decode cL_law 915 = .ok (.iconst 1, 1) := by decide +kernel
theorem dL_law_916 : decode cL_law 916 = .ok (.iadd, 1) := by decide +kernel
theorem dL_law_917 : decode cL_law 917 = .ok (.iaload, 1) := by decide +kernel
theorem dL_law_918 : decode cL_law 918 = .ok (.aload_n 0, 1) := by decide +kernel
theorem dL_law_919 : decode cL_law 919 = .ok (.iload 4, 2) := by decide +kernel
theorem dL_law_921 : decode cL_law 921 = .ok (.iconst 2, 1) := by decide +kernel
theorem dL_law_922 : decode cL_law 922 = .ok (.iadd, 1) := by decide +kernel
theorem dL_law_923 : decode cL_law 923 = .ok (.iaload, 1) := by decide +kernel
theorem dL_law_924 : decode cL_law 924 = .ok (.ifCond .eq 7, 3) := by decide +kernel
theorem dL_law_927 : decode cL_law 927 = .ok (.iconst 1, 1) := by decide +kernel
theorem dL_law_928 : decode cL_law 928 = .ok (.goto 4, 3) := by decide +kernel
theorem dL_law_931 : decode cL_law 931 = .ok (.iconst 0, 1) := by decide +kernel
theorem dL_law_932 : decode cL_law 932 = .ok (.invokevirtual 117, 3) := by decide +kernel
theorem dL_law_935 : decode cL_law 935 = .ok (.aload_n 2, 1) := by decide +kernel
theorem dL_law_936 : decode cL_law 936 = .ok (.aload_n 0, 1) := by decide +kernel
theorem dL_law_937 : decode cL_law 937 = .ok (.iload 4, 2) := by decide +kernel
theorem dL_law_939 : decode cL_law 939 = .ok (.iconst 1, 1) := by decide +kernel
theorem dL_law_940 : decode cL_law 940 = .ok (.iadd, 1) := by decide +kernel
theorem dL_law_941 : decode cL_law 941 = .ok (.iaload, 1) := by decide +kernel
theorem dL_law_942 : decode cL_law 942 = .ok (.aload_n 0, 1) := by decide +kernel
theorem dL_law_943 : decode cL_law 943 = .ok (.iload 4, 2) := by decide +kernel
theorem dL_law_945 : decode cL_law 945 = .ok (.iconst 2, 1) := by decide +kernel
theorem dL_law_946 : decode cL_law 946 = .ok (.iadd, 1) := by decide +kernel
theorem dL_law_947 : decode cL_law 947 = .ok (.iaload, 1) := by decide +kernel
theorem dL_law_948 : decode cL_law 948 = .ok (.ifCond .eq 7, 3) := by decide +kernel
theorem dL_law_951 : decode cL_law 951 = .ok (.iconst 1, 1) := by decide +kernel
theorem dL_law_952 : decode cL_law 952 = .ok (.goto 4, 3) := by decide +kernel
theorem dL_law_955 : decode cL_law 955 = .ok (.iconst 0, 1) := by decide +kernel
theorem dL_law_956 : decode cL_law 956 = .ok (.invokevirtual 121, 3) := by decide +kernel
theorem dL_law_959 : decode cL_law 959 = .ok (.if_icmp .eq 269, 3) := by decide +kernel
theorem dL_law_962 : decode cL_law 962 = .ok (.iconst 0, 1) := by decide +kernel
theorem dL_law_963 : decode cL_law 963 = .ok (.ireturn, 1) := by decide +kernel
theorem dL_law_964 : decode cL_law 964 = .ok (.aload_n 1, 1) := by decide +kernel
theorem dL_law_965 : decode cL_law 965 = .ok (.aload_n 0, 1) := by decide +kernel
theorem dL_law_966 : decode cL_law 966 = .ok (.iload 4, 2) := by decide +kernel
theorem dL_law_968 : decode cL_law 968 = .ok (.iconst 1, 1) := by decide +kernel
theorem dL_law_969 : decode cL_law 969 = .ok (.iadd, 1) := by decide +kernel
theorem dL_law_970 : decode cL_law 970 = .ok (.iaload, 1) := by decide +kernel
theorem dL_law_971 : decode cL_law 971 = .ok (.invokevirtual 122, 3) := by decide +kernel
theorem dL_law_974 : decode cL_law 974 = .ok (.aload_n 2, 1) := by decide +kernel
theorem dL_law_975 : decode cL_law 975 = .ok (.aload_n 0, 1) := by decide +kernel
theorem dL_law_976 : decode cL_law 976 = .ok (.iload 4, 2) := by decide +kernel
theorem dL_law_978 : decode cL_law 978 = .ok (.iconst 1, 1) := by decide +kernel
theorem dL_law_979 : decode cL_law 979 = .ok (.iadd, 1) := by decide +kernel
theorem dL_law_980 : decode cL_law 980 = .ok (.iaload, 1) := by decide +kernel
theorem dL_law_981 : decode cL_law 981 = .ok (.invokevirtual 125, 3) := by decide +kernel
theorem dL_law_984 : decode cL_law 984 = .ok (.if_icmp .eq 244, 3) := by decide +kernel
theorem dL_law_987 : decode cL_law 987 = .ok (.iconst 0, 1) := by decide +kernel
theorem dL_law_988 : decode cL_law 988 = .ok (.ireturn, 1) := by decide +kernel
theorem dL_law_989 : decode cL_law 989 = .ok (.aload_n 1, 1) := by decide +kernel
theorem dL_law_990 : decode cL_law 990 = .ok (.aload_n 0, 1) := by decide +kernel
theorem dL_law_991 : decode cL_law 991 = .ok (.iload 4, 2) := by decide +kernel
theorem dL_law_993 : decode cL_law 993 = .ok (.iconst 1, 1) := by decide +kernel
theorem dL_law_994 : decode cL_law 994 = .ok (.iadd, 1) := by decide +kernel
theorem dL_law_995 : decode cL_law 995 = .ok (.iaload, 1) := by decide +kernel
theorem dL_law_996 : decode cL_law 996 = .ok (.invokevirtual 126, 3) := by decide +kernel
theorem dL_law_999 : decode cL_law 999 = .ok (.aload_n 2, 1) := by decide +kernel
theorem dL_law_1000 : decode cL_law 1000 = .ok (.aload_n 0, 1) := by decide +kernel
theorem dL_law_1001 : decode cL_law 1001 = .ok (.iload 4, 2) := by decide +kernel
theorem dL_law_1003 : decode cL_law 1003 = .ok (.iconst 1, 1) := by decide +kernel
theorem dL_law_1004 : decode cL_law 1004 = .ok (.iadd, 1) := by decide +kernel
theorem dL_law_1005 : decode cL_law 1005 = .ok (.iaload, 1) := by decide +kernel
theorem dL_law_1006 : decode cL_law 1006 = .ok (.invokevirtual 129, 3) := by decide +kernel
theorem dL_law_1009 : decode cL_law 1009 = .ok (.if_icmp .eq 219, 3) := by decide +kernel
theorem dL_law_1012 : decode cL_law 1012 = .ok (.iconst 0, 1) := by decide +kernel
theorem dL_law_1013 : decode cL_law 1013 = .ok (.ireturn, 1) := by decide +kernel
theorem dL_law_1014 : decode cL_law 1014 = .ok (.aload_n 1, 1) := by decide +kernel
theorem dL_law_1015 : decode cL_law 1015 = .ok (.aload_n 0, 1) := by decide +kernel
theorem dL_law_1016 : decode cL_law 1016 = .ok (.iload 4, 2) := by decide +kernel
theorem dL_law_1018 : decode cL_law 1018 = .ok (.iconst 1, 1) := by decide +kernel
theorem dL_law_1019 : decode cL_law 1019 = .ok (.iadd, 1) := by decide +kernel
theorem dL_law_1020 : decode cL_law 1020 = .ok (.iaload, 1) := by decide +kernel
theorem dL_law_1021 : decode cL_law 1021 = .ok (.aload_n 0, 1) := by decide +kernel
theorem dL_law_1022 : decode cL_law 1022 = .ok (.iload 4, 2) := by decide +kernel
theorem dL_law_1024 : decode cL_law 1024 = .ok (.iconst 2, 1) := by decide +kernel
theorem dL_law_1025 : decode cL_law 1025 = .ok (.iadd, 1) := by decide +kernel
theorem dL_law_1026 : decode cL_law 1026 = .ok (.iaload, 1) := by decide +kernel
theorem dL_law_1027 : decode cL_law 1027 = .ok (.aload_n 0, 1) := by decide +kernel
theorem dL_law_1028 : decode cL_law 1028 = .ok (.iload 4, 2) := by decide +kernel
theorem dL_law_1030 : decode cL_law 1030 = .ok (.iconst 3, 1) := by decide +kernel
theorem dL_law_1031 : decode cL_law 1031 = .ok (.iadd, 1) := by decide +kernel
theorem dL_law_1032 : decode cL_law 1032 = .ok (.iaload, 1) := by decide +kernel
theorem dL_law_1033 : decode cL_law 1033 = .ok (.aload_n 0, 1) := by decide +kernel
theorem dL_law_1034 : decode cL_law 1034 = .ok (.iload 4, 2) := by decide +kernel
theorem dL_law_1036 : decode cL_law 1036 = .ok (.iconst 4, 1) := by decide +kernel
theorem dL_law_1037 : decode cL_law 1037 = .ok (.iadd, 1) := by decide +kernel
theorem dL_law_1038 : decode cL_law 1038 = .ok (.iaload, 1) := by decide +kernel
theorem dL_law_1039 : decode cL_law 1039 = .ok (.ifCond .eq 7, 3) := by decide +kernel
theorem dL_law_1042 : decode cL_law 1042 = .ok (.iconst 1, 1) := by decide +kernel
theorem dL_law_1043 : decode cL_law 1043 = .ok (.goto 4, 3) := by decide +kernel
theorem dL_law_1046 : decode cL_law 1046 = .ok (.iconst 0, 1) := by decide +kernel
theorem dL_law_1047 : decode cL_law 1047 = .ok (.invokevirtual 130, 3) := by decide +kernel
theorem dL_law_1050 : decode cL_law 1050 = .ok (.aload_n 2, 1) := by decide +kernel
theorem dL_law_1051 : decode cL_law 1051 = .ok (.aload_n 0, 1) := by decide +kernel
theorem dL_law_1052 : decode cL_law 1052 = .ok (.iload 4, 2) := by decide +kernel
theorem dL_law_1054 : decode cL_law 1054 = .ok (.iconst 1, 1) := by decide +kernel
theorem dL_law_1055 : decode cL_law 1055 = .ok (.iadd, 1) := by decide +kernel
theorem dL_law_1056 : decode cL_law 1056 = .ok (.iaload, 1) := by decide +kernel
theorem dL_law_1057 : decode cL_law 1057 = .ok (.aload_n 0, 1) := by decide +kernel
theorem dL_law_1058 : decode cL_law 1058 = .ok (.iload 4, 2) := by decide +kernel
theorem dL_law_1060 : decode cL_law 1060 = .ok (.iconst 2, 1) := by decide +kernel
theorem dL_law_1061 : decode cL_law 1061 = .ok (.iadd, 1) := by decide +kernel
theorem dL_law_1062 : decode cL_law 1062 = .ok (.iaload, 1) := by decide +kernel
theorem dL_law_1063 : decode cL_law 1063 = .ok (.aload_n 0, 1) := by decide +kernel
theorem dL_law_1064 : decode cL_law 1064 = .ok (.iload 4, 2) := by decide +kernel
theorem dL_law_1066 : decode cL_law 1066 = .ok (.iconst 3, 1) := by decide +kernel
theorem dL_law_1067 : decode cL_law 1067 = .ok (.iadd, 1) := by decide +kernel
theorem dL_law_1068 : decode cL_law 1068 = .ok (.iaload, 1) := by decide +kernel
theorem dL_law_1069 : decode cL_law 1069 = .ok (.aload_n 0, 1) := by decide +kernel
theorem dL_law_1070 : decode cL_law 1070 = .ok (.iload 4, 2) := by decide +kernel
theorem dL_law_1072 : decode cL_law 1072 = .ok (.iconst 4, 1) := by decide +kernel
theorem dL_law_1073 : decode cL_law 1073 = .ok (.iadd, 1) := by decide +kernel
theorem dL_law_1074 : decode cL_law 1074 = .ok (.iaload, 1) := by decide +kernel
theorem dL_law_1075 : decode cL_law 1075 = .ok (.ifCond .eq 7, 3) := by decide +kernel
theorem dL_law_1078 : decode cL_law 1078 = .ok (.iconst 1, 1) := by decide +kernel
theorem dL_law_1079 : decode cL_law 1079 = .ok (.goto 4, 3) := by decide +kernel
theorem dL_law_1082 : decode cL_law 1082 = .ok (.iconst 0, 1) := by decide +kernel
theorem dL_law_1083 : decode cL_law 1083 = .ok (.invokevirtual 134, 3) := by decide +kernel
theorem dL_law_1086 : decode cL_law 1086 = .ok (.if_icmp .eq 142, 3) := by decide +kernel
theorem dL_law_1089 : decode cL_law 1089 = .ok (.iconst 0, 1) := by decide +kernel
theorem dL_law_1090 : decode cL_law 1090 = .ok (.ireturn, 1) := by decide +kernel
theorem dL_law_1091 : decode cL_law 1091 = .ok (.aload_n 1, 1) := by decide +kernel
theorem dL_law_1092 : decode cL_law 1092 = .ok (.aload_n 0, 1) := by decide +kernel
theorem dL_law_1093 : decode cL_law 1093 = .ok (.iload 4, 2) := by decide +kernel
theorem dL_law_1095 : decode cL_law 1095 = .ok (.iconst 1, 1) := by decide +kernel
theorem dL_law_1096 : decode cL_law 1096 = .ok (.iadd, 1) := by decide +kernel
theorem dL_law_1097 : decode cL_law 1097 = .ok (.iaload, 1) := by decide +kernel
theorem dL_law_1098 : decode cL_law 1098 = .ok (.invokevirtual 135, 3) := by decide +kernel
theorem dL_law_1101 : decode cL_law 1101 = .ok (.aload_n 2, 1) := by decide +kernel
theorem dL_law_1102 : decode cL_law 1102 = .ok (.aload_n 0, 1) := by decide +kernel
theorem dL_law_1103 : decode cL_law 1103 = .ok (.iload 4, 2) := by decide +kernel
theorem dL_law_1105 : decode cL_law 1105 = .ok (.iconst 1, 1) := by decide +kernel
theorem dL_law_1106 : decode cL_law 1106 = .ok (.iadd, 1) := by decide +kernel
theorem dL_law_1107 : decode cL_law 1107 = .ok (.iaload, 1) := by decide +kernel
theorem dL_law_1108 : decode cL_law 1108 = .ok (.invokevirtual 138, 3) := by decide +kernel
theorem dL_law_1111 : decode cL_law 1111 = .ok (.if_icmp .eq 117, 3) := by decide +kernel
theorem dL_law_1114 : decode cL_law 1114 = .ok (.iconst 0, 1) := by decide +kernel
theorem dL_law_1115 : decode cL_law 1115 = .ok (.ireturn, 1) := by decide +kernel
theorem dL_law_1116 : decode cL_law 1116 = .ok (.aload_n 1, 1) := by decide +kernel
theorem dL_law_1117 : decode cL_law 1117 = .ok (.aload_n 0, 1) := by decide +kernel
theorem dL_law_1118 : decode cL_law 1118 = .ok (.iload 4, 2) := by decide +kernel
theorem dL_law_1120 : decode cL_law 1120 = .ok (.iconst 1, 1) := by decide +kernel
theorem dL_law_1121 : decode cL_law 1121 = .ok (.iadd, 1) := by decide +kernel
theorem dL_law_1122 : decode cL_law 1122 = .ok (.iaload, 1) := by decide +kernel
theorem dL_law_1123 : decode cL_law 1123 = .ok (.aload_n 0, 1) := by decide +kernel
theorem dL_law_1124 : decode cL_law 1124 = .ok (.iload 4, 2) := by decide +kernel
theorem dL_law_1126 : decode cL_law 1126 = .ok (.iconst 2, 1) := by decide +kernel
theorem dL_law_1127 : decode cL_law 1127 = .ok (.iadd, 1) := by decide +kernel
theorem dL_law_1128 : decode cL_law 1128 = .ok (.iaload, 1) := by decide +kernel
theorem dL_law_1129 : decode cL_law 1129 = .ok (.aload_n 0, 1) := by decide +kernel
theorem dL_law_1130 : decode cL_law 1130 = .ok (.iload 4, 2) := by decide +kernel
theorem dL_law_1132 : decode cL_law 1132 = .ok (.iconst 3, 1) := by decide +kernel
theorem dL_law_1133 : decode cL_law 1133 = .ok (.iadd, 1) := by decide +kernel
theorem dL_law_1134 : decode cL_law 1134 = .ok (.iaload, 1) := by decide +kernel
theorem dL_law_1135 : decode cL_law 1135 = .ok (.invokevirtual 139, 3) := by decide +kernel
theorem dL_law_1138 : decode cL_law 1138 = .ok (.aload_n 2, 1) := by decide +kernel
theorem dL_law_1139 : decode cL_law 1139 = .ok (.aload_n 0, 1) := by decide +kernel
theorem dL_law_1140 : decode cL_law 1140 = .ok (.iload 4, 2) := by decide +kernel
theorem dL_law_1142 : decode cL_law 1142 = .ok (.iconst 1, 1) := by decide +kernel
theorem dL_law_1143 : decode cL_law 1143 = .ok (.iadd, 1) := by decide +kernel
theorem dL_law_1144 : decode cL_law 1144 = .ok (.iaload, 1) := by decide +kernel
theorem dL_law_1145 : decode cL_law 1145 = .ok (.aload_n 0, 1) := by decide +kernel
theorem dL_law_1146 : decode cL_law 1146 = .ok (.iload 4, 2) := by decide +kernel
theorem dL_law_1148 : decode cL_law 1148 = .ok (.iconst 2, 1) := by decide +kernel
theorem dL_law_1149 : decode cL_law 1149 = .ok (.iadd, 1) := by decide +kernel
theorem dL_law_1150 : decode cL_law 1150 = .ok (.iaload, 1) := by decide +kernel
theorem dL_law_1151 : decode cL_law 1151 = .ok (.aload_n 0, 1) := by decide +kernel
theorem dL_law_1152 : decode cL_law 1152 = .ok (.iload 4, 2) := by decide +kernel
theorem dL_law_1154 : decode cL_law 1154 = .ok (.iconst 3, 1) := by decide +kernel
theorem dL_law_1155 : decode cL_law 1155 = .ok (.iadd, 1) := by decide +kernel
theorem dL_law_1156 : decode cL_law 1156 = .ok (.iaload, 1) := by decide +kernel
theorem dL_law_1157 : decode cL_law 1157 = .ok (.invokevirtual 142, 3) := by decide +kernel
theorem dL_law_1160 : decode cL_law 1160 = .ok (.if_icmp .eq 68, 3) := by decide +kernel
theorem dL_law_1163 : decode cL_law 1163 = .ok (.iconst 0, 1) := by decide +kernel
theorem dL_law_1164 : decode cL_law 1164 = .ok (.ireturn, 1) := by decide +kernel
theorem dL_law_1165 : decode cL_law 1165 = .ok (.aload_n 1, 1) := by decide +kernel
theorem dL_law_1166 : decode cL_law 1166 = .ok (.invokevirtual 143, 3) := by decide +kernel
theorem dL_law_1169 : decode cL_law 1169 = .ok (.aload_n 2, 1) := by decide +kernel
theorem dL_law_1170 : decode cL_law 1170 = .ok (.invokevirtual 146, 3) := by decide +kernel
theorem dL_law_1173 : decode cL_law 1173 = .ok (.if_icmp .eq 55, 3) := by decide +kernel
theorem dL_law_1176 : decode cL_law 1176 = .ok (.iconst 0, 1) := by decide +kernel
theorem dL_law_1177 : decode cL_law 1177 = .ok (.ireturn, 1) := by decide +kernel
theorem dL_law_1178 : decode cL_law 1178 = .ok (.aload_n 1, 1) := by decide +kernel
theorem dL_law_1179 : decode cL_law 1179 = .ok (.aload_n 0, 1) := by decide +kernel
theorem dL_law_1180 : decode cL_law 1180 = .ok (.iload 4, 2) := by decide +kernel
theorem dL_law_1182 : decode cL_law 1182 = .ok (.iconst 1, 1) := by decide +kernel
theorem dL_law_1183 : decode cL_law 1183 = .ok (.iadd, 1) := by decide +kernel
theorem dL_law_1184 : decode cL_law 1184 = .ok (.iaload, 1) := by decide +kernel
theorem dL_law_1185 : decode cL_law 1185 = .ok (.invokevirtual 147, 3) := by decide +kernel
theorem dL_law_1188 : decode cL_law 1188 = .ok (.aload_n 2, 1) := by decide +kernel
theorem dL_law_1189 : decode cL_law 1189 = .ok (.aload_n 0, 1) := by decide +kernel
theorem dL_law_1190 : decode cL_law 1190 = .ok (.iload 4, 2) := by decide +kernel
theorem dL_law_1192 : decode cL_law 1192 = .ok (.iconst 1, 1) := by decide +kernel
theorem dL_law_1193 : decode cL_law 1193 = .ok (.iadd, 1) := by decide +kernel
theorem dL_law_1194 : decode cL_law 1194 = .ok (.iaload, 1) := by decide +kernel
theorem dL_law_1195 : decode cL_law 1195 = .ok (.invokevirtual 150, 3) := by decide +kernel
theorem dL_law_1198 : decode cL_law 1198 = .ok (.if_icmp .eq 30, 3) := by decide +kernel
theorem dL_law_1201 : decode cL_law 1201 = .ok (.iconst 0, 1) := by decide +kernel
theorem dL_law_1202 : decode cL_law 1202 = .ok (.ireturn, 1) := by decide +kernel
theorem dL_law_1203 : decode cL_law 1203 = .ok (.aload_n 1, 1) := by decide +kernel
theorem dL_law_1204 : decode cL_law 1204 = .ok (.aload_n 0, 1) := by decide +kernel
theorem dL_law_1205 : decode cL_law 1205 = .ok (.iload 4, 2) := by decide +kernel
theorem dL_law_1207 : decode cL_law 1207 = .ok (.iconst 1, 1) := by decide +kernel
theorem dL_law_1208 : decode cL_law 1208 = .ok (.iadd, 1) := by decide +kernel
theorem dL_law_1209 : decode cL_law 1209 = .ok (.iaload, 1) := by decide +kernel
theorem dL_law_1210 : decode cL_law 1210 = .ok (.invokevirtual 151, 3) := by decide +kernel
theorem dL_law_1213 : decode cL_law 1213 = .ok (.aload_n 2, 1) := by decide +kernel
theorem dL_law_1214 : decode cL_law 1214 = .ok (.aload_n 0, 1) := by decide +kernel
theorem dL_law_1215 : decode cL_law 1215 = .ok (.iload 4, 2) := by decide +kernel
theorem dL_law_1217 : decode cL_law 1217 = .ok (.iconst 1, 1) := by decide +kernel
theorem dL_law_1218 : decode cL_law 1218 = .ok (.iadd, 1) := by decide +kernel
theorem dL_law_1219 : decode cL_law 1219 = .ok (.iaload, 1) := by decide +kernel
theorem dL_law_1220 : decode cL_law 1220 = .ok (.invokevirtual 154, 3) := by decide +kernel
theorem dL_law_1223 : decode cL_law 1223 = .ok (.if_icmp .eq 5, 3) := by decide +kernel
theorem dL_law_1226 : decode cL_law 1226 = .ok (.iconst 0, 1) := by decide +kernel
theorem dL_law_1227 : decode cL_law 1227 = .ok (.ireturn, 1) := by decide +kernel
theorem dL_law_1228 : decode cL_law 1228 = .ok (.iinc 4 5, 3) := by decide +kernel
theorem dL_law_1231 : decode cL_law 1231 = .ok (.goto (-1208), 3) := by decide +kernel
theorem dL_law_1234 : decode cL_law 1234 = .ok (.iconst 1, 1) := by decide +kernel
theorem dL_law_1235 : decode cL_law 1235 = .ok (.ireturn, 1) := by decide +kernel

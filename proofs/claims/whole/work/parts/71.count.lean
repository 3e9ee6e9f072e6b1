/-! numbers asked for: span, motif, glides -/
theorem Sy_00 {w h : Nat} {hex : Bool} {o t : Int64} : ds_Sy w h hex o t 0 0 0 := Sy_0.mpr St_zero
theorem ns_pos {w h : Nat} (hk : ds_ok w h) {hex : Bool} {o t : Int64} : 0 < ds_ns w h hex o t 0 := (ns_hs hk).mpr hs_0
theorem g_span {w h : Nat} (hk : ds_ok w h) {hex : Bool} {o t : Int64} {fd : Nat → Int64} (hv : ∀ tn, tn < 12 → ds_GV w h hex o t fd tn) : fX0_span fd = some (nI (ds_ns w h hex o t 0)) := by
  obtain ⟨n1, n2, n3, n4⟩ := nt_le hex
  unfold fX0_span
  rw [show (0 : Int32) = nI 0 from rfl, p_sf (by omega), Option.bind_some, g_ns hk (hv 0 (by omega)) (by omega), Option.bind_some]
theorem g_motif {w h : Nat} (hk : ds_ok w h) {hex : Bool} {o t : Int64} {fd : Nat → Int64} (hv : ∀ tn, tn < 12 → ds_GV w h hex o t fd tn) : fX0_motif fd (nI w) (nI h) = some (nI (w * h) / nI (ds_ns w h hex o t 0)) := by
  have p := ns_pos hk (hex := hex) (o := o) (t := t)
  have l := ns_le (w := w) (h := h) (hex := hex) (o := o) (t := t) (tn := 0)
  unfold fX0_motif
  rw [g_span hk hv, Option.bind_some, if_neg (fun z => by have := (n_le0 (by omega)).mp z; omega), p_cells, Option.bind_some, if_neg (fun z => by have := (n_eq0 (by omega)).mp z; omega)]
theorem m_span {w h : Nat} (hk : ds_ok w h) {hex : Bool} {o t : Int64} {al sh : Nat → Int32} (hm : ds_MT w h hex o t al) (h01 : ds_01 sh) (hv : ∀ tn, tn < ds_nt hex → ds_SV w h hex o t sh tn) : fX8_shiftsOf al sh 0 = some (nI (ds_ns w h hex o t 0)) := by
  obtain ⟨n1, n2, n3, n4⟩ := nt_le hex
  exact m_ns hk hm h01 (tn := 0) (by omega) (hv 0 (by omega))
theorem m_area {w h : Nat} {hex : Bool} {o t : Int64} {al : Nat → Int32} (hm : ds_MT w h hex o t al) : al 0 * al 1 = nI (w * h) := by
  rw [hm.1, hm.2.1, z_nI, z_nI, z_mul, z_nI, Int.natCast_mul]
theorem ct_both (f g : Nat → Bool) : ∀ n, ds_ct f n = ds_ct (fun i => f i && g i) n + ds_ct (fun i => f i && !g i) n
  | 0 => rfl
  | n + 1 => by
    show ds_ct f n + _ = (ds_ct (fun i => f i && g i) n + _) + (ds_ct (fun i => f i && !g i) n + _)
    rw [ct_both f g n]
    dsimp only
    have a : (if f n = true then 1 else 0) = (if (f n && g n) = true then 1 else 0) + (if (f n && !g n) = true then 1 else 0) := by
      cases f n <;> cases g n <;> rfl
    omega
theorem fc_both {w h : Nat} {hex : Bool} {o t : Int64} (g : Nat → Bool) : ds_fc w h hex o t (fun _ => true) = ds_fc w h hex o t g + ds_fc w h hex o t (fun k => !g k) := by
  unfold ds_fc
  rw [← ct_both]
  exact ct_cong (fun k _ => by rw [Bool.and_true])
theorem glides {w h : Nat} {hex : Bool} {o t : Int64} : nI (ds_fc w h hex o t (fun _ => true)) - nI (ds_fc w h hex o t (ds_mi w h hex o t)) = nI (ds_fc w h hex o t (ds_wh w h hex o t 2)) := by
  have e := fc_both (w := w) (h := h) (hex := hex) (o := o) (t := t) (ds_mi w h hex o t)
  rw [show ds_wh w h hex o t 2 = fun k => !ds_mi w h hex o t k from rfl, e, z_nI, z_nI, z_nI, z_sub]
  congr 1
  omega

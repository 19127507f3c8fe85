theorem p_Bytes_add {n : Nat} {x1 : Int32} {t0 : St} {z : St} (h : m_Bytes_add n x1 t0 = some z) : ph t0 ≤ ph z := by
  have G40 : ∀ (x1 : Int32) (t : St), m_Bytes_add_40 n  x1 t = some z → ph t ≤ ph z := by
    intro x1 t h
    unfold m_Bytes_add_40 at h
    obtain ⟨b50, h⟩ := j_ifn h
    exact Nat.le_trans (Nat.le_refl _) (Nat.le_of_eq (Eq.trans (show ph t = ph (sG (sH t 0 ((t.1 0)).toNatClampNeg (vp_nar .byte (x1).toInt8.toInt32)) 0 ((t.1 0) + (1 : Int32))) from rfl) (congrArg ph (show (sG (sH t 0 ((t.1 0)).toNatClampNeg (vp_nar .byte (x1).toInt8.toInt32)) 0 ((t.1 0) + (1 : Int32))) = z from (j_s h)))))
  unfold m_Bytes_add at h
  by_cases c7 : (t0.1 0) < (16384 : Int32)
  · rw [if_pos c7] at h
    by_cases c20 : (t0.1 0) < (Int32.ofNat (t0.2.2.2 0))
    · rw [if_pos c20] at h
      exact Nat.le_trans (Nat.le_refl _) (G40  x1 t0 h)
    · rw [if_neg c20] at h
      obtain ⟨b34, h⟩ := j_ifn h
      exact Nat.le_trans (Nat.le_trans (Nat.le_refl _) (ph_gr0 b34)) (G40  x1 (sA t0 0 (((2 : Int32) * (t0.1 0))).toNatClampNeg (va_cpy (t0.2.1 0) (fun _ => 0) 0 0 (t0.2.2.2 0))) h)
  · rw [if_neg c7] at h
    exact Nat.le_trans (Nat.le_refl _) (Nat.le_of_eq (Eq.trans (show ph t0 = ph t0 from rfl) (congrArg ph (show t0 = z from (j_s h)))))
set_option maxHeartbeats 4000000 in
set_option maxRecDepth 100000 in
theorem ct_Bytes_add (l : Launch) (dC : Nat → ClassId) (dI : Nat → Nat → Nat) (cI cB cJ cZ : ClassId) (a : Nat → Nat) (n : Nat) (x1 : Int32) (t0 : St) {z : St} (h : m_Bytes_add n x1 t0 = some z) : jMv l y_Bytes_add w_Bytes_add ({ frames := 2, cells := ph z - ph t0, slots := 2 * (ph z - ph t0), locals := 82 }) (dC, dI) vwCl (tyA cI cB cJ cZ) [.ref (a 1), .int x1] (wO cI cB cJ cZ a t0) (fun u : Nat × Nat × Nat => wO cI cB cJ cZ (aU a u) z) := by
  refine jMv.of (cc := c_Bytes_add) (maxL := 2) (ret := none) (by decide) rfl (Nat.le_of_ble_eq_true rfl) ?_
  intro p e s m args below meth c A X hr hlk hnm
  have G40 : ∀ (x1 : Int32) (t : St), m_Bytes_add_40 n  x1 t = some z → ph t ≤ ph z := by
    intro x1 t h
    unfold m_Bytes_add_40 at h
    obtain ⟨b50, h⟩ := j_ifn h
    exact Nat.le_trans (Nat.le_refl _) (Nat.le_of_eq (Eq.trans (show ph t = ph (sG (sH t 0 ((t.1 0)).toNatClampNeg (vp_nar .byte (x1).toInt8.toInt32)) 0 ((t.1 0) + (1 : Int32))) from rfl) (congrArg ph (show (sG (sH t 0 ((t.1 0)).toNatClampNeg (vp_nar .byte (x1).toInt8.toInt32)) 0 ((t.1 0) + (1 : Int32))) = z from (j_s h)))))
  have L40 : ∀ (u : Nat × Nat × Nat) (x1 : Int32) (t : St), ph t0 ≤ ph t → m_Bytes_add_40 n  x1 t = some z → J p l e { frames := 2, cells := ph z - ph t0, slots := 2 * (ph z - ph t0), locals := 82 } s m args below meth c 2 (dC, dI) vwCl A (MQ below (jQv (dC, dI) vwCl (tyA cI cB cJ cZ) (fun u : Nat × Nat × Nat => wO cI cB cJ cZ (aU a u) z) A) args s (ph z - ph t0) (2 * (ph z - ph t0)) A) (ph t - ph t0) (2 * (ph t - ph t0)) 40 [(0, .ref (a 1)), (1, .int x1)] [] (wO cI cB cJ cZ (aU a u) t) := by
    intro u x1 t hg h
    unfold m_Bytes_add_40 at h
    refine J_aload_n X d_Bytes_add_40 0 rfl rfl ?_
    refine J_get (v := .ref ((aU a u) 2)) X (fun w h => mm (in_Bytes w h)) 1 rfl rfl 0 (by decide) (mm k_fl_Bytes_9) rfl rfl d_Bytes_add_41 ?_
    refine J_aload_n X d_Bytes_add_44 0 rfl rfl ?_
    refine J_get (v := .int (t.1 0)) X (fun w h => mm (in_Bytes w h)) 1 rfl rfl 1 (by decide) (mm k_fl_Bytes_15) rfl rfl d_Bytes_add_45 ?_
    refine J_iload_n X d_Bytes_add_48 1 rfl rfl ?_
    refine J_i2b X d_Bytes_add_49 ?_
    obtain ⟨b50, h⟩ := j_ifn h
    refine J_bast (f := (t.2.1 0)) X 2 1 rfl rfl b50 d_Bytes_add_50 (wO cI cB cJ cZ (aU a u) (sH t 0 ((t.1 0)).toNatClampNeg (vp_nar .byte (x1).toInt8.toInt32))) rfl ?_
    refine J_aload_n X d_Bytes_add_51 0 rfl rfl ?_
    refine J_dup X d_Bytes_add_52 rfl ?_
    refine J_get (v := .int (t.1 0)) X (fun w h => mm (in_Bytes w h)) 1 rfl rfl 1 (by decide) (mm k_fl_Bytes_15) rfl rfl d_Bytes_add_53 ?_
    refine J_iconst (v := (1 : Int32)) X d_Bytes_add_56 (by decide) ?_
    refine J_iadd X d_Bytes_add_57 ?_
    refine J_put (ty := .int) (v := .int ((t.1 0) + (1 : Int32))) X (fun w h => mm (in_Bytes w h)) ty_Bytes tyk_Bytes nm_Bytes 1 rfl rfl 1 (by decide) (mm k_fl_Bytes_15) rfl rfl (by decide +kernel) rfl rfl (Nat.le_of_ble_eq_true rfl) d_Bytes_add_58 (wO cI cB cJ cZ (aU a u) (sG (sH t 0 ((t.1 0)).toNatClampNeg (vp_nar .byte (x1).toInt8.toInt32)) 0 ((t.1 0) + (1 : Int32)))) rfl ?_
    exact J_vret X hr hlk u (by have e : ph t = ph z := (Eq.trans (show ph t = ph (sG (sH t 0 ((t.1 0)).toNatClampNeg (vp_nar .byte (x1).toInt8.toInt32)) 0 ((t.1 0) + (1 : Int32))) from rfl) (congrArg ph (show (sG (sH t 0 ((t.1 0)).toNatClampNeg (vp_nar .byte (x1).toInt8.toInt32)) 0 ((t.1 0) + (1 : Int32))) = z from (j_s h)))); show ph t - ph t0 ≤ ph z - ph t0; omega) (by have e : ph t = ph z := (Eq.trans (show ph t = ph (sG (sH t 0 ((t.1 0)).toNatClampNeg (vp_nar .byte (x1).toInt8.toInt32)) 0 ((t.1 0) + (1 : Int32))) from rfl) (congrArg ph (show (sG (sH t 0 ((t.1 0)).toNatClampNeg (vp_nar .byte (x1).toInt8.toInt32)) 0 ((t.1 0) + (1 : Int32))) = z from (j_s h)))); show 2 * (ph t - ph t0) ≤ 2 * (ph z - ph t0); omega) (congrArg (fun q => wO cI cB cJ cZ (aU a u) q) (j_s h)) d_Bytes_add_61
  refine J_lv [0, 1] [(0, .ref (a 1)), (1, .int x1)] rfl ?_
  refine J_to _ _ (wO cI cB cJ cZ (aU a (a 2, a 5, a 7)) t0) rfl rfl rfl ?_
  refine J_widen (ph t0 - ph t0) (2 * (ph t0 - ph t0)) (Nat.zero_le _) (Nat.zero_le _) ?_
  unfold m_Bytes_add at h
  refine J_aload_n X d_Bytes_add_0 0 rfl rfl ?_
  refine J_get (v := .int (t0.1 0)) X (fun w h => mm (in_Bytes w h)) 1 rfl rfl 1 (by decide) (mm k_fl_Bytes_15) rfl rfl d_Bytes_add_1 ?_
  refine J_sipush (v := (16384 : Int32)) X d_Bytes_add_4 (by decide) ?_
  refine J_icmp_lt X 11 d_Bytes_add_7 (by decide) (fun c7 => ?_) (fun c7 => ?_)
  · rw [if_pos c7] at h
    refine J_aload_n X d_Bytes_add_11 0 rfl rfl ?_
    refine J_get (v := .int (t0.1 0)) X (fun w h => mm (in_Bytes w h)) 1 rfl rfl 1 (by decide) (mm k_fl_Bytes_15) rfl rfl d_Bytes_add_12 ?_
    refine J_aload_n X d_Bytes_add_15 0 rfl rfl ?_
    refine J_get (v := .ref ((aU a (a 2, a 5, a 7)) 2)) X (fun w h => mm (in_Bytes w h)) 1 rfl rfl 0 (by decide) (mm k_fl_Bytes_9) rfl rfl d_Bytes_add_16 ?_
    refine J_alen X 2 1 rfl rfl (v := (Int32.ofNat (t0.2.2.2 0))) rfl d_Bytes_add_19 ?_
    refine J_icmp_lt X 40 d_Bytes_add_20 (by decide) (fun c20 => ?_) (fun c20 => ?_)
    · rw [if_pos c20] at h
      refine J_lv [0, 1] [(0, .ref (a 1)), (1, .int x1)] rfl ?_
      exact L40  (a 2, a 5, a 7) x1 t0 (Nat.le_refl (ph t0)) h
    · rw [if_neg c20] at h
      refine J_aload_n X d_Bytes_add_23 0 rfl rfl ?_
      refine J_aload_n X d_Bytes_add_24 0 rfl rfl ?_
      refine J_get (v := .ref ((aU a (a 2, a 5, a 7)) 2)) X (fun w h => mm (in_Bytes w h)) 1 rfl rfl 0 (by decide) (mm k_fl_Bytes_9) rfl rfl d_Bytes_add_25 ?_
      refine J_iconst (v := (2 : Int32)) X d_Bytes_add_28 (by decide) ?_
      refine J_aload_n X d_Bytes_add_29 0 rfl rfl ?_
      refine J_get (v := .int (t0.1 0)) X (fun w h => mm (in_Bytes w h)) 1 rfl rfl 1 (by decide) (mm k_fl_Bytes_15) rfl rfl d_Bytes_add_30 ?_
      refine J_imul X d_Bytes_add_33 ?_
      obtain ⟨b34, h⟩ := j_ifn h
      have g34 : ph t0 ≤ ph t0 := (Nat.le_refl (ph t0))
      have p34 : ph (sA t0 0 (((2 : Int32) * (t0.1 0))).toNatClampNeg (va_cpy (t0.2.1 0) (fun _ => 0) 0 0 (t0.2.2.2 0))) + (t0.2.2.2 0) = ph t0 + (((2 : Int32) * (t0.1 0))).toNatClampNeg := ph_sA0 _ _ _
      have e34 : ph (sA t0 0 (((2 : Int32) * (t0.1 0))).toNatClampNeg (va_cpy (t0.2.1 0) (fun _ => 0) 0 0 (t0.2.2.2 0))) ≤ ph z := by
        exact Nat.le_trans (Nat.le_refl _) (G40  x1 (sA t0 0 (((2 : Int32) * (t0.1 0))).toNatClampNeg (va_cpy (t0.2.1 0) (fun _ => 0) 0 0 (t0.2.2.2 0))) h)
      have r34 := gr_le b34
      have F34 := Classical.not_not.mp b34
      refine J_callSr (n := 2) (S := Unit) (wc := [((aU a (a 2, a 5, a 7)) 2, .inl (cB, (t0.2.2.2 0), .inl (t0.2.1 0)))]) (w1 := fun _ ra => [((aU a (a 2, a 5, a 7)) 2, .inl (cB, (t0.2.2.2 0), .inl (t0.2.1 0))), (ra, .inl (cB, (((2 : Int32) * (t0.1 0))).toNatClampNeg, .inl (va_cpy (t0.2.1 0) (fun _ => 0) 0 0 (t0.2.2.2 0))))]) X [2] [0, 1, 3, 4, 5, 6, 7, 8, 9, 10, 11, 12, 13, 14, 15] rfl rfl rfl (wr := (isO.eraseIdx 2).filterMap (fun i => (wO cI cB cJ cZ (aU a (a 2, a 5, a 7)) t0)[i]?)) rfl rfl (by decide) [.ref ((aU a (a 2, a 5, a 7)) 2), .int ((2 : Int32) * (t0.1 0))] [.ref (a 1)] (ct_Arrays_copyOfB l dC dI cI cB cJ cZ ((aU a (a 2, a 5, a 7)) 2) (t0.2.2.2 0) (t0.2.1 0) ((2 : Int32) * (t0.1 0)) F34) (aw_S (fun w h => mm h) k_ml_Bytes_19 k_st_Arrays_copyOfB k_in_Arrays k_cd_Arrays_copyOfB) rfl (by decide +kernel) ⟨(Nat.le_of_ble_eq_true rfl), (Nat.le_of_ble_eq_true rfl)⟩ rfl rfl (Nat.le_of_ble_eq_true rfl) d_Bytes_add_34 ⟨(by show ph t0 - ph t0 + 1 ≤ ph z - ph t0; omega), (by show 2 * (ph t0 - ph t0) + (((2 : Int32) * (t0.1 0))).toNatClampNeg ≤ 2 * (ph z - ph t0); omega)⟩ (fun _ ra34 => ?_)
      refine J_put (ty := .array .byte) (v := .ref ra34) X (fun w h => mm (in_Bytes w h)) ty_Bytes tyk_Bytes nm_Bytes 1 rfl rfl 0 (by decide) (mm k_fl_Bytes_9) rfl rfl (by decide +kernel) rfl rfl (Nat.le_of_ble_eq_true rfl) d_Bytes_add_37 _ rfl ?_
      refine J_sub [0, 1, 16, 2, 3, 4, 5, 6, 7, 8, 9, 10, 11, 12, 13, 14] (wO cI cB cJ cZ (aU a (ra34, (a 2, a 5, a 7).2.1, (a 2, a 5, a 7).2.2)) (sA t0 0 (((2 : Int32) * (t0.1 0))).toNatClampNeg (va_cpy (t0.2.1 0) (fun _ => 0) 0 0 (t0.2.2.2 0)))) rfl rfl rfl ?_
      refine J_widen (ph (sA t0 0 (((2 : Int32) * (t0.1 0))).toNatClampNeg (va_cpy (t0.2.1 0) (fun _ => 0) 0 0 (t0.2.2.2 0))) - ph t0) (2 * (ph (sA t0 0 (((2 : Int32) * (t0.1 0))).toNatClampNeg (va_cpy (t0.2.1 0) (fun _ => 0) 0 0 (t0.2.2.2 0))) - ph t0)) (by show ph t0 - ph t0 + 1 ≤ _; omega) (by show 2 * (ph t0 - ph t0) + (((2 : Int32) * (t0.1 0))).toNatClampNeg ≤ _; omega) ?_
      have gg34 : ph t0 ≤ ph (sA t0 0 (((2 : Int32) * (t0.1 0))).toNatClampNeg (va_cpy (t0.2.1 0) (fun _ => 0) 0 0 (t0.2.2.2 0))) := by omega
      refine J_lv [0, 1] [(0, .ref (a 1)), (1, .int x1)] rfl ?_
      exact L40  (ra34, (a 2, a 5, a 7).2.1, (a 2, a 5, a 7).2.2) x1 (sA t0 0 (((2 : Int32) * (t0.1 0))).toNatClampNeg (va_cpy (t0.2.1 0) (fun _ => 0) 0 0 (t0.2.2.2 0))) gg34 h
  · rw [if_neg c7] at h
    exact J_vret X hr hlk (a 2, a 5, a 7) (by have e : ph t0 = ph z := (Eq.trans (show ph t0 = ph t0 from rfl) (congrArg ph (show t0 = z from (j_s h)))); show ph t0 - ph t0 ≤ ph z - ph t0; omega) (by have e : ph t0 = ph z := (Eq.trans (show ph t0 = ph t0 from rfl) (congrArg ph (show t0 = z from (j_s h)))); show 2 * (ph t0 - ph t0) ≤ 2 * (ph z - ph t0); omega) (congrArg (fun q => wO cI cB cJ cZ (aU a (a 2, a 5, a 7)) q) (j_s h)) d_Bytes_add_10
theorem p_Numbers_add_4 {n : Nat} {x1 : Int32} {t0 : St} {z : St} (h : m_Numbers_add_4 n x1 t0 = some z) : ph t0 ≤ ph z := by
  have G29 : ∀ (x1 : Int32) (t : St), m_Numbers_add_4_29 n  x1 t = some z → ph t ≤ ph z := by
    intro x1 t h
    unfold m_Numbers_add_4_29 at h
    obtain ⟨b38, h⟩ := j_ifn h
    exact Nat.le_trans (Nat.le_refl _) (Nat.le_of_eq (Eq.trans (show ph t = ph (sG (sH t 1 ((t.1 7)).toNatClampNeg x1) 7 ((t.1 7) + (1 : Int32))) from rfl) (congrArg ph (show (sG (sH t 1 ((t.1 7)).toNatClampNeg x1) 7 ((t.1 7) + (1 : Int32))) = z from (j_s h)))))
  unfold m_Numbers_add_4 at h
  by_cases c9 : (t0.1 7) < (Int32.ofNat (t0.2.2.2 1))
  · rw [if_pos c9] at h
    exact Nat.le_trans (Nat.le_refl _) (G29  x1 t0 h)
  · rw [if_neg c9] at h
    obtain ⟨b23, h⟩ := j_ifn h
    exact Nat.le_trans (Nat.le_trans (Nat.le_refl _) (ph_gr1 b23)) (G29  x1 (sA t0 1 (((2 : Int32) * (t0.1 7))).toNatClampNeg (va_cpy (t0.2.1 1) (fun _ => 0) 0 0 (t0.2.2.2 1))) h)
set_option maxHeartbeats 4000000 in
set_option maxRecDepth 100000 in
theorem ct_Numbers_add_4 (l : Launch) (dC : Nat → ClassId) (dI : Nat → Nat → Nat) (cI cB cJ cZ : ClassId) (a : Nat → Nat) (n : Nat) (x1 : Int32) (t0 : St) {z : St} (h : m_Numbers_add_4 n x1 t0 = some z) : jMv l y_Numbers_add w_Numbers_add ({ frames := 2, cells := ph z - ph t0, slots := 2 * (ph z - ph t0), locals := 82 }) (dC, dI) vwCl (tyA cI cB cJ cZ) [.ref (a 4), .int x1] (wO cI cB cJ cZ a t0) (fun u : Nat × Nat × Nat => wO cI cB cJ cZ (aU a u) z) := by
  refine jMv.of (cc := c_Numbers_add) (maxL := 2) (ret := none) (by decide) rfl (Nat.le_of_ble_eq_true rfl) ?_
  intro p e s m args below meth c A X hr hlk hnm
  have G29 : ∀ (x1 : Int32) (t : St), m_Numbers_add_4_29 n  x1 t = some z → ph t ≤ ph z := by
    intro x1 t h
    unfold m_Numbers_add_4_29 at h
    obtain ⟨b38, h⟩ := j_ifn h
    exact Nat.le_trans (Nat.le_refl _) (Nat.le_of_eq (Eq.trans (show ph t = ph (sG (sH t 1 ((t.1 7)).toNatClampNeg x1) 7 ((t.1 7) + (1 : Int32))) from rfl) (congrArg ph (show (sG (sH t 1 ((t.1 7)).toNatClampNeg x1) 7 ((t.1 7) + (1 : Int32))) = z from (j_s h)))))
  have L29 : ∀ (u : Nat × Nat × Nat) (x1 : Int32) (t : St), ph t0 ≤ ph t → m_Numbers_add_4_29 n  x1 t = some z → J p l e { frames := 2, cells := ph z - ph t0, slots := 2 * (ph z - ph t0), locals := 82 } s m args below meth c 2 (dC, dI) vwCl A (MQ below (jQv (dC, dI) vwCl (tyA cI cB cJ cZ) (fun u : Nat × Nat × Nat => wO cI cB cJ cZ (aU a u) z) A) args s (ph z - ph t0) (2 * (ph z - ph t0)) A) (ph t - ph t0) (2 * (ph t - ph t0)) 29 [(0, .ref (a 4)), (1, .int x1)] [] (wO cI cB cJ cZ (aU a u) t) := by
    intro u x1 t hg h
    unfold m_Numbers_add_4_29 at h
    refine J_aload_n X d_Numbers_add_29 0 rfl rfl ?_
    refine J_get (v := .ref ((aU a u) 5)) X (fun w h => mm (in_Numbers w h)) 4 rfl rfl 0 (by decide) (mm k_fl_Numbers_9) rfl rfl d_Numbers_add_30 ?_
    refine J_aload_n X d_Numbers_add_33 0 rfl rfl ?_
    refine J_get (v := .int (t.1 7)) X (fun w h => mm (in_Numbers w h)) 4 rfl rfl 1 (by decide) (mm k_fl_Numbers_15) rfl rfl d_Numbers_add_34 ?_
    refine J_iload_n X d_Numbers_add_37 1 rfl rfl ?_
    obtain ⟨b38, h⟩ := j_ifn h
    refine J_iast (f := (t.2.1 1)) X 5 0 rfl rfl b38 d_Numbers_add_38 (wO cI cB cJ cZ (aU a u) (sH t 1 ((t.1 7)).toNatClampNeg x1)) rfl ?_
    refine J_aload_n X d_Numbers_add_39 0 rfl rfl ?_
    refine J_dup X d_Numbers_add_40 rfl ?_
    refine J_get (v := .int (t.1 7)) X (fun w h => mm (in_Numbers w h)) 4 rfl rfl 1 (by decide) (mm k_fl_Numbers_15) rfl rfl d_Numbers_add_41 ?_
    refine J_iconst (v := (1 : Int32)) X d_Numbers_add_44 (by decide) ?_
    refine J_iadd X d_Numbers_add_45 ?_
    refine J_put (ty := .int) (v := .int ((t.1 7) + (1 : Int32))) X (fun w h => mm (in_Numbers w h)) ty_Numbers tyk_Numbers nm_Numbers 4 rfl rfl 1 (by decide) (mm k_fl_Numbers_15) rfl rfl (by decide +kernel) rfl rfl (Nat.le_of_ble_eq_true rfl) d_Numbers_add_46 (wO cI cB cJ cZ (aU a u) (sG (sH t 1 ((t.1 7)).toNatClampNeg x1) 7 ((t.1 7) + (1 : Int32)))) rfl ?_
    exact J_vret X hr hlk u (by have e : ph t = ph z := (Eq.trans (show ph t = ph (sG (sH t 1 ((t.1 7)).toNatClampNeg x1) 7 ((t.1 7) + (1 : Int32))) from rfl) (congrArg ph (show (sG (sH t 1 ((t.1 7)).toNatClampNeg x1) 7 ((t.1 7) + (1 : Int32))) = z from (j_s h)))); show ph t - ph t0 ≤ ph z - ph t0; omega) (by have e : ph t = ph z := (Eq.trans (show ph t = ph (sG (sH t 1 ((t.1 7)).toNatClampNeg x1) 7 ((t.1 7) + (1 : Int32))) from rfl) (congrArg ph (show (sG (sH t 1 ((t.1 7)).toNatClampNeg x1) 7 ((t.1 7) + (1 : Int32))) = z from (j_s h)))); show 2 * (ph t - ph t0) ≤ 2 * (ph z - ph t0); omega) (congrArg (fun q => wO cI cB cJ cZ (aU a u) q) (j_s h)) d_Numbers_add_49
  refine J_lv [0, 1] [(0, .ref (a 4)), (1, .int x1)] rfl ?_
  refine J_to _ _ (wO cI cB cJ cZ (aU a (a 2, a 5, a 7)) t0) rfl rfl rfl ?_
  refine J_widen (ph t0 - ph t0) (2 * (ph t0 - ph t0)) (Nat.zero_le _) (Nat.zero_le _) ?_
  unfold m_Numbers_add_4 at h
  refine J_aload_n X d_Numbers_add_0 0 rfl rfl ?_
  refine J_get (v := .int (t0.1 7)) X (fun w h => mm (in_Numbers w h)) 4 rfl rfl 1 (by decide) (mm k_fl_Numbers_15) rfl rfl d_Numbers_add_1 ?_
  refine J_aload_n X d_Numbers_add_4 0 rfl rfl ?_
  refine J_get (v := .ref ((aU a (a 2, a 5, a 7)) 5)) X (fun w h => mm (in_Numbers w h)) 4 rfl rfl 0 (by decide) (mm k_fl_Numbers_9) rfl rfl d_Numbers_add_5 ?_
  refine J_alen X 5 0 rfl rfl (v := (Int32.ofNat (t0.2.2.2 1))) rfl d_Numbers_add_8 ?_
  refine J_icmp_lt X 29 d_Numbers_add_9 (by decide) (fun c9 => ?_) (fun c9 => ?_)
  · rw [if_pos c9] at h
    refine J_lv [0, 1] [(0, .ref (a 4)), (1, .int x1)] rfl ?_
    exact L29  (a 2, a 5, a 7) x1 t0 (Nat.le_refl (ph t0)) h
  · rw [if_neg c9] at h
    refine J_aload_n X d_Numbers_add_12 0 rfl rfl ?_
    refine J_aload_n X d_Numbers_add_13 0 rfl rfl ?_
    refine J_get (v := .ref ((aU a (a 2, a 5, a 7)) 5)) X (fun w h => mm (in_Numbers w h)) 4 rfl rfl 0 (by decide) (mm k_fl_Numbers_9) rfl rfl d_Numbers_add_14 ?_
    refine J_iconst (v := (2 : Int32)) X d_Numbers_add_17 (by decide) ?_
    refine J_aload_n X d_Numbers_add_18 0 rfl rfl ?_
    refine J_get (v := .int (t0.1 7)) X (fun w h => mm (in_Numbers w h)) 4 rfl rfl 1 (by decide) (mm k_fl_Numbers_15) rfl rfl d_Numbers_add_19 ?_
    refine J_imul X d_Numbers_add_22 ?_
    obtain ⟨b23, h⟩ := j_ifn h
    have g23 : ph t0 ≤ ph t0 := (Nat.le_refl (ph t0))
    have p23 : ph (sA t0 1 (((2 : Int32) * (t0.1 7))).toNatClampNeg (va_cpy (t0.2.1 1) (fun _ => 0) 0 0 (t0.2.2.2 1))) + (t0.2.2.2 1) = ph t0 + (((2 : Int32) * (t0.1 7))).toNatClampNeg := ph_sA1 _ _ _
    have e23 : ph (sA t0 1 (((2 : Int32) * (t0.1 7))).toNatClampNeg (va_cpy (t0.2.1 1) (fun _ => 0) 0 0 (t0.2.2.2 1))) ≤ ph z := by
      exact Nat.le_trans (Nat.le_refl _) (G29  x1 (sA t0 1 (((2 : Int32) * (t0.1 7))).toNatClampNeg (va_cpy (t0.2.1 1) (fun _ => 0) 0 0 (t0.2.2.2 1))) h)
    have r23 := gr_le b23
    have F23 := Classical.not_not.mp b23
    refine J_callSr (n := 2) (S := Unit) (wc := [((aU a (a 2, a 5, a 7)) 5, .inl (cI, (t0.2.2.2 1), .inl (t0.2.1 1)))]) (w1 := fun _ ra => [((aU a (a 2, a 5, a 7)) 5, .inl (cI, (t0.2.2.2 1), .inl (t0.2.1 1))), (ra, .inl (cI, (((2 : Int32) * (t0.1 7))).toNatClampNeg, .inl (va_cpy (t0.2.1 1) (fun _ => 0) 0 0 (t0.2.2.2 1))))]) X [5] [0, 1, 2, 3, 4, 6, 7, 8, 9, 10, 11, 12, 13, 14, 15] rfl rfl rfl (wr := (isO.eraseIdx 5).filterMap (fun i => (wO cI cB cJ cZ (aU a (a 2, a 5, a 7)) t0)[i]?)) rfl rfl (by decide) [.ref ((aU a (a 2, a 5, a 7)) 5), .int ((2 : Int32) * (t0.1 7))] [.ref (a 4)] (ct_Arrays_copyOfI l dC dI cI cB cJ cZ ((aU a (a 2, a 5, a 7)) 5) (t0.2.2.2 1) (t0.2.1 1) ((2 : Int32) * (t0.1 7)) F23) (aw_S (fun w h => mm h) k_ml_Numbers_19 k_st_Arrays_copyOfI k_in_Arrays k_cd_Arrays_copyOfI) rfl (by decide +kernel) ⟨(Nat.le_of_ble_eq_true rfl), (Nat.le_of_ble_eq_true rfl)⟩ rfl rfl (Nat.le_of_ble_eq_true rfl) d_Numbers_add_23 ⟨(by show ph t0 - ph t0 + 1 ≤ ph z - ph t0; omega), (by show 2 * (ph t0 - ph t0) + (((2 : Int32) * (t0.1 7))).toNatClampNeg ≤ 2 * (ph z - ph t0); omega)⟩ (fun _ ra23 => ?_)
    refine J_put (ty := .array .int) (v := .ref ra23) X (fun w h => mm (in_Numbers w h)) ty_Numbers tyk_Numbers nm_Numbers 4 rfl rfl 0 (by decide) (mm k_fl_Numbers_9) rfl rfl (by decide +kernel) rfl rfl (Nat.le_of_ble_eq_true rfl) d_Numbers_add_26 _ rfl ?_
    refine J_sub [0, 1, 2, 3, 4, 16, 5, 6, 7, 8, 9, 10, 11, 12, 13, 14] (wO cI cB cJ cZ (aU a ((a 2, a 5, a 7).1, ra23, (a 2, a 5, a 7).2.2)) (sA t0 1 (((2 : Int32) * (t0.1 7))).toNatClampNeg (va_cpy (t0.2.1 1) (fun _ => 0) 0 0 (t0.2.2.2 1)))) rfl rfl rfl ?_
    refine J_widen (ph (sA t0 1 (((2 : Int32) * (t0.1 7))).toNatClampNeg (va_cpy (t0.2.1 1) (fun _ => 0) 0 0 (t0.2.2.2 1))) - ph t0) (2 * (ph (sA t0 1 (((2 : Int32) * (t0.1 7))).toNatClampNeg (va_cpy (t0.2.1 1) (fun _ => 0) 0 0 (t0.2.2.2 1))) - ph t0)) (by show ph t0 - ph t0 + 1 ≤ _; omega) (by show 2 * (ph t0 - ph t0) + (((2 : Int32) * (t0.1 7))).toNatClampNeg ≤ _; omega) ?_
    have gg23 : ph t0 ≤ ph (sA t0 1 (((2 : Int32) * (t0.1 7))).toNatClampNeg (va_cpy (t0.2.1 1) (fun _ => 0) 0 0 (t0.2.2.2 1))) := by omega
    refine J_lv [0, 1] [(0, .ref (a 4)), (1, .int x1)] rfl ?_
    exact L29  ((a 2, a 5, a 7).1, ra23, (a 2, a 5, a 7).2.2) x1 (sA t0 1 (((2 : Int32) * (t0.1 7))).toNatClampNeg (va_cpy (t0.2.1 1) (fun _ => 0) 0 0 (t0.2.2.2 1))) gg23 h
theorem p_Numbers_add_6 {n : Nat} {x1 : Int32} {t0 : St} {z : St} (h : m_Numbers_add_6 n x1 t0 = some z) : ph t0 ≤ ph z := by
  have G29 : ∀ (x1 : Int32) (t : St), m_Numbers_add_6_29 n  x1 t = some z → ph t ≤ ph z := by
    intro x1 t h
    unfold m_Numbers_add_6_29 at h
    obtain ⟨b38, h⟩ := j_ifn h
    exact Nat.le_trans (Nat.le_refl _) (Nat.le_of_eq (Eq.trans (show ph t = ph (sG (sH t 2 ((t.1 8)).toNatClampNeg x1) 8 ((t.1 8) + (1 : Int32))) from rfl) (congrArg ph (show (sG (sH t 2 ((t.1 8)).toNatClampNeg x1) 8 ((t.1 8) + (1 : Int32))) = z from (j_s h)))))
  unfold m_Numbers_add_6 at h
  by_cases c9 : (t0.1 8) < (Int32.ofNat (t0.2.2.2 2))
  · rw [if_pos c9] at h
    exact Nat.le_trans (Nat.le_refl _) (G29  x1 t0 h)
  · rw [if_neg c9] at h
    obtain ⟨b23, h⟩ := j_ifn h
    exact Nat.le_trans (Nat.le_trans (Nat.le_refl _) (ph_gr2 b23)) (G29  x1 (sA t0 2 (((2 : Int32) * (t0.1 8))).toNatClampNeg (va_cpy (t0.2.1 2) (fun _ => 0) 0 0 (t0.2.2.2 2))) h)
set_option maxHeartbeats 4000000 in
set_option maxRecDepth 100000 in
theorem ct_Numbers_add_6 (l : Launch) (dC : Nat → ClassId) (dI : Nat → Nat → Nat) (cI cB cJ cZ : ClassId) (a : Nat → Nat) (n : Nat) (x1 : Int32) (t0 : St) {z : St} (h : m_Numbers_add_6 n x1 t0 = some z) : jMv l y_Numbers_add w_Numbers_add ({ frames := 2, cells := ph z - ph t0, slots := 2 * (ph z - ph t0), locals := 82 }) (dC, dI) vwCl (tyA cI cB cJ cZ) [.ref (a 6), .int x1] (wO cI cB cJ cZ a t0) (fun u : Nat × Nat × Nat => wO cI cB cJ cZ (aU a u) z) := by
  refine jMv.of (cc := c_Numbers_add) (maxL := 2) (ret := none) (by decide) rfl (Nat.le_of_ble_eq_true rfl) ?_
  intro p e s m args below meth c A X hr hlk hnm
  have G29 : ∀ (x1 : Int32) (t : St), m_Numbers_add_6_29 n  x1 t = some z → ph t ≤ ph z := by
    intro x1 t h
    unfold m_Numbers_add_6_29 at h
    obtain ⟨b38, h⟩ := j_ifn h
    exact Nat.le_trans (Nat.le_refl _) (Nat.le_of_eq (Eq.trans (show ph t = ph (sG (sH t 2 ((t.1 8)).toNatClampNeg x1) 8 ((t.1 8) + (1 : Int32))) from rfl) (congrArg ph (show (sG (sH t 2 ((t.1 8)).toNatClampNeg x1) 8 ((t.1 8) + (1 : Int32))) = z from (j_s h)))))
  have L29 : ∀ (u : Nat × Nat × Nat) (x1 : Int32) (t : St), ph t0 ≤ ph t → m_Numbers_add_6_29 n  x1 t = some z → J p l e { frames := 2, cells := ph z - ph t0, slots := 2 * (ph z - ph t0), locals := 82 } s m args below meth c 2 (dC, dI) vwCl A (MQ below (jQv (dC, dI) vwCl (tyA cI cB cJ cZ) (fun u : Nat × Nat × Nat => wO cI cB cJ cZ (aU a u) z) A) args s (ph z - ph t0) (2 * (ph z - ph t0)) A) (ph t - ph t0) (2 * (ph t - ph t0)) 29 [(0, .ref (a 6)), (1, .int x1)] [] (wO cI cB cJ cZ (aU a u) t) := by
    intro u x1 t hg h
    unfold m_Numbers_add_6_29 at h
    refine J_aload_n X d_Numbers_add_29 0 rfl rfl ?_
    refine J_get (v := .ref ((aU a u) 7)) X (fun w h => mm (in_Numbers w h)) 6 rfl rfl 0 (by decide) (mm k_fl_Numbers_9) rfl rfl d_Numbers_add_30 ?_
    refine J_aload_n X d_Numbers_add_33 0 rfl rfl ?_
    refine J_get (v := .int (t.1 8)) X (fun w h => mm (in_Numbers w h)) 6 rfl rfl 1 (by decide) (mm k_fl_Numbers_15) rfl rfl d_Numbers_add_34 ?_
    refine J_iload_n X d_Numbers_add_37 1 rfl rfl ?_
    obtain ⟨b38, h⟩ := j_ifn h
    refine J_iast (f := (t.2.1 2)) X 7 0 rfl rfl b38 d_Numbers_add_38 (wO cI cB cJ cZ (aU a u) (sH t 2 ((t.1 8)).toNatClampNeg x1)) rfl ?_
    refine J_aload_n X d_Numbers_add_39 0 rfl rfl ?_
    refine J_dup X d_Numbers_add_40 rfl ?_
    refine J_get (v := .int (t.1 8)) X (fun w h => mm (in_Numbers w h)) 6 rfl rfl 1 (by decide) (mm k_fl_Numbers_15) rfl rfl d_Numbers_add_41 ?_
    refine J_iconst (v := (1 : Int32)) X d_Numbers_add_44 (by decide) ?_
    refine J_iadd X d_Numbers_add_45 ?_
    refine J_put (ty := .int) (v := .int ((t.1 8) + (1 : Int32))) X (fun w h => mm (in_Numbers w h)) ty_Numbers tyk_Numbers nm_Numbers 6 rfl rfl 1 (by decide) (mm k_fl_Numbers_15) rfl rfl (by decide +kernel) rfl rfl (Nat.le_of_ble_eq_true rfl) d_Numbers_add_46 (wO cI cB cJ cZ (aU a u) (sG (sH t 2 ((t.1 8)).toNatClampNeg x1) 8 ((t.1 8) + (1 : Int32)))) rfl ?_
    exact J_vret X hr hlk u (by have e : ph t = ph z := (Eq.trans (show ph t = ph (sG (sH t 2 ((t.1 8)).toNatClampNeg x1) 8 ((t.1 8) + (1 : Int32))) from rfl) (congrArg ph (show (sG (sH t 2 ((t.1 8)).toNatClampNeg x1) 8 ((t.1 8) + (1 : Int32))) = z from (j_s h)))); show ph t - ph t0 ≤ ph z - ph t0; omega) (by have e : ph t = ph z := (Eq.trans (show ph t = ph (sG (sH t 2 ((t.1 8)).toNatClampNeg x1) 8 ((t.1 8) + (1 : Int32))) from rfl) (congrArg ph (show (sG (sH t 2 ((t.1 8)).toNatClampNeg x1) 8 ((t.1 8) + (1 : Int32))) = z from (j_s h)))); show 2 * (ph t - ph t0) ≤ 2 * (ph z - ph t0); omega) (congrArg (fun q => wO cI cB cJ cZ (aU a u) q) (j_s h)) d_Numbers_add_49
  refine J_lv [0, 1] [(0, .ref (a 6)), (1, .int x1)] rfl ?_
  refine J_to _ _ (wO cI cB cJ cZ (aU a (a 2, a 5, a 7)) t0) rfl rfl rfl ?_
  refine J_widen (ph t0 - ph t0) (2 * (ph t0 - ph t0)) (Nat.zero_le _) (Nat.zero_le _) ?_
  unfold m_Numbers_add_6 at h
  refine J_aload_n X d_Numbers_add_0 0 rfl rfl ?_
  refine J_get (v := .int (t0.1 8)) X (fun w h => mm (in_Numbers w h)) 6 rfl rfl 1 (by decide) (mm k_fl_Numbers_15) rfl rfl d_Numbers_add_1 ?_
  refine J_aload_n X d_Numbers_add_4 0 rfl rfl ?_
  refine J_get (v := .ref ((aU a (a 2, a 5, a 7)) 7)) X (fun w h => mm (in_Numbers w h)) 6 rfl rfl 0 (by decide) (mm k_fl_Numbers_9) rfl rfl d_Numbers_add_5 ?_
  refine J_alen X 7 0 rfl rfl (v := (Int32.ofNat (t0.2.2.2 2))) rfl d_Numbers_add_8 ?_
  refine J_icmp_lt X 29 d_Numbers_add_9 (by decide) (fun c9 => ?_) (fun c9 => ?_)
  · rw [if_pos c9] at h
    refine J_lv [0, 1] [(0, .ref (a 6)), (1, .int x1)] rfl ?_
    exact L29  (a 2, a 5, a 7) x1 t0 (Nat.le_refl (ph t0)) h
  · rw [if_neg c9] at h
    refine J_aload_n X d_Numbers_add_12 0 rfl rfl ?_
    refine J_aload_n X d_Numbers_add_13 0 rfl rfl ?_
    refine J_get (v := .ref ((aU a (a 2, a 5, a 7)) 7)) X (fun w h => mm (in_Numbers w h)) 6 rfl rfl 0 (by decide) (mm k_fl_Numbers_9) rfl rfl d_Numbers_add_14 ?_
    refine J_iconst (v := (2 : Int32)) X d_Numbers_add_17 (by decide) ?_
    refine J_aload_n X d_Numbers_add_18 0 rfl rfl ?_
    refine J_get (v := .int (t0.1 8)) X (fun w h => mm (in_Numbers w h)) 6 rfl rfl 1 (by decide) (mm k_fl_Numbers_15) rfl rfl d_Numbers_add_19 ?_
    refine J_imul X d_Numbers_add_22 ?_
    obtain ⟨b23, h⟩ := j_ifn h
    have g23 : ph t0 ≤ ph t0 := (Nat.le_refl (ph t0))
    have p23 : ph (sA t0 2 (((2 : Int32) * (t0.1 8))).toNatClampNeg (va_cpy (t0.2.1 2) (fun _ => 0) 0 0 (t0.2.2.2 2))) + (t0.2.2.2 2) = ph t0 + (((2 : Int32) * (t0.1 8))).toNatClampNeg := ph_sA2 _ _ _
    have e23 : ph (sA t0 2 (((2 : Int32) * (t0.1 8))).toNatClampNeg (va_cpy (t0.2.1 2) (fun _ => 0) 0 0 (t0.2.2.2 2))) ≤ ph z := by
      exact Nat.le_trans (Nat.le_refl _) (G29  x1 (sA t0 2 (((2 : Int32) * (t0.1 8))).toNatClampNeg (va_cpy (t0.2.1 2) (fun _ => 0) 0 0 (t0.2.2.2 2))) h)
    have r23 := gr_le b23
    have F23 := Classical.not_not.mp b23
    refine J_callSr (n := 2) (S := Unit) (wc := [((aU a (a 2, a 5, a 7)) 7, .inl (cI, (t0.2.2.2 2), .inl (t0.2.1 2)))]) (w1 := fun _ ra => [((aU a (a 2, a 5, a 7)) 7, .inl (cI, (t0.2.2.2 2), .inl (t0.2.1 2))), (ra, .inl (cI, (((2 : Int32) * (t0.1 8))).toNatClampNeg, .inl (va_cpy (t0.2.1 2) (fun _ => 0) 0 0 (t0.2.2.2 2))))]) X [7] [0, 1, 2, 3, 4, 5, 6, 8, 9, 10, 11, 12, 13, 14, 15] rfl rfl rfl (wr := (isO.eraseIdx 7).filterMap (fun i => (wO cI cB cJ cZ (aU a (a 2, a 5, a 7)) t0)[i]?)) rfl rfl (by decide) [.ref ((aU a (a 2, a 5, a 7)) 7), .int ((2 : Int32) * (t0.1 8))] [.ref (a 6)] (ct_Arrays_copyOfI l dC dI cI cB cJ cZ ((aU a (a 2, a 5, a 7)) 7) (t0.2.2.2 2) (t0.2.1 2) ((2 : Int32) * (t0.1 8)) F23) (aw_S (fun w h => mm h) k_ml_Numbers_19 k_st_Arrays_copyOfI k_in_Arrays k_cd_Arrays_copyOfI) rfl (by decide +kernel) ⟨(Nat.le_of_ble_eq_true rfl), (Nat.le_of_ble_eq_true rfl)⟩ rfl rfl (Nat.le_of_ble_eq_true rfl) d_Numbers_add_23 ⟨(by show ph t0 - ph t0 + 1 ≤ ph z - ph t0; omega), (by show 2 * (ph t0 - ph t0) + (((2 : Int32) * (t0.1 8))).toNatClampNeg ≤ 2 * (ph z - ph t0); omega)⟩ (fun _ ra23 => ?_)
    refine J_put (ty := .array .int) (v := .ref ra23) X (fun w h => mm (in_Numbers w h)) ty_Numbers tyk_Numbers nm_Numbers 6 rfl rfl 0 (by decide) (mm k_fl_Numbers_9) rfl rfl (by decide +kernel) rfl rfl (Nat.le_of_ble_eq_true rfl) d_Numbers_add_26 _ rfl ?_
    refine J_sub [0, 1, 2, 3, 4, 5, 6, 16, 7, 8, 9, 10, 11, 12, 13, 14] (wO cI cB cJ cZ (aU a ((a 2, a 5, a 7).1, (a 2, a 5, a 7).2.1, ra23)) (sA t0 2 (((2 : Int32) * (t0.1 8))).toNatClampNeg (va_cpy (t0.2.1 2) (fun _ => 0) 0 0 (t0.2.2.2 2)))) rfl rfl rfl ?_
    refine J_widen (ph (sA t0 2 (((2 : Int32) * (t0.1 8))).toNatClampNeg (va_cpy (t0.2.1 2) (fun _ => 0) 0 0 (t0.2.2.2 2))) - ph t0) (2 * (ph (sA t0 2 (((2 : Int32) * (t0.1 8))).toNatClampNeg (va_cpy (t0.2.1 2) (fun _ => 0) 0 0 (t0.2.2.2 2))) - ph t0)) (by show ph t0 - ph t0 + 1 ≤ _; omega) (by show 2 * (ph t0 - ph t0) + (((2 : Int32) * (t0.1 8))).toNatClampNeg ≤ _; omega) ?_
    have gg23 : ph t0 ≤ ph (sA t0 2 (((2 : Int32) * (t0.1 8))).toNatClampNeg (va_cpy (t0.2.1 2) (fun _ => 0) 0 0 (t0.2.2.2 2))) := by omega
    refine J_lv [0, 1] [(0, .ref (a 6)), (1, .int x1)] rfl ?_
    exact L29  ((a 2, a 5, a 7).1, (a 2, a 5, a 7).2.1, ra23) x1 (sA t0 2 (((2 : Int32) * (t0.1 8))).toNatClampNeg (va_cpy (t0.2.1 2) (fun _ => 0) 0 0 (t0.2.2.2 2))) gg23 h
theorem p_Picture_addSegment {n : Nat} {x1 : Int32} {x2 : Int32} {t0 : St} {z : St} (h : m_Picture_addSegment n x1 x2 t0 = some z) : ph t0 ≤ ph z := by
  unfold m_Picture_addSegment at h
  obtain ⟨z5, hz5, h⟩ := j_bind h
  obtain ⟨z13, hz13, h⟩ := j_bind h
  exact Nat.le_trans (Nat.le_trans (Nat.le_trans (Nat.le_refl _) (show ph t0 ≤ ph z5 from p_Numbers_add_4 hz5)) (show ph z5 ≤ ph z13 from p_Numbers_add_4 hz13)) (Nat.le_of_eq (Eq.trans (show ph z13 = ph z13 from rfl) (congrArg ph (show z13 = z from (j_s h)))))
set_option maxHeartbeats 4000000 in
set_option maxRecDepth 100000 in
theorem ct_Picture_addSegment (l : Launch) (dC : Nat → ClassId) (dI : Nat → Nat → Nat) (cI cB cJ cZ : ClassId) (a : Nat → Nat) (n : Nat) (x1 : Int32) (x2 : Int32) (t0 : St) {z : St} (h : m_Picture_addSegment n x1 x2 t0 = some z) : jMv l y_Picture_addSegment w_Picture_addSegment ({ frames := 3, cells := ph z - ph t0, slots := 2 * (ph z - ph t0), locals := 103 }) (dC, dI) vwCl (tyA cI cB cJ cZ) [.ref (a 3), .int x1, .int x2] (wO cI cB cJ cZ a t0) (fun u : Nat × Nat × Nat => wO cI cB cJ cZ (aU a u) z) := by
  refine jMv.of (cc := c_Picture_addSegment) (maxL := 3) (ret := none) (by decide) rfl (Nat.le_of_ble_eq_true rfl) ?_
  intro p e s m args below meth c A X hr hlk hnm
  refine J_lv [0, 1, 2] [(0, .ref (a 3)), (1, .int x1), (2, .int x2)] rfl ?_
  refine J_to _ _ (wO cI cB cJ cZ (aU a (a 2, a 5, a 7)) t0) rfl rfl rfl ?_
  refine J_widen (ph t0 - ph t0) (2 * (ph t0 - ph t0)) (Nat.zero_le _) (Nat.zero_le _) ?_
  unfold m_Picture_addSegment at h
  refine J_aload_n X d_Picture_addSegment_0 0 rfl rfl ?_
  refine J_get (v := .ref (a 4)) X (fun w h => mm (in_Picture w h)) 3 rfl rfl 1 (by decide) (mm k_fl_Picture_12) rfl rfl d_Picture_addSegment_1 ?_
  refine J_iload_n X d_Picture_addSegment_4 1 rfl rfl ?_
  have f5 : ph t0 ≤ ph z := by
    obtain ⟨z5, hz5, h⟩ := j_bind h
    obtain ⟨z13, hz13, h⟩ := j_bind h
    exact Nat.le_trans (Nat.le_trans (Nat.le_trans (Nat.le_refl _) (show ph t0 ≤ ph z5 from p_Numbers_add_4 hz5)) (show ph z5 ≤ ph z13 from p_Numbers_add_4 hz13)) (Nat.le_of_eq (Eq.trans (show ph z13 = ph z13 from rfl) (congrArg ph (show z13 = z from (j_s h)))))
  obtain ⟨z5, hz5, h⟩ := j_bind h
  have g5 : ph t0 ≤ ph t0 := (Nat.le_refl (ph t0))
  have p5 : ph t0 ≤ ph z5 := (show ph t0 ≤ ph z5 from p_Numbers_add_4 hz5)
  have e5 : ph z5 ≤ ph z := by
    obtain ⟨z13, hz13, h⟩ := j_bind h
    exact Nat.le_trans (Nat.le_trans (Nat.le_refl _) (show ph z5 ≤ ph z13 from p_Numbers_add_4 hz13)) (Nat.le_of_eq (Eq.trans (show ph z13 = ph z13 from rfl) (congrArg ph (show z13 = z from (j_s h)))))
  refine J_callVv0 (n := 1) (wc := (wO cI cB cJ cZ (aU a (a 2, a 5, a 7)) t0)) (w1 := fun u : Nat × Nat × Nat => wO cI cB cJ cZ (aU (aU a (a 2, a 5, a 7)) u) z5) X isO (hCO cI cB cJ cZ (aU a (a 2, a 5, a 7)) t0) (hDO cI cB cJ cZ (aU a (a 2, a 5, a 7)) t0) rfl [.int x1] [] (ct_Numbers_add_4 l dC dI cI cB cJ cZ (aU a (a 2, a 5, a 7)) n x1 t0 hz5) (aw_V (fun w h => mm h) k_ml_Picture_66 k_im_Numbers_add k_se_Numbers_add k_in_Numbers k_cd_Numbers_add) rfl (by decide +kernel) ⟨(Nat.le_of_ble_eq_true rfl), (Nat.le_of_ble_eq_true rfl)⟩ (q0 := 4) rfl rfl rfl rfl (Nat.le_of_ble_eq_true rfl) d_Picture_addSegment_5 ⟨(by show ph t0 - ph t0 + (ph z5 - ph t0) ≤ ph z - ph t0; omega), (by show 2 * (ph t0 - ph t0) + 2 * (ph z5 - ph t0) ≤ 2 * (ph z - ph t0); omega)⟩ (fun u5 => ?_)
  refine J_to _ _ (wO cI cB cJ cZ (aU a u5) z5) rfl rfl rfl ?_
  refine J_widen (ph z5 - ph t0) (2 * (ph z5 - ph t0)) (by show ph t0 - ph t0 + (ph z5 - ph t0) ≤ _; omega) (by show 2 * (ph t0 - ph t0) + 2 * (ph z5 - ph t0) ≤ _; omega) ?_
  have gg5 : ph t0 ≤ ph z5 := by omega
  refine J_aload_n X d_Picture_addSegment_8 0 rfl rfl ?_
  refine J_get (v := .ref (a 4)) X (fun w h => mm (in_Picture w h)) 3 rfl rfl 1 (by decide) (mm k_fl_Picture_12) rfl rfl d_Picture_addSegment_9 ?_
  refine J_iload_n X d_Picture_addSegment_12 2 rfl rfl ?_
  have f13 : ph z5 ≤ ph z := by
    obtain ⟨z13, hz13, h⟩ := j_bind h
    exact Nat.le_trans (Nat.le_trans (Nat.le_refl _) (show ph z5 ≤ ph z13 from p_Numbers_add_4 hz13)) (Nat.le_of_eq (Eq.trans (show ph z13 = ph z13 from rfl) (congrArg ph (show z13 = z from (j_s h)))))
  obtain ⟨z13, hz13, h⟩ := j_bind h
  have g13 : ph t0 ≤ ph z5 := gg5
  have p13 : ph z5 ≤ ph z13 := (show ph z5 ≤ ph z13 from p_Numbers_add_4 hz13)
  have e13 : ph z13 ≤ ph z := by
    exact Nat.le_trans (Nat.le_refl _) (Nat.le_of_eq (Eq.trans (show ph z13 = ph z13 from rfl) (congrArg ph (show z13 = z from (j_s h)))))
  refine J_callVv0 (n := 1) (wc := (wO cI cB cJ cZ (aU a u5) z5)) (w1 := fun u : Nat × Nat × Nat => wO cI cB cJ cZ (aU (aU a u5) u) z13) X isO (hCO cI cB cJ cZ (aU a u5) z5) (hDO cI cB cJ cZ (aU a u5) z5) rfl [.int x2] [] (ct_Numbers_add_4 l dC dI cI cB cJ cZ (aU a u5) n x2 z5 hz13) (aw_V (fun w h => mm h) k_ml_Picture_66 k_im_Numbers_add k_se_Numbers_add k_in_Numbers k_cd_Numbers_add) rfl (by decide +kernel) ⟨(Nat.le_of_ble_eq_true rfl), (Nat.le_of_ble_eq_true rfl)⟩ (q0 := 4) rfl rfl rfl rfl (Nat.le_of_ble_eq_true rfl) d_Picture_addSegment_13 ⟨(by show ph z5 - ph t0 + (ph z13 - ph z5) ≤ ph z - ph t0; omega), (by show 2 * (ph z5 - ph t0) + 2 * (ph z13 - ph z5) ≤ 2 * (ph z - ph t0); omega)⟩ (fun u13 => ?_)
  refine J_to _ _ (wO cI cB cJ cZ (aU a u13) z13) rfl rfl rfl ?_
  refine J_widen (ph z13 - ph t0) (2 * (ph z13 - ph t0)) (by show ph z5 - ph t0 + (ph z13 - ph z5) ≤ _; omega) (by show 2 * (ph z5 - ph t0) + 2 * (ph z13 - ph z5) ≤ _; omega) ?_
  have gg13 : ph t0 ≤ ph z13 := by omega
  exact J_vret X hr hlk u13 (by have e : ph z13 = ph z := (Eq.trans (show ph z13 = ph z13 from rfl) (congrArg ph (show z13 = z from (j_s h)))); show ph z13 - ph t0 ≤ ph z - ph t0; omega) (by have e : ph z13 = ph z := (Eq.trans (show ph z13 = ph z13 from rfl) (congrArg ph (show z13 = z from (j_s h)))); show 2 * (ph z13 - ph t0) ≤ 2 * (ph z - ph t0); omega) (congrArg (fun q => wO cI cB cJ cZ (aU a u13) q) (j_s h)) d_Picture_addSegment_16
theorem p_Picture_addScan {n : Nat} {x1 : Int32} {x2 : Int32} {x3 : Int32} {x4 : Int32} {t0 : St} {z : St} (h : m_Picture_addScan n x1 x2 x3 x4 t0 = some z) : ph t0 ≤ ph z := by
  unfold m_Picture_addScan at h
  obtain ⟨z5, hz5, h⟩ := j_bind h
  obtain ⟨z13, hz13, h⟩ := j_bind h
  obtain ⟨z21, hz21, h⟩ := j_bind h
  obtain ⟨z30, hz30, h⟩ := j_bind h
  obtain ⟨z41, hz41, h⟩ := j_bind h
  exact Nat.le_trans (Nat.le_trans (Nat.le_trans (Nat.le_trans (Nat.le_trans (Nat.le_trans (Nat.le_refl _) (show ph t0 ≤ ph z5 from p_Numbers_add_6 hz5)) (show ph z5 ≤ ph z13 from p_Numbers_add_6 hz13)) (show ph z13 ≤ ph z21 from p_Numbers_add_6 hz21)) (show ph z21 ≤ ph z30 from p_Numbers_add_6 hz30)) (show ph z30 ≤ ph z41 from p_Numbers_add_6 hz41)) (Nat.le_of_eq (Eq.trans (show ph z41 = ph z41 from rfl) (congrArg ph (show z41 = z from (j_s h)))))
set_option maxHeartbeats 4000000 in
set_option maxRecDepth 100000 in
theorem ct_Picture_addScan (l : Launch) (dC : Nat → ClassId) (dI : Nat → Nat → Nat) (cI cB cJ cZ : ClassId) (a : Nat → Nat) (n : Nat) (x1 : Int32) (x2 : Int32) (x3 : Int32) (x4 : Int32) (t0 : St) {z : St} (h : m_Picture_addScan n x1 x2 x3 x4 t0 = some z) : jMv l y_Picture_addScan w_Picture_addScan ({ frames := 3, cells := ph z - ph t0, slots := 2 * (ph z - ph t0), locals := 103 }) (dC, dI) vwCl (tyA cI cB cJ cZ) [.ref (a 3), .int x1, .int x2, .int x3, .int x4] (wO cI cB cJ cZ a t0) (fun u : Nat × Nat × Nat => wO cI cB cJ cZ (aU a u) z) := by
  refine jMv.of (cc := c_Picture_addScan) (maxL := 5) (ret := none) (by decide) rfl (Nat.le_of_ble_eq_true rfl) ?_
  intro p e s m args below meth c A X hr hlk hnm
  refine J_lv [0, 1, 2, 3, 4] [(0, .ref (a 3)), (1, .int x1), (2, .int x2), (3, .int x3), (4, .int x4)] rfl ?_
  refine J_to _ _ (wO cI cB cJ cZ (aU a (a 2, a 5, a 7)) t0) rfl rfl rfl ?_
  refine J_widen (ph t0 - ph t0) (2 * (ph t0 - ph t0)) (Nat.zero_le _) (Nat.zero_le _) ?_
  unfold m_Picture_addScan at h
  refine J_aload_n X d_Picture_addScan_0 0 rfl rfl ?_
  refine J_get (v := .ref (a 6)) X (fun w h => mm (in_Picture w h)) 3 rfl rfl 2 (by decide) (mm k_fl_Picture_18) rfl rfl d_Picture_addScan_1 ?_
  refine J_iload_n X d_Picture_addScan_4 1 rfl rfl ?_
  have f5 : ph t0 ≤ ph z := by
    obtain ⟨z5, hz5, h⟩ := j_bind h
    obtain ⟨z13, hz13, h⟩ := j_bind h
    obtain ⟨z21, hz21, h⟩ := j_bind h
    obtain ⟨z30, hz30, h⟩ := j_bind h
    obtain ⟨z41, hz41, h⟩ := j_bind h
    exact Nat.le_trans (Nat.le_trans (Nat.le_trans (Nat.le_trans (Nat.le_trans (Nat.le_trans (Nat.le_refl _) (show ph t0 ≤ ph z5 from p_Numbers_add_6 hz5)) (show ph z5 ≤ ph z13 from p_Numbers_add_6 hz13)) (show ph z13 ≤ ph z21 from p_Numbers_add_6 hz21)) (show ph z21 ≤ ph z30 from p_Numbers_add_6 hz30)) (show ph z30 ≤ ph z41 from p_Numbers_add_6 hz41)) (Nat.le_of_eq (Eq.trans (show ph z41 = ph z41 from rfl) (congrArg ph (show z41 = z from (j_s h)))))
  obtain ⟨z5, hz5, h⟩ := j_bind h
  have g5 : ph t0 ≤ ph t0 := (Nat.le_refl (ph t0))
  have p5 : ph t0 ≤ ph z5 := (show ph t0 ≤ ph z5 from p_Numbers_add_6 hz5)
  have e5 : ph z5 ≤ ph z := by
    obtain ⟨z13, hz13, h⟩ := j_bind h
    obtain ⟨z21, hz21, h⟩ := j_bind h
    obtain ⟨z30, hz30, h⟩ := j_bind h
    obtain ⟨z41, hz41, h⟩ := j_bind h
    exact Nat.le_trans (Nat.le_trans (Nat.le_trans (Nat.le_trans (Nat.le_trans (Nat.le_refl _) (show ph z5 ≤ ph z13 from p_Numbers_add_6 hz13)) (show ph z13 ≤ ph z21 from p_Numbers_add_6 hz21)) (show ph z21 ≤ ph z30 from p_Numbers_add_6 hz30)) (show ph z30 ≤ ph z41 from p_Numbers_add_6 hz41)) (Nat.le_of_eq (Eq.trans (show ph z41 = ph z41 from rfl) (congrArg ph (show z41 = z from (j_s h)))))
  refine J_callVv0 (n := 1) (wc := (wO cI cB cJ cZ (aU a (a 2, a 5, a 7)) t0)) (w1 := fun u : Nat × Nat × Nat => wO cI cB cJ cZ (aU (aU a (a 2, a 5, a 7)) u) z5) X isO (hCO cI cB cJ cZ (aU a (a 2, a 5, a 7)) t0) (hDO cI cB cJ cZ (aU a (a 2, a 5, a 7)) t0) rfl [.int x1] [] (ct_Numbers_add_6 l dC dI cI cB cJ cZ (aU a (a 2, a 5, a 7)) n x1 t0 hz5) (aw_V (fun w h => mm h) k_ml_Picture_66 k_im_Numbers_add k_se_Numbers_add k_in_Numbers k_cd_Numbers_add) rfl (by decide +kernel) ⟨(Nat.le_of_ble_eq_true rfl), (Nat.le_of_ble_eq_true rfl)⟩ (q0 := 6) rfl rfl rfl rfl (Nat.le_of_ble_eq_true rfl) d_Picture_addScan_5 ⟨(by show ph t0 - ph t0 + (ph z5 - ph t0) ≤ ph z - ph t0; omega), (by show 2 * (ph t0 - ph t0) + 2 * (ph z5 - ph t0) ≤ 2 * (ph z - ph t0); omega)⟩ (fun u5 => ?_)
  refine J_to _ _ (wO cI cB cJ cZ (aU a u5) z5) rfl rfl rfl ?_
  refine J_widen (ph z5 - ph t0) (2 * (ph z5 - ph t0)) (by show ph t0 - ph t0 + (ph z5 - ph t0) ≤ _; omega) (by show 2 * (ph t0 - ph t0) + 2 * (ph z5 - ph t0) ≤ _; omega) ?_
  have gg5 : ph t0 ≤ ph z5 := by omega
  refine J_aload_n X d_Picture_addScan_8 0 rfl rfl ?_
  refine J_get (v := .ref (a 6)) X (fun w h => mm (in_Picture w h)) 3 rfl rfl 2 (by decide) (mm k_fl_Picture_18) rfl rfl d_Picture_addScan_9 ?_
  refine J_iload_n X d_Picture_addScan_12 2 rfl rfl ?_
  have f13 : ph z5 ≤ ph z := by
    obtain ⟨z13, hz13, h⟩ := j_bind h
    obtain ⟨z21, hz21, h⟩ := j_bind h
    obtain ⟨z30, hz30, h⟩ := j_bind h
    obtain ⟨z41, hz41, h⟩ := j_bind h
    exact Nat.le_trans (Nat.le_trans (Nat.le_trans (Nat.le_trans (Nat.le_trans (Nat.le_refl _) (show ph z5 ≤ ph z13 from p_Numbers_add_6 hz13)) (show ph z13 ≤ ph z21 from p_Numbers_add_6 hz21)) (show ph z21 ≤ ph z30 from p_Numbers_add_6 hz30)) (show ph z30 ≤ ph z41 from p_Numbers_add_6 hz41)) (Nat.le_of_eq (Eq.trans (show ph z41 = ph z41 from rfl) (congrArg ph (show z41 = z from (j_s h)))))
  obtain ⟨z13, hz13, h⟩ := j_bind h
  have g13 : ph t0 ≤ ph z5 := gg5
  have p13 : ph z5 ≤ ph z13 := (show ph z5 ≤ ph z13 from p_Numbers_add_6 hz13)
  have e13 : ph z13 ≤ ph z := by
    obtain ⟨z21, hz21, h⟩ := j_bind h
    obtain ⟨z30, hz30, h⟩ := j_bind h
    obtain ⟨z41, hz41, h⟩ := j_bind h
    exact Nat.le_trans (Nat.le_trans (Nat.le_trans (Nat.le_trans (Nat.le_refl _) (show ph z13 ≤ ph z21 from p_Numbers_add_6 hz21)) (show ph z21 ≤ ph z30 from p_Numbers_add_6 hz30)) (show ph z30 ≤ ph z41 from p_Numbers_add_6 hz41)) (Nat.le_of_eq (Eq.trans (show ph z41 = ph z41 from rfl) (congrArg ph (show z41 = z from (j_s h)))))
  refine J_callVv0 (n := 1) (wc := (wO cI cB cJ cZ (aU a u5) z5)) (w1 := fun u : Nat × Nat × Nat => wO cI cB cJ cZ (aU (aU a u5) u) z13) X isO (hCO cI cB cJ cZ (aU a u5) z5) (hDO cI cB cJ cZ (aU a u5) z5) rfl [.int x2] [] (ct_Numbers_add_6 l dC dI cI cB cJ cZ (aU a u5) n x2 z5 hz13) (aw_V (fun w h => mm h) k_ml_Picture_66 k_im_Numbers_add k_se_Numbers_add k_in_Numbers k_cd_Numbers_add) rfl (by decide +kernel) ⟨(Nat.le_of_ble_eq_true rfl), (Nat.le_of_ble_eq_true rfl)⟩ (q0 := 6) rfl rfl rfl rfl (Nat.le_of_ble_eq_true rfl) d_Picture_addScan_13 ⟨(by show ph z5 - ph t0 + (ph z13 - ph z5) ≤ ph z - ph t0; omega), (by show 2 * (ph z5 - ph t0) + 2 * (ph z13 - ph z5) ≤ 2 * (ph z - ph t0); omega)⟩ (fun u13 => ?_)
  refine J_to _ _ (wO cI cB cJ cZ (aU a u13) z13) rfl rfl rfl ?_
  refine J_widen (ph z13 - ph t0) (2 * (ph z13 - ph t0)) (by show ph z5 - ph t0 + (ph z13 - ph z5) ≤ _; omega) (by show 2 * (ph z5 - ph t0) + 2 * (ph z13 - ph z5) ≤ _; omega) ?_
  have gg13 : ph t0 ≤ ph z13 := by omega
  refine J_aload_n X d_Picture_addScan_16 0 rfl rfl ?_
  refine J_get (v := .ref (a 6)) X (fun w h => mm (in_Picture w h)) 3 rfl rfl 2 (by decide) (mm k_fl_Picture_18) rfl rfl d_Picture_addScan_17 ?_
  refine J_iload_n X d_Picture_addScan_20 3 rfl rfl ?_
  have f21 : ph z13 ≤ ph z := by
    obtain ⟨z21, hz21, h⟩ := j_bind h
    obtain ⟨z30, hz30, h⟩ := j_bind h
    obtain ⟨z41, hz41, h⟩ := j_bind h
    exact Nat.le_trans (Nat.le_trans (Nat.le_trans (Nat.le_trans (Nat.le_refl _) (show ph z13 ≤ ph z21 from p_Numbers_add_6 hz21)) (show ph z21 ≤ ph z30 from p_Numbers_add_6 hz30)) (show ph z30 ≤ ph z41 from p_Numbers_add_6 hz41)) (Nat.le_of_eq (Eq.trans (show ph z41 = ph z41 from rfl) (congrArg ph (show z41 = z from (j_s h)))))
  obtain ⟨z21, hz21, h⟩ := j_bind h
  have g21 : ph t0 ≤ ph z13 := gg13
  have p21 : ph z13 ≤ ph z21 := (show ph z13 ≤ ph z21 from p_Numbers_add_6 hz21)
  have e21 : ph z21 ≤ ph z := by
    obtain ⟨z30, hz30, h⟩ := j_bind h
    obtain ⟨z41, hz41, h⟩ := j_bind h
    exact Nat.le_trans (Nat.le_trans (Nat.le_trans (Nat.le_refl _) (show ph z21 ≤ ph z30 from p_Numbers_add_6 hz30)) (show ph z30 ≤ ph z41 from p_Numbers_add_6 hz41)) (Nat.le_of_eq (Eq.trans (show ph z41 = ph z41 from rfl) (congrArg ph (show z41 = z from (j_s h)))))
  refine J_callVv0 (n := 1) (wc := (wO cI cB cJ cZ (aU a u13) z13)) (w1 := fun u : Nat × Nat × Nat => wO cI cB cJ cZ (aU (aU a u13) u) z21) X isO (hCO cI cB cJ cZ (aU a u13) z13) (hDO cI cB cJ cZ (aU a u13) z13) rfl [.int x3] [] (ct_Numbers_add_6 l dC dI cI cB cJ cZ (aU a u13) n x3 z13 hz21) (aw_V (fun w h => mm h) k_ml_Picture_66 k_im_Numbers_add k_se_Numbers_add k_in_Numbers k_cd_Numbers_add) rfl (by decide +kernel) ⟨(Nat.le_of_ble_eq_true rfl), (Nat.le_of_ble_eq_true rfl)⟩ (q0 := 6) rfl rfl rfl rfl (Nat.le_of_ble_eq_true rfl) d_Picture_addScan_21 ⟨(by show ph z13 - ph t0 + (ph z21 - ph z13) ≤ ph z - ph t0; omega), (by show 2 * (ph z13 - ph t0) + 2 * (ph z21 - ph z13) ≤ 2 * (ph z - ph t0); omega)⟩ (fun u21 => ?_)
  refine J_to _ _ (wO cI cB cJ cZ (aU a u21) z21) rfl rfl rfl ?_
  refine J_widen (ph z21 - ph t0) (2 * (ph z21 - ph t0)) (by show ph z13 - ph t0 + (ph z21 - ph z13) ≤ _; omega) (by show 2 * (ph z13 - ph t0) + 2 * (ph z21 - ph z13) ≤ _; omega) ?_
  have gg21 : ph t0 ≤ ph z21 := by omega
  refine J_aload_n X d_Picture_addScan_24 0 rfl rfl ?_
  refine J_get (v := .ref (a 6)) X (fun w h => mm (in_Picture w h)) 3 rfl rfl 2 (by decide) (mm k_fl_Picture_18) rfl rfl d_Picture_addScan_25 ?_
  refine J_iload X d_Picture_addScan_28 4 rfl ?_
  have f30 : ph z21 ≤ ph z := by
    obtain ⟨z30, hz30, h⟩ := j_bind h
    obtain ⟨z41, hz41, h⟩ := j_bind h
    exact Nat.le_trans (Nat.le_trans (Nat.le_trans (Nat.le_refl _) (show ph z21 ≤ ph z30 from p_Numbers_add_6 hz30)) (show ph z30 ≤ ph z41 from p_Numbers_add_6 hz41)) (Nat.le_of_eq (Eq.trans (show ph z41 = ph z41 from rfl) (congrArg ph (show z41 = z from (j_s h)))))
  obtain ⟨z30, hz30, h⟩ := j_bind h
  have g30 : ph t0 ≤ ph z21 := gg21
  have p30 : ph z21 ≤ ph z30 := (show ph z21 ≤ ph z30 from p_Numbers_add_6 hz30)
  have e30 : ph z30 ≤ ph z := by
    obtain ⟨z41, hz41, h⟩ := j_bind h
    exact Nat.le_trans (Nat.le_trans (Nat.le_refl _) (show ph z30 ≤ ph z41 from p_Numbers_add_6 hz41)) (Nat.le_of_eq (Eq.trans (show ph z41 = ph z41 from rfl) (congrArg ph (show z41 = z from (j_s h)))))
  refine J_callVv0 (n := 1) (wc := (wO cI cB cJ cZ (aU a u21) z21)) (w1 := fun u : Nat × Nat × Nat => wO cI cB cJ cZ (aU (aU a u21) u) z30) X isO (hCO cI cB cJ cZ (aU a u21) z21) (hDO cI cB cJ cZ (aU a u21) z21) rfl [.int x4] [] (ct_Numbers_add_6 l dC dI cI cB cJ cZ (aU a u21) n x4 z21 hz30) (aw_V (fun w h => mm h) k_ml_Picture_66 k_im_Numbers_add k_se_Numbers_add k_in_Numbers k_cd_Numbers_add) rfl (by decide +kernel) ⟨(Nat.le_of_ble_eq_true rfl), (Nat.le_of_ble_eq_true rfl)⟩ (q0 := 6) rfl rfl rfl rfl (Nat.le_of_ble_eq_true rfl) d_Picture_addScan_30 ⟨(by show ph z21 - ph t0 + (ph z30 - ph z21) ≤ ph z - ph t0; omega), (by show 2 * (ph z21 - ph t0) + 2 * (ph z30 - ph z21) ≤ 2 * (ph z - ph t0); omega)⟩ (fun u30 => ?_)
  refine J_to _ _ (wO cI cB cJ cZ (aU a u30) z30) rfl rfl rfl ?_
  refine J_widen (ph z30 - ph t0) (2 * (ph z30 - ph t0)) (by show ph z21 - ph t0 + (ph z30 - ph z21) ≤ _; omega) (by show 2 * (ph z21 - ph t0) + 2 * (ph z30 - ph z21) ≤ _; omega) ?_
  have gg30 : ph t0 ≤ ph z30 := by omega
  refine J_aload_n X d_Picture_addScan_33 0 rfl rfl ?_
  refine J_get (v := .ref (a 6)) X (fun w h => mm (in_Picture w h)) 3 rfl rfl 2 (by decide) (mm k_fl_Picture_18) rfl rfl d_Picture_addScan_34 ?_
  refine J_aload_n X d_Picture_addScan_37 0 rfl rfl ?_
  refine J_get (v := .int (z30.1 5)) X (fun w h => mm (in_Picture w h)) 3 rfl rfl 10 (by decide) (mm k_fl_Picture_60) rfl rfl d_Picture_addScan_38 ?_
  have f41 : ph z30 ≤ ph z := by
    obtain ⟨z41, hz41, h⟩ := j_bind h
    exact Nat.le_trans (Nat.le_trans (Nat.le_refl _) (show ph z30 ≤ ph z41 from p_Numbers_add_6 hz41)) (Nat.le_of_eq (Eq.trans (show ph z41 = ph z41 from rfl) (congrArg ph (show z41 = z from (j_s h)))))
  obtain ⟨z41, hz41, h⟩ := j_bind h
  have g41 : ph t0 ≤ ph z30 := gg30
  have p41 : ph z30 ≤ ph z41 := (show ph z30 ≤ ph z41 from p_Numbers_add_6 hz41)
  have e41 : ph z41 ≤ ph z := by
    exact Nat.le_trans (Nat.le_refl _) (Nat.le_of_eq (Eq.trans (show ph z41 = ph z41 from rfl) (congrArg ph (show z41 = z from (j_s h)))))
  refine J_callVv0 (n := 1) (wc := (wO cI cB cJ cZ (aU a u30) z30)) (w1 := fun u : Nat × Nat × Nat => wO cI cB cJ cZ (aU (aU a u30) u) z41) X isO (hCO cI cB cJ cZ (aU a u30) z30) (hDO cI cB cJ cZ (aU a u30) z30) rfl [.int (z30.1 5)] [] (ct_Numbers_add_6 l dC dI cI cB cJ cZ (aU a u30) n (z30.1 5) z30 hz41) (aw_V (fun w h => mm h) k_ml_Picture_66 k_im_Numbers_add k_se_Numbers_add k_in_Numbers k_cd_Numbers_add) rfl (by decide +kernel) ⟨(Nat.le_of_ble_eq_true rfl), (Nat.le_of_ble_eq_true rfl)⟩ (q0 := 6) rfl rfl rfl rfl (Nat.le_of_ble_eq_true rfl) d_Picture_addScan_41 ⟨(by show ph z30 - ph t0 + (ph z41 - ph z30) ≤ ph z - ph t0; omega), (by show 2 * (ph z30 - ph t0) + 2 * (ph z41 - ph z30) ≤ 2 * (ph z - ph t0); omega)⟩ (fun u41 => ?_)
  refine J_to _ _ (wO cI cB cJ cZ (aU a u41) z41) rfl rfl rfl ?_
  refine J_widen (ph z41 - ph t0) (2 * (ph z41 - ph t0)) (by show ph z30 - ph t0 + (ph z41 - ph z30) ≤ _; omega) (by show 2 * (ph z30 - ph t0) + 2 * (ph z41 - ph z30) ≤ _; omega) ?_
  have gg41 : ph t0 ≤ ph z41 := by omega
  exact J_vret X hr hlk u41 (by have e : ph z41 = ph z := (Eq.trans (show ph z41 = ph z41 from rfl) (congrArg ph (show z41 = z from (j_s h)))); show ph z41 - ph t0 ≤ ph z - ph t0; omega) (by have e : ph z41 = ph z := (Eq.trans (show ph z41 = ph z41 from rfl) (congrArg ph (show z41 = z from (j_s h)))); show 2 * (ph z41 - ph t0) ≤ 2 * (ph z - ph t0); omega) (congrArg (fun q => wO cI cB cJ cZ (aU a u41) q) (j_s h)) d_Picture_addScan_44
theorem p_Parser_endData {n : Nat} {x1 : Int32} {x2 : Int32} {x3 : Int32} {t0 : St} {z : St} (h : m_Parser_endData n x1 x2 x3 t0 = some z) : ph t0 ≤ ph z := by
  have G43 : ∀ (x1 : Int32) (x2 : Int32) (t : St), m_Parser_endData_43 n  x1 x2 t = some z → ph t ≤ ph z := by
    intro x1 x2 t h
    unfold m_Parser_endData_43 at h
    obtain ⟨z66, hz66, h⟩ := j_bind h
    exact Nat.le_trans (Nat.le_trans (Nat.le_refl _) (show ph (sG t 12 (0 : Int32)) ≤ ph z66 from p_Picture_addScan hz66)) (Nat.le_of_eq (Eq.trans (show ph z66 = ph z66 from rfl) (congrArg ph (show z66 = z from (j_s h)))))
  have G18 : ∀ (x1 : Int32) (x2 : Int32) (t : St), m_Parser_endData_18 n  x1 x2 t = some z → ph t ≤ ph z := by
    intro x1 x2 t h
    unfold m_Parser_endData_18 at h
    obtain ⟨z23, hz23, h⟩ := j_bind h
    by_cases c26 : z23.1 = 0
    · rw [if_pos c26] at h
      by_cases c36 : (z23.2.1 3) = 0
      · rw [if_pos c36] at h
        obtain ⟨z66, hz66, h⟩ := j_bind h
        exact Nat.le_trans (Nat.le_trans (Nat.le_trans (Nat.le_refl _) (show ph t ≤ ph z23.2 from ph_le (q_Picture_scanCount hz23))) (show ph (sG z23.2 12 (1 : Int32)) ≤ ph z66 from p_Picture_addScan hz66)) (Nat.le_of_eq (Eq.trans (show ph z66 = ph z66 from rfl) (congrArg ph (show z66 = z from (j_s h)))))
      · rw [if_neg c36] at h
        exact Nat.le_trans (Nat.le_trans (Nat.le_refl _) (show ph t ≤ ph z23.2 from ph_le (q_Picture_scanCount hz23))) (G43  x1 x2 z23.2 h)
    · rw [if_neg c26] at h
      exact Nat.le_trans (Nat.le_trans (Nat.le_refl _) (show ph t ≤ ph z23.2 from ph_le (q_Picture_scanCount hz23))) (G43  x1 x2 z23.2 h)
  unfold m_Parser_endData at h
  by_cases c2 : x3 = (-1 : Int32)
  · rw [if_pos c2] at h
    obtain ⟨z14, hz14, h⟩ := j_bind h
    exact Nat.le_trans (Nat.le_trans (Nat.le_refl _) (show ph t0 ≤ ph z14.2 from ph_le (q_Parser_fail hz14))) (G18  x1 x2 z14.2 h)
  · rw [if_neg c2] at h
    exact Nat.le_trans (Nat.le_refl _) (G18  x1 x2 t0 h)
set_option maxHeartbeats 4000000 in
set_option maxRecDepth 100000 in
theorem ct_Parser_endData (l : Launch) (dC : Nat → ClassId) (dI : Nat → Nat → Nat) (cI cB cJ cZ : ClassId) (a : Nat → Nat) (n : Nat) (x1 : Int32) (x2 : Int32) (x3 : Int32) (t0 : St) {z : St} (h : m_Parser_endData n x1 x2 x3 t0 = some z) : jMv l y_Parser_endData w_Parser_endData ({ frames := 4, cells := ph z - ph t0, slots := 2 * (ph z - ph t0), locals := 127 }) (dC, dI) vwCl (tyA cI cB cJ cZ) [.ref (a 11), .int x1, .int x2, .int x3] (wO cI cB cJ cZ a t0) (fun u : Nat × Nat × Nat => wO cI cB cJ cZ (aU a u) z) := by
  refine jMv.of (cc := c_Parser_endData) (maxL := 4) (ret := none) (by decide) rfl (Nat.le_of_ble_eq_true rfl) ?_
  intro p e s m args below meth c A X hr hlk hnm
  have G43 : ∀ (x1 : Int32) (x2 : Int32) (t : St), m_Parser_endData_43 n  x1 x2 t = some z → ph t ≤ ph z := by
    intro x1 x2 t h
    unfold m_Parser_endData_43 at h
    obtain ⟨z66, hz66, h⟩ := j_bind h
    exact Nat.le_trans (Nat.le_trans (Nat.le_refl _) (show ph (sG t 12 (0 : Int32)) ≤ ph z66 from p_Picture_addScan hz66)) (Nat.le_of_eq (Eq.trans (show ph z66 = ph z66 from rfl) (congrArg ph (show z66 = z from (j_s h)))))
  have L43 : ∀ (u : Nat × Nat × Nat) (x1 : Int32) (x2 : Int32) (t : St), ph t0 ≤ ph t → m_Parser_endData_43 n  x1 x2 t = some z → J p l e { frames := 4, cells := ph z - ph t0, slots := 2 * (ph z - ph t0), locals := 127 } s m args below meth c 4 (dC, dI) vwCl A (MQ below (jQv (dC, dI) vwCl (tyA cI cB cJ cZ) (fun u : Nat × Nat × Nat => wO cI cB cJ cZ (aU a u) z) A) args s (ph z - ph t0) (2 * (ph z - ph t0)) A) (ph t - ph t0) (2 * (ph t - ph t0)) 43 [(0, .ref (a 11)), (1, .int x1), (2, .int x2)] [.ref (a 11)] (wO cI cB cJ cZ (aU a u) t) := by
    intro u x1 x2 t hg h
    unfold m_Parser_endData_43 at h
    refine J_iconst (v := (0 : Int32)) X d_Parser_endData_43 (by decide) ?_
    refine J_put (ty := .boolean) (v := .int (0 : Int32)) X (fun w h => mm (in_Parser w h)) ty_Parser tyk_Parser nm_Parser 11 rfl rfl 8 (by decide) (mm k_fl_Parser_36) rfl rfl (by decide +kernel) rfl rfl (Nat.le_of_ble_eq_true rfl) d_Parser_endData_44 (wO cI cB cJ cZ (aU a u) (sG t 12 (0 : Int32))) rfl ?_
    refine J_aload_n X d_Parser_endData_47 0 rfl rfl ?_
    refine J_get (v := .ref (a 3)) X (fun w h => mm (in_Parser w h)) 11 rfl rfl 1 (by decide) (mm k_fl_Parser_50) rfl rfl d_Parser_endData_48 ?_
    refine J_aload_n X d_Parser_endData_51 0 rfl rfl ?_
    refine J_get (v := .ref (a 12)) X (fun w h => mm (in_Parser w h)) 11 rfl rfl 2 (by decide) (mm k_fl_Parser_12) rfl rfl d_Parser_endData_52 ?_
    refine J_getN (v := .int (t.1 15)) X (fun w h => mm (in_Scan w h)) 12 rfl rfl 0 (by decide) k_fln_Parser_184 rfl rfl d_Parser_endData_55 ?_
    refine J_iload_n X d_Parser_endData_58 1 rfl rfl ?_
    refine J_aload_n X d_Parser_endData_59 0 rfl rfl ?_
    refine J_get (v := .int (t.1 9)) X (fun w h => mm (in_Parser w h)) 11 rfl rfl 5 (by decide) (mm k_fl_Parser_26) rfl rfl d_Parser_endData_60 ?_
    refine J_iload_n X d_Parser_endData_63 1 rfl rfl ?_
    refine J_isub X d_Parser_endData_64 ?_
    refine J_iload_n X d_Parser_endData_65 2 rfl rfl ?_
    have f66 : ph t ≤ ph z := by
      obtain ⟨z66, hz66, h⟩ := j_bind h
      exact Nat.le_trans (Nat.le_trans (Nat.le_refl _) (show ph (sG t 12 (0 : Int32)) ≤ ph z66 from p_Picture_addScan hz66)) (Nat.le_of_eq (Eq.trans (show ph z66 = ph z66 from rfl) (congrArg ph (show z66 = z from (j_s h)))))
    obtain ⟨z66, hz66, h⟩ := j_bind h
    have g66 : ph t0 ≤ ph t := hg
    have p66 : ph t ≤ ph z66 := (show ph (sG t 12 (0 : Int32)) ≤ ph z66 from p_Picture_addScan hz66)
    have e66 : ph z66 ≤ ph z := by
      exact Nat.le_trans (Nat.le_refl _) (Nat.le_of_eq (Eq.trans (show ph z66 = ph z66 from rfl) (congrArg ph (show z66 = z from (j_s h)))))
    refine J_callVv0 (n := 4) (wc := (wO cI cB cJ cZ (aU a u) (sG t 12 (0 : Int32)))) (w1 := fun u : Nat × Nat × Nat => wO cI cB cJ cZ (aU (aU a u) u) z66) X isO (hCO cI cB cJ cZ (aU a u) (sG t 12 (0 : Int32))) (hDO cI cB cJ cZ (aU a u) (sG t 12 (0 : Int32))) rfl [.int (t.1 15), .int x1, .int ((t.1 9) - x1), .int x2] [] (ct_Picture_addScan l dC dI cI cB cJ cZ (aU a u) n (t.1 15) x1 ((t.1 9) - x1) x2 (sG t 12 (0 : Int32)) hz66) (aw_V (fun w h => mm h) k_ml_Parser_242 k_im_Picture_addScan k_se_Picture_addScan k_in_Picture k_cd_Picture_addScan) rfl (by decide +kernel) ⟨(Nat.le_of_ble_eq_true rfl), (Nat.le_of_ble_eq_true rfl)⟩ (q0 := 3) rfl rfl rfl rfl (Nat.le_of_ble_eq_true rfl) d_Parser_endData_66 ⟨(by show ph t - ph t0 + (ph z66 - ph t) ≤ ph z - ph t0; omega), (by show 2 * (ph t - ph t0) + 2 * (ph z66 - ph t) ≤ 2 * (ph z - ph t0); omega)⟩ (fun u66 => ?_)
    refine J_to _ _ (wO cI cB cJ cZ (aU a u66) z66) rfl rfl rfl ?_
    refine J_widen (ph z66 - ph t0) (2 * (ph z66 - ph t0)) (by show ph t - ph t0 + (ph z66 - ph t) ≤ _; omega) (by show 2 * (ph t - ph t0) + 2 * (ph z66 - ph t) ≤ _; omega) ?_
    have gg66 : ph t0 ≤ ph z66 := by omega
    exact J_vret X hr hlk u66 (by have e : ph z66 = ph z := (Eq.trans (show ph z66 = ph z66 from rfl) (congrArg ph (show z66 = z from (j_s h)))); show ph z66 - ph t0 ≤ ph z - ph t0; omega) (by have e : ph z66 = ph z := (Eq.trans (show ph z66 = ph z66 from rfl) (congrArg ph (show z66 = z from (j_s h)))); show 2 * (ph z66 - ph t0) ≤ 2 * (ph z - ph t0); omega) (congrArg (fun q => wO cI cB cJ cZ (aU a u66) q) (j_s h)) d_Parser_endData_69
  have G18 : ∀ (x1 : Int32) (x2 : Int32) (t : St), m_Parser_endData_18 n  x1 x2 t = some z → ph t ≤ ph z := by
    intro x1 x2 t h
    unfold m_Parser_endData_18 at h
    obtain ⟨z23, hz23, h⟩ := j_bind h
    by_cases c26 : z23.1 = 0
    · rw [if_pos c26] at h
      by_cases c36 : (z23.2.1 3) = 0
      · rw [if_pos c36] at h
        obtain ⟨z66, hz66, h⟩ := j_bind h
        exact Nat.le_trans (Nat.le_trans (Nat.le_trans (Nat.le_refl _) (show ph t ≤ ph z23.2 from ph_le (q_Picture_scanCount hz23))) (show ph (sG z23.2 12 (1 : Int32)) ≤ ph z66 from p_Picture_addScan hz66)) (Nat.le_of_eq (Eq.trans (show ph z66 = ph z66 from rfl) (congrArg ph (show z66 = z from (j_s h)))))
      · rw [if_neg c36] at h
        exact Nat.le_trans (Nat.le_trans (Nat.le_refl _) (show ph t ≤ ph z23.2 from ph_le (q_Picture_scanCount hz23))) (G43  x1 x2 z23.2 h)
    · rw [if_neg c26] at h
      exact Nat.le_trans (Nat.le_trans (Nat.le_refl _) (show ph t ≤ ph z23.2 from ph_le (q_Picture_scanCount hz23))) (G43  x1 x2 z23.2 h)
  have L18 : ∀ (u : Nat × Nat × Nat) (x1 : Int32) (x2 : Int32) (t : St), ph t0 ≤ ph t → m_Parser_endData_18 n  x1 x2 t = some z → J p l e { frames := 4, cells := ph z - ph t0, slots := 2 * (ph z - ph t0), locals := 127 } s m args below meth c 4 (dC, dI) vwCl A (MQ below (jQv (dC, dI) vwCl (tyA cI cB cJ cZ) (fun u : Nat × Nat × Nat => wO cI cB cJ cZ (aU a u) z) A) args s (ph z - ph t0) (2 * (ph z - ph t0)) A) (ph t - ph t0) (2 * (ph t - ph t0)) 18 [(0, .ref (a 11)), (1, .int x1), (2, .int x2)] [] (wO cI cB cJ cZ (aU a u) t) := by
    intro u x1 x2 t hg h
    unfold m_Parser_endData_18 at h
    refine J_aload_n X d_Parser_endData_18 0 rfl rfl ?_
    refine J_aload_n X d_Parser_endData_19 0 rfl rfl ?_
    refine J_get (v := .ref (a 3)) X (fun w h => mm (in_Parser w h)) 11 rfl rfl 1 (by decide) (mm k_fl_Parser_50) rfl rfl d_Parser_endData_20 ?_
    have f23 : ph t ≤ ph z := by
      obtain ⟨z23, hz23, h⟩ := j_bind h
      by_cases c26 : z23.1 = 0
      · rw [if_pos c26] at h
        by_cases c36 : (z23.2.1 3) = 0
        · rw [if_pos c36] at h
          obtain ⟨z66, hz66, h⟩ := j_bind h
          exact Nat.le_trans (Nat.le_trans (Nat.le_trans (Nat.le_refl _) (show ph t ≤ ph z23.2 from ph_le (q_Picture_scanCount hz23))) (show ph (sG z23.2 12 (1 : Int32)) ≤ ph z66 from p_Picture_addScan hz66)) (Nat.le_of_eq (Eq.trans (show ph z66 = ph z66 from rfl) (congrArg ph (show z66 = z from (j_s h)))))
        · rw [if_neg c36] at h
          exact Nat.le_trans (Nat.le_trans (Nat.le_refl _) (show ph t ≤ ph z23.2 from ph_le (q_Picture_scanCount hz23))) (G43  x1 x2 z23.2 h)
      · rw [if_neg c26] at h
        exact Nat.le_trans (Nat.le_trans (Nat.le_refl _) (show ph t ≤ ph z23.2 from ph_le (q_Picture_scanCount hz23))) (G43  x1 x2 z23.2 h)
    obtain ⟨z23, hz23, h⟩ := j_bind h
    have g23 : ph t0 ≤ ph t := hg
    have p23 : ph t = ph z23.2 := (show ph t = ph z23.2 from ph_eq (q_Picture_scanCount hz23))
    refine J_callVi0 (n := 0) (wc := (wO cI cB cJ cZ (aU a u) t)) (r := z23.1) (w1 := fun _ : Unit => wO cI cB cJ cZ (aU a u) z23.2) X isO (hCO cI cB cJ cZ (aU a u) t) (hDO cI cB cJ cZ (aU a u) t) rfl [] [.ref (a 11)] (ct_Picture_scanCount l dC dI cI cB cJ cZ (aU a u) n t hz23) (aw_V (fun w h => mm h) k_ml_Parser_239 k_im_Picture_scanCount k_se_Picture_scanCount k_in_Picture k_cd_Picture_scanCount) rfl (by decide +kernel) ⟨(Nat.le_of_ble_eq_true rfl), (Nat.le_of_ble_eq_true rfl)⟩ (q0 := 3) rfl rfl rfl rfl (Nat.le_of_ble_eq_true rfl) d_Parser_endData_23 ⟨(by show ph t - ph t0 + 0 ≤ ph z - ph t0; omega), (by show 2 * (ph t - ph t0) + 0 ≤ 2 * (ph z - ph t0); omega)⟩ (fun _ => ?_)
    refine J_widen (ph z23.2 - ph t0) (2 * (ph z23.2 - ph t0)) (by show ph t - ph t0 + 0 ≤ _; omega) (by show 2 * (ph t - ph t0) + 0 ≤ _; omega) ?_
    have gg23 : ph t0 ≤ ph z23.2 := by omega
    refine J_if_ne X 43 d_Parser_endData_26 (by decide) (fun c26 => ?_) (fun c26 => ?_)
    · rw [if_neg c26] at h
      refine J_lv [0, 1, 2] [(0, .ref (a 11)), (1, .int x1), (2, .int x2)] rfl ?_
      exact L43  u x1 x2 z23.2 gg23 h
    · rw [if_pos c26] at h
      refine J_aload_n X d_Parser_endData_29 0 rfl rfl ?_
      refine J_get (v := .ref (a 3)) X (fun w h => mm (in_Parser w h)) 11 rfl rfl 1 (by decide) (mm k_fl_Parser_50) rfl rfl d_Parser_endData_30 ?_
      refine J_getN (v := .int (z23.2.1 3)) X (fun w h => mm (in_Picture w h)) 3 rfl rfl 8 (by decide) k_fln_Parser_141 rfl rfl d_Parser_endData_33 ?_
      refine J_if_ne X 43 d_Parser_endData_36 (by decide) (fun c36 => ?_) (fun c36 => ?_)
      · rw [if_neg c36] at h
        refine J_lv [0, 1, 2] [(0, .ref (a 11)), (1, .int x1), (2, .int x2)] rfl ?_
        exact L43  u x1 x2 z23.2 gg23 h
      · rw [if_pos c36] at h
        refine J_iconst (v := (1 : Int32)) X d_Parser_endData_39 (by decide) ?_
        refine J_goto X 44 d_Parser_endData_40 (by decide) ?_
        refine J_put (ty := .boolean) (v := .int (1 : Int32)) X (fun w h => mm (in_Parser w h)) ty_Parser tyk_Parser nm_Parser 11 rfl rfl 8 (by decide) (mm k_fl_Parser_36) rfl rfl (by decide +kernel) rfl rfl (Nat.le_of_ble_eq_true rfl) d_Parser_endData_44 (wO cI cB cJ cZ (aU a u) (sG z23.2 12 (1 : Int32))) rfl ?_
        refine J_aload_n X d_Parser_endData_47 0 rfl rfl ?_
        refine J_get (v := .ref (a 3)) X (fun w h => mm (in_Parser w h)) 11 rfl rfl 1 (by decide) (mm k_fl_Parser_50) rfl rfl d_Parser_endData_48 ?_
        refine J_aload_n X d_Parser_endData_51 0 rfl rfl ?_
        refine J_get (v := .ref (a 12)) X (fun w h => mm (in_Parser w h)) 11 rfl rfl 2 (by decide) (mm k_fl_Parser_12) rfl rfl d_Parser_endData_52 ?_
        refine J_getN (v := .int (z23.2.1 15)) X (fun w h => mm (in_Scan w h)) 12 rfl rfl 0 (by decide) k_fln_Parser_184 rfl rfl d_Parser_endData_55 ?_
        refine J_iload_n X d_Parser_endData_58 1 rfl rfl ?_
        refine J_aload_n X d_Parser_endData_59 0 rfl rfl ?_
        refine J_get (v := .int (z23.2.1 9)) X (fun w h => mm (in_Parser w h)) 11 rfl rfl 5 (by decide) (mm k_fl_Parser_26) rfl rfl d_Parser_endData_60 ?_
        refine J_iload_n X d_Parser_endData_63 1 rfl rfl ?_
        refine J_isub X d_Parser_endData_64 ?_
        refine J_iload_n X d_Parser_endData_65 2 rfl rfl ?_
        have f66 : ph z23.2 ≤ ph z := by
          obtain ⟨z66, hz66, h⟩ := j_bind h
          exact Nat.le_trans (Nat.le_trans (Nat.le_refl _) (show ph (sG z23.2 12 (1 : Int32)) ≤ ph z66 from p_Picture_addScan hz66)) (Nat.le_of_eq (Eq.trans (show ph z66 = ph z66 from rfl) (congrArg ph (show z66 = z from (j_s h)))))
        obtain ⟨z66, hz66, h⟩ := j_bind h
        have g66 : ph t0 ≤ ph z23.2 := gg23
        have p66 : ph z23.2 ≤ ph z66 := (show ph (sG z23.2 12 (1 : Int32)) ≤ ph z66 from p_Picture_addScan hz66)
        have e66 : ph z66 ≤ ph z := by
          exact Nat.le_trans (Nat.le_refl _) (Nat.le_of_eq (Eq.trans (show ph z66 = ph z66 from rfl) (congrArg ph (show z66 = z from (j_s h)))))
        refine J_callVv0 (n := 4) (wc := (wO cI cB cJ cZ (aU a u) (sG z23.2 12 (1 : Int32)))) (w1 := fun u : Nat × Nat × Nat => wO cI cB cJ cZ (aU (aU a u) u) z66) X isO (hCO cI cB cJ cZ (aU a u) (sG z23.2 12 (1 : Int32))) (hDO cI cB cJ cZ (aU a u) (sG z23.2 12 (1 : Int32))) rfl [.int (z23.2.1 15), .int x1, .int ((z23.2.1 9) - x1), .int x2] [] (ct_Picture_addScan l dC dI cI cB cJ cZ (aU a u) n (z23.2.1 15) x1 ((z23.2.1 9) - x1) x2 (sG z23.2 12 (1 : Int32)) hz66) (aw_V (fun w h => mm h) k_ml_Parser_242 k_im_Picture_addScan k_se_Picture_addScan k_in_Picture k_cd_Picture_addScan) rfl (by decide +kernel) ⟨(Nat.le_of_ble_eq_true rfl), (Nat.le_of_ble_eq_true rfl)⟩ (q0 := 3) rfl rfl rfl rfl (Nat.le_of_ble_eq_true rfl) d_Parser_endData_66 ⟨(by show ph z23.2 - ph t0 + (ph z66 - ph z23.2) ≤ ph z - ph t0; omega), (by show 2 * (ph z23.2 - ph t0) + 2 * (ph z66 - ph z23.2) ≤ 2 * (ph z - ph t0); omega)⟩ (fun u66 => ?_)
        refine J_to _ _ (wO cI cB cJ cZ (aU a u66) z66) rfl rfl rfl ?_
        refine J_widen (ph z66 - ph t0) (2 * (ph z66 - ph t0)) (by show ph z23.2 - ph t0 + (ph z66 - ph z23.2) ≤ _; omega) (by show 2 * (ph z23.2 - ph t0) + 2 * (ph z66 - ph z23.2) ≤ _; omega) ?_
        have gg66 : ph t0 ≤ ph z66 := by omega
        exact J_vret X hr hlk u66 (by have e : ph z66 = ph z := (Eq.trans (show ph z66 = ph z66 from rfl) (congrArg ph (show z66 = z from (j_s h)))); show ph z66 - ph t0 ≤ ph z - ph t0; omega) (by have e : ph z66 = ph z := (Eq.trans (show ph z66 = ph z66 from rfl) (congrArg ph (show z66 = z from (j_s h)))); show 2 * (ph z66 - ph t0) ≤ 2 * (ph z - ph t0); omega) (congrArg (fun q => wO cI cB cJ cZ (aU a u66) q) (j_s h)) d_Parser_endData_69
  refine J_lv [0, 1, 2, 3] [(0, .ref (a 11)), (1, .int x1), (2, .int x2), (3, .int x3)] rfl ?_
  refine J_to _ _ (wO cI cB cJ cZ (aU a (a 2, a 5, a 7)) t0) rfl rfl rfl ?_
  refine J_widen (ph t0 - ph t0) (2 * (ph t0 - ph t0)) (Nat.zero_le _) (Nat.zero_le _) ?_
  unfold m_Parser_endData at h
  refine J_iload_n X d_Parser_endData_0 3 rfl rfl ?_
  refine J_iconst (v := (-1 : Int32)) X d_Parser_endData_1 (by decide) ?_
  refine J_icmp_ne X 18 d_Parser_endData_2 (by decide) (fun c2 => ?_) (fun c2 => ?_)
  · rw [if_neg c2] at h
    refine J_lv [0, 1, 2] [(0, .ref (a 11)), (1, .int x1), (2, .int x2)] rfl ?_
    exact L18  (a 2, a 5, a 7) x1 x2 t0 (Nat.le_refl (ph t0)) h
  · rw [if_pos c2] at h
    refine J_aload_n X d_Parser_endData_5 0 rfl rfl ?_
    refine J_iconst (v := (1 : Int32)) X d_Parser_endData_6 (by decide) ?_
    refine J_aload_n X d_Parser_endData_7 0 rfl rfl ?_
    refine J_get (v := .ref (a 1)) X (fun w h => mm (in_Parser w h)) 11 rfl rfl 0 (by decide) (mm k_fl_Parser_46) rfl rfl d_Parser_endData_8 ?_
    refine J_getN (v := .int (t0.1 0)) X (fun w h => mm (in_Bytes w h)) 1 rfl rfl 1 (by decide) k_fln_Parser_68 rfl rfl d_Parser_endData_11 ?_
    have f14 : ph t0 ≤ ph z := by
      obtain ⟨z14, hz14, h⟩ := j_bind h
      exact Nat.le_trans (Nat.le_trans (Nat.le_refl _) (show ph t0 ≤ ph z14.2 from ph_le (q_Parser_fail hz14))) (G18  x1 x2 z14.2 h)
    obtain ⟨z14, hz14, h⟩ := j_bind h
    have g14 : ph t0 ≤ ph t0 := (Nat.le_refl (ph t0))
    have p14 : ph t0 = ph z14.2 := (show ph t0 = ph z14.2 from ph_eq (q_Parser_fail hz14))
    refine J_callVi0 (n := 2) (wc := (wO cI cB cJ cZ (aU a (a 2, a 5, a 7)) t0)) (r := z14.1) (w1 := fun _ : Unit => wO cI cB cJ cZ (aU a (a 2, a 5, a 7)) z14.2) X isO (hCO cI cB cJ cZ (aU a (a 2, a 5, a 7)) t0) (hDO cI cB cJ cZ (aU a (a 2, a 5, a 7)) t0) rfl [.int (1 : Int32), .int (t0.1 0)] [] (ct_Parser_fail l dC dI cI cB cJ cZ (aU a (a 2, a 5, a 7)) n (1 : Int32) (t0.1 0) t0 hz14) (aw_V (fun w h => mm h) k_ml_Parser_77 k_im_Parser_fail k_se_Parser_fail k_in_Parser k_cd_Parser_fail) rfl (by decide +kernel) ⟨(Nat.le_of_ble_eq_true rfl), (Nat.le_of_ble_eq_true rfl)⟩ (q0 := 11) rfl rfl rfl rfl (Nat.le_of_ble_eq_true rfl) d_Parser_endData_14 ⟨(by show ph t0 - ph t0 + 0 ≤ ph z - ph t0; omega), (by show 2 * (ph t0 - ph t0) + 0 ≤ 2 * (ph z - ph t0); omega)⟩ (fun _ => ?_)
    refine J_widen (ph z14.2 - ph t0) (2 * (ph z14.2 - ph t0)) (by show ph t0 - ph t0 + 0 ≤ _; omega) (by show 2 * (ph t0 - ph t0) + 0 ≤ _; omega) ?_
    have gg14 : ph t0 ≤ ph z14.2 := by omega
    refine J_pop X d_Parser_endData_17 rfl ?_
    refine J_lv [0, 1, 2] [(0, .ref (a 11)), (1, .int x1), (2, .int x2)] rfl ?_
    exact L18  (a 2, a 5, a 7) x1 x2 z14.2 gg14 h
theorem p_Parser_readData {n : Nat}  {t0 : St} {z : St} (h : m_Parser_readData n t0 = some z) : ph t0 ≤ ph z := by
  have G139 : ∀  (t : St), m_Parser_readData_139 n   t = some z → ph t ≤ ph z := by
    intro  t h
    unfold m_Parser_readData_139 at h
    obtain ⟨z148, hz148, h⟩ := j_bind h
    exact Nat.le_trans (Nat.le_trans (Nat.le_refl _) (show ph t ≤ ph z148.2 from ph_le (q_Parser_fail hz148))) (Nat.le_of_eq (Eq.trans (show ph z148.2 = ph z148.2 from rfl) (congrArg ph (show z148.2 = z from (j_s h)))))
  have G126 : ∀ (K7 : Int32 → Int32 → St → Option (St)) (hK7 : ∀ (x1 : Int32) (x2 : Int32) (t : St), K7 x1 x2 t = some z → ph t ≤ ph z) (x1 : Int32) (x2 : Int32) (t : St), m_Parser_readData_126 n K7 x1 x2 t = some z → ph t ≤ ph z := by
    intro K7 hK7 x1 x2 t h
    unfold m_Parser_readData_126 at h
    exact Nat.le_trans (Nat.le_refl _) (hK7 x1 x2 (sG t 9 ((t.1 9) + (2 : Int32))) h)
  have G109 : ∀ (K7 : Int32 → Int32 → St → Option (St)) (hK7 : ∀ (x1 : Int32) (x2 : Int32) (t : St), K7 x1 x2 t = some z → ph t ≤ ph z) (x1 : Int32) (x2 : Int32) (x3 : Int32) (x4 : Int32) (t : St), m_Parser_readData_109 n K7 x1 x2 x3 x4 t = some z → ph t ≤ ph z := by
    intro K7 hK7 x1 x2 x3 x4 t h
    unfold m_Parser_readData_109 at h
    by_cases c110 : x3 = 0
    · rw [if_pos c110] at h
      exact Nat.le_trans (Nat.le_refl _) (G126 K7 hK7 x1 x2 t h)
    · rw [if_neg c110] at h
      by_cases c115 : x4 = 0
      · rw [if_pos c115] at h
        obtain ⟨z122, hz122, h⟩ := j_bind h
        exact Nat.le_trans (Nat.le_trans (Nat.le_refl _) (show ph t ≤ ph z122 from p_Parser_endData hz122)) (Nat.le_of_eq (Eq.trans (show ph z122 = ph z122 from rfl) (congrArg ph (show z122 = z from (j_s h)))))
      · rw [if_neg c115] at h
        exact Nat.le_trans (Nat.le_refl _) (G126 K7 hK7 x1 x2 t h)
  have G99 : ∀ (K7 : Int32 → Int32 → St → Option (St)) (hK7 : ∀ (x1 : Int32) (x2 : Int32) (t : St), K7 x1 x2 t = some z → ph t ≤ ph z) (x1 : Int32) (x2 : Int32) (x3 : Int32) (y0 : Int32) (t : St), m_Parser_readData_99 n K7 x1 x2 x3 y0 t = some z → ph t ≤ ph z := by
    intro K7 hK7 x1 x2 x3 y0 t h
    unfold m_Parser_readData_99 at h
    by_cases c103 : y0 = 0
    · rw [if_pos c103] at h
      exact Nat.le_trans (Nat.le_refl _) (G109 K7 hK7 x1 x2 x3 y0 t h)
    · rw [if_neg c103] at h
      exact Nat.le_trans (Nat.le_refl _) (G109 K7 hK7 x1 (x2 + 1) x3 y0 t h)
  have G98 : ∀ (K7 : Int32 → Int32 → St → Option (St)) (hK7 : ∀ (x1 : Int32) (x2 : Int32) (t : St), K7 x1 x2 t = some z → ph t ≤ ph z) (x1 : Int32) (x2 : Int32) (x3 : Int32) (t : St), m_Parser_readData_98 n K7 x1 x2 x3 t = some z → ph t ≤ ph z := by
    intro K7 hK7 x1 x2 x3 t h
    unfold m_Parser_readData_98 at h
    exact Nat.le_trans (Nat.le_refl _) (G99 K7 hK7 x1 x2 x3 (0 : Int32) t h)
  have G7 : ∀ (k : Nat) (x1 : Int32) (x2 : Int32) (t : St), m_Parser_readData_7 n  k x1 x2 t = some z → ph t ≤ ph z := by
    intro k
    induction k with
    | zero => intro x1 x2 t h; exact absurd (show none = some z from h) (by simp)
    | succ k ih =>
      intro x1 x2 t h
      change m_Parser_readData_7b n  (m_Parser_readData_7 n  k) x1 x2 t = some z at h
      unfold m_Parser_readData_7b at h
      by_cases c11 : (t.1 13) = 0
      · rw [if_pos c11] at h
        by_cases c25 : (t.1 0) ≤ (t.1 9)
        · rw [if_pos c25] at h
          exact Nat.le_trans (Nat.le_refl _) (G139  t h)
        · rw [if_neg c25] at h
          obtain ⟨z36, hz36, h⟩ := j_bind h
          by_cases c42 : z36.1 = (255 : Int32)
          · rw [if_pos c42] at h
            obtain ⟨z68, hz68, h⟩ := j_bind h
            by_cases c79 : (z68.2.1 5) ≤ 0
            · rw [if_pos c79] at h
              exact Nat.le_trans (Nat.le_trans (Nat.le_trans (Nat.le_refl _) (show ph t ≤ ph z36.2 from ph_le (q_Bytes_at hz36))) (show ph z36.2 ≤ ph z68.2 from ph_le (q_Bytes_at hz68))) (G98 (m_Parser_readData_7 n  k) ih x1 x2 z68.1 z68.2 h)
            · rw [if_neg c79] at h
              by_cases c91 : z68.1 = ((208 : Int32) + (x2 - x2 / (8 : Int32) * (8 : Int32)))
              · rw [if_pos c91] at h
                exact Nat.le_trans (Nat.le_trans (Nat.le_trans (Nat.le_refl _) (show ph t ≤ ph z36.2 from ph_le (q_Bytes_at hz36))) (show ph z36.2 ≤ ph z68.2 from ph_le (q_Bytes_at hz68))) (G99 (m_Parser_readData_7 n  k) ih x1 x2 z68.1 (1 : Int32) z68.2 h)
              · rw [if_neg c91] at h
                exact Nat.le_trans (Nat.le_trans (Nat.le_trans (Nat.le_refl _) (show ph t ≤ ph z36.2 from ph_le (q_Bytes_at hz36))) (show ph z36.2 ≤ ph z68.2 from ph_le (q_Bytes_at hz68))) (G98 (m_Parser_readData_7 n  k) ih x1 x2 z68.1 z68.2 h)
          · rw [if_neg c42] at h
            exact Nat.le_trans (Nat.le_trans (Nat.le_refl _) (show ph t ≤ ph z36.2 from ph_le (q_Bytes_at hz36))) (ih x1 x2 (sG z36.2 9 ((z36.2.1 9) + (1 : Int32))) h)
      · rw [if_neg c11] at h
        exact Nat.le_trans (Nat.le_refl _) (G139  t h)
  unfold m_Parser_readData at h
  exact Nat.le_trans (Nat.le_refl _) (G7  n (t0.1 9) (0 : Int32) t0 h)
set_option maxHeartbeats 4000000 in
set_option maxRecDepth 100000 in
theorem ct_Parser_readData (l : Launch) (dC : Nat → ClassId) (dI : Nat → Nat → Nat) (cI cB cJ cZ : ClassId) (a : Nat → Nat) (n : Nat)  (t0 : St) {z : St} (h : m_Parser_readData n t0 = some z) : jMv l y_Parser_readData w_Parser_readData ({ frames := 5, cells := ph z - ph t0, slots := 2 * (ph z - ph t0), locals := 150 }) (dC, dI) vwCl (tyA cI cB cJ cZ) [.ref (a 11)] (wO cI cB cJ cZ a t0) (fun u : Nat × Nat × Nat => wO cI cB cJ cZ (aU a u) z) := by
  refine jMv.of (cc := c_Parser_readData) (maxL := 5) (ret := none) (by decide) rfl (Nat.le_of_ble_eq_true rfl) ?_
  intro p e s m args below meth c A X hr hlk hnm
  have G139 : ∀  (t : St), m_Parser_readData_139 n   t = some z → ph t ≤ ph z := by
    intro  t h
    unfold m_Parser_readData_139 at h
    obtain ⟨z148, hz148, h⟩ := j_bind h
    exact Nat.le_trans (Nat.le_trans (Nat.le_refl _) (show ph t ≤ ph z148.2 from ph_le (q_Parser_fail hz148))) (Nat.le_of_eq (Eq.trans (show ph z148.2 = ph z148.2 from rfl) (congrArg ph (show z148.2 = z from (j_s h)))))
  have L139 : ∀ (u : Nat × Nat × Nat)  (t : St), ph t0 ≤ ph t → m_Parser_readData_139 n   t = some z → J p l e { frames := 5, cells := ph z - ph t0, slots := 2 * (ph z - ph t0), locals := 150 } s m args below meth c 5 (dC, dI) vwCl A (MQ below (jQv (dC, dI) vwCl (tyA cI cB cJ cZ) (fun u : Nat × Nat × Nat => wO cI cB cJ cZ (aU a u) z) A) args s (ph z - ph t0) (2 * (ph z - ph t0)) A) (ph t - ph t0) (2 * (ph t - ph t0)) 139 [(0, .ref (a 11))] [] (wO cI cB cJ cZ (aU a u) t) := by
    intro u  t hg h
    unfold m_Parser_readData_139 at h
    refine J_aload_n X d_Parser_readData_139 0 rfl rfl ?_
    refine J_iconst (v := (1 : Int32)) X d_Parser_readData_140 (by decide) ?_
    refine J_aload_n X d_Parser_readData_141 0 rfl rfl ?_
    refine J_get (v := .ref (a 1)) X (fun w h => mm (in_Parser w h)) 11 rfl rfl 0 (by decide) (mm k_fl_Parser_46) rfl rfl d_Parser_readData_142 ?_
    refine J_getN (v := .int (t.1 0)) X (fun w h => mm (in_Bytes w h)) 1 rfl rfl 1 (by decide) k_fln_Parser_68 rfl rfl d_Parser_readData_145 ?_
    have f148 : ph t ≤ ph z := by
      obtain ⟨z148, hz148, h⟩ := j_bind h
      exact Nat.le_trans (Nat.le_trans (Nat.le_refl _) (show ph t ≤ ph z148.2 from ph_le (q_Parser_fail hz148))) (Nat.le_of_eq (Eq.trans (show ph z148.2 = ph z148.2 from rfl) (congrArg ph (show z148.2 = z from (j_s h)))))
    obtain ⟨z148, hz148, h⟩ := j_bind h
    have g148 : ph t0 ≤ ph t := hg
    have p148 : ph t = ph z148.2 := (show ph t = ph z148.2 from ph_eq (q_Parser_fail hz148))
    refine J_callVi0 (n := 2) (wc := (wO cI cB cJ cZ (aU a u) t)) (r := z148.1) (w1 := fun _ : Unit => wO cI cB cJ cZ (aU a u) z148.2) X isO (hCO cI cB cJ cZ (aU a u) t) (hDO cI cB cJ cZ (aU a u) t) rfl [.int (1 : Int32), .int (t.1 0)] [] (ct_Parser_fail l dC dI cI cB cJ cZ (aU a u) n (1 : Int32) (t.1 0) t hz148) (aw_V (fun w h => mm h) k_ml_Parser_77 k_im_Parser_fail k_se_Parser_fail k_in_Parser k_cd_Parser_fail) rfl (by decide +kernel) ⟨(Nat.le_of_ble_eq_true rfl), (Nat.le_of_ble_eq_true rfl)⟩ (q0 := 11) rfl rfl rfl rfl (Nat.le_of_ble_eq_true rfl) d_Parser_readData_148 ⟨(by show ph t - ph t0 + 0 ≤ ph z - ph t0; omega), (by show 2 * (ph t - ph t0) + 0 ≤ 2 * (ph z - ph t0); omega)⟩ (fun _ => ?_)
    refine J_widen (ph z148.2 - ph t0) (2 * (ph z148.2 - ph t0)) (by show ph t - ph t0 + 0 ≤ _; omega) (by show 2 * (ph t - ph t0) + 0 ≤ _; omega) ?_
    have gg148 : ph t0 ≤ ph z148.2 := by omega
    refine J_pop X d_Parser_readData_151 rfl ?_
    exact J_vret X hr hlk u (by have e : ph z148.2 = ph z := (Eq.trans (show ph z148.2 = ph z148.2 from rfl) (congrArg ph (show z148.2 = z from (j_s h)))); show ph z148.2 - ph t0 ≤ ph z - ph t0; omega) (by have e : ph z148.2 = ph z := (Eq.trans (show ph z148.2 = ph z148.2 from rfl) (congrArg ph (show z148.2 = z from (j_s h)))); show 2 * (ph z148.2 - ph t0) ≤ 2 * (ph z - ph t0); omega) (congrArg (fun q => wO cI cB cJ cZ (aU a u) q) (j_s h)) d_Parser_readData_152
  have G126 : ∀ (K7 : Int32 → Int32 → St → Option (St)) (gK7 : ∀ (x1 : Int32) (x2 : Int32) (t : St), K7 x1 x2 t = some z → ph t ≤ ph z) (x1 : Int32) (x2 : Int32) (t : St), m_Parser_readData_126 n K7 x1 x2 t = some z → ph t ≤ ph z := by
    intro K7 gK7 x1 x2 t h
    unfold m_Parser_readData_126 at h
    exact Nat.le_trans (Nat.le_refl _) (gK7 x1 x2 (sG t 9 ((t.1 9) + (2 : Int32))) h)
  have L126 : ∀ (K7 : Int32 → Int32 → St → Option (St)) (gK7 : ∀ (x1 : Int32) (x2 : Int32) (t : St), K7 x1 x2 t = some z → ph t ≤ ph z) (hK7 : ∀ (u : Nat × Nat × Nat) (x1 : Int32) (x2 : Int32) (t : St), ph t0 ≤ ph t → K7 x1 x2 t = some z → J p l e { frames := 5, cells := ph z - ph t0, slots := 2 * (ph z - ph t0), locals := 150 } s m args below meth c 5 (dC, dI) vwCl A (MQ below (jQv (dC, dI) vwCl (tyA cI cB cJ cZ) (fun u : Nat × Nat × Nat => wO cI cB cJ cZ (aU a u) z) A) args s (ph z - ph t0) (2 * (ph z - ph t0)) A) (ph t - ph t0) (2 * (ph t - ph t0)) 7 [(0, .ref (a 11)), (1, .int x1), (2, .int x2)] [] (wO cI cB cJ cZ (aU a u) t)) (u : Nat × Nat × Nat) (x1 : Int32) (x2 : Int32) (t : St), ph t0 ≤ ph t → m_Parser_readData_126 n K7 x1 x2 t = some z → J p l e { frames := 5, cells := ph z - ph t0, slots := 2 * (ph z - ph t0), locals := 150 } s m args below meth c 5 (dC, dI) vwCl A (MQ below (jQv (dC, dI) vwCl (tyA cI cB cJ cZ) (fun u : Nat × Nat × Nat => wO cI cB cJ cZ (aU a u) z) A) args s (ph z - ph t0) (2 * (ph z - ph t0)) A) (ph t - ph t0) (2 * (ph t - ph t0)) 126 [(0, .ref (a 11)), (1, .int x1), (2, .int x2)] [] (wO cI cB cJ cZ (aU a u) t) := by
    intro K7 gK7 hK7 u x1 x2 t hg h
    unfold m_Parser_readData_126 at h
    refine J_aload_n X d_Parser_readData_126 0 rfl rfl ?_
    refine J_dup X d_Parser_readData_127 rfl ?_
    refine J_get (v := .int (t.1 9)) X (fun w h => mm (in_Parser w h)) 11 rfl rfl 5 (by decide) (mm k_fl_Parser_26) rfl rfl d_Parser_readData_128 ?_
    refine J_iconst (v := (2 : Int32)) X d_Parser_readData_131 (by decide) ?_
    refine J_iadd X d_Parser_readData_132 ?_
    refine J_put (ty := .int) (v := .int ((t.1 9) + (2 : Int32))) X (fun w h => mm (in_Parser w h)) ty_Parser tyk_Parser nm_Parser 11 rfl rfl 5 (by decide) (mm k_fl_Parser_26) rfl rfl (by decide +kernel) rfl rfl (Nat.le_of_ble_eq_true rfl) d_Parser_readData_133 (wO cI cB cJ cZ (aU a u) (sG t 9 ((t.1 9) + (2 : Int32)))) rfl ?_
    refine J_goto X 7 d_Parser_readData_136 (by decide) ?_
    refine J_lv [0, 1, 2] [(0, .ref (a 11)), (1, .int x1), (2, .int x2)] rfl ?_
    exact hK7 u x1 x2 (sG t 9 ((t.1 9) + (2 : Int32))) hg h
  have G109 : ∀ (K7 : Int32 → Int32 → St → Option (St)) (gK7 : ∀ (x1 : Int32) (x2 : Int32) (t : St), K7 x1 x2 t = some z → ph t ≤ ph z) (x1 : Int32) (x2 : Int32) (x3 : Int32) (x4 : Int32) (t : St), m_Parser_readData_109 n K7 x1 x2 x3 x4 t = some z → ph t ≤ ph z := by
    intro K7 gK7 x1 x2 x3 x4 t h
    unfold m_Parser_readData_109 at h
    by_cases c110 : x3 = 0
    · rw [if_pos c110] at h
      exact Nat.le_trans (Nat.le_refl _) (G126 K7 gK7 x1 x2 t h)
    · rw [if_neg c110] at h
      by_cases c115 : x4 = 0
      · rw [if_pos c115] at h
        obtain ⟨z122, hz122, h⟩ := j_bind h
        exact Nat.le_trans (Nat.le_trans (Nat.le_refl _) (show ph t ≤ ph z122 from p_Parser_endData hz122)) (Nat.le_of_eq (Eq.trans (show ph z122 = ph z122 from rfl) (congrArg ph (show z122 = z from (j_s h)))))
      · rw [if_neg c115] at h
        exact Nat.le_trans (Nat.le_refl _) (G126 K7 gK7 x1 x2 t h)
  have L109 : ∀ (K7 : Int32 → Int32 → St → Option (St)) (gK7 : ∀ (x1 : Int32) (x2 : Int32) (t : St), K7 x1 x2 t = some z → ph t ≤ ph z) (hK7 : ∀ (u : Nat × Nat × Nat) (x1 : Int32) (x2 : Int32) (t : St), ph t0 ≤ ph t → K7 x1 x2 t = some z → J p l e { frames := 5, cells := ph z - ph t0, slots := 2 * (ph z - ph t0), locals := 150 } s m args below meth c 5 (dC, dI) vwCl A (MQ below (jQv (dC, dI) vwCl (tyA cI cB cJ cZ) (fun u : Nat × Nat × Nat => wO cI cB cJ cZ (aU a u) z) A) args s (ph z - ph t0) (2 * (ph z - ph t0)) A) (ph t - ph t0) (2 * (ph t - ph t0)) 7 [(0, .ref (a 11)), (1, .int x1), (2, .int x2)] [] (wO cI cB cJ cZ (aU a u) t)) (u : Nat × Nat × Nat) (x1 : Int32) (x2 : Int32) (x3 : Int32) (x4 : Int32) (t : St), ph t0 ≤ ph t → m_Parser_readData_109 n K7 x1 x2 x3 x4 t = some z → J p l e { frames := 5, cells := ph z - ph t0, slots := 2 * (ph z - ph t0), locals := 150 } s m args below meth c 5 (dC, dI) vwCl A (MQ below (jQv (dC, dI) vwCl (tyA cI cB cJ cZ) (fun u : Nat × Nat × Nat => wO cI cB cJ cZ (aU a u) z) A) args s (ph z - ph t0) (2 * (ph z - ph t0)) A) (ph t - ph t0) (2 * (ph t - ph t0)) 109 [(0, .ref (a 11)), (1, .int x1), (2, .int x2), (3, .int x3), (4, .int x4)] [] (wO cI cB cJ cZ (aU a u) t) := by
    intro K7 gK7 hK7 u x1 x2 x3 x4 t hg h
    unfold m_Parser_readData_109 at h
    refine J_iload_n X d_Parser_readData_109 3 rfl rfl ?_
    refine J_if_eq X 126 d_Parser_readData_110 (by decide) (fun c110 => ?_) (fun c110 => ?_)
    · rw [if_pos c110] at h
      refine J_lv [0, 1, 2] [(0, .ref (a 11)), (1, .int x1), (2, .int x2)] rfl ?_
      exact L126 K7 gK7 hK7 u x1 x2 t hg h
    · rw [if_neg c110] at h
      refine J_iload X d_Parser_readData_113 4 rfl ?_
      refine J_if_ne X 126 d_Parser_readData_115 (by decide) (fun c115 => ?_) (fun c115 => ?_)
      · rw [if_neg c115] at h
        refine J_lv [0, 1, 2] [(0, .ref (a 11)), (1, .int x1), (2, .int x2)] rfl ?_
        exact L126 K7 gK7 hK7 u x1 x2 t hg h
      · rw [if_pos c115] at h
        refine J_aload_n X d_Parser_readData_118 0 rfl rfl ?_
        refine J_iload_n X d_Parser_readData_119 1 rfl rfl ?_
        refine J_iload_n X d_Parser_readData_120 2 rfl rfl ?_
        refine J_iload_n X d_Parser_readData_121 3 rfl rfl ?_
        have f122 : ph t ≤ ph z := by
          obtain ⟨z122, hz122, h⟩ := j_bind h
          exact Nat.le_trans (Nat.le_trans (Nat.le_refl _) (show ph t ≤ ph z122 from p_Parser_endData hz122)) (Nat.le_of_eq (Eq.trans (show ph z122 = ph z122 from rfl) (congrArg ph (show z122 = z from (j_s h)))))
        obtain ⟨z122, hz122, h⟩ := j_bind h
        have g122 : ph t0 ≤ ph t := hg
        have p122 : ph t ≤ ph z122 := (show ph t ≤ ph z122 from p_Parser_endData hz122)
        have e122 : ph z122 ≤ ph z := by
          exact Nat.le_trans (Nat.le_refl _) (Nat.le_of_eq (Eq.trans (show ph z122 = ph z122 from rfl) (congrArg ph (show z122 = z from (j_s h)))))
        refine J_callVv0 (n := 3) (wc := (wO cI cB cJ cZ (aU a u) t)) (w1 := fun u : Nat × Nat × Nat => wO cI cB cJ cZ (aU (aU a u) u) z122) X isO (hCO cI cB cJ cZ (aU a u) t) (hDO cI cB cJ cZ (aU a u) t) rfl [.int x1, .int x2, .int x3] [] (ct_Parser_endData l dC dI cI cB cJ cZ (aU a u) n x1 x2 x3 t hz122) (aw_V (fun w h => mm h) k_ml_Parser_235 k_im_Parser_endData k_se_Parser_endData k_in_Parser k_cd_Parser_endData) rfl (by decide +kernel) ⟨(Nat.le_of_ble_eq_true rfl), (Nat.le_of_ble_eq_true rfl)⟩ (q0 := 11) rfl rfl rfl rfl (Nat.le_of_ble_eq_true rfl) d_Parser_readData_122 ⟨(by show ph t - ph t0 + (ph z122 - ph t) ≤ ph z - ph t0; omega), (by show 2 * (ph t - ph t0) + 2 * (ph z122 - ph t) ≤ 2 * (ph z - ph t0); omega)⟩ (fun u122 => ?_)
        refine J_to _ _ (wO cI cB cJ cZ (aU a u122) z122) rfl rfl rfl ?_
        refine J_widen (ph z122 - ph t0) (2 * (ph z122 - ph t0)) (by show ph t - ph t0 + (ph z122 - ph t) ≤ _; omega) (by show 2 * (ph t - ph t0) + 2 * (ph z122 - ph t) ≤ _; omega) ?_
        have gg122 : ph t0 ≤ ph z122 := by omega
        exact J_vret X hr hlk u122 (by have e : ph z122 = ph z := (Eq.trans (show ph z122 = ph z122 from rfl) (congrArg ph (show z122 = z from (j_s h)))); show ph z122 - ph t0 ≤ ph z - ph t0; omega) (by have e : ph z122 = ph z := (Eq.trans (show ph z122 = ph z122 from rfl) (congrArg ph (show z122 = z from (j_s h)))); show 2 * (ph z122 - ph t0) ≤ 2 * (ph z - ph t0); omega) (congrArg (fun q => wO cI cB cJ cZ (aU a u122) q) (j_s h)) d_Parser_readData_125
  have G99 : ∀ (K7 : Int32 → Int32 → St → Option (St)) (gK7 : ∀ (x1 : Int32) (x2 : Int32) (t : St), K7 x1 x2 t = some z → ph t ≤ ph z) (x1 : Int32) (x2 : Int32) (x3 : Int32) (y0 : Int32) (t : St), m_Parser_readData_99 n K7 x1 x2 x3 y0 t = some z → ph t ≤ ph z := by
    intro K7 gK7 x1 x2 x3 y0 t h
    unfold m_Parser_readData_99 at h
    by_cases c103 : y0 = 0
    · rw [if_pos c103] at h
      exact Nat.le_trans (Nat.le_refl _) (G109 K7 gK7 x1 x2 x3 y0 t h)
    · rw [if_neg c103] at h
      exact Nat.le_trans (Nat.le_refl _) (G109 K7 gK7 x1 (x2 + 1) x3 y0 t h)
  have L99 : ∀ (K7 : Int32 → Int32 → St → Option (St)) (gK7 : ∀ (x1 : Int32) (x2 : Int32) (t : St), K7 x1 x2 t = some z → ph t ≤ ph z) (hK7 : ∀ (u : Nat × Nat × Nat) (x1 : Int32) (x2 : Int32) (t : St), ph t0 ≤ ph t → K7 x1 x2 t = some z → J p l e { frames := 5, cells := ph z - ph t0, slots := 2 * (ph z - ph t0), locals := 150 } s m args below meth c 5 (dC, dI) vwCl A (MQ below (jQv (dC, dI) vwCl (tyA cI cB cJ cZ) (fun u : Nat × Nat × Nat => wO cI cB cJ cZ (aU a u) z) A) args s (ph z - ph t0) (2 * (ph z - ph t0)) A) (ph t - ph t0) (2 * (ph t - ph t0)) 7 [(0, .ref (a 11)), (1, .int x1), (2, .int x2)] [] (wO cI cB cJ cZ (aU a u) t)) (u : Nat × Nat × Nat) (x1 : Int32) (x2 : Int32) (x3 : Int32) (y0 : Int32) (t : St), ph t0 ≤ ph t → m_Parser_readData_99 n K7 x1 x2 x3 y0 t = some z → J p l e { frames := 5, cells := ph z - ph t0, slots := 2 * (ph z - ph t0), locals := 150 } s m args below meth c 5 (dC, dI) vwCl A (MQ below (jQv (dC, dI) vwCl (tyA cI cB cJ cZ) (fun u : Nat × Nat × Nat => wO cI cB cJ cZ (aU a u) z) A) args s (ph z - ph t0) (2 * (ph z - ph t0)) A) (ph t - ph t0) (2 * (ph t - ph t0)) 99 [(0, .ref (a 11)), (1, .int x1), (2, .int x2), (3, .int x3)] [.int y0] (wO cI cB cJ cZ (aU a u) t) := by
    intro K7 gK7 hK7 u x1 x2 x3 y0 t hg h
    unfold m_Parser_readData_99 at h
    refine J_istore X [(4, .int y0), (0, .ref (a 11)), (1, .int x1), (2, .int x2), (3, .int x3)] d_Parser_readData_99 (by decide) rfl ?_
    refine J_iload X d_Parser_readData_101 0 rfl ?_
    refine J_if_eq X 109 d_Parser_readData_103 (by decide) (fun c103 => ?_) (fun c103 => ?_)
    · rw [if_pos c103] at h
      refine J_lv [1, 2, 3, 4, 0] [(0, .ref (a 11)), (1, .int x1), (2, .int x2), (3, .int x3), (4, .int y0)] rfl ?_
      exact L109 K7 gK7 hK7 u x1 x2 x3 y0 t hg h
    · rw [if_neg c103] at h
      refine J_iinc (v := (x2 + 1)) X [(2, .int (x2 + 1)), (4, .int y0), (0, .ref (a 11)), (1, .int x1), (3, .int x3)] d_Parser_readData_106 3 rfl rfl (by decide) rfl ?_
      refine J_lv [2, 3, 0, 4, 1] [(0, .ref (a 11)), (1, .int x1), (2, .int (x2 + 1)), (3, .int x3), (4, .int y0)] rfl ?_
      exact L109 K7 gK7 hK7 u x1 (x2 + 1) x3 y0 t hg h
  have G98 : ∀ (K7 : Int32 → Int32 → St → Option (St)) (gK7 : ∀ (x1 : Int32) (x2 : Int32) (t : St), K7 x1 x2 t = some z → ph t ≤ ph z) (x1 : Int32) (x2 : Int32) (x3 : Int32) (t : St), m_Parser_readData_98 n K7 x1 x2 x3 t = some z → ph t ≤ ph z := by
    intro K7 gK7 x1 x2 x3 t h
    unfold m_Parser_readData_98 at h
    exact Nat.le_trans (Nat.le_refl _) (G99 K7 gK7 x1 x2 x3 (0 : Int32) t h)
  have L98 : ∀ (K7 : Int32 → Int32 → St → Option (St)) (gK7 : ∀ (x1 : Int32) (x2 : Int32) (t : St), K7 x1 x2 t = some z → ph t ≤ ph z) (hK7 : ∀ (u : Nat × Nat × Nat) (x1 : Int32) (x2 : Int32) (t : St), ph t0 ≤ ph t → K7 x1 x2 t = some z → J p l e { frames := 5, cells := ph z - ph t0, slots := 2 * (ph z - ph t0), locals := 150 } s m args below meth c 5 (dC, dI) vwCl A (MQ below (jQv (dC, dI) vwCl (tyA cI cB cJ cZ) (fun u : Nat × Nat × Nat => wO cI cB cJ cZ (aU a u) z) A) args s (ph z - ph t0) (2 * (ph z - ph t0)) A) (ph t - ph t0) (2 * (ph t - ph t0)) 7 [(0, .ref (a 11)), (1, .int x1), (2, .int x2)] [] (wO cI cB cJ cZ (aU a u) t)) (u : Nat × Nat × Nat) (x1 : Int32) (x2 : Int32) (x3 : Int32) (t : St), ph t0 ≤ ph t → m_Parser_readData_98 n K7 x1 x2 x3 t = some z → J p l e { frames := 5, cells := ph z - ph t0, slots := 2 * (ph z - ph t0), locals := 150 } s m args below meth c 5 (dC, dI) vwCl A (MQ below (jQv (dC, dI) vwCl (tyA cI cB cJ cZ) (fun u : Nat × Nat × Nat => wO cI cB cJ cZ (aU a u) z) A) args s (ph z - ph t0) (2 * (ph z - ph t0)) A) (ph t - ph t0) (2 * (ph t - ph t0)) 98 [(0, .ref (a 11)), (1, .int x1), (2, .int x2), (3, .int x3)] [] (wO cI cB cJ cZ (aU a u) t) := by
    intro K7 gK7 hK7 u x1 x2 x3 t hg h
    unfold m_Parser_readData_98 at h
    refine J_iconst (v := (0 : Int32)) X d_Parser_readData_98 (by decide) ?_
    refine J_lv [0, 1, 2, 3] [(0, .ref (a 11)), (1, .int x1), (2, .int x2), (3, .int x3)] rfl ?_
    exact L99 K7 gK7 hK7 u x1 x2 x3 (0 : Int32) t hg h
  have G7 : ∀ (k : Nat) (x1 : Int32) (x2 : Int32) (t : St), m_Parser_readData_7 n  k x1 x2 t = some z → ph t ≤ ph z := by
    intro k
    induction k with
    | zero => intro x1 x2 t h; exact absurd (show none = some z from h) (by simp)
    | succ k ih =>
      intro x1 x2 t h
      change m_Parser_readData_7b n  (m_Parser_readData_7 n  k) x1 x2 t = some z at h
      unfold m_Parser_readData_7b at h
      by_cases c11 : (t.1 13) = 0
      · rw [if_pos c11] at h
        by_cases c25 : (t.1 0) ≤ (t.1 9)
        · rw [if_pos c25] at h
          exact Nat.le_trans (Nat.le_refl _) (G139  t h)
        · rw [if_neg c25] at h
          obtain ⟨z36, hz36, h⟩ := j_bind h
          by_cases c42 : z36.1 = (255 : Int32)
          · rw [if_pos c42] at h
            obtain ⟨z68, hz68, h⟩ := j_bind h
            by_cases c79 : (z68.2.1 5) ≤ 0
            · rw [if_pos c79] at h
              exact Nat.le_trans (Nat.le_trans (Nat.le_trans (Nat.le_refl _) (show ph t ≤ ph z36.2 from ph_le (q_Bytes_at hz36))) (show ph z36.2 ≤ ph z68.2 from ph_le (q_Bytes_at hz68))) (G98 (m_Parser_readData_7 n  k) ih x1 x2 z68.1 z68.2 h)
            · rw [if_neg c79] at h
              by_cases c91 : z68.1 = ((208 : Int32) + (x2 - x2 / (8 : Int32) * (8 : Int32)))
              · rw [if_pos c91] at h
                exact Nat.le_trans (Nat.le_trans (Nat.le_trans (Nat.le_refl _) (show ph t ≤ ph z36.2 from ph_le (q_Bytes_at hz36))) (show ph z36.2 ≤ ph z68.2 from ph_le (q_Bytes_at hz68))) (G99 (m_Parser_readData_7 n  k) ih x1 x2 z68.1 (1 : Int32) z68.2 h)
              · rw [if_neg c91] at h
                exact Nat.le_trans (Nat.le_trans (Nat.le_trans (Nat.le_refl _) (show ph t ≤ ph z36.2 from ph_le (q_Bytes_at hz36))) (show ph z36.2 ≤ ph z68.2 from ph_le (q_Bytes_at hz68))) (G98 (m_Parser_readData_7 n  k) ih x1 x2 z68.1 z68.2 h)
          · rw [if_neg c42] at h
            exact Nat.le_trans (Nat.le_trans (Nat.le_refl _) (show ph t ≤ ph z36.2 from ph_le (q_Bytes_at hz36))) (ih x1 x2 (sG z36.2 9 ((z36.2.1 9) + (1 : Int32))) h)
      · rw [if_neg c11] at h
        exact Nat.le_trans (Nat.le_refl _) (G139  t h)
  have L7 : ∀ (k : Nat) (u : Nat × Nat × Nat) (x1 : Int32) (x2 : Int32) (t : St), ph t0 ≤ ph t → m_Parser_readData_7 n  k x1 x2 t = some z → J p l e { frames := 5, cells := ph z - ph t0, slots := 2 * (ph z - ph t0), locals := 150 } s m args below meth c 5 (dC, dI) vwCl A (MQ below (jQv (dC, dI) vwCl (tyA cI cB cJ cZ) (fun u : Nat × Nat × Nat => wO cI cB cJ cZ (aU a u) z) A) args s (ph z - ph t0) (2 * (ph z - ph t0)) A) (ph t - ph t0) (2 * (ph t - ph t0)) 7 [(0, .ref (a 11)), (1, .int x1), (2, .int x2)] [] (wO cI cB cJ cZ (aU a u) t) := by
    intro k
    induction k with
    | zero => intro u x1 x2 t hg h; exact absurd (show none = some z from h) (by simp)
    | succ k ih =>
      intro u x1 x2 t hg h
      change m_Parser_readData_7b n  (m_Parser_readData_7 n  k) x1 x2 t = some z at h
      unfold m_Parser_readData_7b at h
      refine J_aload_n X d_Parser_readData_7 0 rfl rfl ?_
      refine J_get (v := .int (t.1 13)) X (fun w h => mm (in_Parser w h)) 11 rfl rfl 9 (by decide) (mm k_fl_Parser_40) rfl rfl d_Parser_readData_8 ?_
      refine J_if_ne X 139 d_Parser_readData_11 (by decide) (fun c11 => ?_) (fun c11 => ?_)
      · rw [if_neg c11] at h
        refine J_lv [0] [(0, .ref (a 11))] rfl ?_
        exact L139  u t hg h
      · rw [if_pos c11] at h
        refine J_aload_n X d_Parser_readData_14 0 rfl rfl ?_
        refine J_get (v := .int (t.1 9)) X (fun w h => mm (in_Parser w h)) 11 rfl rfl 5 (by decide) (mm k_fl_Parser_26) rfl rfl d_Parser_readData_15 ?_
        refine J_aload_n X d_Parser_readData_18 0 rfl rfl ?_
        refine J_get (v := .ref (a 1)) X (fun w h => mm (in_Parser w h)) 11 rfl rfl 0 (by decide) (mm k_fl_Parser_46) rfl rfl d_Parser_readData_19 ?_
        refine J_getN (v := .int (t.1 0)) X (fun w h => mm (in_Bytes w h)) 1 rfl rfl 1 (by decide) k_fln_Parser_68 rfl rfl d_Parser_readData_22 ?_
        refine J_icmp_ge X 139 d_Parser_readData_25 (by decide) (fun c25 => ?_) (fun c25 => ?_)
        · rw [if_pos c25] at h
          refine J_lv [0] [(0, .ref (a 11))] rfl ?_
          exact L139  u t hg h
        · rw [if_neg c25] at h
          refine J_aload_n X d_Parser_readData_28 0 rfl rfl ?_
          refine J_get (v := .ref (a 1)) X (fun w h => mm (in_Parser w h)) 11 rfl rfl 0 (by decide) (mm k_fl_Parser_46) rfl rfl d_Parser_readData_29 ?_
          refine J_aload_n X d_Parser_readData_32 0 rfl rfl ?_
          refine J_get (v := .int (t.1 9)) X (fun w h => mm (in_Parser w h)) 11 rfl rfl 5 (by decide) (mm k_fl_Parser_26) rfl rfl d_Parser_readData_33 ?_
          have f36 : ph t ≤ ph z := by
            obtain ⟨z36, hz36, h⟩ := j_bind h
            by_cases c42 : z36.1 = (255 : Int32)
            · rw [if_pos c42] at h
              obtain ⟨z68, hz68, h⟩ := j_bind h
              by_cases c79 : (z68.2.1 5) ≤ 0
              · rw [if_pos c79] at h
                exact Nat.le_trans (Nat.le_trans (Nat.le_trans (Nat.le_refl _) (show ph t ≤ ph z36.2 from ph_le (q_Bytes_at hz36))) (show ph z36.2 ≤ ph z68.2 from ph_le (q_Bytes_at hz68))) (G98 (m_Parser_readData_7 n  k) (G7 k) x1 x2 z68.1 z68.2 h)
              · rw [if_neg c79] at h
                by_cases c91 : z68.1 = ((208 : Int32) + (x2 - x2 / (8 : Int32) * (8 : Int32)))
                · rw [if_pos c91] at h
                  exact Nat.le_trans (Nat.le_trans (Nat.le_trans (Nat.le_refl _) (show ph t ≤ ph z36.2 from ph_le (q_Bytes_at hz36))) (show ph z36.2 ≤ ph z68.2 from ph_le (q_Bytes_at hz68))) (G99 (m_Parser_readData_7 n  k) (G7 k) x1 x2 z68.1 (1 : Int32) z68.2 h)
                · rw [if_neg c91] at h
                  exact Nat.le_trans (Nat.le_trans (Nat.le_trans (Nat.le_refl _) (show ph t ≤ ph z36.2 from ph_le (q_Bytes_at hz36))) (show ph z36.2 ≤ ph z68.2 from ph_le (q_Bytes_at hz68))) (G98 (m_Parser_readData_7 n  k) (G7 k) x1 x2 z68.1 z68.2 h)
            · rw [if_neg c42] at h
              exact Nat.le_trans (Nat.le_trans (Nat.le_refl _) (show ph t ≤ ph z36.2 from ph_le (q_Bytes_at hz36))) ((G7 k) x1 x2 (sG z36.2 9 ((z36.2.1 9) + (1 : Int32))) h)
          obtain ⟨z36, hz36, h⟩ := j_bind h
          have g36 : ph t0 ≤ ph t := hg
          have p36 : ph t = ph z36.2 := (show ph t = ph z36.2 from ph_eq (q_Bytes_at hz36))
          refine J_callVi0 (n := 1) (wc := (wO cI cB cJ cZ (aU a u) t)) (r := z36.1) (w1 := fun _ : Unit => wO cI cB cJ cZ (aU a u) z36.2) X isO (hCO cI cB cJ cZ (aU a u) t) (hDO cI cB cJ cZ (aU a u) t) rfl [.int (t.1 9)] [] (ct_Bytes_at l dC dI cI cB cJ cZ (aU a u) n (t.1 9) t hz36) (aw_V (fun w h => mm h) k_ml_Parser_73 k_im_Bytes_at k_se_Bytes_at k_in_Bytes k_cd_Bytes_at) rfl (by decide +kernel) ⟨(Nat.le_of_ble_eq_true rfl), (Nat.le_of_ble_eq_true rfl)⟩ (q0 := 1) rfl rfl rfl rfl (Nat.le_of_ble_eq_true rfl) d_Parser_readData_36 ⟨(by show ph t - ph t0 + 0 ≤ ph z - ph t0; omega), (by show 2 * (ph t - ph t0) + 0 ≤ 2 * (ph z - ph t0); omega)⟩ (fun _ => ?_)
          refine J_widen (ph z36.2 - ph t0) (2 * (ph z36.2 - ph t0)) (by show ph t - ph t0 + 0 ≤ _; omega) (by show 2 * (ph t - ph t0) + 0 ≤ _; omega) ?_
          have gg36 : ph t0 ≤ ph z36.2 := by omega
          refine J_sipush (v := (255 : Int32)) X d_Parser_readData_39 (by decide) ?_
          refine J_icmp_eq X 58 d_Parser_readData_42 (by decide) (fun c42 => ?_) (fun c42 => ?_)
          · rw [if_pos c42] at h
            refine J_aload_n X d_Parser_readData_58 0 rfl rfl ?_
            refine J_get (v := .ref (a 1)) X (fun w h => mm (in_Parser w h)) 11 rfl rfl 0 (by decide) (mm k_fl_Parser_46) rfl rfl d_Parser_readData_59 ?_
            refine J_aload_n X d_Parser_readData_62 0 rfl rfl ?_
            refine J_get (v := .int (z36.2.1 9)) X (fun w h => mm (in_Parser w h)) 11 rfl rfl 5 (by decide) (mm k_fl_Parser_26) rfl rfl d_Parser_readData_63 ?_
            refine J_iconst (v := (1 : Int32)) X d_Parser_readData_66 (by decide) ?_
            refine J_iadd X d_Parser_readData_67 ?_
            have f68 : ph z36.2 ≤ ph z := by
              obtain ⟨z68, hz68, h⟩ := j_bind h
              by_cases c79 : (z68.2.1 5) ≤ 0
              · rw [if_pos c79] at h
                exact Nat.le_trans (Nat.le_trans (Nat.le_refl _) (show ph z36.2 ≤ ph z68.2 from ph_le (q_Bytes_at hz68))) (G98 (m_Parser_readData_7 n  k) (G7 k) x1 x2 z68.1 z68.2 h)
              · rw [if_neg c79] at h
                by_cases c91 : z68.1 = ((208 : Int32) + (x2 - x2 / (8 : Int32) * (8 : Int32)))
                · rw [if_pos c91] at h
                  exact Nat.le_trans (Nat.le_trans (Nat.le_refl _) (show ph z36.2 ≤ ph z68.2 from ph_le (q_Bytes_at hz68))) (G99 (m_Parser_readData_7 n  k) (G7 k) x1 x2 z68.1 (1 : Int32) z68.2 h)
                · rw [if_neg c91] at h
                  exact Nat.le_trans (Nat.le_trans (Nat.le_refl _) (show ph z36.2 ≤ ph z68.2 from ph_le (q_Bytes_at hz68))) (G98 (m_Parser_readData_7 n  k) (G7 k) x1 x2 z68.1 z68.2 h)
            obtain ⟨z68, hz68, h⟩ := j_bind h
            have g68 : ph t0 ≤ ph z36.2 := gg36
            have p68 : ph z36.2 = ph z68.2 := (show ph z36.2 = ph z68.2 from ph_eq (q_Bytes_at hz68))
            refine J_callVi0 (n := 1) (wc := (wO cI cB cJ cZ (aU a u) z36.2)) (r := z68.1) (w1 := fun _ : Unit => wO cI cB cJ cZ (aU a u) z68.2) X isO (hCO cI cB cJ cZ (aU a u) z36.2) (hDO cI cB cJ cZ (aU a u) z36.2) rfl [.int ((z36.2.1 9) + (1 : Int32))] [] (ct_Bytes_at l dC dI cI cB cJ cZ (aU a u) n ((z36.2.1 9) + (1 : Int32)) z36.2 hz68) (aw_V (fun w h => mm h) k_ml_Parser_73 k_im_Bytes_at k_se_Bytes_at k_in_Bytes k_cd_Bytes_at) rfl (by decide +kernel) ⟨(Nat.le_of_ble_eq_true rfl), (Nat.le_of_ble_eq_true rfl)⟩ (q0 := 1) rfl rfl rfl rfl (Nat.le_of_ble_eq_true rfl) d_Parser_readData_68 ⟨(by show ph z36.2 - ph t0 + 0 ≤ ph z - ph t0; omega), (by show 2 * (ph z36.2 - ph t0) + 0 ≤ 2 * (ph z - ph t0); omega)⟩ (fun _ => ?_)
            refine J_widen (ph z68.2 - ph t0) (2 * (ph z68.2 - ph t0)) (by show ph z36.2 - ph t0 + 0 ≤ _; omega) (by show 2 * (ph z36.2 - ph t0) + 0 ≤ _; omega) ?_
            have gg68 : ph t0 ≤ ph z68.2 := by omega
            refine J_istore_n X [(3, .int z68.1), (0, .ref (a 11)), (1, .int x1), (2, .int x2)] d_Parser_readData_71 rfl (by decide) rfl ?_
            refine J_aload_n X d_Parser_readData_72 1 rfl rfl ?_
            refine J_get (v := .ref (a 3)) X (fun w h => mm (in_Parser w h)) 11 rfl rfl 1 (by decide) (mm k_fl_Parser_50) rfl rfl d_Parser_readData_73 ?_
            refine J_getN (v := .int (z68.2.1 5)) X (fun w h => mm (in_Picture w h)) 3 rfl rfl 10 (by decide) k_fln_Parser_132 rfl rfl d_Parser_readData_76 ?_
            refine J_if_le X 98 d_Parser_readData_79 (by decide) (fun c79 => ?_) (fun c79 => ?_)
            · rw [if_pos c79] at h
              refine J_lv [1, 2, 3, 0] [(0, .ref (a 11)), (1, .int x1), (2, .int x2), (3, .int z68.1)] rfl ?_
              exact L98 (m_Parser_readData_7 n  k) (G7 k) ih u x1 x2 z68.1 z68.2 gg68 h
            · rw [if_neg c79] at h
              refine J_iload_n X d_Parser_readData_82 0 rfl rfl ?_
              refine J_sipush (v := (208 : Int32)) X d_Parser_readData_83 (by decide) ?_
              refine J_iload_n X d_Parser_readData_86 3 rfl rfl ?_
              refine J_bipush (v := (8 : Int32)) X d_Parser_readData_87 (by decide) ?_
              refine J_irem X d_Parser_readData_89 (by decide) ?_
              refine J_iadd X d_Parser_readData_90 ?_
              refine J_icmp_ne X 98 d_Parser_readData_91 (by decide) (fun c91 => ?_) (fun c91 => ?_)
              · rw [if_neg c91] at h
                refine J_lv [1, 2, 3, 0] [(0, .ref (a 11)), (1, .int x1), (2, .int x2), (3, .int z68.1)] rfl ?_
                exact L98 (m_Parser_readData_7 n  k) (G7 k) ih u x1 x2 z68.1 z68.2 gg68 h
              · rw [if_pos c91] at h
                refine J_iconst (v := (1 : Int32)) X d_Parser_readData_94 (by decide) ?_
                refine J_goto X 99 d_Parser_readData_95 (by decide) ?_
                refine J_lv [1, 2, 3, 0] [(0, .ref (a 11)), (1, .int x1), (2, .int x2), (3, .int z68.1)] rfl ?_
                exact L99 (m_Parser_readData_7 n  k) (G7 k) ih u x1 x2 z68.1 (1 : Int32) z68.2 gg68 h
          · rw [if_neg c42] at h
            refine J_aload_n X d_Parser_readData_45 0 rfl rfl ?_
            refine J_dup X d_Parser_readData_46 rfl ?_
            refine J_get (v := .int (z36.2.1 9)) X (fun w h => mm (in_Parser w h)) 11 rfl rfl 5 (by decide) (mm k_fl_Parser_26) rfl rfl d_Parser_readData_47 ?_
            refine J_iconst (v := (1 : Int32)) X d_Parser_readData_50 (by decide) ?_
            refine J_iadd X d_Parser_readData_51 ?_
            refine J_put (ty := .int) (v := .int ((z36.2.1 9) + (1 : Int32))) X (fun w h => mm (in_Parser w h)) ty_Parser tyk_Parser nm_Parser 11 rfl rfl 5 (by decide) (mm k_fl_Parser_26) rfl rfl (by decide +kernel) rfl rfl (Nat.le_of_ble_eq_true rfl) d_Parser_readData_52 (wO cI cB cJ cZ (aU a u) (sG z36.2 9 ((z36.2.1 9) + (1 : Int32)))) rfl ?_
            refine J_goto X 7 d_Parser_readData_55 (by decide) ?_
            refine J_lv [0, 1, 2] [(0, .ref (a 11)), (1, .int x1), (2, .int x2)] rfl ?_
            exact ih u x1 x2 (sG z36.2 9 ((z36.2.1 9) + (1 : Int32))) gg36 h
  refine J_lv [0] [(0, .ref (a 11))] rfl ?_
  refine J_to _ _ (wO cI cB cJ cZ (aU a (a 2, a 5, a 7)) t0) rfl rfl rfl ?_
  refine J_widen (ph t0 - ph t0) (2 * (ph t0 - ph t0)) (Nat.zero_le _) (Nat.zero_le _) ?_
  unfold m_Parser_readData at h
  refine J_aload_n X d_Parser_readData_0 0 rfl rfl ?_
  refine J_get (v := .int (t0.1 9)) X (fun w h => mm (in_Parser w h)) 11 rfl rfl 5 (by decide) (mm k_fl_Parser_26) rfl rfl d_Parser_readData_1 ?_
  refine J_istore_n X [(1, .int (t0.1 9)), (0, .ref (a 11))] d_Parser_readData_4 rfl (by decide) rfl ?_
  refine J_iconst (v := (0 : Int32)) X d_Parser_readData_5 (by decide) ?_
  refine J_istore_n X [(2, .int (0 : Int32)), (1, .int (t0.1 9)), (0, .ref (a 11))] d_Parser_readData_6 rfl (by decide) rfl ?_
  refine J_lv [2, 1, 0] [(0, .ref (a 11)), (1, .int (t0.1 9)), (2, .int (0 : Int32))] rfl ?_
  exact L7  n (a 2, a 5, a 7) (t0.1 9) (0 : Int32) t0 (Nat.le_refl (ph t0)) h
theorem p_Parser_readNext {n : Nat}  {t0 : St} {z : St} (h : m_Parser_readNext n t0 = some z) : ph t0 ≤ ph z := by
  unfold m_Parser_readNext at h
  obtain ⟨z6, hz6, h⟩ := j_bind h
  by_cases c12 : z6.1 = (-1 : Int32)
  · rw [if_pos c12] at h
    exact Nat.le_trans (Nat.le_trans (Nat.le_refl _) (show ph t0 ≤ ph z6.2 from ph_le (q_Parser_takeMarker hz6))) (Nat.le_of_eq (Eq.trans (show ph z6.2 = ph z6.2 from rfl) (congrArg ph (show z6.2 = z from (j_s h)))))
  · rw [if_neg c12] at h
    by_cases c20 : z6.1 = (217 : Int32)
    · rw [if_pos c20] at h
      exact Nat.le_trans (Nat.le_trans (Nat.le_refl _) (show ph t0 ≤ ph z6.2 from ph_le (q_Parser_takeMarker hz6))) (Nat.le_of_eq (Eq.trans (show ph z6.2 = ph (sG z6.2 6 (z6.2.1 9)) from rfl) (congrArg ph (show (sG z6.2 6 (z6.2.1 9)) = z from (j_s h)))))
    · rw [if_neg c20] at h
      obtain ⟨z36, hz36, h⟩ := j_bind h
      obtain ⟨z48, hz48, h⟩ := j_bind h
      obtain ⟨z53, hz53, h⟩ := j_bind h
      by_cases c60 : z6.1 = (218 : Int32)
      · rw [if_pos c60] at h
        obtain ⟨z64, hz64, h⟩ := j_bind h
        exact Nat.le_trans (Nat.le_trans (Nat.le_trans (Nat.le_trans (Nat.le_trans (Nat.le_trans (Nat.le_refl _) (show ph t0 ≤ ph z6.2 from ph_le (q_Parser_takeMarker hz6))) (show ph z6.2 ≤ ph z36 from ph_le (q_Parser_takeLength hz36))) (show ph z36 ≤ ph z48 from p_Picture_addSegment hz48)) (show ph z48 ≤ ph z53 from ph_le (q_Parser_readContents hz53))) (show ph z53 ≤ ph z64 from p_Parser_readData hz64)) (Nat.le_of_eq (Eq.trans (show ph z64 = ph z64 from rfl) (congrArg ph (show z64 = z from (j_s h)))))
      · rw [if_neg c60] at h
        exact Nat.le_trans (Nat.le_trans (Nat.le_trans (Nat.le_trans (Nat.le_trans (Nat.le_refl _) (show ph t0 ≤ ph z6.2 from ph_le (q_Parser_takeMarker hz6))) (show ph z6.2 ≤ ph z36 from ph_le (q_Parser_takeLength hz36))) (show ph z36 ≤ ph z48 from p_Picture_addSegment hz48)) (show ph z48 ≤ ph z53 from ph_le (q_Parser_readContents hz53))) (Nat.le_of_eq (Eq.trans (show ph z53 = ph z53 from rfl) (congrArg ph (show z53 = z from (j_s h)))))
set_option maxHeartbeats 4000000 in
set_option maxRecDepth 100000 in
theorem ct_Parser_readNext (l : Launch) (dC : Nat → ClassId) (dI : Nat → Nat → Nat) (cI cB cJ cZ : ClassId) (a : Nat → Nat) (n : Nat)  (t0 : St) {z : St} (h : m_Parser_readNext n t0 = some z) : jMv l y_Parser_readNext w_Parser_readNext ({ frames := 6, cells := ph z - ph t0, slots := 2 * (ph z - ph t0), locals := 174 }) (dC, dI) vwCl (tyA cI cB cJ cZ) [.ref (a 11)] (wO cI cB cJ cZ a t0) (fun u : Nat × Nat × Nat => wO cI cB cJ cZ (aU a u) z) := by
  refine jMv.of (cc := c_Parser_readNext) (maxL := 3) (ret := none) (by decide) rfl (Nat.le_of_ble_eq_true rfl) ?_
  intro p e s m args below meth c A X hr hlk hnm
  refine J_lv [0] [(0, .ref (a 11))] rfl ?_
  refine J_to _ _ (wO cI cB cJ cZ (aU a (a 2, a 5, a 7)) t0) rfl rfl rfl ?_
  refine J_widen (ph t0 - ph t0) (2 * (ph t0 - ph t0)) (Nat.zero_le _) (Nat.zero_le _) ?_
  unfold m_Parser_readNext at h
  refine J_aload_n X d_Parser_readNext_0 0 rfl rfl ?_
  refine J_get (v := .int (t0.1 9)) X (fun w h => mm (in_Parser w h)) 11 rfl rfl 5 (by decide) (mm k_fl_Parser_26) rfl rfl d_Parser_readNext_1 ?_
  refine J_istore_n X [(1, .int (t0.1 9)), (0, .ref (a 11))] d_Parser_readNext_4 rfl (by decide) rfl ?_
  refine J_aload_n X d_Parser_readNext_5 1 rfl rfl ?_
  have f6 : ph t0 ≤ ph z := by
    obtain ⟨z6, hz6, h⟩ := j_bind h
    by_cases c12 : z6.1 = (-1 : Int32)
    · rw [if_pos c12] at h
      exact Nat.le_trans (Nat.le_trans (Nat.le_refl _) (show ph t0 ≤ ph z6.2 from ph_le (q_Parser_takeMarker hz6))) (Nat.le_of_eq (Eq.trans (show ph z6.2 = ph z6.2 from rfl) (congrArg ph (show z6.2 = z from (j_s h)))))
    · rw [if_neg c12] at h
      by_cases c20 : z6.1 = (217 : Int32)
      · rw [if_pos c20] at h
        exact Nat.le_trans (Nat.le_trans (Nat.le_refl _) (show ph t0 ≤ ph z6.2 from ph_le (q_Parser_takeMarker hz6))) (Nat.le_of_eq (Eq.trans (show ph z6.2 = ph (sG z6.2 6 (z6.2.1 9)) from rfl) (congrArg ph (show (sG z6.2 6 (z6.2.1 9)) = z from (j_s h)))))
      · rw [if_neg c20] at h
        obtain ⟨z36, hz36, h⟩ := j_bind h
        obtain ⟨z48, hz48, h⟩ := j_bind h
        obtain ⟨z53, hz53, h⟩ := j_bind h
        by_cases c60 : z6.1 = (218 : Int32)
        · rw [if_pos c60] at h
          obtain ⟨z64, hz64, h⟩ := j_bind h
          exact Nat.le_trans (Nat.le_trans (Nat.le_trans (Nat.le_trans (Nat.le_trans (Nat.le_trans (Nat.le_refl _) (show ph t0 ≤ ph z6.2 from ph_le (q_Parser_takeMarker hz6))) (show ph z6.2 ≤ ph z36 from ph_le (q_Parser_takeLength hz36))) (show ph z36 ≤ ph z48 from p_Picture_addSegment hz48)) (show ph z48 ≤ ph z53 from ph_le (q_Parser_readContents hz53))) (show ph z53 ≤ ph z64 from p_Parser_readData hz64)) (Nat.le_of_eq (Eq.trans (show ph z64 = ph z64 from rfl) (congrArg ph (show z64 = z from (j_s h)))))
        · rw [if_neg c60] at h
          exact Nat.le_trans (Nat.le_trans (Nat.le_trans (Nat.le_trans (Nat.le_trans (Nat.le_refl _) (show ph t0 ≤ ph z6.2 from ph_le (q_Parser_takeMarker hz6))) (show ph z6.2 ≤ ph z36 from ph_le (q_Parser_takeLength hz36))) (show ph z36 ≤ ph z48 from p_Picture_addSegment hz48)) (show ph z48 ≤ ph z53 from ph_le (q_Parser_readContents hz53))) (Nat.le_of_eq (Eq.trans (show ph z53 = ph z53 from rfl) (congrArg ph (show z53 = z from (j_s h)))))
  obtain ⟨z6, hz6, h⟩ := j_bind h
  have g6 : ph t0 ≤ ph t0 := (Nat.le_refl (ph t0))
  have p6 : ph t0 = ph z6.2 := (show ph t0 = ph z6.2 from ph_eq (q_Parser_takeMarker hz6))
  refine J_callVi0 (n := 0) (wc := (wO cI cB cJ cZ (aU a (a 2, a 5, a 7)) t0)) (r := z6.1) (w1 := fun _ : Unit => wO cI cB cJ cZ (aU a (a 2, a 5, a 7)) z6.2) X isO (hCO cI cB cJ cZ (aU a (a 2, a 5, a 7)) t0) (hDO cI cB cJ cZ (aU a (a 2, a 5, a 7)) t0) rfl [] [] (ct_Parser_takeMarker l dC dI cI cB cJ cZ (aU a (a 2, a 5, a 7)) n t0 hz6) (aw_V (fun w h => mm h) k_ml_Parser_84 k_im_Parser_takeMarker k_se_Parser_takeMarker k_in_Parser k_cd_Parser_takeMarker) rfl (by decide +kernel) ⟨(Nat.le_of_ble_eq_true rfl), (Nat.le_of_ble_eq_true rfl)⟩ (q0 := 11) rfl rfl rfl rfl (Nat.le_of_ble_eq_true rfl) d_Parser_readNext_6 ⟨(by show ph t0 - ph t0 + 0 ≤ ph z - ph t0; omega), (by show 2 * (ph t0 - ph t0) + 0 ≤ 2 * (ph z - ph t0); omega)⟩ (fun _ => ?_)
  refine J_widen (ph z6.2 - ph t0) (2 * (ph z6.2 - ph t0)) (by show ph t0 - ph t0 + 0 ≤ _; omega) (by show 2 * (ph t0 - ph t0) + 0 ≤ _; omega) ?_
  have gg6 : ph t0 ≤ ph z6.2 := by omega
  refine J_istore_n X [(2, .int z6.1), (1, .int (t0.1 9)), (0, .ref (a 11))] d_Parser_readNext_9 rfl (by decide) rfl ?_
  refine J_iload_n X d_Parser_readNext_10 0 rfl rfl ?_
  refine J_iconst (v := (-1 : Int32)) X d_Parser_readNext_11 (by decide) ?_
  refine J_icmp_ne X 16 d_Parser_readNext_12 (by decide) (fun c12 => ?_) (fun c12 => ?_)
  · rw [if_neg c12] at h
    refine J_iload_n X d_Parser_readNext_16 0 rfl rfl ?_
    refine J_sipush (v := (217 : Int32)) X d_Parser_readNext_17 (by decide) ?_
    refine J_icmp_ne X 35 d_Parser_readNext_20 (by decide) (fun c20 => ?_) (fun c20 => ?_)
    · rw [if_neg c20] at h
      refine J_aload_n X d_Parser_readNext_35 2 rfl rfl ?_
      have f36 : ph z6.2 ≤ ph z := by
        obtain ⟨z36, hz36, h⟩ := j_bind h
        obtain ⟨z48, hz48, h⟩ := j_bind h
        obtain ⟨z53, hz53, h⟩ := j_bind h
        by_cases c60 : z6.1 = (218 : Int32)
        · rw [if_pos c60] at h
          obtain ⟨z64, hz64, h⟩ := j_bind h
          exact Nat.le_trans (Nat.le_trans (Nat.le_trans (Nat.le_trans (Nat.le_trans (Nat.le_refl _) (show ph z6.2 ≤ ph z36 from ph_le (q_Parser_takeLength hz36))) (show ph z36 ≤ ph z48 from p_Picture_addSegment hz48)) (show ph z48 ≤ ph z53 from ph_le (q_Parser_readContents hz53))) (show ph z53 ≤ ph z64 from p_Parser_readData hz64)) (Nat.le_of_eq (Eq.trans (show ph z64 = ph z64 from rfl) (congrArg ph (show z64 = z from (j_s h)))))
        · rw [if_neg c60] at h
          exact Nat.le_trans (Nat.le_trans (Nat.le_trans (Nat.le_trans (Nat.le_refl _) (show ph z6.2 ≤ ph z36 from ph_le (q_Parser_takeLength hz36))) (show ph z36 ≤ ph z48 from p_Picture_addSegment hz48)) (show ph z48 ≤ ph z53 from ph_le (q_Parser_readContents hz53))) (Nat.le_of_eq (Eq.trans (show ph z53 = ph z53 from rfl) (congrArg ph (show z53 = z from (j_s h)))))
      obtain ⟨z36, hz36, h⟩ := j_bind h
      have g36 : ph t0 ≤ ph z6.2 := gg6
      have p36 : ph z6.2 = ph z36 := (show ph z6.2 = ph z36 from ph_eq (q_Parser_takeLength hz36))
      refine J_callVv0 (n := 0) (wc := (wO cI cB cJ cZ (aU a (a 2, a 5, a 7)) z6.2)) (w1 := fun _ : Unit => wO cI cB cJ cZ (aU a (a 2, a 5, a 7)) z36) X isO (hCO cI cB cJ cZ (aU a (a 2, a 5, a 7)) z6.2) (hDO cI cB cJ cZ (aU a (a 2, a 5, a 7)) z6.2) rfl [] [] (ct_Parser_takeLength l dC dI cI cB cJ cZ (aU a (a 2, a 5, a 7)) n z6.2 hz36) (aw_V (fun w h => mm h) k_ml_Parser_88 k_im_Parser_takeLength k_se_Parser_takeLength k_in_Parser k_cd_Parser_takeLength) rfl (by decide +kernel) ⟨(Nat.le_of_ble_eq_true rfl), (Nat.le_of_ble_eq_true rfl)⟩ (q0 := 11) rfl rfl rfl rfl (Nat.le_of_ble_eq_true rfl) d_Parser_readNext_36 ⟨(by show ph z6.2 - ph t0 + 0 ≤ ph z - ph t0; omega), (by show 2 * (ph z6.2 - ph t0) + 0 ≤ 2 * (ph z - ph t0); omega)⟩ (fun _ => ?_)
      refine J_widen (ph z36 - ph t0) (2 * (ph z36 - ph t0)) (by show ph z6.2 - ph t0 + 0 ≤ _; omega) (by show 2 * (ph z6.2 - ph t0) + 0 ≤ _; omega) ?_
      have gg36 : ph t0 ≤ ph z36 := by omega
      refine J_aload_n X d_Parser_readNext_39 2 rfl rfl ?_
      refine J_get (v := .ref (a 3)) X (fun w h => mm (in_Parser w h)) 11 rfl rfl 1 (by decide) (mm k_fl_Parser_50) rfl rfl d_Parser_readNext_40 ?_
      refine J_iload_n X d_Parser_readNext_43 1 rfl rfl ?_
      refine J_aload_n X d_Parser_readNext_44 2 rfl rfl ?_
      refine J_get (v := .int (z36.1 9)) X (fun w h => mm (in_Parser w h)) 11 rfl rfl 5 (by decide) (mm k_fl_Parser_26) rfl rfl d_Parser_readNext_45 ?_
      have f48 : ph z36 ≤ ph z := by
        obtain ⟨z48, hz48, h⟩ := j_bind h
        obtain ⟨z53, hz53, h⟩ := j_bind h
        by_cases c60 : z6.1 = (218 : Int32)
        · rw [if_pos c60] at h
          obtain ⟨z64, hz64, h⟩ := j_bind h
          exact Nat.le_trans (Nat.le_trans (Nat.le_trans (Nat.le_trans (Nat.le_refl _) (show ph z36 ≤ ph z48 from p_Picture_addSegment hz48)) (show ph z48 ≤ ph z53 from ph_le (q_Parser_readContents hz53))) (show ph z53 ≤ ph z64 from p_Parser_readData hz64)) (Nat.le_of_eq (Eq.trans (show ph z64 = ph z64 from rfl) (congrArg ph (show z64 = z from (j_s h)))))
        · rw [if_neg c60] at h
          exact Nat.le_trans (Nat.le_trans (Nat.le_trans (Nat.le_refl _) (show ph z36 ≤ ph z48 from p_Picture_addSegment hz48)) (show ph z48 ≤ ph z53 from ph_le (q_Parser_readContents hz53))) (Nat.le_of_eq (Eq.trans (show ph z53 = ph z53 from rfl) (congrArg ph (show z53 = z from (j_s h)))))
      obtain ⟨z48, hz48, h⟩ := j_bind h
      have g48 : ph t0 ≤ ph z36 := gg36
      have p48 : ph z36 ≤ ph z48 := (show ph z36 ≤ ph z48 from p_Picture_addSegment hz48)
      have e48 : ph z48 ≤ ph z := by
        obtain ⟨z53, hz53, h⟩ := j_bind h
        by_cases c60 : z6.1 = (218 : Int32)
        · rw [if_pos c60] at h
          obtain ⟨z64, hz64, h⟩ := j_bind h
          exact Nat.le_trans (Nat.le_trans (Nat.le_trans (Nat.le_refl _) (show ph z48 ≤ ph z53 from ph_le (q_Parser_readContents hz53))) (show ph z53 ≤ ph z64 from p_Parser_readData hz64)) (Nat.le_of_eq (Eq.trans (show ph z64 = ph z64 from rfl) (congrArg ph (show z64 = z from (j_s h)))))
        · rw [if_neg c60] at h
          exact Nat.le_trans (Nat.le_trans (Nat.le_refl _) (show ph z48 ≤ ph z53 from ph_le (q_Parser_readContents hz53))) (Nat.le_of_eq (Eq.trans (show ph z53 = ph z53 from rfl) (congrArg ph (show z53 = z from (j_s h)))))
      refine J_callVv0 (n := 2) (wc := (wO cI cB cJ cZ (aU a (a 2, a 5, a 7)) z36)) (w1 := fun u : Nat × Nat × Nat => wO cI cB cJ cZ (aU (aU a (a 2, a 5, a 7)) u) z48) X isO (hCO cI cB cJ cZ (aU a (a 2, a 5, a 7)) z36) (hDO cI cB cJ cZ (aU a (a 2, a 5, a 7)) z36) rfl [.int (t0.1 9), .int (z36.1 9)] [] (ct_Picture_addSegment l dC dI cI cB cJ cZ (aU a (a 2, a 5, a 7)) n (t0.1 9) (z36.1 9) z36 hz48) (aw_V (fun w h => mm h) k_ml_Parser_91 k_im_Picture_addSegment k_se_Picture_addSegment k_in_Picture k_cd_Picture_addSegment) rfl (by decide +kernel) ⟨(Nat.le_of_ble_eq_true rfl), (Nat.le_of_ble_eq_true rfl)⟩ (q0 := 3) rfl rfl rfl rfl (Nat.le_of_ble_eq_true rfl) d_Parser_readNext_48 ⟨(by show ph z36 - ph t0 + (ph z48 - ph z36) ≤ ph z - ph t0; omega), (by show 2 * (ph z36 - ph t0) + 2 * (ph z48 - ph z36) ≤ 2 * (ph z - ph t0); omega)⟩ (fun u48 => ?_)
      refine J_to _ _ (wO cI cB cJ cZ (aU a u48) z48) rfl rfl rfl ?_
      refine J_widen (ph z48 - ph t0) (2 * (ph z48 - ph t0)) (by show ph z36 - ph t0 + (ph z48 - ph z36) ≤ _; omega) (by show 2 * (ph z36 - ph t0) + 2 * (ph z48 - ph z36) ≤ _; omega) ?_
      have gg48 : ph t0 ≤ ph z48 := by omega
      refine J_aload_n X d_Parser_readNext_51 2 rfl rfl ?_
      refine J_iload_n X d_Parser_readNext_52 0 rfl rfl ?_
      have f53 : ph z48 ≤ ph z := by
        obtain ⟨z53, hz53, h⟩ := j_bind h
        by_cases c60 : z6.1 = (218 : Int32)
        · rw [if_pos c60] at h
          obtain ⟨z64, hz64, h⟩ := j_bind h
          exact Nat.le_trans (Nat.le_trans (Nat.le_trans (Nat.le_refl _) (show ph z48 ≤ ph z53 from ph_le (q_Parser_readContents hz53))) (show ph z53 ≤ ph z64 from p_Parser_readData hz64)) (Nat.le_of_eq (Eq.trans (show ph z64 = ph z64 from rfl) (congrArg ph (show z64 = z from (j_s h)))))
        · rw [if_neg c60] at h
          exact Nat.le_trans (Nat.le_trans (Nat.le_refl _) (show ph z48 ≤ ph z53 from ph_le (q_Parser_readContents hz53))) (Nat.le_of_eq (Eq.trans (show ph z53 = ph z53 from rfl) (congrArg ph (show z53 = z from (j_s h)))))
      obtain ⟨z53, hz53, h⟩ := j_bind h
      have g53 : ph t0 ≤ ph z48 := gg48
      have p53 : ph z48 = ph z53 := (show ph z48 = ph z53 from ph_eq (q_Parser_readContents hz53))
      refine J_callVv0 (n := 1) (wc := (wO cI cB cJ cZ (aU a u48) z48)) (w1 := fun _ : Unit => wO cI cB cJ cZ (aU a u48) z53) X isO (hCO cI cB cJ cZ (aU a u48) z48) (hDO cI cB cJ cZ (aU a u48) z48) rfl [.int z6.1] [] (ct_Parser_readContents l dC dI cI cB cJ cZ (aU a u48) n z6.1 z48 hz53) (aw_V (fun w h => mm h) k_ml_Parser_95 k_im_Parser_readContents k_se_Parser_readContents k_in_Parser k_cd_Parser_readContents) rfl (by decide +kernel) ⟨(Nat.le_of_ble_eq_true rfl), (Nat.le_of_ble_eq_true rfl)⟩ (q0 := 11) rfl rfl rfl rfl (Nat.le_of_ble_eq_true rfl) d_Parser_readNext_53 ⟨(by show ph z48 - ph t0 + 0 ≤ ph z - ph t0; omega), (by show 2 * (ph z48 - ph t0) + 0 ≤ 2 * (ph z - ph t0); omega)⟩ (fun _ => ?_)
      refine J_widen (ph z53 - ph t0) (2 * (ph z53 - ph t0)) (by show ph z48 - ph t0 + 0 ≤ _; omega) (by show 2 * (ph z48 - ph t0) + 0 ≤ _; omega) ?_
      have gg53 : ph t0 ≤ ph z53 := by omega
      refine J_iload_n X d_Parser_readNext_56 0 rfl rfl ?_
      refine J_sipush (v := (218 : Int32)) X d_Parser_readNext_57 (by decide) ?_
      refine J_icmp_ne X 67 d_Parser_readNext_60 (by decide) (fun c60 => ?_) (fun c60 => ?_)
      · rw [if_neg c60] at h
        exact J_vret X hr hlk u48 (by have e : ph z53 = ph z := (Eq.trans (show ph z53 = ph z53 from rfl) (congrArg ph (show z53 = z from (j_s h)))); show ph z53 - ph t0 ≤ ph z - ph t0; omega) (by have e : ph z53 = ph z := (Eq.trans (show ph z53 = ph z53 from rfl) (congrArg ph (show z53 = z from (j_s h)))); show 2 * (ph z53 - ph t0) ≤ 2 * (ph z - ph t0); omega) (congrArg (fun q => wO cI cB cJ cZ (aU a u48) q) (j_s h)) d_Parser_readNext_67
      · rw [if_pos c60] at h
        refine J_aload_n X d_Parser_readNext_63 2 rfl rfl ?_
        have f64 : ph z53 ≤ ph z := by
          obtain ⟨z64, hz64, h⟩ := j_bind h
          exact Nat.le_trans (Nat.le_trans (Nat.le_refl _) (show ph z53 ≤ ph z64 from p_Parser_readData hz64)) (Nat.le_of_eq (Eq.trans (show ph z64 = ph z64 from rfl) (congrArg ph (show z64 = z from (j_s h)))))
        obtain ⟨z64, hz64, h⟩ := j_bind h
        have g64 : ph t0 ≤ ph z53 := gg53
        have p64 : ph z53 ≤ ph z64 := (show ph z53 ≤ ph z64 from p_Parser_readData hz64)
        have e64 : ph z64 ≤ ph z := by
          exact Nat.le_trans (Nat.le_refl _) (Nat.le_of_eq (Eq.trans (show ph z64 = ph z64 from rfl) (congrArg ph (show z64 = z from (j_s h)))))
        refine J_callVv0 (n := 0) (wc := (wO cI cB cJ cZ (aU a u48) z53)) (w1 := fun u : Nat × Nat × Nat => wO cI cB cJ cZ (aU (aU a u48) u) z64) X isO (hCO cI cB cJ cZ (aU a u48) z53) (hDO cI cB cJ cZ (aU a u48) z53) rfl [] [] (ct_Parser_readData l dC dI cI cB cJ cZ (aU a u48) n z53 hz64) (aw_V (fun w h => mm h) k_ml_Parser_99 k_im_Parser_readData k_se_Parser_readData k_in_Parser k_cd_Parser_readData) rfl (by decide +kernel) ⟨(Nat.le_of_ble_eq_true rfl), (Nat.le_of_ble_eq_true rfl)⟩ (q0 := 11) rfl rfl rfl rfl (Nat.le_of_ble_eq_true rfl) d_Parser_readNext_64 ⟨(by show ph z53 - ph t0 + (ph z64 - ph z53) ≤ ph z - ph t0; omega), (by show 2 * (ph z53 - ph t0) + 2 * (ph z64 - ph z53) ≤ 2 * (ph z - ph t0); omega)⟩ (fun u64 => ?_)
        refine J_to _ _ (wO cI cB cJ cZ (aU a u64) z64) rfl rfl rfl ?_
        refine J_widen (ph z64 - ph t0) (2 * (ph z64 - ph t0)) (by show ph z53 - ph t0 + (ph z64 - ph z53) ≤ _; omega) (by show 2 * (ph z53 - ph t0) + 2 * (ph z64 - ph z53) ≤ _; omega) ?_
        have gg64 : ph t0 ≤ ph z64 := by omega
        exact J_vret X hr hlk u64 (by have e : ph z64 = ph z := (Eq.trans (show ph z64 = ph z64 from rfl) (congrArg ph (show z64 = z from (j_s h)))); show ph z64 - ph t0 ≤ ph z - ph t0; omega) (by have e : ph z64 = ph z := (Eq.trans (show ph z64 = ph z64 from rfl) (congrArg ph (show z64 = z from (j_s h)))); show 2 * (ph z64 - ph t0) ≤ 2 * (ph z - ph t0); omega) (congrArg (fun q => wO cI cB cJ cZ (aU a u64) q) (j_s h)) d_Parser_readNext_67
    · rw [if_pos c20] at h
      refine J_aload_n X d_Parser_readNext_23 2 rfl rfl ?_
      refine J_get (v := .ref (a 3)) X (fun w h => mm (in_Parser w h)) 11 rfl rfl 1 (by decide) (mm k_fl_Parser_50) rfl rfl d_Parser_readNext_24 ?_
      refine J_aload_n X d_Parser_readNext_27 2 rfl rfl ?_
      refine J_get (v := .int (z6.2.1 9)) X (fun w h => mm (in_Parser w h)) 11 rfl rfl 5 (by decide) (mm k_fl_Parser_26) rfl rfl d_Parser_readNext_28 ?_
      refine J_putN (ty := .int) (v := .int (z6.2.1 9)) X (fun w h => mm (in_Picture w h)) ty_Picture tyk_Picture nm_Picture 3 rfl rfl 11 (by decide) k_fln_Parser_81 rfl rfl (by decide +kernel) rfl rfl (Nat.le_of_ble_eq_true rfl) d_Parser_readNext_31 (wO cI cB cJ cZ (aU a (a 2, a 5, a 7)) (sG z6.2 6 (z6.2.1 9))) rfl ?_
      exact J_vret X hr hlk (a 2, a 5, a 7) (by have e : ph z6.2 = ph z := (Eq.trans (show ph z6.2 = ph (sG z6.2 6 (z6.2.1 9)) from rfl) (congrArg ph (show (sG z6.2 6 (z6.2.1 9)) = z from (j_s h)))); show ph z6.2 - ph t0 ≤ ph z - ph t0; omega) (by have e : ph z6.2 = ph z := (Eq.trans (show ph z6.2 = ph (sG z6.2 6 (z6.2.1 9)) from rfl) (congrArg ph (show (sG z6.2 6 (z6.2.1 9)) = z from (j_s h)))); show 2 * (ph z6.2 - ph t0) ≤ 2 * (ph z - ph t0); omega) (congrArg (fun q => wO cI cB cJ cZ (aU a (a 2, a 5, a 7)) q) (j_s h)) d_Parser_readNext_34
  · rw [if_pos c12] at h
    exact J_vret X hr hlk (a 2, a 5, a 7) (by have e : ph z6.2 = ph z := (Eq.trans (show ph z6.2 = ph z6.2 from rfl) (congrArg ph (show z6.2 = z from (j_s h)))); show ph z6.2 - ph t0 ≤ ph z - ph t0; omega) (by have e : ph z6.2 = ph z := (Eq.trans (show ph z6.2 = ph z6.2 from rfl) (congrArg ph (show z6.2 = z from (j_s h)))); show 2 * (ph z6.2 - ph t0) ≤ 2 * (ph z - ph t0); omega) (congrArg (fun q => wO cI cB cJ cZ (aU a (a 2, a 5, a 7)) q) (j_s h)) d_Parser_readNext_15
theorem p_Reader_read {n : Nat}  {t0 : St} {z : Int32 × St} (h : m_Reader_read n t0 = some z) : ph t0 ≤ ph z.2 := by
  have G39 : ∀  (t : St), m_Reader_read_39 n   t = some z → ph t ≤ ph z.2 := by
    intro  t h
    unfold m_Reader_read_39 at h
    obtain ⟨z43, hz43, h⟩ := j_bind h
    exact Nat.le_trans (Nat.le_trans (Nat.le_refl _) (show ph t ≤ ph z43.2 from ph_le (q_Parser_finish hz43))) (Nat.le_of_eq (Eq.trans (show ph z43.2 = ph z43.2 from rfl) (congrArg ph (show z43.2 = z.2 from (j_r2 h)))))
  have G9 : ∀ (k : Nat) (x1 : Int32) (t : St), m_Reader_read_9 n  k x1 t = some z → ph t ≤ ph z.2 := by
    intro k
    induction k with
    | zero => intro x1 t h; exact absurd (show none = some z from h) (by simp)
    | succ k ih =>
      intro x1 t h
      change m_Reader_read_9b n  (m_Reader_read_9 n  k) x1 t = some z at h
      unfold m_Reader_read_9b at h
      by_cases c13 : (16384 : Int32) ≤ x1
      · rw [if_pos c13] at h
        exact Nat.le_trans (Nat.le_refl _) (G39  t h)
      · rw [if_neg c13] at h
        obtain ⟨z20, hz20, h⟩ := j_bind h
        by_cases c23 : z20.1 = 0
        · rw [if_pos c23] at h
          exact Nat.le_trans (Nat.le_trans (Nat.le_refl _) (show ph t ≤ ph z20.2 from ph_le (q_Parser_goesOn hz20))) (G39  z20.2 h)
        · rw [if_neg c23] at h
          obtain ⟨z30, hz30, h⟩ := j_bind h
          exact Nat.le_trans (Nat.le_trans (Nat.le_trans (Nat.le_refl _) (show ph t ≤ ph z20.2 from ph_le (q_Parser_goesOn hz20))) (show ph z20.2 ≤ ph z30 from p_Parser_readNext hz30)) (ih (x1 + 1) z30 h)
  unfold m_Reader_read at h
  obtain ⟨z4, hz4, h⟩ := j_bind h
  exact Nat.le_trans (Nat.le_trans (Nat.le_refl _) (show ph t0 ≤ ph z4 from ph_le (q_Parser_begin hz4))) (G9  n (0 : Int32) z4 h)
set_option maxHeartbeats 4000000 in
set_option maxRecDepth 100000 in
theorem ct_Reader_read (l : Launch) (dC : Nat → ClassId) (dI : Nat → Nat → Nat) (cI cB cJ cZ : ClassId) (a : Nat → Nat) (n : Nat)  (t0 : St) {z : Int32 × St} (h : m_Reader_read n t0 = some z) : jMi l y_Reader_read w_Reader_read ({ frames := 7, cells := ph z.2 - ph t0, slots := 2 * (ph z.2 - ph t0), locals := 196 }) (dC, dI) vwCl (tyA cI cB cJ cZ) [.ref (a 0)] (wO cI cB cJ cZ a t0) z.1 (fun u : Nat × Nat × Nat => wO cI cB cJ cZ (aU a u) z.2) := by
  refine jMi.of (cc := c_Reader_read) (maxL := 2) (ret := (some .int)) (by decide) rfl (Nat.le_of_ble_eq_true rfl) ?_
  intro p e s m args below meth c A X hr hlk hnm
  have G39 : ∀  (t : St), m_Reader_read_39 n   t = some z → ph t ≤ ph z.2 := by
    intro  t h
    unfold m_Reader_read_39 at h
    obtain ⟨z43, hz43, h⟩ := j_bind h
    exact Nat.le_trans (Nat.le_trans (Nat.le_refl _) (show ph t ≤ ph z43.2 from ph_le (q_Parser_finish hz43))) (Nat.le_of_eq (Eq.trans (show ph z43.2 = ph z43.2 from rfl) (congrArg ph (show z43.2 = z.2 from (j_r2 h)))))
  have L39 : ∀ (u : Nat × Nat × Nat)  (t : St), ph t0 ≤ ph t → m_Reader_read_39 n   t = some z → J p l e { frames := 7, cells := ph z.2 - ph t0, slots := 2 * (ph z.2 - ph t0), locals := 196 } s m args below meth c 2 (dC, dI) vwCl A (MQ below (jQi (dC, dI) vwCl (tyA cI cB cJ cZ) z.1 (fun u : Nat × Nat × Nat => wO cI cB cJ cZ (aU a u) z.2) A) args s (ph z.2 - ph t0) (2 * (ph z.2 - ph t0)) A) (ph t - ph t0) (2 * (ph t - ph t0)) 39 [(0, .ref (a 0))] [] (wO cI cB cJ cZ (aU a u) t) := by
    intro u  t hg h
    unfold m_Reader_read_39 at h
    refine J_aload_n X d_Reader_read_39 0 rfl rfl ?_
    refine J_get (v := .ref (a 11)) X (fun w h => mm (in_Reader w h)) 0 rfl rfl 2 (by decide) (mm k_fl_Reader_30) rfl rfl d_Reader_read_40 ?_
    have f43 : ph t ≤ ph z.2 := by
      obtain ⟨z43, hz43, h⟩ := j_bind h
      exact Nat.le_trans (Nat.le_trans (Nat.le_refl _) (show ph t ≤ ph z43.2 from ph_le (q_Parser_finish hz43))) (Nat.le_of_eq (Eq.trans (show ph z43.2 = ph z43.2 from rfl) (congrArg ph (show z43.2 = z.2 from (j_r2 h)))))
    obtain ⟨z43, hz43, h⟩ := j_bind h
    have g43 : ph t0 ≤ ph t := hg
    have p43 : ph t = ph z43.2 := (show ph t = ph z43.2 from ph_eq (q_Parser_finish hz43))
    refine J_callVi0 (n := 0) (wc := (wO cI cB cJ cZ (aU a u) t)) (r := z43.1) (w1 := fun _ : Unit => wO cI cB cJ cZ (aU a u) z43.2) X isO (hCO cI cB cJ cZ (aU a u) t) (hDO cI cB cJ cZ (aU a u) t) rfl [] [] (ct_Parser_finish l dC dI cI cB cJ cZ (aU a u) n t hz43) (aw_V (fun w h => mm h) k_ml_Reader_55 k_im_Parser_finish k_se_Parser_finish k_in_Parser k_cd_Parser_finish) rfl (by decide +kernel) ⟨(Nat.le_of_ble_eq_true rfl), (Nat.le_of_ble_eq_true rfl)⟩ (q0 := 11) rfl rfl rfl rfl (Nat.le_of_ble_eq_true rfl) d_Reader_read_43 ⟨(by show ph t - ph t0 + 0 ≤ ph z.2 - ph t0; omega), (by show 2 * (ph t - ph t0) + 0 ≤ 2 * (ph z.2 - ph t0); omega)⟩ (fun _ => ?_)
    refine J_widen (ph z43.2 - ph t0) (2 * (ph z43.2 - ph t0)) (by show ph t - ph t0 + 0 ≤ _; omega) (by show 2 * (ph t - ph t0) + 0 ≤ _; omega) ?_
    have gg43 : ph t0 ≤ ph z43.2 := by omega
    exact J_iret X hr hlk u (by have e : ph z43.2 = ph z.2 := (Eq.trans (show ph z43.2 = ph z43.2 from rfl) (congrArg ph (show z43.2 = z.2 from (j_r2 h)))); show ph z43.2 - ph t0 ≤ ph z.2 - ph t0; omega) (by have e : ph z43.2 = ph z.2 := (Eq.trans (show ph z43.2 = ph z43.2 from rfl) (congrArg ph (show z43.2 = z.2 from (j_r2 h)))); show 2 * (ph z43.2 - ph t0) ≤ 2 * (ph z.2 - ph t0); omega) (j_r1 h) (congrArg (fun q => wO cI cB cJ cZ (aU a u) q) (j_r2 h)) d_Reader_read_46
  have G9 : ∀ (k : Nat) (x1 : Int32) (t : St), m_Reader_read_9 n  k x1 t = some z → ph t ≤ ph z.2 := by
    intro k
    induction k with
    | zero => intro x1 t h; exact absurd (show none = some z from h) (by simp)
    | succ k ih =>
      intro x1 t h
      change m_Reader_read_9b n  (m_Reader_read_9 n  k) x1 t = some z at h
      unfold m_Reader_read_9b at h
      by_cases c13 : (16384 : Int32) ≤ x1
      · rw [if_pos c13] at h
        exact Nat.le_trans (Nat.le_refl _) (G39  t h)
      · rw [if_neg c13] at h
        obtain ⟨z20, hz20, h⟩ := j_bind h
        by_cases c23 : z20.1 = 0
        · rw [if_pos c23] at h
          exact Nat.le_trans (Nat.le_trans (Nat.le_refl _) (show ph t ≤ ph z20.2 from ph_le (q_Parser_goesOn hz20))) (G39  z20.2 h)
        · rw [if_neg c23] at h
          obtain ⟨z30, hz30, h⟩ := j_bind h
          exact Nat.le_trans (Nat.le_trans (Nat.le_trans (Nat.le_refl _) (show ph t ≤ ph z20.2 from ph_le (q_Parser_goesOn hz20))) (show ph z20.2 ≤ ph z30 from p_Parser_readNext hz30)) (ih (x1 + 1) z30 h)
  have L9 : ∀ (k : Nat) (u : Nat × Nat × Nat) (x1 : Int32) (t : St), ph t0 ≤ ph t → m_Reader_read_9 n  k x1 t = some z → J p l e { frames := 7, cells := ph z.2 - ph t0, slots := 2 * (ph z.2 - ph t0), locals := 196 } s m args below meth c 2 (dC, dI) vwCl A (MQ below (jQi (dC, dI) vwCl (tyA cI cB cJ cZ) z.1 (fun u : Nat × Nat × Nat => wO cI cB cJ cZ (aU a u) z.2) A) args s (ph z.2 - ph t0) (2 * (ph z.2 - ph t0)) A) (ph t - ph t0) (2 * (ph t - ph t0)) 9 [(0, .ref (a 0)), (1, .int x1)] [] (wO cI cB cJ cZ (aU a u) t) := by
    intro k
    induction k with
    | zero => intro u x1 t hg h; exact absurd (show none = some z from h) (by simp)
    | succ k ih =>
      intro u x1 t hg h
      change m_Reader_read_9b n  (m_Reader_read_9 n  k) x1 t = some z at h
      unfold m_Reader_read_9b at h
      refine J_iload_n X d_Reader_read_9 1 rfl rfl ?_
      refine J_sipush (v := (16384 : Int32)) X d_Reader_read_10 (by decide) ?_
      refine J_icmp_ge X 39 d_Reader_read_13 (by decide) (fun c13 => ?_) (fun c13 => ?_)
      · rw [if_pos c13] at h
        refine J_lv [0] [(0, .ref (a 0))] rfl ?_
        exact L39  u t hg h
      · rw [if_neg c13] at h
        refine J_aload_n X d_Reader_read_16 0 rfl rfl ?_
        refine J_get (v := .ref (a 11)) X (fun w h => mm (in_Reader w h)) 0 rfl rfl 2 (by decide) (mm k_fl_Reader_30) rfl rfl d_Reader_read_17 ?_
        have f20 : ph t ≤ ph z.2 := by
          obtain ⟨z20, hz20, h⟩ := j_bind h
          by_cases c23 : z20.1 = 0
          · rw [if_pos c23] at h
            exact Nat.le_trans (Nat.le_trans (Nat.le_refl _) (show ph t ≤ ph z20.2 from ph_le (q_Parser_goesOn hz20))) (G39  z20.2 h)
          · rw [if_neg c23] at h
            obtain ⟨z30, hz30, h⟩ := j_bind h
            exact Nat.le_trans (Nat.le_trans (Nat.le_trans (Nat.le_refl _) (show ph t ≤ ph z20.2 from ph_le (q_Parser_goesOn hz20))) (show ph z20.2 ≤ ph z30 from p_Parser_readNext hz30)) ((G9 k) (x1 + 1) z30 h)
        obtain ⟨z20, hz20, h⟩ := j_bind h
        have g20 : ph t0 ≤ ph t := hg
        have p20 : ph t = ph z20.2 := (show ph t = ph z20.2 from ph_eq (q_Parser_goesOn hz20))
        refine J_callVi0 (n := 0) (wc := (wO cI cB cJ cZ (aU a u) t)) (r := z20.1) (w1 := fun _ : Unit => wO cI cB cJ cZ (aU a u) z20.2) X isO (hCO cI cB cJ cZ (aU a u) t) (hDO cI cB cJ cZ (aU a u) t) rfl [] [] (ct_Parser_goesOn l dC dI cI cB cJ cZ (aU a u) n t hz20) (aw_V (fun w h => mm h) k_ml_Reader_48 k_im_Parser_goesOn k_se_Parser_goesOn k_in_Parser k_cd_Parser_goesOn) rfl (by decide +kernel) ⟨(Nat.le_of_ble_eq_true rfl), (Nat.le_of_ble_eq_true rfl)⟩ (q0 := 11) rfl rfl rfl rfl (Nat.le_of_ble_eq_true rfl) d_Reader_read_20 ⟨(by show ph t - ph t0 + 0 ≤ ph z.2 - ph t0; omega), (by show 2 * (ph t - ph t0) + 0 ≤ 2 * (ph z.2 - ph t0); omega)⟩ (fun _ => ?_)
        refine J_widen (ph z20.2 - ph t0) (2 * (ph z20.2 - ph t0)) (by show ph t - ph t0 + 0 ≤ _; omega) (by show 2 * (ph t - ph t0) + 0 ≤ _; omega) ?_
        have gg20 : ph t0 ≤ ph z20.2 := by omega
        refine J_if_eq X 39 d_Reader_read_23 (by decide) (fun c23 => ?_) (fun c23 => ?_)
        · rw [if_pos c23] at h
          refine J_lv [0] [(0, .ref (a 0))] rfl ?_
          exact L39  u z20.2 gg20 h
        · rw [if_neg c23] at h
          refine J_aload_n X d_Reader_read_26 0 rfl rfl ?_
          refine J_get (v := .ref (a 11)) X (fun w h => mm (in_Reader w h)) 0 rfl rfl 2 (by decide) (mm k_fl_Reader_30) rfl rfl d_Reader_read_27 ?_
          have f30 : ph z20.2 ≤ ph z.2 := by
            obtain ⟨z30, hz30, h⟩ := j_bind h
            exact Nat.le_trans (Nat.le_trans (Nat.le_refl _) (show ph z20.2 ≤ ph z30 from p_Parser_readNext hz30)) ((G9 k) (x1 + 1) z30 h)
          obtain ⟨z30, hz30, h⟩ := j_bind h
          have g30 : ph t0 ≤ ph z20.2 := gg20
          have p30 : ph z20.2 ≤ ph z30 := (show ph z20.2 ≤ ph z30 from p_Parser_readNext hz30)
          have e30 : ph z30 ≤ ph z.2 := by
            exact Nat.le_trans (Nat.le_refl _) ((G9 k) (x1 + 1) z30 h)
          refine J_callVv0 (n := 0) (wc := (wO cI cB cJ cZ (aU a u) z20.2)) (w1 := fun u : Nat × Nat × Nat => wO cI cB cJ cZ (aU (aU a u) u) z30) X isO (hCO cI cB cJ cZ (aU a u) z20.2) (hDO cI cB cJ cZ (aU a u) z20.2) rfl [] [] (ct_Parser_readNext l dC dI cI cB cJ cZ (aU a u) n z20.2 hz30) (aw_V (fun w h => mm h) k_ml_Reader_52 k_im_Parser_readNext k_se_Parser_readNext k_in_Parser k_cd_Parser_readNext) rfl (by decide +kernel) ⟨(Nat.le_of_ble_eq_true rfl), (Nat.le_of_ble_eq_true rfl)⟩ (q0 := 11) rfl rfl rfl rfl (Nat.le_of_ble_eq_true rfl) d_Reader_read_30 ⟨(by show ph z20.2 - ph t0 + (ph z30 - ph z20.2) ≤ ph z.2 - ph t0; omega), (by show 2 * (ph z20.2 - ph t0) + 2 * (ph z30 - ph z20.2) ≤ 2 * (ph z.2 - ph t0); omega)⟩ (fun u30 => ?_)
          refine J_to _ _ (wO cI cB cJ cZ (aU a u30) z30) rfl rfl rfl ?_
          refine J_widen (ph z30 - ph t0) (2 * (ph z30 - ph t0)) (by show ph z20.2 - ph t0 + (ph z30 - ph z20.2) ≤ _; omega) (by show 2 * (ph z20.2 - ph t0) + 2 * (ph z30 - ph z20.2) ≤ _; omega) ?_
          have gg30 : ph t0 ≤ ph z30 := by omega
          refine J_iinc (v := (x1 + 1)) X [(1, .int (x1 + 1)), (0, .ref (a 0))] d_Reader_read_33 1 rfl rfl (by decide) rfl ?_
          refine J_goto X 9 d_Reader_read_36 (by decide) ?_
          refine J_lv [1, 0] [(0, .ref (a 0)), (1, .int (x1 + 1))] rfl ?_
          exact ih u30 (x1 + 1) z30 gg30 h
  refine J_lv [0] [(0, .ref (a 0))] rfl ?_
  refine J_to _ _ (wO cI cB cJ cZ (aU a (a 2, a 5, a 7)) t0) rfl rfl rfl ?_
  refine J_widen (ph t0 - ph t0) (2 * (ph t0 - ph t0)) (Nat.zero_le _) (Nat.zero_le _) ?_
  unfold m_Reader_read at h
  refine J_aload_n X d_Reader_read_0 0 rfl rfl ?_
  refine J_get (v := .ref (a 11)) X (fun w h => mm (in_Reader w h)) 0 rfl rfl 2 (by decide) (mm k_fl_Reader_30) rfl rfl d_Reader_read_1 ?_
  have f4 : ph t0 ≤ ph z.2 := by
    obtain ⟨z4, hz4, h⟩ := j_bind h
    exact Nat.le_trans (Nat.le_trans (Nat.le_refl _) (show ph t0 ≤ ph z4 from ph_le (q_Parser_begin hz4))) (G9  n (0 : Int32) z4 h)
  obtain ⟨z4, hz4, h⟩ := j_bind h
  have g4 : ph t0 ≤ ph t0 := (Nat.le_refl (ph t0))
  have p4 : ph t0 = ph z4 := (show ph t0 = ph z4 from ph_eq (q_Parser_begin hz4))
  refine J_callVv0 (n := 0) (wc := (wO cI cB cJ cZ (aU a (a 2, a 5, a 7)) t0)) (w1 := fun _ : Unit => wO cI cB cJ cZ (aU a (a 2, a 5, a 7)) z4) X isO (hCO cI cB cJ cZ (aU a (a 2, a 5, a 7)) t0) (hDO cI cB cJ cZ (aU a (a 2, a 5, a 7)) t0) rfl [] [] (ct_Parser_begin l dC dI cI cB cJ cZ (aU a (a 2, a 5, a 7)) n t0 hz4) (aw_V (fun w h => mm h) k_ml_Reader_45 k_im_Parser_begin k_se_Parser_begin k_in_Parser k_cd_Parser_begin) rfl (by decide +kernel) ⟨(Nat.le_of_ble_eq_true rfl), (Nat.le_of_ble_eq_true rfl)⟩ (q0 := 11) rfl rfl rfl rfl (Nat.le_of_ble_eq_true rfl) d_Reader_read_4 ⟨(by show ph t0 - ph t0 + 0 ≤ ph z.2 - ph t0; omega), (by show 2 * (ph t0 - ph t0) + 0 ≤ 2 * (ph z.2 - ph t0); omega)⟩ (fun _ => ?_)
  refine J_widen (ph z4 - ph t0) (2 * (ph z4 - ph t0)) (by show ph t0 - ph t0 + 0 ≤ _; omega) (by show 2 * (ph t0 - ph t0) + 0 ≤ _; omega) ?_
  have gg4 : ph t0 ≤ ph z4 := by omega
  refine J_iconst (v := (0 : Int32)) X d_Reader_read_7 (by decide) ?_
  refine J_istore_n X [(1, .int (0 : Int32)), (0, .ref (a 0))] d_Reader_read_8 rfl (by decide) rfl ?_
  refine J_lv [1, 0] [(0, .ref (a 0)), (1, .int (0 : Int32))] rfl ?_
  exact L9  n (a 2, a 5, a 7) (0 : Int32) z4 gg4 h
theorem p_Reader_give {n : Nat} {x1 : Int64} {x3 : Int32} {t0 : St} {z : Int32 × St} (h : m_Reader_give n x1 x3 t0 = some z) : ph t0 ≤ ph z.2 := by
  have G33 : ∀ (k : Nat) (x1 : Int64) (x4 : Int32) (t : St), m_Reader_give_33 n  k x1 x4 t = some z → ph t ≤ ph z.2 := by
    intro k
    induction k with
    | zero => intro x1 x4 t h; exact absurd (show none = some z from h) (by simp)
    | succ k ih =>
      intro x1 x4 t h
      change m_Reader_give_33b n  (m_Reader_give_33 n  k) x1 x4 t = some z at h
      unfold m_Reader_give_33b at h
      by_cases c35 : x4 < 0
      · rw [if_pos c35] at h
        obtain ⟨z63, hz63, h⟩ := j_bind h
        exact Nat.le_trans (Nat.le_trans (Nat.le_refl _) (show ph t ≤ ph z63 from ph_le (q_Parser_forget hz63))) (Nat.le_of_eq (Eq.trans (show ph z63 = ph z63 from rfl) (congrArg ph (show z63 = z.2 from (j_r2 h)))))
      · rw [if_neg c35] at h
        obtain ⟨z50, hz50, h⟩ := j_bind h
        exact Nat.le_trans (Nat.le_trans (Nat.le_refl _) (show ph t ≤ ph z50 from p_Bytes_add hz50)) (ih x1 (x4 + (-1)) z50 h)
  unfold m_Reader_give at h
  by_cases c2 : x3 < (1 : Int32)
  · rw [if_pos c2] at h
    exact Nat.le_trans (Nat.le_refl _) (Nat.le_of_eq (Eq.trans (show ph t0 = ph t0 from rfl) (congrArg ph (show t0 = z.2 from (j_r2 h)))))
  · rw [if_neg c2] at h
    by_cases c8 : (8 : Int32) < x3
    · rw [if_pos c8] at h
      exact Nat.le_trans (Nat.le_refl _) (Nat.le_of_eq (Eq.trans (show ph t0 = ph t0 from rfl) (congrArg ph (show t0 = z.2 from (j_r2 h)))))
    · rw [if_neg c8] at h
      by_cases c23 : x3 ≤ ((16384 : Int32) - (t0.1 0))
      · rw [if_pos c23] at h
        exact Nat.le_trans (Nat.le_refl _) (G33  n x1 (x3 - (1 : Int32)) t0 h)
      · rw [if_neg c23] at h
        exact Nat.le_trans (Nat.le_refl _) (Nat.le_of_eq (Eq.trans (show ph t0 = ph t0 from rfl) (congrArg ph (show t0 = z.2 from (j_r2 h)))))
set_option maxHeartbeats 4000000 in
set_option maxRecDepth 100000 in
theorem ct_Reader_give (l : Launch) (dC : Nat → ClassId) (dI : Nat → Nat → Nat) (cI cB cJ cZ : ClassId) (a : Nat → Nat) (n : Nat) (x1 : Int64) (x3 : Int32) (t0 : St) {z : Int32 × St} (h : m_Reader_give n x1 x3 t0 = some z) : jMi l y_Reader_give w_Reader_give ({ frames := 3, cells := ph z.2 - ph t0, slots := 2 * (ph z.2 - ph t0), locals := 103 }) (dC, dI) vwCl (tyA cI cB cJ cZ) [.ref (a 0), .long x1, .int x3] (wO cI cB cJ cZ a t0) z.1 (fun u : Nat × Nat × Nat => wO cI cB cJ cZ (aU a u) z.2) := by
  refine jMi.of (cc := c_Reader_give) (maxL := 5) (ret := (some .boolean)) (by decide) rfl (Nat.le_of_ble_eq_true rfl) ?_
  intro p e s m args below meth c A X hr hlk hnm
  have G33 : ∀ (k : Nat) (x1 : Int64) (x4 : Int32) (t : St), m_Reader_give_33 n  k x1 x4 t = some z → ph t ≤ ph z.2 := by
    intro k
    induction k with
    | zero => intro x1 x4 t h; exact absurd (show none = some z from h) (by simp)
    | succ k ih =>
      intro x1 x4 t h
      change m_Reader_give_33b n  (m_Reader_give_33 n  k) x1 x4 t = some z at h
      unfold m_Reader_give_33b at h
      by_cases c35 : x4 < 0
      · rw [if_pos c35] at h
        obtain ⟨z63, hz63, h⟩ := j_bind h
        exact Nat.le_trans (Nat.le_trans (Nat.le_refl _) (show ph t ≤ ph z63 from ph_le (q_Parser_forget hz63))) (Nat.le_of_eq (Eq.trans (show ph z63 = ph z63 from rfl) (congrArg ph (show z63 = z.2 from (j_r2 h)))))
      · rw [if_neg c35] at h
        obtain ⟨z50, hz50, h⟩ := j_bind h
        exact Nat.le_trans (Nat.le_trans (Nat.le_refl _) (show ph t ≤ ph z50 from p_Bytes_add hz50)) (ih x1 (x4 + (-1)) z50 h)
  have L33 : ∀ (k : Nat) (u : Nat × Nat × Nat) (x1 : Int64) (x4 : Int32) (t : St), ph t0 ≤ ph t → m_Reader_give_33 n  k x1 x4 t = some z → J p l e { frames := 3, cells := ph z.2 - ph t0, slots := 2 * (ph z.2 - ph t0), locals := 103 } s m args below meth c 5 (dC, dI) vwCl A (MQ below (jQi (dC, dI) vwCl (tyA cI cB cJ cZ) z.1 (fun u : Nat × Nat × Nat => wO cI cB cJ cZ (aU a u) z.2) A) args s (ph z.2 - ph t0) (2 * (ph z.2 - ph t0)) A) (ph t - ph t0) (2 * (ph t - ph t0)) 33 [(0, .ref (a 0)), (1, .long x1), (4, .int x4)] [] (wO cI cB cJ cZ (aU a u) t) := by
    intro k
    induction k with
    | zero => intro u x1 x4 t hg h; exact absurd (show none = some z from h) (by simp)
    | succ k ih =>
      intro u x1 x4 t hg h
      change m_Reader_give_33b n  (m_Reader_give_33 n  k) x1 x4 t = some z at h
      unfold m_Reader_give_33b at h
      refine J_iload X d_Reader_give_33 2 rfl ?_
      refine J_if_lt X 59 d_Reader_give_35 (by decide) (fun c35 => ?_) (fun c35 => ?_)
      · rw [if_pos c35] at h
        refine J_aload_n X d_Reader_give_59 0 rfl rfl ?_
        refine J_get (v := .ref (a 11)) X (fun w h => mm (in_Reader w h)) 0 rfl rfl 2 (by decide) (mm k_fl_Reader_30) rfl rfl d_Reader_give_60 ?_
        have f63 : ph t ≤ ph z.2 := by
          obtain ⟨z63, hz63, h⟩ := j_bind h
          exact Nat.le_trans (Nat.le_trans (Nat.le_refl _) (show ph t ≤ ph z63 from ph_le (q_Parser_forget hz63))) (Nat.le_of_eq (Eq.trans (show ph z63 = ph z63 from rfl) (congrArg ph (show z63 = z.2 from (j_r2 h)))))
        obtain ⟨z63, hz63, h⟩ := j_bind h
        have g63 : ph t0 ≤ ph t := hg
        have p63 : ph t = ph z63 := (show ph t = ph z63 from ph_eq (q_Parser_forget hz63))
        refine J_callVv0 (n := 0) (wc := (wO cI cB cJ cZ (aU a u) t)) (w1 := fun _ : Unit => wO cI cB cJ cZ (aU a u) z63) X isO (hCO cI cB cJ cZ (aU a u) t) (hDO cI cB cJ cZ (aU a u) t) rfl [] [] (ct_Parser_forget l dC dI cI cB cJ cZ (aU a u) n t hz63) (aw_V (fun w h => mm h) k_ml_Reader_42 k_im_Parser_forget k_se_Parser_forget k_in_Parser k_cd_Parser_forget) rfl (by decide +kernel) ⟨(Nat.le_of_ble_eq_true rfl), (Nat.le_of_ble_eq_true rfl)⟩ (q0 := 11) rfl rfl rfl rfl (Nat.le_of_ble_eq_true rfl) d_Reader_give_63 ⟨(by show ph t - ph t0 + 0 ≤ ph z.2 - ph t0; omega), (by show 2 * (ph t - ph t0) + 0 ≤ 2 * (ph z.2 - ph t0); omega)⟩ (fun _ => ?_)
        refine J_widen (ph z63 - ph t0) (2 * (ph z63 - ph t0)) (by show ph t - ph t0 + 0 ≤ _; omega) (by show 2 * (ph t - ph t0) + 0 ≤ _; omega) ?_
        have gg63 : ph t0 ≤ ph z63 := by omega
        refine J_iconst (v := (1 : Int32)) X d_Reader_give_66 (by decide) ?_
        exact J_zret X hr hlk u rfl (by have e : ph z63 = ph z.2 := (Eq.trans (show ph z63 = ph z63 from rfl) (congrArg ph (show z63 = z.2 from (j_r2 h)))); show ph z63 - ph t0 ≤ ph z.2 - ph t0; omega) (by have e : ph z63 = ph z.2 := (Eq.trans (show ph z63 = ph z63 from rfl) (congrArg ph (show z63 = z.2 from (j_r2 h)))); show 2 * (ph z63 - ph t0) ≤ 2 * (ph z.2 - ph t0); omega) (j_r1 h) (congrArg (fun q => wO cI cB cJ cZ (aU a u) q) (j_r2 h)) d_Reader_give_67
      · rw [if_neg c35] at h
        refine J_aload_n X d_Reader_give_38 0 rfl rfl ?_
        refine J_get (v := .ref (a 1)) X (fun w h => mm (in_Reader w h)) 0 rfl rfl 0 (by decide) (mm k_fl_Reader_10) rfl rfl d_Reader_give_39 ?_
        refine J_lload_n X d_Reader_give_42 1 rfl rfl ?_
        refine J_bipush (v := (8 : Int32)) X d_Reader_give_43 (by decide) ?_
        refine J_iload X d_Reader_give_45 2 rfl ?_
        refine J_imul X d_Reader_give_47 ?_
        refine J_lushr X d_Reader_give_48 ?_
        refine J_l2i X d_Reader_give_49 ?_
        have f50 : ph t ≤ ph z.2 := by
          obtain ⟨z50, hz50, h⟩ := j_bind h
          exact Nat.le_trans (Nat.le_trans (Nat.le_refl _) (show ph t ≤ ph z50 from p_Bytes_add hz50)) ((G33 k) x1 (x4 + (-1)) z50 h)
        obtain ⟨z50, hz50, h⟩ := j_bind h
        have g50 : ph t0 ≤ ph t := hg
        have p50 : ph t ≤ ph z50 := (show ph t ≤ ph z50 from p_Bytes_add hz50)
        have e50 : ph z50 ≤ ph z.2 := by
          exact Nat.le_trans (Nat.le_refl _) ((G33 k) x1 (x4 + (-1)) z50 h)
        refine J_callVv0 (n := 1) (wc := (wO cI cB cJ cZ (aU a u) t)) (w1 := fun u : Nat × Nat × Nat => wO cI cB cJ cZ (aU (aU a u) u) z50) X isO (hCO cI cB cJ cZ (aU a u) t) (hDO cI cB cJ cZ (aU a u) t) rfl [.int ((((x1).toUInt64 >>> ((((8 : Int32) * x4)).toInt64.toUInt64 &&& Int64.toUInt64 63)).toInt64)).toInt32] [] (ct_Bytes_add l dC dI cI cB cJ cZ (aU a u) n ((((x1).toUInt64 >>> ((((8 : Int32) * x4)).toInt64.toUInt64 &&& Int64.toUInt64 63)).toInt64)).toInt32 t hz50) (aw_V (fun w h => mm h) k_ml_Reader_38 k_im_Bytes_add k_se_Bytes_add k_in_Bytes k_cd_Bytes_add) rfl (by decide +kernel) ⟨(Nat.le_of_ble_eq_true rfl), (Nat.le_of_ble_eq_true rfl)⟩ (q0 := 1) rfl rfl rfl rfl (Nat.le_of_ble_eq_true rfl) d_Reader_give_50 ⟨(by show ph t - ph t0 + (ph z50 - ph t) ≤ ph z.2 - ph t0; omega), (by show 2 * (ph t - ph t0) + 2 * (ph z50 - ph t) ≤ 2 * (ph z.2 - ph t0); omega)⟩ (fun u50 => ?_)
        refine J_to _ _ (wO cI cB cJ cZ (aU a u50) z50) rfl rfl rfl ?_
        refine J_widen (ph z50 - ph t0) (2 * (ph z50 - ph t0)) (by show ph t - ph t0 + (ph z50 - ph t) ≤ _; omega) (by show 2 * (ph t - ph t0) + 2 * (ph z50 - ph t) ≤ _; omega) ?_
        have gg50 : ph t0 ≤ ph z50 := by omega
        refine J_iinc (v := (x4 + (-1))) X [(4, .int (x4 + (-1))), (0, .ref (a 0)), (1, .long x1)] d_Reader_give_53 2 rfl rfl (by decide) rfl ?_
        refine J_goto X 33 d_Reader_give_56 (by decide) ?_
        refine J_lv [1, 2, 0] [(0, .ref (a 0)), (1, .long x1), (4, .int (x4 + (-1)))] rfl ?_
        exact ih u50 x1 (x4 + (-1)) z50 gg50 h
  refine J_lv [0, 1, 2] [(0, .ref (a 0)), (1, .long x1), (3, .int x3)] rfl ?_
  refine J_to _ _ (wO cI cB cJ cZ (aU a (a 2, a 5, a 7)) t0) rfl rfl rfl ?_
  refine J_widen (ph t0 - ph t0) (2 * (ph t0 - ph t0)) (Nat.zero_le _) (Nat.zero_le _) ?_
  unfold m_Reader_give at h
  refine J_iload_n X d_Reader_give_0 2 rfl rfl ?_
  refine J_iconst (v := (1 : Int32)) X d_Reader_give_1 (by decide) ?_
  refine J_icmp_lt X 26 d_Reader_give_2 (by decide) (fun c2 => ?_) (fun c2 => ?_)
  · rw [if_pos c2] at h
    refine J_iconst (v := (0 : Int32)) X d_Reader_give_26 (by decide) ?_
    exact J_zret X hr hlk (a 2, a 5, a 7) rfl (by have e : ph t0 = ph z.2 := (Eq.trans (show ph t0 = ph t0 from rfl) (congrArg ph (show t0 = z.2 from (j_r2 h)))); show ph t0 - ph t0 ≤ ph z.2 - ph t0; omega) (by have e : ph t0 = ph z.2 := (Eq.trans (show ph t0 = ph t0 from rfl) (congrArg ph (show t0 = z.2 from (j_r2 h)))); show 2 * (ph t0 - ph t0) ≤ 2 * (ph z.2 - ph t0); omega) (j_r1 h) (congrArg (fun q => wO cI cB cJ cZ (aU a (a 2, a 5, a 7)) q) (j_r2 h)) d_Reader_give_27
  · rw [if_neg c2] at h
    refine J_iload_n X d_Reader_give_5 2 rfl rfl ?_
    refine J_bipush (v := (8 : Int32)) X d_Reader_give_6 (by decide) ?_
    refine J_icmp_gt X 26 d_Reader_give_8 (by decide) (fun c8 => ?_) (fun c8 => ?_)
    · rw [if_pos c8] at h
      refine J_iconst (v := (0 : Int32)) X d_Reader_give_26 (by decide) ?_
      exact J_zret X hr hlk (a 2, a 5, a 7) rfl (by have e : ph t0 = ph z.2 := (Eq.trans (show ph t0 = ph t0 from rfl) (congrArg ph (show t0 = z.2 from (j_r2 h)))); show ph t0 - ph t0 ≤ ph z.2 - ph t0; omega) (by have e : ph t0 = ph z.2 := (Eq.trans (show ph t0 = ph t0 from rfl) (congrArg ph (show t0 = z.2 from (j_r2 h)))); show 2 * (ph t0 - ph t0) ≤ 2 * (ph z.2 - ph t0); omega) (j_r1 h) (congrArg (fun q => wO cI cB cJ cZ (aU a (a 2, a 5, a 7)) q) (j_r2 h)) d_Reader_give_27
    · rw [if_neg c8] at h
      refine J_iload_n X d_Reader_give_11 2 rfl rfl ?_
      refine J_sipush (v := (16384 : Int32)) X d_Reader_give_12 (by decide) ?_
      refine J_aload_n X d_Reader_give_15 0 rfl rfl ?_
      refine J_get (v := .ref (a 1)) X (fun w h => mm (in_Reader w h)) 0 rfl rfl 0 (by decide) (mm k_fl_Reader_10) rfl rfl d_Reader_give_16 ?_
      refine J_getN (v := .int (t0.1 0)) X (fun w h => mm (in_Bytes w h)) 1 rfl rfl 1 (by decide) k_fln_Reader_34 rfl rfl d_Reader_give_19 ?_
      refine J_isub X d_Reader_give_22 ?_
      refine J_icmp_le X 28 d_Reader_give_23 (by decide) (fun c23 => ?_) (fun c23 => ?_)
      · rw [if_pos c23] at h
        refine J_iload_n X d_Reader_give_28 2 rfl rfl ?_
        refine J_iconst (v := (1 : Int32)) X d_Reader_give_29 (by decide) ?_
        refine J_isub X d_Reader_give_30 ?_
        refine J_istore X [(4, .int (x3 - (1 : Int32))), (0, .ref (a 0)), (1, .long x1), (3, .int x3)] d_Reader_give_31 (by decide) rfl ?_
        refine J_lv [1, 2, 0] [(0, .ref (a 0)), (1, .long x1), (4, .int (x3 - (1 : Int32)))] rfl ?_
        exact L33  n (a 2, a 5, a 7) x1 (x3 - (1 : Int32)) t0 (Nat.le_refl (ph t0)) h
      · rw [if_neg c23] at h
        refine J_iconst (v := (0 : Int32)) X d_Reader_give_26 (by decide) ?_
        exact J_zret X hr hlk (a 2, a 5, a 7) rfl (by have e : ph t0 = ph z.2 := (Eq.trans (show ph t0 = ph t0 from rfl) (congrArg ph (show t0 = z.2 from (j_r2 h)))); show ph t0 - ph t0 ≤ ph z.2 - ph t0; omega) (by have e : ph t0 = ph z.2 := (Eq.trans (show ph t0 = ph t0 from rfl) (congrArg ph (show t0 = z.2 from (j_r2 h)))); show 2 * (ph t0 - ph t0) ≤ 2 * (ph z.2 - ph t0); omega) (j_r1 h) (congrArg (fun q => wO cI cB cJ cZ (aU a (a 2, a 5, a 7)) q) (j_r2 h)) d_Reader_give_27

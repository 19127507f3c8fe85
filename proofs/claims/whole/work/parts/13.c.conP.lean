set_option maxHeartbeats 4000000 in
set_option maxRecDepth 100000 in
theorem ct_Arrays_fillI_6P (l : Launch) (dC : Nat → ClassId) (dI : Nat → Nat → Nat) (cI cB cJ cZ : ClassId) (a : Nat → Nat) (n : Nat) (x1 : Int32) (t : St) {z : St} (h : m_Arrays_fillI_6P n x1 t = some z) : jMv l y_Arrays_fillI w_Arrays_fillI ({ frames := 0, cells := 0, slots := 0, locals := 0 }) (dC, dI) vwCl (tyA cI cB cJ cZ) [.ref (a 6), .int x1] (wP cI cB cJ cZ a t) (fun _ : Unit => wP cI cB cJ cZ a z) := by
  refine jMv.of (cc := c_Arrays_fillI) (maxL := 4) (ret := none) (by decide) rfl (Nat.le_of_ble_eq_true rfl) ?_
  intro p e s m args below meth c A X hr hlk hnm
  have L5 : ∀ (k : Nat) (x1 : Int32) (x2 : Int32) (x3 : Int32) (t : St), m_Arrays_fillI_6P_5 n  k x1 x2 x3 t = some z → J p l e { frames := 0, cells := 0, slots := 0, locals := 0 } s m args below meth c 4 (dC, dI) vwCl A (MQ below (jQv (dC, dI) vwCl (tyA cI cB cJ cZ) (fun _ : Unit => wP cI cB cJ cZ a z) A) args s 0 0 A) 0 0 5 [(0, .ref (a 6)), (1, .int x1), (2, .int x2), (3, .int x3)] [] (wP cI cB cJ cZ a t) := by
    intro k
    induction k with
    | zero => intro x1 x2 x3 t h; exact absurd (show none = some z from h) (by simp)
    | succ k ih =>
      intro x1 x2 x3 t h
      change m_Arrays_fillI_6P_5b n  (m_Arrays_fillI_6P_5 n  k) x1 x2 x3 t = some z at h
      unfold m_Arrays_fillI_6P_5b at h
      refine J_iload_n X d_Arrays_fillI_5 2 rfl rfl ?_
      refine J_iload_n X d_Arrays_fillI_6 3 rfl rfl ?_
      refine J_icmp_ge X 20 d_Arrays_fillI_7 (by decide) (fun c7 => ?_) (fun c7 => ?_)
      · rw [if_pos c7] at h
        exact J_vret X hr hlk () (Nat.le_of_ble_eq_true rfl) (Nat.le_of_ble_eq_true rfl) (congrArg (fun q => wP cI cB cJ cZ a q) (j_s h)) d_Arrays_fillI_20
      · rw [if_neg c7] at h
        refine J_aload_n X d_Arrays_fillI_10 0 rfl rfl ?_
        refine J_iload_n X d_Arrays_fillI_11 2 rfl rfl ?_
        refine J_iload_n X d_Arrays_fillI_12 1 rfl rfl ?_
        obtain ⟨b13, h⟩ := j_ifn h
        refine J_iast (f := (t.2.1 4)) X 6 0 rfl rfl b13 d_Arrays_fillI_13 (wP cI cB cJ cZ a (sH t 4 (x2).toNatClampNeg x1)) rfl ?_
        refine J_iinc (v := (x2 + 1)) X [(2, .int (x2 + 1)), (0, .ref (a 6)), (1, .int x1), (3, .int x3)] d_Arrays_fillI_14 2 rfl rfl (by decide) rfl ?_
        refine J_goto X 5 d_Arrays_fillI_17 (by decide) ?_
        refine J_lv [1, 2, 0, 3] [(0, .ref (a 6)), (1, .int x1), (2, .int (x2 + 1)), (3, .int x3)] rfl ?_
        exact ih x1 (x2 + 1) x3 (sH t 4 (x2).toNatClampNeg x1) h
  refine J_lv [0, 1] [(0, .ref (a 6)), (1, .int x1)] rfl ?_
  unfold m_Arrays_fillI_6P at h
  refine J_iconst (v := (0 : Int32)) X d_Arrays_fillI_0 (by decide) ?_
  refine J_istore_n X [(2, .int (0 : Int32)), (0, .ref (a 6)), (1, .int x1)] d_Arrays_fillI_1 rfl (by decide) rfl ?_
  refine J_aload_n X d_Arrays_fillI_2 1 rfl rfl ?_
  refine J_alen X 6 0 rfl rfl (v := (Int32.ofNat 4)) rfl d_Arrays_fillI_3 ?_
  refine J_istore_n X [(3, .int (Int32.ofNat 4)), (2, .int (0 : Int32)), (0, .ref (a 6)), (1, .int x1)] d_Arrays_fillI_4 rfl (by decide) rfl ?_
  refine J_lv [2, 3, 1, 0] [(0, .ref (a 6)), (1, .int x1), (2, .int (0 : Int32)), (3, .int (Int32.ofNat 4))] rfl ?_
  exact L5  n x1 (0 : Int32) (Int32.ofNat 4) t h
set_option maxHeartbeats 4000000 in
set_option maxRecDepth 100000 in
theorem ct_Arrays_fillI_7P (l : Launch) (dC : Nat → ClassId) (dI : Nat → Nat → Nat) (cI cB cJ cZ : ClassId) (a : Nat → Nat) (n : Nat) (x1 : Int32) (t : St) {z : St} (h : m_Arrays_fillI_7P n x1 t = some z) : jMv l y_Arrays_fillI w_Arrays_fillI ({ frames := 0, cells := 0, slots := 0, locals := 0 }) (dC, dI) vwCl (tyA cI cB cJ cZ) [.ref (a 7), .int x1] (wP cI cB cJ cZ a t) (fun _ : Unit => wP cI cB cJ cZ a z) := by
  refine jMv.of (cc := c_Arrays_fillI) (maxL := 4) (ret := none) (by decide) rfl (Nat.le_of_ble_eq_true rfl) ?_
  intro p e s m args below meth c A X hr hlk hnm
  have L5 : ∀ (k : Nat) (x1 : Int32) (x2 : Int32) (x3 : Int32) (t : St), m_Arrays_fillI_7P_5 n  k x1 x2 x3 t = some z → J p l e { frames := 0, cells := 0, slots := 0, locals := 0 } s m args below meth c 4 (dC, dI) vwCl A (MQ below (jQv (dC, dI) vwCl (tyA cI cB cJ cZ) (fun _ : Unit => wP cI cB cJ cZ a z) A) args s 0 0 A) 0 0 5 [(0, .ref (a 7)), (1, .int x1), (2, .int x2), (3, .int x3)] [] (wP cI cB cJ cZ a t) := by
    intro k
    induction k with
    | zero => intro x1 x2 x3 t h; exact absurd (show none = some z from h) (by simp)
    | succ k ih =>
      intro x1 x2 x3 t h
      change m_Arrays_fillI_7P_5b n  (m_Arrays_fillI_7P_5 n  k) x1 x2 x3 t = some z at h
      unfold m_Arrays_fillI_7P_5b at h
      refine J_iload_n X d_Arrays_fillI_5 2 rfl rfl ?_
      refine J_iload_n X d_Arrays_fillI_6 3 rfl rfl ?_
      refine J_icmp_ge X 20 d_Arrays_fillI_7 (by decide) (fun c7 => ?_) (fun c7 => ?_)
      · rw [if_pos c7] at h
        exact J_vret X hr hlk () (Nat.le_of_ble_eq_true rfl) (Nat.le_of_ble_eq_true rfl) (congrArg (fun q => wP cI cB cJ cZ a q) (j_s h)) d_Arrays_fillI_20
      · rw [if_neg c7] at h
        refine J_aload_n X d_Arrays_fillI_10 0 rfl rfl ?_
        refine J_iload_n X d_Arrays_fillI_11 2 rfl rfl ?_
        refine J_iload_n X d_Arrays_fillI_12 1 rfl rfl ?_
        obtain ⟨b13, h⟩ := j_ifn h
        refine J_iast (f := (t.2.1 5)) X 7 0 rfl rfl b13 d_Arrays_fillI_13 (wP cI cB cJ cZ a (sH t 5 (x2).toNatClampNeg x1)) rfl ?_
        refine J_iinc (v := (x2 + 1)) X [(2, .int (x2 + 1)), (0, .ref (a 7)), (1, .int x1), (3, .int x3)] d_Arrays_fillI_14 2 rfl rfl (by decide) rfl ?_
        refine J_goto X 5 d_Arrays_fillI_17 (by decide) ?_
        refine J_lv [1, 2, 0, 3] [(0, .ref (a 7)), (1, .int x1), (2, .int (x2 + 1)), (3, .int x3)] rfl ?_
        exact ih x1 (x2 + 1) x3 (sH t 5 (x2).toNatClampNeg x1) h
  refine J_lv [0, 1] [(0, .ref (a 7)), (1, .int x1)] rfl ?_
  unfold m_Arrays_fillI_7P at h
  refine J_iconst (v := (0 : Int32)) X d_Arrays_fillI_0 (by decide) ?_
  refine J_istore_n X [(2, .int (0 : Int32)), (0, .ref (a 7)), (1, .int x1)] d_Arrays_fillI_1 rfl (by decide) rfl ?_
  refine J_aload_n X d_Arrays_fillI_2 1 rfl rfl ?_
  refine J_alen X 7 0 rfl rfl (v := (Int32.ofNat 8)) rfl d_Arrays_fillI_3 ?_
  refine J_istore_n X [(3, .int (Int32.ofNat 8)), (2, .int (0 : Int32)), (0, .ref (a 7)), (1, .int x1)] d_Arrays_fillI_4 rfl (by decide) rfl ?_
  refine J_lv [2, 3, 1, 0] [(0, .ref (a 7)), (1, .int x1), (2, .int (0 : Int32)), (3, .int (Int32.ofNat 8))] rfl ?_
  exact L5  n x1 (0 : Int32) (Int32.ofNat 8) t h
set_option maxHeartbeats 4000000 in
set_option maxRecDepth 100000 in
theorem ct_Picture_clearP (l : Launch) (dC : Nat → ClassId) (dI : Nat → Nat → Nat) (cI cB cJ cZ : ClassId) (a : Nat → Nat) (n : Nat)  (t : St) {z : St} (h : m_Picture_clearP n t = some z) : jMv l y_Picture_clear w_Picture_clear ({ frames := 1, cells := 0, slots := 0, locals := 23 }) (dC, dI) vwCl (tyA cI cB cJ cZ) [.ref (a 0)] (wP cI cB cJ cZ a t) (fun _ : Unit => wP cI cB cJ cZ a z) := by
  refine jMv.of (cc := c_Picture_clear) (maxL := 1) (ret := none) (by decide) rfl (Nat.le_of_ble_eq_true rfl) ?_
  intro p e s m args below meth c A X hr hlk hnm
  refine J_lv [0] [(0, .ref (a 0))] rfl ?_
  unfold m_Picture_clearP at h
  refine J_aload_n X d_Picture_clear_0 0 rfl rfl ?_
  refine J_get (v := .ref (a 1)) X (fun w h => mm (in_Picture w h)) 0 rfl rfl 1 (by decide) (mm k_fl_Picture_12) rfl rfl d_Picture_clear_1 ?_
  refine J_iconst (v := (0 : Int32)) X d_Picture_clear_4 (by decide) ?_
  refine J_putN (ty := .int) (v := .int (0 : Int32)) X (fun w h => mm (in_Numbers w h)) ty_Numbers tyk_Numbers nm_Numbers 1 rfl rfl 1 (by decide) k_fln_Picture_38 rfl rfl (by decide +kernel) rfl rfl (Nat.le_of_ble_eq_true rfl) d_Picture_clear_5 (wP cI cB cJ cZ a (sG t 7 (0 : Int32))) rfl ?_
  refine J_aload_n X d_Picture_clear_8 0 rfl rfl ?_
  refine J_get (v := .ref (a 3)) X (fun w h => mm (in_Picture w h)) 0 rfl rfl 2 (by decide) (mm k_fl_Picture_18) rfl rfl d_Picture_clear_9 ?_
  refine J_iconst (v := (0 : Int32)) X d_Picture_clear_12 (by decide) ?_
  refine J_putN (ty := .int) (v := .int (0 : Int32)) X (fun w h => mm (in_Numbers w h)) ty_Numbers tyk_Numbers nm_Numbers 3 rfl rfl 1 (by decide) k_fln_Picture_38 rfl rfl (by decide +kernel) rfl rfl (Nat.le_of_ble_eq_true rfl) d_Picture_clear_13 (wP cI cB cJ cZ a (sG (sG t 7 (0 : Int32)) 8 (0 : Int32))) rfl ?_
  refine J_aload_n X d_Picture_clear_16 0 rfl rfl ?_
  refine J_get (v := .ref (a 6)) X (fun w h => mm (in_Picture w h)) 0 rfl rfl 4 (by decide) (mm k_fl_Picture_25) rfl rfl d_Picture_clear_17 ?_
  refine J_iconst (v := (-1 : Int32)) X d_Picture_clear_20 (by decide) ?_
  obtain ⟨z21, hz21, h⟩ := j_bind h
  refine J_callSv0 (n := 2) (wc := (wP cI cB cJ cZ a (sG (sG t 7 (0 : Int32)) 8 (0 : Int32)))) (w1 := fun _ : Unit => wP cI cB cJ cZ a z21) X isP (hCP cI cB cJ cZ a (sG (sG t 7 (0 : Int32)) 8 (0 : Int32))) (hDP cI cB cJ cZ a (sG (sG t 7 (0 : Int32)) 8 (0 : Int32))) rfl [.ref (a 6), .int (-1 : Int32)] [] (ct_Arrays_fillI_6P l dC dI cI cB cJ cZ a n (-1 : Int32) (sG (sG t 7 (0 : Int32)) 8 (0 : Int32)) hz21) (aw_S (fun w h => mm h) k_ml_Picture_42 k_st_Arrays_fillI k_in_Arrays k_cd_Arrays_fillI) rfl (by decide +kernel) ⟨(Nat.le_of_ble_eq_true rfl), (Nat.le_of_ble_eq_true rfl)⟩ rfl rfl (Nat.le_of_ble_eq_true rfl) d_Picture_clear_21 ⟨(Nat.le_of_ble_eq_true rfl), (Nat.le_of_ble_eq_true rfl)⟩ (fun _ => ?_)
  refine J_aload_n X d_Picture_clear_24 0 rfl rfl ?_
  refine J_get (v := .ref (a 7)) X (fun w h => mm (in_Picture w h)) 0 rfl rfl 5 (by decide) (mm k_fl_Picture_28) rfl rfl d_Picture_clear_25 ?_
  refine J_iconst (v := (-1 : Int32)) X d_Picture_clear_28 (by decide) ?_
  obtain ⟨z29, hz29, h⟩ := j_bind h
  refine J_callSv0 (n := 2) (wc := (wP cI cB cJ cZ a z21)) (w1 := fun _ : Unit => wP cI cB cJ cZ a z29) X isP (hCP cI cB cJ cZ a z21) (hDP cI cB cJ cZ a z21) rfl [.ref (a 7), .int (-1 : Int32)] [] (ct_Arrays_fillI_7P l dC dI cI cB cJ cZ a n (-1 : Int32) z21 hz29) (aw_S (fun w h => mm h) k_ml_Picture_42 k_st_Arrays_fillI k_in_Arrays k_cd_Arrays_fillI) rfl (by decide +kernel) ⟨(Nat.le_of_ble_eq_true rfl), (Nat.le_of_ble_eq_true rfl)⟩ rfl rfl (Nat.le_of_ble_eq_true rfl) d_Picture_clear_29 ⟨(Nat.le_of_ble_eq_true rfl), (Nat.le_of_ble_eq_true rfl)⟩ (fun _ => ?_)
  refine J_aload_n X d_Picture_clear_32 0 rfl rfl ?_
  refine J_iconst (v := (-1 : Int32)) X d_Picture_clear_33 (by decide) ?_
  refine J_put (ty := .int) (v := .int (-1 : Int32)) X (fun w h => mm (in_Picture w h)) ty_Picture tyk_Picture nm_Picture 0 rfl rfl 6 (by decide) (mm k_fl_Picture_48) rfl rfl (by decide +kernel) rfl rfl (Nat.le_of_ble_eq_true rfl) d_Picture_clear_34 (wP cI cB cJ cZ a (sG z29 1 (-1 : Int32))) rfl ?_
  refine J_aload_n X d_Picture_clear_37 0 rfl rfl ?_
  refine J_iconst (v := (0 : Int32)) X d_Picture_clear_38 (by decide) ?_
  refine J_put (ty := .int) (v := .int (0 : Int32)) X (fun w h => mm (in_Picture w h)) ty_Picture tyk_Picture nm_Picture 0 rfl rfl 7 (by decide) (mm k_fl_Picture_51) rfl rfl (by decide +kernel) rfl rfl (Nat.le_of_ble_eq_true rfl) d_Picture_clear_39 (wP cI cB cJ cZ a (sG (sG z29 1 (-1 : Int32)) 2 (0 : Int32))) rfl ?_
  refine J_aload_n X d_Picture_clear_42 0 rfl rfl ?_
  refine J_iconst (v := (0 : Int32)) X d_Picture_clear_43 (by decide) ?_
  refine J_put (ty := .int) (v := .int (0 : Int32)) X (fun w h => mm (in_Picture w h)) ty_Picture tyk_Picture nm_Picture 0 rfl rfl 8 (by decide) (mm k_fl_Picture_54) rfl rfl (by decide +kernel) rfl rfl (Nat.le_of_ble_eq_true rfl) d_Picture_clear_44 (wP cI cB cJ cZ a (sG (sG (sG z29 1 (-1 : Int32)) 2 (0 : Int32)) 3 (0 : Int32))) rfl ?_
  refine J_aload_n X d_Picture_clear_47 0 rfl rfl ?_
  refine J_iconst (v := (0 : Int32)) X d_Picture_clear_48 (by decide) ?_
  refine J_put (ty := .int) (v := .int (0 : Int32)) X (fun w h => mm (in_Picture w h)) ty_Picture tyk_Picture nm_Picture 0 rfl rfl 9 (by decide) (mm k_fl_Picture_57) rfl rfl (by decide +kernel) rfl rfl (Nat.le_of_ble_eq_true rfl) d_Picture_clear_49 (wP cI cB cJ cZ a (sG (sG (sG (sG z29 1 (-1 : Int32)) 2 (0 : Int32)) 3 (0 : Int32)) 4 (0 : Int32))) rfl ?_
  refine J_aload_n X d_Picture_clear_52 0 rfl rfl ?_
  refine J_iconst (v := (0 : Int32)) X d_Picture_clear_53 (by decide) ?_
  refine J_put (ty := .int) (v := .int (0 : Int32)) X (fun w h => mm (in_Picture w h)) ty_Picture tyk_Picture nm_Picture 0 rfl rfl 10 (by decide) (mm k_fl_Picture_60) rfl rfl (by decide +kernel) rfl rfl (Nat.le_of_ble_eq_true rfl) d_Picture_clear_54 (wP cI cB cJ cZ a (sG (sG (sG (sG (sG z29 1 (-1 : Int32)) 2 (0 : Int32)) 3 (0 : Int32)) 4 (0 : Int32)) 5 (0 : Int32))) rfl ?_
  refine J_aload_n X d_Picture_clear_57 0 rfl rfl ?_
  refine J_iconst (v := (-1 : Int32)) X d_Picture_clear_58 (by decide) ?_
  refine J_put (ty := .int) (v := .int (-1 : Int32)) X (fun w h => mm (in_Picture w h)) ty_Picture tyk_Picture nm_Picture 0 rfl rfl 11 (by decide) (mm k_fl_Picture_63) rfl rfl (by decide +kernel) rfl rfl (Nat.le_of_ble_eq_true rfl) d_Picture_clear_59 (wP cI cB cJ cZ a (sG (sG (sG (sG (sG (sG z29 1 (-1 : Int32)) 2 (0 : Int32)) 3 (0 : Int32)) 4 (0 : Int32)) 5 (0 : Int32)) 6 (-1 : Int32))) rfl ?_
  exact J_vret X hr hlk () (Nat.le_of_ble_eq_true rfl) (Nat.le_of_ble_eq_true rfl) (congrArg (fun q => wP cI cB cJ cZ a q) (j_s h)) d_Picture_clear_62

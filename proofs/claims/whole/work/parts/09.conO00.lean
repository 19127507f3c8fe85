set_option maxHeartbeats 4000000 in
set_option maxRecDepth 100000 in
theorem ct_Arrays_fillI_9 (l : Launch) (dC : Nat → ClassId) (dI : Nat → Nat → Nat) (cI cB cJ cZ : ClassId) (a : Nat → Nat) (n : Nat) (x1 : Int32) (t : St) {z : St} (h : m_Arrays_fillI_9 n x1 t = some z) : jMv l y_Arrays_fillI w_Arrays_fillI ({ frames := 0, cells := 0, slots := 0, locals := 0 }) (dC, dI) vwCl (tyA cI cB cJ cZ) [.ref (a 9), .int x1] (wO cI cB cJ cZ a t) (fun _ : Unit => wO cI cB cJ cZ a z) := by
  refine jMv.of (cc := c_Arrays_fillI) (maxL := 4) (ret := none) (by decide) rfl (Nat.le_of_ble_eq_true rfl) ?_
  intro p e s m args below meth c A X hr hlk hnm
  have L5 : ∀ (k : Nat) (x1 : Int32) (x2 : Int32) (x3 : Int32) (t : St), m_Arrays_fillI_9_5 n  k x1 x2 x3 t = some z → J p l e { frames := 0, cells := 0, slots := 0, locals := 0 } s m args below meth c 4 (dC, dI) vwCl A (MQ below (jQv (dC, dI) vwCl (tyA cI cB cJ cZ) (fun _ : Unit => wO cI cB cJ cZ a z) A) args s 0 0 A) 0 0 5 [(0, .ref (a 9)), (1, .int x1), (2, .int x2), (3, .int x3)] [] (wO cI cB cJ cZ a t) := by
    intro k
    induction k with
    | zero => intro x1 x2 x3 t h; exact absurd (show none = some z from h) (by simp)
    | succ k ih =>
      intro x1 x2 x3 t h
      change m_Arrays_fillI_9_5b n  (m_Arrays_fillI_9_5 n  k) x1 x2 x3 t = some z at h
      unfold m_Arrays_fillI_9_5b at h
      refine J_iload_n X d_Arrays_fillI_5 2 rfl rfl ?_
      refine J_iload_n X d_Arrays_fillI_6 3 rfl rfl ?_
      refine J_icmp_ge X 20 d_Arrays_fillI_7 (by decide) (fun c7 => ?_) (fun c7 => ?_)
      · rw [if_pos c7] at h
        exact J_vret X hr hlk () (Nat.le_of_ble_eq_true rfl) (Nat.le_of_ble_eq_true rfl) (congrArg (fun q => wO cI cB cJ cZ a q) (j_s h)) d_Arrays_fillI_20
      · rw [if_neg c7] at h
        refine J_aload_n X d_Arrays_fillI_10 0 rfl rfl ?_
        refine J_iload_n X d_Arrays_fillI_11 2 rfl rfl ?_
        refine J_iload_n X d_Arrays_fillI_12 1 rfl rfl ?_
        obtain ⟨b13, h⟩ := j_ifn h
        refine J_iast (f := (t.2.1 4)) X 9 0 rfl rfl b13 d_Arrays_fillI_13 (wO cI cB cJ cZ a (sH t 4 (x2).toNatClampNeg x1)) rfl ?_
        refine J_iinc (v := (x2 + 1)) X [(2, .int (x2 + 1)), (0, .ref (a 9)), (1, .int x1), (3, .int x3)] d_Arrays_fillI_14 2 rfl rfl (by decide) rfl ?_
        refine J_goto X 5 d_Arrays_fillI_17 (by decide) ?_
        refine J_lv [1, 2, 0, 3] [(0, .ref (a 9)), (1, .int x1), (2, .int (x2 + 1)), (3, .int x3)] rfl ?_
        exact ih x1 (x2 + 1) x3 (sH t 4 (x2).toNatClampNeg x1) h
  refine J_lv [0, 1] [(0, .ref (a 9)), (1, .int x1)] rfl ?_
  unfold m_Arrays_fillI_9 at h
  refine J_iconst (v := (0 : Int32)) X d_Arrays_fillI_0 (by decide) ?_
  refine J_istore_n X [(2, .int (0 : Int32)), (0, .ref (a 9)), (1, .int x1)] d_Arrays_fillI_1 rfl (by decide) rfl ?_
  refine J_aload_n X d_Arrays_fillI_2 1 rfl rfl ?_
  refine J_alen X 9 0 rfl rfl (v := (Int32.ofNat 4)) rfl d_Arrays_fillI_3 ?_
  refine J_istore_n X [(3, .int (Int32.ofNat 4)), (2, .int (0 : Int32)), (0, .ref (a 9)), (1, .int x1)] d_Arrays_fillI_4 rfl (by decide) rfl ?_
  refine J_lv [2, 3, 1, 0] [(0, .ref (a 9)), (1, .int x1), (2, .int (0 : Int32)), (3, .int (Int32.ofNat 4))] rfl ?_
  exact L5  n x1 (0 : Int32) (Int32.ofNat 4) t h
set_option maxHeartbeats 4000000 in
set_option maxRecDepth 100000 in
theorem ct_Arrays_fillI_10 (l : Launch) (dC : Nat → ClassId) (dI : Nat → Nat → Nat) (cI cB cJ cZ : ClassId) (a : Nat → Nat) (n : Nat) (x1 : Int32) (t : St) {z : St} (h : m_Arrays_fillI_10 n x1 t = some z) : jMv l y_Arrays_fillI w_Arrays_fillI ({ frames := 0, cells := 0, slots := 0, locals := 0 }) (dC, dI) vwCl (tyA cI cB cJ cZ) [.ref (a 10), .int x1] (wO cI cB cJ cZ a t) (fun _ : Unit => wO cI cB cJ cZ a z) := by
  refine jMv.of (cc := c_Arrays_fillI) (maxL := 4) (ret := none) (by decide) rfl (Nat.le_of_ble_eq_true rfl) ?_
  intro p e s m args below meth c A X hr hlk hnm
  have L5 : ∀ (k : Nat) (x1 : Int32) (x2 : Int32) (x3 : Int32) (t : St), m_Arrays_fillI_10_5 n  k x1 x2 x3 t = some z → J p l e { frames := 0, cells := 0, slots := 0, locals := 0 } s m args below meth c 4 (dC, dI) vwCl A (MQ below (jQv (dC, dI) vwCl (tyA cI cB cJ cZ) (fun _ : Unit => wO cI cB cJ cZ a z) A) args s 0 0 A) 0 0 5 [(0, .ref (a 10)), (1, .int x1), (2, .int x2), (3, .int x3)] [] (wO cI cB cJ cZ a t) := by
    intro k
    induction k with
    | zero => intro x1 x2 x3 t h; exact absurd (show none = some z from h) (by simp)
    | succ k ih =>
      intro x1 x2 x3 t h
      change m_Arrays_fillI_10_5b n  (m_Arrays_fillI_10_5 n  k) x1 x2 x3 t = some z at h
      unfold m_Arrays_fillI_10_5b at h
      refine J_iload_n X d_Arrays_fillI_5 2 rfl rfl ?_
      refine J_iload_n X d_Arrays_fillI_6 3 rfl rfl ?_
      refine J_icmp_ge X 20 d_Arrays_fillI_7 (by decide) (fun c7 => ?_) (fun c7 => ?_)
      · rw [if_pos c7] at h
        exact J_vret X hr hlk () (Nat.le_of_ble_eq_true rfl) (Nat.le_of_ble_eq_true rfl) (congrArg (fun q => wO cI cB cJ cZ a q) (j_s h)) d_Arrays_fillI_20
      · rw [if_neg c7] at h
        refine J_aload_n X d_Arrays_fillI_10 0 rfl rfl ?_
        refine J_iload_n X d_Arrays_fillI_11 2 rfl rfl ?_
        refine J_iload_n X d_Arrays_fillI_12 1 rfl rfl ?_
        obtain ⟨b13, h⟩ := j_ifn h
        refine J_iast (f := (t.2.1 5)) X 10 0 rfl rfl b13 d_Arrays_fillI_13 (wO cI cB cJ cZ a (sH t 5 (x2).toNatClampNeg x1)) rfl ?_
        refine J_iinc (v := (x2 + 1)) X [(2, .int (x2 + 1)), (0, .ref (a 10)), (1, .int x1), (3, .int x3)] d_Arrays_fillI_14 2 rfl rfl (by decide) rfl ?_
        refine J_goto X 5 d_Arrays_fillI_17 (by decide) ?_
        refine J_lv [1, 2, 0, 3] [(0, .ref (a 10)), (1, .int x1), (2, .int (x2 + 1)), (3, .int x3)] rfl ?_
        exact ih x1 (x2 + 1) x3 (sH t 5 (x2).toNatClampNeg x1) h
  refine J_lv [0, 1] [(0, .ref (a 10)), (1, .int x1)] rfl ?_
  unfold m_Arrays_fillI_10 at h
  refine J_iconst (v := (0 : Int32)) X d_Arrays_fillI_0 (by decide) ?_
  refine J_istore_n X [(2, .int (0 : Int32)), (0, .ref (a 10)), (1, .int x1)] d_Arrays_fillI_1 rfl (by decide) rfl ?_
  refine J_aload_n X d_Arrays_fillI_2 1 rfl rfl ?_
  refine J_alen X 10 0 rfl rfl (v := (Int32.ofNat 8)) rfl d_Arrays_fillI_3 ?_
  refine J_istore_n X [(3, .int (Int32.ofNat 8)), (2, .int (0 : Int32)), (0, .ref (a 10)), (1, .int x1)] d_Arrays_fillI_4 rfl (by decide) rfl ?_
  refine J_lv [2, 3, 1, 0] [(0, .ref (a 10)), (1, .int x1), (2, .int (0 : Int32)), (3, .int (Int32.ofNat 8))] rfl ?_
  exact L5  n x1 (0 : Int32) (Int32.ofNat 8) t h
set_option maxHeartbeats 4000000 in
set_option maxRecDepth 100000 in
theorem ct_Arrays_fillI_14 (l : Launch) (dC : Nat → ClassId) (dI : Nat → Nat → Nat) (cI cB cJ cZ : ClassId) (a : Nat → Nat) (n : Nat) (x1 : Int32) (t : St) {z : St} (h : m_Arrays_fillI_14 n x1 t = some z) : jMv l y_Arrays_fillI w_Arrays_fillI ({ frames := 0, cells := 0, slots := 0, locals := 0 }) (dC, dI) vwCl (tyA cI cB cJ cZ) [.ref (a 14), .int x1] (wO cI cB cJ cZ a t) (fun _ : Unit => wO cI cB cJ cZ a z) := by
  refine jMv.of (cc := c_Arrays_fillI) (maxL := 4) (ret := none) (by decide) rfl (Nat.le_of_ble_eq_true rfl) ?_
  intro p e s m args below meth c A X hr hlk hnm
  have L5 : ∀ (k : Nat) (x1 : Int32) (x2 : Int32) (x3 : Int32) (t : St), m_Arrays_fillI_14_5 n  k x1 x2 x3 t = some z → J p l e { frames := 0, cells := 0, slots := 0, locals := 0 } s m args below meth c 4 (dC, dI) vwCl A (MQ below (jQv (dC, dI) vwCl (tyA cI cB cJ cZ) (fun _ : Unit => wO cI cB cJ cZ a z) A) args s 0 0 A) 0 0 5 [(0, .ref (a 14)), (1, .int x1), (2, .int x2), (3, .int x3)] [] (wO cI cB cJ cZ a t) := by
    intro k
    induction k with
    | zero => intro x1 x2 x3 t h; exact absurd (show none = some z from h) (by simp)
    | succ k ih =>
      intro x1 x2 x3 t h
      change m_Arrays_fillI_14_5b n  (m_Arrays_fillI_14_5 n  k) x1 x2 x3 t = some z at h
      unfold m_Arrays_fillI_14_5b at h
      refine J_iload_n X d_Arrays_fillI_5 2 rfl rfl ?_
      refine J_iload_n X d_Arrays_fillI_6 3 rfl rfl ?_
      refine J_icmp_ge X 20 d_Arrays_fillI_7 (by decide) (fun c7 => ?_) (fun c7 => ?_)
      · rw [if_pos c7] at h
        exact J_vret X hr hlk () (Nat.le_of_ble_eq_true rfl) (Nat.le_of_ble_eq_true rfl) (congrArg (fun q => wO cI cB cJ cZ a q) (j_s h)) d_Arrays_fillI_20
      · rw [if_neg c7] at h
        refine J_aload_n X d_Arrays_fillI_10 0 rfl rfl ?_
        refine J_iload_n X d_Arrays_fillI_11 2 rfl rfl ?_
        refine J_iload_n X d_Arrays_fillI_12 1 rfl rfl ?_
        obtain ⟨b13, h⟩ := j_ifn h
        refine J_iast (f := (t.2.1 7)) X 14 0 rfl rfl b13 d_Arrays_fillI_13 (wO cI cB cJ cZ a (sH t 7 (x2).toNatClampNeg x1)) rfl ?_
        refine J_iinc (v := (x2 + 1)) X [(2, .int (x2 + 1)), (0, .ref (a 14)), (1, .int x1), (3, .int x3)] d_Arrays_fillI_14 2 rfl rfl (by decide) rfl ?_
        refine J_goto X 5 d_Arrays_fillI_17 (by decide) ?_
        refine J_lv [1, 2, 0, 3] [(0, .ref (a 14)), (1, .int x1), (2, .int (x2 + 1)), (3, .int x3)] rfl ?_
        exact ih x1 (x2 + 1) x3 (sH t 7 (x2).toNatClampNeg x1) h
  refine J_lv [0, 1] [(0, .ref (a 14)), (1, .int x1)] rfl ?_
  unfold m_Arrays_fillI_14 at h
  refine J_iconst (v := (0 : Int32)) X d_Arrays_fillI_0 (by decide) ?_
  refine J_istore_n X [(2, .int (0 : Int32)), (0, .ref (a 14)), (1, .int x1)] d_Arrays_fillI_1 rfl (by decide) rfl ?_
  refine J_aload_n X d_Arrays_fillI_2 1 rfl rfl ?_
  refine J_alen X 14 0 rfl rfl (v := (Int32.ofNat 256)) rfl d_Arrays_fillI_3 ?_
  refine J_istore_n X [(3, .int (Int32.ofNat 256)), (2, .int (0 : Int32)), (0, .ref (a 14)), (1, .int x1)] d_Arrays_fillI_4 rfl (by decide) rfl ?_
  refine J_lv [2, 3, 1, 0] [(0, .ref (a 14)), (1, .int x1), (2, .int (0 : Int32)), (3, .int (Int32.ofNat 256))] rfl ?_
  exact L5  n x1 (0 : Int32) (Int32.ofNat 256) t h
set_option maxHeartbeats 4000000 in
set_option maxRecDepth 100000 in
theorem ct_Picture_clear (l : Launch) (dC : Nat → ClassId) (dI : Nat → Nat → Nat) (cI cB cJ cZ : ClassId) (a : Nat → Nat) (n : Nat)  (t : St) {z : St} (h : m_Picture_clear n t = some z) : jMv l y_Picture_clear w_Picture_clear ({ frames := 1, cells := 0, slots := 0, locals := 23 }) (dC, dI) vwCl (tyA cI cB cJ cZ) [.ref (a 3)] (wO cI cB cJ cZ a t) (fun _ : Unit => wO cI cB cJ cZ a z) := by
  refine jMv.of (cc := c_Picture_clear) (maxL := 1) (ret := none) (by decide) rfl (Nat.le_of_ble_eq_true rfl) ?_
  intro p e s m args below meth c A X hr hlk hnm
  refine J_lv [0] [(0, .ref (a 3))] rfl ?_
  unfold m_Picture_clear at h
  refine J_aload_n X d_Picture_clear_0 0 rfl rfl ?_
  refine J_get (v := .ref (a 4)) X (fun w h => mm (in_Picture w h)) 3 rfl rfl 1 (by decide) (mm k_fl_Picture_12) rfl rfl d_Picture_clear_1 ?_
  refine J_iconst (v := (0 : Int32)) X d_Picture_clear_4 (by decide) ?_
  refine J_putN (ty := .int) (v := .int (0 : Int32)) X (fun w h => mm (in_Numbers w h)) ty_Numbers tyk_Numbers nm_Numbers 4 rfl rfl 1 (by decide) k_fln_Picture_38 rfl rfl (by decide +kernel) rfl rfl (Nat.le_of_ble_eq_true rfl) d_Picture_clear_5 (wO cI cB cJ cZ a (sG t 7 (0 : Int32))) rfl ?_
  refine J_aload_n X d_Picture_clear_8 0 rfl rfl ?_
  refine J_get (v := .ref (a 6)) X (fun w h => mm (in_Picture w h)) 3 rfl rfl 2 (by decide) (mm k_fl_Picture_18) rfl rfl d_Picture_clear_9 ?_
  refine J_iconst (v := (0 : Int32)) X d_Picture_clear_12 (by decide) ?_
  refine J_putN (ty := .int) (v := .int (0 : Int32)) X (fun w h => mm (in_Numbers w h)) ty_Numbers tyk_Numbers nm_Numbers 6 rfl rfl 1 (by decide) k_fln_Picture_38 rfl rfl (by decide +kernel) rfl rfl (Nat.le_of_ble_eq_true rfl) d_Picture_clear_13 (wO cI cB cJ cZ a (sG (sG t 7 (0 : Int32)) 8 (0 : Int32))) rfl ?_
  refine J_aload_n X d_Picture_clear_16 0 rfl rfl ?_
  refine J_get (v := .ref (a 9)) X (fun w h => mm (in_Picture w h)) 3 rfl rfl 4 (by decide) (mm k_fl_Picture_25) rfl rfl d_Picture_clear_17 ?_
  refine J_iconst (v := (-1 : Int32)) X d_Picture_clear_20 (by decide) ?_
  obtain ⟨z21, hz21, h⟩ := j_bind h
  refine J_callSv0 (n := 2) (wc := (wO cI cB cJ cZ a (sG (sG t 7 (0 : Int32)) 8 (0 : Int32)))) (w1 := fun _ : Unit => wO cI cB cJ cZ a z21) X isO (hCO cI cB cJ cZ a (sG (sG t 7 (0 : Int32)) 8 (0 : Int32))) (hDO cI cB cJ cZ a (sG (sG t 7 (0 : Int32)) 8 (0 : Int32))) rfl [.ref (a 9), .int (-1 : Int32)] [] (ct_Arrays_fillI_9 l dC dI cI cB cJ cZ a n (-1 : Int32) (sG (sG t 7 (0 : Int32)) 8 (0 : Int32)) hz21) (aw_S (fun w h => mm h) k_ml_Picture_42 k_st_Arrays_fillI k_in_Arrays k_cd_Arrays_fillI) rfl (by decide +kernel) ⟨(Nat.le_of_ble_eq_true rfl), (Nat.le_of_ble_eq_true rfl)⟩ rfl rfl (Nat.le_of_ble_eq_true rfl) d_Picture_clear_21 ⟨(Nat.le_of_ble_eq_true rfl), (Nat.le_of_ble_eq_true rfl)⟩ (fun _ => ?_)
  refine J_aload_n X d_Picture_clear_24 0 rfl rfl ?_
  refine J_get (v := .ref (a 10)) X (fun w h => mm (in_Picture w h)) 3 rfl rfl 5 (by decide) (mm k_fl_Picture_28) rfl rfl d_Picture_clear_25 ?_
  refine J_iconst (v := (-1 : Int32)) X d_Picture_clear_28 (by decide) ?_
  obtain ⟨z29, hz29, h⟩ := j_bind h
  refine J_callSv0 (n := 2) (wc := (wO cI cB cJ cZ a z21)) (w1 := fun _ : Unit => wO cI cB cJ cZ a z29) X isO (hCO cI cB cJ cZ a z21) (hDO cI cB cJ cZ a z21) rfl [.ref (a 10), .int (-1 : Int32)] [] (ct_Arrays_fillI_10 l dC dI cI cB cJ cZ a n (-1 : Int32) z21 hz29) (aw_S (fun w h => mm h) k_ml_Picture_42 k_st_Arrays_fillI k_in_Arrays k_cd_Arrays_fillI) rfl (by decide +kernel) ⟨(Nat.le_of_ble_eq_true rfl), (Nat.le_of_ble_eq_true rfl)⟩ rfl rfl (Nat.le_of_ble_eq_true rfl) d_Picture_clear_29 ⟨(Nat.le_of_ble_eq_true rfl), (Nat.le_of_ble_eq_true rfl)⟩ (fun _ => ?_)
  refine J_aload_n X d_Picture_clear_32 0 rfl rfl ?_
  refine J_iconst (v := (-1 : Int32)) X d_Picture_clear_33 (by decide) ?_
  refine J_put (ty := .int) (v := .int (-1 : Int32)) X (fun w h => mm (in_Picture w h)) ty_Picture tyk_Picture nm_Picture 3 rfl rfl 6 (by decide) (mm k_fl_Picture_48) rfl rfl (by decide +kernel) rfl rfl (Nat.le_of_ble_eq_true rfl) d_Picture_clear_34 (wO cI cB cJ cZ a (sG z29 1 (-1 : Int32))) rfl ?_
  refine J_aload_n X d_Picture_clear_37 0 rfl rfl ?_
  refine J_iconst (v := (0 : Int32)) X d_Picture_clear_38 (by decide) ?_
  refine J_put (ty := .int) (v := .int (0 : Int32)) X (fun w h => mm (in_Picture w h)) ty_Picture tyk_Picture nm_Picture 3 rfl rfl 7 (by decide) (mm k_fl_Picture_51) rfl rfl (by decide +kernel) rfl rfl (Nat.le_of_ble_eq_true rfl) d_Picture_clear_39 (wO cI cB cJ cZ a (sG (sG z29 1 (-1 : Int32)) 2 (0 : Int32))) rfl ?_
  refine J_aload_n X d_Picture_clear_42 0 rfl rfl ?_
  refine J_iconst (v := (0 : Int32)) X d_Picture_clear_43 (by decide) ?_
  refine J_put (ty := .int) (v := .int (0 : Int32)) X (fun w h => mm (in_Picture w h)) ty_Picture tyk_Picture nm_Picture 3 rfl rfl 8 (by decide) (mm k_fl_Picture_54) rfl rfl (by decide +kernel) rfl rfl (Nat.le_of_ble_eq_true rfl) d_Picture_clear_44 (wO cI cB cJ cZ a (sG (sG (sG z29 1 (-1 : Int32)) 2 (0 : Int32)) 3 (0 : Int32))) rfl ?_
  refine J_aload_n X d_Picture_clear_47 0 rfl rfl ?_
  refine J_iconst (v := (0 : Int32)) X d_Picture_clear_48 (by decide) ?_
  refine J_put (ty := .int) (v := .int (0 : Int32)) X (fun w h => mm (in_Picture w h)) ty_Picture tyk_Picture nm_Picture 3 rfl rfl 9 (by decide) (mm k_fl_Picture_57) rfl rfl (by decide +kernel) rfl rfl (Nat.le_of_ble_eq_true rfl) d_Picture_clear_49 (wO cI cB cJ cZ a (sG (sG (sG (sG z29 1 (-1 : Int32)) 2 (0 : Int32)) 3 (0 : Int32)) 4 (0 : Int32))) rfl ?_
  refine J_aload_n X d_Picture_clear_52 0 rfl rfl ?_
  refine J_iconst (v := (0 : Int32)) X d_Picture_clear_53 (by decide) ?_
  refine J_put (ty := .int) (v := .int (0 : Int32)) X (fun w h => mm (in_Picture w h)) ty_Picture tyk_Picture nm_Picture 3 rfl rfl 10 (by decide) (mm k_fl_Picture_60) rfl rfl (by decide +kernel) rfl rfl (Nat.le_of_ble_eq_true rfl) d_Picture_clear_54 (wO cI cB cJ cZ a (sG (sG (sG (sG (sG z29 1 (-1 : Int32)) 2 (0 : Int32)) 3 (0 : Int32)) 4 (0 : Int32)) 5 (0 : Int32))) rfl ?_
  refine J_aload_n X d_Picture_clear_57 0 rfl rfl ?_
  refine J_iconst (v := (-1 : Int32)) X d_Picture_clear_58 (by decide) ?_
  refine J_put (ty := .int) (v := .int (-1 : Int32)) X (fun w h => mm (in_Picture w h)) ty_Picture tyk_Picture nm_Picture 3 rfl rfl 11 (by decide) (mm k_fl_Picture_63) rfl rfl (by decide +kernel) rfl rfl (Nat.le_of_ble_eq_true rfl) d_Picture_clear_59 (wO cI cB cJ cZ a (sG (sG (sG (sG (sG (sG z29 1 (-1 : Int32)) 2 (0 : Int32)) 3 (0 : Int32)) 4 (0 : Int32)) 5 (0 : Int32)) 6 (-1 : Int32))) rfl ?_
  exact J_vret X hr hlk () (Nat.le_of_ble_eq_true rfl) (Nat.le_of_ble_eq_true rfl) (congrArg (fun q => wO cI cB cJ cZ a q) (j_s h)) d_Picture_clear_62
set_option maxHeartbeats 4000000 in
set_option maxRecDepth 100000 in
theorem ct_Parser_forget (l : Launch) (dC : Nat → ClassId) (dI : Nat → Nat → Nat) (cI cB cJ cZ : ClassId) (a : Nat → Nat) (n : Nat)  (t : St) {z : St} (h : m_Parser_forget n t = some z) : jMv l y_Parser_forget w_Parser_forget ({ frames := 2, cells := 0, slots := 0, locals := 43 }) (dC, dI) vwCl (tyA cI cB cJ cZ) [.ref (a 11)] (wO cI cB cJ cZ a t) (fun _ : Unit => wO cI cB cJ cZ a z) := by
  refine jMv.of (cc := c_Parser_forget) (maxL := 1) (ret := none) (by decide) rfl (Nat.le_of_ble_eq_true rfl) ?_
  intro p e s m args below meth c A X hr hlk hnm
  refine J_lv [0] [(0, .ref (a 11))] rfl ?_
  unfold m_Parser_forget at h
  refine J_aload_n X d_Parser_forget_0 0 rfl rfl ?_
  refine J_iconst (v := (0 : Int32)) X d_Parser_forget_1 (by decide) ?_
  refine J_put (ty := .int) (v := .int (0 : Int32)) X (fun w h => mm (in_Parser w h)) ty_Parser tyk_Parser nm_Parser 11 rfl rfl 9 (by decide) (mm k_fl_Parser_40) rfl rfl (by decide +kernel) rfl rfl (Nat.le_of_ble_eq_true rfl) d_Parser_forget_2 (wO cI cB cJ cZ a (sG t 13 (0 : Int32))) rfl ?_
  refine J_aload_n X d_Parser_forget_5 0 rfl rfl ?_
  refine J_iconst (v := (-1 : Int32)) X d_Parser_forget_6 (by decide) ?_
  refine J_put (ty := .int) (v := .int (-1 : Int32)) X (fun w h => mm (in_Parser w h)) ty_Parser tyk_Parser nm_Parser 11 rfl rfl 10 (by decide) (mm k_fl_Parser_43) rfl rfl (by decide +kernel) rfl rfl (Nat.le_of_ble_eq_true rfl) d_Parser_forget_7 (wO cI cB cJ cZ a (sG (sG t 13 (0 : Int32)) 14 (-1 : Int32))) rfl ?_
  refine J_aload_n X d_Parser_forget_10 0 rfl rfl ?_
  refine J_get (v := .ref (a 3)) X (fun w h => mm (in_Parser w h)) 11 rfl rfl 1 (by decide) (mm k_fl_Parser_50) rfl rfl d_Parser_forget_11 ?_
  obtain ⟨z14, hz14, h⟩ := j_bind h
  refine J_callVv0 (n := 0) (wc := (wO cI cB cJ cZ a (sG (sG t 13 (0 : Int32)) 14 (-1 : Int32)))) (w1 := fun _ : Unit => wO cI cB cJ cZ a z14) X isO (hCO cI cB cJ cZ a (sG (sG t 13 (0 : Int32)) 14 (-1 : Int32))) (hDO cI cB cJ cZ a (sG (sG t 13 (0 : Int32)) 14 (-1 : Int32))) rfl [] [] (ct_Picture_clear l dC dI cI cB cJ cZ a n (sG (sG t 13 (0 : Int32)) 14 (-1 : Int32)) hz14) (aw_V (fun w h => mm h) k_ml_Parser_54 k_im_Picture_clear k_se_Picture_clear k_in_Picture k_cd_Picture_clear) rfl (by decide +kernel) ⟨(Nat.le_of_ble_eq_true rfl), (Nat.le_of_ble_eq_true rfl)⟩ (q0 := 3) rfl rfl rfl rfl (Nat.le_of_ble_eq_true rfl) d_Parser_forget_14 ⟨(Nat.le_of_ble_eq_true rfl), (Nat.le_of_ble_eq_true rfl)⟩ (fun _ => ?_)
  exact J_vret X hr hlk () (Nat.le_of_ble_eq_true rfl) (Nat.le_of_ble_eq_true rfl) (congrArg (fun q => wO cI cB cJ cZ a q) (j_s h)) d_Parser_forget_17
set_option maxHeartbeats 4000000 in
set_option maxRecDepth 100000 in
theorem ct_Reader_wipe (l : Launch) (dC : Nat → ClassId) (dI : Nat → Nat → Nat) (cI cB cJ cZ : ClassId) (a : Nat → Nat) (n : Nat)  (t : St) {z : St} (h : m_Reader_wipe n t = some z) : jMv l y_Reader_wipe w_Reader_wipe ({ frames := 3, cells := 0, slots := 0, locals := 63 }) (dC, dI) vwCl (tyA cI cB cJ cZ) [.ref (a 0)] (wO cI cB cJ cZ a t) (fun _ : Unit => wO cI cB cJ cZ a z) := by
  refine jMv.of (cc := c_Reader_wipe) (maxL := 1) (ret := none) (by decide) rfl (Nat.le_of_ble_eq_true rfl) ?_
  intro p e s m args below meth c A X hr hlk hnm
  refine J_lv [0] [(0, .ref (a 0))] rfl ?_
  unfold m_Reader_wipe at h
  refine J_aload_n X d_Reader_wipe_0 0 rfl rfl ?_
  refine J_get (v := .ref (a 1)) X (fun w h => mm (in_Reader w h)) 0 rfl rfl 0 (by decide) (mm k_fl_Reader_10) rfl rfl d_Reader_wipe_1 ?_
  refine J_iconst (v := (0 : Int32)) X d_Reader_wipe_4 (by decide) ?_
  refine J_putN (ty := .int) (v := .int (0 : Int32)) X (fun w h => mm (in_Bytes w h)) ty_Bytes tyk_Bytes nm_Bytes 1 rfl rfl 1 (by decide) k_fln_Reader_34 rfl rfl (by decide +kernel) rfl rfl (Nat.le_of_ble_eq_true rfl) d_Reader_wipe_5 (wO cI cB cJ cZ a (sG t 0 (0 : Int32))) rfl ?_
  refine J_aload_n X d_Reader_wipe_8 0 rfl rfl ?_
  refine J_get (v := .ref (a 11)) X (fun w h => mm (in_Reader w h)) 0 rfl rfl 2 (by decide) (mm k_fl_Reader_30) rfl rfl d_Reader_wipe_9 ?_
  obtain ⟨z12, hz12, h⟩ := j_bind h
  refine J_callVv0 (n := 0) (wc := (wO cI cB cJ cZ a (sG t 0 (0 : Int32)))) (w1 := fun _ : Unit => wO cI cB cJ cZ a z12) X isO (hCO cI cB cJ cZ a (sG t 0 (0 : Int32))) (hDO cI cB cJ cZ a (sG t 0 (0 : Int32))) rfl [] [] (ct_Parser_forget l dC dI cI cB cJ cZ a n (sG t 0 (0 : Int32)) hz12) (aw_V (fun w h => mm h) k_ml_Reader_42 k_im_Parser_forget k_se_Parser_forget k_in_Parser k_cd_Parser_forget) rfl (by decide +kernel) ⟨(Nat.le_of_ble_eq_true rfl), (Nat.le_of_ble_eq_true rfl)⟩ (q0 := 11) rfl rfl rfl rfl (Nat.le_of_ble_eq_true rfl) d_Reader_wipe_12 ⟨(Nat.le_of_ble_eq_true rfl), (Nat.le_of_ble_eq_true rfl)⟩ (fun _ => ?_)
  exact J_vret X hr hlk () (Nat.le_of_ble_eq_true rfl) (Nat.le_of_ble_eq_true rfl) (congrArg (fun q => wO cI cB cJ cZ a q) (j_s h)) d_Reader_wipe_15
set_option maxHeartbeats 4000000 in
set_option maxRecDepth 100000 in
theorem ct_Bytes_at (l : Launch) (dC : Nat → ClassId) (dI : Nat → Nat → Nat) (cI cB cJ cZ : ClassId) (a : Nat → Nat) (n : Nat) (x1 : Int32) (t : St) {z : Int32 × St} (h : m_Bytes_at n x1 t = some z) : jMi l y_Bytes_at w_Bytes_at ({ frames := 0, cells := 0, slots := 0, locals := 0 }) (dC, dI) vwCl (tyA cI cB cJ cZ) [.ref (a 1), .int x1] (wO cI cB cJ cZ a t) z.1 (fun _ : Unit => wO cI cB cJ cZ a z.2) := by
  refine jMi.of (cc := c_Bytes_at) (maxL := 2) (ret := (some .int)) (by decide) rfl (Nat.le_of_ble_eq_true rfl) ?_
  intro p e s m args below meth c A X hr hlk hnm
  have L25 : ∀  (t : St), m_Bytes_at_25 n   t = some z → J p l e { frames := 0, cells := 0, slots := 0, locals := 0 } s m args below meth c 2 (dC, dI) vwCl A (MQ below (jQi (dC, dI) vwCl (tyA cI cB cJ cZ) z.1 (fun _ : Unit => wO cI cB cJ cZ a z.2) A) args s 0 0 A) 0 0 25 [] [] (wO cI cB cJ cZ a t) := by
    intro  t h
    unfold m_Bytes_at_25 at h
    refine J_iconst (v := (-1 : Int32)) X d_Bytes_at_25 (by decide) ?_
    exact J_iret X hr hlk () (Nat.le_of_ble_eq_true rfl) (Nat.le_of_ble_eq_true rfl) (j_r1 h) (congrArg (fun q => wO cI cB cJ cZ a q) (j_r2 h)) d_Bytes_at_26
  refine J_lv [0, 1] [(0, .ref (a 1)), (1, .int x1)] rfl ?_
  unfold m_Bytes_at at h
  refine J_iload_n X d_Bytes_at_0 1 rfl rfl ?_
  refine J_if_lt X 25 d_Bytes_at_1 (by decide) (fun c1 => ?_) (fun c1 => ?_)
  · rw [if_pos c1] at h
    refine J_lv [] [] rfl ?_
    exact L25  t h
  · rw [if_neg c1] at h
    refine J_iload_n X d_Bytes_at_4 1 rfl rfl ?_
    refine J_aload_n X d_Bytes_at_5 0 rfl rfl ?_
    refine J_get (v := .int (t.1 0)) X (fun w h => mm (in_Bytes w h)) 1 rfl rfl 1 (by decide) (mm k_fl_Bytes_15) rfl rfl d_Bytes_at_6 ?_
    refine J_icmp_ge X 25 d_Bytes_at_9 (by decide) (fun c9 => ?_) (fun c9 => ?_)
    · rw [if_pos c9] at h
      refine J_lv [] [] rfl ?_
      exact L25  t h
    · rw [if_neg c9] at h
      refine J_aload_n X d_Bytes_at_12 0 rfl rfl ?_
      refine J_get (v := .ref (a 2)) X (fun w h => mm (in_Bytes w h)) 1 rfl rfl 0 (by decide) (mm k_fl_Bytes_9) rfl rfl d_Bytes_at_13 ?_
      refine J_iload_n X d_Bytes_at_16 1 rfl rfl ?_
      obtain ⟨b17, h⟩ := j_ifn h
      refine J_bald (f := (t.2.1 0)) X 2 1 rfl rfl b17 d_Bytes_at_17 ?_
      refine J_sipush (v := (255 : Int32)) X d_Bytes_at_18 (by decide) ?_
      refine J_iand X d_Bytes_at_21 ?_
      refine J_goto X 26 d_Bytes_at_22 (by decide) ?_
      exact J_iret X hr hlk () (Nat.le_of_ble_eq_true rfl) (Nat.le_of_ble_eq_true rfl) (j_r1 h) (congrArg (fun q => wO cI cB cJ cZ a q) (j_r2 h)) d_Bytes_at_26
set_option maxHeartbeats 4000000 in
set_option maxRecDepth 100000 in
theorem ct_Parser_fail (l : Launch) (dC : Nat → ClassId) (dI : Nat → Nat → Nat) (cI cB cJ cZ : ClassId) (a : Nat → Nat) (n : Nat) (x1 : Int32) (x2 : Int32) (t : St) {z : Int32 × St} (h : m_Parser_fail n x1 x2 t = some z) : jMi l y_Parser_fail w_Parser_fail ({ frames := 0, cells := 0, slots := 0, locals := 0 }) (dC, dI) vwCl (tyA cI cB cJ cZ) [.ref (a 11), .int x1, .int x2] (wO cI cB cJ cZ a t) z.1 (fun _ : Unit => wO cI cB cJ cZ a z.2) := by
  refine jMi.of (cc := c_Parser_fail) (maxL := 3) (ret := (some .int)) (by decide) rfl (Nat.le_of_ble_eq_true rfl) ?_
  intro p e s m args below meth c A X hr hlk hnm
  refine J_lv [0, 1, 2] [(0, .ref (a 11)), (1, .int x1), (2, .int x2)] rfl ?_
  unfold m_Parser_fail at h
  refine J_aload_n X d_Parser_fail_0 0 rfl rfl ?_
  refine J_get (v := .int (t.1 13)) X (fun w h => mm (in_Parser w h)) 11 rfl rfl 9 (by decide) (mm k_fl_Parser_40) rfl rfl d_Parser_fail_1 ?_
  refine J_if_ne X 17 d_Parser_fail_4 (by decide) (fun c4 => ?_) (fun c4 => ?_)
  · rw [if_neg c4] at h
    refine J_iconst (v := (-1 : Int32)) X d_Parser_fail_17 (by decide) ?_
    exact J_iret X hr hlk () (Nat.le_of_ble_eq_true rfl) (Nat.le_of_ble_eq_true rfl) (j_r1 h) (congrArg (fun q => wO cI cB cJ cZ a q) (j_r2 h)) d_Parser_fail_18
  · rw [if_pos c4] at h
    refine J_aload_n X d_Parser_fail_7 0 rfl rfl ?_
    refine J_iload_n X d_Parser_fail_8 1 rfl rfl ?_
    refine J_put (ty := .int) (v := .int x1) X (fun w h => mm (in_Parser w h)) ty_Parser tyk_Parser nm_Parser 11 rfl rfl 9 (by decide) (mm k_fl_Parser_40) rfl rfl (by decide +kernel) rfl rfl (Nat.le_of_ble_eq_true rfl) d_Parser_fail_9 (wO cI cB cJ cZ a (sG t 13 x1)) rfl ?_
    refine J_aload_n X d_Parser_fail_12 0 rfl rfl ?_
    refine J_iload_n X d_Parser_fail_13 2 rfl rfl ?_
    refine J_put (ty := .int) (v := .int x2) X (fun w h => mm (in_Parser w h)) ty_Parser tyk_Parser nm_Parser 11 rfl rfl 10 (by decide) (mm k_fl_Parser_43) rfl rfl (by decide +kernel) rfl rfl (Nat.le_of_ble_eq_true rfl) d_Parser_fail_14 (wO cI cB cJ cZ a (sG (sG t 13 x1) 14 x2)) rfl ?_
    refine J_iconst (v := (-1 : Int32)) X d_Parser_fail_17 (by decide) ?_
    exact J_iret X hr hlk () (Nat.le_of_ble_eq_true rfl) (Nat.le_of_ble_eq_true rfl) (j_r1 h) (congrArg (fun q => wO cI cB cJ cZ a q) (j_r2 h)) d_Parser_fail_18
set_option maxHeartbeats 4000000 in
set_option maxRecDepth 100000 in
theorem ct_Parser_begin (l : Launch) (dC : Nat → ClassId) (dI : Nat → Nat → Nat) (cI cB cJ cZ : ClassId) (a : Nat → Nat) (n : Nat)  (t : St) {z : St} (h : m_Parser_begin n t = some z) : jMv l y_Parser_begin w_Parser_begin ({ frames := 3, cells := 0, slots := 0, locals := 63 }) (dC, dI) vwCl (tyA cI cB cJ cZ) [.ref (a 11)] (wO cI cB cJ cZ a t) (fun _ : Unit => wO cI cB cJ cZ a z) := by
  refine jMv.of (cc := c_Parser_begin) (maxL := 1) (ret := none) (by decide) rfl (Nat.le_of_ble_eq_true rfl) ?_
  intro p e s m args below meth c A X hr hlk hnm
  have L51 : ∀  (t : St), m_Parser_begin_51 n   t = some z → J p l e { frames := 3, cells := 0, slots := 0, locals := 63 } s m args below meth c 1 (dC, dI) vwCl A (MQ below (jQv (dC, dI) vwCl (tyA cI cB cJ cZ) (fun _ : Unit => wO cI cB cJ cZ a z) A) args s 0 0 A) 0 0 51 [(0, .ref (a 11))] [] (wO cI cB cJ cZ a t) := by
    intro  t h
    unfold m_Parser_begin_51 at h
    refine J_aload_n X d_Parser_begin_51 0 rfl rfl ?_
    refine J_get (v := .ref (a 1)) X (fun w h => mm (in_Parser w h)) 11 rfl rfl 0 (by decide) (mm k_fl_Parser_46) rfl rfl d_Parser_begin_52 ?_
    refine J_getN (v := .int (t.1 0)) X (fun w h => mm (in_Bytes w h)) 1 rfl rfl 1 (by decide) k_fln_Parser_68 rfl rfl d_Parser_begin_55 ?_
    refine J_iconst (v := (2 : Int32)) X d_Parser_begin_58 (by decide) ?_
    refine J_icmp_ge X 78 d_Parser_begin_59 (by decide) (fun c59 => ?_) (fun c59 => ?_)
    · rw [if_pos c59] at h
      refine J_aload_n X d_Parser_begin_78 0 rfl rfl ?_
      refine J_get (v := .ref (a 1)) X (fun w h => mm (in_Parser w h)) 11 rfl rfl 0 (by decide) (mm k_fl_Parser_46) rfl rfl d_Parser_begin_79 ?_
      refine J_iconst (v := (1 : Int32)) X d_Parser_begin_82 (by decide) ?_
      obtain ⟨z83, hz83, h⟩ := j_bind h
      refine J_callVi0 (n := 1) (wc := (wO cI cB cJ cZ a t)) (r := z83.1) (w1 := fun _ : Unit => wO cI cB cJ cZ a z83.2) X isO (hCO cI cB cJ cZ a t) (hDO cI cB cJ cZ a t) rfl [.int (1 : Int32)] [] (ct_Bytes_at l dC dI cI cB cJ cZ a n (1 : Int32) t hz83) (aw_V (fun w h => mm h) k_ml_Parser_73 k_im_Bytes_at k_se_Bytes_at k_in_Bytes k_cd_Bytes_at) rfl (by decide +kernel) ⟨(Nat.le_of_ble_eq_true rfl), (Nat.le_of_ble_eq_true rfl)⟩ (q0 := 1) rfl rfl rfl rfl (Nat.le_of_ble_eq_true rfl) d_Parser_begin_83 ⟨(Nat.le_of_ble_eq_true rfl), (Nat.le_of_ble_eq_true rfl)⟩ (fun _ => ?_)
      refine J_sipush (v := (216 : Int32)) X d_Parser_begin_86 (by decide) ?_
      refine J_icmp_eq X 99 d_Parser_begin_89 (by decide) (fun c89 => ?_) (fun c89 => ?_)
      · rw [if_pos c89] at h
        refine J_aload_n X d_Parser_begin_99 0 rfl rfl ?_
        refine J_iconst (v := (2 : Int32)) X d_Parser_begin_100 (by decide) ?_
        refine J_put (ty := .int) (v := .int (2 : Int32)) X (fun w h => mm (in_Parser w h)) ty_Parser tyk_Parser nm_Parser 11 rfl rfl 5 (by decide) (mm k_fl_Parser_26) rfl rfl (by decide +kernel) rfl rfl (Nat.le_of_ble_eq_true rfl) d_Parser_begin_101 (wO cI cB cJ cZ a (sG z83.2 9 (2 : Int32))) rfl ?_
        exact J_vret X hr hlk () (Nat.le_of_ble_eq_true rfl) (Nat.le_of_ble_eq_true rfl) (congrArg (fun q => wO cI cB cJ cZ a q) (j_s h)) d_Parser_begin_104
      · rw [if_neg c89] at h
        refine J_aload_n X d_Parser_begin_92 0 rfl rfl ?_
        refine J_iconst (v := (2 : Int32)) X d_Parser_begin_93 (by decide) ?_
        refine J_iconst (v := (0 : Int32)) X d_Parser_begin_94 (by decide) ?_
        obtain ⟨z95, hz95, h⟩ := j_bind h
        refine J_callVi0 (n := 2) (wc := (wO cI cB cJ cZ a z83.2)) (r := z95.1) (w1 := fun _ : Unit => wO cI cB cJ cZ a z95.2) X isO (hCO cI cB cJ cZ a z83.2) (hDO cI cB cJ cZ a z83.2) rfl [.int (2 : Int32), .int (0 : Int32)] [] (ct_Parser_fail l dC dI cI cB cJ cZ a n (2 : Int32) (0 : Int32) z83.2 hz95) (aw_V (fun w h => mm h) k_ml_Parser_77 k_im_Parser_fail k_se_Parser_fail k_in_Parser k_cd_Parser_fail) rfl (by decide +kernel) ⟨(Nat.le_of_ble_eq_true rfl), (Nat.le_of_ble_eq_true rfl)⟩ (q0 := 11) rfl rfl rfl rfl (Nat.le_of_ble_eq_true rfl) d_Parser_begin_95 ⟨(Nat.le_of_ble_eq_true rfl), (Nat.le_of_ble_eq_true rfl)⟩ (fun _ => ?_)
        refine J_pop X d_Parser_begin_98 rfl ?_
        refine J_aload_n X d_Parser_begin_99 0 rfl rfl ?_
        refine J_iconst (v := (2 : Int32)) X d_Parser_begin_100 (by decide) ?_
        refine J_put (ty := .int) (v := .int (2 : Int32)) X (fun w h => mm (in_Parser w h)) ty_Parser tyk_Parser nm_Parser 11 rfl rfl 5 (by decide) (mm k_fl_Parser_26) rfl rfl (by decide +kernel) rfl rfl (Nat.le_of_ble_eq_true rfl) d_Parser_begin_101 (wO cI cB cJ cZ a (sG z95.2 9 (2 : Int32))) rfl ?_
        exact J_vret X hr hlk () (Nat.le_of_ble_eq_true rfl) (Nat.le_of_ble_eq_true rfl) (congrArg (fun q => wO cI cB cJ cZ a q) (j_s h)) d_Parser_begin_104
    · rw [if_neg c59] at h
      refine J_aload_n X d_Parser_begin_62 0 rfl rfl ?_
      refine J_iconst (v := (1 : Int32)) X d_Parser_begin_63 (by decide) ?_
      refine J_aload_n X d_Parser_begin_64 0 rfl rfl ?_
      refine J_get (v := .ref (a 1)) X (fun w h => mm (in_Parser w h)) 11 rfl rfl 0 (by decide) (mm k_fl_Parser_46) rfl rfl d_Parser_begin_65 ?_
      refine J_getN (v := .int (t.1 0)) X (fun w h => mm (in_Bytes w h)) 1 rfl rfl 1 (by decide) k_fln_Parser_68 rfl rfl d_Parser_begin_68 ?_
      obtain ⟨z71, hz71, h⟩ := j_bind h
      refine J_callVi0 (n := 2) (wc := (wO cI cB cJ cZ a t)) (r := z71.1) (w1 := fun _ : Unit => wO cI cB cJ cZ a z71.2) X isO (hCO cI cB cJ cZ a t) (hDO cI cB cJ cZ a t) rfl [.int (1 : Int32), .int (t.1 0)] [] (ct_Parser_fail l dC dI cI cB cJ cZ a n (1 : Int32) (t.1 0) t hz71) (aw_V (fun w h => mm h) k_ml_Parser_77 k_im_Parser_fail k_se_Parser_fail k_in_Parser k_cd_Parser_fail) rfl (by decide +kernel) ⟨(Nat.le_of_ble_eq_true rfl), (Nat.le_of_ble_eq_true rfl)⟩ (q0 := 11) rfl rfl rfl rfl (Nat.le_of_ble_eq_true rfl) d_Parser_begin_71 ⟨(Nat.le_of_ble_eq_true rfl), (Nat.le_of_ble_eq_true rfl)⟩ (fun _ => ?_)
      refine J_pop X d_Parser_begin_74 rfl ?_
      refine J_goto X 99 d_Parser_begin_75 (by decide) ?_
      refine J_aload_n X d_Parser_begin_99 0 rfl rfl ?_
      refine J_iconst (v := (2 : Int32)) X d_Parser_begin_100 (by decide) ?_
      refine J_put (ty := .int) (v := .int (2 : Int32)) X (fun w h => mm (in_Parser w h)) ty_Parser tyk_Parser nm_Parser 11 rfl rfl 5 (by decide) (mm k_fl_Parser_26) rfl rfl (by decide +kernel) rfl rfl (Nat.le_of_ble_eq_true rfl) d_Parser_begin_101 (wO cI cB cJ cZ a (sG z71.2 9 (2 : Int32))) rfl ?_
      exact J_vret X hr hlk () (Nat.le_of_ble_eq_true rfl) (Nat.le_of_ble_eq_true rfl) (congrArg (fun q => wO cI cB cJ cZ a q) (j_s h)) d_Parser_begin_104
  refine J_lv [0] [(0, .ref (a 11))] rfl ?_
  unfold m_Parser_begin at h
  refine J_aload_n X d_Parser_begin_0 0 rfl rfl ?_
  obtain ⟨z1, hz1, h⟩ := j_bind h
  refine J_callVv0 (n := 0) (wc := (wO cI cB cJ cZ a t)) (w1 := fun _ : Unit => wO cI cB cJ cZ a z1) X isO (hCO cI cB cJ cZ a t) (hDO cI cB cJ cZ a t) rfl [] [] (ct_Parser_forget l dC dI cI cB cJ cZ a n t hz1) (aw_V (fun w h => mm h) k_ml_Parser_59 k_im_Parser_forget k_se_Parser_forget k_in_Parser k_cd_Parser_forget) rfl (by decide +kernel) ⟨(Nat.le_of_ble_eq_true rfl), (Nat.le_of_ble_eq_true rfl)⟩ (q0 := 11) rfl rfl rfl rfl (Nat.le_of_ble_eq_true rfl) d_Parser_begin_1 ⟨(Nat.le_of_ble_eq_true rfl), (Nat.le_of_ble_eq_true rfl)⟩ (fun _ => ?_)
  refine J_aload_n X d_Parser_begin_4 0 rfl rfl ?_
  refine J_get (v := .ref (a 14)) X (fun w h => mm (in_Parser w h)) 11 rfl rfl 3 (by decide) (mm k_fl_Parser_18) rfl rfl d_Parser_begin_5 ?_
  refine J_iconst (v := (-1 : Int32)) X d_Parser_begin_8 (by decide) ?_
  obtain ⟨z9, hz9, h⟩ := j_bind h
  refine J_callSv0 (n := 2) (wc := (wO cI cB cJ cZ a z1)) (w1 := fun _ : Unit => wO cI cB cJ cZ a z9) X isO (hCO cI cB cJ cZ a z1) (hDO cI cB cJ cZ a z1) rfl [.ref (a 14), .int (-1 : Int32)] [] (ct_Arrays_fillI_14 l dC dI cI cB cJ cZ a n (-1 : Int32) z1 hz9) (aw_S (fun w h => mm h) k_ml_Parser_62 k_st_Arrays_fillI k_in_Arrays k_cd_Arrays_fillI) rfl (by decide +kernel) ⟨(Nat.le_of_ble_eq_true rfl), (Nat.le_of_ble_eq_true rfl)⟩ rfl rfl (Nat.le_of_ble_eq_true rfl) d_Parser_begin_9 ⟨(Nat.le_of_ble_eq_true rfl), (Nat.le_of_ble_eq_true rfl)⟩ (fun _ => ?_)
  refine J_aload_n X d_Parser_begin_12 0 rfl rfl ?_
  refine J_iconst (v := (0 : Int32)) X d_Parser_begin_13 (by decide) ?_
  refine J_put (ty := .boolean) (v := .int (0 : Int32)) X (fun w h => mm (in_Parser w h)) ty_Parser tyk_Parser nm_Parser 11 rfl rfl 8 (by decide) (mm k_fl_Parser_36) rfl rfl (by decide +kernel) rfl rfl (Nat.le_of_ble_eq_true rfl) d_Parser_begin_14 (wO cI cB cJ cZ a (sG z9 12 (0 : Int32))) rfl ?_
  refine J_aload_n X d_Parser_begin_17 0 rfl rfl ?_
  refine J_get (v := .ref (a 1)) X (fun w h => mm (in_Parser w h)) 11 rfl rfl 0 (by decide) (mm k_fl_Parser_46) rfl rfl d_Parser_begin_18 ?_
  refine J_getN (v := .int (z9.1 0)) X (fun w h => mm (in_Bytes w h)) 1 rfl rfl 1 (by decide) k_fln_Parser_68 rfl rfl d_Parser_begin_21 ?_
  refine J_if_le X 51 d_Parser_begin_24 (by decide) (fun c24 => ?_) (fun c24 => ?_)
  · rw [if_pos c24] at h
    refine J_lv [0] [(0, .ref (a 11))] rfl ?_
    exact L51  (sG z9 12 (0 : Int32)) h
  · rw [if_neg c24] at h
    refine J_aload_n X d_Parser_begin_27 0 rfl rfl ?_
    refine J_get (v := .ref (a 1)) X (fun w h => mm (in_Parser w h)) 11 rfl rfl 0 (by decide) (mm k_fl_Parser_46) rfl rfl d_Parser_begin_28 ?_
    refine J_iconst (v := (0 : Int32)) X d_Parser_begin_31 (by decide) ?_
    obtain ⟨z32, hz32, h⟩ := j_bind h
    refine J_callVi0 (n := 1) (wc := (wO cI cB cJ cZ a (sG z9 12 (0 : Int32)))) (r := z32.1) (w1 := fun _ : Unit => wO cI cB cJ cZ a z32.2) X isO (hCO cI cB cJ cZ a (sG z9 12 (0 : Int32))) (hDO cI cB cJ cZ a (sG z9 12 (0 : Int32))) rfl [.int (0 : Int32)] [] (ct_Bytes_at l dC dI cI cB cJ cZ a n (0 : Int32) (sG z9 12 (0 : Int32)) hz32) (aw_V (fun w h => mm h) k_ml_Parser_73 k_im_Bytes_at k_se_Bytes_at k_in_Bytes k_cd_Bytes_at) rfl (by decide +kernel) ⟨(Nat.le_of_ble_eq_true rfl), (Nat.le_of_ble_eq_true rfl)⟩ (q0 := 1) rfl rfl rfl rfl (Nat.le_of_ble_eq_true rfl) d_Parser_begin_32 ⟨(Nat.le_of_ble_eq_true rfl), (Nat.le_of_ble_eq_true rfl)⟩ (fun _ => ?_)
    refine J_sipush (v := (255 : Int32)) X d_Parser_begin_35 (by decide) ?_
    refine J_icmp_eq X 51 d_Parser_begin_38 (by decide) (fun c38 => ?_) (fun c38 => ?_)
    · rw [if_pos c38] at h
      refine J_lv [0] [(0, .ref (a 11))] rfl ?_
      exact L51  z32.2 h
    · rw [if_neg c38] at h
      refine J_aload_n X d_Parser_begin_41 0 rfl rfl ?_
      refine J_iconst (v := (2 : Int32)) X d_Parser_begin_42 (by decide) ?_
      refine J_iconst (v := (0 : Int32)) X d_Parser_begin_43 (by decide) ?_
      obtain ⟨z44, hz44, h⟩ := j_bind h
      refine J_callVi0 (n := 2) (wc := (wO cI cB cJ cZ a z32.2)) (r := z44.1) (w1 := fun _ : Unit => wO cI cB cJ cZ a z44.2) X isO (hCO cI cB cJ cZ a z32.2) (hDO cI cB cJ cZ a z32.2) rfl [.int (2 : Int32), .int (0 : Int32)] [] (ct_Parser_fail l dC dI cI cB cJ cZ a n (2 : Int32) (0 : Int32) z32.2 hz44) (aw_V (fun w h => mm h) k_ml_Parser_77 k_im_Parser_fail k_se_Parser_fail k_in_Parser k_cd_Parser_fail) rfl (by decide +kernel) ⟨(Nat.le_of_ble_eq_true rfl), (Nat.le_of_ble_eq_true rfl)⟩ (q0 := 11) rfl rfl rfl rfl (Nat.le_of_ble_eq_true rfl) d_Parser_begin_44 ⟨(Nat.le_of_ble_eq_true rfl), (Nat.le_of_ble_eq_true rfl)⟩ (fun _ => ?_)
      refine J_pop X d_Parser_begin_47 rfl ?_
      refine J_goto X 99 d_Parser_begin_48 (by decide) ?_
      refine J_aload_n X d_Parser_begin_99 0 rfl rfl ?_
      refine J_iconst (v := (2 : Int32)) X d_Parser_begin_100 (by decide) ?_
      refine J_put (ty := .int) (v := .int (2 : Int32)) X (fun w h => mm (in_Parser w h)) ty_Parser tyk_Parser nm_Parser 11 rfl rfl 5 (by decide) (mm k_fl_Parser_26) rfl rfl (by decide +kernel) rfl rfl (Nat.le_of_ble_eq_true rfl) d_Parser_begin_101 (wO cI cB cJ cZ a (sG z44.2 9 (2 : Int32))) rfl ?_
      exact J_vret X hr hlk () (Nat.le_of_ble_eq_true rfl) (Nat.le_of_ble_eq_true rfl) (congrArg (fun q => wO cI cB cJ cZ a q) (j_s h)) d_Parser_begin_104
set_option maxHeartbeats 4000000 in
set_option maxRecDepth 100000 in
theorem ct_Parser_goesOn (l : Launch) (dC : Nat → ClassId) (dI : Nat → Nat → Nat) (cI cB cJ cZ : ClassId) (a : Nat → Nat) (n : Nat)  (t : St) {z : Int32 × St} (h : m_Parser_goesOn n t = some z) : jMi l y_Parser_goesOn w_Parser_goesOn ({ frames := 0, cells := 0, slots := 0, locals := 0 }) (dC, dI) vwCl (tyA cI cB cJ cZ) [.ref (a 11)] (wO cI cB cJ cZ a t) z.1 (fun _ : Unit => wO cI cB cJ cZ a z.2) := by
  refine jMi.of (cc := c_Parser_goesOn) (maxL := 1) (ret := (some .boolean)) (by decide) rfl (Nat.le_of_ble_eq_true rfl) ?_
  intro p e s m args below meth c A X hr hlk hnm
  have L22 : ∀  (t : St), m_Parser_goesOn_22 n   t = some z → J p l e { frames := 0, cells := 0, slots := 0, locals := 0 } s m args below meth c 1 (dC, dI) vwCl A (MQ below (jQi (dC, dI) vwCl (tyA cI cB cJ cZ) z.1 (fun _ : Unit => wO cI cB cJ cZ a z.2) A) args s 0 0 A) 0 0 22 [] [] (wO cI cB cJ cZ a t) := by
    intro  t h
    unfold m_Parser_goesOn_22 at h
    refine J_iconst (v := (0 : Int32)) X d_Parser_goesOn_22 (by decide) ?_
    exact J_zret X hr hlk () rfl (Nat.le_of_ble_eq_true rfl) (Nat.le_of_ble_eq_true rfl) (j_r1 h) (congrArg (fun q => wO cI cB cJ cZ a q) (j_r2 h)) d_Parser_goesOn_23
  refine J_lv [0] [(0, .ref (a 11))] rfl ?_
  unfold m_Parser_goesOn at h
  refine J_aload_n X d_Parser_goesOn_0 0 rfl rfl ?_
  refine J_get (v := .int (t.1 13)) X (fun w h => mm (in_Parser w h)) 11 rfl rfl 9 (by decide) (mm k_fl_Parser_40) rfl rfl d_Parser_goesOn_1 ?_
  refine J_if_ne X 22 d_Parser_goesOn_4 (by decide) (fun c4 => ?_) (fun c4 => ?_)
  · rw [if_neg c4] at h
    refine J_lv [] [] rfl ?_
    exact L22  t h
  · rw [if_pos c4] at h
    refine J_aload_n X d_Parser_goesOn_7 0 rfl rfl ?_
    refine J_get (v := .ref (a 3)) X (fun w h => mm (in_Parser w h)) 11 rfl rfl 1 (by decide) (mm k_fl_Parser_50) rfl rfl d_Parser_goesOn_8 ?_
    refine J_getN (v := .int (t.1 6)) X (fun w h => mm (in_Picture w h)) 3 rfl rfl 11 (by decide) k_fln_Parser_81 rfl rfl d_Parser_goesOn_11 ?_
    refine J_iconst (v := (-1 : Int32)) X d_Parser_goesOn_14 (by decide) ?_
    refine J_icmp_ne X 22 d_Parser_goesOn_15 (by decide) (fun c15 => ?_) (fun c15 => ?_)
    · rw [if_neg c15] at h
      refine J_lv [] [] rfl ?_
      exact L22  t h
    · rw [if_pos c15] at h
      refine J_iconst (v := (1 : Int32)) X d_Parser_goesOn_18 (by decide) ?_
      refine J_goto X 23 d_Parser_goesOn_19 (by decide) ?_
      exact J_zret X hr hlk () rfl (Nat.le_of_ble_eq_true rfl) (Nat.le_of_ble_eq_true rfl) (j_r1 h) (congrArg (fun q => wO cI cB cJ cZ a q) (j_r2 h)) d_Parser_goesOn_23
set_option maxHeartbeats 4000000 in
set_option maxRecDepth 100000 in
theorem ct_Parser_latestOf (l : Launch) (dC : Nat → ClassId) (dI : Nat → Nat → Nat) (cI cB cJ cZ : ClassId) (a : Nat → Nat) (n : Nat) (x1 : Int32) (x2 : Int32) (t : St) {z : Int32 × St} (h : m_Parser_latestOf n x1 x2 t = some z) : jMi l y_Parser_latestOf w_Parser_latestOf ({ frames := 0, cells := 0, slots := 0, locals := 0 }) (dC, dI) vwCl (tyA cI cB cJ cZ) [.ref (a 11), .int x1, .int x2] (wO cI cB cJ cZ a t) z.1 (fun _ : Unit => wO cI cB cJ cZ a z.2) := by
  refine jMi.of (cc := c_Parser_latestOf) (maxL := 4) (ret := (some .int)) (by decide) rfl (Nat.le_of_ble_eq_true rfl) ?_
  intro p e s m args below meth c A X hr hlk hnm
  have L29 : ∀  (t : St), m_Parser_latestOf_29 n   t = some z → J p l e { frames := 0, cells := 0, slots := 0, locals := 0 } s m args below meth c 4 (dC, dI) vwCl A (MQ below (jQi (dC, dI) vwCl (tyA cI cB cJ cZ) z.1 (fun _ : Unit => wO cI cB cJ cZ a z.2) A) args s 0 0 A) 0 0 29 [] [] (wO cI cB cJ cZ a t) := by
    intro  t h
    unfold m_Parser_latestOf_29 at h
    refine J_iconst (v := (-1 : Int32)) X d_Parser_latestOf_29 (by decide) ?_
    exact J_iret X hr hlk () (Nat.le_of_ble_eq_true rfl) (Nat.le_of_ble_eq_true rfl) (j_r1 h) (congrArg (fun q => wO cI cB cJ cZ a q) (j_r2 h)) d_Parser_latestOf_30
  refine J_lv [0, 1, 2] [(0, .ref (a 11)), (1, .int x1), (2, .int x2)] rfl ?_
  unfold m_Parser_latestOf at h
  refine J_iload_n X d_Parser_latestOf_0 1 rfl rfl ?_
  refine J_bipush (v := (64 : Int32)) X d_Parser_latestOf_1 (by decide) ?_
  refine J_imul X d_Parser_latestOf_3 ?_
  refine J_iload_n X d_Parser_latestOf_4 2 rfl rfl ?_
  refine J_iadd X d_Parser_latestOf_5 ?_
  refine J_istore_n X [(3, .int ((x1 * (64 : Int32)) + x2)), (0, .ref (a 11)), (1, .int x1), (2, .int x2)] d_Parser_latestOf_6 rfl (by decide) rfl ?_
  refine J_iload_n X d_Parser_latestOf_7 0 rfl rfl ?_
  refine J_if_lt X 29 d_Parser_latestOf_8 (by decide) (fun c8 => ?_) (fun c8 => ?_)
  · rw [if_pos c8] at h
    refine J_lv [] [] rfl ?_
    exact L29  t h
  · rw [if_neg c8] at h
    refine J_iload_n X d_Parser_latestOf_11 0 rfl rfl ?_
    refine J_aload_n X d_Parser_latestOf_12 1 rfl rfl ?_
    refine J_get (v := .ref (a 14)) X (fun w h => mm (in_Parser w h)) 11 rfl rfl 3 (by decide) (mm k_fl_Parser_18) rfl rfl d_Parser_latestOf_13 ?_
    refine J_alen X 14 0 rfl rfl (v := (Int32.ofNat 256)) rfl d_Parser_latestOf_16 ?_
    refine J_icmp_ge X 29 d_Parser_latestOf_17 (by decide) (fun c17 => ?_) (fun c17 => ?_)
    · rw [if_pos c17] at h
      refine J_lv [] [] rfl ?_
      exact L29  t h
    · rw [if_neg c17] at h
      refine J_aload_n X d_Parser_latestOf_20 1 rfl rfl ?_
      refine J_get (v := .ref (a 14)) X (fun w h => mm (in_Parser w h)) 11 rfl rfl 3 (by decide) (mm k_fl_Parser_18) rfl rfl d_Parser_latestOf_21 ?_
      refine J_iload_n X d_Parser_latestOf_24 0 rfl rfl ?_
      obtain ⟨b25, h⟩ := j_ifn h
      refine J_iald (f := (t.2.1 7)) X 14 0 rfl rfl b25 d_Parser_latestOf_25 ?_
      refine J_goto X 30 d_Parser_latestOf_26 (by decide) ?_
      exact J_iret X hr hlk () (Nat.le_of_ble_eq_true rfl) (Nat.le_of_ble_eq_true rfl) (j_r1 h) (congrArg (fun q => wO cI cB cJ cZ a q) (j_r2 h)) d_Parser_latestOf_30
set_option maxHeartbeats 4000000 in
set_option maxRecDepth 100000 in
theorem ct_Parser_allBegun (l : Launch) (dC : Nat → ClassId) (dI : Nat → Nat → Nat) (cI cB cJ cZ : ClassId) (a : Nat → Nat) (n : Nat)  (t : St) {z : Int32 × St} (h : m_Parser_allBegun n t = some z) : jMi l y_Parser_allBegun w_Parser_allBegun ({ frames := 1, cells := 0, slots := 0, locals := 23 }) (dC, dI) vwCl (tyA cI cB cJ cZ) [.ref (a 11)] (wO cI cB cJ cZ a t) z.1 (fun _ : Unit => wO cI cB cJ cZ a z.2) := by
  refine jMi.of (cc := c_Parser_allBegun) (maxL := 2) (ret := (some .boolean)) (by decide) rfl (Nat.le_of_ble_eq_true rfl) ?_
  intro p e s m args below meth c A X hr hlk hnm
  have L2 : ∀ (k : Nat) (x1 : Int32) (t : St), m_Parser_allBegun_2 n  k x1 t = some z → J p l e { frames := 1, cells := 0, slots := 0, locals := 23 } s m args below meth c 2 (dC, dI) vwCl A (MQ below (jQi (dC, dI) vwCl (tyA cI cB cJ cZ) z.1 (fun _ : Unit => wO cI cB cJ cZ a z.2) A) args s 0 0 A) 0 0 2 [(0, .ref (a 11)), (1, .int x1)] [] (wO cI cB cJ cZ a t) := by
    intro k
    induction k with
    | zero => intro x1 t h; exact absurd (show none = some z from h) (by simp)
    | succ k ih =>
      intro x1 t h
      change m_Parser_allBegun_2b n  (m_Parser_allBegun_2 n  k) x1 t = some z at h
      unfold m_Parser_allBegun_2b at h
      refine J_iload_n X d_Parser_allBegun_2 1 rfl rfl ?_
      refine J_aload_n X d_Parser_allBegun_3 0 rfl rfl ?_
      refine J_get (v := .ref (a 3)) X (fun w h => mm (in_Parser w h)) 11 rfl rfl 1 (by decide) (mm k_fl_Parser_50) rfl rfl d_Parser_allBegun_4 ?_
      refine J_getN (v := .int (t.1 4)) X (fun w h => mm (in_Picture w h)) 3 rfl rfl 9 (by decide) k_fln_Parser_116 rfl rfl d_Parser_allBegun_7 ?_
      refine J_icmp_ge X 31 d_Parser_allBegun_10 (by decide) (fun c10 => ?_) (fun c10 => ?_)
      · rw [if_pos c10] at h
        refine J_iconst (v := (1 : Int32)) X d_Parser_allBegun_31 (by decide) ?_
        exact J_zret X hr hlk () rfl (Nat.le_of_ble_eq_true rfl) (Nat.le_of_ble_eq_true rfl) (j_r1 h) (congrArg (fun q => wO cI cB cJ cZ a q) (j_r2 h)) d_Parser_allBegun_32
      · rw [if_neg c10] at h
        refine J_aload_n X d_Parser_allBegun_13 0 rfl rfl ?_
        refine J_iload_n X d_Parser_allBegun_14 1 rfl rfl ?_
        refine J_iconst (v := (0 : Int32)) X d_Parser_allBegun_15 (by decide) ?_
        obtain ⟨z16, hz16, h⟩ := j_bind h
        refine J_callVi0 (n := 2) (wc := (wO cI cB cJ cZ a t)) (r := z16.1) (w1 := fun _ : Unit => wO cI cB cJ cZ a z16.2) X isO (hCO cI cB cJ cZ a t) (hDO cI cB cJ cZ a t) rfl [.int x1, .int (0 : Int32)] [] (ct_Parser_latestOf l dC dI cI cB cJ cZ a n x1 (0 : Int32) t hz16) (aw_V (fun w h => mm h) k_ml_Parser_119 k_im_Parser_latestOf k_se_Parser_latestOf k_in_Parser k_cd_Parser_latestOf) rfl (by decide +kernel) ⟨(Nat.le_of_ble_eq_true rfl), (Nat.le_of_ble_eq_true rfl)⟩ (q0 := 11) rfl rfl rfl rfl (Nat.le_of_ble_eq_true rfl) d_Parser_allBegun_16 ⟨(Nat.le_of_ble_eq_true rfl), (Nat.le_of_ble_eq_true rfl)⟩ (fun _ => ?_)
        refine J_iconst (v := (-1 : Int32)) X d_Parser_allBegun_19 (by decide) ?_
        refine J_icmp_ne X 25 d_Parser_allBegun_20 (by decide) (fun c20 => ?_) (fun c20 => ?_)
        · rw [if_neg c20] at h
          refine J_iinc (v := (x1 + 1)) X [(1, .int (x1 + 1)), (0, .ref (a 11))] d_Parser_allBegun_25 1 rfl rfl (by decide) rfl ?_
          refine J_goto X 2 d_Parser_allBegun_28 (by decide) ?_
          refine J_lv [1, 0] [(0, .ref (a 11)), (1, .int (x1 + 1))] rfl ?_
          exact ih (x1 + 1) z16.2 h
        · rw [if_pos c20] at h
          refine J_iconst (v := (0 : Int32)) X d_Parser_allBegun_23 (by decide) ?_
          exact J_zret X hr hlk () rfl (Nat.le_of_ble_eq_true rfl) (Nat.le_of_ble_eq_true rfl) (j_r1 h) (congrArg (fun q => wO cI cB cJ cZ a q) (j_r2 h)) d_Parser_allBegun_24
  refine J_lv [0] [(0, .ref (a 11))] rfl ?_
  unfold m_Parser_allBegun at h
  refine J_iconst (v := (0 : Int32)) X d_Parser_allBegun_0 (by decide) ?_
  refine J_istore_n X [(1, .int (0 : Int32)), (0, .ref (a 11))] d_Parser_allBegun_1 rfl (by decide) rfl ?_
  refine J_lv [1, 0] [(0, .ref (a 11)), (1, .int (0 : Int32))] rfl ?_
  exact L2  n (0 : Int32) t h
set_option maxHeartbeats 4000000 in
set_option maxRecDepth 100000 in
theorem ct_Parser_isFree (l : Launch) (dC : Nat → ClassId) (dI : Nat → Nat → Nat) (cI cB cJ cZ : ClassId) (a : Nat → Nat) (n : Nat) (x1 : Int32) (t : St) {z : Int32 × St} (h : m_Parser_isFree n x1 t = some z) : jMi l y_Parser_isFree w_Parser_isFree ({ frames := 0, cells := 0, slots := 0, locals := 0 }) (dC, dI) vwCl (tyA cI cB cJ cZ) [.ref (a 11), .int x1] (wO cI cB cJ cZ a t) z.1 (fun _ : Unit => wO cI cB cJ cZ a z.2) := by
  refine jMi.of (cc := c_Parser_isFree) (maxL := 2) (ret := (some .boolean)) (by decide) rfl (Nat.le_of_ble_eq_true rfl) ?_
  intro p e s m args below meth c A X hr hlk hnm
  have L21 : ∀  (t : St), m_Parser_isFree_21 n   t = some z → J p l e { frames := 0, cells := 0, slots := 0, locals := 0 } s m args below meth c 2 (dC, dI) vwCl A (MQ below (jQi (dC, dI) vwCl (tyA cI cB cJ cZ) z.1 (fun _ : Unit => wO cI cB cJ cZ a z.2) A) args s 0 0 A) 0 0 21 [] [] (wO cI cB cJ cZ a t) := by
    intro  t h
    unfold m_Parser_isFree_21 at h
    refine J_iconst (v := (1 : Int32)) X d_Parser_isFree_21 (by decide) ?_
    refine J_goto X 26 d_Parser_isFree_22 (by decide) ?_
    exact J_zret X hr hlk () rfl (Nat.le_of_ble_eq_true rfl) (Nat.le_of_ble_eq_true rfl) (j_r1 h) (congrArg (fun q => wO cI cB cJ cZ a q) (j_r2 h)) d_Parser_isFree_26
  have L25 : ∀  (t : St), m_Parser_isFree_25 n   t = some z → J p l e { frames := 0, cells := 0, slots := 0, locals := 0 } s m args below meth c 2 (dC, dI) vwCl A (MQ below (jQi (dC, dI) vwCl (tyA cI cB cJ cZ) z.1 (fun _ : Unit => wO cI cB cJ cZ a z.2) A) args s 0 0 A) 0 0 25 [] [] (wO cI cB cJ cZ a t) := by
    intro  t h
    unfold m_Parser_isFree_25 at h
    refine J_iconst (v := (0 : Int32)) X d_Parser_isFree_25 (by decide) ?_
    exact J_zret X hr hlk () rfl (Nat.le_of_ble_eq_true rfl) (Nat.le_of_ble_eq_true rfl) (j_r1 h) (congrArg (fun q => wO cI cB cJ cZ a q) (j_r2 h)) d_Parser_isFree_26
  refine J_lv [0, 1] [(0, .ref (a 11)), (1, .int x1)] rfl ?_
  unfold m_Parser_isFree at h
  refine J_iload_n X d_Parser_isFree_0 1 rfl rfl ?_
  refine J_sipush (v := (254 : Int32)) X d_Parser_isFree_1 (by decide) ?_
  refine J_icmp_eq X 21 d_Parser_isFree_4 (by decide) (fun c4 => ?_) (fun c4 => ?_)
  · rw [if_pos c4] at h
    refine J_lv [] [] rfl ?_
    exact L21  t h
  · rw [if_neg c4] at h
    refine J_iload_n X d_Parser_isFree_7 1 rfl rfl ?_
    refine J_sipush (v := (224 : Int32)) X d_Parser_isFree_8 (by decide) ?_
    refine J_icmp_lt X 25 d_Parser_isFree_11 (by decide) (fun c11 => ?_) (fun c11 => ?_)
    · rw [if_pos c11] at h
      refine J_lv [] [] rfl ?_
      exact L25  t h
    · rw [if_neg c11] at h
      refine J_iload_n X d_Parser_isFree_14 1 rfl rfl ?_
      refine J_sipush (v := (239 : Int32)) X d_Parser_isFree_15 (by decide) ?_
      refine J_icmp_gt X 25 d_Parser_isFree_18 (by decide) (fun c18 => ?_) (fun c18 => ?_)
      · rw [if_pos c18] at h
        refine J_lv [] [] rfl ?_
        exact L25  t h
      · rw [if_neg c18] at h
        refine J_lv [] [] rfl ?_
        exact L21  t h
set_option maxHeartbeats 4000000 in
set_option maxRecDepth 100000 in
theorem ct_Parser_canStand (l : Launch) (dC : Nat → ClassId) (dI : Nat → Nat → Nat) (cI cB cJ cZ : ClassId) (a : Nat → Nat) (n : Nat) (x1 : Int32) (t : St) {z : Int32 × St} (h : m_Parser_canStand n x1 t = some z) : jMi l y_Parser_canStand w_Parser_canStand ({ frames := 2, cells := 0, slots := 0, locals := 44 }) (dC, dI) vwCl (tyA cI cB cJ cZ) [.ref (a 11), .int x1] (wO cI cB cJ cZ a t) z.1 (fun _ : Unit => wO cI cB cJ cZ a z.2) := by
  refine jMi.of (cc := c_Parser_canStand) (maxL := 2) (ret := (some .boolean)) (by decide) rfl (Nat.le_of_ble_eq_true rfl) ?_
  intro p e s m args below meth c A X hr hlk hnm
  have L32 : ∀  (t : St), m_Parser_canStand_32 n   t = some z → J p l e { frames := 2, cells := 0, slots := 0, locals := 44 } s m args below meth c 2 (dC, dI) vwCl A (MQ below (jQi (dC, dI) vwCl (tyA cI cB cJ cZ) z.1 (fun _ : Unit => wO cI cB cJ cZ a z.2) A) args s 0 0 A) 0 0 32 [] [] (wO cI cB cJ cZ a t) := by
    intro  t h
    unfold m_Parser_canStand_32 at h
    refine J_iconst (v := (0 : Int32)) X d_Parser_canStand_32 (by decide) ?_
    exact J_zret X hr hlk () rfl (Nat.le_of_ble_eq_true rfl) (Nat.le_of_ble_eq_true rfl) (j_r1 h) (congrArg (fun q => wO cI cB cJ cZ a q) (j_r2 h)) d_Parser_canStand_33
  have L14 : ∀ (x1 : Int32) (t : St), m_Parser_canStand_14 n  x1 t = some z → J p l e { frames := 2, cells := 0, slots := 0, locals := 44 } s m args below meth c 2 (dC, dI) vwCl A (MQ below (jQi (dC, dI) vwCl (tyA cI cB cJ cZ) z.1 (fun _ : Unit => wO cI cB cJ cZ a z.2) A) args s 0 0 A) 0 0 14 [(0, .ref (a 11)), (1, .int x1)] [] (wO cI cB cJ cZ a t) := by
    intro x1 t h
    unfold m_Parser_canStand_14 at h
    refine J_aload_n X d_Parser_canStand_14 0 rfl rfl ?_
    refine J_get (v := .int (t.1 12)) X (fun w h => mm (in_Parser w h)) 11 rfl rfl 8 (by decide) (mm k_fl_Parser_36) rfl rfl d_Parser_canStand_15 ?_
    refine J_if_eq X 32 d_Parser_canStand_18 (by decide) (fun c18 => ?_) (fun c18 => ?_)
    · rw [if_pos c18] at h
      refine J_lv [] [] rfl ?_
      exact L32  t h
    · rw [if_neg c18] at h
      refine J_iload_n X d_Parser_canStand_21 1 rfl rfl ?_
      refine J_sipush (v := (220 : Int32)) X d_Parser_canStand_22 (by decide) ?_
      refine J_icmp_ne X 32 d_Parser_canStand_25 (by decide) (fun c25 => ?_) (fun c25 => ?_)
      · rw [if_neg c25] at h
        refine J_lv [] [] rfl ?_
        exact L32  t h
      · rw [if_pos c25] at h
        refine J_iconst (v := (1 : Int32)) X d_Parser_canStand_28 (by decide) ?_
        refine J_goto X 33 d_Parser_canStand_29 (by decide) ?_
        exact J_zret X hr hlk () rfl (Nat.le_of_ble_eq_true rfl) (Nat.le_of_ble_eq_true rfl) (j_r1 h) (congrArg (fun q => wO cI cB cJ cZ a q) (j_r2 h)) d_Parser_canStand_33
  have L158 : ∀  (t : St), m_Parser_canStand_158 n   t = some z → J p l e { frames := 2, cells := 0, slots := 0, locals := 44 } s m args below meth c 2 (dC, dI) vwCl A (MQ below (jQi (dC, dI) vwCl (tyA cI cB cJ cZ) z.1 (fun _ : Unit => wO cI cB cJ cZ a z.2) A) args s 0 0 A) 0 0 158 [] [] (wO cI cB cJ cZ a t) := by
    intro  t h
    unfold m_Parser_canStand_158 at h
    refine J_iconst (v := (0 : Int32)) X d_Parser_canStand_158 (by decide) ?_
    exact J_zret X hr hlk () rfl (Nat.le_of_ble_eq_true rfl) (Nat.le_of_ble_eq_true rfl) (j_r1 h) (congrArg (fun q => wO cI cB cJ cZ a q) (j_r2 h)) d_Parser_canStand_159
  refine J_lv [0, 1] [(0, .ref (a 11)), (1, .int x1)] rfl ?_
  unfold m_Parser_canStand at h
  refine J_aload_n X d_Parser_canStand_0 0 rfl rfl ?_
  refine J_get (v := .int (t.1 12)) X (fun w h => mm (in_Parser w h)) 11 rfl rfl 8 (by decide) (mm k_fl_Parser_36) rfl rfl d_Parser_canStand_1 ?_
  refine J_if_ne X 14 d_Parser_canStand_4 (by decide) (fun c4 => ?_) (fun c4 => ?_)
  · rw [if_neg c4] at h
    refine J_lv [0, 1] [(0, .ref (a 11)), (1, .int x1)] rfl ?_
    exact L14  x1 t h
  · rw [if_pos c4] at h
    refine J_iload_n X d_Parser_canStand_7 1 rfl rfl ?_
    refine J_sipush (v := (220 : Int32)) X d_Parser_canStand_8 (by decide) ?_
    refine J_icmp_ne X 34 d_Parser_canStand_11 (by decide) (fun c11 => ?_) (fun c11 => ?_)
    · rw [if_neg c11] at h
      refine J_iload_n X d_Parser_canStand_34 1 rfl rfl ?_
      by_cases c35_192 : x1 = (192 : Int32)
      · rw [if_pos c35_192] at h
        refine J_lookup X 102 d_Parser_canStand_35 (by decide) (by rw [c35_192] <;> rfl) (by decide) ?_
        refine J_aload_n X d_Parser_canStand_102 0 rfl rfl ?_
        refine J_get (v := .ref (a 3)) X (fun w h => mm (in_Parser w h)) 11 rfl rfl 1 (by decide) (mm k_fl_Parser_50) rfl rfl d_Parser_canStand_103 ?_
        refine J_getN (v := .int (t.1 1)) X (fun w h => mm (in_Picture w h)) 3 rfl rfl 6 (by decide) k_fln_Parser_106 rfl rfl d_Parser_canStand_106 ?_
        refine J_iconst (v := (-1 : Int32)) X d_Parser_canStand_109 (by decide) ?_
        refine J_icmp_ne X 117 d_Parser_canStand_110 (by decide) (fun c110 => ?_) (fun c110 => ?_)
        · rw [if_neg c110] at h
          refine J_iconst (v := (0 : Int32)) X d_Parser_canStand_117 (by decide) ?_
          exact J_zret X hr hlk () rfl (Nat.le_of_ble_eq_true rfl) (Nat.le_of_ble_eq_true rfl) (j_r1 h) (congrArg (fun q => wO cI cB cJ cZ a q) (j_r2 h)) d_Parser_canStand_118
        · rw [if_pos c110] at h
          refine J_iconst (v := (1 : Int32)) X d_Parser_canStand_113 (by decide) ?_
          refine J_goto X 118 d_Parser_canStand_114 (by decide) ?_
          exact J_zret X hr hlk () rfl (Nat.le_of_ble_eq_true rfl) (Nat.le_of_ble_eq_true rfl) (j_r1 h) (congrArg (fun q => wO cI cB cJ cZ a q) (j_r2 h)) d_Parser_canStand_118
      rw [if_neg c35_192] at h
      by_cases c35_194 : x1 = (194 : Int32)
      · rw [if_pos c35_194] at h
        refine J_lookup X 102 d_Parser_canStand_35 (by decide) (by rw [c35_194] <;> rfl) (by decide) ?_
        refine J_aload_n X d_Parser_canStand_102 0 rfl rfl ?_
        refine J_get (v := .ref (a 3)) X (fun w h => mm (in_Parser w h)) 11 rfl rfl 1 (by decide) (mm k_fl_Parser_50) rfl rfl d_Parser_canStand_103 ?_
        refine J_getN (v := .int (t.1 1)) X (fun w h => mm (in_Picture w h)) 3 rfl rfl 6 (by decide) k_fln_Parser_106 rfl rfl d_Parser_canStand_106 ?_
        refine J_iconst (v := (-1 : Int32)) X d_Parser_canStand_109 (by decide) ?_
        refine J_icmp_ne X 117 d_Parser_canStand_110 (by decide) (fun c110 => ?_) (fun c110 => ?_)
        · rw [if_neg c110] at h
          refine J_iconst (v := (0 : Int32)) X d_Parser_canStand_117 (by decide) ?_
          exact J_zret X hr hlk () rfl (Nat.le_of_ble_eq_true rfl) (Nat.le_of_ble_eq_true rfl) (j_r1 h) (congrArg (fun q => wO cI cB cJ cZ a q) (j_r2 h)) d_Parser_canStand_118
        · rw [if_pos c110] at h
          refine J_iconst (v := (1 : Int32)) X d_Parser_canStand_113 (by decide) ?_
          refine J_goto X 118 d_Parser_canStand_114 (by decide) ?_
          exact J_zret X hr hlk () rfl (Nat.le_of_ble_eq_true rfl) (Nat.le_of_ble_eq_true rfl) (j_r1 h) (congrArg (fun q => wO cI cB cJ cZ a q) (j_r2 h)) d_Parser_canStand_118
      rw [if_neg c35_194] at h
      by_cases c35_196 : x1 = (196 : Int32)
      · rw [if_pos c35_196] at h
        refine J_lookup X 100 d_Parser_canStand_35 (by decide) (by rw [c35_196] <;> rfl) (by decide) ?_
        refine J_iconst (v := (1 : Int32)) X d_Parser_canStand_100 (by decide) ?_
        exact J_zret X hr hlk () rfl (Nat.le_of_ble_eq_true rfl) (Nat.le_of_ble_eq_true rfl) (j_r1 h) (congrArg (fun q => wO cI cB cJ cZ a q) (j_r2 h)) d_Parser_canStand_101
      rw [if_neg c35_196] at h
      by_cases c35_217 : x1 = (217 : Int32)
      · rw [if_pos c35_217] at h
        refine J_lookup X 136 d_Parser_canStand_35 (by decide) (by rw [c35_217] <;> rfl) (by decide) ?_
        refine J_aload_n X d_Parser_canStand_136 0 rfl rfl ?_
        refine J_get (v := .ref (a 3)) X (fun w h => mm (in_Parser w h)) 11 rfl rfl 1 (by decide) (mm k_fl_Parser_50) rfl rfl d_Parser_canStand_137 ?_
        refine J_getN (v := .int (t.1 1)) X (fun w h => mm (in_Picture w h)) 3 rfl rfl 6 (by decide) k_fln_Parser_106 rfl rfl d_Parser_canStand_140 ?_
        refine J_iconst (v := (-1 : Int32)) X d_Parser_canStand_143 (by decide) ?_
        refine J_icmp_eq X 158 d_Parser_canStand_144 (by decide) (fun c144 => ?_) (fun c144 => ?_)
        · rw [if_pos c144] at h
          refine J_lv [] [] rfl ?_
          exact L158  t h
        · rw [if_neg c144] at h
          refine J_aload_n X d_Parser_canStand_147 0 rfl rfl ?_
          obtain ⟨z148, hz148, h⟩ := j_bind h
          refine J_callVi0 (n := 0) (wc := (wO cI cB cJ cZ a t)) (r := z148.1) (w1 := fun _ : Unit => wO cI cB cJ cZ a z148.2) X isO (hCO cI cB cJ cZ a t) (hDO cI cB cJ cZ a t) rfl [] [] (ct_Parser_allBegun l dC dI cI cB cJ cZ a n t hz148) (aw_V (fun w h => mm h) k_ml_Parser_109 k_im_Parser_allBegun k_se_Parser_allBegun k_in_Parser k_cd_Parser_allBegun) rfl (by decide +kernel) ⟨(Nat.le_of_ble_eq_true rfl), (Nat.le_of_ble_eq_true rfl)⟩ (q0 := 11) rfl rfl rfl rfl (Nat.le_of_ble_eq_true rfl) d_Parser_canStand_148 ⟨(Nat.le_of_ble_eq_true rfl), (Nat.le_of_ble_eq_true rfl)⟩ (fun _ => ?_)
          refine J_if_eq X 158 d_Parser_canStand_151 (by decide) (fun c151 => ?_) (fun c151 => ?_)
          · rw [if_pos c151] at h
            refine J_lv [] [] rfl ?_
            exact L158  z148.2 h
          · rw [if_neg c151] at h
            refine J_iconst (v := (1 : Int32)) X d_Parser_canStand_154 (by decide) ?_
            refine J_goto X 159 d_Parser_canStand_155 (by decide) ?_
            exact J_zret X hr hlk () rfl (Nat.le_of_ble_eq_true rfl) (Nat.le_of_ble_eq_true rfl) (j_r1 h) (congrArg (fun q => wO cI cB cJ cZ a q) (j_r2 h)) d_Parser_canStand_159
      rw [if_neg c35_217] at h
      by_cases c35_218 : x1 = (218 : Int32)
      · rw [if_pos c35_218] at h
        refine J_lookup X 119 d_Parser_canStand_35 (by decide) (by rw [c35_218] <;> rfl) (by decide) ?_
        refine J_aload_n X d_Parser_canStand_119 0 rfl rfl ?_
        refine J_get (v := .ref (a 3)) X (fun w h => mm (in_Parser w h)) 11 rfl rfl 1 (by decide) (mm k_fl_Parser_50) rfl rfl d_Parser_canStand_120 ?_
        refine J_getN (v := .int (t.1 1)) X (fun w h => mm (in_Picture w h)) 3 rfl rfl 6 (by decide) k_fln_Parser_106 rfl rfl d_Parser_canStand_123 ?_
        refine J_iconst (v := (-1 : Int32)) X d_Parser_canStand_126 (by decide) ?_
        refine J_icmp_eq X 134 d_Parser_canStand_127 (by decide) (fun c127 => ?_) (fun c127 => ?_)
        · rw [if_pos c127] at h
          refine J_iconst (v := (0 : Int32)) X d_Parser_canStand_134 (by decide) ?_
          exact J_zret X hr hlk () rfl (Nat.le_of_ble_eq_true rfl) (Nat.le_of_ble_eq_true rfl) (j_r1 h) (congrArg (fun q => wO cI cB cJ cZ a q) (j_r2 h)) d_Parser_canStand_135
        · rw [if_neg c127] at h
          refine J_iconst (v := (1 : Int32)) X d_Parser_canStand_130 (by decide) ?_
          refine J_goto X 135 d_Parser_canStand_131 (by decide) ?_
          exact J_zret X hr hlk () rfl (Nat.le_of_ble_eq_true rfl) (Nat.le_of_ble_eq_true rfl) (j_r1 h) (congrArg (fun q => wO cI cB cJ cZ a q) (j_r2 h)) d_Parser_canStand_135
      rw [if_neg c35_218] at h
      by_cases c35_219 : x1 = (219 : Int32)
      · rw [if_pos c35_219] at h
        refine J_lookup X 100 d_Parser_canStand_35 (by decide) (by rw [c35_219] <;> rfl) (by decide) ?_
        refine J_iconst (v := (1 : Int32)) X d_Parser_canStand_100 (by decide) ?_
        exact J_zret X hr hlk () rfl (Nat.le_of_ble_eq_true rfl) (Nat.le_of_ble_eq_true rfl) (j_r1 h) (congrArg (fun q => wO cI cB cJ cZ a q) (j_r2 h)) d_Parser_canStand_101
      rw [if_neg c35_219] at h
      by_cases c35_221 : x1 = (221 : Int32)
      · rw [if_pos c35_221] at h
        refine J_lookup X 100 d_Parser_canStand_35 (by decide) (by rw [c35_221] <;> rfl) (by decide) ?_
        refine J_iconst (v := (1 : Int32)) X d_Parser_canStand_100 (by decide) ?_
        exact J_zret X hr hlk () rfl (Nat.le_of_ble_eq_true rfl) (Nat.le_of_ble_eq_true rfl) (j_r1 h) (congrArg (fun q => wO cI cB cJ cZ a q) (j_r2 h)) d_Parser_canStand_101
      rw [if_neg c35_221] at h
      refine J_lookup (off := 125) X 160 d_Parser_canStand_35 (by decide) (by simp only [List.toList_toArray]; rw [lv_osw (a := 192) c35_192 rfl, lv_osw (a := 194) c35_194 rfl, lv_osw (a := 196) c35_196 rfl, lv_osw (a := 217) c35_217 rfl, lv_osw (a := 218) c35_218 rfl, lv_osw (a := 219) c35_219 rfl, lv_osw (a := 221) c35_221 rfl] <;> rfl) (by decide) ?_
      refine J_aload_n X d_Parser_canStand_160 0 rfl rfl ?_
      refine J_iload_n X d_Parser_canStand_161 1 rfl rfl ?_
      obtain ⟨z162, hz162, h⟩ := j_bind h
      refine J_callVi0 (n := 1) (wc := (wO cI cB cJ cZ a t)) (r := z162.1) (w1 := fun _ : Unit => wO cI cB cJ cZ a z162.2) X isO (hCO cI cB cJ cZ a t) (hDO cI cB cJ cZ a t) rfl [.int x1] [] (ct_Parser_isFree l dC dI cI cB cJ cZ a n x1 t hz162) (aw_V (fun w h => mm h) k_ml_Parser_113 k_im_Parser_isFree k_se_Parser_isFree k_in_Parser k_cd_Parser_isFree) rfl (by decide +kernel) ⟨(Nat.le_of_ble_eq_true rfl), (Nat.le_of_ble_eq_true rfl)⟩ (q0 := 11) rfl rfl rfl rfl (Nat.le_of_ble_eq_true rfl) d_Parser_canStand_162 ⟨(Nat.le_of_ble_eq_true rfl), (Nat.le_of_ble_eq_true rfl)⟩ (fun _ => ?_)
      obtain ⟨b165, h⟩ := j_ifn h
      exact J_zret X hr hlk () (j_nz b165) (Nat.le_of_ble_eq_true rfl) (Nat.le_of_ble_eq_true rfl) (j_r1 h) (congrArg (fun q => wO cI cB cJ cZ a q) (j_r2 h)) d_Parser_canStand_165
    · rw [if_pos c11] at h
      refine J_lv [0, 1] [(0, .ref (a 11)), (1, .int x1)] rfl ?_
      exact L14  x1 t h

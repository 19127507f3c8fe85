set_option maxHeartbeats 4000000 in
set_option maxRecDepth 100000 in
theorem ct_Model_readFrame (l : Launch) (dC : Nat → ClassId) (dI : Nat → Nat → Nat) (cI cB cJ cZ : ClassId) (a : Nat → Nat) (n : Nat) (x1 : Int32) (t : St) {z : St} (h : m_Model_readFrame n x1 t = some z) : jMv l y_Model_readFrame w_Model_readFrame ({ frames := 3, cells := 0, slots := 0, locals := 63 }) (dC, dI) vwCl (tyA cI cB cJ cZ) [.ref (a 0), .int x1] (wM cI cB cJ cZ a t) (fun _ : Unit => wM cI cB cJ cZ a z) := by
  refine jMv.of (cc := c_Model_readFrame) (maxL := 6) (ret := none) (by decide) rfl (Nat.le_of_ble_eq_true rfl) ?_
  intro p e s m args below meth c A X hr hlk hnm
  have L345 : ∀ (x1 : Int32) (x2 : Int32) (t : St), m_Model_readFrame_345 n  x1 x2 t = some z → J p l e { frames := 3, cells := 0, slots := 0, locals := 63 } s m args below meth c 6 (dC, dI) vwCl A (MQ below (jQv (dC, dI) vwCl (tyA cI cB cJ cZ) (fun _ : Unit => wM cI cB cJ cZ a z) A) args s 0 0 A) 0 0 345 [(0, .ref (a 0)), (1, .int x1), (2, .int x2)] [] (wM cI cB cJ cZ a t) := by
    intro x1 x2 t h
    unfold m_Model_readFrame_345 at h
    refine J_aload_n X d_Model_readFrame_345 0 rfl rfl ?_
    refine J_iload_n X d_Model_readFrame_346 2 rfl rfl ?_
    refine J_put (ty := .int) (v := .int x2) X (fun w h => mm (in_Model w h)) ty_Model tyk_Model nm_Model 0 rfl rfl 14 (by decide) (mm k_fl_Model_95) rfl rfl (by decide +kernel) rfl rfl (Nat.le_of_ble_eq_true rfl) d_Model_readFrame_347 (wM cI cB cJ cZ a (sG t 12 x2)) rfl ?_
    refine J_aload_n X d_Model_readFrame_350 0 rfl rfl ?_
    refine J_iload_n X d_Model_readFrame_351 1 rfl rfl ?_
    refine J_put (ty := .int) (v := .int x1) X (fun w h => mm (in_Model w h)) ty_Model tyk_Model nm_Model 0 rfl rfl 11 (by decide) (mm k_fl_Model_86) rfl rfl (by decide +kernel) rfl rfl (Nat.le_of_ble_eq_true rfl) d_Model_readFrame_352 (wM cI cB cJ cZ a (sG (sG t 12 x2) 9 x1)) rfl ?_
    exact J_vret X hr hlk () (Nat.le_of_ble_eq_true rfl) (Nat.le_of_ble_eq_true rfl) (congrArg (fun q => wM cI cB cJ cZ a q) (j_s h)) d_Model_readFrame_355
  have L336 : ∀ (K130 : Int32 → Int32 → Int32 → St → Option (St)) (hK130 : ∀ (x1 : Int32) (x2 : Int32) (x3 : Int32) (t : St), K130 x1 x2 x3 t = some z → J p l e { frames := 3, cells := 0, slots := 0, locals := 63 } s m args below meth c 6 (dC, dI) vwCl A (MQ below (jQv (dC, dI) vwCl (tyA cI cB cJ cZ) (fun _ : Unit => wM cI cB cJ cZ a z) A) args s 0 0 A) 0 0 130 [(0, .ref (a 0)), (1, .int x1), (2, .int x2), (3, .int x3)] [] (wM cI cB cJ cZ a t)) (x1 : Int32) (x2 : Int32) (x3 : Int32) (y1 : Int32) (t : St), m_Model_readFrame_336 n K130 x1 x2 x3 y1 t = some z → J p l e { frames := 3, cells := 0, slots := 0, locals := 63 } s m args below meth c 6 (dC, dI) vwCl A (MQ below (jQv (dC, dI) vwCl (tyA cI cB cJ cZ) (fun _ : Unit => wM cI cB cJ cZ a z) A) args s 0 0 A) 0 0 336 [(0, .ref (a 0)), (1, .int x1), (2, .int x2), (3, .int x3)] [.int y1, .ref (a 0)] (wM cI cB cJ cZ a t) := by
    intro K130 hK130 x1 x2 x3 y1 t h
    unfold m_Model_readFrame_336 at h
    obtain ⟨z336, hz336, h⟩ := j_bind h
    refine J_callVv0 (n := 1) (wc := (wM cI cB cJ cZ a t)) (w1 := fun _ : Unit => wM cI cB cJ cZ a z336) X isM (hCM cI cB cJ cZ a t) (hDM cI cB cJ cZ a t) rfl [.int y1] [] (ct_Model_must l dC dI cI cB cJ cZ a n y1 t hz336) (aw_V (fun w h => mm h) k_ml_Model_140 k_im_Model_must k_se_Model_must k_in_Model k_cd_Model_must) rfl (by decide +kernel) ⟨(Nat.le_of_ble_eq_true rfl), (Nat.le_of_ble_eq_true rfl)⟩ (q0 := 0) rfl rfl rfl rfl (Nat.le_of_ble_eq_true rfl) d_Model_readFrame_336 ⟨(Nat.le_of_ble_eq_true rfl), (Nat.le_of_ble_eq_true rfl)⟩ (fun _ => ?_)
    refine J_iinc (v := (x3 + 1)) X [(3, .int (x3 + 1)), (0, .ref (a 0)), (1, .int x1), (2, .int x2)] d_Model_readFrame_339 3 rfl rfl (by decide) rfl ?_
    refine J_goto X 130 d_Model_readFrame_342 (by decide) ?_
    refine J_lv [1, 2, 3, 0] [(0, .ref (a 0)), (1, .int x1), (2, .int x2), (3, .int (x3 + 1))] rfl ?_
    exact hK130 x1 x2 (x3 + 1) z336 h
  have L331 : ∀ (K130 : Int32 → Int32 → Int32 → St → Option (St)) (hK130 : ∀ (x1 : Int32) (x2 : Int32) (x3 : Int32) (t : St), K130 x1 x2 x3 t = some z → J p l e { frames := 3, cells := 0, slots := 0, locals := 63 } s m args below meth c 6 (dC, dI) vwCl A (MQ below (jQv (dC, dI) vwCl (tyA cI cB cJ cZ) (fun _ : Unit => wM cI cB cJ cZ a z) A) args s 0 0 A) 0 0 130 [(0, .ref (a 0)), (1, .int x1), (2, .int x2), (3, .int x3)] [] (wM cI cB cJ cZ a t)) (x1 : Int32) (x2 : Int32) (x3 : Int32) (t : St), m_Model_readFrame_331 n K130 x1 x2 x3 t = some z → J p l e { frames := 3, cells := 0, slots := 0, locals := 63 } s m args below meth c 6 (dC, dI) vwCl A (MQ below (jQv (dC, dI) vwCl (tyA cI cB cJ cZ) (fun _ : Unit => wM cI cB cJ cZ a z) A) args s 0 0 A) 0 0 331 [(0, .ref (a 0)), (1, .int x1), (2, .int x2), (3, .int x3)] [.ref (a 0)] (wM cI cB cJ cZ a t) := by
    intro K130 hK130 x1 x2 x3 t h
    unfold m_Model_readFrame_331 at h
    refine J_iconst (v := (1 : Int32)) X d_Model_readFrame_331 (by decide) ?_
    refine J_goto X 336 d_Model_readFrame_332 (by decide) ?_
    refine J_lv [0, 1, 2, 3] [(0, .ref (a 0)), (1, .int x1), (2, .int x2), (3, .int x3)] rfl ?_
    exact L336 K130 hK130 x1 x2 x3 (1 : Int32) t h
  have L300 : ∀ (K130 : Int32 → Int32 → Int32 → St → Option (St)) (hK130 : ∀ (x1 : Int32) (x2 : Int32) (x3 : Int32) (t : St), K130 x1 x2 x3 t = some z → J p l e { frames := 3, cells := 0, slots := 0, locals := 63 } s m args below meth c 6 (dC, dI) vwCl A (MQ below (jQv (dC, dI) vwCl (tyA cI cB cJ cZ) (fun _ : Unit => wM cI cB cJ cZ a z) A) args s 0 0 A) 0 0 130 [(0, .ref (a 0)), (1, .int x1), (2, .int x2), (3, .int x3)] [] (wM cI cB cJ cZ a t)) (x1 : Int32) (x2 : Int32) (x3 : Int32) (y1 : Int32) (t : St), m_Model_readFrame_300 n K130 x1 x2 x3 y1 t = some z → J p l e { frames := 3, cells := 0, slots := 0, locals := 63 } s m args below meth c 6 (dC, dI) vwCl A (MQ below (jQv (dC, dI) vwCl (tyA cI cB cJ cZ) (fun _ : Unit => wM cI cB cJ cZ a z) A) args s 0 0 A) 0 0 300 [(0, .ref (a 0)), (1, .int x1), (2, .int x2), (3, .int x3)] [.int y1, .ref (a 0)] (wM cI cB cJ cZ a t) := by
    intro K130 hK130 x1 x2 x3 y1 t h
    unfold m_Model_readFrame_300 at h
    obtain ⟨z300, hz300, h⟩ := j_bind h
    refine J_callVv0 (n := 1) (wc := (wM cI cB cJ cZ a t)) (w1 := fun _ : Unit => wM cI cB cJ cZ a z300) X isM (hCM cI cB cJ cZ a t) (hDM cI cB cJ cZ a t) rfl [.int y1] [] (ct_Model_must l dC dI cI cB cJ cZ a n y1 t hz300) (aw_V (fun w h => mm h) k_ml_Model_140 k_im_Model_must k_se_Model_must k_in_Model k_cd_Model_must) rfl (by decide +kernel) ⟨(Nat.le_of_ble_eq_true rfl), (Nat.le_of_ble_eq_true rfl)⟩ (q0 := 0) rfl rfl rfl rfl (Nat.le_of_ble_eq_true rfl) d_Model_readFrame_300 ⟨(Nat.le_of_ble_eq_true rfl), (Nat.le_of_ble_eq_true rfl)⟩ (fun _ => ?_)
    refine J_aload_n X d_Model_readFrame_303 0 rfl rfl ?_
    refine J_get (v := .ref (a 6)) X (fun w h => mm (in_Model w h)) 0 rfl rfl 18 (by decide) (mm k_fl_Model_30) rfl rfl d_Model_readFrame_304 ?_
    refine J_iload_n X d_Model_readFrame_307 3 rfl rfl ?_
    refine J_aload_n X d_Model_readFrame_308 0 rfl rfl ?_
    obtain ⟨z309, hz309, h⟩ := j_bind h
    refine J_callVi0 (n := 0) (wc := (wM cI cB cJ cZ a z300)) (r := z309.1) (w1 := fun _ : Unit => wM cI cB cJ cZ a z309.2) X isM (hCM cI cB cJ cZ a z300) (hDM cI cB cJ cZ a z300) rfl [] [.int x3, .ref (a 6)] (ct_Model_next l dC dI cI cB cJ cZ a n z300 hz309) (aw_V (fun w h => mm h) k_ml_Model_128 k_im_Model_next k_se_Model_next k_in_Model k_cd_Model_next) rfl (by decide +kernel) ⟨(Nat.le_of_ble_eq_true rfl), (Nat.le_of_ble_eq_true rfl)⟩ (q0 := 0) rfl rfl rfl rfl (Nat.le_of_ble_eq_true rfl) d_Model_readFrame_309 ⟨(Nat.le_of_ble_eq_true rfl), (Nat.le_of_ble_eq_true rfl)⟩ (fun _ => ?_)
    obtain ⟨b312, h⟩ := j_ifn h
    refine J_iast (f := (z309.2.2.1 5)) X 6 0 rfl rfl b312 d_Model_readFrame_312 (wM cI cB cJ cZ a (sH z309.2 5 (x3).toNatClampNeg z309.1)) rfl ?_
    refine J_aload_n X d_Model_readFrame_313 0 rfl rfl ?_
    refine J_aload_n X d_Model_readFrame_314 0 rfl rfl ?_
    refine J_get (v := .int (z309.2.1 2)) X (fun w h => mm (in_Model w h)) 0 rfl rfl 3 (by decide) (mm k_fl_Model_107) rfl rfl d_Model_readFrame_315 ?_
    refine J_if_gt X 331 d_Model_readFrame_318 (by decide) (fun c318 => ?_) (fun c318 => ?_)
    · rw [if_pos c318] at h
      refine J_lv [0, 1, 2, 3] [(0, .ref (a 0)), (1, .int x1), (2, .int x2), (3, .int x3)] rfl ?_
      exact L331 K130 hK130 x1 x2 x3 (sH z309.2 5 (x3).toNatClampNeg z309.1) h
    · rw [if_neg c318] at h
      refine J_aload_n X d_Model_readFrame_321 0 rfl rfl ?_
      refine J_get (v := .ref (a 6)) X (fun w h => mm (in_Model w h)) 0 rfl rfl 18 (by decide) (mm k_fl_Model_30) rfl rfl d_Model_readFrame_322 ?_
      refine J_iload_n X d_Model_readFrame_325 3 rfl rfl ?_
      obtain ⟨b326, h⟩ := j_ifn h
      refine J_iald (f := ((sH z309.2 5 (x3).toNatClampNeg z309.1).2.1 5)) X 6 0 rfl rfl b326 d_Model_readFrame_326 ?_
      refine J_iconst (v := (4 : Int32)) X d_Model_readFrame_327 (by decide) ?_
      refine J_icmp_ge X 335 d_Model_readFrame_328 (by decide) (fun c328 => ?_) (fun c328 => ?_)
      · rw [if_pos c328] at h
        refine J_iconst (v := (0 : Int32)) X d_Model_readFrame_335 (by decide) ?_
        refine J_lv [0, 1, 2, 3] [(0, .ref (a 0)), (1, .int x1), (2, .int x2), (3, .int x3)] rfl ?_
        exact L336 K130 hK130 x1 x2 x3 (0 : Int32) (sH z309.2 5 (x3).toNatClampNeg z309.1) h
      · rw [if_neg c328] at h
        refine J_lv [0, 1, 2, 3] [(0, .ref (a 0)), (1, .int x1), (2, .int x2), (3, .int x3)] rfl ?_
        exact L331 K130 hK130 x1 x2 x3 (sH z309.2 5 (x3).toNatClampNeg z309.1) h
  have L295 : ∀ (K130 : Int32 → Int32 → Int32 → St → Option (St)) (hK130 : ∀ (x1 : Int32) (x2 : Int32) (x3 : Int32) (t : St), K130 x1 x2 x3 t = some z → J p l e { frames := 3, cells := 0, slots := 0, locals := 63 } s m args below meth c 6 (dC, dI) vwCl A (MQ below (jQv (dC, dI) vwCl (tyA cI cB cJ cZ) (fun _ : Unit => wM cI cB cJ cZ a z) A) args s 0 0 A) 0 0 130 [(0, .ref (a 0)), (1, .int x1), (2, .int x2), (3, .int x3)] [] (wM cI cB cJ cZ a t)) (x1 : Int32) (x2 : Int32) (x3 : Int32) (t : St), m_Model_readFrame_295 n K130 x1 x2 x3 t = some z → J p l e { frames := 3, cells := 0, slots := 0, locals := 63 } s m args below meth c 6 (dC, dI) vwCl A (MQ below (jQv (dC, dI) vwCl (tyA cI cB cJ cZ) (fun _ : Unit => wM cI cB cJ cZ a z) A) args s 0 0 A) 0 0 295 [(0, .ref (a 0)), (1, .int x1), (2, .int x2), (3, .int x3)] [.ref (a 0)] (wM cI cB cJ cZ a t) := by
    intro K130 hK130 x1 x2 x3 t h
    unfold m_Model_readFrame_295 at h
    refine J_iconst (v := (1 : Int32)) X d_Model_readFrame_295 (by decide) ?_
    refine J_goto X 300 d_Model_readFrame_296 (by decide) ?_
    refine J_lv [0, 1, 2, 3] [(0, .ref (a 0)), (1, .int x1), (2, .int x2), (3, .int x3)] rfl ?_
    exact L300 K130 hK130 x1 x2 x3 (1 : Int32) t h
  have L299 : ∀ (K130 : Int32 → Int32 → Int32 → St → Option (St)) (hK130 : ∀ (x1 : Int32) (x2 : Int32) (x3 : Int32) (t : St), K130 x1 x2 x3 t = some z → J p l e { frames := 3, cells := 0, slots := 0, locals := 63 } s m args below meth c 6 (dC, dI) vwCl A (MQ below (jQv (dC, dI) vwCl (tyA cI cB cJ cZ) (fun _ : Unit => wM cI cB cJ cZ a z) A) args s 0 0 A) 0 0 130 [(0, .ref (a 0)), (1, .int x1), (2, .int x2), (3, .int x3)] [] (wM cI cB cJ cZ a t)) (x1 : Int32) (x2 : Int32) (x3 : Int32) (t : St), m_Model_readFrame_299 n K130 x1 x2 x3 t = some z → J p l e { frames := 3, cells := 0, slots := 0, locals := 63 } s m args below meth c 6 (dC, dI) vwCl A (MQ below (jQv (dC, dI) vwCl (tyA cI cB cJ cZ) (fun _ : Unit => wM cI cB cJ cZ a z) A) args s 0 0 A) 0 0 299 [(0, .ref (a 0)), (1, .int x1), (2, .int x2), (3, .int x3)] [.ref (a 0)] (wM cI cB cJ cZ a t) := by
    intro K130 hK130 x1 x2 x3 t h
    unfold m_Model_readFrame_299 at h
    refine J_iconst (v := (0 : Int32)) X d_Model_readFrame_299 (by decide) ?_
    refine J_lv [0, 1, 2, 3] [(0, .ref (a 0)), (1, .int x1), (2, .int x2), (3, .int x3)] rfl ?_
    exact L300 K130 hK130 x1 x2 x3 (0 : Int32) t h
  have L216 : ∀ (K130 : Int32 → Int32 → Int32 → St → Option (St)) (hK130 : ∀ (x1 : Int32) (x2 : Int32) (x3 : Int32) (t : St), K130 x1 x2 x3 t = some z → J p l e { frames := 3, cells := 0, slots := 0, locals := 63 } s m args below meth c 6 (dC, dI) vwCl A (MQ below (jQv (dC, dI) vwCl (tyA cI cB cJ cZ) (fun _ : Unit => wM cI cB cJ cZ a z) A) args s 0 0 A) 0 0 130 [(0, .ref (a 0)), (1, .int x1), (2, .int x2), (3, .int x3)] [] (wM cI cB cJ cZ a t)) (x1 : Int32) (x2 : Int32) (x3 : Int32) (y1 : Int32) (t : St), m_Model_readFrame_216 n K130 x1 x2 x3 y1 t = some z → J p l e { frames := 3, cells := 0, slots := 0, locals := 63 } s m args below meth c 6 (dC, dI) vwCl A (MQ below (jQv (dC, dI) vwCl (tyA cI cB cJ cZ) (fun _ : Unit => wM cI cB cJ cZ a z) A) args s 0 0 A) 0 0 216 [(0, .ref (a 0)), (1, .int x1), (2, .int x2), (3, .int x3)] [.int y1, .ref (a 0)] (wM cI cB cJ cZ a t) := by
    intro K130 hK130 x1 x2 x3 y1 t h
    unfold m_Model_readFrame_216 at h
    obtain ⟨z216, hz216, h⟩ := j_bind h
    refine J_callVv0 (n := 1) (wc := (wM cI cB cJ cZ a t)) (w1 := fun _ : Unit => wM cI cB cJ cZ a z216) X isM (hCM cI cB cJ cZ a t) (hDM cI cB cJ cZ a t) rfl [.int y1] [] (ct_Model_must l dC dI cI cB cJ cZ a n y1 t hz216) (aw_V (fun w h => mm h) k_ml_Model_140 k_im_Model_must k_se_Model_must k_in_Model k_cd_Model_must) rfl (by decide +kernel) ⟨(Nat.le_of_ble_eq_true rfl), (Nat.le_of_ble_eq_true rfl)⟩ (q0 := 0) rfl rfl rfl rfl (Nat.le_of_ble_eq_true rfl) d_Model_readFrame_216 ⟨(Nat.le_of_ble_eq_true rfl), (Nat.le_of_ble_eq_true rfl)⟩ (fun _ => ?_)
    refine J_aload_n X d_Model_readFrame_219 0 rfl rfl ?_
    obtain ⟨z220, hz220, h⟩ := j_bind h
    refine J_callVi0 (n := 0) (wc := (wM cI cB cJ cZ a z216)) (r := z220.1) (w1 := fun _ : Unit => wM cI cB cJ cZ a z220.2) X isM (hCM cI cB cJ cZ a z216) (hDM cI cB cJ cZ a z216) rfl [] [] (ct_Model_next l dC dI cI cB cJ cZ a n z216 hz220) (aw_V (fun w h => mm h) k_ml_Model_128 k_im_Model_next k_se_Model_next k_in_Model k_cd_Model_next) rfl (by decide +kernel) ⟨(Nat.le_of_ble_eq_true rfl), (Nat.le_of_ble_eq_true rfl)⟩ (q0 := 0) rfl rfl rfl rfl (Nat.le_of_ble_eq_true rfl) d_Model_readFrame_220 ⟨(Nat.le_of_ble_eq_true rfl), (Nat.le_of_ble_eq_true rfl)⟩ (fun _ => ?_)
    refine J_istore X [(5, .int z220.1), (0, .ref (a 0)), (1, .int x1), (2, .int x2), (3, .int x3)] d_Model_readFrame_223 (by decide) rfl ?_
    refine J_aload_n X d_Model_readFrame_225 1 rfl rfl ?_
    refine J_get (v := .ref (a 4)) X (fun w h => mm (in_Model w h)) 0 rfl rfl 16 (by decide) (mm k_fl_Model_24) rfl rfl d_Model_readFrame_226 ?_
    refine J_iload_n X d_Model_readFrame_229 4 rfl rfl ?_
    refine J_iload X d_Model_readFrame_230 0 rfl ?_
    refine J_bipush (v := (16 : Int32)) X d_Model_readFrame_232 (by decide) ?_
    refine J_idiv X d_Model_readFrame_234 (by decide) ?_
    obtain ⟨b235, h⟩ := j_ifn h
    refine J_iast (f := (z220.2.2.1 3)) X 4 0 rfl rfl b235 d_Model_readFrame_235 (wM cI cB cJ cZ a (sH z220.2 3 (x3).toNatClampNeg (z220.1 / (16 : Int32)))) rfl ?_
    refine J_aload_n X d_Model_readFrame_236 1 rfl rfl ?_
    refine J_get (v := .ref (a 5)) X (fun w h => mm (in_Model w h)) 0 rfl rfl 17 (by decide) (mm k_fl_Model_27) rfl rfl d_Model_readFrame_237 ?_
    refine J_iload_n X d_Model_readFrame_240 4 rfl rfl ?_
    refine J_iload X d_Model_readFrame_241 0 rfl ?_
    refine J_bipush (v := (16 : Int32)) X d_Model_readFrame_243 (by decide) ?_
    refine J_irem X d_Model_readFrame_245 (by decide) ?_
    obtain ⟨w246, hw246, h⟩ := j_bind h
    refine J_to _ _ (wM cI cB cJ cZ a w246) rfl rfl (congrArg (fun q => wM cI cB cJ cZ a q) (j_s hw246)) ?_
    obtain ⟨b246, h⟩ := j_ifn h
    refine J_iast (f := (w246.2.1 4)) X 5 0 rfl rfl b246 d_Model_readFrame_246 (wM cI cB cJ cZ a (sH w246 4 (x3).toNatClampNeg (z220.1 - z220.1 / (16 : Int32) * (16 : Int32)))) rfl ?_
    refine J_aload_n X d_Model_readFrame_247 1 rfl rfl ?_
    refine J_aload_n X d_Model_readFrame_248 1 rfl rfl ?_
    refine J_get (v := .int (w246.1 2)) X (fun w h => mm (in_Model w h)) 0 rfl rfl 3 (by decide) (mm k_fl_Model_107) rfl rfl d_Model_readFrame_249 ?_
    refine J_if_gt X 295 d_Model_readFrame_252 (by decide) (fun c252 => ?_) (fun c252 => ?_)
    · rw [if_pos c252] at h
      refine J_lv [1, 2, 3, 4] [(0, .ref (a 0)), (1, .int x1), (2, .int x2), (3, .int x3)] rfl ?_
      exact L295 K130 hK130 x1 x2 x3 (sH w246 4 (x3).toNatClampNeg (z220.1 - z220.1 / (16 : Int32) * (16 : Int32))) h
    · rw [if_neg c252] at h
      refine J_aload_n X d_Model_readFrame_255 1 rfl rfl ?_
      refine J_get (v := .ref (a 4)) X (fun w h => mm (in_Model w h)) 0 rfl rfl 16 (by decide) (mm k_fl_Model_24) rfl rfl d_Model_readFrame_256 ?_
      refine J_iload_n X d_Model_readFrame_259 4 rfl rfl ?_
      obtain ⟨b260, h⟩ := j_ifn h
      refine J_iald (f := (w246.2.1 3)) X 4 0 rfl rfl b260 d_Model_readFrame_260 ?_
      refine J_iconst (v := (1 : Int32)) X d_Model_readFrame_261 (by decide) ?_
      refine J_icmp_lt X 299 d_Model_readFrame_262 (by decide) (fun c262 => ?_) (fun c262 => ?_)
      · rw [if_pos c262] at h
        refine J_lv [1, 2, 3, 4] [(0, .ref (a 0)), (1, .int x1), (2, .int x2), (3, .int x3)] rfl ?_
        exact L299 K130 hK130 x1 x2 x3 (sH w246 4 (x3).toNatClampNeg (z220.1 - z220.1 / (16 : Int32) * (16 : Int32))) h
      · rw [if_neg c262] at h
        refine J_aload_n X d_Model_readFrame_265 1 rfl rfl ?_
        refine J_get (v := .ref (a 4)) X (fun w h => mm (in_Model w h)) 0 rfl rfl 16 (by decide) (mm k_fl_Model_24) rfl rfl d_Model_readFrame_266 ?_
        refine J_iload_n X d_Model_readFrame_269 4 rfl rfl ?_
        obtain ⟨b270, h⟩ := j_ifn h
        refine J_iald (f := (w246.2.1 3)) X 4 0 rfl rfl b270 d_Model_readFrame_270 ?_
        refine J_iconst (v := (2 : Int32)) X d_Model_readFrame_271 (by decide) ?_
        refine J_icmp_gt X 299 d_Model_readFrame_272 (by decide) (fun c272 => ?_) (fun c272 => ?_)
        · rw [if_pos c272] at h
          refine J_lv [1, 2, 3, 4] [(0, .ref (a 0)), (1, .int x1), (2, .int x2), (3, .int x3)] rfl ?_
          exact L299 K130 hK130 x1 x2 x3 (sH w246 4 (x3).toNatClampNeg (z220.1 - z220.1 / (16 : Int32) * (16 : Int32))) h
        · rw [if_neg c272] at h
          refine J_aload_n X d_Model_readFrame_275 1 rfl rfl ?_
          refine J_get (v := .ref (a 5)) X (fun w h => mm (in_Model w h)) 0 rfl rfl 17 (by decide) (mm k_fl_Model_27) rfl rfl d_Model_readFrame_276 ?_
          refine J_iload_n X d_Model_readFrame_279 4 rfl rfl ?_
          obtain ⟨b280, h⟩ := j_ifn h
          refine J_iald (f := ((sH w246 4 (x3).toNatClampNeg (z220.1 - z220.1 / (16 : Int32) * (16 : Int32))).2.1 4)) X 5 0 rfl rfl b280 d_Model_readFrame_280 ?_
          refine J_iconst (v := (1 : Int32)) X d_Model_readFrame_281 (by decide) ?_
          refine J_icmp_lt X 299 d_Model_readFrame_282 (by decide) (fun c282 => ?_) (fun c282 => ?_)
          · rw [if_pos c282] at h
            refine J_lv [1, 2, 3, 4] [(0, .ref (a 0)), (1, .int x1), (2, .int x2), (3, .int x3)] rfl ?_
            exact L299 K130 hK130 x1 x2 x3 (sH w246 4 (x3).toNatClampNeg (z220.1 - z220.1 / (16 : Int32) * (16 : Int32))) h
          · rw [if_neg c282] at h
            refine J_aload_n X d_Model_readFrame_285 1 rfl rfl ?_
            refine J_get (v := .ref (a 5)) X (fun w h => mm (in_Model w h)) 0 rfl rfl 17 (by decide) (mm k_fl_Model_27) rfl rfl d_Model_readFrame_286 ?_
            refine J_iload_n X d_Model_readFrame_289 4 rfl rfl ?_
            obtain ⟨b290, h⟩ := j_ifn h
            refine J_iald (f := ((sH w246 4 (x3).toNatClampNeg (z220.1 - z220.1 / (16 : Int32) * (16 : Int32))).2.1 4)) X 5 0 rfl rfl b290 d_Model_readFrame_290 ?_
            refine J_iconst (v := (2 : Int32)) X d_Model_readFrame_291 (by decide) ?_
            refine J_icmp_gt X 299 d_Model_readFrame_292 (by decide) (fun c292 => ?_) (fun c292 => ?_)
            · rw [if_pos c292] at h
              refine J_lv [1, 2, 3, 4] [(0, .ref (a 0)), (1, .int x1), (2, .int x2), (3, .int x3)] rfl ?_
              exact L299 K130 hK130 x1 x2 x3 (sH w246 4 (x3).toNatClampNeg (z220.1 - z220.1 / (16 : Int32) * (16 : Int32))) h
            · rw [if_neg c292] at h
              refine J_lv [1, 2, 3, 4] [(0, .ref (a 0)), (1, .int x1), (2, .int x2), (3, .int x3)] rfl ?_
              exact L295 K130 hK130 x1 x2 x3 (sH w246 4 (x3).toNatClampNeg (z220.1 - z220.1 / (16 : Int32) * (16 : Int32))) h
  have L211 : ∀ (K130 : Int32 → Int32 → Int32 → St → Option (St)) (hK130 : ∀ (x1 : Int32) (x2 : Int32) (x3 : Int32) (t : St), K130 x1 x2 x3 t = some z → J p l e { frames := 3, cells := 0, slots := 0, locals := 63 } s m args below meth c 6 (dC, dI) vwCl A (MQ below (jQv (dC, dI) vwCl (tyA cI cB cJ cZ) (fun _ : Unit => wM cI cB cJ cZ a z) A) args s 0 0 A) 0 0 130 [(0, .ref (a 0)), (1, .int x1), (2, .int x2), (3, .int x3)] [] (wM cI cB cJ cZ a t)) (x1 : Int32) (x2 : Int32) (x3 : Int32) (t : St), m_Model_readFrame_211 n K130 x1 x2 x3 t = some z → J p l e { frames := 3, cells := 0, slots := 0, locals := 63 } s m args below meth c 6 (dC, dI) vwCl A (MQ below (jQv (dC, dI) vwCl (tyA cI cB cJ cZ) (fun _ : Unit => wM cI cB cJ cZ a z) A) args s 0 0 A) 0 0 211 [(0, .ref (a 0)), (1, .int x1), (2, .int x2), (3, .int x3)] [.ref (a 0)] (wM cI cB cJ cZ a t) := by
    intro K130 hK130 x1 x2 x3 t h
    unfold m_Model_readFrame_211 at h
    refine J_iconst (v := (1 : Int32)) X d_Model_readFrame_211 (by decide) ?_
    refine J_goto X 216 d_Model_readFrame_212 (by decide) ?_
    refine J_lv [0, 1, 2, 3] [(0, .ref (a 0)), (1, .int x1), (2, .int x2), (3, .int x3)] rfl ?_
    exact L216 K130 hK130 x1 x2 x3 (1 : Int32) t h
  have L190 : ∀ (K130 : Int32 → Int32 → Int32 → St → Option (St)) (hK130 : ∀ (x1 : Int32) (x2 : Int32) (x3 : Int32) (t : St), K130 x1 x2 x3 t = some z → J p l e { frames := 3, cells := 0, slots := 0, locals := 63 } s m args below meth c 6 (dC, dI) vwCl A (MQ below (jQv (dC, dI) vwCl (tyA cI cB cJ cZ) (fun _ : Unit => wM cI cB cJ cZ a z) A) args s 0 0 A) 0 0 130 [(0, .ref (a 0)), (1, .int x1), (2, .int x2), (3, .int x3)] [] (wM cI cB cJ cZ a t)) (K158 : Int32 → Int32 → Int32 → Int32 → Int32 → St → Option (St)) (hK158 : ∀ (x1 : Int32) (x2 : Int32) (x3 : Int32) (x4 : Int32) (x5 : Int32) (t : St), K158 x1 x2 x3 x4 x5 t = some z → J p l e { frames := 3, cells := 0, slots := 0, locals := 63 } s m args below meth c 6 (dC, dI) vwCl A (MQ below (jQv (dC, dI) vwCl (tyA cI cB cJ cZ) (fun _ : Unit => wM cI cB cJ cZ a z) A) args s 0 0 A) 0 0 158 [(0, .ref (a 0)), (1, .int x1), (2, .int x2), (3, .int x3), (4, .int x4), (5, .int x5)] [] (wM cI cB cJ cZ a t)) (x1 : Int32) (x2 : Int32) (x3 : Int32) (x5 : Int32) (y0 : Int32) (t : St), m_Model_readFrame_190 n K130 K158 x1 x2 x3 x5 y0 t = some z → J p l e { frames := 3, cells := 0, slots := 0, locals := 63 } s m args below meth c 6 (dC, dI) vwCl A (MQ below (jQv (dC, dI) vwCl (tyA cI cB cJ cZ) (fun _ : Unit => wM cI cB cJ cZ a z) A) args s 0 0 A) 0 0 190 [(0, .ref (a 0)), (1, .int x1), (2, .int x2), (3, .int x3), (5, .int x5)] [.int y0] (wM cI cB cJ cZ a t) := by
    intro K130 hK130 K158 hK158 x1 x2 x3 x5 y0 t h
    unfold m_Model_readFrame_190 at h
    refine J_istore X [(4, .int y0), (0, .ref (a 0)), (1, .int x1), (2, .int x2), (3, .int x3), (5, .int x5)] d_Model_readFrame_190 (by decide) rfl ?_
    refine J_iinc (v := (x5 + 1)) X [(5, .int (x5 + 1)), (4, .int y0), (0, .ref (a 0)), (1, .int x1), (2, .int x2), (3, .int x3)] d_Model_readFrame_192 5 rfl rfl (by decide) rfl ?_
    refine J_goto X 158 d_Model_readFrame_195 (by decide) ?_
    refine J_lv [2, 3, 4, 5, 1, 0] [(0, .ref (a 0)), (1, .int x1), (2, .int x2), (3, .int x3), (4, .int y0), (5, .int (x5 + 1))] rfl ?_
    exact hK158 x1 x2 x3 y0 (x5 + 1) t h
  have L185 : ∀ (K130 : Int32 → Int32 → Int32 → St → Option (St)) (hK130 : ∀ (x1 : Int32) (x2 : Int32) (x3 : Int32) (t : St), K130 x1 x2 x3 t = some z → J p l e { frames := 3, cells := 0, slots := 0, locals := 63 } s m args below meth c 6 (dC, dI) vwCl A (MQ below (jQv (dC, dI) vwCl (tyA cI cB cJ cZ) (fun _ : Unit => wM cI cB cJ cZ a z) A) args s 0 0 A) 0 0 130 [(0, .ref (a 0)), (1, .int x1), (2, .int x2), (3, .int x3)] [] (wM cI cB cJ cZ a t)) (K158 : Int32 → Int32 → Int32 → Int32 → Int32 → St → Option (St)) (hK158 : ∀ (x1 : Int32) (x2 : Int32) (x3 : Int32) (x4 : Int32) (x5 : Int32) (t : St), K158 x1 x2 x3 x4 x5 t = some z → J p l e { frames := 3, cells := 0, slots := 0, locals := 63 } s m args below meth c 6 (dC, dI) vwCl A (MQ below (jQv (dC, dI) vwCl (tyA cI cB cJ cZ) (fun _ : Unit => wM cI cB cJ cZ a z) A) args s 0 0 A) 0 0 158 [(0, .ref (a 0)), (1, .int x1), (2, .int x2), (3, .int x3), (4, .int x4), (5, .int x5)] [] (wM cI cB cJ cZ a t)) (x1 : Int32) (x2 : Int32) (x3 : Int32) (x5 : Int32) (t : St), m_Model_readFrame_185 n K130 K158 x1 x2 x3 x5 t = some z → J p l e { frames := 3, cells := 0, slots := 0, locals := 63 } s m args below meth c 6 (dC, dI) vwCl A (MQ below (jQv (dC, dI) vwCl (tyA cI cB cJ cZ) (fun _ : Unit => wM cI cB cJ cZ a z) A) args s 0 0 A) 0 0 185 [(0, .ref (a 0)), (1, .int x1), (2, .int x2), (3, .int x3), (5, .int x5)] [] (wM cI cB cJ cZ a t) := by
    intro K130 hK130 K158 hK158 x1 x2 x3 x5 t h
    unfold m_Model_readFrame_185 at h
    refine J_iconst (v := (1 : Int32)) X d_Model_readFrame_185 (by decide) ?_
    refine J_goto X 190 d_Model_readFrame_186 (by decide) ?_
    refine J_lv [0, 1, 2, 3, 4] [(0, .ref (a 0)), (1, .int x1), (2, .int x2), (3, .int x3), (5, .int x5)] rfl ?_
    exact L190 K130 hK130 K158 hK158 x1 x2 x3 x5 (1 : Int32) t h
  have L158 : ∀ (K130 : Int32 → Int32 → Int32 → St → Option (St)) (hK130 : ∀ (x1 : Int32) (x2 : Int32) (x3 : Int32) (t : St), K130 x1 x2 x3 t = some z → J p l e { frames := 3, cells := 0, slots := 0, locals := 63 } s m args below meth c 6 (dC, dI) vwCl A (MQ below (jQv (dC, dI) vwCl (tyA cI cB cJ cZ) (fun _ : Unit => wM cI cB cJ cZ a z) A) args s 0 0 A) 0 0 130 [(0, .ref (a 0)), (1, .int x1), (2, .int x2), (3, .int x3)] [] (wM cI cB cJ cZ a t)) (k : Nat) (x1 : Int32) (x2 : Int32) (x3 : Int32) (x4 : Int32) (x5 : Int32) (t : St), m_Model_readFrame_158 n K130 k x1 x2 x3 x4 x5 t = some z → J p l e { frames := 3, cells := 0, slots := 0, locals := 63 } s m args below meth c 6 (dC, dI) vwCl A (MQ below (jQv (dC, dI) vwCl (tyA cI cB cJ cZ) (fun _ : Unit => wM cI cB cJ cZ a z) A) args s 0 0 A) 0 0 158 [(0, .ref (a 0)), (1, .int x1), (2, .int x2), (3, .int x3), (4, .int x4), (5, .int x5)] [] (wM cI cB cJ cZ a t) := by
    intro K130 hK130 k
    induction k with
    | zero => intro x1 x2 x3 x4 x5 t h; exact absurd (show none = some z from h) (by simp)
    | succ k ih =>
      intro x1 x2 x3 x4 x5 t h
      change m_Model_readFrame_158b n K130 (m_Model_readFrame_158 n K130 k) x1 x2 x3 x4 x5 t = some z at h
      unfold m_Model_readFrame_158b at h
      refine J_iload X d_Model_readFrame_158 5 rfl ?_
      refine J_iload_n X d_Model_readFrame_160 3 rfl rfl ?_
      refine J_icmp_ge X 198 d_Model_readFrame_161 (by decide) (fun c161 => ?_) (fun c161 => ?_)
      · rw [if_pos c161] at h
        refine J_aload_n X d_Model_readFrame_198 0 rfl rfl ?_
        refine J_aload_n X d_Model_readFrame_199 0 rfl rfl ?_
        refine J_get (v := .int (t.1 2)) X (fun w h => mm (in_Model w h)) 0 rfl rfl 3 (by decide) (mm k_fl_Model_107) rfl rfl d_Model_readFrame_200 ?_
        refine J_if_gt X 211 d_Model_readFrame_203 (by decide) (fun c203 => ?_) (fun c203 => ?_)
        · rw [if_pos c203] at h
          refine J_lv [0, 1, 2, 3] [(0, .ref (a 0)), (1, .int x1), (2, .int x2), (3, .int x3)] rfl ?_
          exact L211 K130 hK130 x1 x2 x3 t h
        · rw [if_neg c203] at h
          refine J_iload X d_Model_readFrame_206 4 rfl ?_
          refine J_if_ne X 215 d_Model_readFrame_208 (by decide) (fun c208 => ?_) (fun c208 => ?_)
          · rw [if_neg c208] at h
            refine J_iconst (v := (0 : Int32)) X d_Model_readFrame_215 (by decide) ?_
            refine J_lv [0, 1, 2, 3] [(0, .ref (a 0)), (1, .int x1), (2, .int x2), (3, .int x3)] rfl ?_
            exact L216 K130 hK130 x1 x2 x3 (0 : Int32) t h
          · rw [if_pos c208] at h
            refine J_lv [0, 1, 2, 3] [(0, .ref (a 0)), (1, .int x1), (2, .int x2), (3, .int x3)] rfl ?_
            exact L211 K130 hK130 x1 x2 x3 t h
      · rw [if_neg c161] at h
        refine J_iload X d_Model_readFrame_164 4 rfl ?_
        refine J_if_ne X 185 d_Model_readFrame_166 (by decide) (fun c166 => ?_) (fun c166 => ?_)
        · rw [if_neg c166] at h
          refine J_lv [0, 1, 2, 3, 5] [(0, .ref (a 0)), (1, .int x1), (2, .int x2), (3, .int x3), (5, .int x5)] rfl ?_
          exact L185 K130 hK130 (m_Model_readFrame_158 n K130 k) ih x1 x2 x3 x5 t h
        · rw [if_pos c166] at h
          refine J_aload_n X d_Model_readFrame_169 0 rfl rfl ?_
          refine J_get (v := .ref (a 3)) X (fun w h => mm (in_Model w h)) 0 rfl rfl 15 (by decide) (mm k_fl_Model_21) rfl rfl d_Model_readFrame_170 ?_
          refine J_iload X d_Model_readFrame_173 5 rfl ?_
          obtain ⟨b175, h⟩ := j_ifn h
          refine J_iald (f := (t.2.1 2)) X 3 0 rfl rfl b175 d_Model_readFrame_175 ?_
          refine J_aload_n X d_Model_readFrame_176 0 rfl rfl ?_
          refine J_get (v := .ref (a 3)) X (fun w h => mm (in_Model w h)) 0 rfl rfl 15 (by decide) (mm k_fl_Model_21) rfl rfl d_Model_readFrame_177 ?_
          refine J_iload_n X d_Model_readFrame_180 3 rfl rfl ?_
          obtain ⟨b181, h⟩ := j_ifn h
          refine J_iald (f := (t.2.1 2)) X 3 0 rfl rfl b181 d_Model_readFrame_181 ?_
          refine J_icmp_ne X 189 d_Model_readFrame_182 (by decide) (fun c182 => ?_) (fun c182 => ?_)
          · rw [if_neg c182] at h
            refine J_iconst (v := (0 : Int32)) X d_Model_readFrame_189 (by decide) ?_
            refine J_lv [0, 1, 2, 3, 5] [(0, .ref (a 0)), (1, .int x1), (2, .int x2), (3, .int x3), (5, .int x5)] rfl ?_
            exact L190 K130 hK130 (m_Model_readFrame_158 n K130 k) ih x1 x2 x3 x5 (0 : Int32) t h
          · rw [if_pos c182] at h
            refine J_lv [0, 1, 2, 3, 5] [(0, .ref (a 0)), (1, .int x1), (2, .int x2), (3, .int x3), (5, .int x5)] rfl ?_
            exact L185 K130 hK130 (m_Model_readFrame_158 n K130 k) ih x1 x2 x3 x5 t h
  have L130 : ∀ (k : Nat) (x1 : Int32) (x2 : Int32) (x3 : Int32) (t : St), m_Model_readFrame_130 n  k x1 x2 x3 t = some z → J p l e { frames := 3, cells := 0, slots := 0, locals := 63 } s m args below meth c 6 (dC, dI) vwCl A (MQ below (jQv (dC, dI) vwCl (tyA cI cB cJ cZ) (fun _ : Unit => wM cI cB cJ cZ a z) A) args s 0 0 A) 0 0 130 [(0, .ref (a 0)), (1, .int x1), (2, .int x2), (3, .int x3)] [] (wM cI cB cJ cZ a t) := by
    intro k
    induction k with
    | zero => intro x1 x2 x3 t h; exact absurd (show none = some z from h) (by simp)
    | succ k ih =>
      intro x1 x2 x3 t h
      change m_Model_readFrame_130b n  (m_Model_readFrame_130 n  k) x1 x2 x3 t = some z at h
      unfold m_Model_readFrame_130b at h
      refine J_iload_n X d_Model_readFrame_130 3 rfl rfl ?_
      refine J_iload_n X d_Model_readFrame_131 2 rfl rfl ?_
      refine J_icmp_ge X 345 d_Model_readFrame_132 (by decide) (fun c132 => ?_) (fun c132 => ?_)
      · rw [if_pos c132] at h
        refine J_lv [0, 1, 2] [(0, .ref (a 0)), (1, .int x1), (2, .int x2)] rfl ?_
        exact L345  x1 x2 t h
      · rw [if_neg c132] at h
        refine J_aload_n X d_Model_readFrame_135 0 rfl rfl ?_
        refine J_get (v := .int (t.1 2)) X (fun w h => mm (in_Model w h)) 0 rfl rfl 3 (by decide) (mm k_fl_Model_107) rfl rfl d_Model_readFrame_136 ?_
        refine J_if_ne X 345 d_Model_readFrame_139 (by decide) (fun c139 => ?_) (fun c139 => ?_)
        · rw [if_neg c139] at h
          refine J_lv [0, 1, 2] [(0, .ref (a 0)), (1, .int x1), (2, .int x2)] rfl ?_
          exact L345  x1 x2 t h
        · rw [if_pos c139] at h
          refine J_aload_n X d_Model_readFrame_142 0 rfl rfl ?_
          refine J_get (v := .ref (a 3)) X (fun w h => mm (in_Model w h)) 0 rfl rfl 15 (by decide) (mm k_fl_Model_21) rfl rfl d_Model_readFrame_143 ?_
          refine J_iload_n X d_Model_readFrame_146 3 rfl rfl ?_
          refine J_aload_n X d_Model_readFrame_147 0 rfl rfl ?_
          obtain ⟨z148, hz148, h⟩ := j_bind h
          refine J_callVi0 (n := 0) (wc := (wM cI cB cJ cZ a t)) (r := z148.1) (w1 := fun _ : Unit => wM cI cB cJ cZ a z148.2) X isM (hCM cI cB cJ cZ a t) (hDM cI cB cJ cZ a t) rfl [] [.int x3, .ref (a 3)] (ct_Model_next l dC dI cI cB cJ cZ a n t hz148) (aw_V (fun w h => mm h) k_ml_Model_128 k_im_Model_next k_se_Model_next k_in_Model k_cd_Model_next) rfl (by decide +kernel) ⟨(Nat.le_of_ble_eq_true rfl), (Nat.le_of_ble_eq_true rfl)⟩ (q0 := 0) rfl rfl rfl rfl (Nat.le_of_ble_eq_true rfl) d_Model_readFrame_148 ⟨(Nat.le_of_ble_eq_true rfl), (Nat.le_of_ble_eq_true rfl)⟩ (fun _ => ?_)
          obtain ⟨b151, h⟩ := j_ifn h
          refine J_iast (f := (z148.2.2.1 2)) X 3 0 rfl rfl b151 d_Model_readFrame_151 (wM cI cB cJ cZ a (sH z148.2 2 (x3).toNatClampNeg z148.1)) rfl ?_
          refine J_iconst (v := (0 : Int32)) X d_Model_readFrame_152 (by decide) ?_
          refine J_istore X [(4, .int (0 : Int32)), (0, .ref (a 0)), (1, .int x1), (2, .int x2), (3, .int x3)] d_Model_readFrame_153 (by decide) rfl ?_
          refine J_iconst (v := (0 : Int32)) X d_Model_readFrame_155 (by decide) ?_
          refine J_istore X [(5, .int (0 : Int32)), (4, .int (0 : Int32)), (0, .ref (a 0)), (1, .int x1), (2, .int x2), (3, .int x3)] d_Model_readFrame_156 (by decide) rfl ?_
          refine J_lv [2, 3, 4, 5, 1, 0] [(0, .ref (a 0)), (1, .int x1), (2, .int x2), (3, .int x3), (4, .int (0 : Int32)), (5, .int (0 : Int32))] rfl ?_
          exact L158 (m_Model_readFrame_130 n  k) ih n x1 x2 x3 (0 : Int32) (0 : Int32) (sH z148.2 2 (x3).toNatClampNeg z148.1) h
  have L125 : ∀ (x1 : Int32) (x2 : Int32) (y1 : Int32) (t : St), m_Model_readFrame_125 n  x1 x2 y1 t = some z → J p l e { frames := 3, cells := 0, slots := 0, locals := 63 } s m args below meth c 6 (dC, dI) vwCl A (MQ below (jQv (dC, dI) vwCl (tyA cI cB cJ cZ) (fun _ : Unit => wM cI cB cJ cZ a z) A) args s 0 0 A) 0 0 125 [(0, .ref (a 0)), (1, .int x1), (2, .int x2)] [.int y1, .ref (a 0)] (wM cI cB cJ cZ a t) := by
    intro x1 x2 y1 t h
    unfold m_Model_readFrame_125 at h
    obtain ⟨z125, hz125, h⟩ := j_bind h
    refine J_callVv0 (n := 1) (wc := (wM cI cB cJ cZ a t)) (w1 := fun _ : Unit => wM cI cB cJ cZ a z125) X isM (hCM cI cB cJ cZ a t) (hDM cI cB cJ cZ a t) rfl [.int y1] [] (ct_Model_must l dC dI cI cB cJ cZ a n y1 t hz125) (aw_V (fun w h => mm h) k_ml_Model_140 k_im_Model_must k_se_Model_must k_in_Model k_cd_Model_must) rfl (by decide +kernel) ⟨(Nat.le_of_ble_eq_true rfl), (Nat.le_of_ble_eq_true rfl)⟩ (q0 := 0) rfl rfl rfl rfl (Nat.le_of_ble_eq_true rfl) d_Model_readFrame_125 ⟨(Nat.le_of_ble_eq_true rfl), (Nat.le_of_ble_eq_true rfl)⟩ (fun _ => ?_)
    refine J_iconst (v := (0 : Int32)) X d_Model_readFrame_128 (by decide) ?_
    refine J_istore_n X [(3, .int (0 : Int32)), (0, .ref (a 0)), (1, .int x1), (2, .int x2)] d_Model_readFrame_129 rfl (by decide) rfl ?_
    refine J_lv [1, 2, 3, 0] [(0, .ref (a 0)), (1, .int x1), (2, .int x2), (3, .int (0 : Int32))] rfl ?_
    exact L130  n x1 x2 (0 : Int32) z125 h
  have L120 : ∀ (x1 : Int32) (x2 : Int32) (t : St), m_Model_readFrame_120 n  x1 x2 t = some z → J p l e { frames := 3, cells := 0, slots := 0, locals := 63 } s m args below meth c 6 (dC, dI) vwCl A (MQ below (jQv (dC, dI) vwCl (tyA cI cB cJ cZ) (fun _ : Unit => wM cI cB cJ cZ a z) A) args s 0 0 A) 0 0 120 [(0, .ref (a 0)), (1, .int x1), (2, .int x2)] [.ref (a 0)] (wM cI cB cJ cZ a t) := by
    intro x1 x2 t h
    unfold m_Model_readFrame_120 at h
    refine J_iconst (v := (1 : Int32)) X d_Model_readFrame_120 (by decide) ?_
    refine J_goto X 125 d_Model_readFrame_121 (by decide) ?_
    refine J_lv [0, 1, 2] [(0, .ref (a 0)), (1, .int x1), (2, .int x2)] rfl ?_
    exact L125  x1 x2 (1 : Int32) t h
  have L124 : ∀ (x1 : Int32) (x2 : Int32) (t : St), m_Model_readFrame_124 n  x1 x2 t = some z → J p l e { frames := 3, cells := 0, slots := 0, locals := 63 } s m args below meth c 6 (dC, dI) vwCl A (MQ below (jQv (dC, dI) vwCl (tyA cI cB cJ cZ) (fun _ : Unit => wM cI cB cJ cZ a z) A) args s 0 0 A) 0 0 124 [(0, .ref (a 0)), (1, .int x1), (2, .int x2)] [.ref (a 0)] (wM cI cB cJ cZ a t) := by
    intro x1 x2 t h
    unfold m_Model_readFrame_124 at h
    refine J_iconst (v := (0 : Int32)) X d_Model_readFrame_124 (by decide) ?_
    refine J_lv [0, 1, 2] [(0, .ref (a 0)), (1, .int x1), (2, .int x2)] rfl ?_
    exact L125  x1 x2 (0 : Int32) t h
  have L95 : ∀ (x1 : Int32) (y1 : Int32) (t : St), m_Model_readFrame_95 n  x1 y1 t = some z → J p l e { frames := 3, cells := 0, slots := 0, locals := 63 } s m args below meth c 6 (dC, dI) vwCl A (MQ below (jQv (dC, dI) vwCl (tyA cI cB cJ cZ) (fun _ : Unit => wM cI cB cJ cZ a z) A) args s 0 0 A) 0 0 95 [(0, .ref (a 0)), (1, .int x1)] [.int y1, .ref (a 0)] (wM cI cB cJ cZ a t) := by
    intro x1 y1 t h
    unfold m_Model_readFrame_95 at h
    obtain ⟨z95, hz95, h⟩ := j_bind h
    refine J_callVv0 (n := 1) (wc := (wM cI cB cJ cZ a t)) (w1 := fun _ : Unit => wM cI cB cJ cZ a z95) X isM (hCM cI cB cJ cZ a t) (hDM cI cB cJ cZ a t) rfl [.int y1] [] (ct_Model_must l dC dI cI cB cJ cZ a n y1 t hz95) (aw_V (fun w h => mm h) k_ml_Model_140 k_im_Model_must k_se_Model_must k_in_Model k_cd_Model_must) rfl (by decide +kernel) ⟨(Nat.le_of_ble_eq_true rfl), (Nat.le_of_ble_eq_true rfl)⟩ (q0 := 0) rfl rfl rfl rfl (Nat.le_of_ble_eq_true rfl) d_Model_readFrame_95 ⟨(Nat.le_of_ble_eq_true rfl), (Nat.le_of_ble_eq_true rfl)⟩ (fun _ => ?_)
    refine J_aload_n X d_Model_readFrame_98 0 rfl rfl ?_
    obtain ⟨z99, hz99, h⟩ := j_bind h
    refine J_callVi0 (n := 0) (wc := (wM cI cB cJ cZ a z95)) (r := z99.1) (w1 := fun _ : Unit => wM cI cB cJ cZ a z99.2) X isM (hCM cI cB cJ cZ a z95) (hDM cI cB cJ cZ a z95) rfl [] [] (ct_Model_next l dC dI cI cB cJ cZ a n z95 hz99) (aw_V (fun w h => mm h) k_ml_Model_128 k_im_Model_next k_se_Model_next k_in_Model k_cd_Model_next) rfl (by decide +kernel) ⟨(Nat.le_of_ble_eq_true rfl), (Nat.le_of_ble_eq_true rfl)⟩ (q0 := 0) rfl rfl rfl rfl (Nat.le_of_ble_eq_true rfl) d_Model_readFrame_99 ⟨(Nat.le_of_ble_eq_true rfl), (Nat.le_of_ble_eq_true rfl)⟩ (fun _ => ?_)
    refine J_istore_n X [(2, .int z99.1), (0, .ref (a 0)), (1, .int x1)] d_Model_readFrame_102 rfl (by decide) rfl ?_
    refine J_aload_n X d_Model_readFrame_103 1 rfl rfl ?_
    refine J_aload_n X d_Model_readFrame_104 1 rfl rfl ?_
    refine J_get (v := .int (z99.2.1 2)) X (fun w h => mm (in_Model w h)) 0 rfl rfl 3 (by decide) (mm k_fl_Model_107) rfl rfl d_Model_readFrame_105 ?_
    refine J_if_gt X 120 d_Model_readFrame_108 (by decide) (fun c108 => ?_) (fun c108 => ?_)
    · rw [if_pos c108] at h
      refine J_lv [1, 2, 0] [(0, .ref (a 0)), (1, .int x1), (2, .int z99.1)] rfl ?_
      exact L120  x1 z99.1 z99.2 h
    · rw [if_neg c108] at h
      refine J_iload_n X d_Model_readFrame_111 0 rfl rfl ?_
      refine J_if_le X 124 d_Model_readFrame_112 (by decide) (fun c112 => ?_) (fun c112 => ?_)
      · rw [if_pos c112] at h
        refine J_lv [1, 2, 0] [(0, .ref (a 0)), (1, .int x1), (2, .int z99.1)] rfl ?_
        exact L124  x1 z99.1 z99.2 h
      · rw [if_neg c112] at h
        refine J_iload_n X d_Model_readFrame_115 0 rfl rfl ?_
        refine J_iconst (v := (5 : Int32)) X d_Model_readFrame_116 (by decide) ?_
        refine J_icmp_ge X 124 d_Model_readFrame_117 (by decide) (fun c117 => ?_) (fun c117 => ?_)
        · rw [if_pos c117] at h
          refine J_lv [1, 2, 0] [(0, .ref (a 0)), (1, .int x1), (2, .int z99.1)] rfl ?_
          exact L124  x1 z99.1 z99.2 h
        · rw [if_neg c117] at h
          refine J_lv [1, 2, 0] [(0, .ref (a 0)), (1, .int x1), (2, .int z99.1)] rfl ?_
          exact L120  x1 z99.1 z99.2 h
  have L90 : ∀ (x1 : Int32) (t : St), m_Model_readFrame_90 n  x1 t = some z → J p l e { frames := 3, cells := 0, slots := 0, locals := 63 } s m args below meth c 6 (dC, dI) vwCl A (MQ below (jQv (dC, dI) vwCl (tyA cI cB cJ cZ) (fun _ : Unit => wM cI cB cJ cZ a z) A) args s 0 0 A) 0 0 90 [(0, .ref (a 0)), (1, .int x1)] [.ref (a 0)] (wM cI cB cJ cZ a t) := by
    intro x1 t h
    unfold m_Model_readFrame_90 at h
    refine J_iconst (v := (1 : Int32)) X d_Model_readFrame_90 (by decide) ?_
    refine J_goto X 95 d_Model_readFrame_91 (by decide) ?_
    refine J_lv [0, 1] [(0, .ref (a 0)), (1, .int x1)] rfl ?_
    exact L95  x1 (1 : Int32) t h
  have L94 : ∀ (x1 : Int32) (t : St), m_Model_readFrame_94 n  x1 t = some z → J p l e { frames := 3, cells := 0, slots := 0, locals := 63 } s m args below meth c 6 (dC, dI) vwCl A (MQ below (jQv (dC, dI) vwCl (tyA cI cB cJ cZ) (fun _ : Unit => wM cI cB cJ cZ a z) A) args s 0 0 A) 0 0 94 [(0, .ref (a 0)), (1, .int x1)] [.ref (a 0)] (wM cI cB cJ cZ a t) := by
    intro x1 t h
    unfold m_Model_readFrame_94 at h
    refine J_iconst (v := (0 : Int32)) X d_Model_readFrame_94 (by decide) ?_
    refine J_lv [0, 1] [(0, .ref (a 0)), (1, .int x1)] rfl ?_
    exact L95  x1 (0 : Int32) t h
  have L55 : ∀ (x1 : Int32) (y1 : Int32) (t : St), m_Model_readFrame_55 n  x1 y1 t = some z → J p l e { frames := 3, cells := 0, slots := 0, locals := 63 } s m args below meth c 6 (dC, dI) vwCl A (MQ below (jQv (dC, dI) vwCl (tyA cI cB cJ cZ) (fun _ : Unit => wM cI cB cJ cZ a z) A) args s 0 0 A) 0 0 55 [(0, .ref (a 0)), (1, .int x1)] [.int y1, .ref (a 0)] (wM cI cB cJ cZ a t) := by
    intro x1 y1 t h
    unfold m_Model_readFrame_55 at h
    obtain ⟨z55, hz55, h⟩ := j_bind h
    refine J_callVv0 (n := 1) (wc := (wM cI cB cJ cZ a t)) (w1 := fun _ : Unit => wM cI cB cJ cZ a z55) X isM (hCM cI cB cJ cZ a t) (hDM cI cB cJ cZ a t) rfl [.int y1] [] (ct_Model_must l dC dI cI cB cJ cZ a n y1 t hz55) (aw_V (fun w h => mm h) k_ml_Model_140 k_im_Model_must k_se_Model_must k_in_Model k_cd_Model_must) rfl (by decide +kernel) ⟨(Nat.le_of_ble_eq_true rfl), (Nat.le_of_ble_eq_true rfl)⟩ (q0 := 0) rfl rfl rfl rfl (Nat.le_of_ble_eq_true rfl) d_Model_readFrame_55 ⟨(Nat.le_of_ble_eq_true rfl), (Nat.le_of_ble_eq_true rfl)⟩ (fun _ => ?_)
    refine J_aload_n X d_Model_readFrame_58 0 rfl rfl ?_
    refine J_aload_n X d_Model_readFrame_59 0 rfl rfl ?_
    obtain ⟨z60, hz60, h⟩ := j_bind h
    refine J_callVi0 (n := 0) (wc := (wM cI cB cJ cZ a z55)) (r := z60.1) (w1 := fun _ : Unit => wM cI cB cJ cZ a z60.2) X isM (hCM cI cB cJ cZ a z55) (hDM cI cB cJ cZ a z55) rfl [] [.ref (a 0)] (ct_Model_two l dC dI cI cB cJ cZ a n z55 hz60) (aw_V (fun w h => mm h) k_ml_Model_137 k_im_Model_two k_se_Model_two k_in_Model k_cd_Model_two) rfl (by decide +kernel) ⟨(Nat.le_of_ble_eq_true rfl), (Nat.le_of_ble_eq_true rfl)⟩ (q0 := 0) rfl rfl rfl rfl (Nat.le_of_ble_eq_true rfl) d_Model_readFrame_60 ⟨(Nat.le_of_ble_eq_true rfl), (Nat.le_of_ble_eq_true rfl)⟩ (fun _ => ?_)
    refine J_put (ty := .int) (v := .int z60.1) X (fun w h => mm (in_Model w h)) ty_Model tyk_Model nm_Model 0 rfl rfl 12 (by decide) (mm k_fl_Model_89) rfl rfl (by decide +kernel) rfl rfl (Nat.le_of_ble_eq_true rfl) d_Model_readFrame_63 (wM cI cB cJ cZ a (sG z60.2 10 z60.1)) rfl ?_
    refine J_aload_n X d_Model_readFrame_66 0 rfl rfl ?_
    refine J_aload_n X d_Model_readFrame_67 0 rfl rfl ?_
    refine J_get (v := .int (z60.2.1 2)) X (fun w h => mm (in_Model w h)) 0 rfl rfl 3 (by decide) (mm k_fl_Model_107) rfl rfl d_Model_readFrame_68 ?_
    refine J_if_gt X 90 d_Model_readFrame_71 (by decide) (fun c71 => ?_) (fun c71 => ?_)
    · rw [if_pos c71] at h
      refine J_lv [0, 1] [(0, .ref (a 0)), (1, .int x1)] rfl ?_
      exact L90  x1 (sG z60.2 10 z60.1) h
    · rw [if_neg c71] at h
      refine J_aload_n X d_Model_readFrame_74 0 rfl rfl ?_
      refine J_get (v := .int z60.1) X (fun w h => mm (in_Model w h)) 0 rfl rfl 12 (by decide) (mm k_fl_Model_89) rfl rfl d_Model_readFrame_75 ?_
      refine J_if_le X 94 d_Model_readFrame_78 (by decide) (fun c78 => ?_) (fun c78 => ?_)
      · rw [if_pos c78] at h
        refine J_lv [0, 1] [(0, .ref (a 0)), (1, .int x1)] rfl ?_
        exact L94  x1 (sG z60.2 10 z60.1) h
      · rw [if_neg c78] at h
        refine J_aload_n X d_Model_readFrame_81 0 rfl rfl ?_
        refine J_get (v := .int z60.1) X (fun w h => mm (in_Model w h)) 0 rfl rfl 12 (by decide) (mm k_fl_Model_89) rfl rfl d_Model_readFrame_82 ?_
        refine J_bipush (v := (64 : Int32)) X d_Model_readFrame_85 (by decide) ?_
        refine J_icmp_gt X 94 d_Model_readFrame_87 (by decide) (fun c87 => ?_) (fun c87 => ?_)
        · rw [if_pos c87] at h
          refine J_lv [0, 1] [(0, .ref (a 0)), (1, .int x1)] rfl ?_
          exact L94  x1 (sG z60.2 10 z60.1) h
        · rw [if_neg c87] at h
          refine J_lv [0, 1] [(0, .ref (a 0)), (1, .int x1)] rfl ?_
          exact L90  x1 (sG z60.2 10 z60.1) h
  have L50 : ∀ (x1 : Int32) (t : St), m_Model_readFrame_50 n  x1 t = some z → J p l e { frames := 3, cells := 0, slots := 0, locals := 63 } s m args below meth c 6 (dC, dI) vwCl A (MQ below (jQv (dC, dI) vwCl (tyA cI cB cJ cZ) (fun _ : Unit => wM cI cB cJ cZ a z) A) args s 0 0 A) 0 0 50 [(0, .ref (a 0)), (1, .int x1)] [.ref (a 0)] (wM cI cB cJ cZ a t) := by
    intro x1 t h
    unfold m_Model_readFrame_50 at h
    refine J_iconst (v := (1 : Int32)) X d_Model_readFrame_50 (by decide) ?_
    refine J_goto X 55 d_Model_readFrame_51 (by decide) ?_
    refine J_lv [0, 1] [(0, .ref (a 0)), (1, .int x1)] rfl ?_
    exact L55  x1 (1 : Int32) t h
  have L22 : ∀ (x1 : Int32) (y1 : Int32) (t : St), m_Model_readFrame_22 n  x1 y1 t = some z → J p l e { frames := 3, cells := 0, slots := 0, locals := 63 } s m args below meth c 6 (dC, dI) vwCl A (MQ below (jQv (dC, dI) vwCl (tyA cI cB cJ cZ) (fun _ : Unit => wM cI cB cJ cZ a z) A) args s 0 0 A) 0 0 22 [(0, .ref (a 0)), (1, .int x1)] [.int y1, .ref (a 0)] (wM cI cB cJ cZ a t) := by
    intro x1 y1 t h
    unfold m_Model_readFrame_22 at h
    obtain ⟨z22, hz22, h⟩ := j_bind h
    refine J_callVv0 (n := 1) (wc := (wM cI cB cJ cZ a t)) (w1 := fun _ : Unit => wM cI cB cJ cZ a z22) X isM (hCM cI cB cJ cZ a t) (hDM cI cB cJ cZ a t) rfl [.int y1] [] (ct_Model_must l dC dI cI cB cJ cZ a n y1 t hz22) (aw_V (fun w h => mm h) k_ml_Model_140 k_im_Model_must k_se_Model_must k_in_Model k_cd_Model_must) rfl (by decide +kernel) ⟨(Nat.le_of_ble_eq_true rfl), (Nat.le_of_ble_eq_true rfl)⟩ (q0 := 0) rfl rfl rfl rfl (Nat.le_of_ble_eq_true rfl) d_Model_readFrame_22 ⟨(Nat.le_of_ble_eq_true rfl), (Nat.le_of_ble_eq_true rfl)⟩ (fun _ => ?_)
    refine J_aload_n X d_Model_readFrame_25 0 rfl rfl ?_
    refine J_aload_n X d_Model_readFrame_26 0 rfl rfl ?_
    obtain ⟨z27, hz27, h⟩ := j_bind h
    refine J_callVi0 (n := 0) (wc := (wM cI cB cJ cZ a z22)) (r := z27.1) (w1 := fun _ : Unit => wM cI cB cJ cZ a z27.2) X isM (hCM cI cB cJ cZ a z22) (hDM cI cB cJ cZ a z22) rfl [] [.ref (a 0)] (ct_Model_two l dC dI cI cB cJ cZ a n z22 hz27) (aw_V (fun w h => mm h) k_ml_Model_137 k_im_Model_two k_se_Model_two k_in_Model k_cd_Model_two) rfl (by decide +kernel) ⟨(Nat.le_of_ble_eq_true rfl), (Nat.le_of_ble_eq_true rfl)⟩ (q0 := 0) rfl rfl rfl rfl (Nat.le_of_ble_eq_true rfl) d_Model_readFrame_27 ⟨(Nat.le_of_ble_eq_true rfl), (Nat.le_of_ble_eq_true rfl)⟩ (fun _ => ?_)
    refine J_put (ty := .int) (v := .int z27.1) X (fun w h => mm (in_Model w h)) ty_Model tyk_Model nm_Model 0 rfl rfl 13 (by decide) (mm k_fl_Model_92) rfl rfl (by decide +kernel) rfl rfl (Nat.le_of_ble_eq_true rfl) d_Model_readFrame_30 (wM cI cB cJ cZ a (sG z27.2 11 z27.1)) rfl ?_
    refine J_aload_n X d_Model_readFrame_33 0 rfl rfl ?_
    refine J_aload_n X d_Model_readFrame_34 0 rfl rfl ?_
    refine J_get (v := .int (z27.2.1 2)) X (fun w h => mm (in_Model w h)) 0 rfl rfl 3 (by decide) (mm k_fl_Model_107) rfl rfl d_Model_readFrame_35 ?_
    refine J_if_gt X 50 d_Model_readFrame_38 (by decide) (fun c38 => ?_) (fun c38 => ?_)
    · rw [if_pos c38] at h
      refine J_lv [0, 1] [(0, .ref (a 0)), (1, .int x1)] rfl ?_
      exact L50  x1 (sG z27.2 11 z27.1) h
    · rw [if_neg c38] at h
      refine J_aload_n X d_Model_readFrame_41 0 rfl rfl ?_
      refine J_get (v := .int z27.1) X (fun w h => mm (in_Model w h)) 0 rfl rfl 13 (by decide) (mm k_fl_Model_92) rfl rfl d_Model_readFrame_42 ?_
      refine J_bipush (v := (64 : Int32)) X d_Model_readFrame_45 (by decide) ?_
      refine J_icmp_gt X 54 d_Model_readFrame_47 (by decide) (fun c47 => ?_) (fun c47 => ?_)
      · rw [if_pos c47] at h
        refine J_iconst (v := (0 : Int32)) X d_Model_readFrame_54 (by decide) ?_
        refine J_lv [0, 1] [(0, .ref (a 0)), (1, .int x1)] rfl ?_
        exact L55  x1 (0 : Int32) (sG z27.2 11 z27.1) h
      · rw [if_neg c47] at h
        refine J_lv [0, 1] [(0, .ref (a 0)), (1, .int x1)] rfl ?_
        exact L50  x1 (sG z27.2 11 z27.1) h
  have L17 : ∀ (x1 : Int32) (t : St), m_Model_readFrame_17 n  x1 t = some z → J p l e { frames := 3, cells := 0, slots := 0, locals := 63 } s m args below meth c 6 (dC, dI) vwCl A (MQ below (jQv (dC, dI) vwCl (tyA cI cB cJ cZ) (fun _ : Unit => wM cI cB cJ cZ a z) A) args s 0 0 A) 0 0 17 [(0, .ref (a 0)), (1, .int x1)] [.ref (a 0)] (wM cI cB cJ cZ a t) := by
    intro x1 t h
    unfold m_Model_readFrame_17 at h
    refine J_iconst (v := (1 : Int32)) X d_Model_readFrame_17 (by decide) ?_
    refine J_goto X 22 d_Model_readFrame_18 (by decide) ?_
    refine J_lv [0, 1] [(0, .ref (a 0)), (1, .int x1)] rfl ?_
    exact L22  x1 (1 : Int32) t h
  refine J_lv [0, 1] [(0, .ref (a 0)), (1, .int x1)] rfl ?_
  unfold m_Model_readFrame at h
  refine J_aload_n X d_Model_readFrame_0 0 rfl rfl ?_
  refine J_aload_n X d_Model_readFrame_1 0 rfl rfl ?_
  obtain ⟨z2, hz2, h⟩ := j_bind h
  refine J_callVi0 (n := 0) (wc := (wM cI cB cJ cZ a t)) (r := z2.1) (w1 := fun _ : Unit => wM cI cB cJ cZ a z2.2) X isM (hCM cI cB cJ cZ a t) (hDM cI cB cJ cZ a t) rfl [] [.ref (a 0)] (ct_Model_next l dC dI cI cB cJ cZ a n t hz2) (aw_V (fun w h => mm h) k_ml_Model_128 k_im_Model_next k_se_Model_next k_in_Model k_cd_Model_next) rfl (by decide +kernel) ⟨(Nat.le_of_ble_eq_true rfl), (Nat.le_of_ble_eq_true rfl)⟩ (q0 := 0) rfl rfl rfl rfl (Nat.le_of_ble_eq_true rfl) d_Model_readFrame_2 ⟨(Nat.le_of_ble_eq_true rfl), (Nat.le_of_ble_eq_true rfl)⟩ (fun _ => ?_)
  refine J_bipush (v := (8 : Int32)) X d_Model_readFrame_5 (by decide) ?_
  refine J_icmp_eq X 17 d_Model_readFrame_7 (by decide) (fun c7 => ?_) (fun c7 => ?_)
  · rw [if_pos c7] at h
    refine J_lv [0, 1] [(0, .ref (a 0)), (1, .int x1)] rfl ?_
    exact L17  x1 z2.2 h
  · rw [if_neg c7] at h
    refine J_aload_n X d_Model_readFrame_10 0 rfl rfl ?_
    refine J_get (v := .int (z2.2.1 2)) X (fun w h => mm (in_Model w h)) 0 rfl rfl 3 (by decide) (mm k_fl_Model_107) rfl rfl d_Model_readFrame_11 ?_
    refine J_if_le X 21 d_Model_readFrame_14 (by decide) (fun c14 => ?_) (fun c14 => ?_)
    · rw [if_pos c14] at h
      refine J_iconst (v := (0 : Int32)) X d_Model_readFrame_21 (by decide) ?_
      refine J_lv [0, 1] [(0, .ref (a 0)), (1, .int x1)] rfl ?_
      exact L22  x1 (0 : Int32) z2.2 h
    · rw [if_neg c14] at h
      refine J_lv [0, 1] [(0, .ref (a 0)), (1, .int x1)] rfl ?_
      exact L17  x1 z2.2 h
set_option maxHeartbeats 4000000 in
set_option maxRecDepth 100000 in
theorem ct_Model_named (l : Launch) (dC : Nat → ClassId) (dI : Nat → Nat → Nat) (cI cB cJ cZ : ClassId) (a : Nat → Nat) (n : Nat) (x1 : Int32) (t : St) {z : Int32 × St} (h : m_Model_named n x1 t = some z) : jMi l y_Model_named w_Model_named ({ frames := 0, cells := 0, slots := 0, locals := 0 }) (dC, dI) vwCl (tyA cI cB cJ cZ) [.ref (a 0), .int x1] (wM cI cB cJ cZ a t) z.1 (fun _ : Unit => wM cI cB cJ cZ a z.2) := by
  refine jMi.of (cc := c_Model_named) (maxL := 4) (ret := (some .int)) (by decide) rfl (Nat.le_of_ble_eq_true rfl) ?_
  intro p e s m args below meth c A X hr hlk hnm
  have L27 : ∀ (K4 : Int32 → Int32 → Int32 → St → Option (Int32 × St)) (hK4 : ∀ (x1 : Int32) (x2 : Int32) (x3 : Int32) (t : St), K4 x1 x2 x3 t = some z → J p l e { frames := 0, cells := 0, slots := 0, locals := 0 } s m args below meth c 4 (dC, dI) vwCl A (MQ below (jQi (dC, dI) vwCl (tyA cI cB cJ cZ) z.1 (fun _ : Unit => wM cI cB cJ cZ a z.2) A) args s 0 0 A) 0 0 4 [(0, .ref (a 0)), (1, .int x1), (2, .int x2), (3, .int x3)] [] (wM cI cB cJ cZ a t)) (x1 : Int32) (x3 : Int32) (y0 : Int32) (t : St), m_Model_named_27 n K4 x1 x3 y0 t = some z → J p l e { frames := 0, cells := 0, slots := 0, locals := 0 } s m args below meth c 4 (dC, dI) vwCl A (MQ below (jQi (dC, dI) vwCl (tyA cI cB cJ cZ) z.1 (fun _ : Unit => wM cI cB cJ cZ a z.2) A) args s 0 0 A) 0 0 27 [(0, .ref (a 0)), (1, .int x1), (3, .int x3)] [.int y0] (wM cI cB cJ cZ a t) := by
    intro K4 hK4 x1 x3 y0 t h
    unfold m_Model_named_27 at h
    refine J_istore_n X [(2, .int y0), (0, .ref (a 0)), (1, .int x1), (3, .int x3)] d_Model_named_27 rfl (by decide) rfl ?_
    refine J_iinc (v := (x3 + 1)) X [(3, .int (x3 + 1)), (2, .int y0), (0, .ref (a 0)), (1, .int x1)] d_Model_named_28 3 rfl rfl (by decide) rfl ?_
    refine J_goto X 4 d_Model_named_31 (by decide) ?_
    refine J_lv [2, 3, 1, 0] [(0, .ref (a 0)), (1, .int x1), (2, .int y0), (3, .int (x3 + 1))] rfl ?_
    exact hK4 x1 y0 (x3 + 1) t h
  have L4 : ∀ (k : Nat) (x1 : Int32) (x2 : Int32) (x3 : Int32) (t : St), m_Model_named_4 n  k x1 x2 x3 t = some z → J p l e { frames := 0, cells := 0, slots := 0, locals := 0 } s m args below meth c 4 (dC, dI) vwCl A (MQ below (jQi (dC, dI) vwCl (tyA cI cB cJ cZ) z.1 (fun _ : Unit => wM cI cB cJ cZ a z.2) A) args s 0 0 A) 0 0 4 [(0, .ref (a 0)), (1, .int x1), (2, .int x2), (3, .int x3)] [] (wM cI cB cJ cZ a t) := by
    intro k
    induction k with
    | zero => intro x1 x2 x3 t h; exact absurd (show none = some z from h) (by simp)
    | succ k ih =>
      intro x1 x2 x3 t h
      change m_Model_named_4b n  (m_Model_named_4 n  k) x1 x2 x3 t = some z at h
      unfold m_Model_named_4b at h
      refine J_iload_n X d_Model_named_4 3 rfl rfl ?_
      refine J_aload_n X d_Model_named_5 0 rfl rfl ?_
      refine J_get (v := .int (t.1 12)) X (fun w h => mm (in_Model w h)) 0 rfl rfl 14 (by decide) (mm k_fl_Model_95) rfl rfl d_Model_named_6 ?_
      refine J_icmp_ge X 34 d_Model_named_9 (by decide) (fun c9 => ?_) (fun c9 => ?_)
      · rw [if_pos c9] at h
        refine J_iload_n X d_Model_named_34 2 rfl rfl ?_
        exact J_iret X hr hlk () (Nat.le_of_ble_eq_true rfl) (Nat.le_of_ble_eq_true rfl) (j_r1 h) (congrArg (fun q => wM cI cB cJ cZ a q) (j_r2 h)) d_Model_named_35
      · rw [if_neg c9] at h
        refine J_aload_n X d_Model_named_12 0 rfl rfl ?_
        refine J_get (v := .ref (a 3)) X (fun w h => mm (in_Model w h)) 0 rfl rfl 15 (by decide) (mm k_fl_Model_21) rfl rfl d_Model_named_13 ?_
        refine J_iload_n X d_Model_named_16 3 rfl rfl ?_
        obtain ⟨b17, h⟩ := j_ifn h
        refine J_iald (f := (t.2.1 2)) X 3 0 rfl rfl b17 d_Model_named_17 ?_
        refine J_iload_n X d_Model_named_18 1 rfl rfl ?_
        refine J_icmp_ne X 26 d_Model_named_19 (by decide) (fun c19 => ?_) (fun c19 => ?_)
        · rw [if_neg c19] at h
          refine J_iload_n X d_Model_named_26 2 rfl rfl ?_
          refine J_lv [0, 1, 3] [(0, .ref (a 0)), (1, .int x1), (3, .int x3)] rfl ?_
          exact L27 (m_Model_named_4 n  k) ih x1 x3 x2 t h
        · rw [if_pos c19] at h
          refine J_iload_n X d_Model_named_22 3 rfl rfl ?_
          refine J_goto X 27 d_Model_named_23 (by decide) ?_
          refine J_lv [0, 1, 3] [(0, .ref (a 0)), (1, .int x1), (3, .int x3)] rfl ?_
          exact L27 (m_Model_named_4 n  k) ih x1 x3 x3 t h
  refine J_lv [0, 1] [(0, .ref (a 0)), (1, .int x1)] rfl ?_
  unfold m_Model_named at h
  refine J_iconst (v := (-1 : Int32)) X d_Model_named_0 (by decide) ?_
  refine J_istore_n X [(2, .int (-1 : Int32)), (0, .ref (a 0)), (1, .int x1)] d_Model_named_1 rfl (by decide) rfl ?_
  refine J_iconst (v := (0 : Int32)) X d_Model_named_2 (by decide) ?_
  refine J_istore_n X [(3, .int (0 : Int32)), (2, .int (-1 : Int32)), (0, .ref (a 0)), (1, .int x1)] d_Model_named_3 rfl (by decide) rfl ?_
  refine J_lv [2, 3, 1, 0] [(0, .ref (a 0)), (1, .int x1), (2, .int (-1 : Int32)), (3, .int (0 : Int32))] rfl ?_
  exact L4  n x1 (-1 : Int32) (0 : Int32) t h
set_option maxHeartbeats 4000000 in
set_option maxRecDepth 100000 in
theorem ct_Model_order (l : Launch) (dC : Nat → ClassId) (dI : Nat → Nat → Nat) (cI cB cJ cZ : ClassId) (a : Nat → Nat) (n : Nat) (x1 : Int32) (x2 : Int32) (t : St) {z : St} (h : m_Model_order n x1 x2 t = some z) : jMv l y_Model_order w_Model_order ({ frames := 1, cells := 0, slots := 0, locals := 22 }) (dC, dI) vwCl (tyA cI cB cJ cZ) [.ref (a 0), .int x1, .int x2] (wM cI cB cJ cZ a t) (fun _ : Unit => wM cI cB cJ cZ a z) := by
  refine jMv.of (cc := c_Model_order) (maxL := 7) (ret := none) (by decide) rfl (Nat.le_of_ble_eq_true rfl) ?_
  intro p e s m args below meth c A X hr hlk hnm
  have L157 : ∀ (K62 : Int32 → Int32 → Int32 → St → Option (St)) (hK62 : ∀ (x2 : Int32) (x3 : Int32) (x4 : Int32) (t : St), K62 x2 x3 x4 t = some z → J p l e { frames := 1, cells := 0, slots := 0, locals := 22 } s m args below meth c 7 (dC, dI) vwCl A (MQ below (jQv (dC, dI) vwCl (tyA cI cB cJ cZ) (fun _ : Unit => wM cI cB cJ cZ a z) A) args s 0 0 A) 0 0 62 [(0, .ref (a 0)), (2, .int x2), (3, .int x3), (4, .int x4)] [] (wM cI cB cJ cZ a t)) (x2 : Int32) (x3 : Int32) (x4 : Int32) (t : St), m_Model_order_157 n K62 x2 x3 x4 t = some z → J p l e { frames := 1, cells := 0, slots := 0, locals := 22 } s m args below meth c 7 (dC, dI) vwCl A (MQ below (jQv (dC, dI) vwCl (tyA cI cB cJ cZ) (fun _ : Unit => wM cI cB cJ cZ a z) A) args s 0 0 A) 0 0 157 [(0, .ref (a 0)), (2, .int x2), (3, .int x3), (4, .int x4)] [] (wM cI cB cJ cZ a t) := by
    intro K62 hK62 x2 x3 x4 t h
    unfold m_Model_order_157 at h
    refine J_iinc (v := (x4 + 1)) X [(4, .int (x4 + 1)), (0, .ref (a 0)), (2, .int x2), (3, .int x3)] d_Model_order_157 3 rfl rfl (by decide) rfl ?_
    refine J_goto X 62 d_Model_order_160 (by decide) ?_
    refine J_lv [1, 2, 3, 0] [(0, .ref (a 0)), (2, .int x2), (3, .int x3), (4, .int (x4 + 1))] rfl ?_
    exact hK62 x2 x3 (x4 + 1) t h
  have L136 : ∀ (K62 : Int32 → Int32 → Int32 → St → Option (St)) (hK62 : ∀ (x2 : Int32) (x3 : Int32) (x4 : Int32) (t : St), K62 x2 x3 x4 t = some z → J p l e { frames := 1, cells := 0, slots := 0, locals := 22 } s m args below meth c 7 (dC, dI) vwCl A (MQ below (jQv (dC, dI) vwCl (tyA cI cB cJ cZ) (fun _ : Unit => wM cI cB cJ cZ a z) A) args s 0 0 A) 0 0 62 [(0, .ref (a 0)), (2, .int x2), (3, .int x3), (4, .int x4)] [] (wM cI cB cJ cZ a t)) (x2 : Int32) (x3 : Int32) (x4 : Int32) (y0 : Int32) (t : St), m_Model_order_136 n K62 x2 x3 x4 y0 t = some z → J p l e { frames := 1, cells := 0, slots := 0, locals := 22 } s m args below meth c 7 (dC, dI) vwCl A (MQ below (jQv (dC, dI) vwCl (tyA cI cB cJ cZ) (fun _ : Unit => wM cI cB cJ cZ a z) A) args s 0 0 A) 0 0 136 [(0, .ref (a 0)), (2, .int x2), (3, .int x3), (4, .int x4)] [.int y0] (wM cI cB cJ cZ a t) := by
    intro K62 hK62 x2 x3 x4 y0 t h
    unfold m_Model_order_136 at h
    refine J_istore X [(5, .int y0), (0, .ref (a 0)), (2, .int x2), (3, .int x3), (4, .int x4)] d_Model_order_136 (by decide) rfl ?_
    refine J_iload X d_Model_order_138 0 rfl ?_
    refine J_if_ne X 157 d_Model_order_140 (by decide) (fun c140 => ?_) (fun c140 => ?_)
    · rw [if_neg c140] at h
      refine J_lv [1, 2, 3, 4] [(0, .ref (a 0)), (2, .int x2), (3, .int x3), (4, .int x4)] rfl ?_
      exact L157 K62 hK62 x2 x3 x4 t h
    · rw [if_pos c140] at h
      refine J_aload_n X d_Model_order_143 1 rfl rfl ?_
      refine J_bipush (v := (6 : Int32)) X d_Model_order_144 (by decide) ?_
      refine J_aload_n X d_Model_order_146 1 rfl rfl ?_
      refine J_get (v := .int (t.1 4)) X (fun w h => mm (in_Model w h)) 0 rfl rfl 5 (by decide) (mm k_fl_Model_113) rfl rfl d_Model_order_147 ?_
      refine J_iconst (v := (1 : Int32)) X d_Model_order_150 (by decide) ?_
      refine J_isub X d_Model_order_151 ?_
      obtain ⟨z152, hz152, h⟩ := j_bind h
      refine J_callVi0 (n := 2) (wc := (wM cI cB cJ cZ a t)) (r := z152.1) (w1 := fun _ : Unit => wM cI cB cJ cZ a z152.2) X isM (hCM cI cB cJ cZ a t) (hDM cI cB cJ cZ a t) rfl [.int (6 : Int32), .int ((t.1 4) - (1 : Int32))] [] (ct_Model_wrong l dC dI cI cB cJ cZ a n (6 : Int32) ((t.1 4) - (1 : Int32)) t hz152) (aw_V (fun w h => mm h) k_ml_Model_120 k_im_Model_wrong k_se_Model_wrong k_in_Model k_cd_Model_wrong) rfl (by decide +kernel) ⟨(Nat.le_of_ble_eq_true rfl), (Nat.le_of_ble_eq_true rfl)⟩ (q0 := 0) rfl rfl rfl rfl (Nat.le_of_ble_eq_true rfl) d_Model_order_152 ⟨(Nat.le_of_ble_eq_true rfl), (Nat.le_of_ble_eq_true rfl)⟩ (fun _ => ?_)
      refine J_istore X [(6, .int z152.1), (5, .int y0), (0, .ref (a 0)), (2, .int x2), (3, .int x3), (4, .int x4)] d_Model_order_155 (by decide) rfl ?_
      refine J_lv [2, 3, 4, 5] [(0, .ref (a 0)), (2, .int x2), (3, .int x3), (4, .int x4)] rfl ?_
      exact L157 K62 hK62 x2 x3 x4 z152.2 h
  have L135 : ∀ (K62 : Int32 → Int32 → Int32 → St → Option (St)) (hK62 : ∀ (x2 : Int32) (x3 : Int32) (x4 : Int32) (t : St), K62 x2 x3 x4 t = some z → J p l e { frames := 1, cells := 0, slots := 0, locals := 22 } s m args below meth c 7 (dC, dI) vwCl A (MQ below (jQv (dC, dI) vwCl (tyA cI cB cJ cZ) (fun _ : Unit => wM cI cB cJ cZ a z) A) args s 0 0 A) 0 0 62 [(0, .ref (a 0)), (2, .int x2), (3, .int x3), (4, .int x4)] [] (wM cI cB cJ cZ a t)) (x2 : Int32) (x3 : Int32) (x4 : Int32) (t : St), m_Model_order_135 n K62 x2 x3 x4 t = some z → J p l e { frames := 1, cells := 0, slots := 0, locals := 22 } s m args below meth c 7 (dC, dI) vwCl A (MQ below (jQv (dC, dI) vwCl (tyA cI cB cJ cZ) (fun _ : Unit => wM cI cB cJ cZ a z) A) args s 0 0 A) 0 0 135 [(0, .ref (a 0)), (2, .int x2), (3, .int x3), (4, .int x4)] [] (wM cI cB cJ cZ a t) := by
    intro K62 hK62 x2 x3 x4 t h
    unfold m_Model_order_135 at h
    refine J_iconst (v := (0 : Int32)) X d_Model_order_135 (by decide) ?_
    refine J_lv [0, 1, 2, 3] [(0, .ref (a 0)), (2, .int x2), (3, .int x3), (4, .int x4)] rfl ?_
    exact L136 K62 hK62 x2 x3 x4 (0 : Int32) t h
  have L62 : ∀ (k : Nat) (x2 : Int32) (x3 : Int32) (x4 : Int32) (t : St), m_Model_order_62 n  k x2 x3 x4 t = some z → J p l e { frames := 1, cells := 0, slots := 0, locals := 22 } s m args below meth c 7 (dC, dI) vwCl A (MQ below (jQv (dC, dI) vwCl (tyA cI cB cJ cZ) (fun _ : Unit => wM cI cB cJ cZ a z) A) args s 0 0 A) 0 0 62 [(0, .ref (a 0)), (2, .int x2), (3, .int x3), (4, .int x4)] [] (wM cI cB cJ cZ a t) := by
    intro k
    induction k with
    | zero => intro x2 x3 x4 t h; exact absurd (show none = some z from h) (by simp)
    | succ k ih =>
      intro x2 x3 x4 t h
      change m_Model_order_62b n  (m_Model_order_62 n  k) x2 x3 x4 t = some z at h
      unfold m_Model_order_62b at h
      refine J_iload X d_Model_order_62 3 rfl ?_
      refine J_aload_n X d_Model_order_64 0 rfl rfl ?_
      refine J_get (v := .int (t.1 18)) X (fun w h => mm (in_Model w h)) 0 rfl rfl 37 (by decide) (mm k_fl_Model_159) rfl rfl d_Model_order_65 ?_
      refine J_icmp_gt X 163 d_Model_order_68 (by decide) (fun c68 => ?_) (fun c68 => ?_)
      · rw [if_pos c68] at h
        exact J_vret X hr hlk () (Nat.le_of_ble_eq_true rfl) (Nat.le_of_ble_eq_true rfl) (congrArg (fun q => wM cI cB cJ cZ a q) (j_s h)) d_Model_order_163
      · rw [if_neg c68] at h
        refine J_iload_n X d_Model_order_71 1 rfl rfl ?_
        refine J_if_eq X 163 d_Model_order_72 (by decide) (fun c72 => ?_) (fun c72 => ?_)
        · rw [if_pos c72] at h
          exact J_vret X hr hlk () (Nat.le_of_ble_eq_true rfl) (Nat.le_of_ble_eq_true rfl) (congrArg (fun q => wM cI cB cJ cZ a q) (j_s h)) d_Model_order_163
        · rw [if_neg c72] at h
          refine J_aload_n X d_Model_order_75 0 rfl rfl ?_
          refine J_get (v := .ref (a 14)) X (fun w h => mm (in_Model w h)) 0 rfl rfl 28 (by decide) (mm k_fl_Model_56) rfl rfl d_Model_order_76 ?_
          refine J_iload_n X d_Model_order_79 2 rfl rfl ?_
          refine J_iload X d_Model_order_80 3 rfl ?_
          refine J_iadd X d_Model_order_82 ?_
          obtain ⟨b83, h⟩ := j_ifn h
          refine J_iald (f := (t.2.1 13)) X 14 0 rfl rfl b83 d_Model_order_83 ?_
          refine J_if_ge X 102 d_Model_order_84 (by decide) (fun c84 => ?_) (fun c84 => ?_)
          · rw [if_pos c84] at h
            refine J_aload_n X d_Model_order_102 0 rfl rfl ?_
            refine J_get (v := .int (t.1 19)) X (fun w h => mm (in_Model w h)) 0 rfl rfl 38 (by decide) (mm k_fl_Model_162) rfl rfl d_Model_order_103 ?_
            refine J_aload_n X d_Model_order_106 0 rfl rfl ?_
            refine J_get (v := .int (t.1 20)) X (fun w h => mm (in_Model w h)) 0 rfl rfl 39 (by decide) (mm k_fl_Model_165) rfl rfl d_Model_order_107 ?_
            refine J_iconst (v := (1 : Int32)) X d_Model_order_110 (by decide) ?_
            refine J_iadd X d_Model_order_111 ?_
            refine J_icmp_ne X 135 d_Model_order_112 (by decide) (fun c112 => ?_) (fun c112 => ?_)
            · rw [if_neg c112] at h
              refine J_lv [0, 1, 2, 3] [(0, .ref (a 0)), (2, .int x2), (3, .int x3), (4, .int x4)] rfl ?_
              exact L135 (m_Model_order_62 n  k) ih x2 x3 x4 t h
            · rw [if_pos c112] at h
              refine J_aload_n X d_Model_order_115 0 rfl rfl ?_
              refine J_get (v := .ref (a 14)) X (fun w h => mm (in_Model w h)) 0 rfl rfl 28 (by decide) (mm k_fl_Model_56) rfl rfl d_Model_order_116 ?_
              refine J_iload_n X d_Model_order_119 2 rfl rfl ?_
              refine J_iload X d_Model_order_120 3 rfl ?_
              refine J_iadd X d_Model_order_122 ?_
              obtain ⟨b123, h⟩ := j_ifn h
              refine J_iald (f := (t.2.1 13)) X 14 0 rfl rfl b123 d_Model_order_123 ?_
              refine J_aload_n X d_Model_order_124 0 rfl rfl ?_
              refine J_get (v := .int (t.1 19)) X (fun w h => mm (in_Model w h)) 0 rfl rfl 38 (by decide) (mm k_fl_Model_162) rfl rfl d_Model_order_125 ?_
              refine J_icmp_ne X 135 d_Model_order_128 (by decide) (fun c128 => ?_) (fun c128 => ?_)
              · rw [if_neg c128] at h
                refine J_lv [0, 1, 2, 3] [(0, .ref (a 0)), (2, .int x2), (3, .int x3), (4, .int x4)] rfl ?_
                exact L135 (m_Model_order_62 n  k) ih x2 x3 x4 t h
              · rw [if_pos c128] at h
                refine J_iconst (v := (1 : Int32)) X d_Model_order_131 (by decide) ?_
                refine J_goto X 136 d_Model_order_132 (by decide) ?_
                refine J_lv [0, 1, 2, 3] [(0, .ref (a 0)), (2, .int x2), (3, .int x3), (4, .int x4)] rfl ?_
                exact L136 (m_Model_order_62 n  k) ih x2 x3 x4 (1 : Int32) t h
          · rw [if_neg c84] at h
            refine J_aload_n X d_Model_order_87 0 rfl rfl ?_
            refine J_get (v := .int (t.1 19)) X (fun w h => mm (in_Model w h)) 0 rfl rfl 38 (by decide) (mm k_fl_Model_162) rfl rfl d_Model_order_88 ?_
            refine J_if_ne X 98 d_Model_order_91 (by decide) (fun c91 => ?_) (fun c91 => ?_)
            · rw [if_neg c91] at h
              refine J_iconst (v := (0 : Int32)) X d_Model_order_98 (by decide) ?_
              refine J_goto X 136 d_Model_order_99 (by decide) ?_
              refine J_lv [0, 1, 2, 3] [(0, .ref (a 0)), (2, .int x2), (3, .int x3), (4, .int x4)] rfl ?_
              exact L136 (m_Model_order_62 n  k) ih x2 x3 x4 (0 : Int32) t h
            · rw [if_pos c91] at h
              refine J_iconst (v := (1 : Int32)) X d_Model_order_94 (by decide) ?_
              refine J_goto X 136 d_Model_order_95 (by decide) ?_
              refine J_lv [0, 1, 2, 3] [(0, .ref (a 0)), (2, .int x2), (3, .int x3), (4, .int x4)] rfl ?_
              exact L136 (m_Model_order_62 n  k) ih x2 x3 x4 (1 : Int32) t h
  have L56 : ∀ (x2 : Int32) (x3 : Int32) (t : St), m_Model_order_56 n  x2 x3 t = some z → J p l e { frames := 1, cells := 0, slots := 0, locals := 22 } s m args below meth c 7 (dC, dI) vwCl A (MQ below (jQv (dC, dI) vwCl (tyA cI cB cJ cZ) (fun _ : Unit => wM cI cB cJ cZ a z) A) args s 0 0 A) 0 0 56 [(0, .ref (a 0)), (2, .int x2), (3, .int x3)] [] (wM cI cB cJ cZ a t) := by
    intro x2 x3 t h
    unfold m_Model_order_56 at h
    refine J_aload_n X d_Model_order_56 0 rfl rfl ?_
    refine J_get (v := .int (t.1 17)) X (fun w h => mm (in_Model w h)) 0 rfl rfl 36 (by decide) (mm k_fl_Model_156) rfl rfl d_Model_order_57 ?_
    refine J_istore X [(4, .int (t.1 17)), (0, .ref (a 0)), (2, .int x2), (3, .int x3)] d_Model_order_60 (by decide) rfl ?_
    refine J_lv [1, 2, 3, 0] [(0, .ref (a 0)), (2, .int x2), (3, .int x3), (4, .int (t.1 17))] rfl ?_
    exact L62  n x2 x3 (t.1 17) t h
  have L42 : ∀ (x1 : Int32) (x2 : Int32) (x3 : Int32) (t : St), m_Model_order_42 n  x1 x2 x3 t = some z → J p l e { frames := 1, cells := 0, slots := 0, locals := 22 } s m args below meth c 7 (dC, dI) vwCl A (MQ below (jQv (dC, dI) vwCl (tyA cI cB cJ cZ) (fun _ : Unit => wM cI cB cJ cZ a z) A) args s 0 0 A) 0 0 42 [(0, .ref (a 0)), (1, .int x1), (2, .int x2), (3, .int x3)] [] (wM cI cB cJ cZ a t) := by
    intro x1 x2 x3 t h
    unfold m_Model_order_42 at h
    refine J_aload_n X d_Model_order_42 0 rfl rfl ?_
    refine J_bipush (v := (7 : Int32)) X d_Model_order_43 (by decide) ?_
    refine J_aload_n X d_Model_order_45 0 rfl rfl ?_
    refine J_get (v := .ref (a 18)) X (fun w h => mm (in_Model w h)) 0 rfl rfl 33 (by decide) (mm k_fl_Model_68) rfl rfl d_Model_order_46 ?_
    refine J_iload_n X d_Model_order_49 1 rfl rfl ?_
    obtain ⟨b50, h⟩ := j_ifn h
    refine J_iald (f := (t.2.1 17)) X 18 0 rfl rfl b50 d_Model_order_50 ?_
    obtain ⟨z51, hz51, h⟩ := j_bind h
    refine J_callVi0 (n := 2) (wc := (wM cI cB cJ cZ a t)) (r := z51.1) (w1 := fun _ : Unit => wM cI cB cJ cZ a z51.2) X isM (hCM cI cB cJ cZ a t) (hDM cI cB cJ cZ a t) rfl [.int (7 : Int32), .int ((t.2.1 17) (x1).toNatClampNeg)] [] (ct_Model_wrong l dC dI cI cB cJ cZ a n (7 : Int32) ((t.2.1 17) (x1).toNatClampNeg) t hz51) (aw_V (fun w h => mm h) k_ml_Model_120 k_im_Model_wrong k_se_Model_wrong k_in_Model k_cd_Model_wrong) rfl (by decide +kernel) ⟨(Nat.le_of_ble_eq_true rfl), (Nat.le_of_ble_eq_true rfl)⟩ (q0 := 0) rfl rfl rfl rfl (Nat.le_of_ble_eq_true rfl) d_Model_order_51 ⟨(Nat.le_of_ble_eq_true rfl), (Nat.le_of_ble_eq_true rfl)⟩ (fun _ => ?_)
    refine J_istore X [(4, .int z51.1), (0, .ref (a 0)), (1, .int x1), (2, .int x2), (3, .int x3)] d_Model_order_54 (by decide) rfl ?_
    refine J_lv [1, 3, 4] [(0, .ref (a 0)), (2, .int x2), (3, .int x3)] rfl ?_
    exact L56  x2 x3 z51.2 h
  refine J_lv [0, 1, 2] [(0, .ref (a 0)), (1, .int x1), (2, .int x2)] rfl ?_
  unfold m_Model_order at h
  refine J_bipush (v := (64 : Int32)) X d_Model_order_0 (by decide) ?_
  refine J_aload_n X d_Model_order_2 0 rfl rfl ?_
  refine J_get (v := .ref (a 15)) X (fun w h => mm (in_Model w h)) 0 rfl rfl 30 (by decide) (mm k_fl_Model_59) rfl rfl d_Model_order_3 ?_
  refine J_iload_n X d_Model_order_6 1 rfl rfl ?_
  obtain ⟨b7, h⟩ := j_ifn h
  refine J_iald (f := (t.2.1 14)) X 15 0 rfl rfl b7 d_Model_order_7 ?_
  refine J_imul X d_Model_order_8 ?_
  refine J_istore_n X [(3, .int ((64 : Int32) * ((t.2.1 14) (x1).toNatClampNeg))), (0, .ref (a 0)), (1, .int x1), (2, .int x2)] d_Model_order_9 rfl (by decide) rfl ?_
  refine J_iload_n X d_Model_order_10 3 rfl rfl ?_
  refine J_if_eq X 33 d_Model_order_11 (by decide) (fun c11 => ?_) (fun c11 => ?_)
  · rw [if_pos c11] at h
    refine J_aload_n X d_Model_order_33 1 rfl rfl ?_
    refine J_get (v := .ref (a 14)) X (fun w h => mm (in_Model w h)) 0 rfl rfl 28 (by decide) (mm k_fl_Model_56) rfl rfl d_Model_order_34 ?_
    refine J_iload_n X d_Model_order_37 0 rfl rfl ?_
    obtain ⟨b38, h⟩ := j_ifn h
    refine J_iald (f := (t.2.1 13)) X 14 0 rfl rfl b38 d_Model_order_38 ?_
    refine J_if_lt X 56 d_Model_order_39 (by decide) (fun c39 => ?_) (fun c39 => ?_)
    · rw [if_pos c39] at h
      refine J_lv [1, 3, 0] [(0, .ref (a 0)), (2, .int x2), (3, .int ((64 : Int32) * ((t.2.1 14) (x1).toNatClampNeg)))] rfl ?_
      exact L56  x2 ((64 : Int32) * ((t.2.1 14) (x1).toNatClampNeg)) t h
    · rw [if_neg c39] at h
      refine J_lv [1, 2, 3, 0] [(0, .ref (a 0)), (1, .int x1), (2, .int x2), (3, .int ((64 : Int32) * ((t.2.1 14) (x1).toNatClampNeg)))] rfl ?_
      exact L42  x1 x2 ((64 : Int32) * ((t.2.1 14) (x1).toNatClampNeg)) t h
  · rw [if_neg c11] at h
    refine J_aload_n X d_Model_order_14 1 rfl rfl ?_
    refine J_get (v := .int (t.1 17)) X (fun w h => mm (in_Model w h)) 0 rfl rfl 36 (by decide) (mm k_fl_Model_156) rfl rfl d_Model_order_15 ?_
    refine J_if_le X 56 d_Model_order_18 (by decide) (fun c18 => ?_) (fun c18 => ?_)
    · rw [if_pos c18] at h
      refine J_lv [1, 3, 0] [(0, .ref (a 0)), (2, .int x2), (3, .int ((64 : Int32) * ((t.2.1 14) (x1).toNatClampNeg)))] rfl ?_
      exact L56  x2 ((64 : Int32) * ((t.2.1 14) (x1).toNatClampNeg)) t h
    · rw [if_neg c18] at h
      refine J_aload_n X d_Model_order_21 1 rfl rfl ?_
      refine J_get (v := .ref (a 14)) X (fun w h => mm (in_Model w h)) 0 rfl rfl 28 (by decide) (mm k_fl_Model_56) rfl rfl d_Model_order_22 ?_
      refine J_iload_n X d_Model_order_25 0 rfl rfl ?_
      obtain ⟨b26, h⟩ := j_ifn h
      refine J_iald (f := (t.2.1 13)) X 14 0 rfl rfl b26 d_Model_order_26 ?_
      refine J_if_ge X 56 d_Model_order_27 (by decide) (fun c27 => ?_) (fun c27 => ?_)
      · rw [if_pos c27] at h
        refine J_lv [1, 3, 0] [(0, .ref (a 0)), (2, .int x2), (3, .int ((64 : Int32) * ((t.2.1 14) (x1).toNatClampNeg)))] rfl ?_
        exact L56  x2 ((64 : Int32) * ((t.2.1 14) (x1).toNatClampNeg)) t h
      · rw [if_neg c27] at h
        refine J_goto X 42 d_Model_order_30 (by decide) ?_
        refine J_lv [1, 2, 3, 0] [(0, .ref (a 0)), (1, .int x1), (2, .int x2), (3, .int ((64 : Int32) * ((t.2.1 14) (x1).toNatClampNeg)))] rfl ?_
        exact L42  x1 x2 ((64 : Int32) * ((t.2.1 14) (x1).toNatClampNeg)) t h

set_option maxHeartbeats 4000000 in
set_option maxRecDepth 100000 in
theorem ct_Model_readFile (l : Launch) (dC : Nat → ClassId) (dI : Nat → Nat → Nat) (cI cB cJ cZ : ClassId) (a : Nat → Nat) (n : Nat)  (t : St) {z : St} (h : m_Model_readFile n t = some z) : jMv l y_Model_readFile w_Model_readFile ({ frames := 5, cells := 0, slots := 0, locals := 115 }) (dC, dI) vwCl (tyA cI cB cJ cZ) [.ref (a 0)] (wM cI cB cJ cZ a t) (fun _ : Unit => wM cI cB cJ cZ a z) := by
  refine jMv.of (cc := c_Model_readFile) (maxL := 9) (ret := none) (by decide) rfl (Nat.le_of_ble_eq_true rfl) ?_
  intro p e s m args below meth c A X hr hlk hnm
  have L273 : ∀ (K56 : Int32 → Int32 → St → Option (St)) (hK56 : ∀ (x2 : Int32) (x3 : Int32) (t : St), K56 x2 x3 t = some z → J p l e { frames := 5, cells := 0, slots := 0, locals := 115 } s m args below meth c 9 (dC, dI) vwCl A (MQ below (jQv (dC, dI) vwCl (tyA cI cB cJ cZ) (fun _ : Unit => wM cI cB cJ cZ a z) A) args s 0 0 A) 0 0 56 [(0, .ref (a 0)), (2, .int x2), (3, .int x3)] [] (wM cI cB cJ cZ a t)) (x2 : Int32) (x3 : Int32) (t : St), m_Model_readFile_273 n K56 x2 x3 t = some z → J p l e { frames := 5, cells := 0, slots := 0, locals := 115 } s m args below meth c 9 (dC, dI) vwCl A (MQ below (jQv (dC, dI) vwCl (tyA cI cB cJ cZ) (fun _ : Unit => wM cI cB cJ cZ a z) A) args s 0 0 A) 0 0 273 [(0, .ref (a 0)), (2, .int x2), (3, .int x3)] [] (wM cI cB cJ cZ a t) := by
    intro K56 hK56 x2 x3 t h
    unfold m_Model_readFile_273 at h
    refine J_goto X 56 d_Model_readFile_273 (by decide) ?_
    refine J_lv [0, 1, 2] [(0, .ref (a 0)), (2, .int x2), (3, .int x3)] rfl ?_
    exact hK56 x2 x3 t h
  have L259 : ∀ (K56 : Int32 → Int32 → St → Option (St)) (hK56 : ∀ (x2 : Int32) (x3 : Int32) (t : St), K56 x2 x3 t = some z → J p l e { frames := 5, cells := 0, slots := 0, locals := 115 } s m args below meth c 9 (dC, dI) vwCl A (MQ below (jQv (dC, dI) vwCl (tyA cI cB cJ cZ) (fun _ : Unit => wM cI cB cJ cZ a z) A) args s 0 0 A) 0 0 56 [(0, .ref (a 0)), (2, .int x2), (3, .int x3)] [] (wM cI cB cJ cZ a t)) (x2 : Int32) (x3 : Int32) (x4 : Int32) (t : St), m_Model_readFile_259 n K56 x2 x3 x4 t = some z → J p l e { frames := 5, cells := 0, slots := 0, locals := 115 } s m args below meth c 9 (dC, dI) vwCl A (MQ below (jQv (dC, dI) vwCl (tyA cI cB cJ cZ) (fun _ : Unit => wM cI cB cJ cZ a z) A) args s 0 0 A) 0 0 259 [(0, .ref (a 0)), (2, .int x2), (3, .int x3), (4, .int x4)] [] (wM cI cB cJ cZ a t) := by
    intro K56 hK56 x2 x3 x4 t h
    unfold m_Model_readFile_259 at h
    refine J_aload_n X d_Model_readFile_259 0 rfl rfl ?_
    refine J_get (v := .int (t.1 2)) X (fun w h => mm (in_Model w h)) 0 rfl rfl 3 (by decide) (mm k_fl_Model_107) rfl rfl d_Model_readFile_260 ?_
    refine J_if_ne X 273 d_Model_readFile_263 (by decide) (fun c263 => ?_) (fun c263 => ?_)
    · rw [if_neg c263] at h
      refine J_lv [0, 1, 2] [(0, .ref (a 0)), (2, .int x2), (3, .int x3)] rfl ?_
      exact L273 K56 hK56 x2 x3 t h
    · rw [if_pos c263] at h
      refine J_aload_n X d_Model_readFile_266 0 rfl rfl ?_
      refine J_iload X d_Model_readFile_267 3 rfl ?_
      obtain ⟨z269, hz269, h⟩ := j_bind h
      refine J_callVi0 (n := 1) (wc := (wM cI cB cJ cZ a t)) (r := z269.1) (w1 := fun _ : Unit => wM cI cB cJ cZ a z269.2) X isM (hCM cI cB cJ cZ a t) (hDM cI cB cJ cZ a t) rfl [.int x4] [] (ct_Model_segment1 l dC dI cI cB cJ cZ a n x4 t hz269) (aw_V (fun w h => mm h) k_ml_Model_185 k_im_Model_segment1 k_se_Model_segment1 k_in_Model k_cd_Model_segment1) rfl (by decide +kernel) ⟨(Nat.le_of_ble_eq_true rfl), (Nat.le_of_ble_eq_true rfl)⟩ (q0 := 0) rfl rfl rfl rfl (Nat.le_of_ble_eq_true rfl) d_Model_readFile_269 ⟨(Nat.le_of_ble_eq_true rfl), (Nat.le_of_ble_eq_true rfl)⟩ (fun _ => ?_)
      refine J_istore_n X [(2, .int z269.1), (0, .ref (a 0)), (3, .int x3), (4, .int x4)] d_Model_readFile_272 rfl (by decide) rfl ?_
      refine J_lv [1, 0, 2] [(0, .ref (a 0)), (2, .int z269.1), (3, .int x3)] rfl ?_
      exact L273 K56 hK56 z269.1 x3 z269.2 h
  have L231 : ∀ (K56 : Int32 → Int32 → St → Option (St)) (hK56 : ∀ (x2 : Int32) (x3 : Int32) (t : St), K56 x2 x3 t = some z → J p l e { frames := 5, cells := 0, slots := 0, locals := 115 } s m args below meth c 9 (dC, dI) vwCl A (MQ below (jQv (dC, dI) vwCl (tyA cI cB cJ cZ) (fun _ : Unit => wM cI cB cJ cZ a z) A) args s 0 0 A) 0 0 56 [(0, .ref (a 0)), (2, .int x2), (3, .int x3)] [] (wM cI cB cJ cZ a t)) (x2 : Int32) (x3 : Int32) (x4 : Int32) (t : St), m_Model_readFile_231 n K56 x2 x3 x4 t = some z → J p l e { frames := 5, cells := 0, slots := 0, locals := 115 } s m args below meth c 9 (dC, dI) vwCl A (MQ below (jQv (dC, dI) vwCl (tyA cI cB cJ cZ) (fun _ : Unit => wM cI cB cJ cZ a z) A) args s 0 0 A) 0 0 231 [(0, .ref (a 0)), (2, .int x2), (3, .int x3), (4, .int x4)] [] (wM cI cB cJ cZ a t) := by
    intro K56 hK56 x2 x3 x4 t h
    unfold m_Model_readFile_231 at h
    refine J_aload_n X d_Model_readFile_231 0 rfl rfl ?_
    refine J_get (v := .int (t.1 2)) X (fun w h => mm (in_Model w h)) 0 rfl rfl 3 (by decide) (mm k_fl_Model_107) rfl rfl d_Model_readFile_232 ?_
    refine J_if_ne X 259 d_Model_readFile_235 (by decide) (fun c235 => ?_) (fun c235 => ?_)
    · rw [if_neg c235] at h
      refine J_lv [0, 1, 2, 3] [(0, .ref (a 0)), (2, .int x2), (3, .int x3), (4, .int x4)] rfl ?_
      exact L259 K56 hK56 x2 x3 x4 t h
    · rw [if_pos c235] at h
      refine J_iload X d_Model_readFile_238 3 rfl ?_
      refine J_sipush (v := (217 : Int32)) X d_Model_readFile_240 (by decide) ?_
      refine J_icmp_ne X 259 d_Model_readFile_243 (by decide) (fun c243 => ?_) (fun c243 => ?_)
      · rw [if_neg c243] at h
        refine J_lv [0, 1, 2, 3] [(0, .ref (a 0)), (2, .int x2), (3, .int x3), (4, .int x4)] rfl ?_
        exact L259 K56 hK56 x2 x3 x4 t h
      · rw [if_pos c243] at h
        refine J_aload_n X d_Model_readFile_246 0 rfl rfl ?_
        refine J_aload_n X d_Model_readFile_247 0 rfl rfl ?_
        refine J_get (v := .int (t.1 4)) X (fun w h => mm (in_Model w h)) 0 rfl rfl 5 (by decide) (mm k_fl_Model_113) rfl rfl d_Model_readFile_248 ?_
        refine J_put (ty := .int) (v := .int (t.1 4)) X (fun w h => mm (in_Model w h)) ty_Model tyk_Model nm_Model 0 rfl rfl 8 (by decide) (mm k_fl_Model_80) rfl rfl (by decide +kernel) rfl rfl (Nat.le_of_ble_eq_true rfl) d_Model_readFile_251 (wM cI cB cJ cZ a (sG t 7 (t.1 4))) rfl ?_
        refine J_iconst (v := (0 : Int32)) X d_Model_readFile_254 (by decide) ?_
        refine J_istore_n X [(3, .int (0 : Int32)), (0, .ref (a 0)), (2, .int x2), (4, .int x4)] d_Model_readFile_255 rfl (by decide) rfl ?_
        refine J_goto X 273 d_Model_readFile_256 (by decide) ?_
        refine J_lv [1, 2, 0] [(0, .ref (a 0)), (2, .int x2), (3, .int (0 : Int32))] rfl ?_
        exact L273 K56 hK56 x2 (0 : Int32) (sG t 7 (t.1 4)) h
  have L222 : ∀ (K56 : Int32 → Int32 → St → Option (St)) (hK56 : ∀ (x2 : Int32) (x3 : Int32) (t : St), K56 x2 x3 t = some z → J p l e { frames := 5, cells := 0, slots := 0, locals := 115 } s m args below meth c 9 (dC, dI) vwCl A (MQ below (jQv (dC, dI) vwCl (tyA cI cB cJ cZ) (fun _ : Unit => wM cI cB cJ cZ a z) A) args s 0 0 A) 0 0 56 [(0, .ref (a 0)), (2, .int x2), (3, .int x3)] [] (wM cI cB cJ cZ a t)) (x2 : Int32) (x3 : Int32) (x4 : Int32) (x5 : Int32) (t : St), m_Model_readFile_222 n K56 x2 x3 x4 x5 t = some z → J p l e { frames := 5, cells := 0, slots := 0, locals := 115 } s m args below meth c 9 (dC, dI) vwCl A (MQ below (jQv (dC, dI) vwCl (tyA cI cB cJ cZ) (fun _ : Unit => wM cI cB cJ cZ a z) A) args s 0 0 A) 0 0 222 [(0, .ref (a 0)), (2, .int x2), (3, .int x3), (4, .int x4), (5, .int x5)] [] (wM cI cB cJ cZ a t) := by
    intro K56 hK56 x2 x3 x4 x5 t h
    unfold m_Model_readFile_222 at h
    refine J_aload_n X d_Model_readFile_222 0 rfl rfl ?_
    refine J_iconst (v := (4 : Int32)) X d_Model_readFile_223 (by decide) ?_
    refine J_iload X d_Model_readFile_224 4 rfl ?_
    obtain ⟨z226, hz226, h⟩ := j_bind h
    refine J_callVi0 (n := 2) (wc := (wM cI cB cJ cZ a t)) (r := z226.1) (w1 := fun _ : Unit => wM cI cB cJ cZ a z226.2) X isM (hCM cI cB cJ cZ a t) (hDM cI cB cJ cZ a t) rfl [.int (4 : Int32), .int x5] [] (ct_Model_wrong l dC dI cI cB cJ cZ a n (4 : Int32) x5 t hz226) (aw_V (fun w h => mm h) k_ml_Model_120 k_im_Model_wrong k_se_Model_wrong k_in_Model k_cd_Model_wrong) rfl (by decide +kernel) ⟨(Nat.le_of_ble_eq_true rfl), (Nat.le_of_ble_eq_true rfl)⟩ (q0 := 0) rfl rfl rfl rfl (Nat.le_of_ble_eq_true rfl) d_Model_readFile_226 ⟨(Nat.le_of_ble_eq_true rfl), (Nat.le_of_ble_eq_true rfl)⟩ (fun _ => ?_)
    refine J_istore X [(8, .int z226.1), (0, .ref (a 0)), (2, .int x2), (3, .int x3), (4, .int x4), (5, .int x5)] d_Model_readFile_229 (by decide) rfl ?_
    refine J_lv [1, 2, 3, 4] [(0, .ref (a 0)), (2, .int x2), (3, .int x3), (4, .int x4)] rfl ?_
    exact L231 K56 hK56 x2 x3 x4 z226.2 h
  have L192 : ∀ (K56 : Int32 → Int32 → St → Option (St)) (hK56 : ∀ (x2 : Int32) (x3 : Int32) (t : St), K56 x2 x3 t = some z → J p l e { frames := 5, cells := 0, slots := 0, locals := 115 } s m args below meth c 9 (dC, dI) vwCl A (MQ below (jQv (dC, dI) vwCl (tyA cI cB cJ cZ) (fun _ : Unit => wM cI cB cJ cZ a z) A) args s 0 0 A) 0 0 56 [(0, .ref (a 0)), (2, .int x2), (3, .int x3)] [] (wM cI cB cJ cZ a t)) (x2 : Int32) (x3 : Int32) (x4 : Int32) (x5 : Int32) (x6 : Int32) (y0 : Int32) (t : St), m_Model_readFile_192 n K56 x2 x3 x4 x5 x6 y0 t = some z → J p l e { frames := 5, cells := 0, slots := 0, locals := 115 } s m args below meth c 9 (dC, dI) vwCl A (MQ below (jQv (dC, dI) vwCl (tyA cI cB cJ cZ) (fun _ : Unit => wM cI cB cJ cZ a z) A) args s 0 0 A) 0 0 192 [(0, .ref (a 0)), (2, .int x2), (3, .int x3), (4, .int x4), (5, .int x5), (6, .int x6)] [.int y0] (wM cI cB cJ cZ a t) := by
    intro K56 hK56 x2 x3 x4 x5 x6 y0 t h
    unfold m_Model_readFile_192 at h
    refine J_istore X [(7, .int y0), (0, .ref (a 0)), (2, .int x2), (3, .int x3), (4, .int x4), (5, .int x5), (6, .int x6)] d_Model_readFile_192 (by decide) rfl ?_
    refine J_aload_n X d_Model_readFile_194 1 rfl rfl ?_
    refine J_get (v := .int (t.1 2)) X (fun w h => mm (in_Model w h)) 0 rfl rfl 3 (by decide) (mm k_fl_Model_107) rfl rfl d_Model_readFile_195 ?_
    refine J_if_ne X 231 d_Model_readFile_198 (by decide) (fun c198 => ?_) (fun c198 => ?_)
    · rw [if_neg c198] at h
      refine J_lv [1, 2, 3, 4] [(0, .ref (a 0)), (2, .int x2), (3, .int x3), (4, .int x4)] rfl ?_
      exact L231 K56 hK56 x2 x3 x4 t h
    · rw [if_pos c198] at h
      refine J_iload X d_Model_readFile_201 6 rfl ?_
      refine J_if_eq X 217 d_Model_readFile_203 (by decide) (fun c203 => ?_) (fun c203 => ?_)
      · rw [if_pos c203] at h
        refine J_iload X d_Model_readFile_217 0 rfl ?_
        refine J_if_ne X 231 d_Model_readFile_219 (by decide) (fun c219 => ?_) (fun c219 => ?_)
        · rw [if_neg c219] at h
          refine J_lv [1, 2, 3, 4] [(0, .ref (a 0)), (2, .int x2), (3, .int x3), (4, .int x4)] rfl ?_
          exact L231 K56 hK56 x2 x3 x4 t h
        · rw [if_pos c219] at h
          refine J_lv [1, 2, 3, 4, 5] [(0, .ref (a 0)), (2, .int x2), (3, .int x3), (4, .int x4), (5, .int x5)] rfl ?_
          exact L222 K56 hK56 x2 x3 x4 x5 t h
      · rw [if_neg c203] at h
        refine J_iload X d_Model_readFile_206 4 rfl ?_
        refine J_sipush (v := (220 : Int32)) X d_Model_readFile_208 (by decide) ?_
        refine J_icmp_eq X 231 d_Model_readFile_211 (by decide) (fun c211 => ?_) (fun c211 => ?_)
        · rw [if_pos c211] at h
          refine J_lv [1, 2, 3, 4] [(0, .ref (a 0)), (2, .int x2), (3, .int x3), (4, .int x4)] rfl ?_
          exact L231 K56 hK56 x2 x3 x4 t h
        · rw [if_neg c211] at h
          refine J_goto X 222 d_Model_readFile_214 (by decide) ?_
          refine J_lv [1, 2, 3, 4, 5] [(0, .ref (a 0)), (2, .int x2), (3, .int x3), (4, .int x4), (5, .int x5)] rfl ?_
          exact L222 K56 hK56 x2 x3 x4 x5 t h
  have L187 : ∀ (K56 : Int32 → Int32 → St → Option (St)) (hK56 : ∀ (x2 : Int32) (x3 : Int32) (t : St), K56 x2 x3 t = some z → J p l e { frames := 5, cells := 0, slots := 0, locals := 115 } s m args below meth c 9 (dC, dI) vwCl A (MQ below (jQv (dC, dI) vwCl (tyA cI cB cJ cZ) (fun _ : Unit => wM cI cB cJ cZ a z) A) args s 0 0 A) 0 0 56 [(0, .ref (a 0)), (2, .int x2), (3, .int x3)] [] (wM cI cB cJ cZ a t)) (x2 : Int32) (x3 : Int32) (x4 : Int32) (x5 : Int32) (x6 : Int32) (t : St), m_Model_readFile_187 n K56 x2 x3 x4 x5 x6 t = some z → J p l e { frames := 5, cells := 0, slots := 0, locals := 115 } s m args below meth c 9 (dC, dI) vwCl A (MQ below (jQv (dC, dI) vwCl (tyA cI cB cJ cZ) (fun _ : Unit => wM cI cB cJ cZ a z) A) args s 0 0 A) 0 0 187 [(0, .ref (a 0)), (2, .int x2), (3, .int x3), (4, .int x4), (5, .int x5), (6, .int x6)] [] (wM cI cB cJ cZ a t) := by
    intro K56 hK56 x2 x3 x4 x5 x6 t h
    unfold m_Model_readFile_187 at h
    refine J_iconst (v := (1 : Int32)) X d_Model_readFile_187 (by decide) ?_
    refine J_goto X 192 d_Model_readFile_188 (by decide) ?_
    refine J_lv [0, 1, 2, 3, 4, 5] [(0, .ref (a 0)), (2, .int x2), (3, .int x3), (4, .int x4), (5, .int x5), (6, .int x6)] rfl ?_
    exact L192 K56 hK56 x2 x3 x4 x5 x6 (1 : Int32) t h
  have L191 : ∀ (K56 : Int32 → Int32 → St → Option (St)) (hK56 : ∀ (x2 : Int32) (x3 : Int32) (t : St), K56 x2 x3 t = some z → J p l e { frames := 5, cells := 0, slots := 0, locals := 115 } s m args below meth c 9 (dC, dI) vwCl A (MQ below (jQv (dC, dI) vwCl (tyA cI cB cJ cZ) (fun _ : Unit => wM cI cB cJ cZ a z) A) args s 0 0 A) 0 0 56 [(0, .ref (a 0)), (2, .int x2), (3, .int x3)] [] (wM cI cB cJ cZ a t)) (x2 : Int32) (x3 : Int32) (x4 : Int32) (x5 : Int32) (x6 : Int32) (t : St), m_Model_readFile_191 n K56 x2 x3 x4 x5 x6 t = some z → J p l e { frames := 5, cells := 0, slots := 0, locals := 115 } s m args below meth c 9 (dC, dI) vwCl A (MQ below (jQv (dC, dI) vwCl (tyA cI cB cJ cZ) (fun _ : Unit => wM cI cB cJ cZ a z) A) args s 0 0 A) 0 0 191 [(0, .ref (a 0)), (2, .int x2), (3, .int x3), (4, .int x4), (5, .int x5), (6, .int x6)] [] (wM cI cB cJ cZ a t) := by
    intro K56 hK56 x2 x3 x4 x5 x6 t h
    unfold m_Model_readFile_191 at h
    refine J_iconst (v := (0 : Int32)) X d_Model_readFile_191 (by decide) ?_
    refine J_lv [0, 1, 2, 3, 4, 5] [(0, .ref (a 0)), (2, .int x2), (3, .int x3), (4, .int x4), (5, .int x5), (6, .int x6)] rfl ?_
    exact L192 K56 hK56 x2 x3 x4 x5 x6 (0 : Int32) t h
  have L172 : ∀ (K56 : Int32 → Int32 → St → Option (St)) (hK56 : ∀ (x2 : Int32) (x3 : Int32) (t : St), K56 x2 x3 t = some z → J p l e { frames := 5, cells := 0, slots := 0, locals := 115 } s m args below meth c 9 (dC, dI) vwCl A (MQ below (jQv (dC, dI) vwCl (tyA cI cB cJ cZ) (fun _ : Unit => wM cI cB cJ cZ a z) A) args s 0 0 A) 0 0 56 [(0, .ref (a 0)), (2, .int x2), (3, .int x3)] [] (wM cI cB cJ cZ a t)) (x2 : Int32) (x3 : Int32) (x4 : Int32) (x5 : Int32) (x6 : Int32) (t : St), m_Model_readFile_172 n K56 x2 x3 x4 x5 x6 t = some z → J p l e { frames := 5, cells := 0, slots := 0, locals := 115 } s m args below meth c 9 (dC, dI) vwCl A (MQ below (jQv (dC, dI) vwCl (tyA cI cB cJ cZ) (fun _ : Unit => wM cI cB cJ cZ a z) A) args s 0 0 A) 0 0 172 [(0, .ref (a 0)), (2, .int x2), (3, .int x3), (4, .int x4), (5, .int x5), (6, .int x6)] [] (wM cI cB cJ cZ a t) := by
    intro K56 hK56 x2 x3 x4 x5 x6 t h
    unfold m_Model_readFile_172 at h
    refine J_iload X d_Model_readFile_172 3 rfl ?_
    refine J_sipush (v := (218 : Int32)) X d_Model_readFile_174 (by decide) ?_
    refine J_icmp_ne X 191 d_Model_readFile_177 (by decide) (fun c177 => ?_) (fun c177 => ?_)
    · rw [if_neg c177] at h
      refine J_lv [0, 1, 2, 3, 4, 5] [(0, .ref (a 0)), (2, .int x2), (3, .int x3), (4, .int x4), (5, .int x5), (6, .int x6)] rfl ?_
      exact L191 K56 hK56 x2 x3 x4 x5 x6 t h
    · rw [if_pos c177] at h
      refine J_aload_n X d_Model_readFile_180 0 rfl rfl ?_
      refine J_get (v := .int (t.1 9)) X (fun w h => mm (in_Model w h)) 0 rfl rfl 11 (by decide) (mm k_fl_Model_86) rfl rfl d_Model_readFile_181 ?_
      refine J_if_le X 191 d_Model_readFile_184 (by decide) (fun c184 => ?_) (fun c184 => ?_)
      · rw [if_pos c184] at h
        refine J_lv [0, 1, 2, 3, 4, 5] [(0, .ref (a 0)), (2, .int x2), (3, .int x3), (4, .int x4), (5, .int x5), (6, .int x6)] rfl ?_
        exact L191 K56 hK56 x2 x3 x4 x5 x6 t h
      · rw [if_neg c184] at h
        refine J_lv [0, 1, 2, 3, 4, 5] [(0, .ref (a 0)), (2, .int x2), (3, .int x3), (4, .int x4), (5, .int x5), (6, .int x6)] rfl ?_
        exact L187 K56 hK56 x2 x3 x4 x5 x6 t h
  have L165 : ∀ (K56 : Int32 → Int32 → St → Option (St)) (hK56 : ∀ (x2 : Int32) (x3 : Int32) (t : St), K56 x2 x3 t = some z → J p l e { frames := 5, cells := 0, slots := 0, locals := 115 } s m args below meth c 9 (dC, dI) vwCl A (MQ below (jQv (dC, dI) vwCl (tyA cI cB cJ cZ) (fun _ : Unit => wM cI cB cJ cZ a z) A) args s 0 0 A) 0 0 56 [(0, .ref (a 0)), (2, .int x2), (3, .int x3)] [] (wM cI cB cJ cZ a t)) (x2 : Int32) (x3 : Int32) (x4 : Int32) (x5 : Int32) (x6 : Int32) (t : St), m_Model_readFile_165 n K56 x2 x3 x4 x5 x6 t = some z → J p l e { frames := 5, cells := 0, slots := 0, locals := 115 } s m args below meth c 9 (dC, dI) vwCl A (MQ below (jQv (dC, dI) vwCl (tyA cI cB cJ cZ) (fun _ : Unit => wM cI cB cJ cZ a z) A) args s 0 0 A) 0 0 165 [(0, .ref (a 0)), (2, .int x2), (3, .int x3), (4, .int x4), (5, .int x5), (6, .int x6)] [] (wM cI cB cJ cZ a t) := by
    intro K56 hK56 x2 x3 x4 x5 x6 t h
    unfold m_Model_readFile_165 at h
    refine J_aload_n X d_Model_readFile_165 0 rfl rfl ?_
    refine J_get (v := .int (t.1 9)) X (fun w h => mm (in_Model w h)) 0 rfl rfl 11 (by decide) (mm k_fl_Model_86) rfl rfl d_Model_readFile_166 ?_
    refine J_if_eq X 187 d_Model_readFile_169 (by decide) (fun c169 => ?_) (fun c169 => ?_)
    · rw [if_pos c169] at h
      refine J_lv [0, 1, 2, 3, 4, 5] [(0, .ref (a 0)), (2, .int x2), (3, .int x3), (4, .int x4), (5, .int x5), (6, .int x6)] rfl ?_
      exact L187 K56 hK56 x2 x3 x4 x5 x6 t h
    · rw [if_neg c169] at h
      refine J_lv [0, 1, 2, 3, 4, 5] [(0, .ref (a 0)), (2, .int x2), (3, .int x3), (4, .int x4), (5, .int x5), (6, .int x6)] rfl ?_
      exact L172 K56 hK56 x2 x3 x4 x5 x6 t h
  have L117 : ∀ (K56 : Int32 → Int32 → St → Option (St)) (hK56 : ∀ (x2 : Int32) (x3 : Int32) (t : St), K56 x2 x3 t = some z → J p l e { frames := 5, cells := 0, slots := 0, locals := 115 } s m args below meth c 9 (dC, dI) vwCl A (MQ below (jQv (dC, dI) vwCl (tyA cI cB cJ cZ) (fun _ : Unit => wM cI cB cJ cZ a z) A) args s 0 0 A) 0 0 56 [(0, .ref (a 0)), (2, .int x2), (3, .int x3)] [] (wM cI cB cJ cZ a t)) (x2 : Int32) (x3 : Int32) (x4 : Int32) (x5 : Int32) (x6 : Int32) (t : St), m_Model_readFile_117 n K56 x2 x3 x4 x5 x6 t = some z → J p l e { frames := 5, cells := 0, slots := 0, locals := 115 } s m args below meth c 9 (dC, dI) vwCl A (MQ below (jQv (dC, dI) vwCl (tyA cI cB cJ cZ) (fun _ : Unit => wM cI cB cJ cZ a z) A) args s 0 0 A) 0 0 117 [(0, .ref (a 0)), (2, .int x2), (3, .int x3), (4, .int x4), (5, .int x5), (6, .int x6)] [] (wM cI cB cJ cZ a t) := by
    intro K56 hK56 x2 x3 x4 x5 x6 t h
    unfold m_Model_readFile_117 at h
    refine J_iload X d_Model_readFile_117 3 rfl ?_
    refine J_sipush (v := (254 : Int32)) X d_Model_readFile_119 (by decide) ?_
    refine J_icmp_eq X 187 d_Model_readFile_122 (by decide) (fun c122 => ?_) (fun c122 => ?_)
    · rw [if_pos c122] at h
      refine J_lv [0, 1, 2, 3, 4, 5] [(0, .ref (a 0)), (2, .int x2), (3, .int x3), (4, .int x4), (5, .int x5), (6, .int x6)] rfl ?_
      exact L187 K56 hK56 x2 x3 x4 x5 x6 t h
    · rw [if_neg c122] at h
      refine J_iload X d_Model_readFile_125 3 rfl ?_
      refine J_sipush (v := (219 : Int32)) X d_Model_readFile_127 (by decide) ?_
      refine J_icmp_eq X 187 d_Model_readFile_130 (by decide) (fun c130 => ?_) (fun c130 => ?_)
      · rw [if_pos c130] at h
        refine J_lv [0, 1, 2, 3, 4, 5] [(0, .ref (a 0)), (2, .int x2), (3, .int x3), (4, .int x4), (5, .int x5), (6, .int x6)] rfl ?_
        exact L187 K56 hK56 x2 x3 x4 x5 x6 t h
      · rw [if_neg c130] at h
        refine J_iload X d_Model_readFile_133 3 rfl ?_
        refine J_sipush (v := (196 : Int32)) X d_Model_readFile_135 (by decide) ?_
        refine J_icmp_eq X 187 d_Model_readFile_138 (by decide) (fun c138 => ?_) (fun c138 => ?_)
        · rw [if_pos c138] at h
          refine J_lv [0, 1, 2, 3, 4, 5] [(0, .ref (a 0)), (2, .int x2), (3, .int x3), (4, .int x4), (5, .int x5), (6, .int x6)] rfl ?_
          exact L187 K56 hK56 x2 x3 x4 x5 x6 t h
        · rw [if_neg c138] at h
          refine J_iload X d_Model_readFile_141 3 rfl ?_
          refine J_sipush (v := (221 : Int32)) X d_Model_readFile_143 (by decide) ?_
          refine J_icmp_eq X 187 d_Model_readFile_146 (by decide) (fun c146 => ?_) (fun c146 => ?_)
          · rw [if_pos c146] at h
            refine J_lv [0, 1, 2, 3, 4, 5] [(0, .ref (a 0)), (2, .int x2), (3, .int x3), (4, .int x4), (5, .int x5), (6, .int x6)] rfl ?_
            exact L187 K56 hK56 x2 x3 x4 x5 x6 t h
          · rw [if_neg c146] at h
            refine J_iload X d_Model_readFile_149 3 rfl ?_
            refine J_sipush (v := (192 : Int32)) X d_Model_readFile_151 (by decide) ?_
            refine J_icmp_eq X 165 d_Model_readFile_154 (by decide) (fun c154 => ?_) (fun c154 => ?_)
            · rw [if_pos c154] at h
              refine J_lv [0, 1, 2, 3, 4, 5] [(0, .ref (a 0)), (2, .int x2), (3, .int x3), (4, .int x4), (5, .int x5), (6, .int x6)] rfl ?_
              exact L165 K56 hK56 x2 x3 x4 x5 x6 t h
            · rw [if_neg c154] at h
              refine J_iload X d_Model_readFile_157 3 rfl ?_
              refine J_sipush (v := (194 : Int32)) X d_Model_readFile_159 (by decide) ?_
              refine J_icmp_ne X 172 d_Model_readFile_162 (by decide) (fun c162 => ?_) (fun c162 => ?_)
              · rw [if_neg c162] at h
                refine J_lv [0, 1, 2, 3, 4, 5] [(0, .ref (a 0)), (2, .int x2), (3, .int x3), (4, .int x4), (5, .int x5), (6, .int x6)] rfl ?_
                exact L172 K56 hK56 x2 x3 x4 x5 x6 t h
              · rw [if_pos c162] at h
                refine J_lv [0, 1, 2, 3, 4, 5] [(0, .ref (a 0)), (2, .int x2), (3, .int x3), (4, .int x4), (5, .int x5), (6, .int x6)] rfl ?_
                exact L165 K56 hK56 x2 x3 x4 x5 x6 t h
  have L101 : ∀ (K56 : Int32 → Int32 → St → Option (St)) (hK56 : ∀ (x2 : Int32) (x3 : Int32) (t : St), K56 x2 x3 t = some z → J p l e { frames := 5, cells := 0, slots := 0, locals := 115 } s m args below meth c 9 (dC, dI) vwCl A (MQ below (jQv (dC, dI) vwCl (tyA cI cB cJ cZ) (fun _ : Unit => wM cI cB cJ cZ a z) A) args s 0 0 A) 0 0 56 [(0, .ref (a 0)), (2, .int x2), (3, .int x3)] [] (wM cI cB cJ cZ a t)) (x2 : Int32) (x3 : Int32) (x4 : Int32) (x5 : Int32) (x6 : Int32) (t : St), m_Model_readFile_101 n K56 x2 x3 x4 x5 x6 t = some z → J p l e { frames := 5, cells := 0, slots := 0, locals := 115 } s m args below meth c 9 (dC, dI) vwCl A (MQ below (jQv (dC, dI) vwCl (tyA cI cB cJ cZ) (fun _ : Unit => wM cI cB cJ cZ a z) A) args s 0 0 A) 0 0 101 [(0, .ref (a 0)), (2, .int x2), (3, .int x3), (4, .int x4), (5, .int x5), (6, .int x6)] [] (wM cI cB cJ cZ a t) := by
    intro K56 hK56 x2 x3 x4 x5 x6 t h
    unfold m_Model_readFile_101 at h
    refine J_iload X d_Model_readFile_101 3 rfl ?_
    refine J_sipush (v := (224 : Int32)) X d_Model_readFile_103 (by decide) ?_
    refine J_icmp_lt X 117 d_Model_readFile_106 (by decide) (fun c106 => ?_) (fun c106 => ?_)
    · rw [if_pos c106] at h
      refine J_lv [0, 1, 2, 3, 4, 5] [(0, .ref (a 0)), (2, .int x2), (3, .int x3), (4, .int x4), (5, .int x5), (6, .int x6)] rfl ?_
      exact L117 K56 hK56 x2 x3 x4 x5 x6 t h
    · rw [if_neg c106] at h
      refine J_iload X d_Model_readFile_109 3 rfl ?_
      refine J_sipush (v := (239 : Int32)) X d_Model_readFile_111 (by decide) ?_
      refine J_icmp_le X 187 d_Model_readFile_114 (by decide) (fun c114 => ?_) (fun c114 => ?_)
      · rw [if_pos c114] at h
        refine J_lv [0, 1, 2, 3, 4, 5] [(0, .ref (a 0)), (2, .int x2), (3, .int x3), (4, .int x4), (5, .int x5), (6, .int x6)] rfl ?_
        exact L187 K56 hK56 x2 x3 x4 x5 x6 t h
      · rw [if_neg c114] at h
        refine J_lv [0, 1, 2, 3, 4, 5] [(0, .ref (a 0)), (2, .int x2), (3, .int x3), (4, .int x4), (5, .int x5), (6, .int x6)] rfl ?_
        exact L117 K56 hK56 x2 x3 x4 x5 x6 t h
  have L56 : ∀ (k : Nat) (x2 : Int32) (x3 : Int32) (t : St), m_Model_readFile_56 n  k x2 x3 t = some z → J p l e { frames := 5, cells := 0, slots := 0, locals := 115 } s m args below meth c 9 (dC, dI) vwCl A (MQ below (jQv (dC, dI) vwCl (tyA cI cB cJ cZ) (fun _ : Unit => wM cI cB cJ cZ a z) A) args s 0 0 A) 0 0 56 [(0, .ref (a 0)), (2, .int x2), (3, .int x3)] [] (wM cI cB cJ cZ a t) := by
    intro k
    induction k with
    | zero => intro x2 x3 t h; exact absurd (show none = some z from h) (by simp)
    | succ k ih =>
      intro x2 x3 t h
      change m_Model_readFile_56b n  (m_Model_readFile_56 n  k) x2 x3 t = some z at h
      unfold m_Model_readFile_56b at h
      refine J_iload_n X d_Model_readFile_56 2 rfl rfl ?_
      refine J_if_eq X 276 d_Model_readFile_57 (by decide) (fun c57 => ?_) (fun c57 => ?_)
      · rw [if_pos c57] at h
        exact J_vret X hr hlk () (Nat.le_of_ble_eq_true rfl) (Nat.le_of_ble_eq_true rfl) (congrArg (fun q => wM cI cB cJ cZ a q) (j_s h)) d_Model_readFile_276
      · rw [if_neg c57] at h
        refine J_aload_n X d_Model_readFile_60 0 rfl rfl ?_
        refine J_get (v := .int (t.1 2)) X (fun w h => mm (in_Model w h)) 0 rfl rfl 3 (by decide) (mm k_fl_Model_107) rfl rfl d_Model_readFile_61 ?_
        refine J_if_ne X 276 d_Model_readFile_64 (by decide) (fun c64 => ?_) (fun c64 => ?_)
        · rw [if_neg c64] at h
          exact J_vret X hr hlk () (Nat.le_of_ble_eq_true rfl) (Nat.le_of_ble_eq_true rfl) (congrArg (fun q => wM cI cB cJ cZ a q) (j_s h)) d_Model_readFile_276
        · rw [if_pos c64] at h
          refine J_aload_n X d_Model_readFile_67 0 rfl rfl ?_
          obtain ⟨z68, hz68, h⟩ := j_bind h
          refine J_callVi0 (n := 0) (wc := (wM cI cB cJ cZ a t)) (r := z68.1) (w1 := fun _ : Unit => wM cI cB cJ cZ a z68.2) X isM (hCM cI cB cJ cZ a t) (hDM cI cB cJ cZ a t) rfl [] [] (ct_Model_marker l dC dI cI cB cJ cZ a n t hz68) (aw_V (fun w h => mm h) k_ml_Model_178 k_im_Model_marker k_se_Model_marker k_in_Model k_cd_Model_marker) rfl (by decide +kernel) ⟨(Nat.le_of_ble_eq_true rfl), (Nat.le_of_ble_eq_true rfl)⟩ (q0 := 0) rfl rfl rfl rfl (Nat.le_of_ble_eq_true rfl) d_Model_readFile_68 ⟨(Nat.le_of_ble_eq_true rfl), (Nat.le_of_ble_eq_true rfl)⟩ (fun _ => ?_)
          refine J_istore X [(4, .int z68.1), (0, .ref (a 0)), (2, .int x2), (3, .int x3)] d_Model_readFile_71 (by decide) rfl ?_
          refine J_aload_n X d_Model_readFile_73 1 rfl rfl ?_
          refine J_get (v := .int (z68.2.1 4)) X (fun w h => mm (in_Model w h)) 0 rfl rfl 5 (by decide) (mm k_fl_Model_113) rfl rfl d_Model_readFile_74 ?_
          refine J_iconst (v := (1 : Int32)) X d_Model_readFile_77 (by decide) ?_
          refine J_isub X d_Model_readFile_78 ?_
          refine J_istore X [(5, .int ((z68.2.1 4) - (1 : Int32))), (4, .int z68.1), (0, .ref (a 0)), (2, .int x2), (3, .int x3)] d_Model_readFile_79 (by decide) rfl ?_
          refine J_iload_n X d_Model_readFile_81 3 rfl rfl ?_
          refine J_istore X [(6, .int x2), (5, .int ((z68.2.1 4) - (1 : Int32))), (4, .int z68.1), (0, .ref (a 0)), (2, .int x2), (3, .int x3)] d_Model_readFile_82 (by decide) rfl ?_
          refine J_iconst (v := (0 : Int32)) X d_Model_readFile_84 (by decide) ?_
          refine J_istore_n X [(2, .int (0 : Int32)), (6, .int x2), (5, .int ((z68.2.1 4) - (1 : Int32))), (4, .int z68.1), (0, .ref (a 0)), (3, .int x3)] d_Model_readFile_85 rfl (by decide) rfl ?_
          refine J_iload X d_Model_readFile_86 3 rfl ?_
          refine J_sipush (v := (217 : Int32)) X d_Model_readFile_88 (by decide) ?_
          refine J_icmp_ne X 101 d_Model_readFile_91 (by decide) (fun c91 => ?_) (fun c91 => ?_)
          · rw [if_neg c91] at h
            refine J_lv [4, 0, 5, 3, 2, 1] [(0, .ref (a 0)), (2, .int (0 : Int32)), (3, .int x3), (4, .int z68.1), (5, .int ((z68.2.1 4) - (1 : Int32))), (6, .int x2)] rfl ?_
            exact L101 (m_Model_readFile_56 n  k) ih (0 : Int32) x3 z68.1 ((z68.2.1 4) - (1 : Int32)) x2 z68.2 h
          · rw [if_pos c91] at h
            refine J_aload_n X d_Model_readFile_94 4 rfl rfl ?_
            obtain ⟨z95, hz95, h⟩ := j_bind h
            refine J_callVi0 (n := 0) (wc := (wM cI cB cJ cZ a z68.2)) (r := z95.1) (w1 := fun _ : Unit => wM cI cB cJ cZ a z95.2) X isM (hCM cI cB cJ cZ a z68.2) (hDM cI cB cJ cZ a z68.2) rfl [] [] (ct_Model_isSent l dC dI cI cB cJ cZ a n z68.2 hz95) (aw_V (fun w h => mm h) k_ml_Model_181 k_im_Model_isSent k_se_Model_isSent k_in_Model k_cd_Model_isSent) rfl (by decide +kernel) ⟨(Nat.le_of_ble_eq_true rfl), (Nat.le_of_ble_eq_true rfl)⟩ (q0 := 0) rfl rfl rfl rfl (Nat.le_of_ble_eq_true rfl) d_Model_readFile_95 ⟨(Nat.le_of_ble_eq_true rfl), (Nat.le_of_ble_eq_true rfl)⟩ (fun _ => ?_)
            refine J_if_ne X 187 d_Model_readFile_98 (by decide) (fun c98 => ?_) (fun c98 => ?_)
            · rw [if_neg c98] at h
              refine J_lv [4, 0, 5, 3, 2, 1] [(0, .ref (a 0)), (2, .int (0 : Int32)), (3, .int x3), (4, .int z68.1), (5, .int ((z68.2.1 4) - (1 : Int32))), (6, .int x2)] rfl ?_
              exact L187 (m_Model_readFile_56 n  k) ih (0 : Int32) x3 z68.1 ((z68.2.1 4) - (1 : Int32)) x2 z95.2 h
            · rw [if_pos c98] at h
              refine J_lv [4, 0, 5, 3, 2, 1] [(0, .ref (a 0)), (2, .int (0 : Int32)), (3, .int x3), (4, .int z68.1), (5, .int ((z68.2.1 4) - (1 : Int32))), (6, .int x2)] rfl ?_
              exact L101 (m_Model_readFile_56 n  k) ih (0 : Int32) x3 z68.1 ((z68.2.1 4) - (1 : Int32)) x2 z95.2 h
  have L52 : ∀  (t : St), m_Model_readFile_52 n   t = some z → J p l e { frames := 5, cells := 0, slots := 0, locals := 115 } s m args below meth c 9 (dC, dI) vwCl A (MQ below (jQv (dC, dI) vwCl (tyA cI cB cJ cZ) (fun _ : Unit => wM cI cB cJ cZ a z) A) args s 0 0 A) 0 0 52 [(0, .ref (a 0))] [] (wM cI cB cJ cZ a t) := by
    intro  t h
    unfold m_Model_readFile_52 at h
    refine J_iconst (v := (0 : Int32)) X d_Model_readFile_52 (by decide) ?_
    refine J_istore_n X [(2, .int (0 : Int32)), (0, .ref (a 0))] d_Model_readFile_53 rfl (by decide) rfl ?_
    refine J_iconst (v := (1 : Int32)) X d_Model_readFile_54 (by decide) ?_
    refine J_istore_n X [(3, .int (1 : Int32)), (2, .int (0 : Int32)), (0, .ref (a 0))] d_Model_readFile_55 rfl (by decide) rfl ?_
    refine J_lv [2, 1, 0] [(0, .ref (a 0)), (2, .int (0 : Int32)), (3, .int (1 : Int32))] rfl ?_
    exact L56  n (0 : Int32) (1 : Int32) t h
  have L26 : ∀  (t : St), m_Model_readFile_26 n   t = some z → J p l e { frames := 5, cells := 0, slots := 0, locals := 115 } s m args below meth c 9 (dC, dI) vwCl A (MQ below (jQv (dC, dI) vwCl (tyA cI cB cJ cZ) (fun _ : Unit => wM cI cB cJ cZ a z) A) args s 0 0 A) 0 0 26 [(0, .ref (a 0))] [] (wM cI cB cJ cZ a t) := by
    intro  t h
    unfold m_Model_readFile_26 at h
    refine J_aload_n X d_Model_readFile_26 0 rfl rfl ?_
    obtain ⟨z27, hz27, h⟩ := j_bind h
    refine J_callVi0 (n := 0) (wc := (wM cI cB cJ cZ a t)) (r := z27.1) (w1 := fun _ : Unit => wM cI cB cJ cZ a z27.2) X isM (hCM cI cB cJ cZ a t) (hDM cI cB cJ cZ a t) rfl [] [] (ct_Model_next l dC dI cI cB cJ cZ a n t hz27) (aw_V (fun w h => mm h) k_ml_Model_128 k_im_Model_next k_se_Model_next k_in_Model k_cd_Model_next) rfl (by decide +kernel) ⟨(Nat.le_of_ble_eq_true rfl), (Nat.le_of_ble_eq_true rfl)⟩ (q0 := 0) rfl rfl rfl rfl (Nat.le_of_ble_eq_true rfl) d_Model_readFile_27 ⟨(Nat.le_of_ble_eq_true rfl), (Nat.le_of_ble_eq_true rfl)⟩ (fun _ => ?_)
    refine J_istore_n X [(1, .int z27.1), (0, .ref (a 0))] d_Model_readFile_30 rfl (by decide) rfl ?_
    refine J_aload_n X d_Model_readFile_31 1 rfl rfl ?_
    refine J_get (v := .int (z27.2.1 2)) X (fun w h => mm (in_Model w h)) 0 rfl rfl 3 (by decide) (mm k_fl_Model_107) rfl rfl d_Model_readFile_32 ?_
    refine J_if_ne X 52 d_Model_readFile_35 (by decide) (fun c35 => ?_) (fun c35 => ?_)
    · rw [if_neg c35] at h
      refine J_lv [1] [(0, .ref (a 0))] rfl ?_
      exact L52  z27.2 h
    · rw [if_pos c35] at h
      refine J_iload_n X d_Model_readFile_38 0 rfl rfl ?_
      refine J_sipush (v := (216 : Int32)) X d_Model_readFile_39 (by decide) ?_
      refine J_icmp_eq X 52 d_Model_readFile_42 (by decide) (fun c42 => ?_) (fun c42 => ?_)
      · rw [if_pos c42] at h
        refine J_lv [1] [(0, .ref (a 0))] rfl ?_
        exact L52  z27.2 h
      · rw [if_neg c42] at h
        refine J_aload_n X d_Model_readFile_45 1 rfl rfl ?_
        refine J_iconst (v := (2 : Int32)) X d_Model_readFile_46 (by decide) ?_
        refine J_iconst (v := (0 : Int32)) X d_Model_readFile_47 (by decide) ?_
        obtain ⟨z48, hz48, h⟩ := j_bind h
        refine J_callVi0 (n := 2) (wc := (wM cI cB cJ cZ a z27.2)) (r := z48.1) (w1 := fun _ : Unit => wM cI cB cJ cZ a z48.2) X isM (hCM cI cB cJ cZ a z27.2) (hDM cI cB cJ cZ a z27.2) rfl [.int (2 : Int32), .int (0 : Int32)] [] (ct_Model_wrong l dC dI cI cB cJ cZ a n (2 : Int32) (0 : Int32) z27.2 hz48) (aw_V (fun w h => mm h) k_ml_Model_120 k_im_Model_wrong k_se_Model_wrong k_in_Model k_cd_Model_wrong) rfl (by decide +kernel) ⟨(Nat.le_of_ble_eq_true rfl), (Nat.le_of_ble_eq_true rfl)⟩ (q0 := 0) rfl rfl rfl rfl (Nat.le_of_ble_eq_true rfl) d_Model_readFile_48 ⟨(Nat.le_of_ble_eq_true rfl), (Nat.le_of_ble_eq_true rfl)⟩ (fun _ => ?_)
        refine J_istore_n X [(2, .int z48.1), (1, .int z27.1), (0, .ref (a 0))] d_Model_readFile_51 rfl (by decide) rfl ?_
        refine J_lv [2] [(0, .ref (a 0))] rfl ?_
        exact L52  z48.2 h
  refine J_lv [0] [(0, .ref (a 0))] rfl ?_
  unfold m_Model_readFile at h
  refine J_aload_n X d_Model_readFile_0 0 rfl rfl ?_
  obtain ⟨z1, hz1, h⟩ := j_bind h
  refine J_callVi0 (n := 0) (wc := (wM cI cB cJ cZ a t)) (r := z1.1) (w1 := fun _ : Unit => wM cI cB cJ cZ a z1.2) X isM (hCM cI cB cJ cZ a t) (hDM cI cB cJ cZ a t) rfl [] [] (ct_Model_next l dC dI cI cB cJ cZ a n t hz1) (aw_V (fun w h => mm h) k_ml_Model_128 k_im_Model_next k_se_Model_next k_in_Model k_cd_Model_next) rfl (by decide +kernel) ⟨(Nat.le_of_ble_eq_true rfl), (Nat.le_of_ble_eq_true rfl)⟩ (q0 := 0) rfl rfl rfl rfl (Nat.le_of_ble_eq_true rfl) d_Model_readFile_1 ⟨(Nat.le_of_ble_eq_true rfl), (Nat.le_of_ble_eq_true rfl)⟩ (fun _ => ?_)
  refine J_istore_n X [(1, .int z1.1), (0, .ref (a 0))] d_Model_readFile_4 rfl (by decide) rfl ?_
  refine J_aload_n X d_Model_readFile_5 1 rfl rfl ?_
  refine J_get (v := .int (z1.2.1 2)) X (fun w h => mm (in_Model w h)) 0 rfl rfl 3 (by decide) (mm k_fl_Model_107) rfl rfl d_Model_readFile_6 ?_
  refine J_if_ne X 26 d_Model_readFile_9 (by decide) (fun c9 => ?_) (fun c9 => ?_)
  · rw [if_neg c9] at h
    refine J_lv [1] [(0, .ref (a 0))] rfl ?_
    exact L26  z1.2 h
  · rw [if_pos c9] at h
    refine J_iload_n X d_Model_readFile_12 0 rfl rfl ?_
    refine J_sipush (v := (255 : Int32)) X d_Model_readFile_13 (by decide) ?_
    refine J_icmp_eq X 26 d_Model_readFile_16 (by decide) (fun c16 => ?_) (fun c16 => ?_)
    · rw [if_pos c16] at h
      refine J_lv [1] [(0, .ref (a 0))] rfl ?_
      exact L26  z1.2 h
    · rw [if_neg c16] at h
      refine J_aload_n X d_Model_readFile_19 1 rfl rfl ?_
      refine J_iconst (v := (2 : Int32)) X d_Model_readFile_20 (by decide) ?_
      refine J_iconst (v := (0 : Int32)) X d_Model_readFile_21 (by decide) ?_
      obtain ⟨z22, hz22, h⟩ := j_bind h
      refine J_callVi0 (n := 2) (wc := (wM cI cB cJ cZ a z1.2)) (r := z22.1) (w1 := fun _ : Unit => wM cI cB cJ cZ a z22.2) X isM (hCM cI cB cJ cZ a z1.2) (hDM cI cB cJ cZ a z1.2) rfl [.int (2 : Int32), .int (0 : Int32)] [] (ct_Model_wrong l dC dI cI cB cJ cZ a n (2 : Int32) (0 : Int32) z1.2 hz22) (aw_V (fun w h => mm h) k_ml_Model_120 k_im_Model_wrong k_se_Model_wrong k_in_Model k_cd_Model_wrong) rfl (by decide +kernel) ⟨(Nat.le_of_ble_eq_true rfl), (Nat.le_of_ble_eq_true rfl)⟩ (q0 := 0) rfl rfl rfl rfl (Nat.le_of_ble_eq_true rfl) d_Model_readFile_22 ⟨(Nat.le_of_ble_eq_true rfl), (Nat.le_of_ble_eq_true rfl)⟩ (fun _ => ?_)
      refine J_istore_n X [(2, .int z22.1), (1, .int z1.1), (0, .ref (a 0))] d_Model_readFile_25 rfl (by decide) rfl ?_
      refine J_lv [2] [(0, .ref (a 0))] rfl ?_
      exact L26  z22.2 h
set_option maxHeartbeats 4000000 in
set_option maxRecDepth 100000 in
theorem ct_Model_read (l : Launch) (dC : Nat → ClassId) (dI : Nat → Nat → Nat) (cI cB cJ cZ : ClassId) (a : Nat → Nat) (n : Nat)  (t : St) {z : Int32 × St} (h : m_Model_read n t = some z) : jMi l y_Model_read w_Model_read ({ frames := 6, cells := 0, slots := 0, locals := 143 }) (dC, dI) vwCl (tyA cI cB cJ cZ) [.ref (a 0)] (wM cI cB cJ cZ a t) z.1 (fun _ : Unit => wM cI cB cJ cZ a z.2) := by
  refine jMi.of (cc := c_Model_read) (maxL := 1) (ret := (some .int)) (by decide) rfl (Nat.le_of_ble_eq_true rfl) ?_
  intro p e s m args below meth c A X hr hlk hnm
  refine J_lv [0] [(0, .ref (a 0))] rfl ?_
  unfold m_Model_read at h
  refine J_aload_n X d_Model_read_0 0 rfl rfl ?_
  refine J_iconst (v := (0 : Int32)) X d_Model_read_1 (by decide) ?_
  refine J_put (ty := .int) (v := .int (0 : Int32)) X (fun w h => mm (in_Model w h)) ty_Model tyk_Model nm_Model 0 rfl rfl 0 (by decide) (mm k_fl_Model_77) rfl rfl (by decide +kernel) rfl rfl (Nat.le_of_ble_eq_true rfl) d_Model_read_2 (wM cI cB cJ cZ a (sG t 0 (0 : Int32))) rfl ?_
  refine J_aload_n X d_Model_read_5 0 rfl rfl ?_
  refine J_iconst (v := (0 : Int32)) X d_Model_read_6 (by decide) ?_
  refine J_put (ty := .int) (v := .int (0 : Int32)) X (fun w h => mm (in_Model w h)) ty_Model tyk_Model nm_Model 0 rfl rfl 3 (by decide) (mm k_fl_Model_107) rfl rfl (by decide +kernel) rfl rfl (Nat.le_of_ble_eq_true rfl) d_Model_read_7 (wM cI cB cJ cZ a (sG (sG t 0 (0 : Int32)) 2 (0 : Int32))) rfl ?_
  refine J_aload_n X d_Model_read_10 0 rfl rfl ?_
  refine J_iconst (v := (-1 : Int32)) X d_Model_read_11 (by decide) ?_
  refine J_put (ty := .int) (v := .int (-1 : Int32)) X (fun w h => mm (in_Model w h)) ty_Model tyk_Model nm_Model 0 rfl rfl 4 (by decide) (mm k_fl_Model_13) rfl rfl (by decide +kernel) rfl rfl (Nat.le_of_ble_eq_true rfl) d_Model_read_12 (wM cI cB cJ cZ a (sG (sG (sG t 0 (0 : Int32)) 2 (0 : Int32)) 3 (-1 : Int32))) rfl ?_
  refine J_aload_n X d_Model_read_15 0 rfl rfl ?_
  obtain ⟨z16, hz16, h⟩ := j_bind h
  refine J_callVv0 (n := 0) (wc := (wM cI cB cJ cZ a (sG (sG (sG t 0 (0 : Int32)) 2 (0 : Int32)) 3 (-1 : Int32)))) (w1 := fun _ : Unit => wM cI cB cJ cZ a z16) X isM (hCM cI cB cJ cZ a (sG (sG (sG t 0 (0 : Int32)) 2 (0 : Int32)) 3 (-1 : Int32))) (hDM cI cB cJ cZ a (sG (sG (sG t 0 (0 : Int32)) 2 (0 : Int32)) 3 (-1 : Int32))) rfl [] [] (ct_Model_forget l dC dI cI cB cJ cZ a n (sG (sG (sG t 0 (0 : Int32)) 2 (0 : Int32)) 3 (-1 : Int32)) hz16) (aw_V (fun w h => mm h) k_ml_Model_74 k_im_Model_forget k_se_Model_forget k_in_Model k_cd_Model_forget) rfl (by decide +kernel) ⟨(Nat.le_of_ble_eq_true rfl), (Nat.le_of_ble_eq_true rfl)⟩ (q0 := 0) rfl rfl rfl rfl (Nat.le_of_ble_eq_true rfl) d_Model_read_16 ⟨(Nat.le_of_ble_eq_true rfl), (Nat.le_of_ble_eq_true rfl)⟩ (fun _ => ?_)
  refine J_aload_n X d_Model_read_19 0 rfl rfl ?_
  refine J_iconst (v := (0 : Int32)) X d_Model_read_20 (by decide) ?_
  refine J_put (ty := .int) (v := .int (0 : Int32)) X (fun w h => mm (in_Model w h)) ty_Model tyk_Model nm_Model 0 rfl rfl 5 (by decide) (mm k_fl_Model_113) rfl rfl (by decide +kernel) rfl rfl (Nat.le_of_ble_eq_true rfl) d_Model_read_21 (wM cI cB cJ cZ a (sG z16 4 (0 : Int32))) rfl ?_
  refine J_aload_n X d_Model_read_24 0 rfl rfl ?_
  refine J_iconst (v := (-1 : Int32)) X d_Model_read_25 (by decide) ?_
  refine J_put (ty := .int) (v := .int (-1 : Int32)) X (fun w h => mm (in_Model w h)) ty_Model tyk_Model nm_Model 0 rfl rfl 6 (by decide) (mm k_fl_Model_110) rfl rfl (by decide +kernel) rfl rfl (Nat.le_of_ble_eq_true rfl) d_Model_read_26 (wM cI cB cJ cZ a (sG (sG z16 4 (0 : Int32)) 5 (-1 : Int32))) rfl ?_
  refine J_aload_n X d_Model_read_29 0 rfl rfl ?_
  obtain ⟨z30, hz30, h⟩ := j_bind h
  refine J_callVv0 (n := 0) (wc := (wM cI cB cJ cZ a (sG (sG z16 4 (0 : Int32)) 5 (-1 : Int32)))) (w1 := fun _ : Unit => wM cI cB cJ cZ a z30) X isM (hCM cI cB cJ cZ a (sG (sG z16 4 (0 : Int32)) 5 (-1 : Int32))) (hDM cI cB cJ cZ a (sG (sG z16 4 (0 : Int32)) 5 (-1 : Int32))) rfl [] [] (ct_Model_readFile l dC dI cI cB cJ cZ a n (sG (sG z16 4 (0 : Int32)) 5 (-1 : Int32)) hz30) (aw_V (fun w h => mm h) k_ml_Model_213 k_im_Model_readFile k_se_Model_readFile k_in_Model k_cd_Model_readFile) rfl (by decide +kernel) ⟨(Nat.le_of_ble_eq_true rfl), (Nat.le_of_ble_eq_true rfl)⟩ (q0 := 0) rfl rfl rfl rfl (Nat.le_of_ble_eq_true rfl) d_Model_read_30 ⟨(Nat.le_of_ble_eq_true rfl), (Nat.le_of_ble_eq_true rfl)⟩ (fun _ => ?_)
  refine J_aload_n X d_Model_read_33 0 rfl rfl ?_
  refine J_get (v := .int (z30.1 2)) X (fun w h => mm (in_Model w h)) 0 rfl rfl 3 (by decide) (mm k_fl_Model_107) rfl rfl d_Model_read_34 ?_
  refine J_if_le X 44 d_Model_read_37 (by decide) (fun c37 => ?_) (fun c37 => ?_)
  · rw [if_pos c37] at h
    refine J_aload_n X d_Model_read_44 0 rfl rfl ?_
    refine J_get (v := .int (z30.1 2)) X (fun w h => mm (in_Model w h)) 0 rfl rfl 3 (by decide) (mm k_fl_Model_107) rfl rfl d_Model_read_45 ?_
    exact J_iret X hr hlk () (Nat.le_of_ble_eq_true rfl) (Nat.le_of_ble_eq_true rfl) (j_r1 h) (congrArg (fun q => wM cI cB cJ cZ a q) (j_r2 h)) d_Model_read_48
  · rw [if_neg c37] at h
    refine J_aload_n X d_Model_read_40 0 rfl rfl ?_
    obtain ⟨z41, hz41, h⟩ := j_bind h
    refine J_callVv0 (n := 0) (wc := (wM cI cB cJ cZ a z30)) (w1 := fun _ : Unit => wM cI cB cJ cZ a z41) X isM (hCM cI cB cJ cZ a z30) (hDM cI cB cJ cZ a z30) rfl [] [] (ct_Model_forget l dC dI cI cB cJ cZ a n z30 hz41) (aw_V (fun w h => mm h) k_ml_Model_74 k_im_Model_forget k_se_Model_forget k_in_Model k_cd_Model_forget) rfl (by decide +kernel) ⟨(Nat.le_of_ble_eq_true rfl), (Nat.le_of_ble_eq_true rfl)⟩ (q0 := 0) rfl rfl rfl rfl (Nat.le_of_ble_eq_true rfl) d_Model_read_41 ⟨(Nat.le_of_ble_eq_true rfl), (Nat.le_of_ble_eq_true rfl)⟩ (fun _ => ?_)
    refine J_aload_n X d_Model_read_44 0 rfl rfl ?_
    refine J_get (v := .int (z41.1 2)) X (fun w h => mm (in_Model w h)) 0 rfl rfl 3 (by decide) (mm k_fl_Model_107) rfl rfl d_Model_read_45 ?_
    exact J_iret X hr hlk () (Nat.le_of_ble_eq_true rfl) (Nat.le_of_ble_eq_true rfl) (j_r1 h) (congrArg (fun q => wM cI cB cJ cZ a q) (j_r2 h)) d_Model_read_48
set_option maxHeartbeats 4000000 in
set_option maxRecDepth 100000 in
theorem ct_Model_segment (l : Launch) (dC : Nat → ClassId) (dI : Nat → Nat → Nat) (cI cB cJ cZ : ClassId) (a : Nat → Nat) (n : Nat) (x1 : Int32) (x2 : Int32) (t : St) {z : Int32 × St} (h : m_Model_segment n x1 x2 t = some z) : jMi l y_Model_segment w_Model_segment ({ frames := 0, cells := 0, slots := 0, locals := 0 }) (dC, dI) vwCl (tyA cI cB cJ cZ) [.ref (a 0), .int x1, .int x2] (wM cI cB cJ cZ a t) z.1 (fun _ : Unit => wM cI cB cJ cZ a z.2) := by
  refine jMi.of (cc := c_Model_segment) (maxL := 3) (ret := (some .int)) (by decide) rfl (Nat.le_of_ble_eq_true rfl) ?_
  intro p e s m args below meth c A X hr hlk hnm
  have L26 : ∀  (t : St), m_Model_segment_26 n   t = some z → J p l e { frames := 0, cells := 0, slots := 0, locals := 0 } s m args below meth c 3 (dC, dI) vwCl A (MQ below (jQi (dC, dI) vwCl (tyA cI cB cJ cZ) z.1 (fun _ : Unit => wM cI cB cJ cZ a z.2) A) args s 0 0 A) 0 0 26 [] [] (wM cI cB cJ cZ a t) := by
    intro  t h
    unfold m_Model_segment_26 at h
    refine J_iconst (v := (-1 : Int32)) X d_Model_segment_26 (by decide) ?_
    refine J_goto X 40 d_Model_segment_27 (by decide) ?_
    exact J_iret X hr hlk () (Nat.le_of_ble_eq_true rfl) (Nat.le_of_ble_eq_true rfl) (j_r1 h) (congrArg (fun q => wM cI cB cJ cZ a q) (j_r2 h)) d_Model_segment_40
  refine J_lv [0, 1, 2] [(0, .ref (a 0)), (1, .int x1), (2, .int x2)] rfl ?_
  unfold m_Model_segment at h
  refine J_aload_n X d_Model_segment_0 0 rfl rfl ?_
  refine J_iconst (v := (0 : Int32)) X d_Model_segment_1 (by decide) ?_
  refine J_put (ty := .int) (v := .int (0 : Int32)) X (fun w h => mm (in_Model w h)) ty_Model tyk_Model nm_Model 0 rfl rfl 0 (by decide) (mm k_fl_Model_77) rfl rfl (by decide +kernel) rfl rfl (Nat.le_of_ble_eq_true rfl) d_Model_segment_2 (wM cI cB cJ cZ a (sG t 0 (0 : Int32))) rfl ?_
  refine J_iload_n X d_Model_segment_5 1 rfl rfl ?_
  refine J_if_lt X 26 d_Model_segment_6 (by decide) (fun c6 => ?_) (fun c6 => ?_)
  · rw [if_pos c6] at h
    refine J_lv [] [] rfl ?_
    exact L26  (sG t 0 (0 : Int32)) h
  · rw [if_neg c6] at h
    refine J_iload_n X d_Model_segment_9 1 rfl rfl ?_
    refine J_aload_n X d_Model_segment_10 0 rfl rfl ?_
    refine J_get (v := .int (t.1 8)) X (fun w h => mm (in_Model w h)) 0 rfl rfl 9 (by decide) (mm k_fl_Model_83) rfl rfl d_Model_segment_11 ?_
    refine J_icmp_ge X 26 d_Model_segment_14 (by decide) (fun c14 => ?_) (fun c14 => ?_)
    · rw [if_pos c14] at h
      refine J_lv [] [] rfl ?_
      exact L26  (sG t 0 (0 : Int32)) h
    · rw [if_neg c14] at h
      refine J_iload_n X d_Model_segment_17 2 rfl rfl ?_
      refine J_if_lt X 26 d_Model_segment_18 (by decide) (fun c18 => ?_) (fun c18 => ?_)
      · rw [if_pos c18] at h
        refine J_lv [] [] rfl ?_
        exact L26  (sG t 0 (0 : Int32)) h
      · rw [if_neg c18] at h
        refine J_iload_n X d_Model_segment_21 2 rfl rfl ?_
        refine J_iconst (v := (3 : Int32)) X d_Model_segment_22 (by decide) ?_
        refine J_icmp_le X 30 d_Model_segment_23 (by decide) (fun c23 => ?_) (fun c23 => ?_)
        · rw [if_pos c23] at h
          refine J_aload_n X d_Model_segment_30 0 rfl rfl ?_
          refine J_get (v := .ref (a 2)) X (fun w h => mm (in_Model w h)) 0 rfl rfl 10 (by decide) (mm k_fl_Model_17) rfl rfl d_Model_segment_31 ?_
          refine J_iconst (v := (4 : Int32)) X d_Model_segment_34 (by decide) ?_
          refine J_iload_n X d_Model_segment_35 1 rfl rfl ?_
          refine J_imul X d_Model_segment_36 ?_
          refine J_iload_n X d_Model_segment_37 2 rfl rfl ?_
          refine J_iadd X d_Model_segment_38 ?_
          obtain ⟨b39, h⟩ := j_ifn h
          refine J_iald (f := (t.2.1 1)) X 2 0 rfl rfl b39 d_Model_segment_39 ?_
          exact J_iret X hr hlk () (Nat.le_of_ble_eq_true rfl) (Nat.le_of_ble_eq_true rfl) (j_r1 h) (congrArg (fun q => wM cI cB cJ cZ a q) (j_r2 h)) d_Model_segment_40
        · rw [if_neg c23] at h
          refine J_lv [] [] rfl ?_
          exact L26  (sG t 0 (0 : Int32)) h
set_option maxHeartbeats 4000000 in
set_option maxRecDepth 100000 in
theorem ct_Model_frame (l : Launch) (dC : Nat → ClassId) (dI : Nat → Nat → Nat) (cI cB cJ cZ : ClassId) (a : Nat → Nat) (n : Nat) (x1 : Int32) (t : St) {z : Int32 × St} (h : m_Model_frame n x1 t = some z) : jMi l y_Model_frame w_Model_frame ({ frames := 0, cells := 0, slots := 0, locals := 0 }) (dC, dI) vwCl (tyA cI cB cJ cZ) [.ref (a 0), .int x1] (wM cI cB cJ cZ a t) z.1 (fun _ : Unit => wM cI cB cJ cZ a z.2) := by
  refine jMi.of (cc := c_Model_frame) (maxL := 5) (ret := (some .int)) (by decide) rfl (Nat.le_of_ble_eq_true rfl) ?_
  intro p e s m args below meth c A X hr hlk hnm
  have L75 : ∀ (K21 : Int32 → Int32 → Int32 → Int32 → St → Option (Int32 × St)) (hK21 : ∀ (x1 : Int32) (x2 : Int32) (x3 : Int32) (x4 : Int32) (t : St), K21 x1 x2 x3 x4 t = some z → J p l e { frames := 0, cells := 0, slots := 0, locals := 0 } s m args below meth c 5 (dC, dI) vwCl A (MQ below (jQi (dC, dI) vwCl (tyA cI cB cJ cZ) z.1 (fun _ : Unit => wM cI cB cJ cZ a z.2) A) args s 0 0 A) 0 0 21 [(0, .ref (a 0)), (1, .int x1), (2, .int x2), (3, .int x3), (4, .int x4)] [] (wM cI cB cJ cZ a t)) (x1 : Int32) (x2 : Int32) (x4 : Int32) (y0 : Int32) (t : St), m_Model_frame_75 n K21 x1 x2 x4 y0 t = some z → J p l e { frames := 0, cells := 0, slots := 0, locals := 0 } s m args below meth c 5 (dC, dI) vwCl A (MQ below (jQi (dC, dI) vwCl (tyA cI cB cJ cZ) z.1 (fun _ : Unit => wM cI cB cJ cZ a z.2) A) args s 0 0 A) 0 0 75 [(0, .ref (a 0)), (1, .int x1), (2, .int x2), (4, .int x4)] [.int y0] (wM cI cB cJ cZ a t) := by
    intro K21 hK21 x1 x2 x4 y0 t h
    unfold m_Model_frame_75 at h
    refine J_istore_n X [(3, .int y0), (0, .ref (a 0)), (1, .int x1), (2, .int x2), (4, .int x4)] d_Model_frame_75 rfl (by decide) rfl ?_
    refine J_iinc (v := (x4 + 1)) X [(4, .int (x4 + 1)), (3, .int y0), (0, .ref (a 0)), (1, .int x1), (2, .int x2)] d_Model_frame_76 4 rfl rfl (by decide) rfl ?_
    refine J_goto X 21 d_Model_frame_79 (by decide) ?_
    refine J_lv [2, 3, 4, 1, 0] [(0, .ref (a 0)), (1, .int x1), (2, .int x2), (3, .int y0), (4, .int (x4 + 1))] rfl ?_
    exact hK21 x1 x2 y0 (x4 + 1) t h
  have L52 : ∀ (K21 : Int32 → Int32 → Int32 → Int32 → St → Option (Int32 × St)) (hK21 : ∀ (x1 : Int32) (x2 : Int32) (x3 : Int32) (x4 : Int32) (t : St), K21 x1 x2 x3 x4 t = some z → J p l e { frames := 0, cells := 0, slots := 0, locals := 0 } s m args below meth c 5 (dC, dI) vwCl A (MQ below (jQi (dC, dI) vwCl (tyA cI cB cJ cZ) z.1 (fun _ : Unit => wM cI cB cJ cZ a z.2) A) args s 0 0 A) 0 0 21 [(0, .ref (a 0)), (1, .int x1), (2, .int x2), (3, .int x3), (4, .int x4)] [] (wM cI cB cJ cZ a t)) (x1 : Int32) (x3 : Int32) (x4 : Int32) (y0 : Int32) (t : St), m_Model_frame_52 n K21 x1 x3 x4 y0 t = some z → J p l e { frames := 0, cells := 0, slots := 0, locals := 0 } s m args below meth c 5 (dC, dI) vwCl A (MQ below (jQi (dC, dI) vwCl (tyA cI cB cJ cZ) z.1 (fun _ : Unit => wM cI cB cJ cZ a z.2) A) args s 0 0 A) 0 0 52 [(0, .ref (a 0)), (1, .int x1), (3, .int x3), (4, .int x4)] [.int y0] (wM cI cB cJ cZ a t) := by
    intro K21 hK21 x1 x3 x4 y0 t h
    unfold m_Model_frame_52 at h
    refine J_istore_n X [(2, .int y0), (0, .ref (a 0)), (1, .int x1), (3, .int x3), (4, .int x4)] d_Model_frame_52 rfl (by decide) rfl ?_
    refine J_aload_n X d_Model_frame_53 1 rfl rfl ?_
    refine J_get (v := .ref (a 5)) X (fun w h => mm (in_Model w h)) 0 rfl rfl 17 (by decide) (mm k_fl_Model_27) rfl rfl d_Model_frame_54 ?_
    refine J_iload X d_Model_frame_57 4 rfl ?_
    obtain ⟨b59, h⟩ := j_ifn h
    refine J_iald (f := (t.2.1 4)) X 5 0 rfl rfl b59 d_Model_frame_59 ?_
    refine J_iload_n X d_Model_frame_60 3 rfl rfl ?_
    refine J_icmp_le X 74 d_Model_frame_61 (by decide) (fun c61 => ?_) (fun c61 => ?_)
    · rw [if_pos c61] at h
      refine J_iload_n X d_Model_frame_74 3 rfl rfl ?_
      refine J_lv [1, 2, 0, 4] [(0, .ref (a 0)), (1, .int x1), (2, .int y0), (4, .int x4)] rfl ?_
      exact L75 K21 hK21 x1 y0 x4 x3 t h
    · rw [if_neg c61] at h
      refine J_aload_n X d_Model_frame_64 1 rfl rfl ?_
      refine J_get (v := .ref (a 5)) X (fun w h => mm (in_Model w h)) 0 rfl rfl 17 (by decide) (mm k_fl_Model_27) rfl rfl d_Model_frame_65 ?_
      refine J_iload X d_Model_frame_68 4 rfl ?_
      obtain ⟨b70, h⟩ := j_ifn h
      refine J_iald (f := (t.2.1 4)) X 5 0 rfl rfl b70 d_Model_frame_70 ?_
      refine J_goto X 75 d_Model_frame_71 (by decide) ?_
      refine J_lv [1, 2, 0, 4] [(0, .ref (a 0)), (1, .int x1), (2, .int y0), (4, .int x4)] rfl ?_
      exact L75 K21 hK21 x1 y0 x4 ((t.2.1 4) (x4).toNatClampNeg) t h
  have L21 : ∀ (k : Nat) (x1 : Int32) (x2 : Int32) (x3 : Int32) (x4 : Int32) (t : St), m_Model_frame_21 n  k x1 x2 x3 x4 t = some z → J p l e { frames := 0, cells := 0, slots := 0, locals := 0 } s m args below meth c 5 (dC, dI) vwCl A (MQ below (jQi (dC, dI) vwCl (tyA cI cB cJ cZ) z.1 (fun _ : Unit => wM cI cB cJ cZ a z.2) A) args s 0 0 A) 0 0 21 [(0, .ref (a 0)), (1, .int x1), (2, .int x2), (3, .int x3), (4, .int x4)] [] (wM cI cB cJ cZ a t) := by
    intro k
    induction k with
    | zero => intro x1 x2 x3 x4 t h; exact absurd (show none = some z from h) (by simp)
    | succ k ih =>
      intro x1 x2 x3 x4 t h
      change m_Model_frame_21b n  (m_Model_frame_21 n  k) x1 x2 x3 x4 t = some z at h
      unfold m_Model_frame_21b at h
      refine J_iload X d_Model_frame_21 4 rfl ?_
      refine J_aload_n X d_Model_frame_23 0 rfl rfl ?_
      refine J_get (v := .int (t.1 12)) X (fun w h => mm (in_Model w h)) 0 rfl rfl 14 (by decide) (mm k_fl_Model_95) rfl rfl d_Model_frame_24 ?_
      refine J_icmp_ge X 82 d_Model_frame_27 (by decide) (fun c27 => ?_) (fun c27 => ?_)
      · rw [if_pos c27] at h
        refine J_iload_n X d_Model_frame_82 1 rfl rfl ?_
        refine J_if_ne X 93 d_Model_frame_83 (by decide) (fun c83 => ?_) (fun c83 => ?_)
        · rw [if_neg c83] at h
          refine J_iload_n X d_Model_frame_93 1 rfl rfl ?_
          refine J_iconst (v := (1 : Int32)) X d_Model_frame_94 (by decide) ?_
          refine J_icmp_ne X 105 d_Model_frame_95 (by decide) (fun c95 => ?_) (fun c95 => ?_)
          · rw [if_neg c95] at h
            refine J_iload_n X d_Model_frame_105 1 rfl rfl ?_
            refine J_iconst (v := (2 : Int32)) X d_Model_frame_106 (by decide) ?_
            refine J_icmp_ne X 117 d_Model_frame_107 (by decide) (fun c107 => ?_) (fun c107 => ?_)
            · rw [if_neg c107] at h
              refine J_iload_n X d_Model_frame_117 1 rfl rfl ?_
              refine J_iconst (v := (3 : Int32)) X d_Model_frame_118 (by decide) ?_
              refine J_icmp_ne X 129 d_Model_frame_119 (by decide) (fun c119 => ?_) (fun c119 => ?_)
              · rw [if_neg c119] at h
                refine J_iload_n X d_Model_frame_129 1 rfl rfl ?_
                refine J_iconst (v := (4 : Int32)) X d_Model_frame_130 (by decide) ?_
                refine J_icmp_ne X 138 d_Model_frame_131 (by decide) (fun c131 => ?_) (fun c131 => ?_)
                · rw [if_neg c131] at h
                  refine J_iload_n X d_Model_frame_138 1 rfl rfl ?_
                  refine J_iconst (v := (5 : Int32)) X d_Model_frame_139 (by decide) ?_
                  refine J_icmp_ne X 147 d_Model_frame_140 (by decide) (fun c140 => ?_) (fun c140 => ?_)
                  · rw [if_neg c140] at h
                    refine J_iconst (v := (-1 : Int32)) X d_Model_frame_147 (by decide) ?_
                    exact J_iret X hr hlk () (Nat.le_of_ble_eq_true rfl) (Nat.le_of_ble_eq_true rfl) (j_r1 h) (congrArg (fun q => wM cI cB cJ cZ a q) (j_r2 h)) d_Model_frame_148
                  · rw [if_pos c140] at h
                    refine J_iload_n X d_Model_frame_143 3 rfl rfl ?_
                    refine J_goto X 148 d_Model_frame_144 (by decide) ?_
                    exact J_iret X hr hlk () (Nat.le_of_ble_eq_true rfl) (Nat.le_of_ble_eq_true rfl) (j_r1 h) (congrArg (fun q => wM cI cB cJ cZ a q) (j_r2 h)) d_Model_frame_148
                · rw [if_pos c131] at h
                  refine J_iload_n X d_Model_frame_134 2 rfl rfl ?_
                  refine J_goto X 148 d_Model_frame_135 (by decide) ?_
                  exact J_iret X hr hlk () (Nat.le_of_ble_eq_true rfl) (Nat.le_of_ble_eq_true rfl) (j_r1 h) (congrArg (fun q => wM cI cB cJ cZ a q) (j_r2 h)) d_Model_frame_148
              · rw [if_pos c119] at h
                refine J_aload_n X d_Model_frame_122 0 rfl rfl ?_
                refine J_get (v := .int (t.1 12)) X (fun w h => mm (in_Model w h)) 0 rfl rfl 14 (by decide) (mm k_fl_Model_95) rfl rfl d_Model_frame_123 ?_
                refine J_goto X 148 d_Model_frame_126 (by decide) ?_
                exact J_iret X hr hlk () (Nat.le_of_ble_eq_true rfl) (Nat.le_of_ble_eq_true rfl) (j_r1 h) (congrArg (fun q => wM cI cB cJ cZ a q) (j_r2 h)) d_Model_frame_148
            · rw [if_pos c107] at h
              refine J_aload_n X d_Model_frame_110 0 rfl rfl ?_
              refine J_get (v := .int (t.1 11)) X (fun w h => mm (in_Model w h)) 0 rfl rfl 13 (by decide) (mm k_fl_Model_92) rfl rfl d_Model_frame_111 ?_
              refine J_goto X 148 d_Model_frame_114 (by decide) ?_
              exact J_iret X hr hlk () (Nat.le_of_ble_eq_true rfl) (Nat.le_of_ble_eq_true rfl) (j_r1 h) (congrArg (fun q => wM cI cB cJ cZ a q) (j_r2 h)) d_Model_frame_148
          · rw [if_pos c95] at h
            refine J_aload_n X d_Model_frame_98 0 rfl rfl ?_
            refine J_get (v := .int (t.1 10)) X (fun w h => mm (in_Model w h)) 0 rfl rfl 12 (by decide) (mm k_fl_Model_89) rfl rfl d_Model_frame_99 ?_
            refine J_goto X 148 d_Model_frame_102 (by decide) ?_
            exact J_iret X hr hlk () (Nat.le_of_ble_eq_true rfl) (Nat.le_of_ble_eq_true rfl) (j_r1 h) (congrArg (fun q => wM cI cB cJ cZ a q) (j_r2 h)) d_Model_frame_148
        · rw [if_pos c83] at h
          refine J_aload_n X d_Model_frame_86 0 rfl rfl ?_
          refine J_get (v := .int (t.1 9)) X (fun w h => mm (in_Model w h)) 0 rfl rfl 11 (by decide) (mm k_fl_Model_86) rfl rfl d_Model_frame_87 ?_
          refine J_goto X 148 d_Model_frame_90 (by decide) ?_
          exact J_iret X hr hlk () (Nat.le_of_ble_eq_true rfl) (Nat.le_of_ble_eq_true rfl) (j_r1 h) (congrArg (fun q => wM cI cB cJ cZ a q) (j_r2 h)) d_Model_frame_148
      · rw [if_neg c27] at h
        refine J_aload_n X d_Model_frame_30 0 rfl rfl ?_
        refine J_get (v := .ref (a 4)) X (fun w h => mm (in_Model w h)) 0 rfl rfl 16 (by decide) (mm k_fl_Model_24) rfl rfl d_Model_frame_31 ?_
        refine J_iload X d_Model_frame_34 4 rfl ?_
        obtain ⟨b36, h⟩ := j_ifn h
        refine J_iald (f := (t.2.1 3)) X 4 0 rfl rfl b36 d_Model_frame_36 ?_
        refine J_iload_n X d_Model_frame_37 2 rfl rfl ?_
        refine J_icmp_le X 51 d_Model_frame_38 (by decide) (fun c38 => ?_) (fun c38 => ?_)
        · rw [if_pos c38] at h
          refine J_iload_n X d_Model_frame_51 2 rfl rfl ?_
          refine J_lv [0, 1, 3, 4] [(0, .ref (a 0)), (1, .int x1), (3, .int x3), (4, .int x4)] rfl ?_
          exact L52 (m_Model_frame_21 n  k) ih x1 x3 x4 x2 t h
        · rw [if_neg c38] at h
          refine J_aload_n X d_Model_frame_41 0 rfl rfl ?_
          refine J_get (v := .ref (a 4)) X (fun w h => mm (in_Model w h)) 0 rfl rfl 16 (by decide) (mm k_fl_Model_24) rfl rfl d_Model_frame_42 ?_
          refine J_iload X d_Model_frame_45 4 rfl ?_
          obtain ⟨b47, h⟩ := j_ifn h
          refine J_iald (f := (t.2.1 3)) X 4 0 rfl rfl b47 d_Model_frame_47 ?_
          refine J_goto X 52 d_Model_frame_48 (by decide) ?_
          refine J_lv [0, 1, 3, 4] [(0, .ref (a 0)), (1, .int x1), (3, .int x3), (4, .int x4)] rfl ?_
          exact L52 (m_Model_frame_21 n  k) ih x1 x3 x4 ((t.2.1 3) (x4).toNatClampNeg) t h
  refine J_lv [0, 1] [(0, .ref (a 0)), (1, .int x1)] rfl ?_
  unfold m_Model_frame at h
  refine J_aload_n X d_Model_frame_0 0 rfl rfl ?_
  refine J_iconst (v := (0 : Int32)) X d_Model_frame_1 (by decide) ?_
  refine J_put (ty := .int) (v := .int (0 : Int32)) X (fun w h => mm (in_Model w h)) ty_Model tyk_Model nm_Model 0 rfl rfl 0 (by decide) (mm k_fl_Model_77) rfl rfl (by decide +kernel) rfl rfl (Nat.le_of_ble_eq_true rfl) d_Model_frame_2 (wM cI cB cJ cZ a (sG t 0 (0 : Int32))) rfl ?_
  refine J_aload_n X d_Model_frame_5 0 rfl rfl ?_
  refine J_get (v := .int (t.1 9)) X (fun w h => mm (in_Model w h)) 0 rfl rfl 11 (by decide) (mm k_fl_Model_86) rfl rfl d_Model_frame_6 ?_
  refine J_if_ne X 14 d_Model_frame_9 (by decide) (fun c9 => ?_) (fun c9 => ?_)
  · rw [if_neg c9] at h
    refine J_iconst (v := (0 : Int32)) X d_Model_frame_14 (by decide) ?_
    refine J_istore_n X [(2, .int (0 : Int32)), (0, .ref (a 0)), (1, .int x1)] d_Model_frame_15 rfl (by decide) rfl ?_
    refine J_iconst (v := (0 : Int32)) X d_Model_frame_16 (by decide) ?_
    refine J_istore_n X [(3, .int (0 : Int32)), (2, .int (0 : Int32)), (0, .ref (a 0)), (1, .int x1)] d_Model_frame_17 rfl (by decide) rfl ?_
    refine J_iconst (v := (0 : Int32)) X d_Model_frame_18 (by decide) ?_
    refine J_istore X [(4, .int (0 : Int32)), (3, .int (0 : Int32)), (2, .int (0 : Int32)), (0, .ref (a 0)), (1, .int x1)] d_Model_frame_19 (by decide) rfl ?_
    refine J_lv [3, 4, 2, 1, 0] [(0, .ref (a 0)), (1, .int x1), (2, .int (0 : Int32)), (3, .int (0 : Int32)), (4, .int (0 : Int32))] rfl ?_
    exact L21  n x1 (0 : Int32) (0 : Int32) (0 : Int32) (sG t 0 (0 : Int32)) h
  · rw [if_pos c9] at h
    refine J_iconst (v := (-1 : Int32)) X d_Model_frame_12 (by decide) ?_
    exact J_iret X hr hlk () (Nat.le_of_ble_eq_true rfl) (Nat.le_of_ble_eq_true rfl) (j_r1 h) (congrArg (fun q => wM cI cB cJ cZ a q) (j_r2 h)) d_Model_frame_13
set_option maxHeartbeats 4000000 in
set_option maxRecDepth 100000 in
theorem ct_Model_component (l : Launch) (dC : Nat → ClassId) (dI : Nat → Nat → Nat) (cI cB cJ cZ : ClassId) (a : Nat → Nat) (n : Nat) (x1 : Int32) (x2 : Int32) (t : St) {z : Int32 × St} (h : m_Model_component n x1 x2 t = some z) : jMi l y_Model_component w_Model_component ({ frames := 0, cells := 0, slots := 0, locals := 0 }) (dC, dI) vwCl (tyA cI cB cJ cZ) [.ref (a 0), .int x1, .int x2] (wM cI cB cJ cZ a t) z.1 (fun _ : Unit => wM cI cB cJ cZ a z.2) := by
  refine jMi.of (cc := c_Model_component) (maxL := 3) (ret := (some .int)) (by decide) rfl (Nat.le_of_ble_eq_true rfl) ?_
  intro p e s m args below meth c A X hr hlk hnm
  refine J_lv [0, 1, 2] [(0, .ref (a 0)), (1, .int x1), (2, .int x2)] rfl ?_
  unfold m_Model_component at h
  refine J_aload_n X d_Model_component_0 0 rfl rfl ?_
  refine J_iconst (v := (0 : Int32)) X d_Model_component_1 (by decide) ?_
  refine J_put (ty := .int) (v := .int (0 : Int32)) X (fun w h => mm (in_Model w h)) ty_Model tyk_Model nm_Model 0 rfl rfl 0 (by decide) (mm k_fl_Model_77) rfl rfl (by decide +kernel) rfl rfl (Nat.le_of_ble_eq_true rfl) d_Model_component_2 (wM cI cB cJ cZ a (sG t 0 (0 : Int32))) rfl ?_
  refine J_iload_n X d_Model_component_5 1 rfl rfl ?_
  refine J_if_lt X 17 d_Model_component_6 (by decide) (fun c6 => ?_) (fun c6 => ?_)
  · rw [if_pos c6] at h
    refine J_iconst (v := (-1 : Int32)) X d_Model_component_17 (by decide) ?_
    exact J_iret X hr hlk () (Nat.le_of_ble_eq_true rfl) (Nat.le_of_ble_eq_true rfl) (j_r1 h) (congrArg (fun q => wM cI cB cJ cZ a q) (j_r2 h)) d_Model_component_18
  · rw [if_neg c6] at h
    refine J_iload_n X d_Model_component_9 1 rfl rfl ?_
    refine J_aload_n X d_Model_component_10 0 rfl rfl ?_
    refine J_get (v := .int (t.1 12)) X (fun w h => mm (in_Model w h)) 0 rfl rfl 14 (by decide) (mm k_fl_Model_95) rfl rfl d_Model_component_11 ?_
    refine J_icmp_lt X 19 d_Model_component_14 (by decide) (fun c14 => ?_) (fun c14 => ?_)
    · rw [if_pos c14] at h
      refine J_iload_n X d_Model_component_19 2 rfl rfl ?_
      refine J_if_ne X 32 d_Model_component_20 (by decide) (fun c20 => ?_) (fun c20 => ?_)
      · rw [if_neg c20] at h
        refine J_iload_n X d_Model_component_32 2 rfl rfl ?_
        refine J_iconst (v := (1 : Int32)) X d_Model_component_33 (by decide) ?_
        refine J_icmp_ne X 46 d_Model_component_34 (by decide) (fun c34 => ?_) (fun c34 => ?_)
        · rw [if_neg c34] at h
          refine J_iload_n X d_Model_component_46 2 rfl rfl ?_
          refine J_iconst (v := (2 : Int32)) X d_Model_component_47 (by decide) ?_
          refine J_icmp_ne X 60 d_Model_component_48 (by decide) (fun c48 => ?_) (fun c48 => ?_)
          · rw [if_neg c48] at h
            refine J_iload_n X d_Model_component_60 2 rfl rfl ?_
            refine J_iconst (v := (3 : Int32)) X d_Model_component_61 (by decide) ?_
            refine J_icmp_ne X 74 d_Model_component_62 (by decide) (fun c62 => ?_) (fun c62 => ?_)
            · rw [if_neg c62] at h
              refine J_iconst (v := (-1 : Int32)) X d_Model_component_74 (by decide) ?_
              exact J_iret X hr hlk () (Nat.le_of_ble_eq_true rfl) (Nat.le_of_ble_eq_true rfl) (j_r1 h) (congrArg (fun q => wM cI cB cJ cZ a q) (j_r2 h)) d_Model_component_75
            · rw [if_pos c62] at h
              refine J_aload_n X d_Model_component_65 0 rfl rfl ?_
              refine J_get (v := .ref (a 6)) X (fun w h => mm (in_Model w h)) 0 rfl rfl 18 (by decide) (mm k_fl_Model_30) rfl rfl d_Model_component_66 ?_
              refine J_iload_n X d_Model_component_69 1 rfl rfl ?_
              obtain ⟨b70, h⟩ := j_ifn h
              refine J_iald (f := (t.2.1 5)) X 6 0 rfl rfl b70 d_Model_component_70 ?_
              refine J_goto X 75 d_Model_component_71 (by decide) ?_
              exact J_iret X hr hlk () (Nat.le_of_ble_eq_true rfl) (Nat.le_of_ble_eq_true rfl) (j_r1 h) (congrArg (fun q => wM cI cB cJ cZ a q) (j_r2 h)) d_Model_component_75
          · rw [if_pos c48] at h
            refine J_aload_n X d_Model_component_51 0 rfl rfl ?_
            refine J_get (v := .ref (a 5)) X (fun w h => mm (in_Model w h)) 0 rfl rfl 17 (by decide) (mm k_fl_Model_27) rfl rfl d_Model_component_52 ?_
            refine J_iload_n X d_Model_component_55 1 rfl rfl ?_
            obtain ⟨b56, h⟩ := j_ifn h
            refine J_iald (f := (t.2.1 4)) X 5 0 rfl rfl b56 d_Model_component_56 ?_
            refine J_goto X 75 d_Model_component_57 (by decide) ?_
            exact J_iret X hr hlk () (Nat.le_of_ble_eq_true rfl) (Nat.le_of_ble_eq_true rfl) (j_r1 h) (congrArg (fun q => wM cI cB cJ cZ a q) (j_r2 h)) d_Model_component_75
        · rw [if_pos c34] at h
          refine J_aload_n X d_Model_component_37 0 rfl rfl ?_
          refine J_get (v := .ref (a 4)) X (fun w h => mm (in_Model w h)) 0 rfl rfl 16 (by decide) (mm k_fl_Model_24) rfl rfl d_Model_component_38 ?_
          refine J_iload_n X d_Model_component_41 1 rfl rfl ?_
          obtain ⟨b42, h⟩ := j_ifn h
          refine J_iald (f := (t.2.1 3)) X 4 0 rfl rfl b42 d_Model_component_42 ?_
          refine J_goto X 75 d_Model_component_43 (by decide) ?_
          exact J_iret X hr hlk () (Nat.le_of_ble_eq_true rfl) (Nat.le_of_ble_eq_true rfl) (j_r1 h) (congrArg (fun q => wM cI cB cJ cZ a q) (j_r2 h)) d_Model_component_75
      · rw [if_pos c20] at h
        refine J_aload_n X d_Model_component_23 0 rfl rfl ?_
        refine J_get (v := .ref (a 3)) X (fun w h => mm (in_Model w h)) 0 rfl rfl 15 (by decide) (mm k_fl_Model_21) rfl rfl d_Model_component_24 ?_
        refine J_iload_n X d_Model_component_27 1 rfl rfl ?_
        obtain ⟨b28, h⟩ := j_ifn h
        refine J_iald (f := (t.2.1 2)) X 3 0 rfl rfl b28 d_Model_component_28 ?_
        refine J_goto X 75 d_Model_component_29 (by decide) ?_
        exact J_iret X hr hlk () (Nat.le_of_ble_eq_true rfl) (Nat.le_of_ble_eq_true rfl) (j_r1 h) (congrArg (fun q => wM cI cB cJ cZ a q) (j_r2 h)) d_Model_component_75
    · rw [if_neg c14] at h
      refine J_iconst (v := (-1 : Int32)) X d_Model_component_17 (by decide) ?_
      exact J_iret X hr hlk () (Nat.le_of_ble_eq_true rfl) (Nat.le_of_ble_eq_true rfl) (j_r1 h) (congrArg (fun q => wM cI cB cJ cZ a q) (j_r2 h)) d_Model_component_18

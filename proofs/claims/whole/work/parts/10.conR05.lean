set_option maxHeartbeats 4000000 in
set_option maxRecDepth 100000 in
theorem ct_Model_segment1 (l : Launch) (dC : Nat → ClassId) (dI : Nat → Nat → Nat) (cI cB cJ cZ : ClassId) (a : Nat → Nat) (n : Nat) (x1 : Int32) (t : St) {z : Int32 × St} (h : m_Model_segment1 n x1 t = some z) : jMi l y_Model_segment1 w_Model_segment1 ({ frames := 4, cells := 0, slots := 0, locals := 93 }) (dC, dI) vwCl (tyA cI cB cJ cZ) [.ref (a 0), .int x1] (wM cI cB cJ cZ a t) z.1 (fun _ : Unit => wM cI cB cJ cZ a z.2) := by
  refine jMi.of (cc := c_Model_segment1) (maxL := 3) (ret := (some .boolean)) (by decide) rfl (Nat.le_of_ble_eq_true rfl) ?_
  intro p e s m args below meth c A X hr hlk hnm
  have L203 : ∀  (t : St), m_Model_segment1_203 n   t = some z → J p l e { frames := 4, cells := 0, slots := 0, locals := 93 } s m args below meth c 3 (dC, dI) vwCl A (MQ below (jQi (dC, dI) vwCl (tyA cI cB cJ cZ) z.1 (fun _ : Unit => wM cI cB cJ cZ a z.2) A) args s 0 0 A) 0 0 203 [] [] (wM cI cB cJ cZ a t) := by
    intro  t h
    unfold m_Model_segment1_203 at h
    refine J_iconst (v := (0 : Int32)) X d_Model_segment1_203 (by decide) ?_
    exact J_zret X hr hlk () rfl (Nat.le_of_ble_eq_true rfl) (Nat.le_of_ble_eq_true rfl) (congrArg Prod.fst (j_s h)) (congrArg (fun q => wM cI cB cJ cZ a q.2) (j_s h)) d_Model_segment1_204
  have L161 : ∀ (x1 : Int32) (t : St), m_Model_segment1_161 n  x1 t = some z → J p l e { frames := 4, cells := 0, slots := 0, locals := 93 } s m args below meth c 3 (dC, dI) vwCl A (MQ below (jQi (dC, dI) vwCl (tyA cI cB cJ cZ) z.1 (fun _ : Unit => wM cI cB cJ cZ a z.2) A) args s 0 0 A) 0 0 161 [(0, .ref (a 0)), (1, .int x1)] [] (wM cI cB cJ cZ a t) := by
    intro x1 t h
    unfold m_Model_segment1_161 at h
    refine J_aload_n X d_Model_segment1_161 0 rfl rfl ?_
    refine J_iload_n X d_Model_segment1_162 1 rfl rfl ?_
    obtain ⟨z163, hz163, h⟩ := j_bind h
    refine J_callVv0 (wc := (wM cI cB cJ cZ a t)) (w1 := fun _ : Unit => wM cI cB cJ cZ a z163) X isM (hCM cI cB cJ cZ a t) (hDM cI cB cJ cZ a t) rfl [.int x1] [] (ct_Model_close l dC dI cI cB cJ cZ a n x1 t hz163) (aw_V (fun w h => mm h) k_ml_Model_207 k_im_Model_close k_se_Model_close k_in_Model k_cd_Model_close) rfl (by decide +kernel) ⟨(Nat.le_of_ble_eq_true rfl), (Nat.le_of_ble_eq_true rfl)⟩ (q0 := 0) rfl rfl rfl rfl (Nat.le_of_ble_eq_true rfl) d_Model_segment1_163 ⟨(Nat.le_of_ble_eq_true rfl), (Nat.le_of_ble_eq_true rfl)⟩ (fun _ => ?_)
    refine J_iload_n X d_Model_segment1_166 1 rfl rfl ?_
    refine J_sipush (v := (218 : Int32)) X d_Model_segment1_167 (by decide) ?_
    refine J_icmp_ne X 205 d_Model_segment1_170 (by decide) (fun c170 => ?_) (fun c170 => ?_)
    · rw [if_neg c170] at h
      refine J_iconst (v := (0 : Int32)) X d_Model_segment1_205 (by decide) ?_
      exact J_zret X hr hlk () rfl (Nat.le_of_ble_eq_true rfl) (Nat.le_of_ble_eq_true rfl) (congrArg Prod.fst (j_s h)) (congrArg (fun q => wM cI cB cJ cZ a q.2) (j_s h)) d_Model_segment1_206
    · rw [if_pos c170] at h
      refine J_aload_n X d_Model_segment1_173 0 rfl rfl ?_
      refine J_get (v := .int (z163.1 2)) X (fun w h => mm (in_Model w h)) 0 rfl rfl 3 (by decide) (mm k_fl_Model_107) rfl rfl d_Model_segment1_174 ?_
      refine J_if_ne X 205 d_Model_segment1_177 (by decide) (fun c177 => ?_) (fun c177 => ?_)
      · rw [if_neg c177] at h
        refine J_iconst (v := (0 : Int32)) X d_Model_segment1_205 (by decide) ?_
        exact J_zret X hr hlk () rfl (Nat.le_of_ble_eq_true rfl) (Nat.le_of_ble_eq_true rfl) (congrArg Prod.fst (j_s h)) (congrArg (fun q => wM cI cB cJ cZ a q.2) (j_s h)) d_Model_segment1_206
      · rw [if_pos c177] at h
        refine J_aload_n X d_Model_segment1_180 0 rfl rfl ?_
        obtain ⟨z181, hz181, h⟩ := j_bind h
        refine J_callVv0 (wc := (wM cI cB cJ cZ a z163)) (w1 := fun _ : Unit => wM cI cB cJ cZ a z181) X isM (hCM cI cB cJ cZ a z163) (hDM cI cB cJ cZ a z163) rfl [] [] (ct_Model_keepScan l dC dI cI cB cJ cZ a n z163 hz181) (aw_V (fun w h => mm h) k_ml_Model_210 k_im_Model_keepScan k_se_Model_keepScan k_in_Model k_cd_Model_keepScan) rfl (by decide +kernel) ⟨(Nat.le_of_ble_eq_true rfl), (Nat.le_of_ble_eq_true rfl)⟩ (q0 := 0) rfl rfl rfl rfl (Nat.le_of_ble_eq_true rfl) d_Model_segment1_181 ⟨(Nat.le_of_ble_eq_true rfl), (Nat.le_of_ble_eq_true rfl)⟩ (fun _ => ?_)
        refine J_aload_n X d_Model_segment1_184 0 rfl rfl ?_
        refine J_get (v := .int (z181.1 11)) X (fun w h => mm (in_Model w h)) 0 rfl rfl 13 (by decide) (mm k_fl_Model_92) rfl rfl d_Model_segment1_185 ?_
        refine J_if_ne X 203 d_Model_segment1_188 (by decide) (fun c188 => ?_) (fun c188 => ?_)
        · rw [if_neg c188] at h
          refine J_lv [] [] rfl ?_
          exact L203  z181 h
        · rw [if_pos c188] at h
          refine J_aload_n X d_Model_segment1_191 0 rfl rfl ?_
          refine J_get (v := .int (z181.1 14)) X (fun w h => mm (in_Model w h)) 0 rfl rfl 26 (by decide) (mm k_fl_Model_101) rfl rfl d_Model_segment1_192 ?_
          refine J_iconst (v := (1 : Int32)) X d_Model_segment1_195 (by decide) ?_
          refine J_icmp_ne X 203 d_Model_segment1_196 (by decide) (fun c196 => ?_) (fun c196 => ?_)
          · rw [if_neg c196] at h
            refine J_lv [] [] rfl ?_
            exact L203  z181 h
          · rw [if_pos c196] at h
            refine J_iconst (v := (1 : Int32)) X d_Model_segment1_199 (by decide) ?_
            refine J_goto X 204 d_Model_segment1_200 (by decide) ?_
            exact J_zret X hr hlk () rfl (Nat.le_of_ble_eq_true rfl) (Nat.le_of_ble_eq_true rfl) (congrArg Prod.fst (j_s h)) (congrArg (fun q => wM cI cB cJ cZ a q.2) (j_s h)) d_Model_segment1_204
  have L89 : ∀ (x1 : Int32) (t : St), m_Model_segment1_89 n  x1 t = some z → J p l e { frames := 4, cells := 0, slots := 0, locals := 93 } s m args below meth c 3 (dC, dI) vwCl A (MQ below (jQi (dC, dI) vwCl (tyA cI cB cJ cZ) z.1 (fun _ : Unit => wM cI cB cJ cZ a z.2) A) args s 0 0 A) 0 0 89 [(0, .ref (a 0)), (1, .int x1)] [] (wM cI cB cJ cZ a t) := by
    intro x1 t h
    unfold m_Model_segment1_89 at h
    refine J_aload_n X d_Model_segment1_89 0 rfl rfl ?_
    refine J_iload_n X d_Model_segment1_90 1 rfl rfl ?_
    obtain ⟨z91, hz91, h⟩ := j_bind h
    refine J_callVv0 (wc := (wM cI cB cJ cZ a t)) (w1 := fun _ : Unit => wM cI cB cJ cZ a z91) X isM (hCM cI cB cJ cZ a t) (hDM cI cB cJ cZ a t) rfl [.int x1] [] (ct_Model_readFrame l dC dI cI cB cJ cZ a n x1 t hz91) (aw_V (fun w h => mm h) k_ml_Model_198 k_im_Model_readFrame k_se_Model_readFrame k_in_Model k_cd_Model_readFrame) rfl (by decide +kernel) ⟨(Nat.le_of_ble_eq_true rfl), (Nat.le_of_ble_eq_true rfl)⟩ (q0 := 0) rfl rfl rfl rfl (Nat.le_of_ble_eq_true rfl) d_Model_segment1_91 ⟨(Nat.le_of_ble_eq_true rfl), (Nat.le_of_ble_eq_true rfl)⟩ (fun _ => ?_)
    refine J_goto X 161 d_Model_segment1_94 (by decide) ?_
    refine J_lv [0, 1] [(0, .ref (a 0)), (1, .int x1)] rfl ?_
    exact L161  x1 z91 h
  have L146 : ∀ (x1 : Int32) (x2 : Int32) (y1 : Int32) (t : St), m_Model_segment1_146 n  x1 x2 y1 t = some z → J p l e { frames := 4, cells := 0, slots := 0, locals := 93 } s m args below meth c 3 (dC, dI) vwCl A (MQ below (jQi (dC, dI) vwCl (tyA cI cB cJ cZ) z.1 (fun _ : Unit => wM cI cB cJ cZ a z.2) A) args s 0 0 A) 0 0 146 [(0, .ref (a 0)), (1, .int x1), (2, .int x2)] [.int y1, .ref (a 0)] (wM cI cB cJ cZ a t) := by
    intro x1 x2 y1 t h
    unfold m_Model_segment1_146 at h
    obtain ⟨z146, hz146, h⟩ := j_bind h
    refine J_callVv0 (wc := (wM cI cB cJ cZ a t)) (w1 := fun _ : Unit => wM cI cB cJ cZ a z146) X isM (hCM cI cB cJ cZ a t) (hDM cI cB cJ cZ a t) rfl [.int y1] [] (ct_Model_must l dC dI cI cB cJ cZ a n y1 t hz146) (aw_V (fun w h => mm h) k_ml_Model_140 k_im_Model_must k_se_Model_must k_in_Model k_cd_Model_must) rfl (by decide +kernel) ⟨(Nat.le_of_ble_eq_true rfl), (Nat.le_of_ble_eq_true rfl)⟩ (q0 := 0) rfl rfl rfl rfl (Nat.le_of_ble_eq_true rfl) d_Model_segment1_146 ⟨(Nat.le_of_ble_eq_true rfl), (Nat.le_of_ble_eq_true rfl)⟩ (fun _ => ?_)
    refine J_aload_n X d_Model_segment1_149 0 rfl rfl ?_
    refine J_iload_n X d_Model_segment1_150 2 rfl rfl ?_
    refine J_put (ty := .int) (v := .int x2) X (fun w h => mm (in_Model w h)) ty_Model tyk_Model nm_Model 0 rfl rfl 13 (by decide) (mm k_fl_Model_92) rfl rfl (by decide +kernel) rfl rfl (Nat.le_of_ble_eq_true rfl) d_Model_segment1_151 (wM cI cB cJ cZ a (sG z146 11 x2)) rfl ?_
    refine J_goto X 161 d_Model_segment1_154 (by decide) ?_
    refine J_lv [0, 1] [(0, .ref (a 0)), (1, .int x1)] rfl ?_
    exact L161  x1 (sG z146 11 x2) h
  have L141 : ∀ (x1 : Int32) (x2 : Int32) (t : St), m_Model_segment1_141 n  x1 x2 t = some z → J p l e { frames := 4, cells := 0, slots := 0, locals := 93 } s m args below meth c 3 (dC, dI) vwCl A (MQ below (jQi (dC, dI) vwCl (tyA cI cB cJ cZ) z.1 (fun _ : Unit => wM cI cB cJ cZ a z.2) A) args s 0 0 A) 0 0 141 [(0, .ref (a 0)), (1, .int x1), (2, .int x2)] [.ref (a 0)] (wM cI cB cJ cZ a t) := by
    intro x1 x2 t h
    unfold m_Model_segment1_141 at h
    refine J_iconst (v := (1 : Int32)) X d_Model_segment1_141 (by decide) ?_
    refine J_goto X 146 d_Model_segment1_142 (by decide) ?_
    refine J_lv [0, 1, 2] [(0, .ref (a 0)), (1, .int x1), (2, .int x2)] rfl ?_
    exact L146  x1 x2 (1 : Int32) t h
  have L145 : ∀ (x1 : Int32) (x2 : Int32) (t : St), m_Model_segment1_145 n  x1 x2 t = some z → J p l e { frames := 4, cells := 0, slots := 0, locals := 93 } s m args below meth c 3 (dC, dI) vwCl A (MQ below (jQi (dC, dI) vwCl (tyA cI cB cJ cZ) z.1 (fun _ : Unit => wM cI cB cJ cZ a z.2) A) args s 0 0 A) 0 0 145 [(0, .ref (a 0)), (1, .int x1), (2, .int x2)] [.ref (a 0)] (wM cI cB cJ cZ a t) := by
    intro x1 x2 t h
    unfold m_Model_segment1_145 at h
    refine J_iconst (v := (0 : Int32)) X d_Model_segment1_145 (by decide) ?_
    refine J_lv [0, 1, 2] [(0, .ref (a 0)), (1, .int x1), (2, .int x2)] rfl ?_
    exact L146  x1 x2 (0 : Int32) t h
  have L69 : ∀ (x1 : Int32) (y1 : Int32) (t : St), m_Model_segment1_69 n  x1 y1 t = some z → J p l e { frames := 4, cells := 0, slots := 0, locals := 93 } s m args below meth c 3 (dC, dI) vwCl A (MQ below (jQi (dC, dI) vwCl (tyA cI cB cJ cZ) z.1 (fun _ : Unit => wM cI cB cJ cZ a z.2) A) args s 0 0 A) 0 0 69 [(0, .ref (a 0)), (1, .int x1)] [.int y1, .ref (a 0)] (wM cI cB cJ cZ a t) := by
    intro x1 y1 t h
    unfold m_Model_segment1_69 at h
    refine J_put (ty := .int) (v := .int y1) X (fun w h => mm (in_Model w h)) ty_Model tyk_Model nm_Model 0 rfl rfl 19 (by decide) (mm k_fl_Model_98) rfl rfl (by decide +kernel) rfl rfl (Nat.le_of_ble_eq_true rfl) d_Model_segment1_69 (wM cI cB cJ cZ a (sG t 13 y1)) rfl ?_
    refine J_goto X 161 d_Model_segment1_72 (by decide) ?_
    refine J_lv [0, 1] [(0, .ref (a 0)), (1, .int x1)] rfl ?_
    exact L161  x1 (sG t 13 y1) h
  refine J_lv [0, 1] [(0, .ref (a 0)), (1, .int x1)] rfl ?_
  unfold m_Model_segment1 at h
  refine J_aload_n X d_Model_segment1_0 0 rfl rfl ?_
  obtain ⟨z1, hz1, h⟩ := j_bind h
  refine J_callVv0 (wc := (wM cI cB cJ cZ a t)) (w1 := fun _ : Unit => wM cI cB cJ cZ a z1) X isM (hCM cI cB cJ cZ a t) (hDM cI cB cJ cZ a t) rfl [] [] (ct_Model_open l dC dI cI cB cJ cZ a n t hz1) (aw_V (fun w h => mm h) k_ml_Model_189 k_im_Model_open k_se_Model_open k_in_Model k_cd_Model_open) rfl (by decide +kernel) ⟨(Nat.le_of_ble_eq_true rfl), (Nat.le_of_ble_eq_true rfl)⟩ (q0 := 0) rfl rfl rfl rfl (Nat.le_of_ble_eq_true rfl) d_Model_segment1_1 ⟨(Nat.le_of_ble_eq_true rfl), (Nat.le_of_ble_eq_true rfl)⟩ (fun _ => ?_)
  refine J_aload_n X d_Model_segment1_4 0 rfl rfl ?_
  refine J_get (v := .int (z1.1 2)) X (fun w h => mm (in_Model w h)) 0 rfl rfl 3 (by decide) (mm k_fl_Model_107) rfl rfl d_Model_segment1_5 ?_
  refine J_if_le X 13 d_Model_segment1_8 (by decide) (fun c8 => ?_) (fun c8 => ?_)
  · rw [if_pos c8] at h
    refine J_iload_n X d_Model_segment1_13 1 rfl rfl ?_
    refine J_sipush (v := (219 : Int32)) X d_Model_segment1_14 (by decide) ?_
    refine J_icmp_ne X 27 d_Model_segment1_17 (by decide) (fun c17 => ?_) (fun c17 => ?_)
    · rw [if_neg c17] at h
      refine J_iload_n X d_Model_segment1_27 1 rfl rfl ?_
      refine J_sipush (v := (196 : Int32)) X d_Model_segment1_28 (by decide) ?_
      refine J_icmp_ne X 41 d_Model_segment1_31 (by decide) (fun c31 => ?_) (fun c31 => ?_)
      · rw [if_neg c31] at h
        refine J_iload_n X d_Model_segment1_41 1 rfl rfl ?_
        refine J_sipush (v := (221 : Int32)) X d_Model_segment1_42 (by decide) ?_
        refine J_icmp_ne X 75 d_Model_segment1_45 (by decide) (fun c45 => ?_) (fun c45 => ?_)
        · rw [if_neg c45] at h
          refine J_iload_n X d_Model_segment1_75 1 rfl rfl ?_
          refine J_sipush (v := (192 : Int32)) X d_Model_segment1_76 (by decide) ?_
          refine J_icmp_eq X 89 d_Model_segment1_79 (by decide) (fun c79 => ?_) (fun c79 => ?_)
          · rw [if_pos c79] at h
            refine J_lv [0, 1] [(0, .ref (a 0)), (1, .int x1)] rfl ?_
            exact L89  x1 z1 h
          · rw [if_neg c79] at h
            refine J_iload_n X d_Model_segment1_82 1 rfl rfl ?_
            refine J_sipush (v := (194 : Int32)) X d_Model_segment1_83 (by decide) ?_
            refine J_icmp_ne X 97 d_Model_segment1_86 (by decide) (fun c86 => ?_) (fun c86 => ?_)
            · rw [if_neg c86] at h
              refine J_iload_n X d_Model_segment1_97 1 rfl rfl ?_
              refine J_sipush (v := (218 : Int32)) X d_Model_segment1_98 (by decide) ?_
              refine J_icmp_ne X 111 d_Model_segment1_101 (by decide) (fun c101 => ?_) (fun c101 => ?_)
              · rw [if_neg c101] at h
                refine J_iload_n X d_Model_segment1_111 1 rfl rfl ?_
                refine J_sipush (v := (220 : Int32)) X d_Model_segment1_112 (by decide) ?_
                refine J_icmp_ne X 157 d_Model_segment1_115 (by decide) (fun c115 => ?_) (fun c115 => ?_)
                · rw [if_neg c115] at h
                  refine J_aload_n X d_Model_segment1_157 0 rfl rfl ?_
                  obtain ⟨z158, hz158, h⟩ := j_bind h
                  refine J_callVv0 (wc := (wM cI cB cJ cZ a z1)) (w1 := fun _ : Unit => wM cI cB cJ cZ a z158) X isM (hCM cI cB cJ cZ a z1) (hDM cI cB cJ cZ a z1) rfl [] [] (ct_Model_any l dC dI cI cB cJ cZ a n z1 hz158) (aw_V (fun w h => mm h) k_ml_Model_204 k_im_Model_any k_se_Model_any k_in_Model k_cd_Model_any) rfl (by decide +kernel) ⟨(Nat.le_of_ble_eq_true rfl), (Nat.le_of_ble_eq_true rfl)⟩ (q0 := 0) rfl rfl rfl rfl (Nat.le_of_ble_eq_true rfl) d_Model_segment1_158 ⟨(Nat.le_of_ble_eq_true rfl), (Nat.le_of_ble_eq_true rfl)⟩ (fun _ => ?_)
                  refine J_lv [0, 1] [(0, .ref (a 0)), (1, .int x1)] rfl ?_
                  exact L161  x1 z158 h
                · rw [if_pos c115] at h
                  refine J_aload_n X d_Model_segment1_118 0 rfl rfl ?_
                  obtain ⟨z119, hz119, h⟩ := j_bind h
                  refine J_callVi0 (wc := (wM cI cB cJ cZ a z1)) (r := z119.1) (w1 := fun _ : Unit => wM cI cB cJ cZ a z119.2) X isM (hCM cI cB cJ cZ a z1) (hDM cI cB cJ cZ a z1) rfl [] [] (ct_Model_two l dC dI cI cB cJ cZ a n z1 hz119) (aw_V (fun w h => mm h) k_ml_Model_137 k_im_Model_two k_se_Model_two k_in_Model k_cd_Model_two) rfl (by decide +kernel) ⟨(Nat.le_of_ble_eq_true rfl), (Nat.le_of_ble_eq_true rfl)⟩ (q0 := 0) rfl rfl rfl rfl (Nat.le_of_ble_eq_true rfl) d_Model_segment1_119 ⟨(Nat.le_of_ble_eq_true rfl), (Nat.le_of_ble_eq_true rfl)⟩ (fun _ => ?_)
                  refine J_istore_n X [(2, .int z119.1), (0, .ref (a 0)), (1, .int x1)] d_Model_segment1_122 rfl (by decide) rfl ?_
                  refine J_aload_n X d_Model_segment1_123 1 rfl rfl ?_
                  refine J_aload_n X d_Model_segment1_124 1 rfl rfl ?_
                  refine J_get (v := .int (z119.2.1 2)) X (fun w h => mm (in_Model w h)) 0 rfl rfl 3 (by decide) (mm k_fl_Model_107) rfl rfl d_Model_segment1_125 ?_
                  refine J_if_gt X 141 d_Model_segment1_128 (by decide) (fun c128 => ?_) (fun c128 => ?_)
                  · rw [if_pos c128] at h
                    refine J_lv [1, 2, 0] [(0, .ref (a 0)), (1, .int x1), (2, .int z119.1)] rfl ?_
                    exact L141  x1 z119.1 z119.2 h
                  · rw [if_neg c128] at h
                    refine J_iload_n X d_Model_segment1_131 0 rfl rfl ?_
                    refine J_if_le X 145 d_Model_segment1_132 (by decide) (fun c132 => ?_) (fun c132 => ?_)
                    · rw [if_pos c132] at h
                      refine J_lv [1, 2, 0] [(0, .ref (a 0)), (1, .int x1), (2, .int z119.1)] rfl ?_
                      exact L145  x1 z119.1 z119.2 h
                    · rw [if_neg c132] at h
                      refine J_iload_n X d_Model_segment1_135 0 rfl rfl ?_
                      refine J_bipush (v := (64 : Int32)) X d_Model_segment1_136 (by decide) ?_
                      refine J_icmp_gt X 145 d_Model_segment1_138 (by decide) (fun c138 => ?_) (fun c138 => ?_)
                      · rw [if_pos c138] at h
                        refine J_lv [1, 2, 0] [(0, .ref (a 0)), (1, .int x1), (2, .int z119.1)] rfl ?_
                        exact L145  x1 z119.1 z119.2 h
                      · rw [if_neg c138] at h
                        refine J_lv [1, 2, 0] [(0, .ref (a 0)), (1, .int x1), (2, .int z119.1)] rfl ?_
                        exact L141  x1 z119.1 z119.2 h
              · rw [if_pos c101] at h
                refine J_aload_n X d_Model_segment1_104 0 rfl rfl ?_
                obtain ⟨z105, hz105, h⟩ := j_bind h
                refine J_callVv0 (wc := (wM cI cB cJ cZ a z1)) (w1 := fun _ : Unit => wM cI cB cJ cZ a z105) X isM (hCM cI cB cJ cZ a z1) (hDM cI cB cJ cZ a z1) rfl [] [] (ct_Model_readScan l dC dI cI cB cJ cZ a n z1 hz105) (aw_V (fun w h => mm h) k_ml_Model_201 k_im_Model_readScan k_se_Model_readScan k_in_Model k_cd_Model_readScan) rfl (by decide +kernel) ⟨(Nat.le_of_ble_eq_true rfl), (Nat.le_of_ble_eq_true rfl)⟩ (q0 := 0) rfl rfl rfl rfl (Nat.le_of_ble_eq_true rfl) d_Model_segment1_105 ⟨(Nat.le_of_ble_eq_true rfl), (Nat.le_of_ble_eq_true rfl)⟩ (fun _ => ?_)
                refine J_goto X 161 d_Model_segment1_108 (by decide) ?_
                refine J_lv [0, 1] [(0, .ref (a 0)), (1, .int x1)] rfl ?_
                exact L161  x1 z105 h
            · rw [if_pos c86] at h
              refine J_lv [0, 1] [(0, .ref (a 0)), (1, .int x1)] rfl ?_
              exact L89  x1 z1 h
        · rw [if_pos c45] at h
          refine J_aload_n X d_Model_segment1_48 0 rfl rfl ?_
          obtain ⟨z49, hz49, h⟩ := j_bind h
          refine J_callVi0 (wc := (wM cI cB cJ cZ a z1)) (r := z49.1) (w1 := fun _ : Unit => wM cI cB cJ cZ a z49.2) X isM (hCM cI cB cJ cZ a z1) (hDM cI cB cJ cZ a z1) rfl [] [] (ct_Model_two l dC dI cI cB cJ cZ a n z1 hz49) (aw_V (fun w h => mm h) k_ml_Model_137 k_im_Model_two k_se_Model_two k_in_Model k_cd_Model_two) rfl (by decide +kernel) ⟨(Nat.le_of_ble_eq_true rfl), (Nat.le_of_ble_eq_true rfl)⟩ (q0 := 0) rfl rfl rfl rfl (Nat.le_of_ble_eq_true rfl) d_Model_segment1_49 ⟨(Nat.le_of_ble_eq_true rfl), (Nat.le_of_ble_eq_true rfl)⟩ (fun _ => ?_)
          refine J_istore_n X [(2, .int z49.1), (0, .ref (a 0)), (1, .int x1)] d_Model_segment1_52 rfl (by decide) rfl ?_
          refine J_aload_n X d_Model_segment1_53 1 rfl rfl ?_
          refine J_aload_n X d_Model_segment1_54 1 rfl rfl ?_
          refine J_get (v := .int (z49.2.1 2)) X (fun w h => mm (in_Model w h)) 0 rfl rfl 3 (by decide) (mm k_fl_Model_107) rfl rfl d_Model_segment1_55 ?_
          refine J_if_ne X 65 d_Model_segment1_58 (by decide) (fun c58 => ?_) (fun c58 => ?_)
          · rw [if_neg c58] at h
            refine J_aload_n X d_Model_segment1_65 1 rfl rfl ?_
            refine J_get (v := .int (z49.2.1 13)) X (fun w h => mm (in_Model w h)) 0 rfl rfl 19 (by decide) (mm k_fl_Model_98) rfl rfl d_Model_segment1_66 ?_
            refine J_lv [1, 2] [(0, .ref (a 0)), (1, .int x1)] rfl ?_
            exact L69  x1 (z49.2.1 13) z49.2 h
          · rw [if_pos c58] at h
            refine J_iload_n X d_Model_segment1_61 0 rfl rfl ?_
            refine J_goto X 69 d_Model_segment1_62 (by decide) ?_
            refine J_lv [1, 2] [(0, .ref (a 0)), (1, .int x1)] rfl ?_
            exact L69  x1 z49.1 z49.2 h
      · rw [if_pos c31] at h
        refine J_aload_n X d_Model_segment1_34 0 rfl rfl ?_
        obtain ⟨z35, hz35, h⟩ := j_bind h
        refine J_callVv0 (wc := (wM cI cB cJ cZ a z1)) (w1 := fun _ : Unit => wM cI cB cJ cZ a z35) X isM (hCM cI cB cJ cZ a z1) (hDM cI cB cJ cZ a z1) rfl [] [] (ct_Model_readWords l dC dI cI cB cJ cZ a n z1 hz35) (aw_V (fun w h => mm h) k_ml_Model_195 k_im_Model_readWords k_se_Model_readWords k_in_Model k_cd_Model_readWords) rfl (by decide +kernel) ⟨(Nat.le_of_ble_eq_true rfl), (Nat.le_of_ble_eq_true rfl)⟩ (q0 := 0) rfl rfl rfl rfl (Nat.le_of_ble_eq_true rfl) d_Model_segment1_35 ⟨(Nat.le_of_ble_eq_true rfl), (Nat.le_of_ble_eq_true rfl)⟩ (fun _ => ?_)
        refine J_goto X 161 d_Model_segment1_38 (by decide) ?_
        refine J_lv [0, 1] [(0, .ref (a 0)), (1, .int x1)] rfl ?_
        exact L161  x1 z35 h
    · rw [if_pos c17] at h
      refine J_aload_n X d_Model_segment1_20 0 rfl rfl ?_
      obtain ⟨z21, hz21, h⟩ := j_bind h
      refine J_callVv0 (wc := (wM cI cB cJ cZ a z1)) (w1 := fun _ : Unit => wM cI cB cJ cZ a z21) X isM (hCM cI cB cJ cZ a z1) (hDM cI cB cJ cZ a z1) rfl [] [] (ct_Model_readQuantisers l dC dI cI cB cJ cZ a n z1 hz21) (aw_V (fun w h => mm h) k_ml_Model_192 k_im_Model_readQuantisers k_se_Model_readQuantisers k_in_Model k_cd_Model_readQuantisers) rfl (by decide +kernel) ⟨(Nat.le_of_ble_eq_true rfl), (Nat.le_of_ble_eq_true rfl)⟩ (q0 := 0) rfl rfl rfl rfl (Nat.le_of_ble_eq_true rfl) d_Model_segment1_21 ⟨(Nat.le_of_ble_eq_true rfl), (Nat.le_of_ble_eq_true rfl)⟩ (fun _ => ?_)
      refine J_goto X 161 d_Model_segment1_24 (by decide) ?_
      refine J_lv [0, 1] [(0, .ref (a 0)), (1, .int x1)] rfl ?_
      exact L161  x1 z21 h
  · rw [if_neg c8] at h
    refine J_iconst (v := (0 : Int32)) X d_Model_segment1_11 (by decide) ?_
    exact J_zret X hr hlk () rfl (Nat.le_of_ble_eq_true rfl) (Nat.le_of_ble_eq_true rfl) (congrArg Prod.fst (j_s h)) (congrArg (fun q => wM cI cB cJ cZ a q.2) (j_s h)) d_Model_segment1_12
set_option maxHeartbeats 4000000 in
set_option maxRecDepth 100000 in
theorem ct_Model_readFile (l : Launch) (dC : Nat → ClassId) (dI : Nat → Nat → Nat) (cI cB cJ cZ : ClassId) (a : Nat → Nat) (n : Nat)  (t : St) {z : St} (h : m_Model_readFile n t = some z) : jMv l y_Model_readFile w_Model_readFile ({ frames := 5, cells := 0, slots := 0, locals := 115 }) (dC, dI) vwCl (tyA cI cB cJ cZ) [.ref (a 0)] (wM cI cB cJ cZ a t) (fun _ : Unit => wM cI cB cJ cZ a z) := by
  refine jMv.of (cc := c_Model_readFile) (maxL := 9) (ret := none) (by decide) rfl (Nat.le_of_ble_eq_true rfl) ?_
  intro p e s m args below meth c A X hr hlk hnm
  have L273 : ∀ (K56 : Int32 → Int32 → St → Option (St)) (hK56 : ∀ (x2 : Int32) (x3 : Int32) (t : St), K56 x2 x3 t = some z → J p l e { frames := 5, cells := 0, slots := 0, locals := 115 } s m args below meth c 9 (dC, dI) vwCl A (MQ below (jQv (dC, dI) vwCl (tyA cI cB cJ cZ) (fun _ : Unit => wM cI cB cJ cZ a z) A) args s 0 0 A) 0 0 56 [(0, .ref (a 0)), (2, .int x2), (3, .int x3)] [] (wM cI cB cJ cZ a t)) (x2 : Int32) (x3 : Int32) (t : St), m_Model_readFile_273 n K56 x2 x3 t = some z → J p l e { frames := 5, cells := 0, slots := 0, locals := 115 } s m args below meth c 9 (dC, dI) vwCl A (MQ below (jQv (dC, dI) vwCl (tyA cI cB cJ cZ) (fun _ : Unit => wM cI cB cJ cZ a z) A) args s 0 0 A) 0 0 273 [(0, .ref (a 0)), (2, .int x2), (3, .int x3)] [] (wM cI cB cJ cZ a t) := by
    intro K56 hK56 x2 x3 t h
    unfold m_Model_readFile_273 at h
    refine J_goto X 56 d_Model_readFile_273 (by decide) ?_
    refine J_lv [0, 1, 2] [(0, .ref (a 0)), (2, .int x2), (3, .int x3)] rfl ?_
    exact hK56 x2 x3 t h
  have L259 : ∀ (K56 : Int32 → Int32 → St → Option (St)) (hK56 : ∀ (x2 : Int32) (x3 : Int32) (t : St), K56 x2 x3 t = some z → J p l e { frames := 5, cells := 0, slots := 0, locals := 115 } s m args below meth c 9 (dC, dI) vwCl A (MQ below (jQv (dC, dI) vwCl (tyA cI cB cJ cZ) (fun _ : Unit => wM cI cB cJ cZ a z) A) args s 0 0 A) 0 0 56 [(0, .ref (a 0)), (2, .int x2), (3, .int x3)] [] (wM cI cB cJ cZ a t)) (x2 : Int32) (x3 : Int32) (x4 : Int32) (t : St), m_Model_readFile_259 n K56 x2 x3 x4 t = some z → J p l e { frames := 5, cells := 0, slots := 0, locals := 115 } s m args below meth c 9 (dC, dI) vwCl A (MQ below (jQv (dC, dI) vwCl (tyA cI cB cJ cZ) (fun _ : Unit => wM cI cB cJ cZ a z) A) args s 0 0 A) 0 0 259 [(0, .ref (a 0)), (2, .int x2), (3, .int x3), (4, .int x4)] [] (wM cI cB cJ cZ a t) := by
    intro K56 hK56 x2 x3 x4 t h
    unfold m_Model_readFile_259 at h
    refine J_aload_n X d_Model_readFile_259 0 rfl rfl ?_
    refine J_get (v := .int (t.1 2)) X (fun w h => mm (in_Model w h)) 0 rfl rfl 3 (by decide) (mm k_fl_Model_107) rfl rfl d_Model_readFile_260 ?_
    refine J_if_ne X 273 d_Model_readFile_263 (by decide) (fun c263 => ?_) (fun c263 => ?_)
    · rw [if_neg c263] at h
      refine J_lv [0, 1, 2] [(0, .ref (a 0)), (2, .int x2), (3, .int x3)] rfl ?_
      exact L273 K56 hK56 x2 x3 t h
    · rw [if_pos c263] at h
      refine J_aload_n X d_Model_readFile_266 0 rfl rfl ?_
      refine J_iload X d_Model_readFile_267 3 rfl ?_
      obtain ⟨z269, hz269, h⟩ := j_bind h
      refine J_callVi0 (wc := (wM cI cB cJ cZ a t)) (r := z269.1) (w1 := fun _ : Unit => wM cI cB cJ cZ a z269.2) X isM (hCM cI cB cJ cZ a t) (hDM cI cB cJ cZ a t) rfl [.int x4] [] (ct_Model_segment1 l dC dI cI cB cJ cZ a n x4 t hz269) (aw_V (fun w h => mm h) k_ml_Model_185 k_im_Model_segment1 k_se_Model_segment1 k_in_Model k_cd_Model_segment1) rfl (by decide +kernel) ⟨(Nat.le_of_ble_eq_true rfl), (Nat.le_of_ble_eq_true rfl)⟩ (q0 := 0) rfl rfl rfl rfl (Nat.le_of_ble_eq_true rfl) d_Model_readFile_269 ⟨(Nat.le_of_ble_eq_true rfl), (Nat.le_of_ble_eq_true rfl)⟩ (fun _ => ?_)
      refine J_istore_n X [(2, .int z269.1), (0, .ref (a 0)), (3, .int x3), (4, .int x4)] d_Model_readFile_272 rfl (by decide) rfl ?_
      refine J_lv [1, 0, 2] [(0, .ref (a 0)), (2, .int z269.1), (3, .int x3)] rfl ?_
      exact L273 K56 hK56 z269.1 x3 z269.2 h
  have L231 : ∀ (K56 : Int32 → Int32 → St → Option (St)) (hK56 : ∀ (x2 : Int32) (x3 : Int32) (t : St), K56 x2 x3 t = some z → J p l e { frames := 5, cells := 0, slots := 0, locals := 115 } s m args below meth c 9 (dC, dI) vwCl A (MQ below (jQv (dC, dI) vwCl (tyA cI cB cJ cZ) (fun _ : Unit => wM cI cB cJ cZ a z) A) args s 0 0 A) 0 0 56 [(0, .ref (a 0)), (2, .int x2), (3, .int x3)] [] (wM cI cB cJ cZ a t)) (x2 : Int32) (x3 : Int32) (x4 : Int32) (t : St), m_Model_readFile_231 n K56 x2 x3 x4 t = some z → J p l e { frames := 5, cells := 0, slots := 0, locals := 115 } s m args below meth c 9 (dC, dI) vwCl A (MQ below (jQv (dC, dI) vwCl (tyA cI cB cJ cZ) (fun _ : Unit => wM cI cB cJ cZ a z) A) args s 0 0 A) 0 0 231 [(0, .ref (a 0)), (2, .int x2), (3, .int x3), (4, .int x4)] [] (wM cI cB cJ cZ a t) := by
    intro K56 hK56 x2 x3 x4 t h
    unfold m_Model_readFile_231 at h
    refine J_aload_n X d_Model_readFile_231 0 rfl rfl ?_
    refine J_get (v := .int (t.1 2)) X (fun w h => mm (in_Model w h)) 0 rfl rfl 3 (by decide) (mm k_fl_Model_107) rfl rfl d_Model_readFile_232 ?_
    refine J_if_ne X 259 d_Model_readFile_235 (by decide) (fun c235 => ?_) (fun c235 => ?_)
    · rw [if_neg c235] at h
      refine J_lv [0, 1, 2, 3] [(0, .ref (a 0)), (2, .int x2), (3, .int x3), (4, .int x4)] rfl ?_
      exact L259 K56 hK56 x2 x3 x4 t h
    · rw [if_pos c235] at h
      refine J_iload X d_Model_readFile_238 3 rfl ?_
      refine J_sipush (v := (217 : Int32)) X d_Model_readFile_240 (by decide) ?_
      refine J_icmp_ne X 259 d_Model_readFile_243 (by decide) (fun c243 => ?_) (fun c243 => ?_)
      · rw [if_neg c243] at h
        refine J_lv [0, 1, 2, 3] [(0, .ref (a 0)), (2, .int x2), (3, .int x3), (4, .int x4)] rfl ?_
        exact L259 K56 hK56 x2 x3 x4 t h
      · rw [if_pos c243] at h
        refine J_aload_n X d_Model_readFile_246 0 rfl rfl ?_
        refine J_aload_n X d_Model_readFile_247 0 rfl rfl ?_
        refine J_get (v := .int (t.1 4)) X (fun w h => mm (in_Model w h)) 0 rfl rfl 5 (by decide) (mm k_fl_Model_113) rfl rfl d_Model_readFile_248 ?_
        refine J_put (ty := .int) (v := .int (t.1 4)) X (fun w h => mm (in_Model w h)) ty_Model tyk_Model nm_Model 0 rfl rfl 8 (by decide) (mm k_fl_Model_80) rfl rfl (by decide +kernel) rfl rfl (Nat.le_of_ble_eq_true rfl) d_Model_readFile_251 (wM cI cB cJ cZ a (sG t 7 (t.1 4))) rfl ?_
        refine J_iconst (v := (0 : Int32)) X d_Model_readFile_254 (by decide) ?_
        refine J_istore_n X [(3, .int (0 : Int32)), (0, .ref (a 0)), (2, .int x2), (4, .int x4)] d_Model_readFile_255 rfl (by decide) rfl ?_
        refine J_goto X 273 d_Model_readFile_256 (by decide) ?_
        refine J_lv [1, 2, 0] [(0, .ref (a 0)), (2, .int x2), (3, .int (0 : Int32))] rfl ?_
        exact L273 K56 hK56 x2 (0 : Int32) (sG t 7 (t.1 4)) h
  have L222 : ∀ (K56 : Int32 → Int32 → St → Option (St)) (hK56 : ∀ (x2 : Int32) (x3 : Int32) (t : St), K56 x2 x3 t = some z → J p l e { frames := 5, cells := 0, slots := 0, locals := 115 } s m args below meth c 9 (dC, dI) vwCl A (MQ below (jQv (dC, dI) vwCl (tyA cI cB cJ cZ) (fun _ : Unit => wM cI cB cJ cZ a z) A) args s 0 0 A) 0 0 56 [(0, .ref (a 0)), (2, .int x2), (3, .int x3)] [] (wM cI cB cJ cZ a t)) (x2 : Int32) (x3 : Int32) (x4 : Int32) (x5 : Int32) (t : St), m_Model_readFile_222 n K56 x2 x3 x4 x5 t = some z → J p l e { frames := 5, cells := 0, slots := 0, locals := 115 } s m args below meth c 9 (dC, dI) vwCl A (MQ below (jQv (dC, dI) vwCl (tyA cI cB cJ cZ) (fun _ : Unit => wM cI cB cJ cZ a z) A) args s 0 0 A) 0 0 222 [(0, .ref (a 0)), (2, .int x2), (3, .int x3), (4, .int x4), (5, .int x5)] [] (wM cI cB cJ cZ a t) := by
    intro K56 hK56 x2 x3 x4 x5 t h
    unfold m_Model_readFile_222 at h
    refine J_aload_n X d_Model_readFile_222 0 rfl rfl ?_
    refine J_iconst (v := (4 : Int32)) X d_Model_readFile_223 (by decide) ?_
    refine J_iload X d_Model_readFile_224 4 rfl ?_
    obtain ⟨z226, hz226, h⟩ := j_bind h
    refine J_callVi0 (wc := (wM cI cB cJ cZ a t)) (r := z226.1) (w1 := fun _ : Unit => wM cI cB cJ cZ a z226.2) X isM (hCM cI cB cJ cZ a t) (hDM cI cB cJ cZ a t) rfl [.int (4 : Int32), .int x5] [] (ct_Model_wrong l dC dI cI cB cJ cZ a n (4 : Int32) x5 t hz226) (aw_V (fun w h => mm h) k_ml_Model_120 k_im_Model_wrong k_se_Model_wrong k_in_Model k_cd_Model_wrong) rfl (by decide +kernel) ⟨(Nat.le_of_ble_eq_true rfl), (Nat.le_of_ble_eq_true rfl)⟩ (q0 := 0) rfl rfl rfl rfl (Nat.le_of_ble_eq_true rfl) d_Model_readFile_226 ⟨(Nat.le_of_ble_eq_true rfl), (Nat.le_of_ble_eq_true rfl)⟩ (fun _ => ?_)
    refine J_istore X [(8, .int z226.1), (0, .ref (a 0)), (2, .int x2), (3, .int x3), (4, .int x4), (5, .int x5)] d_Model_readFile_229 (by decide) rfl ?_
    refine J_lv [1, 2, 3, 4] [(0, .ref (a 0)), (2, .int x2), (3, .int x3), (4, .int x4)] rfl ?_
    exact L231 K56 hK56 x2 x3 x4 z226.2 h
  have L192 : ∀ (K56 : Int32 → Int32 → St → Option (St)) (hK56 : ∀ (x2 : Int32) (x3 : Int32) (t : St), K56 x2 x3 t = some z → J p l e { frames := 5, cells := 0, slots := 0, locals := 115 } s m args below meth c 9 (dC, dI) vwCl A (MQ below (jQv (dC, dI) vwCl (tyA cI cB cJ cZ) (fun _ : Unit => wM cI cB cJ cZ a z) A) args s 0 0 A) 0 0 56 [(0, .ref (a 0)), (2, .int x2), (3, .int x3)] [] (wM cI cB cJ cZ a t)) (x2 : Int32) (x3 : Int32) (x4 : Int32) (x5 : Int32) (x6 : Int32) (y0 : Int32) (t : St), m_Model_readFile_192 n K56 x2 x3 x4 x5 x6 y0 t = some z → J p l e { frames := 5, cells := 0, slots := 0, locals := 115 } s m args below meth c 9 (dC, dI) vwCl A (MQ below (jQv (dC, dI) vwCl (tyA cI cB cJ cZ) (fun _ : Unit => wM cI cB cJ cZ a z) A) args s 0 0 A) 0 0 192 [(0, .ref (a 0)), (2, .int x2), (3, .int x3), (4, .int x4), (5, .int x5), (6, .int x6)] [.int y0] (wM cI cB cJ cZ a t) := by
    intro K56 hK56 x2 x3 x4 x5 x6 y0 t h
    unfold m_Model_readFile_192 at h
    refine J_istore X [(7, .int y0), (0, .ref (a 0)), (2, .int x2), (3, .int x3), (4, .int x4), (5, .int x5), (6, .int x6)] d_Model_readFile_192 (by decide) rfl ?_
    refine J_aload_n X d_Model_readFile_194 1 rfl rfl ?_
    refine J_get (v := .int (t.1 2)) X (fun w h => mm (in_Model w h)) 0 rfl rfl 3 (by decide) (mm k_fl_Model_107) rfl rfl d_Model_readFile_195 ?_
    refine J_if_ne X 231 d_Model_readFile_198 (by decide) (fun c198 => ?_) (fun c198 => ?_)
    · rw [if_neg c198] at h
      refine J_lv [1, 2, 3, 4] [(0, .ref (a 0)), (2, .int x2), (3, .int x3), (4, .int x4)] rfl ?_
      exact L231 K56 hK56 x2 x3 x4 t h
    · rw [if_pos c198] at h
      refine J_iload X d_Model_readFile_201 6 rfl ?_
      refine J_if_eq X 217 d_Model_readFile_203 (by decide) (fun c203 => ?_) (fun c203 => ?_)
      · rw [if_pos c203] at h
        refine J_iload X d_Model_readFile_217 0 rfl ?_
        refine J_if_ne X 231 d_Model_readFile_219 (by decide) (fun c219 => ?_) (fun c219 => ?_)
        · rw [if_neg c219] at h
          refine J_lv [1, 2, 3, 4] [(0, .ref (a 0)), (2, .int x2), (3, .int x3), (4, .int x4)] rfl ?_
          exact L231 K56 hK56 x2 x3 x4 t h
        · rw [if_pos c219] at h
          refine J_lv [1, 2, 3, 4, 5] [(0, .ref (a 0)), (2, .int x2), (3, .int x3), (4, .int x4), (5, .int x5)] rfl ?_
          exact L222 K56 hK56 x2 x3 x4 x5 t h
      · rw [if_neg c203] at h
        refine J_iload X d_Model_readFile_206 4 rfl ?_
        refine J_sipush (v := (220 : Int32)) X d_Model_readFile_208 (by decide) ?_
        refine J_icmp_eq X 231 d_Model_readFile_211 (by decide) (fun c211 => ?_) (fun c211 => ?_)
        · rw [if_pos c211] at h
          refine J_lv [1, 2, 3, 4] [(0, .ref (a 0)), (2, .int x2), (3, .int x3), (4, .int x4)] rfl ?_
          exact L231 K56 hK56 x2 x3 x4 t h
        · rw [if_neg c211] at h
          refine J_goto X 222 d_Model_readFile_214 (by decide) ?_
          refine J_lv [1, 2, 3, 4, 5] [(0, .ref (a 0)), (2, .int x2), (3, .int x3), (4, .int x4), (5, .int x5)] rfl ?_
          exact L222 K56 hK56 x2 x3 x4 x5 t h
  have L187 : ∀ (K56 : Int32 → Int32 → St → Option (St)) (hK56 : ∀ (x2 : Int32) (x3 : Int32) (t : St), K56 x2 x3 t = some z → J p l e { frames := 5, cells := 0, slots := 0, locals := 115 } s m args below meth c 9 (dC, dI) vwCl A (MQ below (jQv (dC, dI) vwCl (tyA cI cB cJ cZ) (fun _ : Unit => wM cI cB cJ cZ a z) A) args s 0 0 A) 0 0 56 [(0, .ref (a 0)), (2, .int x2), (3, .int x3)] [] (wM cI cB cJ cZ a t)) (x2 : Int32) (x3 : Int32) (x4 : Int32) (x5 : Int32) (x6 : Int32) (t : St), m_Model_readFile_187 n K56 x2 x3 x4 x5 x6 t = some z → J p l e { frames := 5, cells := 0, slots := 0, locals := 115 } s m args below meth c 9 (dC, dI) vwCl A (MQ below (jQv (dC, dI) vwCl (tyA cI cB cJ cZ) (fun _ : Unit => wM cI cB cJ cZ a z) A) args s 0 0 A) 0 0 187 [(0, .ref (a 0)), (2, .int x2), (3, .int x3), (4, .int x4), (5, .int x5), (6, .int x6)] [] (wM cI cB cJ cZ a t) := by
    intro K56 hK56 x2 x3 x4 x5 x6 t h
    unfold m_Model_readFile_187 at h
    refine J_iconst (v := (1 : Int32)) X d_Model_readFile_187 (by decide) ?_
    refine J_goto X 192 d_Model_readFile_188 (by decide) ?_
    refine J_lv [0, 1, 2, 3, 4, 5] [(0, .ref (a 0)), (2, .int x2), (3, .int x3), (4, .int x4), (5, .int x5), (6, .int x6)] rfl ?_
    exact L192 K56 hK56 x2 x3 x4 x5 x6 (1 : Int32) t h
  have L191 : ∀ (K56 : Int32 → Int32 → St → Option (St)) (hK56 : ∀ (x2 : Int32) (x3 : Int32) (t : St), K56 x2 x3 t = some z → J p l e { frames := 5, cells := 0, slots := 0, locals := 115 } s m args below meth c 9 (dC, dI) vwCl A (MQ below (jQv (dC, dI) vwCl (tyA cI cB cJ cZ) (fun _ : Unit => wM cI cB cJ cZ a z) A) args s 0 0 A) 0 0 56 [(0, .ref (a 0)), (2, .int x2), (3, .int x3)] [] (wM cI cB cJ cZ a t)) (x2 : Int32) (x3 : Int32) (x4 : Int32) (x5 : Int32) (x6 : Int32) (t : St), m_Model_readFile_191 n K56 x2 x3 x4 x5 x6 t = some z → J p l e { frames := 5, cells := 0, slots := 0, locals := 115 } s m args below meth c 9 (dC, dI) vwCl A (MQ below (jQv (dC, dI) vwCl (tyA cI cB cJ cZ) (fun _ : Unit => wM cI cB cJ cZ a z) A) args s 0 0 A) 0 0 191 [(0, .ref (a 0)), (2, .int x2), (3, .int x3), (4, .int x4), (5, .int x5), (6, .int x6)] [] (wM cI cB cJ cZ a t) := by
    intro K56 hK56 x2 x3 x4 x5 x6 t h
    unfold m_Model_readFile_191 at h
    refine J_iconst (v := (0 : Int32)) X d_Model_readFile_191 (by decide) ?_
    refine J_lv [0, 1, 2, 3, 4, 5] [(0, .ref (a 0)), (2, .int x2), (3, .int x3), (4, .int x4), (5, .int x5), (6, .int x6)] rfl ?_
    exact L192 K56 hK56 x2 x3 x4 x5 x6 (0 : Int32) t h
  have L172 : ∀ (K56 : Int32 → Int32 → St → Option (St)) (hK56 : ∀ (x2 : Int32) (x3 : Int32) (t : St), K56 x2 x3 t = some z → J p l e { frames := 5, cells := 0, slots := 0, locals := 115 } s m args below meth c 9 (dC, dI) vwCl A (MQ below (jQv (dC, dI) vwCl (tyA cI cB cJ cZ) (fun _ : Unit => wM cI cB cJ cZ a z) A) args s 0 0 A) 0 0 56 [(0, .ref (a 0)), (2, .int x2), (3, .int x3)] [] (wM cI cB cJ cZ a t)) (x2 : Int32) (x3 : Int32) (x4 : Int32) (x5 : Int32) (x6 : Int32) (t : St), m_Model_readFile_172 n K56 x2 x3 x4 x5 x6 t = some z → J p l e { frames := 5, cells := 0, slots := 0, locals := 115 } s m args below meth c 9 (dC, dI) vwCl A (MQ below (jQv (dC, dI) vwCl (tyA cI cB cJ cZ) (fun _ : Unit => wM cI cB cJ cZ a z) A) args s 0 0 A) 0 0 172 [(0, .ref (a 0)), (2, .int x2), (3, .int x3), (4, .int x4), (5, .int x5), (6, .int x6)] [] (wM cI cB cJ cZ a t) := by
    intro K56 hK56 x2 x3 x4 x5 x6 t h
    unfold m_Model_readFile_172 at h
    refine J_iload X d_Model_readFile_172 3 rfl ?_
    refine J_sipush (v := (218 : Int32)) X d_Model_readFile_174 (by decide) ?_
    refine J_icmp_ne X 191 d_Model_readFile_177 (by decide) (fun c177 => ?_) (fun c177 => ?_)
    · rw [if_neg c177] at h
      refine J_lv [0, 1, 2, 3, 4, 5] [(0, .ref (a 0)), (2, .int x2), (3, .int x3), (4, .int x4), (5, .int x5), (6, .int x6)] rfl ?_
      exact L191 K56 hK56 x2 x3 x4 x5 x6 t h
    · rw [if_pos c177] at h
      refine J_aload_n X d_Model_readFile_180 0 rfl rfl ?_
      refine J_get (v := .int (t.1 9)) X (fun w h => mm (in_Model w h)) 0 rfl rfl 11 (by decide) (mm k_fl_Model_86) rfl rfl d_Model_readFile_181 ?_
      refine J_if_le X 191 d_Model_readFile_184 (by decide) (fun c184 => ?_) (fun c184 => ?_)
      · rw [if_pos c184] at h
        refine J_lv [0, 1, 2, 3, 4, 5] [(0, .ref (a 0)), (2, .int x2), (3, .int x3), (4, .int x4), (5, .int x5), (6, .int x6)] rfl ?_
        exact L191 K56 hK56 x2 x3 x4 x5 x6 t h
      · rw [if_neg c184] at h
        refine J_lv [0, 1, 2, 3, 4, 5] [(0, .ref (a 0)), (2, .int x2), (3, .int x3), (4, .int x4), (5, .int x5), (6, .int x6)] rfl ?_
        exact L187 K56 hK56 x2 x3 x4 x5 x6 t h
  have L165 : ∀ (K56 : Int32 → Int32 → St → Option (St)) (hK56 : ∀ (x2 : Int32) (x3 : Int32) (t : St), K56 x2 x3 t = some z → J p l e { frames := 5, cells := 0, slots := 0, locals := 115 } s m args below meth c 9 (dC, dI) vwCl A (MQ below (jQv (dC, dI) vwCl (tyA cI cB cJ cZ) (fun _ : Unit => wM cI cB cJ cZ a z) A) args s 0 0 A) 0 0 56 [(0, .ref (a 0)), (2, .int x2), (3, .int x3)] [] (wM cI cB cJ cZ a t)) (x2 : Int32) (x3 : Int32) (x4 : Int32) (x5 : Int32) (x6 : Int32) (t : St), m_Model_readFile_165 n K56 x2 x3 x4 x5 x6 t = some z → J p l e { frames := 5, cells := 0, slots := 0, locals := 115 } s m args below meth c 9 (dC, dI) vwCl A (MQ below (jQv (dC, dI) vwCl (tyA cI cB cJ cZ) (fun _ : Unit => wM cI cB cJ cZ a z) A) args s 0 0 A) 0 0 165 [(0, .ref (a 0)), (2, .int x2), (3, .int x3), (4, .int x4), (5, .int x5), (6, .int x6)] [] (wM cI cB cJ cZ a t) := by
    intro K56 hK56 x2 x3 x4 x5 x6 t h
    unfold m_Model_readFile_165 at h
    refine J_aload_n X d_Model_readFile_165 0 rfl rfl ?_
    refine J_get (v := .int (t.1 9)) X (fun w h => mm (in_Model w h)) 0 rfl rfl 11 (by decide) (mm k_fl_Model_86) rfl rfl d_Model_readFile_166 ?_
    refine J_if_eq X 187 d_Model_readFile_169 (by decide) (fun c169 => ?_) (fun c169 => ?_)
    · rw [if_pos c169] at h
      refine J_lv [0, 1, 2, 3, 4, 5] [(0, .ref (a 0)), (2, .int x2), (3, .int x3), (4, .int x4), (5, .int x5), (6, .int x6)] rfl ?_
      exact L187 K56 hK56 x2 x3 x4 x5 x6 t h
    · rw [if_neg c169] at h
      refine J_lv [0, 1, 2, 3, 4, 5] [(0, .ref (a 0)), (2, .int x2), (3, .int x3), (4, .int x4), (5, .int x5), (6, .int x6)] rfl ?_
      exact L172 K56 hK56 x2 x3 x4 x5 x6 t h
  have L117 : ∀ (K56 : Int32 → Int32 → St → Option (St)) (hK56 : ∀ (x2 : Int32) (x3 : Int32) (t : St), K56 x2 x3 t = some z → J p l e { frames := 5, cells := 0, slots := 0, locals := 115 } s m args below meth c 9 (dC, dI) vwCl A (MQ below (jQv (dC, dI) vwCl (tyA cI cB cJ cZ) (fun _ : Unit => wM cI cB cJ cZ a z) A) args s 0 0 A) 0 0 56 [(0, .ref (a 0)), (2, .int x2), (3, .int x3)] [] (wM cI cB cJ cZ a t)) (x2 : Int32) (x3 : Int32) (x4 : Int32) (x5 : Int32) (x6 : Int32) (t : St), m_Model_readFile_117 n K56 x2 x3 x4 x5 x6 t = some z → J p l e { frames := 5, cells := 0, slots := 0, locals := 115 } s m args below meth c 9 (dC, dI) vwCl A (MQ below (jQv (dC, dI) vwCl (tyA cI cB cJ cZ) (fun _ : Unit => wM cI cB cJ cZ a z) A) args s 0 0 A) 0 0 117 [(0, .ref (a 0)), (2, .int x2), (3, .int x3), (4, .int x4), (5, .int x5), (6, .int x6)] [] (wM cI cB cJ cZ a t) := by
    intro K56 hK56 x2 x3 x4 x5 x6 t h
    unfold m_Model_readFile_117 at h
    refine J_iload X d_Model_readFile_117 3 rfl ?_
    refine J_sipush (v := (254 : Int32)) X d_Model_readFile_119 (by decide) ?_
    refine J_icmp_eq X 187 d_Model_readFile_122 (by decide) (fun c122 => ?_) (fun c122 => ?_)
    · rw [if_pos c122] at h
      refine J_lv [0, 1, 2, 3, 4, 5] [(0, .ref (a 0)), (2, .int x2), (3, .int x3), (4, .int x4), (5, .int x5), (6, .int x6)] rfl ?_
      exact L187 K56 hK56 x2 x3 x4 x5 x6 t h
    · rw [if_neg c122] at h
      refine J_iload X d_Model_readFile_125 3 rfl ?_
      refine J_sipush (v := (219 : Int32)) X d_Model_readFile_127 (by decide) ?_
      refine J_icmp_eq X 187 d_Model_readFile_130 (by decide) (fun c130 => ?_) (fun c130 => ?_)
      · rw [if_pos c130] at h
        refine J_lv [0, 1, 2, 3, 4, 5] [(0, .ref (a 0)), (2, .int x2), (3, .int x3), (4, .int x4), (5, .int x5), (6, .int x6)] rfl ?_
        exact L187 K56 hK56 x2 x3 x4 x5 x6 t h
      · rw [if_neg c130] at h
        refine J_iload X d_Model_readFile_133 3 rfl ?_
        refine J_sipush (v := (196 : Int32)) X d_Model_readFile_135 (by decide) ?_
        refine J_icmp_eq X 187 d_Model_readFile_138 (by decide) (fun c138 => ?_) (fun c138 => ?_)
        · rw [if_pos c138] at h
          refine J_lv [0, 1, 2, 3, 4, 5] [(0, .ref (a 0)), (2, .int x2), (3, .int x3), (4, .int x4), (5, .int x5), (6, .int x6)] rfl ?_
          exact L187 K56 hK56 x2 x3 x4 x5 x6 t h
        · rw [if_neg c138] at h
          refine J_iload X d_Model_readFile_141 3 rfl ?_
          refine J_sipush (v := (221 : Int32)) X d_Model_readFile_143 (by decide) ?_
          refine J_icmp_eq X 187 d_Model_readFile_146 (by decide) (fun c146 => ?_) (fun c146 => ?_)
          · rw [if_pos c146] at h
            refine J_lv [0, 1, 2, 3, 4, 5] [(0, .ref (a 0)), (2, .int x2), (3, .int x3), (4, .int x4), (5, .int x5), (6, .int x6)] rfl ?_
            exact L187 K56 hK56 x2 x3 x4 x5 x6 t h
          · rw [if_neg c146] at h
            refine J_iload X d_Model_readFile_149 3 rfl ?_
            refine J_sipush (v := (192 : Int32)) X d_Model_readFile_151 (by decide) ?_
            refine J_icmp_eq X 165 d_Model_readFile_154 (by decide) (fun c154 => ?_) (fun c154 => ?_)
            · rw [if_pos c154] at h
              refine J_lv [0, 1, 2, 3, 4, 5] [(0, .ref (a 0)), (2, .int x2), (3, .int x3), (4, .int x4), (5, .int x5), (6, .int x6)] rfl ?_
              exact L165 K56 hK56 x2 x3 x4 x5 x6 t h
            · rw [if_neg c154] at h
              refine J_iload X d_Model_readFile_157 3 rfl ?_
              refine J_sipush (v := (194 : Int32)) X d_Model_readFile_159 (by decide) ?_
              refine J_icmp_ne X 172 d_Model_readFile_162 (by decide) (fun c162 => ?_) (fun c162 => ?_)
              · rw [if_neg c162] at h
                refine J_lv [0, 1, 2, 3, 4, 5] [(0, .ref (a 0)), (2, .int x2), (3, .int x3), (4, .int x4), (5, .int x5), (6, .int x6)] rfl ?_
                exact L172 K56 hK56 x2 x3 x4 x5 x6 t h
              · rw [if_pos c162] at h
                refine J_lv [0, 1, 2, 3, 4, 5] [(0, .ref (a 0)), (2, .int x2), (3, .int x3), (4, .int x4), (5, .int x5), (6, .int x6)] rfl ?_
                exact L165 K56 hK56 x2 x3 x4 x5 x6 t h
  have L101 : ∀ (K56 : Int32 → Int32 → St → Option (St)) (hK56 : ∀ (x2 : Int32) (x3 : Int32) (t : St), K56 x2 x3 t = some z → J p l e { frames := 5, cells := 0, slots := 0, locals := 115 } s m args below meth c 9 (dC, dI) vwCl A (MQ below (jQv (dC, dI) vwCl (tyA cI cB cJ cZ) (fun _ : Unit => wM cI cB cJ cZ a z) A) args s 0 0 A) 0 0 56 [(0, .ref (a 0)), (2, .int x2), (3, .int x3)] [] (wM cI cB cJ cZ a t)) (x2 : Int32) (x3 : Int32) (x4 : Int32) (x5 : Int32) (x6 : Int32) (t : St), m_Model_readFile_101 n K56 x2 x3 x4 x5 x6 t = some z → J p l e { frames := 5, cells := 0, slots := 0, locals := 115 } s m args below meth c 9 (dC, dI) vwCl A (MQ below (jQv (dC, dI) vwCl (tyA cI cB cJ cZ) (fun _ : Unit => wM cI cB cJ cZ a z) A) args s 0 0 A) 0 0 101 [(0, .ref (a 0)), (2, .int x2), (3, .int x3), (4, .int x4), (5, .int x5), (6, .int x6)] [] (wM cI cB cJ cZ a t) := by
    intro K56 hK56 x2 x3 x4 x5 x6 t h
    unfold m_Model_readFile_101 at h
    refine J_iload X d_Model_readFile_101 3 rfl ?_
    refine J_sipush (v := (224 : Int32)) X d_Model_readFile_103 (by decide) ?_
    refine J_icmp_lt X 117 d_Model_readFile_106 (by decide) (fun c106 => ?_) (fun c106 => ?_)
    · rw [if_pos c106] at h
      refine J_lv [0, 1, 2, 3, 4, 5] [(0, .ref (a 0)), (2, .int x2), (3, .int x3), (4, .int x4), (5, .int x5), (6, .int x6)] rfl ?_
      exact L117 K56 hK56 x2 x3 x4 x5 x6 t h
    · rw [if_neg c106] at h
      refine J_iload X d_Model_readFile_109 3 rfl ?_
      refine J_sipush (v := (239 : Int32)) X d_Model_readFile_111 (by decide) ?_
      refine J_icmp_le X 187 d_Model_readFile_114 (by decide) (fun c114 => ?_) (fun c114 => ?_)
      · rw [if_pos c114] at h
        refine J_lv [0, 1, 2, 3, 4, 5] [(0, .ref (a 0)), (2, .int x2), (3, .int x3), (4, .int x4), (5, .int x5), (6, .int x6)] rfl ?_
        exact L187 K56 hK56 x2 x3 x4 x5 x6 t h
      · rw [if_neg c114] at h
        refine J_lv [0, 1, 2, 3, 4, 5] [(0, .ref (a 0)), (2, .int x2), (3, .int x3), (4, .int x4), (5, .int x5), (6, .int x6)] rfl ?_
        exact L117 K56 hK56 x2 x3 x4 x5 x6 t h
  have L56 : ∀ (k : Nat) (x2 : Int32) (x3 : Int32) (t : St), m_Model_readFile_56 n  k x2 x3 t = some z → J p l e { frames := 5, cells := 0, slots := 0, locals := 115 } s m args below meth c 9 (dC, dI) vwCl A (MQ below (jQv (dC, dI) vwCl (tyA cI cB cJ cZ) (fun _ : Unit => wM cI cB cJ cZ a z) A) args s 0 0 A) 0 0 56 [(0, .ref (a 0)), (2, .int x2), (3, .int x3)] [] (wM cI cB cJ cZ a t) := by
    intro k
    induction k with
    | zero => intro x2 x3 t h; exact absurd (show none = some z from h) (by simp)
    | succ k ih =>
      intro x2 x3 t h
      change m_Model_readFile_56b n  (m_Model_readFile_56 n  k) x2 x3 t = some z at h
      unfold m_Model_readFile_56b at h
      refine J_iload_n X d_Model_readFile_56 2 rfl rfl ?_
      refine J_if_eq X 276 d_Model_readFile_57 (by decide) (fun c57 => ?_) (fun c57 => ?_)
      · rw [if_pos c57] at h
        exact J_vret X hr hlk () (Nat.le_of_ble_eq_true rfl) (Nat.le_of_ble_eq_true rfl) (congrArg (fun q => wM cI cB cJ cZ a q) (j_s h)) d_Model_readFile_276
      · rw [if_neg c57] at h
        refine J_aload_n X d_Model_readFile_60 0 rfl rfl ?_
        refine J_get (v := .int (t.1 2)) X (fun w h => mm (in_Model w h)) 0 rfl rfl 3 (by decide) (mm k_fl_Model_107) rfl rfl d_Model_readFile_61 ?_
        refine J_if_ne X 276 d_Model_readFile_64 (by decide) (fun c64 => ?_) (fun c64 => ?_)
        · rw [if_neg c64] at h
          exact J_vret X hr hlk () (Nat.le_of_ble_eq_true rfl) (Nat.le_of_ble_eq_true rfl) (congrArg (fun q => wM cI cB cJ cZ a q) (j_s h)) d_Model_readFile_276
        · rw [if_pos c64] at h
          refine J_aload_n X d_Model_readFile_67 0 rfl rfl ?_
          obtain ⟨z68, hz68, h⟩ := j_bind h
          refine J_callVi0 (wc := (wM cI cB cJ cZ a t)) (r := z68.1) (w1 := fun _ : Unit => wM cI cB cJ cZ a z68.2) X isM (hCM cI cB cJ cZ a t) (hDM cI cB cJ cZ a t) rfl [] [] (ct_Model_marker l dC dI cI cB cJ cZ a n t hz68) (aw_V (fun w h => mm h) k_ml_Model_178 k_im_Model_marker k_se_Model_marker k_in_Model k_cd_Model_marker) rfl (by decide +kernel) ⟨(Nat.le_of_ble_eq_true rfl), (Nat.le_of_ble_eq_true rfl)⟩ (q0 := 0) rfl rfl rfl rfl (Nat.le_of_ble_eq_true rfl) d_Model_readFile_68 ⟨(Nat.le_of_ble_eq_true rfl), (Nat.le_of_ble_eq_true rfl)⟩ (fun _ => ?_)
          refine J_istore X [(4, .int z68.1), (0, .ref (a 0)), (2, .int x2), (3, .int x3)] d_Model_readFile_71 (by decide) rfl ?_
          refine J_aload_n X d_Model_readFile_73 1 rfl rfl ?_
          refine J_get (v := .int (z68.2.1 4)) X (fun w h => mm (in_Model w h)) 0 rfl rfl 5 (by decide) (mm k_fl_Model_113) rfl rfl d_Model_readFile_74 ?_
          refine J_iconst (v := (1 : Int32)) X d_Model_readFile_77 (by decide) ?_
          refine J_isub X d_Model_readFile_78 ?_
          refine J_istore X [(5, .int ((z68.2.1 4) - (1 : Int32))), (4, .int z68.1), (0, .ref (a 0)), (2, .int x2), (3, .int x3)] d_Model_readFile_79 (by decide) rfl ?_
          refine J_iload_n X d_Model_readFile_81 3 rfl rfl ?_
          refine J_istore X [(6, .int x2), (5, .int ((z68.2.1 4) - (1 : Int32))), (4, .int z68.1), (0, .ref (a 0)), (2, .int x2), (3, .int x3)] d_Model_readFile_82 (by decide) rfl ?_
          refine J_iconst (v := (0 : Int32)) X d_Model_readFile_84 (by decide) ?_
          refine J_istore_n X [(2, .int (0 : Int32)), (6, .int x2), (5, .int ((z68.2.1 4) - (1 : Int32))), (4, .int z68.1), (0, .ref (a 0)), (3, .int x3)] d_Model_readFile_85 rfl (by decide) rfl ?_
          refine J_iload X d_Model_readFile_86 3 rfl ?_
          refine J_sipush (v := (217 : Int32)) X d_Model_readFile_88 (by decide) ?_
          refine J_icmp_ne X 101 d_Model_readFile_91 (by decide) (fun c91 => ?_) (fun c91 => ?_)
          · rw [if_neg c91] at h
            refine J_lv [4, 0, 5, 3, 2, 1] [(0, .ref (a 0)), (2, .int (0 : Int32)), (3, .int x3), (4, .int z68.1), (5, .int ((z68.2.1 4) - (1 : Int32))), (6, .int x2)] rfl ?_
            exact L101 (m_Model_readFile_56 n  k) ih (0 : Int32) x3 z68.1 ((z68.2.1 4) - (1 : Int32)) x2 z68.2 h
          · rw [if_pos c91] at h
            refine J_aload_n X d_Model_readFile_94 4 rfl rfl ?_
            obtain ⟨z95, hz95, h⟩ := j_bind h
            refine J_callVi0 (wc := (wM cI cB cJ cZ a z68.2)) (r := z95.1) (w1 := fun _ : Unit => wM cI cB cJ cZ a z95.2) X isM (hCM cI cB cJ cZ a z68.2) (hDM cI cB cJ cZ a z68.2) rfl [] [] (ct_Model_isSent l dC dI cI cB cJ cZ a n z68.2 hz95) (aw_V (fun w h => mm h) k_ml_Model_181 k_im_Model_isSent k_se_Model_isSent k_in_Model k_cd_Model_isSent) rfl (by decide +kernel) ⟨(Nat.le_of_ble_eq_true rfl), (Nat.le_of_ble_eq_true rfl)⟩ (q0 := 0) rfl rfl rfl rfl (Nat.le_of_ble_eq_true rfl) d_Model_readFile_95 ⟨(Nat.le_of_ble_eq_true rfl), (Nat.le_of_ble_eq_true rfl)⟩ (fun _ => ?_)
            refine J_if_ne X 187 d_Model_readFile_98 (by decide) (fun c98 => ?_) (fun c98 => ?_)
            · rw [if_neg c98] at h
              refine J_lv [4, 0, 5, 3, 2, 1] [(0, .ref (a 0)), (2, .int (0 : Int32)), (3, .int x3), (4, .int z68.1), (5, .int ((z68.2.1 4) - (1 : Int32))), (6, .int x2)] rfl ?_
              exact L187 (m_Model_readFile_56 n  k) ih (0 : Int32) x3 z68.1 ((z68.2.1 4) - (1 : Int32)) x2 z95.2 h
            · rw [if_pos c98] at h
              refine J_lv [4, 0, 5, 3, 2, 1] [(0, .ref (a 0)), (2, .int (0 : Int32)), (3, .int x3), (4, .int z68.1), (5, .int ((z68.2.1 4) - (1 : Int32))), (6, .int x2)] rfl ?_
              exact L101 (m_Model_readFile_56 n  k) ih (0 : Int32) x3 z68.1 ((z68.2.1 4) - (1 : Int32)) x2 z95.2 h
  have L52 : ∀  (t : St), m_Model_readFile_52 n   t = some z → J p l e { frames := 5, cells := 0, slots := 0, locals := 115 } s m args below meth c 9 (dC, dI) vwCl A (MQ below (jQv (dC, dI) vwCl (tyA cI cB cJ cZ) (fun _ : Unit => wM cI cB cJ cZ a z) A) args s 0 0 A) 0 0 52 [(0, .ref (a 0))] [] (wM cI cB cJ cZ a t) := by
    intro  t h
    unfold m_Model_readFile_52 at h
    refine J_iconst (v := (0 : Int32)) X d_Model_readFile_52 (by decide) ?_
    refine J_istore_n X [(2, .int (0 : Int32)), (0, .ref (a 0))] d_Model_readFile_53 rfl (by decide) rfl ?_
    refine J_iconst (v := (1 : Int32)) X d_Model_readFile_54 (by decide) ?_
    refine J_istore_n X [(3, .int (1 : Int32)), (2, .int (0 : Int32)), (0, .ref (a 0))] d_Model_readFile_55 rfl (by decide) rfl ?_
    refine J_lv [2, 1, 0] [(0, .ref (a 0)), (2, .int (0 : Int32)), (3, .int (1 : Int32))] rfl ?_
    exact L56  n (0 : Int32) (1 : Int32) t h
  have L26 : ∀  (t : St), m_Model_readFile_26 n   t = some z → J p l e { frames := 5, cells := 0, slots := 0, locals := 115 } s m args below meth c 9 (dC, dI) vwCl A (MQ below (jQv (dC, dI) vwCl (tyA cI cB cJ cZ) (fun _ : Unit => wM cI cB cJ cZ a z) A) args s 0 0 A) 0 0 26 [(0, .ref (a 0))] [] (wM cI cB cJ cZ a t) := by
    intro  t h
    unfold m_Model_readFile_26 at h
    refine J_aload_n X d_Model_readFile_26 0 rfl rfl ?_
    obtain ⟨z27, hz27, h⟩ := j_bind h
    refine J_callVi0 (wc := (wM cI cB cJ cZ a t)) (r := z27.1) (w1 := fun _ : Unit => wM cI cB cJ cZ a z27.2) X isM (hCM cI cB cJ cZ a t) (hDM cI cB cJ cZ a t) rfl [] [] (ct_Model_next l dC dI cI cB cJ cZ a n t hz27) (aw_V (fun w h => mm h) k_ml_Model_128 k_im_Model_next k_se_Model_next k_in_Model k_cd_Model_next) rfl (by decide +kernel) ⟨(Nat.le_of_ble_eq_true rfl), (Nat.le_of_ble_eq_true rfl)⟩ (q0 := 0) rfl rfl rfl rfl (Nat.le_of_ble_eq_true rfl) d_Model_readFile_27 ⟨(Nat.le_of_ble_eq_true rfl), (Nat.le_of_ble_eq_true rfl)⟩ (fun _ => ?_)
    refine J_istore_n X [(1, .int z27.1), (0, .ref (a 0))] d_Model_readFile_30 rfl (by decide) rfl ?_
    refine J_aload_n X d_Model_readFile_31 1 rfl rfl ?_
    refine J_get (v := .int (z27.2.1 2)) X (fun w h => mm (in_Model w h)) 0 rfl rfl 3 (by decide) (mm k_fl_Model_107) rfl rfl d_Model_readFile_32 ?_
    refine J_if_ne X 52 d_Model_readFile_35 (by decide) (fun c35 => ?_) (fun c35 => ?_)
    · rw [if_neg c35] at h
      refine J_lv [1] [(0, .ref (a 0))] rfl ?_
      exact L52  z27.2 h
    · rw [if_pos c35] at h
      refine J_iload_n X d_Model_readFile_38 0 rfl rfl ?_
      refine J_sipush (v := (216 : Int32)) X d_Model_readFile_39 (by decide) ?_
      refine J_icmp_eq X 52 d_Model_readFile_42 (by decide) (fun c42 => ?_) (fun c42 => ?_)
      · rw [if_pos c42] at h
        refine J_lv [1] [(0, .ref (a 0))] rfl ?_
        exact L52  z27.2 h
      · rw [if_neg c42] at h
        refine J_aload_n X d_Model_readFile_45 1 rfl rfl ?_
        refine J_iconst (v := (2 : Int32)) X d_Model_readFile_46 (by decide) ?_
        refine J_iconst (v := (0 : Int32)) X d_Model_readFile_47 (by decide) ?_
        obtain ⟨z48, hz48, h⟩ := j_bind h
        refine J_callVi0 (wc := (wM cI cB cJ cZ a z27.2)) (r := z48.1) (w1 := fun _ : Unit => wM cI cB cJ cZ a z48.2) X isM (hCM cI cB cJ cZ a z27.2) (hDM cI cB cJ cZ a z27.2) rfl [.int (2 : Int32), .int (0 : Int32)] [] (ct_Model_wrong l dC dI cI cB cJ cZ a n (2 : Int32) (0 : Int32) z27.2 hz48) (aw_V (fun w h => mm h) k_ml_Model_120 k_im_Model_wrong k_se_Model_wrong k_in_Model k_cd_Model_wrong) rfl (by decide +kernel) ⟨(Nat.le_of_ble_eq_true rfl), (Nat.le_of_ble_eq_true rfl)⟩ (q0 := 0) rfl rfl rfl rfl (Nat.le_of_ble_eq_true rfl) d_Model_readFile_48 ⟨(Nat.le_of_ble_eq_true rfl), (Nat.le_of_ble_eq_true rfl)⟩ (fun _ => ?_)
        refine J_istore_n X [(2, .int z48.1), (1, .int z27.1), (0, .ref (a 0))] d_Model_readFile_51 rfl (by decide) rfl ?_
        refine J_lv [2] [(0, .ref (a 0))] rfl ?_
        exact L52  z48.2 h
  refine J_lv [0] [(0, .ref (a 0))] rfl ?_
  unfold m_Model_readFile at h
  refine J_aload_n X d_Model_readFile_0 0 rfl rfl ?_
  obtain ⟨z1, hz1, h⟩ := j_bind h
  refine J_callVi0 (wc := (wM cI cB cJ cZ a t)) (r := z1.1) (w1 := fun _ : Unit => wM cI cB cJ cZ a z1.2) X isM (hCM cI cB cJ cZ a t) (hDM cI cB cJ cZ a t) rfl [] [] (ct_Model_next l dC dI cI cB cJ cZ a n t hz1) (aw_V (fun w h => mm h) k_ml_Model_128 k_im_Model_next k_se_Model_next k_in_Model k_cd_Model_next) rfl (by decide +kernel) ⟨(Nat.le_of_ble_eq_true rfl), (Nat.le_of_ble_eq_true rfl)⟩ (q0 := 0) rfl rfl rfl rfl (Nat.le_of_ble_eq_true rfl) d_Model_readFile_1 ⟨(Nat.le_of_ble_eq_true rfl), (Nat.le_of_ble_eq_true rfl)⟩ (fun _ => ?_)
  refine J_istore_n X [(1, .int z1.1), (0, .ref (a 0))] d_Model_readFile_4 rfl (by decide) rfl ?_
  refine J_aload_n X d_Model_readFile_5 1 rfl rfl ?_
  refine J_get (v := .int (z1.2.1 2)) X (fun w h => mm (in_Model w h)) 0 rfl rfl 3 (by decide) (mm k_fl_Model_107) rfl rfl d_Model_readFile_6 ?_
  refine J_if_ne X 26 d_Model_readFile_9 (by decide) (fun c9 => ?_) (fun c9 => ?_)
  · rw [if_neg c9] at h
    refine J_lv [1] [(0, .ref (a 0))] rfl ?_
    exact L26  z1.2 h
  · rw [if_pos c9] at h
    refine J_iload_n X d_Model_readFile_12 0 rfl rfl ?_
    refine J_sipush (v := (255 : Int32)) X d_Model_readFile_13 (by decide) ?_
    refine J_icmp_eq X 26 d_Model_readFile_16 (by decide) (fun c16 => ?_) (fun c16 => ?_)
    · rw [if_pos c16] at h
      refine J_lv [1] [(0, .ref (a 0))] rfl ?_
      exact L26  z1.2 h
    · rw [if_neg c16] at h
      refine J_aload_n X d_Model_readFile_19 1 rfl rfl ?_
      refine J_iconst (v := (2 : Int32)) X d_Model_readFile_20 (by decide) ?_
      refine J_iconst (v := (0 : Int32)) X d_Model_readFile_21 (by decide) ?_
      obtain ⟨z22, hz22, h⟩ := j_bind h
      refine J_callVi0 (wc := (wM cI cB cJ cZ a z1.2)) (r := z22.1) (w1 := fun _ : Unit => wM cI cB cJ cZ a z22.2) X isM (hCM cI cB cJ cZ a z1.2) (hDM cI cB cJ cZ a z1.2) rfl [.int (2 : Int32), .int (0 : Int32)] [] (ct_Model_wrong l dC dI cI cB cJ cZ a n (2 : Int32) (0 : Int32) z1.2 hz22) (aw_V (fun w h => mm h) k_ml_Model_120 k_im_Model_wrong k_se_Model_wrong k_in_Model k_cd_Model_wrong) rfl (by decide +kernel) ⟨(Nat.le_of_ble_eq_true rfl), (Nat.le_of_ble_eq_true rfl)⟩ (q0 := 0) rfl rfl rfl rfl (Nat.le_of_ble_eq_true rfl) d_Model_readFile_22 ⟨(Nat.le_of_ble_eq_true rfl), (Nat.le_of_ble_eq_true rfl)⟩ (fun _ => ?_)
      refine J_istore_n X [(2, .int z22.1), (1, .int z1.1), (0, .ref (a 0))] d_Model_readFile_25 rfl (by decide) rfl ?_
      refine J_lv [2] [(0, .ref (a 0))] rfl ?_
      exact L26  z22.2 h
set_option maxHeartbeats 4000000 in
set_option maxRecDepth 100000 in
theorem ct_Model_read (l : Launch) (dC : Nat → ClassId) (dI : Nat → Nat → Nat) (cI cB cJ cZ : ClassId) (a : Nat → Nat) (n : Nat)  (t : St) {z : Int32 × St} (h : m_Model_read n t = some z) : jMi l y_Model_read w_Model_read ({ frames := 6, cells := 0, slots := 0, locals := 143 }) (dC, dI) vwCl (tyA cI cB cJ cZ) [.ref (a 0)] (wM cI cB cJ cZ a t) z.1 (fun _ : Unit => wM cI cB cJ cZ a z.2) := by
  refine jMi.of (cc := c_Model_read) (maxL := 1) (ret := (some .int)) (by decide) rfl (Nat.le_of_ble_eq_true rfl) ?_
  intro p e s m args below meth c A X hr hlk hnm
  refine J_lv [0] [(0, .ref (a 0))] rfl ?_
  unfold m_Model_read at h
  refine J_aload_n X d_Model_read_0 0 rfl rfl ?_
  refine J_iconst (v := (0 : Int32)) X d_Model_read_1 (by decide) ?_
  refine J_put (ty := .int) (v := .int (0 : Int32)) X (fun w h => mm (in_Model w h)) ty_Model tyk_Model nm_Model 0 rfl rfl 0 (by decide) (mm k_fl_Model_77) rfl rfl (by decide +kernel) rfl rfl (Nat.le_of_ble_eq_true rfl) d_Model_read_2 (wM cI cB cJ cZ a (sG t 0 (0 : Int32))) rfl ?_
  refine J_aload_n X d_Model_read_5 0 rfl rfl ?_
  refine J_iconst (v := (0 : Int32)) X d_Model_read_6 (by decide) ?_
  refine J_put (ty := .int) (v := .int (0 : Int32)) X (fun w h => mm (in_Model w h)) ty_Model tyk_Model nm_Model 0 rfl rfl 3 (by decide) (mm k_fl_Model_107) rfl rfl (by decide +kernel) rfl rfl (Nat.le_of_ble_eq_true rfl) d_Model_read_7 (wM cI cB cJ cZ a (sG (sG t 0 (0 : Int32)) 2 (0 : Int32))) rfl ?_
  refine J_aload_n X d_Model_read_10 0 rfl rfl ?_
  refine J_iconst (v := (-1 : Int32)) X d_Model_read_11 (by decide) ?_
  refine J_put (ty := .int) (v := .int (-1 : Int32)) X (fun w h => mm (in_Model w h)) ty_Model tyk_Model nm_Model 0 rfl rfl 4 (by decide) (mm k_fl_Model_13) rfl rfl (by decide +kernel) rfl rfl (Nat.le_of_ble_eq_true rfl) d_Model_read_12 (wM cI cB cJ cZ a (sG (sG (sG t 0 (0 : Int32)) 2 (0 : Int32)) 3 (-1 : Int32))) rfl ?_
  refine J_aload_n X d_Model_read_15 0 rfl rfl ?_
  obtain ⟨z16, hz16, h⟩ := j_bind h
  refine J_callVv0 (wc := (wM cI cB cJ cZ a (sG (sG (sG t 0 (0 : Int32)) 2 (0 : Int32)) 3 (-1 : Int32)))) (w1 := fun _ : Unit => wM cI cB cJ cZ a z16) X isM (hCM cI cB cJ cZ a (sG (sG (sG t 0 (0 : Int32)) 2 (0 : Int32)) 3 (-1 : Int32))) (hDM cI cB cJ cZ a (sG (sG (sG t 0 (0 : Int32)) 2 (0 : Int32)) 3 (-1 : Int32))) rfl [] [] (ct_Model_forget l dC dI cI cB cJ cZ a n (sG (sG (sG t 0 (0 : Int32)) 2 (0 : Int32)) 3 (-1 : Int32)) hz16) (aw_V (fun w h => mm h) k_ml_Model_74 k_im_Model_forget k_se_Model_forget k_in_Model k_cd_Model_forget) rfl (by decide +kernel) ⟨(Nat.le_of_ble_eq_true rfl), (Nat.le_of_ble_eq_true rfl)⟩ (q0 := 0) rfl rfl rfl rfl (Nat.le_of_ble_eq_true rfl) d_Model_read_16 ⟨(Nat.le_of_ble_eq_true rfl), (Nat.le_of_ble_eq_true rfl)⟩ (fun _ => ?_)
  refine J_aload_n X d_Model_read_19 0 rfl rfl ?_
  refine J_iconst (v := (0 : Int32)) X d_Model_read_20 (by decide) ?_
  refine J_put (ty := .int) (v := .int (0 : Int32)) X (fun w h => mm (in_Model w h)) ty_Model tyk_Model nm_Model 0 rfl rfl 5 (by decide) (mm k_fl_Model_113) rfl rfl (by decide +kernel) rfl rfl (Nat.le_of_ble_eq_true rfl) d_Model_read_21 (wM cI cB cJ cZ a (sG z16 4 (0 : Int32))) rfl ?_
  refine J_aload_n X d_Model_read_24 0 rfl rfl ?_
  refine J_iconst (v := (-1 : Int32)) X d_Model_read_25 (by decide) ?_
  refine J_put (ty := .int) (v := .int (-1 : Int32)) X (fun w h => mm (in_Model w h)) ty_Model tyk_Model nm_Model 0 rfl rfl 6 (by decide) (mm k_fl_Model_110) rfl rfl (by decide +kernel) rfl rfl (Nat.le_of_ble_eq_true rfl) d_Model_read_26 (wM cI cB cJ cZ a (sG (sG z16 4 (0 : Int32)) 5 (-1 : Int32))) rfl ?_
  refine J_aload_n X d_Model_read_29 0 rfl rfl ?_
  obtain ⟨z30, hz30, h⟩ := j_bind h
  refine J_callVv0 (wc := (wM cI cB cJ cZ a (sG (sG z16 4 (0 : Int32)) 5 (-1 : Int32)))) (w1 := fun _ : Unit => wM cI cB cJ cZ a z30) X isM (hCM cI cB cJ cZ a (sG (sG z16 4 (0 : Int32)) 5 (-1 : Int32))) (hDM cI cB cJ cZ a (sG (sG z16 4 (0 : Int32)) 5 (-1 : Int32))) rfl [] [] (ct_Model_readFile l dC dI cI cB cJ cZ a n (sG (sG z16 4 (0 : Int32)) 5 (-1 : Int32)) hz30) (aw_V (fun w h => mm h) k_ml_Model_213 k_im_Model_readFile k_se_Model_readFile k_in_Model k_cd_Model_readFile) rfl (by decide +kernel) ⟨(Nat.le_of_ble_eq_true rfl), (Nat.le_of_ble_eq_true rfl)⟩ (q0 := 0) rfl rfl rfl rfl (Nat.le_of_ble_eq_true rfl) d_Model_read_30 ⟨(Nat.le_of_ble_eq_true rfl), (Nat.le_of_ble_eq_true rfl)⟩ (fun _ => ?_)
  refine J_aload_n X d_Model_read_33 0 rfl rfl ?_
  refine J_get (v := .int (z30.1 2)) X (fun w h => mm (in_Model w h)) 0 rfl rfl 3 (by decide) (mm k_fl_Model_107) rfl rfl d_Model_read_34 ?_
  refine J_if_le X 44 d_Model_read_37 (by decide) (fun c37 => ?_) (fun c37 => ?_)
  · rw [if_pos c37] at h
    refine J_aload_n X d_Model_read_44 0 rfl rfl ?_
    refine J_get (v := .int (z30.1 2)) X (fun w h => mm (in_Model w h)) 0 rfl rfl 3 (by decide) (mm k_fl_Model_107) rfl rfl d_Model_read_45 ?_
    exact J_iret X hr hlk () (Nat.le_of_ble_eq_true rfl) (Nat.le_of_ble_eq_true rfl) (congrArg Prod.fst (j_s h)) (congrArg (fun q => wM cI cB cJ cZ a q.2) (j_s h)) d_Model_read_48
  · rw [if_neg c37] at h
    refine J_aload_n X d_Model_read_40 0 rfl rfl ?_
    obtain ⟨z41, hz41, h⟩ := j_bind h
    refine J_callVv0 (wc := (wM cI cB cJ cZ a z30)) (w1 := fun _ : Unit => wM cI cB cJ cZ a z41) X isM (hCM cI cB cJ cZ a z30) (hDM cI cB cJ cZ a z30) rfl [] [] (ct_Model_forget l dC dI cI cB cJ cZ a n z30 hz41) (aw_V (fun w h => mm h) k_ml_Model_74 k_im_Model_forget k_se_Model_forget k_in_Model k_cd_Model_forget) rfl (by decide +kernel) ⟨(Nat.le_of_ble_eq_true rfl), (Nat.le_of_ble_eq_true rfl)⟩ (q0 := 0) rfl rfl rfl rfl (Nat.le_of_ble_eq_true rfl) d_Model_read_41 ⟨(Nat.le_of_ble_eq_true rfl), (Nat.le_of_ble_eq_true rfl)⟩ (fun _ => ?_)
    refine J_aload_n X d_Model_read_44 0 rfl rfl ?_
    refine J_get (v := .int (z41.1 2)) X (fun w h => mm (in_Model w h)) 0 rfl rfl 3 (by decide) (mm k_fl_Model_107) rfl rfl d_Model_read_45 ?_
    exact J_iret X hr hlk () (Nat.le_of_ble_eq_true rfl) (Nat.le_of_ble_eq_true rfl) (congrArg Prod.fst (j_s h)) (congrArg (fun q => wM cI cB cJ cZ a q.2) (j_s h)) d_Model_read_48

section
variable {p : Program} {l : Launch} {e : Env} {R : Room} {s : State} {m : MethodId} {args : Array Value} {below : List Frame} {meth : Method} {c : Code} {Q : State → Prop} {cc : ByteArray} {nL : Nat} {Ts : List Cond} {own : String} {D : va_G} {cl : List vw_C} {tys : List (ClassId × FieldType)} {A : Nat → Prop} {cells slots pc : Nat} {lv lv' : List (Nat × Value)} {st : List Value} {ws ws' : va_W}
theorem J_newa (X : jX p s m args c cc nL Ts own D cl tys A) {atype : ArrayType} {ty : FieldType} (harr : Cond.arrayClass (newarray.typeOf atype) ∈ Ts) (hty : newarray.typeOf atype = ty) (t0 : Nat) {cA : ClassId} (ht : tys[t0]? = some (cA, ty)) (hinj : ∀ c1 c2 : ClassId, va_RA s c1 ty → va_RA s c2 ty → c1 = c2) {n : Int32} {N' : Nat} {a0 : vp_A} (ha : ∀ cA : ClassId, vp_cell cA a0 = arrV cA N' (fun _ => defaultValue ty)) (hn : ¬ n < 0) (hN : n.toNatClampNeg = N') (hbytes : N' * componentBytes ty ≤ 536870912) (hcells : cells + 1 ≤ R.cells) (hslots : slots + N' ≤ R.slots) (hdg : decode cc pc = .ok (.newarray atype, 2))
    (kk : ∀ q : Nat, J p l e R s m args below meth c nL D cl A Q (cells + 1) (slots + N') (pc + 2) lv (.ref q :: st) (ws ++ [(q, .inl (cA, a0))])) : J p l e R s m args below meth c nL D cl A Q cells slots pc lv (.int n :: st) ws := by
  intro ls H locs hl hP hD hS
  refine va_newa X.1 X.2.1 (X.hts _ harr) hty X.hK hP hD hS X.hA ha hn hN hbytes hcells hslots hdg (fun q cB H1 hK1 hP1 hD1 hS1 => ?_)
  have h1 : va_RA s cB ty := (hK1.2 tys.length (cB, ty) (by rw [List.getElem?_append_right (Nat.le_refl _), Nat.sub_self]; rfl)).2
  have h2 : va_RA s cA ty := (X.hK.2 t0 (cA, ty) ht).2
  obtain rfl : cB = cA := hinj cB cA h1 h2
  exact kk q ls H1 locs hl hP1 hD1 hS1
theorem J_copyi (X : jX p s m args c cc nL Ts own D cl tys A) {index : Nat} (hl1 : Cond.methodLink own index arraycopyName ∈ Ts) (hl2 : Cond.native arraycopyName ∈ Ts) (hl3 : Cond.static arraycopyName ∈ Ts) (hl4 : Cond.initialized "java/lang/System" ∈ Ts) (q0 q1 t0 t1 : Nat) {a a0 : Nat} {c0 c1 : ClassId} {n0 n1 : Nat} {f g : Nat → Int32} {ty : FieldType} (ha0 : ws[q0]? = some (a0, .inl (c0, n0, .inl f))) (ha1 : ws[q1]? = some (a, .inl (c1, n1, .inl g))) (ht0 : tys[t0]? = some (c0, ty)) (ht1 : tys[t1]? = some (c1, ty)) (hprim : refKind ty = false)
    {sp dp n : Int32} (h1 : ¬ sp < 0) (h2 : ¬ dp < 0) (h3 : ¬ n < 0) (h4 : sp.toNatClampNeg + n.toNatClampNeg ≤ n0) (h5 : dp.toNatClampNeg + n.toNatClampNeg ≤ n1) (hfit : ∀ i, i < n.toNatClampNeg → fits ty (.int (f (sp.toNatClampNeg + i))) = true) (hframes : 1 ≤ R.frames) (hlocals : (st.map fun v => v.category).sum + (nativeFrameWords "java/lang/System" "arraycopy" 5 + 11) ≤ R.locals) (hdg : decode cc pc = .ok (.invokestatic index, 3)) (ws' : va_W) (hw : ws.set q1 (a, .inl (c1, n1, .inl (va_cpy f g sp.toNatClampNeg dp.toNatClampNeg n.toNatClampNeg))) = ws')
    (kk : J p l e R s m args below meth c nL D cl A Q cells slots (pc + 3) lv st ws') : J p l e R s m args below meth c nL D cl A Q cells slots pc lv (.int n :: .int dp :: .ref a :: .int sp :: .ref a0 :: st) ws :=
  fun ls H locs hl hP hD hS => va_copyi X.1 X.2.1 (X.2.2.1.trans hl.1.symm) X.hown (X.hts _ hl1) (X.hts _ hl2) (X.hts _ hl3) (X.hts _ hl4) X.hK hP hD hS q0 q1 t0 t1 ha0 ha1 ht0 ht1 hprim h1 h2 h3 h4 h5 hfit hframes hlocals hdg (fun H1 locs1 hP1 hD1 hS1 => kk ls H1 locs1 hl (hw ▸ hP1) (hw ▸ hD1) hS1)
end
def ph (t : St) : Nat := t.2.2.2 0 + t.2.2.2 1 + t.2.2.2 2
theorem ph_eq {z t : St} (h : z.2.2.2 = t.2.2.2) : ph t = ph z := by unfold ph; rw [h]
theorem ph_le {z t : St} (h : z.2.2.2 = t.2.2.2) : ph t ≤ ph z := Nat.le_of_eq (ph_eq h)
theorem ph_sA0 (t : St) (N : Nat) (f : Nat → Int32) : ph (sA t 0 N f) + t.2.2.2 0 = ph t + N := by
  show (N + t.2.2.2 1 + t.2.2.2 2) + t.2.2.2 0 = (t.2.2.2 0 + t.2.2.2 1 + t.2.2.2 2) + N
  omega
theorem ph_sA1 (t : St) (N : Nat) (f : Nat → Int32) : ph (sA t 1 N f) + t.2.2.2 1 = ph t + N := by
  show (t.2.2.2 0 + N + t.2.2.2 2) + t.2.2.2 1 = (t.2.2.2 0 + t.2.2.2 1 + t.2.2.2 2) + N
  omega
theorem ph_sA2 (t : St) (N : Nat) (f : Nat → Int32) : ph (sA t 2 N f) + t.2.2.2 2 = ph t + N := by
  show (t.2.2.2 0 + t.2.2.2 1 + N) + t.2.2.2 2 = (t.2.2.2 0 + t.2.2.2 1 + t.2.2.2 2) + N
  omega
theorem gr_le {A B C : Prop} {n N : Nat} (h : ¬ ¬ (A ∧ B ∧ 0 < n ∧ 2 * n ≤ N ∧ C)) : 0 < n ∧ 2 * n ≤ N := ⟨(Classical.not_not.mp h).2.2.1, (Classical.not_not.mp h).2.2.2.1⟩
theorem ph_gr0 {A B C : Prop} {t : St} {N : Nat} {f : Nat → Int32} (h : ¬ ¬ (A ∧ B ∧ 0 < t.2.2.2 0 ∧ 2 * t.2.2.2 0 ≤ N ∧ C)) : ph t ≤ ph (sA t 0 N f) := by
  have h1 := gr_le h
  have h2 := ph_sA0 t N f
  omega
theorem ph_gr1 {A B C : Prop} {t : St} {N : Nat} {f : Nat → Int32} (h : ¬ ¬ (A ∧ B ∧ 0 < t.2.2.2 1 ∧ 2 * t.2.2.2 1 ≤ N ∧ C)) : ph t ≤ ph (sA t 1 N f) := by
  have h1 := gr_le h
  have h2 := ph_sA1 t N f
  omega
theorem ph_gr2 {A B C : Prop} {t : St} {N : Nat} {f : Nat → Int32} (h : ¬ ¬ (A ∧ B ∧ 0 < t.2.2.2 2 ∧ 2 * t.2.2.2 2 ≤ N ∧ C)) : ph t ≤ ph (sA t 2 N f) := by
  have h1 := gr_le h
  have h2 := ph_sA2 t N f
  omega
theorem cp_min {k : Int32} {n : Nat} (h0 : ¬ k < 0) (h : 2 * n ≤ k.toNatClampNeg) : (if k < Int32.ofNat n then k else Int32.ofNat n) = Int32.ofNat n ∧ ¬ Int32.ofNat n < 0 ∧ (Int32.ofNat n).toNatClampNeg = n := by
  obtain ⟨j, hj, rfl⟩ := nI_of h0
  rw [nI_clamp hj] at h
  exact ⟨if_neg (nI_nlt (a := j) (b := n) (by omega) hj), nI_pos (n := n) (by omega), nI_clamp (n := n) (by omega)⟩
set_option maxHeartbeats 4000000 in
set_option maxRecDepth 100000 in
theorem ct_Arrays_copyOfB (l : Launch) (dC : Nat → ClassId) (dI : Nat → Nat → Nat) (cI cB cJ cZ : ClassId) (q n : Nat) (f : Nat → Int32) (k : Int32) (h : ¬ k < 0 ∧ ¬ k = Int32.ofNat n ∧ 0 < n ∧ 2 * n ≤ k.toNatClampNeg ∧ k.toNatClampNeg ≤ 65536 ∧ (∀ i, i < n → fits .byte (.int (f i)) = true)) : jMr l y_Arrays_copyOfB w_Arrays_copyOfB ({ frames := 1, cells := 1, slots := k.toNatClampNeg, locals := 60 }) (dC, dI) vwCl (tyA cI cB cJ cZ) [.ref q, .int k] [(q, .inl (cB, n, .inl f))] (fun (_ : Unit) (ra : Nat) => [(q, .inl (cB, n, .inl f)), (ra, .inl (cB, k.toNatClampNeg, .inl (va_cpy f (fun _ => 0) 0 0 n)))]) := by
  obtain ⟨h0, h1, h2, h3, h4, h5⟩ := h
  obtain ⟨m0, m1, m2⟩ := cp_min h0 h3
  refine jMr.of (cc := c_Arrays_copyOfB) (maxL := 3) (ret := (some (.array .byte))) (by decide) rfl (Nat.le_of_ble_eq_true rfl) ?_
  intro p e s m args below meth c A X hr hlk hnm
  refine J_lv [0, 1] [(0, .ref q), (1, .int k)] rfl ?_
  refine J_iload_n X d_Arrays_copyOfB_0 1 rfl rfl ?_
  refine J_aload_n X d_Arrays_copyOfB_1 0 rfl rfl ?_
  refine J_alen X 0 1 rfl rfl (v := Int32.ofNat n) rfl d_Arrays_copyOfB_2 ?_
  refine J_icmp_ne X 14 d_Arrays_copyOfB_3 (by decide) (fun _ => ?_) (fun c3 => absurd c3 h1)
  refine J_iload_n X d_Arrays_copyOfB_14 1 rfl rfl ?_
  refine J_newa (atype := .byte) (ty := .byte) (N' := k.toNatClampNeg) (a0 := (k.toNatClampNeg, .inl (fun _ => 0))) X (mm k_ac_byte) rfl 1 rfl (fun c1 c2 g1 g2 => Option.some.inj (Eq.trans (Eq.symm g1) g2)) (fun _ => rfl) h0 rfl (by show k.toNatClampNeg * 1 ≤ 536870912; omega) (Nat.le_refl 1) (by show 0 + k.toNatClampNeg ≤ k.toNatClampNeg; omega) d_Arrays_copyOfB_15 (fun ra => ?_)
  refine J_astore_n X [(2, .ref ra), (0, .ref q), (1, .int k)] d_Arrays_copyOfB_17 rfl (by decide) rfl ?_
  refine J_aload_n X d_Arrays_copyOfB_18 1 rfl rfl ?_
  refine J_iconst (v := (0 : Int32)) X d_Arrays_copyOfB_19 (by decide) ?_
  refine J_aload_n X d_Arrays_copyOfB_20 0 rfl rfl ?_
  refine J_iconst (v := (0 : Int32)) X d_Arrays_copyOfB_21 (by decide) ?_
  refine J_aload_n X d_Arrays_copyOfB_22 1 rfl rfl ?_
  refine J_alen X 0 1 rfl rfl (v := Int32.ofNat n) rfl d_Arrays_copyOfB_23 ?_
  refine J_iload_n X d_Arrays_copyOfB_24 2 rfl rfl ?_
  refine J_mmin X (mm k_ml_Arrays_304) (mm k_st_Math_min) (mm k_in_Math) (mm k_cd_Math_min) (Nat.le_of_ble_eq_true rfl) (Nat.le_of_ble_eq_true rfl) (Nat.le_refl 1) (by show 0 + k.toNatClampNeg ≤ k.toNatClampNeg; omega) d_Arrays_copyOfB_25 ?_
  rw [m0]
  refine J_copyi (n := Int32.ofNat n) X (mm k_ml_Arrays_150) (mm k_na_java_lang_System_arraycopy) (mm k_st_java_lang_System_arraycopy) (mm k_in_java_lang_System) 0 1 1 1 rfl rfl rfl rfl rfl (by decide) (by decide) m1 (by rw [m2]; show 0 + n ≤ n; omega) (by rw [m2]; show 0 + n ≤ k.toNatClampNeg; omega) (fun i hi => by rw [m2] at hi; show fits .byte (.int (f (0 + i))) = true; rw [Nat.zero_add]; exact h5 i hi) (Nat.le_of_ble_eq_true rfl) (Nat.le_of_ble_eq_true rfl) d_Arrays_copyOfB_28 [(q, .inl (cB, n, .inl f)), (ra, .inl (cB, k.toNatClampNeg, .inl (va_cpy f (fun _ => 0) 0 0 n)))] (by rw [m2]; rfl) ?_
  refine J_aload_n X d_Arrays_copyOfB_31 0 rfl rfl ?_
  exact J_aret X hr (Or.inr ⟨_, rfl⟩) hlk () (Nat.le_refl 1) (by show 0 + k.toNatClampNeg ≤ k.toNatClampNeg; omega) rfl d_Arrays_copyOfB_32
set_option maxHeartbeats 4000000 in
set_option maxRecDepth 100000 in
theorem ct_Arrays_copyOfI (l : Launch) (dC : Nat → ClassId) (dI : Nat → Nat → Nat) (cI cB cJ cZ : ClassId) (q n : Nat) (f : Nat → Int32) (k : Int32) (h : ¬ k < 0 ∧ ¬ k = Int32.ofNat n ∧ 0 < n ∧ 2 * n ≤ k.toNatClampNeg ∧ k.toNatClampNeg ≤ 65536) : jMr l y_Arrays_copyOfI w_Arrays_copyOfI ({ frames := 1, cells := 1, slots := k.toNatClampNeg, locals := 60 }) (dC, dI) vwCl (tyA cI cB cJ cZ) [.ref q, .int k] [(q, .inl (cI, n, .inl f))] (fun (_ : Unit) (ra : Nat) => [(q, .inl (cI, n, .inl f)), (ra, .inl (cI, k.toNatClampNeg, .inl (va_cpy f (fun _ => 0) 0 0 n)))]) := by
  obtain ⟨h0, h1, h2, h3, h4⟩ := h
  obtain ⟨m0, m1, m2⟩ := cp_min h0 h3
  refine jMr.of (cc := c_Arrays_copyOfI) (maxL := 3) (ret := (some (.array .int))) (by decide) rfl (Nat.le_of_ble_eq_true rfl) ?_
  intro p e s m args below meth c A X hr hlk hnm
  refine J_lv [0, 1] [(0, .ref q), (1, .int k)] rfl ?_
  refine J_iload_n X d_Arrays_copyOfI_0 1 rfl rfl ?_
  refine J_aload_n X d_Arrays_copyOfI_1 0 rfl rfl ?_
  refine J_alen X 0 0 rfl rfl (v := Int32.ofNat n) rfl d_Arrays_copyOfI_2 ?_
  refine J_icmp_ne X 14 d_Arrays_copyOfI_3 (by decide) (fun _ => ?_) (fun c3 => absurd c3 h1)
  refine J_iload_n X d_Arrays_copyOfI_14 1 rfl rfl ?_
  refine J_newa (atype := .int) (ty := .int) (N' := k.toNatClampNeg) (a0 := (k.toNatClampNeg, .inl (fun _ => 0))) X (mm k_ac_int) rfl 0 rfl (fun c1 c2 g1 g2 => Option.some.inj (Eq.trans (Eq.symm g1) g2)) (fun _ => rfl) h0 rfl (by show k.toNatClampNeg * 4 ≤ 536870912; omega) (Nat.le_refl 1) (by show 0 + k.toNatClampNeg ≤ k.toNatClampNeg; omega) d_Arrays_copyOfI_15 (fun ra => ?_)
  refine J_astore_n X [(2, .ref ra), (0, .ref q), (1, .int k)] d_Arrays_copyOfI_17 rfl (by decide) rfl ?_
  refine J_aload_n X d_Arrays_copyOfI_18 1 rfl rfl ?_
  refine J_iconst (v := (0 : Int32)) X d_Arrays_copyOfI_19 (by decide) ?_
  refine J_aload_n X d_Arrays_copyOfI_20 0 rfl rfl ?_
  refine J_iconst (v := (0 : Int32)) X d_Arrays_copyOfI_21 (by decide) ?_
  refine J_aload_n X d_Arrays_copyOfI_22 1 rfl rfl ?_
  refine J_alen X 0 0 rfl rfl (v := Int32.ofNat n) rfl d_Arrays_copyOfI_23 ?_
  refine J_iload_n X d_Arrays_copyOfI_24 2 rfl rfl ?_
  refine J_mmin X (mm k_ml_Arrays_304) (mm k_st_Math_min) (mm k_in_Math) (mm k_cd_Math_min) (Nat.le_of_ble_eq_true rfl) (Nat.le_of_ble_eq_true rfl) (Nat.le_refl 1) (by show 0 + k.toNatClampNeg ≤ k.toNatClampNeg; omega) d_Arrays_copyOfI_25 ?_
  rw [m0]
  refine J_copyi (n := Int32.ofNat n) X (mm k_ml_Arrays_150) (mm k_na_java_lang_System_arraycopy) (mm k_st_java_lang_System_arraycopy) (mm k_in_java_lang_System) 0 1 0 0 rfl rfl rfl rfl rfl (by decide) (by decide) m1 (by rw [m2]; show 0 + n ≤ n; omega) (by rw [m2]; show 0 + n ≤ k.toNatClampNeg; omega) (fun i hi => rfl) (Nat.le_of_ble_eq_true rfl) (Nat.le_of_ble_eq_true rfl) d_Arrays_copyOfI_28 [(q, .inl (cI, n, .inl f)), (ra, .inl (cI, k.toNatClampNeg, .inl (va_cpy f (fun _ => 0) 0 0 n)))] (by rw [m2]; rfl) ?_
  refine J_aload_n X d_Arrays_copyOfI_31 0 rfl rfl ?_
  exact J_aret X hr (Or.inr ⟨_, rfl⟩) hlk () (Nat.le_refl 1) (by show 0 + k.toNatClampNeg ≤ k.toNatClampNeg; omega) rfl d_Arrays_copyOfI_32

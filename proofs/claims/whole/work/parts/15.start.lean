theorem arr_known {args : Array Value} {s : State} {ty : FieldType} (h : (Cond.arrayClass ty).before args s = true) : ∃ cA : ClassId, ArrOfT s cA ty ∧ s.vm.findClass ("[" ++ ty.toString) = some cA := by
  obtain ⟨c, k, comp, h1, h2, h3⟩ := Cond.arrayClass_spec h
  exact ⟨c, fun n z => ⟨fun k h => (by cases h), k, h2, comp, h3⟩, h1⟩
set_option maxHeartbeats 8000000 in
set_option maxRecDepth 100000 in
theorem law_start {p : Program} {e : Env} {s : State} {m : MethodId} {below : List Frame} {meth : Method} {c : Code} (l : Launch) {b L : Nat} {xs : Nat → Int32} (hL : L ≤ 2048) (C0 : lw_At p s m meth c b L xs) (hP0 : ∃ (n : Nat) (I : Nat → St → St → Prop), pureOK n I ∧ ∃ z w : St, m_Picture_clearP n tP0 = some z ∧ m_Model_forget n tM0 = some w ∧ I 0 (tO0 z) w) : W p l e room_1 s m #[Value.ref b] below meth c s.heap [] 0 0 (lw_Z below #[Value.ref b] s) (entryFrame m ([Value.ref b] : List Value).toArray 4) := by
  obtain ⟨n, I, hOK, z, w, hz, hw, hI⟩ := hP0
  obtain ⟨hx, hb, hr, hml, hown, hts, hX, hbl, hlocks, hgv⟩ := id C0
  obtain ⟨c0, iS0, hKn0⟩ := u_known (C := R_Bytes) (T := T_Bytes) (N := 2) (n := 2) hts (fun w h => awL w (in_Bytes w h)) (hts _ (awL _ k_is_Bytes))
  obtain ⟨c1, iS1, hKn1⟩ := u_known (C := R_Numbers) (T := T_Numbers) (N := 2) (n := 2) hts (fun w h => awL w (in_Numbers w h)) (hts _ (awL _ k_is_Numbers))
  obtain ⟨c2, iS2, hKn2⟩ := u_known (C := R_Parser) (T := T_Parser) (N := 11) (n := 11) hts (fun w h => awL w (in_Parser w h)) (hts _ (awL _ k_is_Parser))
  obtain ⟨c3, iS3, hKn3⟩ := u_known (C := R_Picture) (T := T_Picture) (N := 12) (n := 12) hts (fun w h => awL w (in_Picture w h)) (hts _ (awL _ k_is_Picture))
  obtain ⟨c4, iS4, hKn4⟩ := u_known (C := R_Scan) (T := T_Scan) (N := 7) (n := 7) hts (fun w h => awL w (in_Scan w h)) (hts _ (awL _ k_is_Scan))
  obtain ⟨c5, iS5, hKn5⟩ := u_known (C := R_Reader) (T := T_Reader) (N := 3) (n := 3) hts (fun w h => awL w (in_Reader w h)) (hts _ (awL _ k_is_Reader))
  obtain ⟨c6, iS6, hKn6⟩ := u_known (C := R_Model) (T := T_Model) (N := 40) (n := 40) hts (fun w h => awL w (in_Model w h)) (hts _ (awL _ k_is_Model))
  obtain ⟨dC, dI, hKc⟩ : ∃ (dC : Nat → ClassId) (dI : Nat → Nat → Nat), ∀ (k : Nat) (q : vw_C), vwCl[k]? = some q → u_Kn s q.1 q.2.1 q.2.2 (dC k) (dI k) := by
    refine ⟨fun k => match k with | 0 => c0 | 1 => c1 | 2 => c2 | 3 => c3 | 4 => c4 | 5 => c5 | _ => c6, fun k => match k with | 0 => iS0 | 1 => iS1 | 2 => iS2 | 3 => iS3 | 4 => iS4 | 5 => iS5 | _ => iS6, ?_⟩
    intro k q hq
    match k, hq with
    | 0, hq => cases hq; exact hKn0
    | 1, hq => cases hq; exact hKn1
    | 2, hq => cases hq; exact hKn2
    | 3, hq => cases hq; exact hKn3
    | 4, hq => cases hq; exact hKn4
    | 5, hq => cases hq; exact hKn5
    | 6, hq => cases hq; exact hKn6
    | k + 7, hq => simp [vwCl] at hq
  obtain ⟨cI, hI1, hI2⟩ := arr_known (hts _ (awL _ k_ac_int))
  obtain ⟨cB, hB1, hB2⟩ := arr_known (hts _ (awL _ k_ac_byte))
  obtain ⟨cJ, hJ1, hJ2⟩ := arr_known (hts _ (awL _ k_ac_long))
  obtain ⟨cZ, hZ1, hZ2⟩ := arr_known (hts _ (awL _ k_ac_boolean))
  have hK : va_K (dC, dI) vwCl (tyA cI cB cJ cZ) s := by
    refine ⟨hKc, ?_⟩
    intro k q hq
    match k, hq with
    | 0, hq => cases hq; exact ⟨hI1, hI2⟩
    | 1, hq => cases hq; exact ⟨hB1, hB2⟩
    | 2, hq => cases hq; exact ⟨hJ1, hJ2⟩
    | 3, hq => cases hq; exact ⟨hZ1, hZ2⟩
    | k + 4, hq => simp [tyA] at hq
  have X : jX p s m #[Value.ref b] c code 4 lw_tbl "SegmentReaderLaw" (dC, dI) vwCl (tyA cI cB cJ cZ) (fun q : Nat => s.heap.size ≤ q) := ⟨hx, hb, hml, hown, hts, hK, fun _ h => h, fun w hw => va_Nw.of (nestL_on w hw) (hts w (List.mem_filter.mp hw).1)⟩
  have K0 : J p l e room_1 s m #[Value.ref b] below meth c 4 (dC, dI) vwCl (fun q : Nat => s.heap.size ≤ q) (lw_Z below #[Value.ref b] s) 0 0 0 [(0, .ref b)] [] [] := by
    refine J_new (ci := 5) (fs := [.null, .null, .null]) X (fun w h => awL w (in_Reader w h)) ty_Reader tyk_Reader (awL _ k_cl_Law_7) (awL _ k_is_Reader) (awL _ k_in_Reader) rfl (fun j hj => match j, hj with | 0, _ => rfl | 1, _ => rfl | 2, _ => rfl | (k + 3), hj => absurd hj (by omega)) (Nat.le_of_ble_eq_true rfl) (Nat.le_of_ble_eq_true rfl) d_Law_law_0 (fun q0 => ?_)
    refine J_dup X d_Law_law_3 rfl ?_
    refine J_callI (n := 0) (S := Nat → Nat) (wc := [(q0, .inr (5, [.null, .null, .null]))]) (wr := []) (w1 := fun u : Nat → Nat => wO cI cB cJ cZ (fun k => match k with | 0 => q0 | k => u k) (tO0 z)) X [0] [] rfl rfl rfl rfl rfl (fun _ h => absurd h List.not_mem_nil) [] [.ref q0] (ct_Reader_init l dC dI cI cB cJ cZ q0 n hz) (aw_I awL k_cd_Reader_init) rfl (awL _ k_in_Reader) (awL _ k_ml_Law_9) (awL _ k_im_Reader_init) rfl (by decide +kernel) ⟨(Nat.le_of_ble_eq_true rfl), (Nat.le_of_ble_eq_true rfl)⟩ rfl rfl (Nat.le_of_ble_eq_true rfl) d_Law_law_4 ⟨(Nat.le_of_ble_eq_true rfl), (Nat.le_of_ble_eq_true rfl)⟩ (fun u => ?_)
    obtain ⟨a, ha⟩ : ∃ a : Nat → Nat, a = (fun k => match k with | 0 => q0 | k => u k) := ⟨_, rfl⟩
    refine J_to _ [.ref (a 0)] (wO cI cB cJ cZ a (tO0 z)) rfl (by rw [ha] <;> rfl) (by rw [ha] <;> rfl) ?_
    refine J_astore_n X [(1, .ref (a 0)), (0, .ref b)] d_Law_law_7 rfl (by decide) rfl ?_
    refine J_new (ci := 6) (fs := [.int 0, .null, .int 0, .int 0, .int 0, .int 0, .int 0, .int 0, .int 0, .int 0, .null, .int 0, .int 0, .int 0, .int 0, .null, .null, .null, .null, .int 0, .null, .null, .null, .null, .null, .null, .int 0, .null, .null, .int 0, .null, .null, .null, .null, .null, .int 0, .int 0, .int 0, .int 0, .int 0]) X (fun w h => awL w (in_Model w h)) ty_Model tyk_Model (awL _ k_cl_Law_10) (awL _ k_is_Model) (awL _ k_in_Model) rfl (fun j hj => match j, hj with | 0, _ => rfl | 1, _ => rfl | 2, _ => rfl | 3, _ => rfl | 4, _ => rfl | 5, _ => rfl | 6, _ => rfl | 7, _ => rfl | 8, _ => rfl | 9, _ => rfl | 10, _ => rfl | 11, _ => rfl | 12, _ => rfl | 13, _ => rfl | 14, _ => rfl | 15, _ => rfl | 16, _ => rfl | 17, _ => rfl | 18, _ => rfl | 19, _ => rfl | 20, _ => rfl | 21, _ => rfl | 22, _ => rfl | 23, _ => rfl | 24, _ => rfl | 25, _ => rfl | 26, _ => rfl | 27, _ => rfl | 28, _ => rfl | 29, _ => rfl | 30, _ => rfl | 31, _ => rfl | 32, _ => rfl | 33, _ => rfl | 34, _ => rfl | 35, _ => rfl | 36, _ => rfl | 37, _ => rfl | 38, _ => rfl | 39, _ => rfl | (k + 40), hj => absurd hj (by omega)) (Nat.le_of_ble_eq_true rfl) (Nat.le_of_ble_eq_true rfl) d_Law_law_8 (fun q1 => ?_)
    refine J_dup X d_Law_law_11 rfl ?_
    refine J_callI (n := 0) (S := Nat → Nat) (wc := [(q1, .inr (6, [.int 0, .null, .int 0, .int 0, .int 0, .int 0, .int 0, .int 0, .int 0, .int 0, .null, .int 0, .int 0, .int 0, .int 0, .null, .null, .null, .null, .int 0, .null, .null, .null, .null, .null, .null, .int 0, .null, .null, .int 0, .null, .null, .null, .null, .null, .int 0, .int 0, .int 0, .int 0, .int 0]))]) (wr := wO cI cB cJ cZ a (tO0 z)) (w1 := fun v : Nat → Nat => wM cI cB cJ cZ (fun k => match k with | 0 => q1 | k => v k) w) X [16] [0, 1, 2, 3, 4, 5, 6, 7, 8, 9, 10, 11, 12, 13, 14, 15] rfl rfl rfl rfl rfl (by decide) [] [.ref q1] (ct_Model_init l dC dI cI cB cJ cZ q1 n hw) (aw_I awL k_cd_Model_init) rfl (awL _ k_in_Model) (awL _ k_ml_Law_12) (awL _ k_im_Model_init) rfl (by decide +kernel) ⟨(Nat.le_of_ble_eq_true rfl), (Nat.le_of_ble_eq_true rfl)⟩ rfl rfl (Nat.le_of_ble_eq_true rfl) d_Law_law_12 ⟨(Nat.le_of_ble_eq_true rfl), (Nat.le_of_ble_eq_true rfl)⟩ (fun v => ?_)
    obtain ⟨bb, hbb⟩ : ∃ bb : Nat → Nat, bb = (fun k => match k with | 0 => q1 | k => v k) := ⟨_, rfl⟩
    refine J_to _ [.ref (bb 0)] (wO cI cB cJ cZ a (tO0 z) ++ wM cI cB cJ cZ bb w) rfl (by rw [hbb] <;> rfl) (by rw [hbb] <;> rfl) ?_
    refine J_astore_n X [(2, .ref (bb 0)), (1, .ref (a 0)), (0, .ref b)] d_Law_law_15 rfl (by decide) rfl ?_
    refine J_iconst (v := nI 0) X d_Law_law_16 (by decide) ?_
    refine J_istore_n X [(3, .int (nI 0)), (2, .ref (bb 0)), (1, .ref (a 0)), (0, .ref b)] d_Law_law_17 rfl (by decide) rfl ?_
    refine J_to _ _ (wO cI cB cJ cZ (aU a (a 2, a 5, a 7)) (tO0 z) ++ wM cI cB cJ cZ bb w) rfl rfl rfl ?_
    refine J_widen (36 + (ph (tO0 z) - 96)) (97679 + 2 * (ph (tO0 z) - 96)) (Nat.le_of_ble_eq_true rfl) (Nat.le_of_ble_eq_true rfl) ?_
    exact law_loop l hL dC dI cI cB cJ cZ a bb n I hOK hX hbl hr hlocks X 513 0 0 (a 2, a 5, a 7) (tO0 z) w rfl (by omega) (by omega) hI
  rw [lg_entry_eq]
  exact K0 _ s.heap [] (lv_entry [.ref b] (n := 4) (Nat.le_of_ble_eq_true rfl)) (fun k q h => by simp at h) ⟨fun i j p q h => by simp at h, fun k q h => by simp at h⟩ va_S.rf

/-- a segment's length -/
def lg (B : Nat → Nat) (sz q : Nat) : Except Er Nat := eb (tp B sz (q + 2) q q 0 65535) (fun v => if v < 2 then .error (5, q) else .ok v)
theorem tp_er8 {B : Nat → Nat} {sz ce lp p lo hi : Nat} {e : Er} (h : tp B sz ce lp p lo hi = .error e) : 1 ≤ e.1 ∧ e.1 ≤ 8 := by
  unfold tp at h
  cases h1 : tk B sz ce lp p 0 255 with
  | error e' => rw [h1] at h; cases h; have := (tk_er h1).1; omega
  | ok a =>
    rw [h1] at h
    dsimp only at h
    cases h2 : tk B sz ce lp (p + 1) 0 255 with
    | error e' => rw [h2] at h; cases h; have := (tk_er h2).1; omega
    | ok b =>
      rw [h2] at h
      dsimp only at h
      by_cases c : 256 * a + b < lo ∨ hi < 256 * a + b
      · rw [if_pos c] at h; cases h; exact ⟨by simp, by simp⟩
      · rw [if_neg c] at h; cases h
theorem At.tpE {n : Nat} {B : Nat → Nat} {sz ce lp p : Nat} {t : St} (h : At B sz ce lp p t) (lo hi : Nat) (hlo : lo < 65536) (hhi : hi < 65536) : Ev FP (m_Parser_takePair n (nI lo) (nI hi) t) (tp B sz ce lp p lo hi) (fun v z => z = (nI v, sG t 9 (nI (p + 2))) ∧ p + 2 ≤ sz ∧ p + 2 ≤ ce ∧ v < 65536 ∧ v = 256 * B p + B (p + 1) ∧ lo ≤ v ∧ v ≤ hi) := by
  have hp := h.2.2.2.2.2.1
  have hc := h.2.2.2.2.2.2
  obtain ⟨a1, a2⟩ := O_takePair (n := n) (lo := lo) (hi := hi) h.1 h.2.1 h.2.2.1 h.2.2.2.1 h.2.2.2.2.1 (by omega) (by omega) hlo hhi
  cases h1 : tp B sz ce lp p lo hi with
  | error e =>
    obtain ⟨z, hz, hz2⟩ := a1 e h1
    exact Ev.er ⟨_, hz, rfl, hz2⟩
  | ok v => exact Ev.ok ⟨_, a2 v h1, rfl, tp_ok h1⟩
theorem O_len {n : Nat} {B : Nat → Nat} {sz q : Nat} {t : St} (hI : InO B sz t) (h13 : t.1 13 = 0) (h9 : t.1 9 = nI q) (hq : q < 100000) : Ev Fz (m_Parser_takeLength n t) (lg B sz q) (fun v z => At B sz (q + v) q (q + 2) z ∧ v = 256 * B q + B (q + 1) ∧ 2 ≤ v ∧ v < 65536 ∧ q + 2 ≤ sz) := by
  have hA : At B sz (q + 2) q q (sG (sG t 10 (nI q)) 11 (nI (q + 2))) := ⟨hI, h13, h9, rfl, rfl, by omega, by omega⟩
  unfold m_Parser_takeLength lg
  rw [h9, show (2 : Int32) = nI 2 from rfl, nI_add]
  refine Ev.bind (hA.tpE (n := n) 0 65535 (by omega) (by omega)) ?_ ?_
  · intro z e _ ⟨z1, z2⟩
    rw [z1, if_neg (by decide), O_failF z2.ne, Option.bind_some]
    exact ⟨_, rfl, z2⟩
  · rintro z v - - ⟨rfl, v1, v2, v3, v4, v5, v6⟩
    dsimp only
    by_cases c : v < 2
    · rw [if_pos c, if_neg (show ¬ nI 2 ≤ nI v from nI_ge c (by omega)), O_fail (t := sG (sG (sG t 10 (nI q)) 11 (nI (q + 2))) 9 (nI (q + 2))) h13, Option.bind_some]
      exact Ev.er ⟨_, rfl, rfl, rfl, by simp, by simp⟩
    · rw [if_neg c, if_pos (show nI 2 ≤ nI v from nI_le (by omega) (by omega))]
      refine Ev.ok ⟨_, rfl, ⟨hI, h13, rfl, ?_, rfl, by omega, by omega⟩, v4, by omega, v3, v1⟩
      show nI q + nI v = nI (q + v)
      exact nI_add q v
theorem R_open {n : Nat} {B : Nat → Nat} {sz q : Nat} {u : St} (hI : InM B sz u) (h2 : u.1 2 = 0) (h4 : u.1 4 = nI q) (h5 : u.1 5 = mI) (hq : q ≤ sz) : Ev Gz (m_Model_open n u) (lg B sz q) (fun v w => AtM B sz (q + v) q (q + 2) w) := by
  have hs := hI.2.1
  have e1 := R_nextN (n := n) (B := B) (sz := sz) (p := q) (u := sG u 16 (nI q)) hI h2 h4 h5 hq
  have fin : ∀ e v, Gz e v → ∀ x, ∃ w, (if e.1 2 = 0 then (if (2 : Int32) ≤ x then m_Model_open_35 n x e else (m_Model_wrong n 5 (e.1 16) e).bind (fun z31 => m_Model_open_35 n x z31.2)) else m_Model_open_35 n x e) = some w ∧ Gz w v := by
    intro e v he x
    rw [if_neg he.ne]
    exact ⟨_, rfl, he⟩
  unfold m_Model_open m_Model_two lg tp
  rw [h4, e1, Option.bind_some]
  by_cases c1 : sz ≤ q
  · have t1 : tk B sz (q + 2) q q 0 255 = .error (1, sz) := by unfold tk; rw [if_neg (by omega), if_pos c1]
    rw [t1]
    unfold nx
    rw [if_pos c1]
    have hz : Gz (fM (sG u 16 (nI q)) (1, sz)) (1, sz) := fM_z (Or.inr (Or.inl rfl))
    refine Ev.er ?_
    show ∃ w, (((m_Model_next n (fM (sG u 16 (nI q)) (1, sz))).bind _).bind _) = some w ∧ _
    rw [R_nextF hz, Option.bind_some, Option.bind_some]
    exact fin _ _ hz _
  · have hB := (hI.2.2.2.2 q (by omega)).2
    have t1 : tk B sz (q + 2) q q 0 255 = .ok (B q) := by unfold tk; rw [if_neg (by omega), if_neg c1, if_neg (by omega)]
    rw [t1]
    unfold nx
    rw [if_neg c1]
    have e2 := R_nextN (n := n) (B := B) (sz := sz) (p := q + 1) (u := sG (sG u 16 (nI q)) 4 (nI (q + 1))) hI h2 rfl h5 (by omega)
    show Ev Gz (((m_Model_next n (sG (sG u 16 (nI q)) 4 (nI (q + 1)))).bind _).bind _) _ _
    rw [e2, Option.bind_some, Option.bind_some]
    unfold nx
    dsimp only
    by_cases c2 : sz ≤ q + 1
    · have t2 : tk B sz (q + 2) q (q + 1) 0 255 = .error (1, sz) := by unfold tk; rw [if_neg (by omega), if_pos c2]
      rw [t2, if_pos c2]
      have hz : Gz (fM (sG (sG u 16 (nI q)) 4 (nI (q + 1))) (1, sz)) (1, sz) := fM_z (Or.inr (Or.inl rfl))
      exact Ev.er (fin _ _ hz _)
    · have hB2 := (hI.2.2.2.2 (q + 1) (by omega)).2
      have t2 : tk B sz (q + 2) q (q + 1) 0 255 = .ok (B (q + 1)) := by unfold tk; rw [if_neg (by omega), if_neg c2, if_neg (by omega)]
      rw [t2, if_neg c2]
      dsimp only
      rw [if_neg (show ¬ (256 * B q + B (q + 1) < 0 ∨ 65535 < 256 * B q + B (q + 1)) by omega)]
      have ev : (256 : Int32) * (nxM (sG u 16 (nI q)) q (.ok (B q))).1 + (nxM (sG (sG u 16 (nI q)) 4 (nI (q + 1))) (q + 1) (.ok (B (q + 1)))).1 = nI (256 * B q + B (q + 1)) := by
        show (256 : Int32) * nI (B q) + nI (B (q + 1)) = _
        rw [show (256 : Int32) = nI 256 from rfl, pk_mul, nI_add]
      rw [ev]
      show Ev Gz (if (sG (sG (sG u 16 (nI q)) 4 (nI (q + 1))) 4 (nI (q + 1 + 1))).1 2 = 0 then (if (2 : Int32) ≤ nI (256 * B q + B (q + 1)) then m_Model_open_35 n (nI (256 * B q + B (q + 1))) (sG (sG (sG u 16 (nI q)) 4 (nI (q + 1))) 4 (nI (q + 1 + 1))) else (m_Model_wrong n 5 ((sG (sG (sG u 16 (nI q)) 4 (nI (q + 1))) 4 (nI (q + 1 + 1))).1 16) (sG (sG (sG u 16 (nI q)) 4 (nI (q + 1))) 4 (nI (q + 1 + 1)))).bind _) else _) (if 256 * B q + B (q + 1) < 2 then .error (5, q) else .ok (256 * B q + B (q + 1))) _
      rw [if_pos (show (sG (sG (sG u 16 (nI q)) 4 (nI (q + 1))) 4 (nI (q + 1 + 1))).1 2 = 0 from h2)]
      by_cases c : 256 * B q + B (q + 1) < 2
      · rw [if_pos c, if_neg (show ¬ (2 : Int32) ≤ nI (256 * B q + B (q + 1)) from nI_ge (b := 2) c (by omega)), R_wrong (u := sG (sG (sG u 16 (nI q)) 4 (nI (q + 1))) 4 (nI (q + 1 + 1))) h2, Option.bind_some]
        exact Ev.er ⟨_, rfl, rfl, rfl, by simp, by simp⟩
      · rw [if_neg c, if_pos (show (2 : Int32) ≤ nI (256 * B q + B (q + 1)) from nI_le (a := 2) (by omega) (by omega))]
        refine Ev.ok ⟨_, rfl, hI, h2, rfl, ?_, rfl, by omega, by omega, by omega⟩
        show nI q + nI _ = _
        exact nI_add _ _
/-- one number more in the row of segments -/
theorem O_add4 {n k : Nat} {x : Int32} {t : St} (h7 : t.1 7 = nI k) (hk : k < 8000) (hc : k ≤ t.2.2.2 1) (hc1 : 16 ≤ t.2.2.2 1) (hc2 : t.2.2.2 1 ≤ 16384) : ∃ z, m_Numbers_add_4 n x t = some z ∧ z.1 7 = nI (k + 1) ∧ (∀ j, j < k → z.2.1 1 j = t.2.1 1 j) ∧ z.2.1 1 k = x ∧ k + 1 ≤ z.2.2.2 1 ∧ 16 ≤ z.2.2.2 1 ∧ z.2.2.2 1 ≤ 16384 ∧ z.2.2.2 0 = t.2.2.2 0 ∧ z.2.2.2 2 = t.2.2.2 2 := by
  unfold m_Numbers_add_4
  rw [h7]
  by_cases c : k < t.2.2.2 1
  · rw [if_pos (show nI k < Int32.ofNat (t.2.2.2 1) from nI_lt c (by omega))]
    unfold m_Numbers_add_4_29
    rw [h7, if_neg (nI_in (N := t.2.2.2 1) c (by omega)), nI_clamp (by omega)]
    refine ⟨_, rfl, nI_1 k, fun j hj => ?_, ?_, c, hc1, hc2, rfl, rfl⟩
    · show (if j = k then x else t.2.1 1 j) = _
      rw [if_neg (by omega)]
    · show (if k = k then x else t.2.1 1 k) = _
      rw [if_pos rfl]
  · have ek : k = t.2.2.2 1 := by omega
    have e2 : (2 : Int32) * nI k = nI (2 * k) := by rw [show (2 : Int32) = nI 2 from rfl, pk_mul]
    rw [if_neg (show ¬ nI k < Int32.ofNat (t.2.2.2 1) from nI_nlt (a := k) (b := t.2.2.2 1) (by omega) (by omega)), e2, nI_clamp (by omega), if_neg (fun q => q ⟨nI_pos (by omega), fun y => by have := (nI_eq (a := 2 * k) (b := t.2.2.2 1) (by omega) (by omega)).mp y; omega, by omega, by omega, by omega⟩)]
    unfold m_Numbers_add_4_29
    have hin : ¬ (nI k < 0 ∨ 2 * k ≤ (nI k).toNatClampNeg) := nI_in (N := 2 * k) (by omega) (by omega)
    show ∃ z, (if t.1 7 < 0 ∨ 2 * k ≤ (t.1 7).toNatClampNeg then none else some (sG (sH (sA t 1 (2 * k) (va_cpy (t.2.1 1) (fun _ => 0) 0 0 (t.2.2.2 1))) 1 (t.1 7).toNatClampNeg x) 7 (t.1 7 + 1))) = some z ∧ _
    rw [h7, if_neg hin, nI_clamp (by omega)]
    refine ⟨_, rfl, nI_1 k, fun j hj => ?_, ?_, ?_, ?_, ?_, rfl, rfl⟩
    · show (if j = k then x else va_cpy (t.2.1 1) (fun _ => 0) 0 0 (t.2.2.2 1) j) = _
      rw [if_neg (by omega), pk_cpy_in (by omega) (by omega)]
      rw [show 0 + (j - 0) = j by omega]
    · show (if k = k then x else _) = _
      rw [if_pos rfl]
    · show k + 1 ≤ 2 * k; omega
    · show 16 ≤ 2 * k; omega
    · show 2 * k ≤ 16384; omega
theorem O_add6 {n k : Nat} {x : Int32} {t : St} (h8 : t.1 8 = nI k) (hk : k < 8000) (hc : k ≤ t.2.2.2 2) (hc1 : 16 ≤ t.2.2.2 2) (hc2 : t.2.2.2 2 ≤ 16384) : ∃ z, m_Numbers_add_6 n x t = some z ∧ z.1 8 = nI (k + 1) ∧ (∀ j, j < k → z.2.1 2 j = t.2.1 2 j) ∧ z.2.1 2 k = x ∧ k + 1 ≤ z.2.2.2 2 ∧ 16 ≤ z.2.2.2 2 ∧ z.2.2.2 2 ≤ 16384 ∧ z.2.2.2 0 = t.2.2.2 0 ∧ z.2.2.2 1 = t.2.2.2 1 := by
  unfold m_Numbers_add_6
  rw [h8]
  by_cases c : k < t.2.2.2 2
  · rw [if_pos (show nI k < Int32.ofNat (t.2.2.2 2) from nI_lt c (by omega))]
    unfold m_Numbers_add_6_29
    rw [h8, if_neg (nI_in (N := t.2.2.2 2) c (by omega)), nI_clamp (by omega)]
    refine ⟨_, rfl, nI_1 k, fun j hj => ?_, ?_, c, hc1, hc2, rfl, rfl⟩
    · show (if j = k then x else t.2.1 2 j) = _
      rw [if_neg (by omega)]
    · show (if k = k then x else t.2.1 2 k) = _
      rw [if_pos rfl]
  · have ek : k = t.2.2.2 2 := by omega
    have e2 : (2 : Int32) * nI k = nI (2 * k) := by rw [show (2 : Int32) = nI 2 from rfl, pk_mul]
    rw [if_neg (show ¬ nI k < Int32.ofNat (t.2.2.2 2) from nI_nlt (a := k) (b := t.2.2.2 2) (by omega) (by omega)), e2, nI_clamp (by omega), if_neg (fun q => q ⟨nI_pos (by omega), fun y => by have := (nI_eq (a := 2 * k) (b := t.2.2.2 2) (by omega) (by omega)).mp y; omega, by omega, by omega, by omega⟩)]
    unfold m_Numbers_add_6_29
    have hin : ¬ (nI k < 0 ∨ 2 * k ≤ (nI k).toNatClampNeg) := nI_in (N := 2 * k) (by omega) (by omega)
    show ∃ z, (if t.1 8 < 0 ∨ 2 * k ≤ (t.1 8).toNatClampNeg then none else some (sG (sH (sA t 2 (2 * k) (va_cpy (t.2.1 2) (fun _ => 0) 0 0 (t.2.2.2 2))) 2 (t.1 8).toNatClampNeg x) 8 (t.1 8 + 1))) = some z ∧ _
    rw [h8, if_neg hin, nI_clamp (by omega)]
    refine ⟨_, rfl, nI_1 k, fun j hj => ?_, ?_, ?_, ?_, ?_, rfl, rfl⟩
    · show (if j = k then x else va_cpy (t.2.1 2) (fun _ => 0) 0 0 (t.2.2.2 2) j) = _
      rw [if_neg (by omega), pk_cpy_in (by omega) (by omega)]
      rw [show 0 + (j - 0) = j by omega]
    · show (if k = k then x else _) = _
      rw [if_pos rfl]
    · show k + 1 ≤ 2 * k; omega
    · show 16 ≤ 2 * k; omega
    · show 2 * k ≤ 16384; omega
theorem O_addSeg {n k : Nat} {x y : Int32} {t : St} (h7 : t.1 7 = nI k) (hk : k < 7000) (hc : k ≤ t.2.2.2 1) (hc1 : 16 ≤ t.2.2.2 1) (hc2 : t.2.2.2 1 ≤ 16384) : ∃ z, m_Picture_addSegment n x y t = some z ∧ z.1 7 = nI (k + 2) ∧ (∀ j, j < k → z.2.1 1 j = t.2.1 1 j) ∧ z.2.1 1 k = x ∧ z.2.1 1 (k + 1) = y ∧ k + 2 ≤ z.2.2.2 1 ∧ 16 ≤ z.2.2.2 1 ∧ z.2.2.2 1 ≤ 16384 ∧ z.2.2.2 0 = t.2.2.2 0 ∧ z.2.2.2 2 = t.2.2.2 2 := by
  obtain ⟨z1, a0, a1, a2, a3, a4, a5, a6, a7, a8⟩ := O_add4 (n := n) (x := x) h7 (by omega) hc hc1 hc2
  obtain ⟨z2, b0, b1, b2, b3, b4, b5, b6, b7, b8⟩ := O_add4 (n := n) (x := y) a1 (by omega) a4 a5 a6
  refine ⟨z2, ?_, b1, fun j hj => (b2 j (by omega)).trans (a2 j hj), (b2 k (by omega)).trans a3, b3, b4, b5, b6, b7.trans a7, b8.trans a8⟩
  unfold m_Picture_addSegment
  rw [a0, Option.bind_some, b0, Option.bind_some]
theorem O_addScan {n k : Nat} {x1 x2 x3 x4 : Int32} {t : St} (h8 : t.1 8 = nI k) (hk : k < 7000) (hc : k ≤ t.2.2.2 2) (hc1 : 16 ≤ t.2.2.2 2) (hc2 : t.2.2.2 2 ≤ 16384) : ∃ z, m_Picture_addScan n x1 x2 x3 x4 t = some z ∧ z.1 8 = nI (k + 5) ∧ (∀ j, j < k → z.2.1 2 j = t.2.1 2 j) ∧ z.2.1 2 k = x1 ∧ z.2.1 2 (k + 1) = x2 ∧ z.2.1 2 (k + 2) = x3 ∧ z.2.1 2 (k + 3) = x4 ∧ z.2.1 2 (k + 4) = t.1 5 ∧ k + 5 ≤ z.2.2.2 2 ∧ 16 ≤ z.2.2.2 2 ∧ z.2.2.2 2 ≤ 16384 ∧ z.2.2.2 0 = t.2.2.2 0 ∧ z.2.2.2 1 = t.2.2.2 1 := by
  obtain ⟨z1, a0, a1, a2, a3, a4, a5, a6, a7, a8⟩ := O_add6 (n := n) (x := x1) h8 (by omega) hc hc1 hc2
  obtain ⟨z2, b0, b1, b2, b3, b4, b5, b6, b7, b8⟩ := O_add6 (n := n) (x := x2) a1 (by omega) a4 a5 a6
  obtain ⟨z3, c0, c1, c2, c3, c4, c5, c6, c7, c8⟩ := O_add6 (n := n) (x := x3) b1 (by omega) b4 b5 b6
  obtain ⟨z4, d0, d1, d2, d3, d4, d5, d6, d7, d8⟩ := O_add6 (n := n) (x := x4) c1 (by omega) c4 c5 c6
  obtain ⟨z5, e0, e1, e2, e3, e4, e5, e6, e7, e8⟩ := O_add6 (n := n) (x := z4.1 5) d1 (by omega) d4 d5 d6
  have h5 : z4.1 5 = t.1 5 := ((x_Numbers_add_6 d0).1 5 (by decide)).trans (((x_Numbers_add_6 c0).1 5 (by decide)).trans (((x_Numbers_add_6 b0).1 5 (by decide)).trans ((x_Numbers_add_6 a0).1 5 (by decide))))
  refine ⟨z5, ?_, e1, fun j hj => ?_, ?_, ?_, ?_, ?_, e3.trans h5, e4, e5, e6, ?_, ?_⟩
  · unfold m_Picture_addScan
    rw [a0, Option.bind_some, b0, Option.bind_some, c0, Option.bind_some, d0, Option.bind_some, e0, Option.bind_some]
  · rw [e2 j (by omega), d2 j (by omega), c2 j (by omega), b2 j (by omega), a2 j hj]
  · rw [e2 k (by omega), d2 k (by omega), c2 k (by omega), b2 k (by omega), a3]
  · rw [e2 (k + 1) (by omega), d2 (k + 1) (by omega), c2 (k + 1) (by omega), b3]
  · rw [e2 (k + 2) (by omega), d2 (k + 2) (by omega), c3]
  · rw [e2 (k + 3) (by omega), d3]
  · rw [e7, d7, c7, b7, a7]
  · rw [e8, d8, c8, b8, a8]

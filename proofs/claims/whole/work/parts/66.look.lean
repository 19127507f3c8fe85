theorem le_nlt {x y : Int32} (h : y ≤ x) : ¬ x < y := by
  rw [Int32.lt_iff_toInt_lt]
  rw [Int32.le_iff_toInt_le] at h
  omega
theorem neg_ne {x : Int32} {j : Nat} (h : x < 0) (hj : j < 2 ^ 31) : ¬ x = nI j := by
  intro y
  rw [y] at h
  exact nI_pos hj h
theorem big_ne {x : Int32} {j k : Nat} (h : nI k ≤ x) (hj : j < k) (hk : k < 2 ^ 31) : ¬ x = nI j := by
  intro y
  rw [y] at h
  exact nI_ge hj hk h
theorem neg_nle {x : Int32} {k : Nat} (h : x < 0) (hk : k < 2 ^ 31) : ¬ nI k ≤ x := by
  intro y
  have h0 : (0 : Int32).toInt = 0 := by decide
  rw [Int32.lt_iff_toInt_lt] at h
  rw [Int32.le_iff_toInt_le, nI_toInt hk] at y
  omega
theorem big_nneg {x : Int32} {k : Nat} (h : nI k ≤ x) (hk : k < 2 ^ 31) : ¬ x < 0 := by
  intro y
  exact neg_nle y hk h
theorem IV.q {k : Nat} {t u : St} (h : IV k t u) : IV (k + 1) t (sG u 0 0) := by
  obtain ⟨B, sz, i1, i2, i3, ⟨F, hh, ww, iv, ns, nc, qm, wm, sg, sr, q1, q2, q3⟩, i5, i6, i7, i8⟩ := h
  exact ⟨B, sz, i1, i2, by omega, ⟨F, hh, ww, iv, ns, nc, qm, wm, sg, sr, q1, q2.eq (fun k h1 h2 => sG_ne (by omega)) (fun k _ _ => rfl), q3⟩, i5, i6, i7, i8⟩
/-- an answer, the same on both sides, that changes nothing but the reference's sign of a throw -/
def An (o p : Option (Int32 × St)) (t u : St) : Prop := ∃ v, o = some (v, t) ∧ p = some (v, sG u 0 0)
theorem An.iv {k : Nat} {o p : Option (Int32 × St)} {t u : St} (h : An o p t u) (hI : IV k t u) : ∃ z w, o = some z ∧ p = some w ∧ z.1 = w.1 ∧ IV (k + 1) z.2 w.2 := by
  obtain ⟨v, h1, h2⟩ := h
  exact ⟨_, _, h1, h2, rfl, hI.q⟩
theorem look_ok {n k : Nat} {t u : St} {x : Int32} (hI : IV k t u) : An (m_Reader_look n x t) (m_Model_look n x u) t u := by
  obtain ⟨B, sz, i1, i2, i3, ⟨F, hh, ww, iv, ns, nc, qm, wm, sg, sr, ⟨o6, o7, o8, o9, o10, o11, o12, o13, o14⟩, ⟨m6, m7, m8, m9, m10, m11, m12, m13⟩, q3, q4, q5, q6, q7, q8⟩, i5, i6, i7, i8⟩ := hI
  unfold m_Reader_look m_Model_look m_Picture_segmentCount m_Picture_scanCount
  rw [o12.1, o13.1, show (2 : Int32) = nI 2 from rfl, show (5 : Int32) = nI 5 from rfl, pk_div (a := 2 * ns) (d := 2) (by omega) (by omega) (by omega), pk_div (a := 5 * nc) (d := 5) (by omega) (by omega) (by omega), show 2 * ns / 2 = ns by omega, show 5 * nc / 5 = nc by omega, Option.bind_some, Option.bind_some, i5, i6, i7, o9, m9, m12.1, m13.1, i1.1, i2.1]
  by_cases c0 : x = 0
  · rw [if_pos c0, if_pos c0]; exact ⟨_, rfl, rfl⟩
  rw [if_neg c0, if_neg c0]
  by_cases c1 : x = 1
  · rw [if_pos c1, if_pos c1]; exact ⟨_, rfl, rfl⟩
  rw [if_neg c1, if_neg c1]
  by_cases c2 : x = nI 2
  · rw [if_pos c2, if_pos c2]; exact ⟨_, rfl, rfl⟩
  rw [if_neg c2, if_neg c2]
  by_cases c3 : x = 3
  · rw [if_pos c3, if_pos c3]; exact ⟨_, rfl, rfl⟩
  rw [if_neg c3, if_neg c3]
  by_cases c4 : x = 4
  · rw [if_pos c4, if_pos c4]; exact ⟨_, rfl, rfl⟩
  rw [if_neg c4, if_neg c4]
  by_cases c5 : x = nI 5
  · rw [if_pos c5, if_pos c5]; exact ⟨_, rfl, rfl⟩
  rw [if_neg c5, if_neg c5]
  by_cases c6 : x = 6
  · rw [if_pos c6, if_pos c6]; exact ⟨_, rfl, rfl⟩
  rw [if_neg c6, if_neg c6]
  exact ⟨_, rfl, rfl⟩
theorem O_n4 {n ns j : Nat} {t : St} (h7 : t.1 7 = nI (2 * ns)) (hc : 2 * ns ≤ t.2.2.2 1) (hc2 : t.2.2.2 1 ≤ 16384) (hj : j < 2 * ns) : m_Numbers_at_4 n (nI j) t = some (t.2.1 1 j, t) := by
  unfold m_Numbers_at_4
  rw [if_neg (nI_pos (by omega)), h7, if_neg (nI_ge (by omega) (by omega)), if_neg (nI_in (N := t.2.2.2 1) (c := j) (by omega) (by omega)), nI_clamp (by omega)]
theorem O_n6 {n nc j : Nat} {t : St} (h8 : t.1 8 = nI (5 * nc)) (hc : 5 * nc ≤ t.2.2.2 2) (hc2 : t.2.2.2 2 ≤ 16384) (hj : j < 5 * nc) : m_Numbers_at_6 n (nI j) t = some (t.2.1 2 j, t) := by
  unfold m_Numbers_at_6
  rw [if_neg (nI_pos (by omega)), h8, if_neg (nI_ge (by omega) (by omega)), if_neg (nI_in (N := t.2.2.2 2) (c := j) (by omega) (by omega)), nI_clamp (by omega)]
theorem seg_ok {n k : Nat} {t u : St} {x1 x2 : Int32} (hI : IV k t u) : An (m_Reader_segment n x1 x2 t) (m_Model_segment n x1 x2 u) t u := by
  obtain ⟨B, sz, i1, i2, i3, ⟨F, hh, ww, iv, ns, nc, qm, wm, sg, sr, ⟨o6, o7, o8, o9, o10, o11, o12, o13, o14⟩, ⟨m6, m7, m8, m9, m10, m11, m12, m13⟩, q3, q4, q5, q6, q7, q8⟩, i5, i6, i7, i8⟩ := hI
  have hs := i1.2.1
  unfold m_Reader_segment m_Picture_ofSegment m_Model_segment m_Model_segment_26 m_Picture_segmentCount
  rw [o12.1, m12.1, show (2 : Int32) = nI 2 from rfl, pk_div (a := 2 * ns) (d := 2) (by omega) (by omega) (by omega), show 2 * ns / 2 = ns by omega, Option.bind_some]
  rcases pk_ix x1 (n := ns) (by omega) with h | h | ⟨j, hj, rfl⟩
  · rw [if_pos h, if_pos h]; exact ⟨_, rfl, rfl⟩
  · have hn := big_nneg h (by omega)
    rw [if_neg hn, if_neg hn, if_pos h, if_neg (le_nlt h)]; exact ⟨_, rfl, rfl⟩
  · obtain ⟨g1, g2, g3, g4, g5, g6, g7, g8⟩ := m12.2 j hj
    obtain ⟨y1, y2⟩ := o12.2 j hj
    rw [if_neg (nI_pos (n := j) (by omega)), if_neg (nI_pos (n := j) (by omega)), if_neg (nI_ge (a := j) (b := ns) hj (by omega)), if_pos (nI_lt (a := j) (b := ns) hj (by omega)), pk_mul, nI_1, O_n4 (ns := ns) o12.1 o14.1 o14.2.2.1 (show j * 2 + 1 < 2 * ns by omega), Option.bind_some]
    dsimp only
    rw [show j * 2 + 1 = 2 * j + 1 by omega, y2]
    rcases pk_ix x2 (n := 4) (by omega) with h | h | ⟨i, hi, rfl⟩
    · rw [if_pos h, if_neg (show ¬ x2 = 0 from neg_ne (j := 0) h (by omega)), if_neg (show ¬ x2 = 1 from neg_ne (j := 1) h (by omega)), if_neg (neg_ne (j := 2) h (by omega)), if_neg (show ¬ x2 = 3 from neg_ne (j := 3) h (by omega))]
      exact ⟨_, rfl, rfl⟩
    · have h3 : ¬ x2 ≤ 3 := by
        intro y
        have e3 : (3 : Int32).toInt = 3 := by decide
        rw [Int32.le_iff_toInt_le, nI_toInt (by omega)] at h
        rw [Int32.le_iff_toInt_le, e3] at y
        omega
      rw [if_neg (big_nneg h (by omega)), if_neg h3, if_neg (show ¬ x2 = 0 from big_ne (j := 0) h (by omega) (by omega)), if_neg (show ¬ x2 = 1 from big_ne (j := 1) h (by omega) (by omega)), if_neg (big_ne (j := 2) h (by omega) (by omega)), if_neg (show ¬ x2 = 3 from big_ne (j := 3) h (by omega) (by omega))]
      exact ⟨_, rfl, rfl⟩
    · rw [if_neg (nI_pos (n := i) (by omega)), if_pos (show nI i ≤ 3 from nI_le (b := 3) (by omega) (by omega)), show (4 : Int32) = nI 4 from rfl, pk_mul, nI_add, if_neg (nI_in (N := 16384) (c := 4 * j + i) (by omega) (by omega)), nI_clamp (show 4 * j + i < 2 ^ 31 by omega)]
      have hI4 : i = 0 ∨ i = 1 ∨ i = 2 ∨ i = 3 := by omega
      rcases hI4 with rfl | rfl | rfl | rfl
      · rw [if_pos (show nI 0 = 0 from rfl), show (3 : Int32) = nI 3 from rfl, pk_sub (by omega), O_at i1 (by omega), Option.bind_some, Option.bind_some, bt_in (by omega)]
        rw [show 4 * j + 0 = 4 * j from rfl, g1]
        exact ⟨_, rfl, rfl⟩
      · rw [if_neg (show ¬ nI 1 = 0 by decide), if_pos (show nI 1 = 1 from rfl), O_n4 (ns := ns) o12.1 o14.1 o14.2.2.1 (show j * 2 < 2 * ns by omega), Option.bind_some, Option.bind_some, g2, show j * 2 = 2 * j by omega, y1]
        exact ⟨_, rfl, rfl⟩
      · rw [if_neg (show ¬ nI 2 = 0 by decide), if_neg (show ¬ nI 2 = 1 by decide), if_pos rfl, Option.bind_some, g3]
        exact ⟨_, rfl, rfl⟩
      · rw [if_neg (show ¬ nI 3 = 0 by decide), if_neg (show ¬ nI 3 = 1 by decide), if_neg (show ¬ nI 3 = nI 2 by decide), if_pos (show nI 3 = 3 from rfl), pk_sub (show 2 ≤ (sg j).2 by omega), O_at i1 (by omega), Option.bind_some, show (1 : Int32) = nI 1 from rfl, pk_sub (show 1 ≤ (sg j).2 by omega), O_at i1 (by omega), Option.bind_some, Option.bind_some, bt_in (by omega), bt_in (by omega), g4, show (256 : Int32) = nI 256 from rfl]
        dsimp only
        rw [pk_mul, nI_add, pk_sub g8]
        exact ⟨_, rfl, rfl⟩
theorem comp_ok {n k : Nat} {t u : St} {x1 x2 : Int32} (hI : IV k t u) : An (m_Reader_component n x1 x2 t) (m_Model_component n x1 x2 u) t u := by
  obtain ⟨B, sz, i1, i2, i3, ⟨F, hh, ww, iv, ns, nc, qm, wm, sg, sr, ⟨o6, o7, o8, o9, o10, o11, o12, o13, o14⟩, ⟨m6, m7, m8, m9, m10, m11, m12, m13⟩, q3, q4, q5, q6, q7, q8⟩, i5, i6, i7, i8⟩ := hI
  have key : ∃ p0 cnt, cnt ≤ 4 ∧ t.1 4 = nI cnt ∧ u.1 12 = nI cnt ∧ (0 < cnt → PC B p0 (t.2.1 3) cnt ∧ PCM B p0 (u.2.1 2) (u.2.1 3) (u.2.1 4) (u.2.1 5) cnt) := by
    cases F with
    | none => exact ⟨0, 0, by omega, o6.2, m6.2, fun h => absurd h (by omega)⟩
    | some x => exact ⟨x.2.1, x.2.2, o6.2.1.2.1, o6.2.1.1, m6.2.1.1, fun _ => ⟨o6.2.1.2.2, m6.2.1.2.2⟩⟩
  obtain ⟨p0, cnt, hc, h4, h12, hP⟩ := key
  unfold m_Reader_component m_Picture_ofComponent m_Model_component
  rw [h4, h12]
  rcases pk_ix x1 (n := cnt) (by omega) with h | h | ⟨j, hj, rfl⟩
  · rw [if_pos h, if_pos h]; exact ⟨_, rfl, rfl⟩
  · have hn := big_nneg h (by omega)
    rw [if_neg hn, if_neg hn, if_pos h, if_neg (le_nlt h)]; exact ⟨_, rfl, rfl⟩
  · obtain ⟨hA, hM⟩ := hP (by omega)
    obtain ⟨a1, a2, a3, a4, -⟩ := hA j hj
    obtain ⟨b1, b2, b3, b4, -⟩ := hM j hj
    have hin : ¬ (nI j < 0 ∨ 4 ≤ (nI j).toNatClampNeg) := nI_in (N := 4) (c := j) (by omega) (by omega)
    rw [if_neg (nI_pos (n := j) (by omega)), if_neg (nI_pos (n := j) (by omega)), if_neg (nI_ge (a := j) (b := cnt) hj (by omega)), if_pos (nI_lt (a := j) (b := cnt) hj (by omega)), if_neg hin, if_neg hin, if_neg hin, if_neg hin, nI_clamp (show j < 2 ^ 31 by omega)]
    rcases pk_ix x2 (n := 4) (by omega) with h | h | ⟨i, hi, rfl⟩
    · rw [if_pos h, if_neg (show ¬ x2 = 0 from neg_ne (j := 0) h (by omega)), if_neg (show ¬ x2 = 1 from neg_ne (j := 1) h (by omega)), if_neg (show ¬ x2 = 2 from neg_ne (j := 2) h (by omega)), if_neg (show ¬ x2 = 3 from neg_ne (j := 3) h (by omega))]
      exact ⟨_, rfl, rfl⟩
    · rw [if_neg (big_nneg h (by omega)), if_neg (show ¬ x2 < 4 from le_nlt h), if_neg (show ¬ x2 = 0 from big_ne (j := 0) h (by omega) (by omega)), if_neg (show ¬ x2 = 1 from big_ne (j := 1) h (by omega) (by omega)), if_neg (show ¬ x2 = 2 from big_ne (j := 2) h (by omega) (by omega)), if_neg (show ¬ x2 = 3 from big_ne (j := 3) h (by omega) (by omega))]
      exact ⟨_, rfl, rfl⟩
    · rw [if_neg (nI_pos (n := i) (by omega)), if_pos (show nI i < 4 from nI_lt (b := 4) (by omega) (by omega)), show (4 : Int32) = nI 4 from rfl, pk_mul, nI_add, if_neg (nI_in (N := 16) (c := j * 4 + i) (by omega) (by omega)), nI_clamp (show j * 4 + i < 2 ^ 31 by omega), Option.bind_some]
      have hI4 : i = 0 ∨ i = 1 ∨ i = 2 ∨ i = 3 := by omega
      rcases hI4 with rfl | rfl | rfl | rfl
      · rw [if_pos (show nI 0 = 0 from rfl), b1, show j * 4 + 0 = j * 4 from rfl, a1]
        exact ⟨_, rfl, rfl⟩
      · rw [if_neg (show ¬ nI 1 = 0 by decide), if_pos (show nI 1 = 1 from rfl), b2, a2]
        exact ⟨_, rfl, rfl⟩
      · rw [if_neg (show ¬ nI 2 = 0 by decide), if_neg (show ¬ nI 2 = 1 by decide), if_pos (show nI 2 = 2 from rfl), b3, a3]
        exact ⟨_, rfl, rfl⟩
      · rw [if_neg (show ¬ nI 3 = 0 by decide), if_neg (show ¬ nI 3 = 1 by decide), if_neg (show ¬ nI 3 = 2 by decide), if_pos (show nI 3 = 3 from rfl), b4, a4]
        exact ⟨_, rfl, rfl⟩

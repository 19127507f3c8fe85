theorem word_row {n r a : Nat} {B : Nat → Nat} {sz : Nat} {wm : Nat → Option Nat} {t u : St} {x2 x3 : Int32} (hn : 20000 ≤ n) (hI : InO B sz t) (hr : r < 8) (hu : PMW B sz (u.2.1 8) (u.2.1 9) (u.2.1 10) (u.2.1 11) wm) (hm : wm r = some a) : An (if x2 = 0 then (if x3 < (1 : Int32) then m_Picture_ofWords_44 n x2 x3 (nI a) t else if (16 : Int32) < x3 then m_Picture_ofWords_44 n x2 x3 (nI a) t else (m_Bytes_at n ((nI a + x3) - (1 : Int32)) t).bind (fun z40 => some (z40.1, z40.2))) else m_Picture_ofWords_44 n x2 x3 (nI a) t) (m_Model_word_55 n x2 x3 1 (nI r) (sG u 0 0)) t u := by
  have hs := hI.2.1
  have hw := hu r hr
  rw [hm] at hw
  dsimp only at hw
  obtain ⟨h1, h2, h3, h4, h5, h6⟩ := hw
  unfold m_Model_word_55 m_Model_word_104 m_Model_word_142
  have hin : ¬ (nI r < 0 ∨ 8 ≤ (nI r).toNatClampNeg) := nI_in (N := 8) (c := r) (by omega) (by omega)
  rw [if_neg (show ¬ (1 : Int32) = 0 by decide), if_neg hin, if_neg hin, nI_clamp (show r < 2 ^ 31 by omega), show (sG u 0 0).2.1 8 r = 1 from h1, if_neg (show ¬ (1 : Int32) = 0 by decide), show (sG u 0 0).2.1 11 r = nI (sm B a 16) from h4]
  unfold m_Picture_ofWords_44
  by_cases c0 : x2 = 0
  · rw [if_pos c0, if_pos c0, if_neg (show ¬ x2 = 1 by rw [c0]; decide)]
    rcases pk_ix x3 (n := 17) (by omega) with h | h | ⟨l, hl, rfl⟩
    · have h1' : x3 < 1 := by
        have e0 : (0 : Int32).toInt = 0 := by decide
        have e1 : (1 : Int32).toInt = 1 := by decide
        rw [Int32.lt_iff_toInt_lt] at h ⊢
        omega
      rw [if_pos h1', if_pos h1']
      exact ⟨_, rfl, rfl⟩
    · have h1' : ¬ x3 < 1 := by
        have e1 : (1 : Int32).toInt = 1 := by decide
        rw [Int32.lt_iff_toInt_lt]
        rw [Int32.le_iff_toInt_le, nI_toInt (by omega)] at h
        omega
      have h2' : (16 : Int32) < x3 := by
        have e1 : (16 : Int32).toInt = 16 := by decide
        rw [Int32.lt_iff_toInt_lt]
        rw [Int32.le_iff_toInt_le, nI_toInt (by omega)] at h
        omega
      rw [if_neg h1', if_neg h1', if_pos h2', if_pos h2']
      exact ⟨_, rfl, rfl⟩
    · by_cases c : l = 0
      · have h1' : nI l < 1 := nI_lt (b := 1) (by omega) (by omega)
        rw [if_pos h1', if_pos h1']
        exact ⟨_, rfl, rfl⟩
      · have h1' : ¬ nI l < 1 := nI_nlt (b := 1) (by omega) (by omega)
        have h2' : ¬ (16 : Int32) < nI l := nI_nlt (a := 16) (by omega) (by omega)
        rw [if_neg h1', if_neg h1', if_neg h2', if_neg h2', nI_add, show (1 : Int32) = nI 1 from rfl, pk_sub (by omega), O_at hI (by omega), Option.bind_some, bt_in (by omega), show (17 : Int32) = nI 17 from rfl, pk_mul, nI_add, if_neg (nI_in (N := 136) (c := 17 * r + l) (by omega) (by omega)), nI_clamp (show 17 * r + l < 2 ^ 31 by omega)]
        have := h5 (l - 1) (by omega)
        rw [show 17 * r + 1 + (l - 1) = 17 * r + l by omega] at this
        rw [show (sG u 0 0).2.1 9 (17 * r + l) = nI (B (a + (l - 1))) from this, show a + (l - 1) = a + l - 1 by omega]
        exact ⟨_, rfl, rfl⟩
  · rw [if_neg c0, if_neg c0]
    by_cases c1 : x2 = 1
    · rw [if_pos c1, if_pos c1, show m_Picture_wordCount n (nI a) t = some (nI (0 + sm B (a + 1 - 1) 16), t) from O_wc (n := n) hI (by omega) 16 n 1 0 (by omega) (by omega) (by omega), Option.bind_some]
      dsimp only
      rw [Nat.zero_add, show a + 1 - 1 = a by omega]
      rcases pk_ix x3 (n := sm B a 16) (by omega) with h | h | ⟨l, hl, rfl⟩
      · rw [if_pos h, if_pos h]
        exact ⟨_, rfl, rfl⟩
      · have hng := big_nneg h (by omega)
        rw [if_neg hng, if_neg hng, if_pos h, if_pos h]
        exact ⟨_, rfl, rfl⟩
      · rw [if_neg (nI_pos (n := l) (by omega)), if_neg (nI_pos (n := l) (by omega)), if_neg (nI_ge (a := l) (b := sm B a 16) hl (by omega)), if_neg (nI_ge (a := l) (b := sm B a 16) hl (by omega)), show (16 : Int32) = nI 16 from rfl, nI_add, nI_add, O_at hI (by omega), Option.bind_some, bt_in (by omega), show (256 : Int32) = nI 256 from rfl, pk_mul, nI_add, if_neg (nI_in (N := 2048) (c := 256 * r + l) (by omega) (by omega)), nI_clamp (show 256 * r + l < 2 ^ 31 by omega), show (sG u 0 0).2.1 10 (256 * r + l) = nI (B (a + 16 + l)) from h6 l hl]
        exact ⟨_, rfl, rfl⟩
    · rw [if_neg c1, if_neg c1]
      exact ⟨_, rfl, rfl⟩
theorem word_ok {n k : Nat} {t u : St} {x1 x2 x3 : Int32} (hn : 20000 ≤ n) (hI : IV k t u) : An (m_Reader_word n x1 x2 x3 t) (m_Model_word n x1 x2 x3 u) t u := by
  obtain ⟨B, sz, i1, i2, i3, ⟨F, hh, ww, iv, ns, nc, qm, wm, sg, sr, ⟨o6, o7, o8, o9, o10, o11, o12, o13, o14⟩, ⟨m6, m7, m8, m9, m10, m11, m12, m13⟩, q3, q4, q5, q6, q7, q8⟩, i5, i6, i7, i8⟩ := hI
  have e30 : m_Model_word_30 n x1 x2 x3 (sG u 0 0) = some (mI, sG u 0 0) := by
    unfold m_Model_word_30 m_Model_word_31 m_Model_word_55
    rw [if_pos rfl, if_pos rfl]; rfl
  have no : m_Picture_placeOfWords n x1 t = some (mI, t) → m_Model_word n x1 x2 x3 u = some (mI, sG u 0 0) → An (m_Reader_word n x1 x2 x3 t) (m_Model_word n x1 x2 x3 u) t u := by
    intro h1 h2
    rw [h2]
    unfold m_Reader_word m_Picture_ofWords
    rw [h1, Option.bind_some, if_pos (show mI = -1 from rfl)]
    exact ⟨_, rfl, rfl⟩
  have em1 : (if (-1 : Int32) < 0 then m_Picture_placeOfWords_28 n t else if (Int32.ofNat 8) ≤ (-1 : Int32) then m_Picture_placeOfWords_28 n t else if ((-1 : Int32)) < 0 ∨ 8 ≤ ((-1 : Int32)).toNatClampNeg then none else some (((t.2.1 5) ((-1 : Int32)).toNatClampNeg), t)) = some (mI, t) := by
    rw [if_pos (by decide)]; rfl
  rcases pk_ix x1 (n := 20) (by omega) with h | h | ⟨j, hj, rfl⟩
  · have h16 : x1 < 16 := by
      have e0 : (0 : Int32).toInt = 0 := by decide
      have e1 : (16 : Int32).toInt = 16 := by decide
      rw [Int32.lt_iff_toInt_lt] at h ⊢
      omega
    refine no ?_ ?_
    · unfold m_Picture_placeOfWords m_Picture_rowOfWords m_Picture_rowOfWords_11 m_Picture_rowOfWords_30
      rw [if_pos h, if_pos h16, Option.bind_some]
      exact em1
    · unfold m_Model_word m_Model_word_14
      rw [if_pos h, if_pos h16]; exact e30
  · have hn0 := big_nneg h (by omega)
    have h3 : (3 : Int32) < x1 := by
      have e1 : (3 : Int32).toInt = 3 := by decide
      rw [Int32.lt_iff_toInt_lt]
      rw [Int32.le_iff_toInt_le, nI_toInt (by omega)] at h
      omega
    have h4 : ¬ x1 < 4 := by
      have e1 : (4 : Int32).toInt = 4 := by decide
      rw [Int32.lt_iff_toInt_lt]
      rw [Int32.le_iff_toInt_le, nI_toInt (by omega)] at h
      omega
    have h16 : ¬ x1 < 16 := by
      have e1 : (16 : Int32).toInt = 16 := by decide
      rw [Int32.lt_iff_toInt_lt]
      rw [Int32.le_iff_toInt_le, nI_toInt (by omega)] at h
      omega
    have h19 : (19 : Int32) < x1 := by
      have e1 : (19 : Int32).toInt = 19 := by decide
      rw [Int32.lt_iff_toInt_lt]
      rw [Int32.le_iff_toInt_le, nI_toInt (by omega)] at h
      omega
    refine no ?_ ?_
    · unfold m_Picture_placeOfWords m_Picture_rowOfWords m_Picture_rowOfWords_11 m_Picture_rowOfWords_30
      rw [if_neg hn0, if_pos h3, if_neg h16, if_pos h19, Option.bind_some]
      exact em1
    · unfold m_Model_word m_Model_word_14
      rw [if_neg hn0, if_neg h4, if_neg h16, if_pos (show (20 : Int32) ≤ x1 from h)]; exact e30
  · by_cases hmid : 3 < j ∧ j < 16
    · have h3 : (3 : Int32) < nI j := nI_lt (a := 3) (by omega) (by omega)
      have h4 : ¬ nI j < 4 := nI_nlt (b := 4) (by omega) (by omega)
      have h16 : nI j < 16 := nI_lt (b := 16) (by omega) (by omega)
      refine no ?_ ?_
      · unfold m_Picture_placeOfWords m_Picture_rowOfWords m_Picture_rowOfWords_11 m_Picture_rowOfWords_30
        rw [if_neg (nI_pos (n := j) (by omega)), if_pos h3, if_pos h16, Option.bind_some]
        exact em1
      · unfold m_Model_word m_Model_word_14
        rw [if_neg (nI_pos (n := j) (by omega)), if_neg h4, if_pos h16]; exact e30
    · have hr := wrow_lt hj hmid
      have eO : m_Picture_placeOfWords n (nI j) t = some (oI (wm (wrow j)), t) := by
        rw [O_pow hj hmid, o11 _ hr]
      have eM : m_Model_word n (nI j) x2 x3 u = m_Model_word_55 n x2 x3 1 (nI (wrow j)) (sG u 0 0) := by
        have e26 : m_Model_word_26 n (nI j) x2 x3 (sG u 0 0) = m_Model_word_55 n x2 x3 1 (nI (wrow j)) (sG u 0 0) := by
          unfold m_Model_word_26 m_Model_word_31 wrow
          rw [if_neg (show ¬ (1 : Int32) = 0 by decide)]
          by_cases c : j < 4
          · rw [if_neg (show ¬ (4 : Int32) ≤ nI j from nI_ge (b := 4) c (by omega)), if_pos c]
          · rw [if_pos (show (4 : Int32) ≤ nI j from nI_le (a := 4) (by omega) (by omega)), if_neg c, show (12 : Int32) = nI 12 from rfl, pk_sub (by omega)]
        unfold m_Model_word m_Model_word_14
        rw [if_neg (nI_pos (n := j) (by omega)), e26]
        by_cases c : j < 4
        · rw [if_pos (show nI j < 4 from nI_lt (b := 4) c (by omega))]
        · rw [if_neg (show ¬ nI j < 4 from nI_nlt (b := 4) (by omega) (by omega)), if_neg (show ¬ nI j < 16 from nI_nlt (b := 16) (by omega) (by omega)), if_neg (show ¬ (20 : Int32) ≤ nI j from nI_ge (b := 20) hj (by omega))]
      cases hm : wm (wrow j) with
      | none =>
        refine no ?_ ?_
        · rw [eO, hm]; rfl
        · rw [eM]
          have hw := m11 _ hr
          rw [hm] at hw
          dsimp only at hw
          unfold m_Model_word_55
          rw [if_neg (show ¬ (1 : Int32) = 0 by decide), if_neg (nI_in (N := 8) (c := wrow j) hr (by omega)), nI_clamp (show wrow j < 2 ^ 31 by omega), if_pos (show (sG u 0 0).2.1 8 (wrow j) = 0 from hw)]
          rfl
      | some a =>
        have ha := q8 _ a hm
        have := word_row (n := n) (x2 := x2) (x3 := x3) hn i1 hr m11 hm
        rw [eM]
        unfold m_Reader_word m_Picture_ofWords
        rw [eO, hm, Option.bind_some, show oI (some a) = nI a from rfl, if_neg (show ¬ nI a = -1 from fun y => (mI_eq (a := a) (by omega)).mp y.symm)]
        obtain ⟨v, v1, v2⟩ := this
        refine ⟨v, ?_, v2⟩
        dsimp only
        rw [v1, Option.bind_some]

theorem R_at {n p sz : Nat} {B : Nat → Nat} {u : St} (hI : InM B sz u) (hp : p < sz) : m_Model_byteAt n (nI p) u = some (nI (B p), u) := by
  have hs := hI.2.1
  unfold m_Model_byteAt
  rw [if_neg (nI_in (N := 16384) (c := p) (by omega) (by omega)), nI_clamp (by omega), (hI.2.2.2.2 p hp).1]
theorem scan_ok {n k : Nat} {t u : St} {x1 x2 : Int32} (hn : 20000 ≤ n) (hI : IV k t u) : An (m_Reader_scan n x1 x2 t) (m_Model_scan n x1 x2 u) t u := by
  obtain ⟨B, sz, i1, i2, i3, ⟨F, hh, ww, iv, ns, nc, qm, wm, sg, sr, ⟨o6, o7, o8, o9, o10, o11, o12, o13, o14⟩, ⟨m6, m7, m8, m9, m10, m11, m12, m13⟩, q3, q4, q5, q6, q7, q8⟩, i5, i6, i7, i8⟩ := hI
  have hs := i1.2.1
  unfold m_Reader_scan m_Picture_ofScan m_Model_scan m_Picture_scanCount
  rw [o13.1, m13.1, show (5 : Int32) = nI 5 from rfl, pk_div (a := 5 * nc) (d := 5) (by omega) (by omega) (by omega), show 5 * nc / 5 = nc by omega, Option.bind_some]
  rcases pk_ix x1 (n := nc) (by omega) with h | h | ⟨j, hj, rfl⟩
  · rw [if_pos h, if_pos h]; exact ⟨_, rfl, rfl⟩
  · have hng := big_nneg h (by omega)
    rw [if_neg hng, if_neg hng, if_pos h, if_neg (le_nlt h)]; exact ⟨_, rfl, rfl⟩
  · cases F with
    | none => exact absurd (m13.2 j hj) (fun h => h)
    | some y =>
      obtain ⟨cd, p0, cnt⟩ := y
      obtain ⟨cf, ⟨⟨w0, w1, w2, w3, w4, w5, w8, wC⟩, w6, w7⟩, hfn, hc1, hc4, hz1, hz2, hz3, hz4⟩ := m13.2 j hj
      have n5 : ∀ k, k < 5 → m_Numbers_at_6 n (nI (j * 5 + k)) t = some (nI (sr j k), t) := by
        intro k hk
        rw [O_n6 (nc := nc) o13.1 o14.2.2.2.1 o14.2.2.2.2.2 (show j * 5 + k < 5 * nc by omega), show j * 5 + k = 5 * j + k by omega, o13.2 j hj k hk]
      have n0 : m_Numbers_at_6 n (nI j * nI 5) t = some (nI (sr j 0), t) := by rw [pk_mul]; exact n5 0 (by omega)
      have n1 : m_Numbers_at_6 n (nI j * nI 5 + 1) t = some (nI (sr j 1), t) := by rw [pk_mul, nI_1]; exact n5 1 (by omega)
      have n2 : m_Numbers_at_6 n (nI j * nI 5 + 2) t = some (nI (sr j 2), t) := by rw [pk_mul, show (2 : Int32) = nI 2 from rfl, nI_add]; exact n5 2 (by omega)
      have n3 : m_Numbers_at_6 n (nI j * nI 5 + 3) t = some (nI (sr j 3), t) := by rw [pk_mul, show (3 : Int32) = nI 3 from rfl, nI_add]; exact n5 3 (by omega)
      have n4 : m_Numbers_at_6 n (nI j * nI 5 + 4) t = some (nI (sr j 4), t) := by rw [pk_mul, show (4 : Int32) = nI 4 from rfl, nI_add]; exact n5 4 (by omega)
      have hb : ∀ p, p < sz → B p < 256 := fun p hp => (i1.2.2.2.2 p hp).2
      have hb3 := hb (sr j 0 + 3 + 2 * B (sr j 0)) (by omega)
      have e0 : m_Bytes_at n (nI (sr j 0)) t = some (nI (B (sr j 0)), t) := by rw [O_at i1 (by omega), bt_in (by omega)]
      have e1 : m_Bytes_at n ((nI (sr j 0) + (1 : Int32)) + ((2 : Int32) * nI (B (sr j 0)))) t = some (nI (B (sr j 0 + 1 + 2 * B (sr j 0))), t) := by
        rw [nI_1, show (2 : Int32) = nI 2 from rfl, pk_mul, nI_add, O_at i1 (by omega), bt_in (by omega)]
      have e2 : m_Bytes_at n (((nI (sr j 0) + (1 : Int32)) + ((2 : Int32) * nI (B (sr j 0)))) + (1 : Int32)) t = some (nI (B (sr j 0 + 2 + 2 * B (sr j 0))), t) := by
        rw [nI_1, show (2 : Int32) = nI 2 from rfl, pk_mul, nI_add, nI_1, O_at i1 (by omega), bt_in (by omega), show sr j 0 + 1 + 2 * B (sr j 0) + 1 = sr j 0 + 2 + 2 * B (sr j 0) by omega]
      have e3 : m_Bytes_at n (((nI (sr j 0) + (1 : Int32)) + ((2 : Int32) * nI (B (sr j 0)))) + (2 : Int32)) t = some (nI (B (sr j 0 + 3 + 2 * B (sr j 0))), t) := by
        rw [nI_1, show (2 : Int32) = nI 2 from rfl, pk_mul, nI_add, nI_add, O_at i1 (by omega), bt_in (by omega), show sr j 0 + 1 + 2 * B (sr j 0) + 2 = sr j 0 + 3 + 2 * B (sr j 0) by omega]
      rw [if_neg (nI_pos (n := j) (by omega)), if_neg (nI_pos (n := j) (by omega)), if_neg (nI_ge (a := j) (b := nc) hj (by omega)), if_pos (nI_lt (a := j) (b := nc) hj (by omega)), n0, Option.bind_some]
      dsimp only
      rw [e0, Option.bind_some]
      dsimp only
      rcases pk_ix x2 (n := 9) (by omega) with h | h | ⟨i, hi, rfl⟩
      · rw [if_neg (show ¬ 0 ≤ x2 from neg_nle (k := 0) h (by omega)), if_neg (show ¬ x2 = 0 from neg_ne (j := 0) h (by omega)), if_neg (show ¬ x2 = 1 from neg_ne (j := 1) h (by omega)), if_neg (show ¬ x2 = 2 from neg_ne (j := 2) h (by omega)), if_neg (show ¬ x2 = 3 from neg_ne (j := 3) h (by omega)), if_neg (show ¬ x2 = 4 from neg_ne (j := 4) h (by omega)), if_neg (show ¬ x2 = nI 5 from neg_ne (j := 5) h (by omega)), if_neg (show ¬ x2 = 6 from neg_ne (j := 6) h (by omega)), if_neg (show ¬ x2 = 7 from neg_ne (j := 7) h (by omega)), if_neg (show ¬ x2 = 8 from neg_ne (j := 8) h (by omega)), if_neg (show ¬ (16 : Int32) ≤ x2 from neg_nle (k := 16) h (by omega))]
        exact ⟨_, rfl, rfl⟩
      · have hng := big_nneg h (by omega)
        obtain ⟨m, hm, rfl⟩ := nI_of hng
        have hm9 : 9 ≤ m := (nI_leI (by omega) (by omega)).mp h
        have hx0 : ∀ q, q < 9 → ¬ nI m = nI q := fun q hq => nI_ne (by omega) (by omega) (by omega)
        rw [if_pos (show 0 ≤ nI m from nI_pos' (by omega)), if_pos (show (9 : Int32) ≤ nI m from h), if_neg (show ¬ nI m = 0 from hx0 0 (by omega)), if_neg (show ¬ nI m = 1 from hx0 1 (by omega)), if_neg (show ¬ nI m = 2 from hx0 2 (by omega)), if_neg (show ¬ nI m = 3 from hx0 3 (by omega)), if_neg (show ¬ nI m = 4 from hx0 4 (by omega)), if_neg (show ¬ nI m = nI 5 from hx0 5 (by omega)), if_neg (show ¬ nI m = 6 from hx0 6 (by omega)), if_neg (show ¬ nI m = 7 from hx0 7 (by omega)), if_neg (show ¬ nI m = 8 from hx0 8 (by omega))]
        by_cases c16 : 16 ≤ m
        · obtain ⟨i, rfl⟩ : ∃ i, m = i + 16 := ⟨m - 16, by omega⟩
          have es : nI (i + 16) - (16 : Int32) = nI i := by rw [show (16 : Int32) = nI 16 from rfl, pk_sub (by omega)]; rfl
          have ed : nI i / (4 : Int32) = nI (i / 4) := pk_div (d := 4) (by omega) (by omega) (by omega)
          have er : nI i - nI (i / 4) * (4 : Int32) = nI (i % 4) := by
            rw [← ed]; exact pk_rem (d := 4) (by omega) (by omega) (by omega)
          have er2 : nI (i + 16) - nI (i + 16) / (4 : Int32) * (4 : Int32) = nI (i % 4) := by
            have := pk_rem (a := i + 16) (d := 4) (by omega) (by omega) (by omega)
            rw [show (i + 16) % 4 = i % 4 by omega] at this
            exact this
          rw [if_pos (show (16 : Int32) ≤ nI (i + 16) from nI_le (a := 16) (by omega) (by omega)), if_neg (show ¬ nI (i + 16) < 16 from nI_nlt (b := 16) (by omega) (by omega)), es, ed, er2, show (30 : Int32) = nI 30 from rfl, pk_mul, if_neg (nI_in (N := 61440) (c := 30 * j) (by omega) (by omega)), nI_clamp (show 30 * j < 2 ^ 31 by omega), w0]
          unfold m_Picture_ofScanComponent m_Model_scan_76 m_Model_scan_77
          rw [ed, er, if_pos (show (0 : Int32) = 0 from rfl), if_neg (show ¬ (1 : Int32) = 0 by decide)]
          by_cases cc : i / 4 < B (sr j 0)
          · rw [if_pos (nI_lt cc (by omega)), if_neg (nI_ge cc (by omega))]
            have hbn := hb (sr j 0 + 1 + 2 * (i / 4)) (by omega)
            have hbt := hb (sr j 0 + 2 + 2 * (i / 4)) (by omega)
            have eN : m_Bytes_at n ((nI (sr j 0) + (1 : Int32)) + ((2 : Int32) * nI (i / 4))) t = some (nI (B (sr j 0 + 1 + 2 * (i / 4))), t) := by
              rw [nI_1, show (2 : Int32) = nI 2 from rfl, pk_mul, nI_add, O_at i1 (by omega), bt_in (by omega)]
            have eT : m_Bytes_at n (((nI (sr j 0) + (1 : Int32)) + ((2 : Int32) * nI (i / 4))) + (1 : Int32)) t = some (nI (B (sr j 0 + 2 + 2 * (i / 4))), t) := by
              rw [nI_1, show (2 : Int32) = nI 2 from rfl, pk_mul, nI_add, nI_1, O_at i1 (by omega), bt_in (by omega), show sr j 0 + 1 + 2 * (i / 4) + 1 = sr j 0 + 2 + 2 * (i / 4) by omega]
            obtain ⟨c1, c2, c3⟩ := wC (i / 4) cc
            have eI : (30 : Int32) * nI j + (10 : Int32) + nI (i + 16) - (16 : Int32) = nI (30 * j + 10 + i) := by
              rw [show (30 : Int32) = nI 30 from rfl, pk_mul, show (10 : Int32) = nI 10 from rfl, show (16 : Int32) = nI 16 from rfl, nI_add, nI_add, pk_sub (by omega), show 30 * j + 10 + (i + 16) - 16 = 30 * j + 10 + i by omega]
            rw [eI, if_neg (nI_in (N := 61440) (c := 30 * j + 10 + i) (by omega) (by omega)), nI_clamp (show 30 * j + 10 + i < 2 ^ 31 by omega)]
            have h4 : i % 4 = 0 ∨ i % 4 = 1 ∨ i % 4 = 2 ∨ i % 4 = 3 := by omega
            rcases h4 with hr | hr | hr | hr
            · have hpon : m_Picture_placeOfName n (nI (B (sr j 0 + 1 + 2 * (i / 4)))) t = some (nI (cf (i / 4)), t) := by
                rw [O_pon hn o6.2.1.1 o6.2.1.2.1 hbn o6.2.1.2.2.CN]
                have := hfn (i / 4) cc
                dsimp only at this
                rw [this]; rfl
              rw [hr, if_pos (show nI 0 = 0 from rfl), eN, Option.bind_some]
              dsimp only
              rw [hpon, if_neg (show ¬ (3 : Int32) ≤ nI 0 by decide), show 30 * j + 10 + i = 30 * j + 10 + 4 * (i / 4) by omega, show (sG u 0 0).2.1 12 (30 * j + 10 + 4 * (i / 4)) = _ from c1]
              exact ⟨_, rfl, rfl⟩
            · rw [hr, if_neg (show ¬ nI 1 = 0 by decide), if_pos (show nI 1 = 1 from rfl), eT, Option.bind_some]
              dsimp only
              rw [b4 _ hbt, if_neg (show ¬ (3 : Int32) ≤ nI 1 by decide), show 30 * j + 10 + i = 30 * j + 11 + 4 * (i / 4) by omega, show (sG u 0 0).2.1 12 (30 * j + 11 + 4 * (i / 4)) = _ from c2]
              exact ⟨_, rfl, rfl⟩
            · rw [hr, if_neg (show ¬ nI 2 = 0 by decide), if_neg (show ¬ nI 2 = 1 by decide), if_pos (show nI 2 = 2 from rfl), eT, Option.bind_some]
              dsimp only
              rw [b15 _ hbt, if_neg (show ¬ (3 : Int32) ≤ nI 2 by decide), show 30 * j + 10 + i = 30 * j + 12 + 4 * (i / 4) by omega, show (sG u 0 0).2.1 12 (30 * j + 12 + 4 * (i / 4)) = _ from c3]
              exact ⟨_, rfl, rfl⟩
            · rw [hr, if_neg (show ¬ nI 3 = 0 by decide), if_neg (show ¬ nI 3 = 1 by decide), if_neg (show ¬ nI 3 = 2 by decide), if_pos (show (3 : Int32) ≤ nI 3 by decide)]
              exact ⟨_, rfl, rfl⟩
          · rw [if_neg (nI_nlt (by omega) (by omega)), if_pos (nI_le (by omega) (by omega))]
            exact ⟨_, rfl, rfl⟩
        · rw [if_neg (show ¬ (16 : Int32) ≤ nI m from nI_ge (b := 16) (by omega) (by omega)), if_pos (show nI m < 16 from nI_lt (b := 16) (by omega) (by omega))]
          unfold m_Model_scan_76 m_Model_scan_77
          rw [if_pos rfl]
          exact ⟨_, rfl, rfl⟩
      · rw [if_pos (show 0 ≤ nI i from nI_pos' (by omega)), if_neg (show ¬ (9 : Int32) ≤ nI i from nI_ge (b := 9) hi (by omega)), show (30 : Int32) = nI 30 from rfl, pk_mul 30 j, nI_add, if_neg (nI_in (N := 61440) (c := 30 * j + i) (by omega) (by omega)), nI_clamp (show 30 * j + i < 2 ^ 31 by omega)]
        have h9 : i = 0 ∨ i = 1 ∨ i = 2 ∨ i = 3 ∨ i = 4 ∨ i = 5 ∨ i = 6 ∨ i = 7 ∨ i = 8 := by omega
        rcases h9 with rfl | rfl | rfl | rfl | rfl | rfl | rfl | rfl | rfl
        · rw [if_pos (show nI 0 = 0 from rfl), Option.bind_some, show u.2.1 12 (30 * j + 0) = nI (B (sr j 0)) from w0]
          exact ⟨_, rfl, rfl⟩
        · rw [if_neg (show ¬ nI 1 = 0 by decide), if_pos (show nI 1 = 1 from rfl), e1, Option.bind_some, Option.bind_some, show u.2.1 12 (30 * j + 1) = _ from w1]
          exact ⟨_, rfl, rfl⟩
        · rw [if_neg (show ¬ nI 2 = 0 by decide), if_neg (show ¬ nI 2 = 1 by decide), if_pos (show nI 2 = 2 from rfl), e2, Option.bind_some, Option.bind_some, show u.2.1 12 (30 * j + 2) = _ from w2]
          exact ⟨_, rfl, rfl⟩
        · rw [if_neg (show ¬ nI 3 = 0 by decide), if_neg (show ¬ nI 3 = 1 by decide), if_neg (show ¬ nI 3 = 2 by decide), if_pos (show nI 3 = 3 from rfl), e3, Option.bind_some, Option.bind_some, b4 _ hb3, show u.2.1 12 (30 * j + 3) = _ from w3]
          exact ⟨_, rfl, rfl⟩
        · rw [if_neg (show ¬ nI 4 = 0 by decide), if_neg (show ¬ nI 4 = 1 by decide), if_neg (show ¬ nI 4 = 2 by decide), if_neg (show ¬ nI 4 = 3 by decide), if_pos (show nI 4 = 4 from rfl), e3, Option.bind_some, Option.bind_some, b15 _ hb3, show u.2.1 12 (30 * j + 4) = _ from w4]
          exact ⟨_, rfl, rfl⟩
        · rw [if_neg (show ¬ nI 5 = 0 by decide), if_neg (show ¬ nI 5 = 1 by decide), if_neg (show ¬ nI 5 = 2 by decide), if_neg (show ¬ nI 5 = 3 by decide), if_neg (show ¬ nI 5 = 4 by decide), if_pos (show nI 5 = nI 5 from rfl), n1, Option.bind_some, Option.bind_some, show u.2.1 12 (30 * j + 5) = _ from w5]
          exact ⟨_, rfl, rfl⟩
        · rw [if_neg (show ¬ nI 6 = 0 by decide), if_neg (show ¬ nI 6 = 1 by decide), if_neg (show ¬ nI 6 = 2 by decide), if_neg (show ¬ nI 6 = 3 by decide), if_neg (show ¬ nI 6 = 4 by decide), if_neg (show ¬ nI 6 = nI 5 by decide), if_pos (show nI 6 = 6 from rfl), n2, Option.bind_some, Option.bind_some, show u.2.1 12 (30 * j + 6) = _ from w6]
          exact ⟨_, rfl, rfl⟩
        · rw [if_neg (show ¬ nI 7 = 0 by decide), if_neg (show ¬ nI 7 = 1 by decide), if_neg (show ¬ nI 7 = 2 by decide), if_neg (show ¬ nI 7 = 3 by decide), if_neg (show ¬ nI 7 = 4 by decide), if_neg (show ¬ nI 7 = nI 5 by decide), if_neg (show ¬ nI 7 = 6 by decide), if_pos (show nI 7 = 7 from rfl), n3, Option.bind_some, Option.bind_some, show u.2.1 12 (30 * j + 7) = _ from w7]
          exact ⟨_, rfl, rfl⟩
        · rw [if_neg (show ¬ nI 8 = 0 by decide), if_neg (show ¬ nI 8 = 1 by decide), if_neg (show ¬ nI 8 = 2 by decide), if_neg (show ¬ nI 8 = 3 by decide), if_neg (show ¬ nI 8 = 4 by decide), if_neg (show ¬ nI 8 = nI 5 by decide), if_neg (show ¬ nI 8 = 6 by decide), if_neg (show ¬ nI 8 = 7 by decide), if_pos (show nI 8 = 8 from rfl), n4, Option.bind_some, Option.bind_some, show u.2.1 12 (30 * j + 8) = _ from w8]
          exact ⟨_, rfl, rfl⟩

theorem data_loop {n sz e : Nat} {B : Nat → Nat} {t u : St} (hI : InO B sz t) (hM : InM B sz u) (he : e + 2 ≤ sz) : ∀ (m f p k : Nat), e ≤ p + m → m < f → p ≤ e + 2 → k < 2 ^ 31 → ∃ v, m_Picture_dataByte_50 n f (nI p) (nI e) (nI k) t = some (v, t) ∧ m_Model_data_54 n f (nI p) (nI e) (nI k) u = some (v, u) := by
  have hs := hI.2.1
  intro m
  induction m with
  | zero =>
    intro f p k h1 h2 h3 h4
    obtain ⟨f, rfl⟩ : ∃ q, f = q + 1 := ⟨f - 1, by omega⟩
    show ∃ v, m_Picture_dataByte_50b n (m_Picture_dataByte_50 n f) (nI p) (nI e) (nI k) t = some (v, t) ∧ m_Model_data_54b n (m_Model_data_54 n f) (nI p) (nI e) (nI k) u = some (v, u)
    unfold m_Picture_dataByte_50b m_Model_data_54b
    rw [if_pos (nI_le (by omega) (by omega)), if_pos (nI_le (by omega) (by omega))]
    exact ⟨_, rfl, rfl⟩
  | succ m ih =>
    intro f p k h1 h2 h3 h4
    obtain ⟨f, rfl⟩ : ∃ q, f = q + 1 := ⟨f - 1, by omega⟩
    show ∃ v, m_Picture_dataByte_50b n (m_Picture_dataByte_50 n f) (nI p) (nI e) (nI k) t = some (v, t) ∧ m_Model_data_54b n (m_Model_data_54 n f) (nI p) (nI e) (nI k) u = some (v, u)
    unfold m_Picture_dataByte_50b m_Model_data_54b
    by_cases c : e ≤ p
    · rw [if_pos (nI_le (by omega) (by omega)), if_pos (nI_le (by omega) (by omega))]
      exact ⟨_, rfl, rfl⟩
    · have hB := (hI.2.2.2.2 p (by omega)).2
      have hB1 := (hI.2.2.2.2 (p + 1) (by omega)).2
      rw [if_neg (nI_ge (by omega) (by omega)), if_neg (nI_ge (by omega) (by omega)), O_at hI (by omega), bt_in (by omega), R_at hM (by omega), Option.bind_some, Option.bind_some]
      dsimp only
      -- a byte that counts
      have cnt : ∀ (d : Nat) (x6 : Int32), (d = 1 ∧ x6 = 0 ∧ B p ≠ 255 ∨ d = 2 ∧ x6 = 1 ∧ B p = 255) → ∃ v, m_Picture_dataByte_91 n (m_Picture_dataByte_50 n f) (nI p) (nI e) (nI k) (nI (B p)) t = some (v, t) ∧ m_Model_data_97 n (m_Model_data_54 n f) (nI p) (nI e) (nI k) x6 u = some (v, u) := by
        intro d x6 hd
        unfold m_Picture_dataByte_91 m_Picture_dataByte_92 m_Picture_dataByte_107 m_Picture_dataByte_119 m_Picture_dataByte_136 m_Model_data_97 m_Model_data_98 m_Model_data_119 m_Model_data_130
        rw [if_pos rfl, if_pos rfl, if_pos rfl]
        by_cases c0 : k = 0
        · rw [if_pos (show nI k = 0 by rw [c0]; rfl), if_pos (show nI k = 0 by rw [c0]; rfl), R_at hM (by omega), Option.bind_some]
          exact ⟨_, rfl, rfl⟩
        · obtain ⟨k', rfl⟩ : ∃ q, k = q + 1 := ⟨k - 1, by omega⟩
          rw [if_neg (show ¬ nI (k' + 1) = 0 from nI_ne0 (by omega) (by omega)), if_neg (show ¬ nI (k' + 1) = 0 from nI_ne0 (by omega) (by omega)), nI_pred, pk_m1]
          rcases hd with ⟨-, hx, hb⟩ | ⟨-, hx, hb⟩
          · rw [if_neg (show ¬ nI (B p) = 255 from nI_ne (b := 255) (by omega) (by omega) hb), if_pos hx, nI_1]
            exact ih f (p + 1) k' (by omega) (by omega) (by omega) (by omega)
          · rw [if_pos (show nI (B p) = 255 by rw [hb]; rfl), if_neg (show ¬ x6 = 0 by rw [hx]; decide), show (2 : Int32) = nI 2 from rfl, nI_add]
            exact ih f (p + 2) k' (by omega) (by omega) (by omega) (by omega)
      by_cases c2 : B p = 255
      · rw [if_pos (show nI (B p) = 255 by rw [c2]; rfl), if_pos (show nI (B p) = 255 by rw [c2]; rfl)]
        unfold m_Model_data_76
        rw [if_neg (show ¬ (1 : Int32) = 0 by decide), nI_1, O_at hI (by omega), bt_in (by omega), R_at hM (by omega), Option.bind_some, Option.bind_some]
        dsimp only
        by_cases c3 : B (p + 1) = 0
        · rw [if_pos (show nI (B (p + 1)) = 0 by rw [c3]; rfl), if_pos (show nI (B (p + 1)) ≤ 0 by rw [c3]; decide)]
          exact cnt 2 1 (Or.inr ⟨rfl, rfl, c2⟩)
        · rw [if_neg (nI_ne0 (n := B (p + 1)) (by omega) (by omega)), if_neg (nI_nle (n := B (p + 1)) (by omega) (by omega))]
          unfold m_Picture_dataByte_92 m_Picture_dataByte_107 m_Picture_dataByte_119 m_Picture_dataByte_136 m_Model_data_98 m_Model_data_119 m_Model_data_130
          rw [if_neg (show ¬ (1 : Int32) = 0 by decide), if_neg (show ¬ (1 : Int32) = 0 by decide), if_neg (show ¬ (1 : Int32) = 0 by decide), if_neg (show ¬ (1 : Int32) = 0 by decide), if_pos (show nI (B p) = 255 by rw [c2]; rfl), show (2 : Int32) = nI 2 from rfl, nI_add, show nI k - (0 : Int32) = nI k from pk_sub (b := 0) (by omega)]
          exact ih f (p + 2) k (by omega) (by omega) (by omega) h4
      · rw [if_neg (show ¬ nI (B p) = 255 from nI_ne (b := 255) (by omega) (by omega) c2), if_neg (show ¬ nI (B p) = 255 from nI_ne (b := 255) (by omega) (by omega) c2)]
        unfold m_Model_data_76
        rw [if_pos rfl]
        exact cnt 1 0 (Or.inl ⟨rfl, rfl, c2⟩)
theorem data_ok {n k : Nat} {t u : St} {x1 x2 : Int32} (hn : 20000 ≤ n) (hI : IV k t u) : An (m_Reader_data n x1 x2 t) (m_Model_data n x1 x2 u) t u := by
  obtain ⟨B, sz, i1, i2, i3, ⟨F, hh, ww, iv, ns, nc, qm, wm, sg, sr, ⟨o6, o7, o8, o9, o10, o11, o12, o13, o14⟩, ⟨m6, m7, m8, m9, m10, m11, m12, m13⟩, q3, q4, q5, q6, q7, q8⟩, i5, i6, i7, i8⟩ := hI
  have hs := i1.2.1
  unfold m_Reader_data m_Picture_dataByte m_Model_data m_Picture_scanCount
  rw [o13.1, m13.1, show (5 : Int32) = nI 5 from rfl, pk_div (a := 5 * nc) (d := 5) (by omega) (by omega) (by omega), show 5 * nc / 5 = nc by omega, Option.bind_some]
  rcases pk_ix x1 (n := nc) (by omega) with h | h | ⟨j, hj, rfl⟩
  · rw [if_pos h, if_pos h]; exact ⟨_, rfl, rfl⟩
  · have hng := big_nneg h (by omega)
    rw [if_neg hng, if_neg hng, if_pos h, if_pos h]; exact ⟨_, rfl, rfl⟩
  · cases F with
    | none => exact absurd (m13.2 j hj) (fun h => h)
    | some y =>
      obtain ⟨cf, ⟨⟨w0, w1, w2, w3, w4, w5, w8, wC⟩, w6, w7⟩, hfn, hc1, hc4, hz1, hz2, hz3, hz4⟩ := m13.2 j hj
      have n5 : ∀ k, k < 5 → m_Numbers_at_6 n (nI (j * 5 + k)) t = some (nI (sr j k), t) := by
        intro k hk
        rw [O_n6 (nc := nc) o13.1 o14.2.2.2.1 o14.2.2.2.2.2 (show j * 5 + k < 5 * nc by omega), show j * 5 + k = 5 * j + k by omega, o13.2 j hj k hk]
      have n1 : m_Numbers_at_6 n (nI j * nI 5 + 1) t = some (nI (sr j 1), t) := by rw [pk_mul, nI_1]; exact n5 1 (by omega)
      have n2 : m_Numbers_at_6 n (nI j * nI 5 + 2) t = some (nI (sr j 2), t) := by rw [pk_mul, show (2 : Int32) = nI 2 from rfl, nI_add]; exact n5 2 (by omega)
      rw [if_neg (nI_pos (n := j) (by omega)), if_neg (nI_pos (n := j) (by omega)), if_neg (nI_ge (a := j) (b := nc) hj (by omega)), if_neg (nI_ge (a := j) (b := nc) hj (by omega))]
      by_cases c : 0 ≤ x2
      · obtain ⟨m, hm, rfl⟩ := nI_of (le_nlt c)
        rw [if_pos c, if_pos c, n1, Option.bind_some]
        dsimp only
        rw [n2, Option.bind_some, show (30 : Int32) = nI 30 from rfl, show (6 : Int32) = nI 6 from rfl, pk_mul 30 j, nI_add (30 * j) 5, nI_add (30 * j) 6, if_neg (nI_in (N := 61440) (c := 30 * j + 5) (by omega) (by omega)), if_neg (nI_in (N := 61440) (c := 30 * j + 6) (by omega) (by omega)), nI_clamp (show 30 * j + 5 < 2 ^ 31 by omega), nI_clamp (show 30 * j + 6 < 2 ^ 31 by omega), w5, w6]
        dsimp only
        rw [nI_add]
        obtain ⟨v, v1, v2⟩ := data_loop (n := n) (sz := sz) (e := sr j 1 + sr j 2) (B := B) (t := t) (u := sG u 0 0) i1 i2 hz2 (sr j 2) n (sr j 1) m (by omega) (by omega) (by omega) hm
        rw [v1, v2, Option.bind_some]
        exact ⟨_, rfl, rfl⟩
      · rw [if_neg c, if_neg c]
        exact ⟨_, rfl, rfl⟩

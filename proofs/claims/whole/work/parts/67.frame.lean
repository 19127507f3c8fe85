/-- the greatest of some numbers -/
def gr (g : Nat → Nat) : Nat → Nat → Nat → Nat
  | 0, _, a => a
  | m + 1, j, a => gr g m (j + 1) (if g j ≤ a then a else g j)
theorem O_gr {n cnt w : Nat} {g : Nat → Nat} {t : St} (h4 : t.1 4 = nI cnt) (hc : cnt ≤ 4) (hw : w < 4) (hg : ∀ j, j < cnt → t.2.1 3 (j * 4 + w) = nI (g j) ∧ g j < 256) : ∀ (m f j a : Nat), j + m = cnt → m < f → a < 256 → m_Picture_greatest_4 n f (nI w) (nI a) (nI j) t = some (nI (gr g m j a), t) := by
  intro m
  induction m with
  | zero =>
    intro f j a hj hf ha
    obtain ⟨f, rfl⟩ : ∃ q, f = q + 1 := ⟨f - 1, by omega⟩
    show m_Picture_greatest_4b n (m_Picture_greatest_4 n f) (nI w) (nI a) (nI j) t = _
    unfold m_Picture_greatest_4b
    rw [h4, if_pos (nI_le (by omega) (by omega))]
    rfl
  | succ m ih =>
    intro f j a hj hf ha
    obtain ⟨f, rfl⟩ : ∃ q, f = q + 1 := ⟨f - 1, by omega⟩
    obtain ⟨g1, g2⟩ := hg j (by omega)
    show m_Picture_greatest_4b n (m_Picture_greatest_4 n f) (nI w) (nI a) (nI j) t = some (nI (gr g m (j + 1) (if g j ≤ a then a else g j)), t)
    unfold m_Picture_greatest_4b
    rw [h4, if_neg (nI_ge (by omega) (by omega)), O_ofC h4 hc (by omega) hw, Option.bind_some]
    dsimp only
    rw [g1, nI_1]
    by_cases c : g j ≤ a
    · rw [if_pos c, if_neg (nI_nlt c (by omega))]
      exact ih f (j + 1) a (by omega) (by omega) ha
    · rw [if_neg c, if_pos (nI_lt (by omega) (by omega))]
      exact ih f (j + 1) (g j) (by omega) (by omega) g2
theorem R_gr {n cnt : Nat} {x1 : Int32} {g h : Nat → Nat} {u : St} (h12 : u.1 12 = nI cnt) (hc : cnt ≤ 4) (hg : ∀ j, j < cnt → u.2.1 3 j = nI (g j) ∧ g j < 256 ∧ u.2.1 4 j = nI (h j) ∧ h j < 256) : ∀ (m f j a b : Nat), j + m = cnt → m < f → a < 256 → b < 256 → m_Model_frame_21 n f x1 (nI a) (nI b) (nI j) u = m_Model_frame_21 n 1 x1 (nI (gr g m j a)) (nI (gr h m j b)) (nI cnt) u := by
  intro m
  induction m with
  | zero =>
    intro f j a b hj hf ha hb
    obtain ⟨f, rfl⟩ : ∃ q, f = q + 1 := ⟨f - 1, by omega⟩
    have e : j = cnt := by omega
    subst e
    show m_Model_frame_21b n (m_Model_frame_21 n f) x1 (nI a) (nI b) (nI j) u = m_Model_frame_21b n (m_Model_frame_21 n 0) x1 (nI a) (nI b) (nI j) u
    unfold m_Model_frame_21b
    rw [h12, if_pos (nI_le (by omega) (by omega)), if_pos (nI_le (by omega) (by omega))]
  | succ m ih =>
    intro f j a b hj hf ha hb
    obtain ⟨f, rfl⟩ : ∃ q, f = q + 1 := ⟨f - 1, by omega⟩
    obtain ⟨g1, g2, g3, g4⟩ := hg j (by omega)
    have hin : ¬ (nI j < 0 ∨ 4 ≤ (nI j).toNatClampNeg) := nI_in (N := 4) (c := j) (by omega) (by omega)
    have e52 : ∀ y, m_Model_frame_52 n (m_Model_frame_21 n f) x1 (nI b) (nI j) y u = m_Model_frame_21 n f x1 y (nI (if h j ≤ b then b else h j)) (nI (j + 1)) u := by
      intro y
      unfold m_Model_frame_52 m_Model_frame_75
      rw [if_neg hin, if_neg hin, nI_clamp (show j < 2 ^ 31 by omega), g3, nI_1]
      by_cases c : h j ≤ b
      · rw [if_pos c, if_pos (nI_le c (by omega))]
      · rw [if_neg c, if_neg (nI_ge (by omega) (by omega))]
    show m_Model_frame_21b n (m_Model_frame_21 n f) x1 (nI a) (nI b) (nI j) u = m_Model_frame_21 n 1 x1 (nI (gr g m (j + 1) (if g j ≤ a then a else g j))) (nI (gr h m (j + 1) (if h j ≤ b then b else h j))) (nI cnt) u
    unfold m_Model_frame_21b
    rw [h12, if_neg (nI_ge (by omega) (by omega)), if_neg hin, if_neg hin, nI_clamp (show j < 2 ^ 31 by omega), g1, e52, e52]
    have hb' : (if h j ≤ b then b else h j) < 256 := by
      by_cases c : h j ≤ b
      · rw [if_pos c]; exact hb
      · rw [if_neg c]; exact g4
    by_cases c : g j ≤ a
    · rw [if_pos c, if_pos (nI_le c (by omega))]
      exact ih f (j + 1) a _ (by omega) (by omega) ha hb'
    · rw [if_neg c, if_neg (nI_ge (by omega) (by omega))]
      exact ih f (j + 1) (g j) _ (by omega) (by omega) g2 hb'
theorem frame_ok {n k : Nat} {t u : St} {x : Int32} (hn : 20000 ≤ n) (hI : IV k t u) : An (m_Reader_frame n x t) (m_Model_frame n x u) t u := by
  obtain ⟨B, sz, i1, i2, i3, ⟨F, hh, ww, iv, ns, nc, qm, wm, sg, sr, ⟨o6, o7, o8, o9, o10, o11, o12, o13, o14⟩, ⟨m6, m7, m8, m9, m10, m11, m12, m13⟩, q3, q4, q5, q6, q7, q8⟩, i5, i6, i7, i8⟩ := hI
  unfold m_Reader_frame m_Picture_ofFrame m_Model_frame
  cases F with
  | none =>
    rw [if_pos (show t.1 1 = -1 from o6.1), if_pos (show u.1 9 = 0 from m6.1)]
    exact ⟨_, rfl, rfl⟩
  | some y =>
    obtain ⟨cd, p0, cnt⟩ := y
    obtain ⟨f1, ⟨f2, f5, f6⟩, f3, f4⟩ := o6
    obtain ⟨g1, ⟨g2, g6, g7⟩, ⟨g8, g9, g10⟩, g4, g5⟩ := m6
    have hcd : cd = 192 ∨ cd = 194 := f3
    rw [if_neg (show ¬ t.1 1 = -1 from fun y => by rw [f1] at y; exact (mI_eq (a := cd) (by omega)).mp y.symm), if_neg (show ¬ u.1 9 = 0 from fun y => by rw [g1] at y; exact nI_ne0 (by omega) (by omega) y)]
    have hbb : ∀ j, j < cnt → B (p0 + 3 * j + 1) / 16 < 256 ∧ B (p0 + 3 * j + 1) % 16 < 256 := fun j hj => by
      have := g10 j hj
      omega
    have eO1 : m_Picture_greatest n 1 t = some (nI (gr (fun j => B (p0 + 3 * j + 1) / 16) cnt 0 0), t) := O_gr (n := n) (w := 1) f2 f5 (by omega) (fun j hj => ⟨(f6 j hj).2.1, (hbb j hj).1⟩) cnt n 0 0 (by omega) (by omega) (by omega)
    have eO2 : m_Picture_greatest n 2 t = some (nI (gr (fun j => B (p0 + 3 * j + 1) % 16) cnt 0 0), t) := O_gr (n := n) (w := 2) f2 f5 (by omega) (fun j hj => ⟨(f6 j hj).2.2.1, (hbb j hj).2⟩) cnt n 0 0 (by omega) (by omega) (by omega)
    have eM : m_Model_frame_21 n n x 0 0 0 (sG u 0 0) = m_Model_frame_21 n 1 x (nI (gr (fun j => B (p0 + 3 * j + 1) / 16) cnt 0 0)) (nI (gr (fun j => B (p0 + 3 * j + 1) % 16) cnt 0 0)) (nI cnt) (sG u 0 0) := R_gr (n := n) (u := sG u 0 0) g2 f5 (fun j hj => ⟨(g7 j hj).2.1, (hbb j hj).1, (g7 j hj).2.2.1, (hbb j hj).2⟩) cnt n 0 0 0 (by omega) (by omega) (by omega) (by omega)
    rw [eM, eO1, eO2, Option.bind_some, Option.bind_some]
    show An _ (m_Model_frame_21b n (m_Model_frame_21 n 0) x _ _ (nI cnt) (sG u 0 0)) t u
    unfold m_Model_frame_21b
    rw [show (sG u 0 0).1 12 = nI cnt from g2, if_pos (nI_le (Nat.le_refl cnt) (by omega)), show (sG u 0 0).1 9 = nI cd from g1, show (sG u 0 0).1 10 = nI ww from m7, show (sG u 0 0).1 11 = nI hh from m8, f1, f2, o7, o8]
    by_cases c0 : x = 0
    · rw [if_pos c0, if_pos c0]; exact ⟨_, rfl, rfl⟩
    rw [if_neg c0, if_neg c0]
    by_cases c1 : x = 1
    · rw [if_pos c1, if_pos c1]; exact ⟨_, rfl, rfl⟩
    rw [if_neg c1, if_neg c1]
    by_cases c2 : x = 2
    · rw [if_pos c2, if_pos c2]; exact ⟨_, rfl, rfl⟩
    rw [if_neg c2, if_neg c2]
    by_cases c3 : x = 3
    · rw [if_pos c3, if_pos c3]; exact ⟨_, rfl, rfl⟩
    rw [if_neg c3, if_neg c3]
    by_cases c4 : x = 4
    · rw [if_pos c4, if_pos c4]; exact ⟨_, rfl, rfl⟩
    rw [if_neg c4, if_neg c4]
    by_cases c5 : x = 5
    · rw [if_pos c5, if_pos c5]; exact ⟨_, rfl, rfl⟩
    rw [if_neg c5, if_neg c5]
    exact ⟨_, rfl, rfl⟩
theorem and3 : ∀ s, s < 4 → nI s &&& (3 : Int32) = nI s := by decide
theorem quant_ok {n k : Nat} {t u : St} {x1 x2 : Int32} (hI : IV k t u) : An (m_Reader_quantiser n x1 x2 t) (m_Model_quantiser n x1 x2 u) t u := by
  obtain ⟨B, sz, i1, i2, i3, ⟨F, hh, ww, iv, ns, nc, qm, wm, sg, sr, ⟨o6, o7, o8, o9, o10, o11, o12, o13, o14⟩, ⟨m6, m7, m8, m9, m10, m11, m12, m13⟩, q3, q4, q5, q6, q7, q8⟩, i5, i6, i7, i8⟩ := hI
  have hs := i1.2.1
  have e39 : m_Model_quantiser_39 n x1 x2 (sG u 0 0) = some (mI, sG u 0 0) := by
    unfold m_Model_quantiser_39 m_Model_quantiser_40
    rw [if_pos rfl]; rfl
  unfold m_Reader_quantiser m_Picture_quantiserValue m_Model_quantiser
  rcases pk_ix x1 (n := 4) (by omega) with h | h | ⟨j, hj, rfl⟩
  · unfold m_Picture_hasQuantisers m_Picture_hasQuantisers_27
    rw [if_pos h, if_pos h, Option.bind_some, if_pos rfl, e39]; exact ⟨_, rfl, rfl⟩
  · have hn := big_nneg h (by omega)
    unfold m_Picture_hasQuantisers m_Picture_hasQuantisers_27
    rw [if_neg hn, if_neg hn, if_pos (show Int32.ofNat 4 ≤ x1 from h), if_pos (show (4 : Int32) ≤ x1 from h), Option.bind_some, if_pos rfl, e39]; exact ⟨_, rfl, rfl⟩
  · rw [O_hasQ hj o10 q7, Option.bind_some, if_neg (nI_pos (n := j) (by omega)), if_neg (show ¬ (4 : Int32) ≤ nI j from nI_ge (b := 4) hj (by omega)), and3 j hj, if_neg (nI_in (N := 4) (c := j) hj (by omega)), if_neg (nI_in (N := 4) (c := j) hj (by omega)), nI_clamp (show j < 2 ^ 31 by omega), e39]
    dsimp only
    have hq := m10 j hj
    have ho := o10 j hj
    cases hm : qm j with
    | none =>
      rw [hm] at hq
      dsimp only at hq
      rw [if_pos (show (if (none : Option Nat) = none then (0 : Int32) else 1) = 0 by rw [if_pos rfl]), hq, if_pos rfl]
      by_cases c : x2 < 0
      · rw [if_pos c]; exact ⟨_, rfl, rfl⟩
      · rw [if_neg c, ite_self]; exact ⟨_, rfl, rfl⟩
    | some a =>
      rw [hm] at hq ho
      dsimp only at hq
      obtain ⟨h1, h2, h3⟩ := hq
      rw [if_neg (show ¬ (if (some a : Option Nat) = none then (0 : Int32) else 1) = 0 by rw [if_neg (by simp)]; decide), h1, if_neg (show ¬ (1 : Int32) = 0 by decide), ho]
      rcases pk_ix x2 (n := 64) (by omega) with h | h | ⟨i, hi, rfl⟩
      · rw [if_pos h, if_pos h]; exact ⟨_, rfl, rfl⟩
      · have hn := big_nneg h (by omega)
        rw [if_neg hn, if_neg hn, if_pos (show (64 : Int32) ≤ x2 from h), if_neg (show ¬ x2 < 64 from le_nlt h)]; exact ⟨_, rfl, rfl⟩
      · rw [if_neg (nI_pos (n := i) (by omega)), if_neg (nI_pos (n := i) (by omega)), if_neg (show ¬ (64 : Int32) ≤ nI i from nI_ge (b := 64) hi (by omega)), if_pos (show nI i < 64 from nI_lt (b := 64) hi (by omega)), show oI (some a) = nI a from rfl, nI_add, O_at i1 (by omega), Option.bind_some, Option.bind_some, bt_in (by omega)]
        unfold m_Model_quantiser_40
        rw [if_neg (show ¬ (1 : Int32) = 0 by decide), show (64 : Int32) = nI 64 from rfl, pk_mul, nI_add, if_neg (nI_in (N := 256) (c := 64 * j + i) (by omega) (by omega)), nI_clamp (show 64 * j + i < 2 ^ 31 by omega), show (sG u 0 0).2.1 7 (64 * j + i) = nI (B (a + i)) from h3 i hi]
        exact ⟨_, rfl, rfl⟩
theorem O_wc {n a sz : Nat} {B : Nat → Nat} {t : St} (hI : InO B sz t) (ha : a + 16 ≤ sz) : ∀ (m f l tot : Nat), l + m = 17 → 1 ≤ l → m < f → m_Picture_wordCount_4 n f (nI a) (nI tot) (nI l) t = some (nI (tot + sm B (a + l - 1) m), t) := by
  have hs := hI.2.1
  intro m
  induction m with
  | zero =>
    intro f l tot hl h1 hf
    obtain ⟨f, rfl⟩ : ∃ q, f = q + 1 := ⟨f - 1, by omega⟩
    show m_Picture_wordCount_4b n (m_Picture_wordCount_4 n f) (nI a) (nI tot) (nI l) t = _
    unfold m_Picture_wordCount_4b
    rw [if_pos (show (16 : Int32) < nI l from nI_lt (a := 16) (by omega) (by omega))]
    rfl
  | succ m ih =>
    intro f l tot hl h1 hf
    obtain ⟨f, rfl⟩ : ∃ q, f = q + 1 := ⟨f - 1, by omega⟩
    show m_Picture_wordCount_4b n (m_Picture_wordCount_4 n f) (nI a) (nI tot) (nI l) t = some (nI (tot + (B (a + l - 1) + sm B (a + l - 1 + 1) m)), t)
    unfold m_Picture_wordCount_4b
    rw [if_neg (show ¬ (16 : Int32) < nI l from nI_nlt (b := l) (a := 16) (by omega) (by omega)), nI_add, show (1 : Int32) = nI 1 from rfl, pk_sub (by omega), O_at hI (by omega), Option.bind_some]
    dsimp only
    rw [bt_in (by omega), nI_add, nI_add]
    have := ih f (l + 1) (tot + B (a + l - 1)) (by omega) (by omega) (by omega)
    rw [show a + (l + 1) - 1 = a + l - 1 + 1 by omega, show tot + B (a + l - 1) + sm B (a + l - 1 + 1) m = tot + (B (a + l - 1) + sm B (a + l - 1 + 1) m) by omega] at this
    exact this

theorem fl_9 {n : Nat} : ∀ (m f k : Nat) (t : St), k + m = 4 → m < f → (∀ j, j < k → t.2.1 4 j = mI) → ∃ z, m_Arrays_fillI_9_5 n f (-1) (nI k) (Int32.ofNat 4) t = some z ∧ z.1 = t.1 ∧ z.2.2 = t.2.2 ∧ (∀ q, q ≠ 4 → z.2.1 q = t.2.1 q) ∧ ∀ j, j < 4 → z.2.1 4 j = mI := by
  intro m
  induction m with
  | zero =>
    intro f k t hk hf h
    obtain ⟨f, rfl⟩ : ∃ g, f = g + 1 := ⟨f - 1, by omega⟩
    refine ⟨t, ?_, rfl, rfl, fun q _ => rfl, fun j hj => h j (by omega)⟩
    show m_Arrays_fillI_9_5b n (m_Arrays_fillI_9_5 n f) (-1) (nI k) (Int32.ofNat 4) t = _
    unfold m_Arrays_fillI_9_5b
    rw [if_pos (show Int32.ofNat 4 ≤ nI k from nI_le (a := 4) (by omega) (by omega))]
  | succ m ih =>
    intro f k t hk hf h
    obtain ⟨f, rfl⟩ : ∃ g, f = g + 1 := ⟨f - 1, by omega⟩
    obtain ⟨z, z1, z2, z3, z4, z5⟩ := ih f (k + 1) (sH t 4 k (-1)) (by omega) (by omega) (fun j hj => by
      rw [sH_at]
      show (if j = k then _ else _) = mI
      by_cases c : j = k
      · rw [if_pos c]; rfl
      · rw [if_neg c]; exact h j (by omega))
    refine ⟨z, ?_, z2, z3, fun q hq => (z4 q hq).trans (sH_ne hq), z5⟩
    show m_Arrays_fillI_9_5b n (m_Arrays_fillI_9_5 n f) (-1) (nI k) (Int32.ofNat 4) t = _
    unfold m_Arrays_fillI_9_5b
    rw [if_neg (show ¬ Int32.ofNat 4 ≤ nI k from nI_ge (b := 4) (by omega) (by omega)), if_neg (nI_in (N := 4) (c := k) (by omega) (by omega)), nI_clamp (show k < 2 ^ 31 by omega), nI_1]
    exact z1
theorem fi_9 {n : Nat} {t : St} (hn : 20000 ≤ n) : ∃ z, m_Arrays_fillI_9 n (-1) t = some z ∧ z.1 = t.1 ∧ z.2.2 = t.2.2 ∧ (∀ q, q ≠ 4 → z.2.1 q = t.2.1 q) ∧ ∀ j, j < 4 → z.2.1 4 j = mI := fl_9 4 n 0 t (by omega) (by omega) (fun j hj => absurd hj (by omega))
theorem fl_10 {n : Nat} : ∀ (m f k : Nat) (t : St), k + m = 8 → m < f → (∀ j, j < k → t.2.1 5 j = mI) → ∃ z, m_Arrays_fillI_10_5 n f (-1) (nI k) (Int32.ofNat 8) t = some z ∧ z.1 = t.1 ∧ z.2.2 = t.2.2 ∧ (∀ q, q ≠ 5 → z.2.1 q = t.2.1 q) ∧ ∀ j, j < 8 → z.2.1 5 j = mI := by
  intro m
  induction m with
  | zero =>
    intro f k t hk hf h
    obtain ⟨f, rfl⟩ : ∃ g, f = g + 1 := ⟨f - 1, by omega⟩
    refine ⟨t, ?_, rfl, rfl, fun q _ => rfl, fun j hj => h j (by omega)⟩
    show m_Arrays_fillI_10_5b n (m_Arrays_fillI_10_5 n f) (-1) (nI k) (Int32.ofNat 8) t = _
    unfold m_Arrays_fillI_10_5b
    rw [if_pos (show Int32.ofNat 8 ≤ nI k from nI_le (a := 8) (by omega) (by omega))]
  | succ m ih =>
    intro f k t hk hf h
    obtain ⟨f, rfl⟩ : ∃ g, f = g + 1 := ⟨f - 1, by omega⟩
    obtain ⟨z, z1, z2, z3, z4, z5⟩ := ih f (k + 1) (sH t 5 k (-1)) (by omega) (by omega) (fun j hj => by
      rw [sH_at]
      show (if j = k then _ else _) = mI
      by_cases c : j = k
      · rw [if_pos c]; rfl
      · rw [if_neg c]; exact h j (by omega))
    refine ⟨z, ?_, z2, z3, fun q hq => (z4 q hq).trans (sH_ne hq), z5⟩
    show m_Arrays_fillI_10_5b n (m_Arrays_fillI_10_5 n f) (-1) (nI k) (Int32.ofNat 8) t = _
    unfold m_Arrays_fillI_10_5b
    rw [if_neg (show ¬ Int32.ofNat 8 ≤ nI k from nI_ge (b := 8) (by omega) (by omega)), if_neg (nI_in (N := 8) (c := k) (by omega) (by omega)), nI_clamp (show k < 2 ^ 31 by omega), nI_1]
    exact z1
theorem fi_10 {n : Nat} {t : St} (hn : 20000 ≤ n) : ∃ z, m_Arrays_fillI_10 n (-1) t = some z ∧ z.1 = t.1 ∧ z.2.2 = t.2.2 ∧ (∀ q, q ≠ 5 → z.2.1 q = t.2.1 q) ∧ ∀ j, j < 8 → z.2.1 5 j = mI := fl_10 8 n 0 t (by omega) (by omega) (fun j hj => absurd hj (by omega))
theorem fl_14 {n : Nat} : ∀ (m f k : Nat) (t : St), k + m = 256 → m < f → (∀ j, j < k → t.2.1 7 j = mI) → ∃ z, m_Arrays_fillI_14_5 n f (-1) (nI k) (Int32.ofNat 256) t = some z ∧ z.1 = t.1 ∧ z.2.2 = t.2.2 ∧ (∀ q, q ≠ 7 → z.2.1 q = t.2.1 q) ∧ ∀ j, j < 256 → z.2.1 7 j = mI := by
  intro m
  induction m with
  | zero =>
    intro f k t hk hf h
    obtain ⟨f, rfl⟩ : ∃ g, f = g + 1 := ⟨f - 1, by omega⟩
    refine ⟨t, ?_, rfl, rfl, fun q _ => rfl, fun j hj => h j (by omega)⟩
    show m_Arrays_fillI_14_5b n (m_Arrays_fillI_14_5 n f) (-1) (nI k) (Int32.ofNat 256) t = _
    unfold m_Arrays_fillI_14_5b
    rw [if_pos (show Int32.ofNat 256 ≤ nI k from nI_le (a := 256) (by omega) (by omega))]
  | succ m ih =>
    intro f k t hk hf h
    obtain ⟨f, rfl⟩ : ∃ g, f = g + 1 := ⟨f - 1, by omega⟩
    obtain ⟨z, z1, z2, z3, z4, z5⟩ := ih f (k + 1) (sH t 7 k (-1)) (by omega) (by omega) (fun j hj => by
      rw [sH_at]
      show (if j = k then _ else _) = mI
      by_cases c : j = k
      · rw [if_pos c]; rfl
      · rw [if_neg c]; exact h j (by omega))
    refine ⟨z, ?_, z2, z3, fun q hq => (z4 q hq).trans (sH_ne hq), z5⟩
    show m_Arrays_fillI_14_5b n (m_Arrays_fillI_14_5 n f) (-1) (nI k) (Int32.ofNat 256) t = _
    unfold m_Arrays_fillI_14_5b
    rw [if_neg (show ¬ Int32.ofNat 256 ≤ nI k from nI_ge (b := 256) (by omega) (by omega)), if_neg (nI_in (N := 256) (c := k) (by omega) (by omega)), nI_clamp (show k < 2 ^ 31 by omega), nI_1]
    exact z1
theorem fi_14 {n : Nat} {t : St} (hn : 20000 ≤ n) : ∃ z, m_Arrays_fillI_14 n (-1) t = some z ∧ z.1 = t.1 ∧ z.2.2 = t.2.2 ∧ (∀ q, q ≠ 7 → z.2.1 q = t.2.1 q) ∧ ∀ j, j < 256 → z.2.1 7 j = mI := fl_14 256 n 0 t (by omega) (by omega) (fun j hj => absurd hj (by omega))
theorem fl_6P {n : Nat} : ∀ (m f k : Nat) (t : St), k + m = 4 → m < f → (∀ j, j < k → t.2.1 4 j = mI) → ∃ z, m_Arrays_fillI_6P_5 n f (-1) (nI k) (Int32.ofNat 4) t = some z ∧ z.1 = t.1 ∧ z.2.2 = t.2.2 ∧ (∀ q, q ≠ 4 → z.2.1 q = t.2.1 q) ∧ ∀ j, j < 4 → z.2.1 4 j = mI := by
  intro m
  induction m with
  | zero =>
    intro f k t hk hf h
    obtain ⟨f, rfl⟩ : ∃ g, f = g + 1 := ⟨f - 1, by omega⟩
    refine ⟨t, ?_, rfl, rfl, fun q _ => rfl, fun j hj => h j (by omega)⟩
    show m_Arrays_fillI_6P_5b n (m_Arrays_fillI_6P_5 n f) (-1) (nI k) (Int32.ofNat 4) t = _
    unfold m_Arrays_fillI_6P_5b
    rw [if_pos (show Int32.ofNat 4 ≤ nI k from nI_le (a := 4) (by omega) (by omega))]
  | succ m ih =>
    intro f k t hk hf h
    obtain ⟨f, rfl⟩ : ∃ g, f = g + 1 := ⟨f - 1, by omega⟩
    obtain ⟨z, z1, z2, z3, z4, z5⟩ := ih f (k + 1) (sH t 4 k (-1)) (by omega) (by omega) (fun j hj => by
      rw [sH_at]
      show (if j = k then _ else _) = mI
      by_cases c : j = k
      · rw [if_pos c]; rfl
      · rw [if_neg c]; exact h j (by omega))
    refine ⟨z, ?_, z2, z3, fun q hq => (z4 q hq).trans (sH_ne hq), z5⟩
    show m_Arrays_fillI_6P_5b n (m_Arrays_fillI_6P_5 n f) (-1) (nI k) (Int32.ofNat 4) t = _
    unfold m_Arrays_fillI_6P_5b
    rw [if_neg (show ¬ Int32.ofNat 4 ≤ nI k from nI_ge (b := 4) (by omega) (by omega)), if_neg (nI_in (N := 4) (c := k) (by omega) (by omega)), nI_clamp (show k < 2 ^ 31 by omega), nI_1]
    exact z1
theorem fi_6P {n : Nat} {t : St} (hn : 20000 ≤ n) : ∃ z, m_Arrays_fillI_6P n (-1) t = some z ∧ z.1 = t.1 ∧ z.2.2 = t.2.2 ∧ (∀ q, q ≠ 4 → z.2.1 q = t.2.1 q) ∧ ∀ j, j < 4 → z.2.1 4 j = mI := fl_6P 4 n 0 t (by omega) (by omega) (fun j hj => absurd hj (by omega))
theorem fl_7P {n : Nat} : ∀ (m f k : Nat) (t : St), k + m = 8 → m < f → (∀ j, j < k → t.2.1 5 j = mI) → ∃ z, m_Arrays_fillI_7P_5 n f (-1) (nI k) (Int32.ofNat 8) t = some z ∧ z.1 = t.1 ∧ z.2.2 = t.2.2 ∧ (∀ q, q ≠ 5 → z.2.1 q = t.2.1 q) ∧ ∀ j, j < 8 → z.2.1 5 j = mI := by
  intro m
  induction m with
  | zero =>
    intro f k t hk hf h
    obtain ⟨f, rfl⟩ : ∃ g, f = g + 1 := ⟨f - 1, by omega⟩
    refine ⟨t, ?_, rfl, rfl, fun q _ => rfl, fun j hj => h j (by omega)⟩
    show m_Arrays_fillI_7P_5b n (m_Arrays_fillI_7P_5 n f) (-1) (nI k) (Int32.ofNat 8) t = _
    unfold m_Arrays_fillI_7P_5b
    rw [if_pos (show Int32.ofNat 8 ≤ nI k from nI_le (a := 8) (by omega) (by omega))]
  | succ m ih =>
    intro f k t hk hf h
    obtain ⟨f, rfl⟩ : ∃ g, f = g + 1 := ⟨f - 1, by omega⟩
    obtain ⟨z, z1, z2, z3, z4, z5⟩ := ih f (k + 1) (sH t 5 k (-1)) (by omega) (by omega) (fun j hj => by
      rw [sH_at]
      show (if j = k then _ else _) = mI
      by_cases c : j = k
      · rw [if_pos c]; rfl
      · rw [if_neg c]; exact h j (by omega))
    refine ⟨z, ?_, z2, z3, fun q hq => (z4 q hq).trans (sH_ne hq), z5⟩
    show m_Arrays_fillI_7P_5b n (m_Arrays_fillI_7P_5 n f) (-1) (nI k) (Int32.ofNat 8) t = _
    unfold m_Arrays_fillI_7P_5b
    rw [if_neg (show ¬ Int32.ofNat 8 ≤ nI k from nI_ge (b := 8) (by omega) (by omega)), if_neg (nI_in (N := 8) (c := k) (by omega) (by omega)), nI_clamp (show k < 2 ^ 31 by omega), nI_1]
    exact z1
theorem fi_7P {n : Nat} {t : St} (hn : 20000 ≤ n) : ∃ z, m_Arrays_fillI_7P n (-1) t = some z ∧ z.1 = t.1 ∧ z.2.2 = t.2.2 ∧ (∀ q, q ≠ 5 → z.2.1 q = t.2.1 q) ∧ ∀ j, j < 8 → z.2.1 5 j = mI := fl_7P 8 n 0 t (by omega) (by omega) (fun j hj => absurd hj (by omega))
theorem rl_83 {n : Nat} (hn : 20000 ≤ n) : ∀ (m f k : Nat) (t : St), k + m = 256 → m < f → (∀ j, j < k → t.2.1 13 j = mI) → ∃ z, m_Model_forget_83 n f (nI k) t = some z ∧ z.1 = t.1 ∧ z.2.2 = t.2.2 ∧ (∀ q, q ≠ 13 → z.2.1 q = t.2.1 q) ∧ ∀ j, j < 256 → z.2.1 13 j = mI := by
  intro m
  induction m with
  | zero =>
    intro f k t hk hf h
    obtain ⟨f, rfl⟩ : ∃ g, f = g + 1 := ⟨f - 1, by omega⟩
    refine ⟨t, ?_, rfl, rfl, fun q _ => rfl, fun j hj => h j (by omega)⟩
    show m_Model_forget_83b n (m_Model_forget_83 n f) (nI k) t = _
    unfold m_Model_forget_83b
    rw [if_pos (show (256 : Int32) ≤ nI k from nI_le (a := 256) (by omega) (by omega))]
    all_goals rfl
  | succ m ih =>
    intro f k t hk hf h
    obtain ⟨f, rfl⟩ : ∃ g, f = g + 1 := ⟨f - 1, by omega⟩
    obtain ⟨z, z1, z2, z3, z4, z5⟩ := ih f (k + 1) (sH t 13 k mI) (by omega) (by omega) (fun j hj => by
      rw [sH_at]
      show (if j = k then _ else _) = mI
      by_cases c : j = k
      · rw [if_pos c]
      · rw [if_neg c]; exact h j (by omega))
    refine ⟨z, ?_, z2, z3, fun q hq => (z4 q hq).trans (sH_ne hq), z5⟩
    show m_Model_forget_83b n (m_Model_forget_83 n f) (nI k) t = _
    unfold m_Model_forget_83b
    rw [if_neg (show ¬ (256 : Int32) ≤ nI k from nI_ge (b := 256) (by omega) (by omega)), if_neg (nI_in (N := 256) (c := k) (by omega) (by omega)), nI_clamp (show k < 2 ^ 31 by omega), nI_1]
    exact z1
theorem rl_62 {n : Nat} (hn : 20000 ≤ n) : ∀ (m f k : Nat) (t : St), k + m = 8 → m < f → (∀ j, j < k → t.2.1 8 j = 0) → ∃ z, m_Model_forget_62 n f (nI k) t = m_Model_forget_83 n n (nI 0) z ∧ z.1 = t.1 ∧ z.2.2 = t.2.2 ∧ (∀ q, q ≠ 8 → z.2.1 q = t.2.1 q) ∧ ∀ j, j < 8 → z.2.1 8 j = 0 := by
  intro m
  induction m with
  | zero =>
    intro f k t hk hf h
    obtain ⟨f, rfl⟩ : ∃ g, f = g + 1 := ⟨f - 1, by omega⟩
    refine ⟨t, ?_, rfl, rfl, fun q _ => rfl, fun j hj => h j (by omega)⟩
    show m_Model_forget_62b n (m_Model_forget_62 n f) (nI k) t = _
    unfold m_Model_forget_62b
    rw [if_pos (show (8 : Int32) ≤ nI k from nI_le (a := 8) (by omega) (by omega))]
    all_goals rfl
  | succ m ih =>
    intro f k t hk hf h
    obtain ⟨f, rfl⟩ : ∃ g, f = g + 1 := ⟨f - 1, by omega⟩
    obtain ⟨z, z1, z2, z3, z4, z5⟩ := ih f (k + 1) (sH t 8 k 0) (by omega) (by omega) (fun j hj => by
      rw [sH_at]
      show (if j = k then _ else _) = 0
      by_cases c : j = k
      · rw [if_pos c]
      · rw [if_neg c]; exact h j (by omega))
    refine ⟨z, ?_, z2, z3, fun q hq => (z4 q hq).trans (sH_ne hq), z5⟩
    show m_Model_forget_62b n (m_Model_forget_62 n f) (nI k) t = _
    unfold m_Model_forget_62b
    rw [if_neg (show ¬ (8 : Int32) ≤ nI k from nI_ge (b := 8) (by omega) (by omega)), if_neg (nI_in (N := 8) (c := k) (by omega) (by omega)), nI_clamp (show k < 2 ^ 31 by omega), nI_1, nar0]
    exact z1
theorem rl_42 {n : Nat} (hn : 20000 ≤ n) : ∀ (m f k : Nat) (t : St), k + m = 4 → m < f → (∀ j, j < k → t.2.1 6 j = 0) → ∃ z, m_Model_forget_42 n f (nI k) t = m_Model_forget_62 n n (nI 0) z ∧ z.1 = t.1 ∧ z.2.2 = t.2.2 ∧ (∀ q, q ≠ 6 → z.2.1 q = t.2.1 q) ∧ ∀ j, j < 4 → z.2.1 6 j = 0 := by
  intro m
  induction m with
  | zero =>
    intro f k t hk hf h
    obtain ⟨f, rfl⟩ : ∃ g, f = g + 1 := ⟨f - 1, by omega⟩
    refine ⟨t, ?_, rfl, rfl, fun q _ => rfl, fun j hj => h j (by omega)⟩
    show m_Model_forget_42b n (m_Model_forget_42 n f) (nI k) t = _
    unfold m_Model_forget_42b
    rw [if_pos (show (4 : Int32) ≤ nI k from nI_le (a := 4) (by omega) (by omega))]
    all_goals rfl
  | succ m ih =>
    intro f k t hk hf h
    obtain ⟨f, rfl⟩ : ∃ g, f = g + 1 := ⟨f - 1, by omega⟩
    obtain ⟨z, z1, z2, z3, z4, z5⟩ := ih f (k + 1) (sH t 6 k 0) (by omega) (by omega) (fun j hj => by
      rw [sH_at]
      show (if j = k then _ else _) = 0
      by_cases c : j = k
      · rw [if_pos c]
      · rw [if_neg c]; exact h j (by omega))
    refine ⟨z, ?_, z2, z3, fun q hq => (z4 q hq).trans (sH_ne hq), z5⟩
    show m_Model_forget_42b n (m_Model_forget_42 n f) (nI k) t = _
    unfold m_Model_forget_42b
    rw [if_neg (show ¬ (4 : Int32) ≤ nI k from nI_ge (b := 4) (by omega) (by omega)), if_neg (nI_in (N := 4) (c := k) (by omega) (by omega)), nI_clamp (show k < 2 ^ 31 by omega), nI_1, nar0]
    exact z1
abbrev nq : Nat → Option Nat := fun _ => none
theorem O_clear {n : Nat} {B : Nat → Nat} {t : St} (hn : 20000 ≤ n) (hc : CpO 0 0 t) : ∃ z, m_Picture_clear n t = some z ∧ PO B none 0 0 0 0 0 nq nq (fun _ => (0, 0)) (fun _ _ => 0) z ∧ z.1 6 = mI := by
  obtain ⟨z, z1, z2, z3, z4, z5⟩ := fi_9 (n := n) (t := sG (sG t 7 0) 8 0) hn
  obtain ⟨y, y1, y2, y3, y4, y5⟩ := fi_10 (n := n) (t := z) hn
  refine ⟨sG (sG (sG (sG (sG (sG y 1 (-1)) 2 0) 3 0) 4 0) 5 0) 6 (-1), ?_, ⟨⟨rfl, rfl⟩, rfl, rfl, rfl, ?_, ?_, ⟨?_, fun i hi => absurd hi (by omega)⟩, ⟨?_, fun i hi => absurd hi (by omega)⟩, ?_⟩, rfl⟩
  · unfold m_Picture_clear
    rw [z1, Option.bind_some, y1, Option.bind_some]
  · intro j hj
    show y.2.1 4 j = mI
    rw [y4 4 (by decide)]; exact z5 j hj
  · intro j hj
    exact y5 j hj
  · show y.1 7 = _
    rw [y2, z2]; rfl
  · show y.1 8 = _
    rw [y2, z2]; rfl
  · have e : (sG (sG (sG (sG (sG (sG y 1 (-1)) 2 0) 3 0) 4 0) 5 0) 6 (-1)).2.2.2 = t.2.2.2 := by
      show y.2.2.2 = _
      rw [y3, z3]; rfl
    exact hc.eq e
theorem R_forget {n : Nat} {B : Nat → Nat} {sz : Nat} {u : St} (hn : 20000 ≤ n) : ∃ w, m_Model_forget n u = some w ∧ PM B sz none 0 0 0 0 0 nq nq (fun _ => (0, 0)) (fun _ _ => 0) w ∧ w.1 7 = mI ∧ PL (w.2.1 13) nq := by
  obtain ⟨a, a1, a2, a3, a4, a5⟩ := rl_42 (n := n) hn 4 n 0 (sG (sG (sG (sG (sG (sG (sG (sG u 7 (-1)) 8 0) 9 0) 10 0) 11 0) 12 0) 13 0) 14 0) (by omega) (by omega) (fun j hj => absurd hj (by omega))
  obtain ⟨b, b1, b2, b3, b4, b5⟩ := rl_62 (n := n) hn 8 n 0 a (by omega) (by omega) (fun j hj => absurd hj (by omega))
  obtain ⟨c, c1, c2, c3, c4, c5⟩ := rl_83 (n := n) hn 256 n 0 b (by omega) (by omega) (fun j hj => absurd hj (by omega))
  have e1 : c.1 = (sG (sG (sG (sG (sG (sG (sG (sG u 7 (-1)) 8 0) 9 0) 10 0) 11 0) 12 0) 13 0) 14 0).1 := c2.trans (b2.trans a2)
  refine ⟨c, ?_, ⟨⟨?_, ?_⟩, ?_, ?_, ?_, fun j hj => ?_, fun j hj => ?_, ⟨?_, fun i hi => absurd hi (by omega)⟩, ?_, fun i hi => absurd hi (by omega)⟩, ?_, fun j hj => ⟨c5 j hj, fun q hq => by cases hq⟩⟩
  · unfold m_Model_forget
    show m_Model_forget_42 n n (nI 0) _ = _
    rw [a1, b1, c1]
  · rw [e1]; rfl
  · rw [e1]; rfl
  · rw [e1]; rfl
  · rw [e1]; rfl
  · rw [e1]; rfl
  · show c.2.1 6 j = 0
    rw [c4 6 (by decide), b4 6 (by decide)]; exact a5 j hj
  · show c.2.1 8 j = 0
    rw [c4 8 (by decide)]; exact b5 j hj
  · rw [e1]; rfl
  · rw [e1]; rfl
  · rw [e1]; rfl

/-- no fault after: no fault before, and the place as it was -/
def Gk (F P : Nat) (t z : St) : Prop := z.1 F = 0 → t.1 F = 0 ∧ z.1 P = t.1 P
theorem Gk.rf {F P : Nat} {t : St} : Gk F P t t := fun h => ⟨h, rfl⟩
theorem Gk.tr {F P : Nat} {t z w : St} (h1 : Gk F P t z) (h2 : Gk F P z w) : Gk F P t w := fun h => ⟨(h1 (h2 h).1).1, (h2 h).2.trans (h1 (h2 h).1).2⟩
theorem Gk.g {F P : Nat} {t z : St} {k : Nat} {v : Int32} (h1 : Gk F P t z) (a : F ≠ k) (b : P ≠ k) : Gk F P t (sG z k v) := by
  have e1 : (sG z k v).1 F = z.1 F := if_neg a
  have e2 : (sG z k v).1 P = z.1 P := if_neg b
  unfold Gk
  rw [e1, e2]
  exact h1
theorem Gk.h {F P : Nat} {t z : St} {k i : Nat} {v : Int32} (h1 : Gk F P t z) : Gk F P t (sH z k i v) := h1
theorem Gk.l {F P : Nat} {t z : St} {k i : Nat} {v : Int64} (h1 : Gk F P t z) : Gk F P t (sL z k i v) := h1
theorem Gk.a {F P : Nat} {t z : St} {k N : Nat} {f : Nat → Int32} (h1 : Gk F P t z) : Gk F P t (sA z k N f) := h1
theorem Gk.x {F P : Nat} {K H L : List Nat} {t z : St} (h : EqX K H L t z) (a : F ∉ K) (b : P ∉ K) : Gk F P t z := fun q => ⟨(h.1 F a).symm.trans q, h.1 P b⟩
theorem Gk.cast {F P : Nat} {t z w : St} (h : Gk F P t z) (e : z = w) : Gk F P t w := e ▸ h
theorem g_Parser_fail {n : Nat} {x1 x2 : Int32} {t : St} {z : Int32 × St} (h : m_Parser_fail n x1 x2 t = some z) (hx : x1 ≠ 0) : Gk 13 14 t z.2 := by
  unfold m_Parser_fail at h
  by_cases c : t.1 13 = 0
  · rw [if_pos c] at h
    rw [← j_r2 h]
    intro q
    exact absurd q hx
  · rw [if_neg c] at h
    exact Gk.cast Gk.rf (j_r2 h)
theorem g_Model_wrong {n : Nat} {x1 x2 : Int32} {t : St} {z : Int32 × St} (h : m_Model_wrong n x1 x2 t = some z) (hx : x1 ≠ 0) : Gk 2 3 t z.2 := by
  unfold m_Model_wrong at h
  by_cases c : t.1 2 = 0
  · rw [if_pos c] at h
    rw [← j_r2 h]
    intro q
    exact absurd q hx
  · rw [if_neg c] at h
    exact Gk.cast Gk.rf (j_r2 h)
theorem g_Parser_takeMarker {n : Nat}  {t : St} {z : Int32 × St} (h : m_Parser_takeMarker n t = some z) : Gk 13 14 t z.2 := by
  have G34 : ∀ (k : Nat)  (t : St), m_Parser_takeMarker_34 n  k  t = some z → Gk 13 14 t z.2 := by
    intro k
    induction k with
    | zero => intro  t h; exact absurd (show none = some z from h) (by simp)
    | succ k ih =>
      intro  t h
      change m_Parser_takeMarker_34b n  (m_Parser_takeMarker_34 n  k)  t = some z at h
      unfold m_Parser_takeMarker_34b at h
      by_cases c45 : (t.1 0) ≤ (t.1 9)
      · rw [if_pos c45] at h
        obtain ⟨z119, hz119, h⟩ := j_bind h
        exact Gk.cast (Gk.tr (Gk.rf (F := 13) (P := 14)) (g_Parser_fail hz119 (by decide))) (j_r2 h)
      · rw [if_neg c45] at h
        obtain ⟨z56, hz56, h⟩ := j_bind h
        by_cases c64 : z56.1 = (255 : Int32)
        · rw [if_pos c64] at h
          exact Gk.tr (Gk.g (Gk.tr (Gk.rf (F := 13) (P := 14)) (Gk.x (x_Bytes_at hz56) (by decide) (by decide))) (by decide) (by decide)) ((ih (sG z56.2 9 ((z56.2.1 9) + (1 : Int32))) h))
        · rw [if_neg c64] at h
          obtain ⟨z69, hz69, h⟩ := j_bind h
          by_cases c72 : z69.1 = 0
          · rw [if_pos c72] at h
            obtain ⟨z81, hz81, h⟩ := j_bind h
            exact Gk.cast (Gk.tr (Gk.tr (Gk.tr (Gk.rf (F := 13) (P := 14)) (Gk.x (x_Bytes_at hz56) (by decide) (by decide))) (Gk.x (x_Parser_canStand hz69) (by decide) (by decide))) (g_Parser_fail hz81 (by decide))) (j_r2 h)
          · rw [if_neg c72] at h
            exact Gk.cast (Gk.g (Gk.tr (Gk.tr (Gk.rf (F := 13) (P := 14)) (Gk.x (x_Bytes_at hz56) (by decide) (by decide))) (Gk.x (x_Parser_canStand hz69) (by decide) (by decide))) (by decide) (by decide)) (j_r2 h)
  unfold m_Parser_takeMarker at h
  obtain ⟨z8, hz8, h⟩ := j_bind h
  by_cases c14 : z8.1 = (-1 : Int32)
  · rw [if_pos c14] at h
    exact Gk.tr (Gk.tr (Gk.rf (F := 13) (P := 14)) (Gk.x (x_Bytes_at hz8) (by decide) (by decide))) ((G34  n z8.2 h))
  · rw [if_neg c14] at h
    by_cases c21 : z8.1 = (255 : Int32)
    · rw [if_pos c21] at h
      exact Gk.tr (Gk.tr (Gk.rf (F := 13) (P := 14)) (Gk.x (x_Bytes_at hz8) (by decide) (by decide))) ((G34  n z8.2 h))
    · rw [if_neg c21] at h
      obtain ⟨z30, hz30, h⟩ := j_bind h
      exact Gk.cast (Gk.tr (Gk.tr (Gk.rf (F := 13) (P := 14)) (Gk.x (x_Bytes_at hz8) (by decide) (by decide))) (g_Parser_fail hz30 (by decide))) (j_r2 h)
theorem g_Parser_take {n : Nat} {x1 : Int32} {x2 : Int32} {t : St} {z : Int32 × St} (h : m_Parser_take n x1 x2 t = some z) : Gk 13 14 t z.2 := by
  have G70 : ∀  (t : St), m_Parser_take_70 n   t = some z → Gk 13 14 t z.2 := by
    intro  t h
    unfold m_Parser_take_70 at h
    obtain ⟨z77, hz77, h⟩ := j_bind h
    exact Gk.cast (Gk.tr (Gk.rf (F := 13) (P := 14)) (g_Parser_fail hz77 (by decide))) (j_r2 h)
  unfold m_Parser_take at h
  by_cases c4 : (t.1 13) = 0
  · rw [if_pos c4] at h
    by_cases c17 : (t.1 9) < (t.1 11)
    · rw [if_pos c17] at h
      obtain ⟨z38, hz38, h⟩ := j_bind h
      by_cases c44 : z38.1 = (-1 : Int32)
      · rw [if_pos c44] at h
        obtain ⟨z56, hz56, h⟩ := j_bind h
        exact Gk.cast (Gk.tr (Gk.tr (Gk.rf (F := 13) (P := 14)) (Gk.x (x_Bytes_at hz38) (by decide) (by decide))) (g_Parser_fail hz56 (by decide))) (j_r2 h)
      · rw [if_neg c44] at h
        by_cases c62 : z38.1 < x1
        · rw [if_pos c62] at h
          exact Gk.tr (Gk.tr (Gk.rf (F := 13) (P := 14)) (Gk.x (x_Bytes_at hz38) (by decide) (by decide))) ((G70  z38.2 h))
        · rw [if_neg c62] at h
          by_cases c67 : z38.1 ≤ x2
          · rw [if_pos c67] at h
            exact Gk.cast (Gk.g (Gk.tr (Gk.rf (F := 13) (P := 14)) (Gk.x (x_Bytes_at hz38) (by decide) (by decide))) (by decide) (by decide)) (j_r2 h)
          · rw [if_neg c67] at h
            exact Gk.tr (Gk.tr (Gk.rf (F := 13) (P := 14)) (Gk.x (x_Bytes_at hz38) (by decide) (by decide))) ((G70  z38.2 h))
    · rw [if_neg c17] at h
      obtain ⟨z26, hz26, h⟩ := j_bind h
      exact Gk.cast (Gk.tr (Gk.rf (F := 13) (P := 14)) (g_Parser_fail hz26 (by decide))) (j_r2 h)
  · rw [if_neg c4] at h
    exact Gk.cast (Gk.rf (F := 13) (P := 14)) (j_r2 h)
theorem g_Parser_refuseTaken {n : Nat}  {t : St} {z : St} (h : m_Parser_refuseTaken n t = some z) : Gk 13 14 t z := by
  unfold m_Parser_refuseTaken at h
  obtain ⟨z9, hz9, h⟩ := j_bind h
  exact Gk.cast (Gk.tr (Gk.rf (F := 13) (P := 14)) (g_Parser_fail hz9 (by decide))) (j_s h)
theorem g_Parser_takePair {n : Nat} {x1 : Int32} {x2 : Int32} {t : St} {z : Int32 × St} (h : m_Parser_takePair n x1 x2 t = some z) : Gk 13 14 t z.2 := by
  have G45 : ∀ (x5 : Int32) (t : St), m_Parser_takePair_45 n  x5 t = some z → Gk 13 14 t z.2 := by
    intro x5 t h
    unfold m_Parser_takePair_45 at h
    by_cases c49 : (t.1 13) = 0
    · rw [if_pos c49] at h
      exact Gk.cast (Gk.rf (F := 13) (P := 14)) (j_r2 h)
    · rw [if_neg c49] at h
      exact Gk.cast (Gk.rf (F := 13) (P := 14)) (j_r2 h)
  have G41 : ∀ (x5 : Int32) (t : St), m_Parser_takePair_41 n  x5 t = some z → Gk 13 14 t z.2 := by
    intro x5 t h
    unfold m_Parser_takePair_41 at h
    obtain ⟨z42, hz42, h⟩ := j_bind h
    exact Gk.tr (Gk.tr (Gk.rf (F := 13) (P := 14)) (g_Parser_refuseTaken hz42)) ((G45  x5 z42 h))
  unfold m_Parser_takePair at h
  obtain ⟨z5, hz5, h⟩ := j_bind h
  obtain ⟨z14, hz14, h⟩ := j_bind h
  by_cases c32 : (((256 : Int32) * z5.1) + z14.1) < x1
  · rw [if_pos c32] at h
    exact Gk.tr (Gk.tr (Gk.tr (Gk.rf (F := 13) (P := 14)) (g_Parser_take hz5)) (g_Parser_take hz14)) ((G41  (((256 : Int32) * z5.1) + z14.1) z14.2 h))
  · rw [if_neg c32] at h
    by_cases c38 : (((256 : Int32) * z5.1) + z14.1) ≤ x2
    · rw [if_pos c38] at h
      exact Gk.tr (Gk.tr (Gk.tr (Gk.rf (F := 13) (P := 14)) (g_Parser_take hz5)) (g_Parser_take hz14)) ((G45  (((256 : Int32) * z5.1) + z14.1) z14.2 h))
    · rw [if_neg c38] at h
      exact Gk.tr (Gk.tr (Gk.tr (Gk.rf (F := 13) (P := 14)) (g_Parser_take hz5)) (g_Parser_take hz14)) ((G41  (((256 : Int32) * z5.1) + z14.1) z14.2 h))
theorem g_Parser_takeLength {n : Nat}  {t : St} {z : St} (h : m_Parser_takeLength n t = some z) : Gk 13 14 t z := by
  have G41 : ∀ (x1 : Int32) (t : St), m_Parser_takeLength_41 n  x1 t = some z → Gk 13 14 t z := by
    intro x1 t h
    unfold m_Parser_takeLength_41 at h
    exact Gk.cast (Gk.g (Gk.rf (F := 13) (P := 14)) (by decide) (by decide)) (j_s h)
  unfold m_Parser_takeLength at h
  obtain ⟨z22, hz22, h⟩ := j_bind h
  by_cases c28 : (2 : Int32) ≤ z22.1
  · rw [if_pos c28] at h
    exact Gk.tr (Gk.tr (Gk.g (Gk.g (Gk.rf (F := 13) (P := 14)) (by decide) (by decide)) (by decide) (by decide)) (g_Parser_takePair hz22)) ((G41  z22.1 z22.2 h))
  · rw [if_neg c28] at h
    obtain ⟨z37, hz37, h⟩ := j_bind h
    exact Gk.tr (Gk.tr (Gk.tr (Gk.g (Gk.g (Gk.rf (F := 13) (P := 14)) (by decide) (by decide)) (by decide) (by decide)) (g_Parser_takePair hz22)) (g_Parser_fail hz37 (by decide))) ((G41  z22.1 z37.2 h))
theorem g_Parser_readQuantisers {n : Nat}  {t : St} {z : St} (h : m_Parser_readQuantisers n t = some z) : Gk 13 14 t z := by
  have G31 : ∀ (K4 : Int32 → Int32 → St → Option (St)) (hK4 : ∀ (x1 : Int32) (x2 : Int32) (t : St), K4 x1 x2 t = some z → Gk 13 14 t z) (k : Nat) (x2 : Int32) (x3 : Int32) (x4 : Int32) (x5 : Int32) (t : St), m_Parser_readQuantisers_31 n K4 k x2 x3 x4 x5 t = some z → Gk 13 14 t z := by
    intro K4 hK4 k
    induction k with
    | zero => intro x2 x3 x4 x5 t h; exact absurd (show none = some z from h) (by simp)
    | succ k ih =>
      intro x2 x3 x4 x5 t h
      change m_Parser_readQuantisers_31b n K4 (m_Parser_readQuantisers_31 n K4 k) x2 x3 x4 x5 t = some z at h
      unfold m_Parser_readQuantisers_31b at h
      by_cases c35 : (64 : Int32) ≤ x5
      · rw [if_pos c35] at h
        obtain ⟨z60, hz60, h⟩ := j_bind h
        obtain ⟨z64, hz64, h⟩ := j_bind h
        exact Gk.tr (Gk.tr (Gk.tr (Gk.rf (F := 13) (P := 14)) (Gk.x (x_Picture_setQuantisers hz60) (by decide) (by decide))) (Gk.x (x_Parser_moreContents hz64) (by decide) (by decide))) ((hK4 z64.1 (x2 + 1) z64.2 h))
      · rw [if_neg c35] at h
        obtain ⟨z43, hz43, h⟩ := j_bind h
        exact Gk.tr (Gk.tr (Gk.rf (F := 13) (P := 14)) (g_Parser_take hz43)) ((ih x2 x3 x4 (x5 + 1) z43.2 h))
  have G4 : ∀ (k : Nat) (x1 : Int32) (x2 : Int32) (t : St), m_Parser_readQuantisers_4 n  k x1 x2 t = some z → Gk 13 14 t z := by
    intro k
    induction k with
    | zero => intro x1 x2 t h; exact absurd (show none = some z from h) (by simp)
    | succ k ih =>
      intro x1 x2 t h
      change m_Parser_readQuantisers_4b n  (m_Parser_readQuantisers_4 n  k) x1 x2 t = some z at h
      unfold m_Parser_readQuantisers_4b at h
      by_cases c8 : (16384 : Int32) ≤ x2
      · rw [if_pos c8] at h
        exact Gk.cast (Gk.rf (F := 13) (P := 14)) (j_s h)
      · rw [if_neg c8] at h
        by_cases c12 : x1 = 0
        · rw [if_pos c12] at h
          exact Gk.cast (Gk.rf (F := 13) (P := 14)) (j_s h)
        · rw [if_neg c12] at h
          obtain ⟨z18, hz18, h⟩ := j_bind h
          exact Gk.tr (Gk.tr (Gk.rf (F := 13) (P := 14)) (g_Parser_take hz18)) ((G31 (m_Parser_readQuantisers_4 n  k) ih n x2 z18.1 (z18.2.1 9) (0 : Int32) z18.2 h))
  unfold m_Parser_readQuantisers at h
  exact Gk.tr (Gk.rf (F := 13) (P := 14)) ((G4  n (1 : Int32) (0 : Int32) t h))
theorem g_Parser_takeCounts {n : Nat}  {t : St} {z : Int32 × St} (h : m_Parser_takeCounts n t = some z) : Gk 13 14 t z.2 := by
  have G52 : ∀ (K6 : Int32 → Int32 → Int32 → St → Option (Int32 × St)) (hK6 : ∀ (x1 : Int32) (x2 : Int32) (x3 : Int32) (t : St), K6 x1 x2 x3 t = some z → Gk 13 14 t z.2) (x1 : Int32) (x2 : Int32) (x3 : Int32) (t : St), m_Parser_takeCounts_52 n K6 x1 x2 x3 t = some z → Gk 13 14 t z.2 := by
    intro K6 hK6 x1 x2 x3 t h
    unfold m_Parser_takeCounts_52 at h
    exact Gk.tr (Gk.rf (F := 13) (P := 14)) ((hK6 x1 x2 (x3 + 1) t h))
  have G48 : ∀ (K6 : Int32 → Int32 → Int32 → St → Option (Int32 × St)) (hK6 : ∀ (x1 : Int32) (x2 : Int32) (x3 : Int32) (t : St), K6 x1 x2 x3 t = some z → Gk 13 14 t z.2) (x1 : Int32) (x2 : Int32) (x3 : Int32) (t : St), m_Parser_takeCounts_48 n K6 x1 x2 x3 t = some z → Gk 13 14 t z.2 := by
    intro K6 hK6 x1 x2 x3 t h
    unfold m_Parser_takeCounts_48 at h
    obtain ⟨z49, hz49, h⟩ := j_bind h
    exact Gk.tr (Gk.tr (Gk.rf (F := 13) (P := 14)) (g_Parser_refuseTaken hz49)) ((G52 K6 hK6 x1 x2 x3 z49 h))
  have G6 : ∀ (k : Nat) (x1 : Int32) (x2 : Int32) (x3 : Int32) (t : St), m_Parser_takeCounts_6 n  k x1 x2 x3 t = some z → Gk 13 14 t z.2 := by
    intro k
    induction k with
    | zero => intro x1 x2 x3 t h; exact absurd (show none = some z from h) (by simp)
    | succ k ih =>
      intro x1 x2 x3 t h
      change m_Parser_takeCounts_6b n  (m_Parser_takeCounts_6 n  k) x1 x2 x3 t = some z at h
      unfold m_Parser_takeCounts_6b at h
      by_cases c9 : (16 : Int32) < x3
      · rw [if_pos c9] at h
        by_cases c59 : x1 = 0
        · rw [if_pos c59] at h
          obtain ⟨z63, hz63, h⟩ := j_bind h
          exact Gk.cast (Gk.tr (Gk.rf (F := 13) (P := 14)) (g_Parser_refuseTaken hz63)) (j_r2 h)
        · rw [if_neg c59] at h
          exact Gk.cast (Gk.rf (F := 13) (P := 14)) (j_r2 h)
      · rw [if_neg c9] at h
        obtain ⟨z17, hz17, h⟩ := j_bind h
        by_cases c38 : (256 : Int32) < (x1 + z17.1)
        · rw [if_pos c38] at h
          exact Gk.tr (Gk.tr (Gk.rf (F := 13) (P := 14)) (g_Parser_take hz17)) ((G48 (m_Parser_takeCounts_6 n  k) ih (x1 + z17.1) (((2 : Int32) * x2) + z17.1) x3 z17.2 h))
        · rw [if_neg c38] at h
          by_cases c45 : (((2 : Int32) * x2) + z17.1) < ((1 : Int32) <<< (x3 &&& 31))
          · rw [if_pos c45] at h
            exact Gk.tr (Gk.tr (Gk.rf (F := 13) (P := 14)) (g_Parser_take hz17)) ((G52 (m_Parser_takeCounts_6 n  k) ih (x1 + z17.1) (((2 : Int32) * x2) + z17.1) x3 z17.2 h))
          · rw [if_neg c45] at h
            exact Gk.tr (Gk.tr (Gk.rf (F := 13) (P := 14)) (g_Parser_take hz17)) ((G48 (m_Parser_takeCounts_6 n  k) ih (x1 + z17.1) (((2 : Int32) * x2) + z17.1) x3 z17.2 h))
  unfold m_Parser_takeCounts at h
  exact Gk.tr (Gk.rf (F := 13) (P := 14)) ((G6  n (0 : Int32) (0 : Int32) (1 : Int32) t h))
theorem g_Parser_takeSymbols {n : Nat} {x1 : Int32} {x2 : Int32} {t : St} {z : St} (h : m_Parser_takeSymbols n x1 x2 t = some z) : Gk 13 14 t z := by
  have G74 : ∀ (K10 : Int32 → Int32 → Int32 → St → Option (St)) (hK10 : ∀ (x1 : Int32) (x2 : Int32) (x3 : Int32) (t : St), K10 x1 x2 x3 t = some z → Gk 13 14 t z) (x1 : Int32) (x2 : Int32) (x3 : Int32) (x5 : Int32) (x6 : Int64) (t : St), m_Parser_takeSymbols_74 n K10 x1 x2 x3 x5 x6 t = some z → Gk 13 14 t z := by
    intro K10 hK10 x1 x2 x3 x5 x6 t h
    unfold m_Parser_takeSymbols_74 at h
    obtain ⟨b81, h⟩ := j_ifn h
    obtain ⟨b85, h⟩ := j_ifn h
    exact Gk.tr (Gk.l (Gk.rf (F := 13) (P := 14))) ((hK10 x1 x2 (x3 + 1) (sL t 0 (x5).toNatClampNeg (((t.2.2.1 0) (x5).toNatClampNeg) ||| x6)) h))
  have G10 : ∀ (k : Nat) (x1 : Int32) (x2 : Int32) (x3 : Int32) (t : St), m_Parser_takeSymbols_10 n  k x1 x2 x3 t = some z → Gk 13 14 t z := by
    intro k
    induction k with
    | zero => intro x1 x2 x3 t h; exact absurd (show none = some z from h) (by simp)
    | succ k ih =>
      intro x1 x2 x3 t h
      change m_Parser_takeSymbols_10b n  (m_Parser_takeSymbols_10 n  k) x1 x2 x3 t = some z at h
      unfold m_Parser_takeSymbols_10b at h
      by_cases c12 : x1 ≤ x3
      · rw [if_pos c12] at h
        exact Gk.cast (Gk.rf (F := 13) (P := 14)) (j_s h)
      · rw [if_neg c12] at h
        by_cases c19 : (t.1 13) = 0
        · rw [if_pos c19] at h
          obtain ⟨z25, hz25, h⟩ := j_bind h
          by_cases c33 : z25.1 = (-1 : Int32)
          · rw [if_pos c33] at h
            exact Gk.cast (Gk.tr (Gk.rf (F := 13) (P := 14)) (g_Parser_take hz25)) (j_s h)
          · rw [if_neg c33] at h
            obtain ⟨b61, h⟩ := j_ifn h
            by_cases c67 : (lg_cmp (((z25.2.2.2.1 0) (((z25.1 >>> ((6 : Int32) &&& 31)) &&& (3 : Int32))).toNatClampNeg) &&& ((1 : Int64) <<< (((z25.1 &&& (63 : Int32))).toInt64 &&& 63))) (0 : Int64)) = 0
            · rw [if_pos c67] at h
              exact Gk.tr (Gk.tr (Gk.rf (F := 13) (P := 14)) (g_Parser_take hz25)) ((G74 (m_Parser_takeSymbols_10 n  k) ih x1 x2 x3 ((z25.1 >>> ((6 : Int32) &&& 31)) &&& (3 : Int32)) ((1 : Int64) <<< (((z25.1 &&& (63 : Int32))).toInt64 &&& 63)) z25.2 h))
            · rw [if_neg c67] at h
              obtain ⟨z71, hz71, h⟩ := j_bind h
              exact Gk.tr (Gk.tr (Gk.tr (Gk.rf (F := 13) (P := 14)) (g_Parser_take hz25)) (g_Parser_refuseTaken hz71)) ((G74 (m_Parser_takeSymbols_10 n  k) ih x1 x2 x3 ((z25.1 >>> ((6 : Int32) &&& 31)) &&& (3 : Int32)) ((1 : Int64) <<< (((z25.1 &&& (63 : Int32))).toInt64 &&& 63)) z71 h))
        · rw [if_neg c19] at h
          exact Gk.cast (Gk.rf (F := 13) (P := 14)) (j_s h)
  unfold m_Parser_takeSymbols at h
  obtain ⟨z5, hz5, h⟩ := j_bind h
  exact Gk.tr (Gk.tr (Gk.rf (F := 13) (P := 14)) (Gk.x (x_Arrays_fillJ_15 hz5) (by decide) (by decide))) ((G10  n x1 x2 (0 : Int32) z5 h))
theorem g_Parser_readWords {n : Nat}  {t : St} {z : St} (h : m_Parser_readWords n t = some z) : Gk 13 14 t z := by
  have G67 : ∀ (K4 : Int32 → Int32 → St → Option (St)) (hK4 : ∀ (x1 : Int32) (x2 : Int32) (t : St), K4 x1 x2 t = some z → Gk 13 14 t z) (x2 : Int32) (x3 : Int32) (x4 : Int32) (y1 : Int32) (y2 : Int32) (t : St), m_Parser_readWords_67 n K4 x2 x3 x4 y1 y2 t = some z → Gk 13 14 t z := by
    intro K4 hK4 x2 x3 x4 y1 y2 t h
    unfold m_Parser_readWords_67 at h
    obtain ⟨z67, hz67, h⟩ := j_bind h
    obtain ⟨z77, hz77, h⟩ := j_bind h
    obtain ⟨z81, hz81, h⟩ := j_bind h
    exact Gk.tr (Gk.tr (Gk.tr (Gk.tr (Gk.rf (F := 13) (P := 14)) (g_Parser_takeSymbols hz67)) (Gk.x (x_Picture_setWords hz77) (by decide) (by decide))) (Gk.x (x_Parser_moreContents hz81) (by decide) (by decide))) ((hK4 z81.1 (x2 + 1) z81.2 h))
  have G38 : ∀ (K4 : Int32 → Int32 → St → Option (St)) (hK4 : ∀ (x1 : Int32) (x2 : Int32) (t : St), K4 x1 x2 t = some z → Gk 13 14 t z) (x2 : Int32) (x3 : Int32) (t : St), m_Parser_readWords_38 n K4 x2 x3 t = some z → Gk 13 14 t z := by
    intro K4 hK4 x2 x3 t h
    unfold m_Parser_readWords_38 at h
    obtain ⟨z45, hz45, h⟩ := j_bind h
    by_cases c56 : (16 : Int32) ≤ x3
    · rw [if_pos c56] at h
      exact Gk.tr (Gk.tr (Gk.rf (F := 13) (P := 14)) (g_Parser_takeCounts hz45)) ((G67 K4 hK4 x2 x3 (t.1 9) z45.1 (255 : Int32) z45.2 h))
    · rw [if_neg c56] at h
      exact Gk.tr (Gk.tr (Gk.rf (F := 13) (P := 14)) (g_Parser_takeCounts hz45)) ((G67 K4 hK4 x2 x3 (t.1 9) z45.1 (11 : Int32) z45.2 h))
  have G4 : ∀ (k : Nat) (x1 : Int32) (x2 : Int32) (t : St), m_Parser_readWords_4 n  k x1 x2 t = some z → Gk 13 14 t z := by
    intro k
    induction k with
    | zero => intro x1 x2 t h; exact absurd (show none = some z from h) (by simp)
    | succ k ih =>
      intro x1 x2 t h
      change m_Parser_readWords_4b n  (m_Parser_readWords_4 n  k) x1 x2 t = some z at h
      unfold m_Parser_readWords_4b at h
      by_cases c8 : (16384 : Int32) ≤ x2
      · rw [if_pos c8] at h
        exact Gk.cast (Gk.rf (F := 13) (P := 14)) (j_s h)
      · rw [if_neg c8] at h
        by_cases c12 : x1 = 0
        · rw [if_pos c12] at h
          exact Gk.cast (Gk.rf (F := 13) (P := 14)) (j_s h)
        · rw [if_neg c12] at h
          obtain ⟨z19, hz19, h⟩ := j_bind h
          by_cases c25 : z19.1 ≤ (3 : Int32)
          · rw [if_pos c25] at h
            exact Gk.tr (Gk.tr (Gk.rf (F := 13) (P := 14)) (g_Parser_take hz19)) ((G38 (m_Parser_readWords_4 n  k) ih x2 z19.1 z19.2 h))
          · rw [if_neg c25] at h
            by_cases c31 : (16 : Int32) ≤ z19.1
            · rw [if_pos c31] at h
              exact Gk.tr (Gk.tr (Gk.rf (F := 13) (P := 14)) (g_Parser_take hz19)) ((G38 (m_Parser_readWords_4 n  k) ih x2 z19.1 z19.2 h))
            · rw [if_neg c31] at h
              obtain ⟨z35, hz35, h⟩ := j_bind h
              exact Gk.tr (Gk.tr (Gk.tr (Gk.rf (F := 13) (P := 14)) (g_Parser_take hz19)) (g_Parser_refuseTaken hz35)) ((G38 (m_Parser_readWords_4 n  k) ih x2 z19.1 z35 h))
  unfold m_Parser_readWords at h
  exact Gk.tr (Gk.rf (F := 13) (P := 14)) ((G4  n (1 : Int32) (0 : Int32) t h))
theorem g_Parser_readComponent {n : Nat}  {t : St} {z : St} (h : m_Parser_readComponent n t = some z) : Gk 13 14 t z := by
  have G70 : ∀ (x1 : Int32) (x3 : Int32) (x4 : Int32) (t : St), m_Parser_readComponent_70 n  x1 x3 x4 t = some z → Gk 13 14 t z := by
    intro x1 x3 x4 t h
    unfold m_Parser_readComponent_70 at h
    obtain ⟨z81, hz81, h⟩ := j_bind h
    obtain ⟨z84, hz84, h⟩ := j_bind h
    exact Gk.cast (Gk.tr (Gk.tr (Gk.rf (F := 13) (P := 14)) (g_Parser_take hz81)) (Gk.x (x_Picture_addComponent hz84) (by decide) (by decide))) (j_s h)
  have G66 : ∀ (x1 : Int32) (x3 : Int32) (x4 : Int32) (t : St), m_Parser_readComponent_66 n  x1 x3 x4 t = some z → Gk 13 14 t z := by
    intro x1 x3 x4 t h
    unfold m_Parser_readComponent_66 at h
    obtain ⟨z67, hz67, h⟩ := j_bind h
    exact Gk.tr (Gk.tr (Gk.rf (F := 13) (P := 14)) (g_Parser_refuseTaken hz67)) ((G70  x1 x3 x4 z67 h))
  have G25 : ∀ (x1 : Int32) (t : St), m_Parser_readComponent_25 n  x1 t = some z → Gk 13 14 t z := by
    intro x1 t h
    unfold m_Parser_readComponent_25 at h
    obtain ⟨z30, hz30, h⟩ := j_bind h
    by_cases c46 : (z30.1 >>> ((4 : Int32) &&& 31)) < (1 : Int32)
    · rw [if_pos c46] at h
      exact Gk.tr (Gk.tr (Gk.rf (F := 13) (P := 14)) (g_Parser_take hz30)) ((G66  x1 (z30.1 >>> ((4 : Int32) &&& 31)) (z30.1 &&& (15 : Int32)) z30.2 h))
    · rw [if_neg c46] at h
      by_cases c51 : (2 : Int32) < (z30.1 >>> ((4 : Int32) &&& 31))
      · rw [if_pos c51] at h
        exact Gk.tr (Gk.tr (Gk.rf (F := 13) (P := 14)) (g_Parser_take hz30)) ((G66  x1 (z30.1 >>> ((4 : Int32) &&& 31)) (z30.1 &&& (15 : Int32)) z30.2 h))
      · rw [if_neg c51] at h
        by_cases c57 : (z30.1 &&& (15 : Int32)) < (1 : Int32)
        · rw [if_pos c57] at h
          exact Gk.tr (Gk.tr (Gk.rf (F := 13) (P := 14)) (g_Parser_take hz30)) ((G66  x1 (z30.1 >>> ((4 : Int32) &&& 31)) (z30.1 &&& (15 : Int32)) z30.2 h))
        · rw [if_neg c57] at h
          by_cases c63 : (z30.1 &&& (15 : Int32)) ≤ (2 : Int32)
          · rw [if_pos c63] at h
            exact Gk.tr (Gk.tr (Gk.rf (F := 13) (P := 14)) (g_Parser_take hz30)) ((G70  x1 (z30.1 >>> ((4 : Int32) &&& 31)) (z30.1 &&& (15 : Int32)) z30.2 h))
          · rw [if_neg c63] at h
            exact Gk.tr (Gk.tr (Gk.rf (F := 13) (P := 14)) (g_Parser_take hz30)) ((G66  x1 (z30.1 >>> ((4 : Int32) &&& 31)) (z30.1 &&& (15 : Int32)) z30.2 h))
  unfold m_Parser_readComponent at h
  obtain ⟨z5, hz5, h⟩ := j_bind h
  obtain ⟨z14, hz14, h⟩ := j_bind h
  by_cases c18 : z14.1 = (-1 : Int32)
  · rw [if_pos c18] at h
    exact Gk.tr (Gk.tr (Gk.tr (Gk.rf (F := 13) (P := 14)) (g_Parser_take hz5)) (Gk.x (x_Picture_placeOfName hz14) (by decide) (by decide))) ((G25  z5.1 z14.2 h))
  · rw [if_neg c18] at h
    obtain ⟨z22, hz22, h⟩ := j_bind h
    exact Gk.tr (Gk.tr (Gk.tr (Gk.tr (Gk.rf (F := 13) (P := 14)) (g_Parser_take hz5)) (Gk.x (x_Picture_placeOfName hz14) (by decide) (by decide))) (g_Parser_refuseTaken hz22)) ((G25  z5.1 z22 h))
theorem g_Parser_readFrame {n : Nat} {x1 : Int32} {t : St} {z : St} (h : m_Parser_readFrame n x1 t = some z) : Gk 13 14 t z := by
  have G46 : ∀ (k : Nat) (x1 : Int32) (x2 : Int32) (x3 : Int32) (t : St), m_Parser_readFrame_46 n  k x1 x2 x3 t = some z → Gk 13 14 t z := by
    intro k
    induction k with
    | zero => intro x1 x2 x3 t h; exact absurd (show none = some z from h) (by simp)
    | succ k ih =>
      intro x1 x2 x3 t h
      change m_Parser_readFrame_46b n  (m_Parser_readFrame_46 n  k) x1 x2 x3 t = some z at h
      unfold m_Parser_readFrame_46b at h
      by_cases c48 : x2 ≤ x3
      · rw [if_pos c48] at h
        exact Gk.cast (Gk.g (Gk.rf (F := 13) (P := 14)) (by decide) (by decide)) (j_s h)
      · rw [if_neg c48] at h
        obtain ⟨z52, hz52, h⟩ := j_bind h
        exact Gk.tr (Gk.tr (Gk.rf (F := 13) (P := 14)) (g_Parser_readComponent hz52)) ((ih x1 x2 (x3 + 1) z52 h))
  unfold m_Parser_readFrame at h
  obtain ⟨z5, hz5, h⟩ := j_bind h
  obtain ⟨z17, hz17, h⟩ := j_bind h
  obtain ⟨z31, hz31, h⟩ := j_bind h
  obtain ⟨z40, hz40, h⟩ := j_bind h
  exact Gk.tr (Gk.tr (Gk.g (Gk.tr (Gk.g (Gk.tr (Gk.tr (Gk.rf (F := 13) (P := 14)) (g_Parser_take hz5)) (g_Parser_takePair hz17)) (by decide) (by decide)) (g_Parser_takePair hz31)) (by decide) (by decide)) (g_Parser_take hz40)) ((G46  n x1 z40.1 (0 : Int32) z40.2 h))
theorem g_Parser_takeScanComponents {n : Nat}  {t : St} {z : St} (h : m_Parser_takeScanComponents n t = some z) : Gk 13 14 t z := by
  have G128 : ∀ (K6 : Int32 → Int32 → Int32 → St → Option (St)) (hK6 : ∀ (x1 : Int32) (x2 : Int32) (x3 : Int32) (t : St), K6 x1 x2 x3 t = some z → Gk 13 14 t z) (x1 : Int32) (x2 : Int32) (x3 : Int32) (t : St), m_Parser_takeScanComponents_128 n K6 x1 x2 x3 t = some z → Gk 13 14 t z := by
    intro K6 hK6 x1 x2 x3 t h
    unfold m_Parser_takeScanComponents_128 at h
    exact Gk.tr (Gk.rf (F := 13) (P := 14)) ((hK6 x1 x2 (x3 + 1) t h))
  have G92 : ∀ (K6 : Int32 → Int32 → Int32 → St → Option (St)) (hK6 : ∀ (x1 : Int32) (x2 : Int32) (x3 : Int32) (t : St), K6 x1 x2 x3 t = some z → Gk 13 14 t z) (x2 : Int32) (x3 : Int32) (x4 : Int32) (t : St), m_Parser_takeScanComponents_92 n K6 x2 x3 x4 t = some z → Gk 13 14 t z := by
    intro K6 hK6 x2 x3 x4 t h
    unfold m_Parser_takeScanComponents_92 at h
    obtain ⟨b102, h⟩ := j_ifn h
    obtain ⟨z110, hz110, h⟩ := j_bind h
    by_cases c121 : (z110.1 &&& (15 : Int32)) ≤ (3 : Int32)
    · rw [if_pos c121] at h
      exact Gk.tr (Gk.tr (Gk.h (Gk.rf (F := 13) (P := 14))) (g_Parser_take hz110)) ((G128 K6 hK6 x4 x2 x3 z110.2 h))
    · rw [if_neg c121] at h
      obtain ⟨z125, hz125, h⟩ := j_bind h
      exact Gk.tr (Gk.tr (Gk.tr (Gk.h (Gk.rf (F := 13) (P := 14))) (g_Parser_take hz110)) (g_Parser_refuseTaken hz125)) ((G128 K6 hK6 x4 x2 x3 z125 h))
  have G58 : ∀ (K6 : Int32 → Int32 → Int32 → St → Option (St)) (hK6 : ∀ (x1 : Int32) (x2 : Int32) (x3 : Int32) (t : St), K6 x1 x2 x3 t = some z → Gk 13 14 t z) (x2 : Int32) (x3 : Int32) (x4 : Int32) (t : St), m_Parser_takeScanComponents_58 n K6 x2 x3 x4 t = some z → Gk 13 14 t z := by
    intro K6 hK6 x2 x3 x4 t h
    unfold m_Parser_takeScanComponents_58 at h
    obtain ⟨z66, hz66, h⟩ := j_bind h
    obtain ⟨z76, hz76, h⟩ := j_bind h
    by_cases c85 : (x2 + (z66.1 * z76.1)) ≤ (10 : Int32)
    · rw [if_pos c85] at h
      exact Gk.tr (Gk.tr (Gk.tr (Gk.rf (F := 13) (P := 14)) (Gk.x (x_Picture_ofComponent hz66) (by decide) (by decide))) (Gk.x (x_Picture_ofComponent hz76) (by decide) (by decide))) ((G92 K6 hK6 (x2 + (z66.1 * z76.1)) x3 x4 z76.2 h))
    · rw [if_neg c85] at h
      obtain ⟨z89, hz89, h⟩ := j_bind h
      exact Gk.tr (Gk.tr (Gk.tr (Gk.tr (Gk.rf (F := 13) (P := 14)) (Gk.x (x_Picture_ofComponent hz66) (by decide) (by decide))) (Gk.x (x_Picture_ofComponent hz76) (by decide) (by decide))) (g_Parser_refuseTaken hz89)) ((G92 K6 hK6 (x2 + (z66.1 * z76.1)) x3 x4 z89 h))
  have G6 : ∀ (k : Nat) (x1 : Int32) (x2 : Int32) (x3 : Int32) (t : St), m_Parser_takeScanComponents_6 n  k x1 x2 x3 t = some z → Gk 13 14 t z := by
    intro k
    induction k with
    | zero => intro x1 x2 x3 t h; exact absurd (show none = some z from h) (by simp)
    | succ k ih =>
      intro x1 x2 x3 t h
      change m_Parser_takeScanComponents_6b n  (m_Parser_takeScanComponents_6 n  k) x1 x2 x3 t = some z at h
      unfold m_Parser_takeScanComponents_6b at h
      by_cases c14 : (t.1 16) ≤ x3
      · rw [if_pos c14] at h
        exact Gk.cast (Gk.rf (F := 13) (P := 14)) (j_s h)
      · rw [if_neg c14] at h
        by_cases c19 : (4 : Int32) ≤ x3
        · rw [if_pos c19] at h
          exact Gk.cast (Gk.rf (F := 13) (P := 14)) (j_s h)
        · rw [if_neg c19] at h
          obtain ⟨z31, hz31, h⟩ := j_bind h
          obtain ⟨z34, hz34, h⟩ := j_bind h
          by_cases c42 : x1 < z34.1
          · rw [if_pos c42] at h
            exact Gk.tr (Gk.tr (Gk.tr (Gk.rf (F := 13) (P := 14)) (g_Parser_take hz31)) (Gk.x (x_Picture_placeOfName hz34) (by decide) (by decide))) ((G58 (m_Parser_takeScanComponents_6 n  k) ih x2 x3 z34.1 z34.2 h))
          · rw [if_neg c42] at h
            obtain ⟨z54, hz54, h⟩ := j_bind h
            exact Gk.tr (Gk.tr (Gk.tr (Gk.tr (Gk.rf (F := 13) (P := 14)) (g_Parser_take hz31)) (Gk.x (x_Picture_placeOfName hz34) (by decide) (by decide))) (g_Parser_fail hz54 (by decide))) ((G58 (m_Parser_takeScanComponents_6 n  k) ih x2 x3 z34.1 z54.2 h))
  unfold m_Parser_takeScanComponents at h
  exact Gk.tr (Gk.rf (F := 13) (P := 14)) ((G6  n (-1 : Int32) (0 : Int32) (0 : Int32) t h))
theorem g_Parser_takeBits {n : Nat} {x1 : Int32} {t : St} {z : St} (h : m_Parser_takeBits n x1 t = some z) : Gk 13 14 t z := by
  have G69 : ∀  (t : St), m_Parser_takeBits_69 n   t = some z → Gk 13 14 t z := by
    intro  t h
    unfold m_Parser_takeBits_69 at h
    obtain ⟨z70, hz70, h⟩ := j_bind h
    exact Gk.cast (Gk.tr (Gk.rf (F := 13) (P := 14)) (g_Parser_refuseTaken hz70)) (j_s h)
  unfold m_Parser_takeBits at h
  obtain ⟨z3, hz3, h⟩ := j_bind h
  by_cases c37 : (13 : Int32) < (z3.1 &&& (15 : Int32))
  · rw [if_pos c37] at h
    exact Gk.tr (Gk.g (Gk.g (Gk.tr (Gk.rf (F := 13) (P := 14)) (g_Parser_take hz3)) (by decide) (by decide)) (by decide) (by decide)) ((G69  (sG (sG z3.2 19 (z3.1 >>> ((4 : Int32) &&& 31))) 20 (z3.1 &&& (15 : Int32))) h))
  · rw [if_neg c37] at h
    by_cases c47 : (z3.1 >>> ((4 : Int32) &&& 31)) = 0
    · rw [if_pos c47] at h
      exact Gk.cast (Gk.g (Gk.g (Gk.tr (Gk.rf (F := 13) (P := 14)) (g_Parser_take hz3)) (by decide) (by decide)) (by decide) (by decide)) (j_s h)
    · rw [if_neg c47] at h
      by_cases c66 : (z3.1 >>> ((4 : Int32) &&& 31)) = ((z3.1 &&& (15 : Int32)) + (1 : Int32))
      · rw [if_pos c66] at h
        exact Gk.cast (Gk.g (Gk.g (Gk.tr (Gk.rf (F := 13) (P := 14)) (g_Parser_take hz3)) (by decide) (by decide)) (by decide) (by decide)) (j_s h)
      · rw [if_neg c66] at h
        exact Gk.tr (Gk.g (Gk.g (Gk.tr (Gk.rf (F := 13) (P := 14)) (g_Parser_take hz3)) (by decide) (by decide)) (by decide) (by decide)) ((G69  (sG (sG z3.2 19 (z3.1 >>> ((4 : Int32) &&& 31))) 20 (z3.1 &&& (15 : Int32))) h))
theorem g_Parser_checkSent {n : Nat}  {t : St} {z : St} (h : m_Parser_checkSent n t = some z) : Gk 13 14 t z := by
  have G163 : ∀ (K2 : Int32 → St → Option (St)) (hK2 : ∀ (x1 : Int32) (t : St), K2 x1 t = some z → Gk 13 14 t z) (K135 : Int32 → Int32 → Int32 → Int32 → St → Option (St)) (hK135 : ∀ (x1 : Int32) (x2 : Int32) (x5 : Int32) (x6 : Int32) (t : St), K135 x1 x2 x5 x6 t = some z → Gk 13 14 t z) (x1 : Int32) (x2 : Int32) (x5 : Int32) (x6 : Int32) (t : St), m_Parser_checkSent_163 n K2 K135 x1 x2 x5 x6 t = some z → Gk 13 14 t z := by
    intro K2 hK2 K135 hK135 x1 x2 x5 x6 t h
    unfold m_Parser_checkSent_163 at h
    exact Gk.tr (Gk.rf (F := 13) (P := 14)) ((hK135 x1 x2 x5 (x6 + 1) t h))
  have G135 : ∀ (K2 : Int32 → St → Option (St)) (hK2 : ∀ (x1 : Int32) (t : St), K2 x1 t = some z → Gk 13 14 t z) (k : Nat) (x1 : Int32) (x2 : Int32) (x5 : Int32) (x6 : Int32) (t : St), m_Parser_checkSent_135 n K2 k x1 x2 x5 x6 t = some z → Gk 13 14 t z := by
    intro K2 hK2 k
    induction k with
    | zero => intro x1 x2 x5 x6 t h; exact absurd (show none = some z from h) (by simp)
    | succ k ih =>
      intro x1 x2 x5 x6 t h
      change m_Parser_checkSent_135b n K2 (m_Parser_checkSent_135 n K2 k) x1 x2 x5 x6 t = some z at h
      unfold m_Parser_checkSent_135b at h
      by_cases c144 : (t.1 18) < x6
      · rw [if_pos c144] at h
        exact Gk.tr (Gk.rf (F := 13) (P := 14)) ((hK2 (x1 + 1) t h))
      · rw [if_neg c144] at h
        obtain ⟨z151, hz151, h⟩ := j_bind h
        by_cases c156 : z151.1 = x5
        · rw [if_pos c156] at h
          exact Gk.tr (Gk.tr (Gk.rf (F := 13) (P := 14)) (Gk.x (x_Parser_latestOf hz151) (by decide) (by decide))) ((G163 K2 hK2 (m_Parser_checkSent_135 n K2 k) ih x1 x2 x5 x6 z151.2 h))
        · rw [if_neg c156] at h
          obtain ⟨z160, hz160, h⟩ := j_bind h
          exact Gk.tr (Gk.tr (Gk.tr (Gk.rf (F := 13) (P := 14)) (Gk.x (x_Parser_latestOf hz151) (by decide) (by decide))) (g_Parser_refuseTaken hz160)) ((G163 K2 hK2 (m_Parser_checkSent_135 n K2 k) ih x1 x2 x5 x6 z160 h))
  have G124 : ∀ (K2 : Int32 → St → Option (St)) (hK2 : ∀ (x1 : Int32) (t : St), K2 x1 t = some z → Gk 13 14 t z) (x1 : Int32) (x2 : Int32) (y0 : Int32) (t : St), m_Parser_checkSent_124 n K2 x1 x2 y0 t = some z → Gk 13 14 t z := by
    intro K2 hK2 x1 x2 y0 t h
    unfold m_Parser_checkSent_124 at h
    exact Gk.tr (Gk.rf (F := 13) (P := 14)) ((G135 K2 hK2 n x1 x2 y0 (t.1 17) t h))
  have G103 : ∀ (K2 : Int32 → St → Option (St)) (hK2 : ∀ (x1 : Int32) (t : St), K2 x1 t = some z → Gk 13 14 t z) (x1 : Int32) (x2 : Int32) (t : St), m_Parser_checkSent_103 n K2 x1 x2 t = some z → Gk 13 14 t z := by
    intro K2 hK2 x1 x2 t h
    unfold m_Parser_checkSent_103 at h
    by_cases c110 : (t.1 19) = 0
    · rw [if_pos c110] at h
      exact Gk.tr (Gk.rf (F := 13) (P := 14)) ((G124 K2 hK2 x1 x2 (-1 : Int32) t h))
    · rw [if_neg c110] at h
      exact Gk.tr (Gk.rf (F := 13) (P := 14)) ((G124 K2 hK2 x1 x2 (t.1 19) t h))
  have G88 : ∀ (K2 : Int32 → St → Option (St)) (hK2 : ∀ (x1 : Int32) (t : St), K2 x1 t = some z → Gk 13 14 t z) (x1 : Int32) (x2 : Int32) (t : St), m_Parser_checkSent_88 n K2 x1 x2 t = some z → Gk 13 14 t z := by
    intro K2 hK2 x1 x2 t h
    unfold m_Parser_checkSent_88 at h
    obtain ⟨z96, hz96, h⟩ := j_bind h
    obtain ⟨z99, hz99, h⟩ := j_bind h
    exact Gk.tr (Gk.tr (Gk.tr (Gk.rf (F := 13) (P := 14)) (Gk.x (x_Scan_nameAt hz96) (by decide) (by decide))) (g_Parser_fail hz99 (by decide))) ((G103 K2 hK2 x1 x2 z99.2 h))
  have G67 : ∀ (K2 : Int32 → St → Option (St)) (hK2 : ∀ (x1 : Int32) (t : St), K2 x1 t = some z → Gk 13 14 t z) (x1 : Int32) (x2 : Int32) (x3 : Int32) (y0 : Int32) (t : St), m_Parser_checkSent_67 n K2 x1 x2 x3 y0 t = some z → Gk 13 14 t z := by
    intro K2 hK2 x1 x2 x3 y0 t h
    unfold m_Parser_checkSent_67 at h
    by_cases c71 : y0 = 0
    · rw [if_pos c71] at h
      by_cases c81 : (t.1 17) ≤ 0
      · rw [if_pos c81] at h
        exact Gk.tr (Gk.rf (F := 13) (P := 14)) ((G103 K2 hK2 x1 x2 t h))
      · rw [if_neg c81] at h
        by_cases c85 : x3 = 0
        · rw [if_pos c85] at h
          exact Gk.tr (Gk.rf (F := 13) (P := 14)) ((G88 K2 hK2 x1 x2 t h))
        · rw [if_neg c85] at h
          exact Gk.tr (Gk.rf (F := 13) (P := 14)) ((G103 K2 hK2 x1 x2 t h))
    · rw [if_neg c71] at h
      exact Gk.tr (Gk.rf (F := 13) (P := 14)) ((G88 K2 hK2 x1 x2 t h))
  have G66 : ∀ (K2 : Int32 → St → Option (St)) (hK2 : ∀ (x1 : Int32) (t : St), K2 x1 t = some z → Gk 13 14 t z) (x1 : Int32) (x2 : Int32) (x3 : Int32) (t : St), m_Parser_checkSent_66 n K2 x1 x2 x3 t = some z → Gk 13 14 t z := by
    intro K2 hK2 x1 x2 x3 t h
    unfold m_Parser_checkSent_66 at h
    exact Gk.tr (Gk.rf (F := 13) (P := 14)) ((G67 K2 hK2 x1 x2 x3 (0 : Int32) t h))
  have G44 : ∀ (K2 : Int32 → St → Option (St)) (hK2 : ∀ (x1 : Int32) (t : St), K2 x1 t = some z → Gk 13 14 t z) (x1 : Int32) (x2 : Int32) (y0 : Int32) (t : St), m_Parser_checkSent_44 n K2 x1 x2 y0 t = some z → Gk 13 14 t z := by
    intro K2 hK2 x1 x2 y0 t h
    unfold m_Parser_checkSent_44 at h
    by_cases c46 : y0 = 0
    · rw [if_pos c46] at h
      exact Gk.tr (Gk.rf (F := 13) (P := 14)) ((G66 K2 hK2 x1 x2 y0 t h))
    · rw [if_neg c46] at h
      by_cases c59 : (t.1 1) = (192 : Int32)
      · rw [if_pos c59] at h
        exact Gk.tr (Gk.rf (F := 13) (P := 14)) ((G67 K2 hK2 x1 x2 y0 (1 : Int32) t h))
      · rw [if_neg c59] at h
        exact Gk.tr (Gk.rf (F := 13) (P := 14)) ((G66 K2 hK2 x1 x2 y0 t h))
  have G2 : ∀ (k : Nat) (x1 : Int32) (t : St), m_Parser_checkSent_2 n  k x1 t = some z → Gk 13 14 t z := by
    intro k
    induction k with
    | zero => intro x1 t h; exact absurd (show none = some z from h) (by simp)
    | succ k ih =>
      intro x1 t h
      change m_Parser_checkSent_2b n  (m_Parser_checkSent_2 n  k) x1 t = some z at h
      unfold m_Parser_checkSent_2b at h
      by_cases c10 : (t.1 16) ≤ x1
      · rw [if_pos c10] at h
        exact Gk.cast (Gk.rf (F := 13) (P := 14)) (j_s h)
      · rw [if_neg c10] at h
        by_cases c17 : (t.1 13) = 0
        · rw [if_pos c17] at h
          obtain ⟨z25, hz25, h⟩ := j_bind h
          obtain ⟨z32, hz32, h⟩ := j_bind h
          by_cases c36 : z32.1 = (-1 : Int32)
          · rw [if_pos c36] at h
            exact Gk.tr (Gk.tr (Gk.tr (Gk.rf (F := 13) (P := 14)) (Gk.x (x_Scan_placeAt hz25) (by decide) (by decide))) (Gk.x (x_Parser_latestOf hz32) (by decide) (by decide))) ((G44 (m_Parser_checkSent_2 n  k) ih x1 z25.1 (0 : Int32) z32.2 h))
          · rw [if_neg c36] at h
            exact Gk.tr (Gk.tr (Gk.tr (Gk.rf (F := 13) (P := 14)) (Gk.x (x_Scan_placeAt hz25) (by decide) (by decide))) (Gk.x (x_Parser_latestOf hz32) (by decide) (by decide))) ((G44 (m_Parser_checkSent_2 n  k) ih x1 z25.1 (1 : Int32) z32.2 h))
        · rw [if_neg c17] at h
          exact Gk.cast (Gk.rf (F := 13) (P := 14)) (j_s h)
  unfold m_Parser_checkSent at h
  exact Gk.tr (Gk.rf (F := 13) (P := 14)) ((G2  n (0 : Int32) t h))
theorem g_Parser_checkTables {n : Nat}  {t : St} {z : St} (h : m_Parser_checkTables n t = some z) : Gk 13 14 t z := by
  have G168 : ∀ (K2 : Int32 → St → Option (St)) (hK2 : ∀ (x1 : Int32) (t : St), K2 x1 t = some z → Gk 13 14 t z) (x1 : Int32) (t : St), m_Parser_checkTables_168 n K2 x1 t = some z → Gk 13 14 t z := by
    intro K2 hK2 x1 t h
    unfold m_Parser_checkTables_168 at h
    exact Gk.tr (Gk.rf (F := 13) (P := 14)) ((hK2 (x1 + 1) t h))
  have G130 : ∀ (K2 : Int32 → St → Option (St)) (hK2 : ∀ (x1 : Int32) (t : St), K2 x1 t = some z → Gk 13 14 t z) (x1 : Int32) (x2 : Int32) (x3 : Int32) (t : St), m_Parser_checkTables_130 n K2 x1 x2 x3 t = some z → Gk 13 14 t z := by
    intro K2 hK2 x1 x2 x3 t h
    unfold m_Parser_checkTables_130 at h
    by_cases c137 : (t.1 18) ≤ 0
    · rw [if_pos c137] at h
      exact Gk.tr (Gk.rf (F := 13) (P := 14)) ((G168 K2 hK2 x1 t h))
    · rw [if_neg c137] at h
      obtain ⟨z151, hz151, h⟩ := j_bind h
      by_cases c155 : z151.1 = (-1 : Int32)
      · rw [if_pos c155] at h
        obtain ⟨z164, hz164, h⟩ := j_bind h
        exact Gk.tr (Gk.tr (Gk.tr (Gk.rf (F := 13) (P := 14)) (Gk.x (x_Picture_placeOfWords hz151) (by decide) (by decide))) (g_Parser_fail hz164 (by decide))) ((G168 K2 hK2 x1 z164.2 h))
      · rw [if_neg c155] at h
        exact Gk.tr (Gk.tr (Gk.rf (F := 13) (P := 14)) (Gk.x (x_Picture_placeOfWords hz151) (by decide) (by decide))) ((G168 K2 hK2 x1 z151.2 h))
  have G99 : ∀ (K2 : Int32 → St → Option (St)) (hK2 : ∀ (x1 : Int32) (t : St), K2 x1 t = some z → Gk 13 14 t z) (x1 : Int32) (x2 : Int32) (x3 : Int32) (y0 : Int32) (t : St), m_Parser_checkTables_99 n K2 x1 x2 x3 y0 t = some z → Gk 13 14 t z := by
    intro K2 hK2 x1 x2 x3 y0 t h
    unfold m_Parser_checkTables_99 at h
    by_cases c103 : y0 = 0
    · rw [if_pos c103] at h
      exact Gk.tr (Gk.rf (F := 13) (P := 14)) ((G130 K2 hK2 x1 x2 x3 t h))
    · rw [if_neg c103] at h
      obtain ⟨z113, hz113, h⟩ := j_bind h
      by_cases c117 : z113.1 = (-1 : Int32)
      · rw [if_pos c117] at h
        obtain ⟨z126, hz126, h⟩ := j_bind h
        exact Gk.tr (Gk.tr (Gk.tr (Gk.rf (F := 13) (P := 14)) (Gk.x (x_Picture_placeOfWords hz113) (by decide) (by decide))) (g_Parser_fail hz126 (by decide))) ((G130 K2 hK2 x1 x2 x3 z126.2 h))
      · rw [if_neg c117] at h
        exact Gk.tr (Gk.tr (Gk.rf (F := 13) (P := 14)) (Gk.x (x_Picture_placeOfWords hz113) (by decide) (by decide))) ((G130 K2 hK2 x1 x2 x3 z113.2 h))
  have G98 : ∀ (K2 : Int32 → St → Option (St)) (hK2 : ∀ (x1 : Int32) (t : St), K2 x1 t = some z → Gk 13 14 t z) (x1 : Int32) (x2 : Int32) (x3 : Int32) (t : St), m_Parser_checkTables_98 n K2 x1 x2 x3 t = some z → Gk 13 14 t z := by
    intro K2 hK2 x1 x2 x3 t h
    unfold m_Parser_checkTables_98 at h
    exact Gk.tr (Gk.rf (F := 13) (P := 14)) ((G99 K2 hK2 x1 x2 x3 (0 : Int32) t h))
  have G74 : ∀ (K2 : Int32 → St → Option (St)) (hK2 : ∀ (x1 : Int32) (t : St), K2 x1 t = some z → Gk 13 14 t z) (x1 : Int32) (x2 : Int32) (x3 : Int32) (t : St), m_Parser_checkTables_74 n K2 x1 x2 x3 t = some z → Gk 13 14 t z := by
    intro K2 hK2 x1 x2 x3 t h
    unfold m_Parser_checkTables_74 at h
    by_cases c81 : (t.1 17) = 0
    · rw [if_pos c81] at h
      by_cases c91 : (t.1 19) = 0
      · rw [if_pos c91] at h
        exact Gk.tr (Gk.rf (F := 13) (P := 14)) ((G99 K2 hK2 x1 x2 x3 (1 : Int32) t h))
      · rw [if_neg c91] at h
        exact Gk.tr (Gk.rf (F := 13) (P := 14)) ((G98 K2 hK2 x1 x2 x3 t h))
    · rw [if_neg c81] at h
      exact Gk.tr (Gk.rf (F := 13) (P := 14)) ((G98 K2 hK2 x1 x2 x3 t h))
  have G2 : ∀ (k : Nat) (x1 : Int32) (t : St), m_Parser_checkTables_2 n  k x1 t = some z → Gk 13 14 t z := by
    intro k
    induction k with
    | zero => intro x1 t h; exact absurd (show none = some z from h) (by simp)
    | succ k ih =>
      intro x1 t h
      change m_Parser_checkTables_2b n  (m_Parser_checkTables_2 n  k) x1 t = some z at h
      unfold m_Parser_checkTables_2b at h
      by_cases c10 : (t.1 16) ≤ x1
      · rw [if_pos c10] at h
        exact Gk.cast (Gk.rf (F := 13) (P := 14)) (j_s h)
      · rw [if_neg c10] at h
        by_cases c17 : (t.1 13) = 0
        · rw [if_pos c17] at h
          obtain ⟨z25, hz25, h⟩ := j_bind h
          obtain ⟨z36, hz36, h⟩ := j_bind h
          obtain ⟨z53, hz53, h⟩ := j_bind h
          obtain ⟨z57, hz57, h⟩ := j_bind h
          obtain ⟨z60, hz60, h⟩ := j_bind h
          by_cases c63 : z60.1 = 0
          · rw [if_pos c63] at h
            obtain ⟨z70, hz70, h⟩ := j_bind h
            exact Gk.tr (Gk.tr (Gk.tr (Gk.tr (Gk.tr (Gk.tr (Gk.tr (Gk.rf (F := 13) (P := 14)) (Gk.x (x_Scan_nameAt hz25) (by decide) (by decide))) (Gk.x (x_Bytes_at hz36) (by decide) (by decide))) (Gk.x (x_Scan_placeAt hz53) (by decide) (by decide))) (Gk.x (x_Picture_ofComponent hz57) (by decide) (by decide))) (Gk.x (x_Picture_hasQuantisers hz60) (by decide) (by decide))) (g_Parser_fail hz70 (by decide))) ((G74 (m_Parser_checkTables_2 n  k) ih x1 z25.1 z36.1 z70.2 h))
          · rw [if_neg c63] at h
            exact Gk.tr (Gk.tr (Gk.tr (Gk.tr (Gk.tr (Gk.tr (Gk.rf (F := 13) (P := 14)) (Gk.x (x_Scan_nameAt hz25) (by decide) (by decide))) (Gk.x (x_Bytes_at hz36) (by decide) (by decide))) (Gk.x (x_Scan_placeAt hz53) (by decide) (by decide))) (Gk.x (x_Picture_ofComponent hz57) (by decide) (by decide))) (Gk.x (x_Picture_hasQuantisers hz60) (by decide) (by decide))) ((G74 (m_Parser_checkTables_2 n  k) ih x1 z25.1 z36.1 z60.2 h))
        · rw [if_neg c17] at h
          exact Gk.cast (Gk.rf (F := 13) (P := 14)) (j_s h)
  unfold m_Parser_checkTables at h
  exact Gk.tr (Gk.rf (F := 13) (P := 14)) ((G2  n (0 : Int32) t h))
theorem g_Parser_readScan {n : Nat}  {t : St} {z : St} (h : m_Parser_readScan n t = some z) : Gk 13 14 t z := by
  have G147 : ∀  (t : St), m_Parser_readScan_147 n   t = some z → Gk 13 14 t z := by
    intro  t h
    unfold m_Parser_readScan_147 at h
    obtain ⟨z148, hz148, h⟩ := j_bind h
    obtain ⟨z152, hz152, h⟩ := j_bind h
    obtain ⟨z156, hz156, h⟩ := j_bind h
    exact Gk.cast (Gk.tr (Gk.tr (Gk.tr (Gk.rf (F := 13) (P := 14)) (g_Parser_checkSent hz148)) (g_Parser_checkTables hz152)) (Gk.x (x_Parser_noteSent hz156) (by decide) (by decide))) (j_s h)
  have G134 : ∀ (y2 : Int32) (y3 : Int32) (t : St), m_Parser_readScan_134 n  y2 y3 t = some z → Gk 13 14 t z := by
    intro y2 y3 t h
    unfold m_Parser_readScan_134 at h
    obtain ⟨z134, hz134, h⟩ := j_bind h
    obtain ⟨z144, hz144, h⟩ := j_bind h
    exact Gk.tr (Gk.tr (Gk.g (Gk.tr (Gk.rf (F := 13) (P := 14)) (g_Parser_take hz134)) (by decide) (by decide)) (g_Parser_takeBits hz144)) ((G147  z144 h))
  have G100 : ∀ (y2 : Int32) (y3 : Int32) (t : St), m_Parser_readScan_100 n  y2 y3 t = some z → Gk 13 14 t z := by
    intro y2 y3 t h
    unfold m_Parser_readScan_100 at h
    obtain ⟨z100, hz100, h⟩ := j_bind h
    by_cases c125 : z100.1 = 0
    · rw [if_pos c125] at h
      exact Gk.tr (Gk.g (Gk.tr (Gk.rf (F := 13) (P := 14)) (g_Parser_take hz100)) (by decide) (by decide)) ((G134  z100.1 (0 : Int32) (sG z100.2 17 z100.1) h))
    · rw [if_neg c125] at h
      exact Gk.tr (Gk.g (Gk.tr (Gk.rf (F := 13) (P := 14)) (g_Parser_take hz100)) (by decide) (by decide)) ((G134  z100.1 (63 : Int32) (sG z100.2 17 z100.1) h))
  unfold m_Parser_readScan at h
  obtain ⟨z18, hz18, h⟩ := j_bind h
  obtain ⟨z25, hz25, h⟩ := j_bind h
  by_cases c38 : (z25.1 1) = (192 : Int32)
  · rw [if_pos c38] at h
    obtain ⟨z48, hz48, h⟩ := j_bind h
    obtain ⟨z63, hz63, h⟩ := j_bind h
    obtain ⟨z71, hz71, h⟩ := j_bind h
    exact Gk.tr (Gk.tr (Gk.g (Gk.tr (Gk.g (Gk.tr (Gk.tr (Gk.g (Gk.tr (Gk.g (Gk.rf (F := 13) (P := 14)) (by decide) (by decide)) (g_Parser_take hz18)) (by decide) (by decide)) (g_Parser_takeScanComponents hz25)) (g_Parser_take hz48)) (by decide) (by decide)) (g_Parser_take hz63)) (by decide) (by decide)) (g_Parser_takeBits hz71)) ((G147  z71 h))
  · rw [if_neg c38] at h
    by_cases c91 : (z25.1 16) = (1 : Int32)
    · rw [if_pos c91] at h
      exact Gk.tr (Gk.tr (Gk.g (Gk.tr (Gk.g (Gk.rf (F := 13) (P := 14)) (by decide) (by decide)) (g_Parser_take hz18)) (by decide) (by decide)) (g_Parser_takeScanComponents hz25)) ((G100  (0 : Int32) (63 : Int32) z25 h))
    · rw [if_neg c91] at h
      exact Gk.tr (Gk.tr (Gk.g (Gk.tr (Gk.g (Gk.rf (F := 13) (P := 14)) (by decide) (by decide)) (g_Parser_take hz18)) (by decide) (by decide)) (g_Parser_takeScanComponents hz25)) ((G100  (0 : Int32) (0 : Int32) z25 h))
theorem g_Parser_skipContents {n : Nat}  {t : St} {z : St} (h : m_Parser_skipContents n t = some z) : Gk 13 14 t z := by
  have G27 : ∀  (t : St), m_Parser_skipContents_27 n   t = some z → Gk 13 14 t z := by
    intro  t h
    unfold m_Parser_skipContents_27 at h
    exact Gk.cast (Gk.g (Gk.rf (F := 13) (P := 14)) (by decide) (by decide)) (j_s h)
  unfold m_Parser_skipContents at h
  by_cases c11 : (t.1 11) ≤ (t.1 0)
  · rw [if_pos c11] at h
    exact Gk.tr (Gk.rf (F := 13) (P := 14)) ((G27  t h))
  · rw [if_neg c11] at h
    obtain ⟨z23, hz23, h⟩ := j_bind h
    exact Gk.tr (Gk.tr (Gk.rf (F := 13) (P := 14)) (g_Parser_fail hz23 (by decide))) ((G27  z23.2 h))
theorem g_Parser_readContents {n : Nat} {x1 : Int32} {t : St} {z : St} (h : m_Parser_readContents n x1 t = some z) : Gk 13 14 t z := by
  have G140 : ∀  (t : St), m_Parser_readContents_140 n   t = some z → Gk 13 14 t z := by
    intro  t h
    unfold m_Parser_readContents_140 at h
    by_cases c148 : (t.1 9) = (t.1 11)
    · rw [if_pos c148] at h
      exact Gk.cast (Gk.rf (F := 13) (P := 14)) (j_s h)
    · rw [if_neg c148] at h
      obtain ⟨z157, hz157, h⟩ := j_bind h
      exact Gk.cast (Gk.tr (Gk.rf (F := 13) (P := 14)) (g_Parser_fail hz157 (by decide))) (j_s h)
  unfold m_Parser_readContents at h
  by_cases c1_192 : x1 = (192 : Int32)
  · rw [if_pos c1_192] at h
    obtain ⟨z101, hz101, h⟩ := j_bind h
    exact Gk.tr (Gk.tr (Gk.rf (F := 13) (P := 14)) (g_Parser_readFrame hz101)) ((G140  z101 h))
  rw [if_neg c1_192] at h
  by_cases c1_194 : x1 = (194 : Int32)
  · rw [if_pos c1_194] at h
    obtain ⟨z101, hz101, h⟩ := j_bind h
    exact Gk.tr (Gk.tr (Gk.rf (F := 13) (P := 14)) (g_Parser_readFrame hz101)) ((G140  z101 h))
  rw [if_neg c1_194] at h
  by_cases c1_196 : x1 = (196 : Int32)
  · rw [if_pos c1_196] at h
    obtain ⟨z76, hz76, h⟩ := j_bind h
    exact Gk.tr (Gk.tr (Gk.rf (F := 13) (P := 14)) (g_Parser_readWords hz76)) ((G140  z76 h))
  rw [if_neg c1_196] at h
  by_cases c1_218 : x1 = (218 : Int32)
  · rw [if_pos c1_218] at h
    obtain ⟨z108, hz108, h⟩ := j_bind h
    exact Gk.tr (Gk.tr (Gk.rf (F := 13) (P := 14)) (g_Parser_readScan hz108)) ((G140  z108 h))
  rw [if_neg c1_218] at h
  by_cases c1_219 : x1 = (219 : Int32)
  · rw [if_pos c1_219] at h
    obtain ⟨z69, hz69, h⟩ := j_bind h
    exact Gk.tr (Gk.tr (Gk.rf (F := 13) (P := 14)) (g_Parser_readQuantisers hz69)) ((G140  z69 h))
  rw [if_neg c1_219] at h
  by_cases c1_220 : x1 = (220 : Int32)
  · rw [if_pos c1_220] at h
    obtain ⟨z122, hz122, h⟩ := j_bind h
    exact Gk.tr (Gk.g (Gk.g (Gk.tr (Gk.rf (F := 13) (P := 14)) (g_Parser_takePair hz122)) (by decide) (by decide)) (by decide) (by decide)) ((G140  (sG (sG z122.2 3 z122.1) 12 (0 : Int32)) h))
  rw [if_neg c1_220] at h
  by_cases c1_221 : x1 = (221 : Int32)
  · rw [if_pos c1_221] at h
    obtain ⟨z90, hz90, h⟩ := j_bind h
    exact Gk.tr (Gk.g (Gk.tr (Gk.rf (F := 13) (P := 14)) (g_Parser_takePair hz90)) (by decide) (by decide)) ((G140  (sG z90.2 5 z90.1) h))
  rw [if_neg c1_221] at h
  obtain ⟨z137, hz137, h⟩ := j_bind h
  exact Gk.tr (Gk.tr (Gk.rf (F := 13) (P := 14)) (g_Parser_skipContents hz137)) ((G140  z137 h))
theorem g_Parser_endData {n : Nat} {x1 : Int32} {x2 : Int32} {x3 : Int32} {t0 : St} {z : St} (h : m_Parser_endData n x1 x2 x3 t0 = some z) : Gk 13 14 t0 z := by
  have G43 : ∀ (x1 : Int32) (x2 : Int32) (t : St), m_Parser_endData_43 n  x1 x2 t = some z → Gk 13 14 t z := by
    intro x1 x2 t h
    unfold m_Parser_endData_43 at h
    obtain ⟨z66, hz66, h⟩ := j_bind h
    exact Gk.cast (Gk.tr (Gk.g (Gk.rf (F := 13) (P := 14)) (by decide) (by decide)) (Gk.x (x_Picture_addScan hz66) (by decide) (by decide))) (j_s h)
  have G18 : ∀ (x1 : Int32) (x2 : Int32) (t : St), m_Parser_endData_18 n  x1 x2 t = some z → Gk 13 14 t z := by
    intro x1 x2 t h
    unfold m_Parser_endData_18 at h
    obtain ⟨z23, hz23, h⟩ := j_bind h
    by_cases c26 : z23.1 = 0
    · rw [if_pos c26] at h
      by_cases c36 : (z23.2.1 3) = 0
      · rw [if_pos c36] at h
        obtain ⟨z66, hz66, h⟩ := j_bind h
        exact Gk.cast (Gk.tr (Gk.g (Gk.tr (Gk.rf (F := 13) (P := 14)) (Gk.x (x_Picture_scanCount hz23) (by decide) (by decide))) (by decide) (by decide)) (Gk.x (x_Picture_addScan hz66) (by decide) (by decide))) (j_s h)
      · rw [if_neg c36] at h
        exact Gk.tr (Gk.tr (Gk.rf (F := 13) (P := 14)) (Gk.x (x_Picture_scanCount hz23) (by decide) (by decide))) ((G43  x1 x2 z23.2 h))
    · rw [if_neg c26] at h
      exact Gk.tr (Gk.tr (Gk.rf (F := 13) (P := 14)) (Gk.x (x_Picture_scanCount hz23) (by decide) (by decide))) ((G43  x1 x2 z23.2 h))
  unfold m_Parser_endData at h
  by_cases c2 : x3 = (-1 : Int32)
  · rw [if_pos c2] at h
    obtain ⟨z14, hz14, h⟩ := j_bind h
    exact Gk.tr (Gk.tr (Gk.rf (F := 13) (P := 14)) (g_Parser_fail hz14 (by decide))) ((G18  x1 x2 z14.2 h))
  · rw [if_neg c2] at h
    exact Gk.tr (Gk.rf (F := 13) (P := 14)) ((G18  x1 x2 t0 h))
theorem g_Parser_readData {n : Nat}  {t0 : St} {z : St} (h : m_Parser_readData n t0 = some z) : Gk 13 14 t0 z := by
  have G139 : ∀  (t : St), m_Parser_readData_139 n   t = some z → Gk 13 14 t z := by
    intro  t h
    unfold m_Parser_readData_139 at h
    obtain ⟨z148, hz148, h⟩ := j_bind h
    exact Gk.cast (Gk.tr (Gk.rf (F := 13) (P := 14)) (g_Parser_fail hz148 (by decide))) (j_s h)
  have G126 : ∀ (K7 : Int32 → Int32 → St → Option (St)) (hK7 : ∀ (x1 : Int32) (x2 : Int32) (t : St), K7 x1 x2 t = some z → Gk 13 14 t z) (x1 : Int32) (x2 : Int32) (t : St), m_Parser_readData_126 n K7 x1 x2 t = some z → Gk 13 14 t z := by
    intro K7 hK7 x1 x2 t h
    unfold m_Parser_readData_126 at h
    exact Gk.tr (Gk.g (Gk.rf (F := 13) (P := 14)) (by decide) (by decide)) ((hK7 x1 x2 (sG t 9 ((t.1 9) + (2 : Int32))) h))
  have G109 : ∀ (K7 : Int32 → Int32 → St → Option (St)) (hK7 : ∀ (x1 : Int32) (x2 : Int32) (t : St), K7 x1 x2 t = some z → Gk 13 14 t z) (x1 : Int32) (x2 : Int32) (x3 : Int32) (x4 : Int32) (t : St), m_Parser_readData_109 n K7 x1 x2 x3 x4 t = some z → Gk 13 14 t z := by
    intro K7 hK7 x1 x2 x3 x4 t h
    unfold m_Parser_readData_109 at h
    by_cases c110 : x3 = 0
    · rw [if_pos c110] at h
      exact Gk.tr (Gk.rf (F := 13) (P := 14)) ((G126 K7 hK7 x1 x2 t h))
    · rw [if_neg c110] at h
      by_cases c115 : x4 = 0
      · rw [if_pos c115] at h
        obtain ⟨z122, hz122, h⟩ := j_bind h
        exact Gk.cast (Gk.tr (Gk.rf (F := 13) (P := 14)) (g_Parser_endData hz122)) (j_s h)
      · rw [if_neg c115] at h
        exact Gk.tr (Gk.rf (F := 13) (P := 14)) ((G126 K7 hK7 x1 x2 t h))
  have G99 : ∀ (K7 : Int32 → Int32 → St → Option (St)) (hK7 : ∀ (x1 : Int32) (x2 : Int32) (t : St), K7 x1 x2 t = some z → Gk 13 14 t z) (x1 : Int32) (x2 : Int32) (x3 : Int32) (y0 : Int32) (t : St), m_Parser_readData_99 n K7 x1 x2 x3 y0 t = some z → Gk 13 14 t z := by
    intro K7 hK7 x1 x2 x3 y0 t h
    unfold m_Parser_readData_99 at h
    by_cases c103 : y0 = 0
    · rw [if_pos c103] at h
      exact Gk.tr (Gk.rf (F := 13) (P := 14)) ((G109 K7 hK7 x1 x2 x3 y0 t h))
    · rw [if_neg c103] at h
      exact Gk.tr (Gk.rf (F := 13) (P := 14)) ((G109 K7 hK7 x1 (x2 + 1) x3 y0 t h))
  have G98 : ∀ (K7 : Int32 → Int32 → St → Option (St)) (hK7 : ∀ (x1 : Int32) (x2 : Int32) (t : St), K7 x1 x2 t = some z → Gk 13 14 t z) (x1 : Int32) (x2 : Int32) (x3 : Int32) (t : St), m_Parser_readData_98 n K7 x1 x2 x3 t = some z → Gk 13 14 t z := by
    intro K7 hK7 x1 x2 x3 t h
    unfold m_Parser_readData_98 at h
    exact Gk.tr (Gk.rf (F := 13) (P := 14)) ((G99 K7 hK7 x1 x2 x3 (0 : Int32) t h))
  have G7 : ∀ (k : Nat) (x1 : Int32) (x2 : Int32) (t : St), m_Parser_readData_7 n  k x1 x2 t = some z → Gk 13 14 t z := by
    intro k
    induction k with
    | zero => intro x1 x2 t h; exact absurd (show none = some z from h) (by simp)
    | succ k ih =>
      intro x1 x2 t h
      change m_Parser_readData_7b n  (m_Parser_readData_7 n  k) x1 x2 t = some z at h
      unfold m_Parser_readData_7b at h
      by_cases c11 : (t.1 13) = 0
      · rw [if_pos c11] at h
        by_cases c25 : (t.1 0) ≤ (t.1 9)
        · rw [if_pos c25] at h
          exact Gk.tr (Gk.rf (F := 13) (P := 14)) ((G139  t h))
        · rw [if_neg c25] at h
          obtain ⟨z36, hz36, h⟩ := j_bind h
          by_cases c42 : z36.1 = (255 : Int32)
          · rw [if_pos c42] at h
            obtain ⟨z68, hz68, h⟩ := j_bind h
            by_cases c79 : (z68.2.1 5) ≤ 0
            · rw [if_pos c79] at h
              exact Gk.tr (Gk.tr (Gk.tr (Gk.rf (F := 13) (P := 14)) (Gk.x (x_Bytes_at hz36) (by decide) (by decide))) (Gk.x (x_Bytes_at hz68) (by decide) (by decide))) ((G98 (m_Parser_readData_7 n  k) ih x1 x2 z68.1 z68.2 h))
            · rw [if_neg c79] at h
              by_cases c91 : z68.1 = ((208 : Int32) + (x2 - x2 / (8 : Int32) * (8 : Int32)))
              · rw [if_pos c91] at h
                exact Gk.tr (Gk.tr (Gk.tr (Gk.rf (F := 13) (P := 14)) (Gk.x (x_Bytes_at hz36) (by decide) (by decide))) (Gk.x (x_Bytes_at hz68) (by decide) (by decide))) ((G99 (m_Parser_readData_7 n  k) ih x1 x2 z68.1 (1 : Int32) z68.2 h))
              · rw [if_neg c91] at h
                exact Gk.tr (Gk.tr (Gk.tr (Gk.rf (F := 13) (P := 14)) (Gk.x (x_Bytes_at hz36) (by decide) (by decide))) (Gk.x (x_Bytes_at hz68) (by decide) (by decide))) ((G98 (m_Parser_readData_7 n  k) ih x1 x2 z68.1 z68.2 h))
          · rw [if_neg c42] at h
            exact Gk.tr (Gk.g (Gk.tr (Gk.rf (F := 13) (P := 14)) (Gk.x (x_Bytes_at hz36) (by decide) (by decide))) (by decide) (by decide)) ((ih x1 x2 (sG z36.2 9 ((z36.2.1 9) + (1 : Int32))) h))
      · rw [if_neg c11] at h
        exact Gk.tr (Gk.rf (F := 13) (P := 14)) ((G139  t h))
  unfold m_Parser_readData at h
  exact Gk.tr (Gk.rf (F := 13) (P := 14)) ((G7  n (t0.1 9) (0 : Int32) t0 h))
theorem g_Parser_readNext {n : Nat}  {t0 : St} {z : St} (h : m_Parser_readNext n t0 = some z) : Gk 13 14 t0 z := by
  unfold m_Parser_readNext at h
  obtain ⟨z6, hz6, h⟩ := j_bind h
  by_cases c12 : z6.1 = (-1 : Int32)
  · rw [if_pos c12] at h
    exact Gk.cast (Gk.tr (Gk.rf (F := 13) (P := 14)) (g_Parser_takeMarker hz6)) (j_s h)
  · rw [if_neg c12] at h
    by_cases c20 : z6.1 = (217 : Int32)
    · rw [if_pos c20] at h
      exact Gk.cast (Gk.g (Gk.tr (Gk.rf (F := 13) (P := 14)) (g_Parser_takeMarker hz6)) (by decide) (by decide)) (j_s h)
    · rw [if_neg c20] at h
      obtain ⟨z36, hz36, h⟩ := j_bind h
      obtain ⟨z48, hz48, h⟩ := j_bind h
      obtain ⟨z53, hz53, h⟩ := j_bind h
      by_cases c60 : z6.1 = (218 : Int32)
      · rw [if_pos c60] at h
        obtain ⟨z64, hz64, h⟩ := j_bind h
        exact Gk.cast (Gk.tr (Gk.tr (Gk.tr (Gk.tr (Gk.tr (Gk.rf (F := 13) (P := 14)) (g_Parser_takeMarker hz6)) (g_Parser_takeLength hz36)) (Gk.x (x_Picture_addSegment hz48) (by decide) (by decide))) (g_Parser_readContents hz53)) (g_Parser_readData hz64)) (j_s h)
      · rw [if_neg c60] at h
        exact Gk.cast (Gk.tr (Gk.tr (Gk.tr (Gk.tr (Gk.rf (F := 13) (P := 14)) (g_Parser_takeMarker hz6)) (g_Parser_takeLength hz36)) (Gk.x (x_Picture_addSegment hz48) (by decide) (by decide))) (g_Parser_readContents hz53)) (j_s h)
theorem g_Model_next {n : Nat}  {t : St} {z : Int32 × St} (h : m_Model_next n t = some z) : Gk 2 3 t z.2 := by
  have G37 : ∀  (t : St), m_Model_next_37 n   t = some z → Gk 2 3 t z.2 := by
    intro  t h
    unfold m_Model_next_37 at h
    by_cases c45 : (t.1 4) = (t.1 1)
    · rw [if_pos c45] at h
      obtain ⟨z54, hz54, h⟩ := j_bind h
      exact Gk.cast (Gk.tr (Gk.rf (F := 2) (P := 3)) (g_Model_wrong hz54 (by decide))) (j_r2 h)
    · rw [if_neg c45] at h
      obtain ⟨z75, hz75, h⟩ := j_bind h
      exact Gk.cast (Gk.tr (Gk.g (Gk.rf (F := 2) (P := 3)) (by decide) (by decide)) (Gk.x (x_Model_byteAt hz75) (by decide) (by decide))) (j_r2 h)
  unfold m_Model_next at h
  by_cases c4 : (t.1 2) ≤ 0
  · rw [if_pos c4] at h
    by_cases c13 : (t.1 5) < 0
    · rw [if_pos c13] at h
      exact Gk.tr (Gk.rf (F := 2) (P := 3)) ((G37  t h))
    · rw [if_neg c13] at h
      by_cases c24 : (t.1 4) = (t.1 5)
      · rw [if_pos c24] at h
        obtain ⟨z30, hz30, h⟩ := j_bind h
        obtain ⟨z33, hz33, h⟩ := j_bind h
        exact Gk.cast (Gk.tr (Gk.tr (Gk.rf (F := 2) (P := 3)) (Gk.x (x_Model_lengthAt hz30) (by decide) (by decide))) (g_Model_wrong hz33 (by decide))) (j_r2 h)
      · rw [if_neg c24] at h
        exact Gk.tr (Gk.rf (F := 2) (P := 3)) ((G37  t h))
  · rw [if_neg c4] at h
    exact Gk.cast (Gk.rf (F := 2) (P := 3)) (j_r2 h)
theorem g_Model_marker {n : Nat}  {t : St} {z : Int32 × St} (h : m_Model_marker n t = some z) : Gk 2 3 t z.2 := by
  have G61 : ∀ (x1 : Int32) (t : St), m_Model_marker_61 n  x1 t = some z → Gk 2 3 t z.2 := by
    intro x1 t h
    unfold m_Model_marker_61 at h
    by_cases c65 : (t.1 2) = 0
    · rw [if_pos c65] at h
      by_cases c69 : x1 = 0
      · rw [if_pos c69] at h
        obtain ⟨z80, hz80, h⟩ := j_bind h
        exact Gk.cast (Gk.tr (Gk.rf (F := 2) (P := 3)) (g_Model_wrong hz80 (by decide))) (j_r2 h)
      · rw [if_neg c69] at h
        exact Gk.cast (Gk.rf (F := 2) (P := 3)) (j_r2 h)
    · rw [if_neg c65] at h
      exact Gk.cast (Gk.rf (F := 2) (P := 3)) (j_r2 h)
  have G39 : ∀ (k : Nat) (x1 : Int32) (t : St), m_Model_marker_39 n  k x1 t = some z → Gk 2 3 t z.2 := by
    intro k
    induction k with
    | zero => intro x1 t h; exact absurd (show none = some z from h) (by simp)
    | succ k ih =>
      intro x1 t h
      change m_Model_marker_39b n  (m_Model_marker_39 n  k) x1 t = some z at h
      unfold m_Model_marker_39b at h
      by_cases c43 : (t.1 2) = 0
      · rw [if_pos c43] at h
        by_cases c50 : x1 = (255 : Int32)
        · rw [if_pos c50] at h
          obtain ⟨z54, hz54, h⟩ := j_bind h
          exact Gk.tr (Gk.tr (Gk.rf (F := 2) (P := 3)) (g_Model_next hz54)) ((ih z54.1 z54.2 h))
        · rw [if_neg c50] at h
          exact Gk.tr (Gk.rf (F := 2) (P := 3)) ((G61  x1 t h))
      · rw [if_neg c43] at h
        exact Gk.tr (Gk.rf (F := 2) (P := 3)) ((G61  x1 t h))
  unfold m_Model_marker at h
  obtain ⟨z9, hz9, h⟩ := j_bind h
  by_cases c17 : (z9.2.1 2) = 0
  · rw [if_pos c17] at h
    by_cases c24 : z9.1 = (255 : Int32)
    · rw [if_pos c24] at h
      exact Gk.tr (Gk.tr (Gk.g (Gk.rf (F := 2) (P := 3)) (by decide) (by decide)) (g_Model_next hz9)) ((G39  n z9.1 z9.2 h))
    · rw [if_neg c24] at h
      obtain ⟨z35, hz35, h⟩ := j_bind h
      exact Gk.cast (Gk.tr (Gk.tr (Gk.g (Gk.rf (F := 2) (P := 3)) (by decide) (by decide)) (g_Model_next hz9)) (g_Model_wrong hz35 (by decide))) (j_r2 h)
  · rw [if_neg c17] at h
    exact Gk.tr (Gk.tr (Gk.g (Gk.rf (F := 2) (P := 3)) (by decide) (by decide)) (g_Model_next hz9)) ((G39  n z9.1 z9.2 h))
theorem g_Model_two {n : Nat}  {t : St} {z : Int32 × St} (h : m_Model_two n t = some z) : Gk 2 3 t z.2 := by
  unfold m_Model_two at h
  obtain ⟨z1, hz1, h⟩ := j_bind h
  obtain ⟨z11, hz11, h⟩ := j_bind h
  exact Gk.cast (Gk.tr (Gk.tr (Gk.rf (F := 2) (P := 3)) (g_Model_next hz1)) (g_Model_next hz11)) (j_r2 h)
theorem g_Model_open {n : Nat}  {t : St} {z : St} (h : m_Model_open n t = some z) : Gk 2 3 t z := by
  have G35 : ∀ (x1 : Int32) (t : St), m_Model_open_35 n  x1 t = some z → Gk 2 3 t z := by
    intro x1 t h
    unfold m_Model_open_35 at h
    exact Gk.cast (Gk.g (Gk.rf (F := 2) (P := 3)) (by decide) (by decide)) (j_s h)
  unfold m_Model_open at h
  obtain ⟨z9, hz9, h⟩ := j_bind h
  by_cases c17 : (z9.2.1 2) = 0
  · rw [if_pos c17] at h
    by_cases c22 : (2 : Int32) ≤ z9.1
    · rw [if_pos c22] at h
      exact Gk.tr (Gk.tr (Gk.g (Gk.rf (F := 2) (P := 3)) (by decide) (by decide)) (g_Model_two hz9)) ((G35  z9.1 z9.2 h))
    · rw [if_neg c22] at h
      obtain ⟨z31, hz31, h⟩ := j_bind h
      exact Gk.tr (Gk.tr (Gk.tr (Gk.g (Gk.rf (F := 2) (P := 3)) (by decide) (by decide)) (g_Model_two hz9)) (g_Model_wrong hz31 (by decide))) ((G35  z9.1 z31.2 h))
  · rw [if_neg c17] at h
    exact Gk.tr (Gk.tr (Gk.g (Gk.rf (F := 2) (P := 3)) (by decide) (by decide)) (g_Model_two hz9)) ((G35  z9.1 z9.2 h))
theorem g_Model_must {n : Nat} {x1 : Int32} {t : St} {z : St} (h : m_Model_must n x1 t = some z) : Gk 2 3 t z := by
  unfold m_Model_must at h
  by_cases c1 : x1 = 0
  · rw [if_pos c1] at h
    obtain ⟨z13, hz13, h⟩ := j_bind h
    exact Gk.cast (Gk.tr (Gk.rf (F := 2) (P := 3)) (g_Model_wrong hz13 (by decide))) (j_s h)
  · rw [if_neg c1] at h
    exact Gk.cast (Gk.rf (F := 2) (P := 3)) (j_s h)
theorem g_Model_readQuantisers {n : Nat}  {t : St} {z : St} (h : m_Model_readQuantisers n t = some z) : Gk 2 3 t z := by
  have G130 : ∀ (K2 : Int32 → St → Option (St)) (hK2 : ∀ (x1 : Int32) (t : St), K2 x1 t = some z → Gk 2 3 t z) (y0 : Int32) (t : St), m_Model_readQuantisers_130 n K2 y0 t = some z → Gk 2 3 t z := by
    intro K2 hK2 y0 t h
    unfold m_Model_readQuantisers_130 at h
    exact Gk.tr (Gk.rf (F := 2) (P := 3)) ((hK2 y0 t h))
  have G114 : ∀ (K2 : Int32 → St → Option (St)) (hK2 : ∀ (x1 : Int32) (t : St), K2 x1 t = some z → Gk 2 3 t z)  (t : St), m_Model_readQuantisers_114 n K2  t = some z → Gk 2 3 t z := by
    intro K2 hK2  t h
    unfold m_Model_readQuantisers_114 at h
    by_cases c122 : (t.1 5) ≤ (t.1 4)
    · rw [if_pos c122] at h
      exact Gk.tr (Gk.rf (F := 2) (P := 3)) ((G130 K2 hK2 (0 : Int32) t h))
    · rw [if_neg c122] at h
      exact Gk.tr (Gk.rf (F := 2) (P := 3)) ((G130 K2 hK2 (1 : Int32) t h))
  have G100 : ∀ (K2 : Int32 → St → Option (St)) (hK2 : ∀ (x1 : Int32) (t : St), K2 x1 t = some z → Gk 2 3 t z) (x2 : Int32) (t : St), m_Model_readQuantisers_100 n K2 x2 t = some z → Gk 2 3 t z := by
    intro K2 hK2 x2 t h
    unfold m_Model_readQuantisers_100 at h
    by_cases c104 : (t.1 2) = 0
    · rw [if_pos c104] at h
      obtain ⟨b113, h⟩ := j_ifn h
      exact Gk.tr (Gk.h (Gk.rf (F := 2) (P := 3))) ((G114 K2 hK2 (sH t 6 (x2).toNatClampNeg (vp_nar .boolean (1 : Int32))) h))
    · rw [if_neg c104] at h
      exact Gk.tr (Gk.rf (F := 2) (P := 3)) ((G114 K2 hK2 t h))
  have G78 : ∀ (K2 : Int32 → St → Option (St)) (hK2 : ∀ (x1 : Int32) (t : St), K2 x1 t = some z → Gk 2 3 t z) (K41 : Int32 → Int32 → St → Option (St)) (hK41 : ∀ (x2 : Int32) (x3 : Int32) (t : St), K41 x2 x3 t = some z → Gk 2 3 t z) (x2 : Int32) (x3 : Int32) (x4 : Int32) (y1 : Int32) (t : St), m_Model_readQuantisers_78 n K2 K41 x2 x3 x4 y1 t = some z → Gk 2 3 t z := by
    intro K2 hK2 K41 hK41 x2 x3 x4 y1 t h
    unfold m_Model_readQuantisers_78 at h
    obtain ⟨z78, hz78, h⟩ := j_bind h
    obtain ⟨b93, h⟩ := j_ifn h
    exact Gk.tr (Gk.h (Gk.tr (Gk.rf (F := 2) (P := 3)) (g_Model_must hz78))) ((hK41 x2 (x3 + 1) (sH z78 7 ((((64 : Int32) * x2) + x3)).toNatClampNeg x4) h))
  have G73 : ∀ (K2 : Int32 → St → Option (St)) (hK2 : ∀ (x1 : Int32) (t : St), K2 x1 t = some z → Gk 2 3 t z) (K41 : Int32 → Int32 → St → Option (St)) (hK41 : ∀ (x2 : Int32) (x3 : Int32) (t : St), K41 x2 x3 t = some z → Gk 2 3 t z) (x2 : Int32) (x3 : Int32) (x4 : Int32) (t : St), m_Model_readQuantisers_73 n K2 K41 x2 x3 x4 t = some z → Gk 2 3 t z := by
    intro K2 hK2 K41 hK41 x2 x3 x4 t h
    unfold m_Model_readQuantisers_73 at h
    exact Gk.tr (Gk.rf (F := 2) (P := 3)) ((G78 K2 hK2 K41 hK41 x2 x3 x4 (1 : Int32) t h))
  have G41 : ∀ (K2 : Int32 → St → Option (St)) (hK2 : ∀ (x1 : Int32) (t : St), K2 x1 t = some z → Gk 2 3 t z) (k : Nat) (x2 : Int32) (x3 : Int32) (t : St), m_Model_readQuantisers_41 n K2 k x2 x3 t = some z → Gk 2 3 t z := by
    intro K2 hK2 k
    induction k with
    | zero => intro x2 x3 t h; exact absurd (show none = some z from h) (by simp)
    | succ k ih =>
      intro x2 x3 t h
      change m_Model_readQuantisers_41b n K2 (m_Model_readQuantisers_41 n K2 k) x2 x3 t = some z at h
      unfold m_Model_readQuantisers_41b at h
      by_cases c44 : (64 : Int32) ≤ x3
      · rw [if_pos c44] at h
        exact Gk.tr (Gk.rf (F := 2) (P := 3)) ((G100 K2 hK2 x2 t h))
      · rw [if_neg c44] at h
        by_cases c51 : (t.1 2) = 0
        · rw [if_pos c51] at h
          obtain ⟨z55, hz55, h⟩ := j_bind h
          by_cases c65 : 0 < (z55.2.1 2)
          · rw [if_pos c65] at h
            exact Gk.tr (Gk.tr (Gk.rf (F := 2) (P := 3)) (g_Model_next hz55)) ((G73 K2 hK2 (m_Model_readQuantisers_41 n K2 k) ih x2 x3 z55.1 z55.2 h))
          · rw [if_neg c65] at h
            by_cases c70 : z55.1 ≤ 0
            · rw [if_pos c70] at h
              exact Gk.tr (Gk.tr (Gk.rf (F := 2) (P := 3)) (g_Model_next hz55)) ((G78 K2 hK2 (m_Model_readQuantisers_41 n K2 k) ih x2 x3 z55.1 (0 : Int32) z55.2 h))
            · rw [if_neg c70] at h
              exact Gk.tr (Gk.tr (Gk.rf (F := 2) (P := 3)) (g_Model_next hz55)) ((G73 K2 hK2 (m_Model_readQuantisers_41 n K2 k) ih x2 x3 z55.1 z55.2 h))
        · rw [if_neg c51] at h
          exact Gk.tr (Gk.rf (F := 2) (P := 3)) ((G100 K2 hK2 x2 t h))
  have G36 : ∀ (K2 : Int32 → St → Option (St)) (hK2 : ∀ (x1 : Int32) (t : St), K2 x1 t = some z → Gk 2 3 t z) (x2 : Int32) (y1 : Int32) (t : St), m_Model_readQuantisers_36 n K2 x2 y1 t = some z → Gk 2 3 t z := by
    intro K2 hK2 x2 y1 t h
    unfold m_Model_readQuantisers_36 at h
    obtain ⟨z36, hz36, h⟩ := j_bind h
    exact Gk.tr (Gk.tr (Gk.rf (F := 2) (P := 3)) (g_Model_must hz36)) ((G41 K2 hK2 n x2 (0 : Int32) z36 h))
  have G31 : ∀ (K2 : Int32 → St → Option (St)) (hK2 : ∀ (x1 : Int32) (t : St), K2 x1 t = some z → Gk 2 3 t z) (x2 : Int32) (t : St), m_Model_readQuantisers_31 n K2 x2 t = some z → Gk 2 3 t z := by
    intro K2 hK2 x2 t h
    unfold m_Model_readQuantisers_31 at h
    exact Gk.tr (Gk.rf (F := 2) (P := 3)) ((G36 K2 hK2 x2 (1 : Int32) t h))
  have G2 : ∀ (k : Nat) (x1 : Int32) (t : St), m_Model_readQuantisers_2 n  k x1 t = some z → Gk 2 3 t z := by
    intro k
    induction k with
    | zero => intro x1 t h; exact absurd (show none = some z from h) (by simp)
    | succ k ih =>
      intro x1 t h
      change m_Model_readQuantisers_2b n  (m_Model_readQuantisers_2 n  k) x1 t = some z at h
      unfold m_Model_readQuantisers_2b at h
      by_cases c3 : x1 = 0
      · rw [if_pos c3] at h
        exact Gk.cast (Gk.rf (F := 2) (P := 3)) (j_s h)
      · rw [if_neg c3] at h
        by_cases c10 : (t.1 2) = 0
        · rw [if_pos c10] at h
          obtain ⟨z14, hz14, h⟩ := j_bind h
          by_cases c23 : 0 < (z14.2.1 2)
          · rw [if_pos c23] at h
            exact Gk.tr (Gk.tr (Gk.rf (F := 2) (P := 3)) (g_Model_next hz14)) ((G31 (m_Model_readQuantisers_2 n  k) ih z14.1 z14.2 h))
          · rw [if_neg c23] at h
            by_cases c28 : (4 : Int32) ≤ z14.1
            · rw [if_pos c28] at h
              exact Gk.tr (Gk.tr (Gk.rf (F := 2) (P := 3)) (g_Model_next hz14)) ((G36 (m_Model_readQuantisers_2 n  k) ih z14.1 (0 : Int32) z14.2 h))
            · rw [if_neg c28] at h
              exact Gk.tr (Gk.tr (Gk.rf (F := 2) (P := 3)) (g_Model_next hz14)) ((G31 (m_Model_readQuantisers_2 n  k) ih z14.1 z14.2 h))
        · rw [if_neg c10] at h
          exact Gk.cast (Gk.rf (F := 2) (P := 3)) (j_s h)
  unfold m_Model_readQuantisers at h
  exact Gk.tr (Gk.rf (F := 2) (P := 3)) ((G2  n (1 : Int32) t h))
theorem g_Model_readTable {n : Nat} {x1 : Int32} {t : St} {z : St} (h : m_Model_readTable n x1 t = some z) : Gk 2 3 t z := by
  have G242 : ∀ (x1 : Int32) (x2 : Int32) (t : St), m_Model_readTable_242 n  x1 x2 t = some z → Gk 2 3 t z := by
    intro x1 x2 t h
    unfold m_Model_readTable_242 at h
    obtain ⟨b248, h⟩ := j_ifn h
    by_cases c253 : (t.1 2) = 0
    · rw [if_pos c253] at h
      obtain ⟨w262, hw262, h⟩ := j_bind h
      obtain ⟨b262, h⟩ := j_ifn h
      exact Gk.cast (Gk.h (Gk.cast (Gk.h (Gk.rf (F := 2) (P := 3))) (j_s hw262))) (j_s h)
    · rw [if_neg c253] at h
      exact Gk.cast (Gk.h (Gk.rf (F := 2) (P := 3))) (j_s h)
  have G210 : ∀ (K156 : Int32 → Int32 → Int32 → St → Option (St)) (hK156 : ∀ (x1 : Int32) (x2 : Int32) (x5 : Int32) (t : St), K156 x1 x2 x5 t = some z → Gk 2 3 t z) (x1 : Int32) (x2 : Int32) (x5 : Int32) (x6 : Int32) (y1 : Int32) (t : St), m_Model_readTable_210 n K156 x1 x2 x5 x6 y1 t = some z → Gk 2 3 t z := by
    intro K156 hK156 x1 x2 x5 x6 y1 t h
    unfold m_Model_readTable_210 at h
    obtain ⟨z210, hz210, h⟩ := j_bind h
    obtain ⟨b220, h⟩ := j_ifn h
    obtain ⟨w235, hw235, h⟩ := j_bind h
    obtain ⟨b235, h⟩ := j_ifn h
    exact Gk.tr (Gk.h (Gk.cast (Gk.h (Gk.tr (Gk.rf (F := 2) (P := 3)) (g_Model_must hz210))) (j_s hw235))) ((hK156 x1 x2 (x5 + 1) (sH w235 10 ((((256 : Int32) * x1) + x5)).toNatClampNeg x6) h))
  have G205 : ∀ (K156 : Int32 → Int32 → Int32 → St → Option (St)) (hK156 : ∀ (x1 : Int32) (x2 : Int32) (x5 : Int32) (t : St), K156 x1 x2 x5 t = some z → Gk 2 3 t z) (x1 : Int32) (x2 : Int32) (x5 : Int32) (x6 : Int32) (t : St), m_Model_readTable_205 n K156 x1 x2 x5 x6 t = some z → Gk 2 3 t z := by
    intro K156 hK156 x1 x2 x5 x6 t h
    unfold m_Model_readTable_205 at h
    exact Gk.tr (Gk.rf (F := 2) (P := 3)) ((G210 K156 hK156 x1 x2 x5 x6 (1 : Int32) t h))
  have G209 : ∀ (K156 : Int32 → Int32 → Int32 → St → Option (St)) (hK156 : ∀ (x1 : Int32) (x2 : Int32) (x5 : Int32) (t : St), K156 x1 x2 x5 t = some z → Gk 2 3 t z) (x1 : Int32) (x2 : Int32) (x5 : Int32) (x6 : Int32) (t : St), m_Model_readTable_209 n K156 x1 x2 x5 x6 t = some z → Gk 2 3 t z := by
    intro K156 hK156 x1 x2 x5 x6 t h
    unfold m_Model_readTable_209 at h
    exact Gk.tr (Gk.rf (F := 2) (P := 3)) ((G210 K156 hK156 x1 x2 x5 x6 (0 : Int32) t h))
  have G156 : ∀ (k : Nat) (x1 : Int32) (x2 : Int32) (x5 : Int32) (t : St), m_Model_readTable_156 n  k x1 x2 x5 t = some z → Gk 2 3 t z := by
    intro k
    induction k with
    | zero => intro x1 x2 x5 t h; exact absurd (show none = some z from h) (by simp)
    | succ k ih =>
      intro x1 x2 x5 t h
      change m_Model_readTable_156b n  (m_Model_readTable_156 n  k) x1 x2 x5 t = some z at h
      unfold m_Model_readTable_156b at h
      by_cases c159 : x2 ≤ x5
      · rw [if_pos c159] at h
        exact Gk.tr (Gk.rf (F := 2) (P := 3)) ((G242  x1 x2 t h))
      · rw [if_neg c159] at h
        by_cases c166 : (t.1 2) = 0
        · rw [if_pos c166] at h
          obtain ⟨z170, hz170, h⟩ := j_bind h
          by_cases c180 : 0 < (z170.2.1 2)
          · rw [if_pos c180] at h
            exact Gk.tr (Gk.tr (Gk.rf (F := 2) (P := 3)) (g_Model_next hz170)) ((G205 (m_Model_readTable_156 n  k) ih x1 x2 x5 z170.1 z170.2 h))
          · rw [if_neg c180] at h
            obtain ⟨b189, h⟩ := j_ifn h
            by_cases c190 : ((z170.2.2.1 18) (z170.1).toNatClampNeg) = 0
            · rw [if_pos c190] at h
              by_cases c195 : (3 : Int32) < x1
              · rw [if_pos c195] at h
                exact Gk.tr (Gk.tr (Gk.rf (F := 2) (P := 3)) (g_Model_next hz170)) ((G205 (m_Model_readTable_156 n  k) ih x1 x2 x5 z170.1 z170.2 h))
              · rw [if_neg c195] at h
                by_cases c202 : (12 : Int32) ≤ z170.1
                · rw [if_pos c202] at h
                  exact Gk.tr (Gk.tr (Gk.rf (F := 2) (P := 3)) (g_Model_next hz170)) ((G209 (m_Model_readTable_156 n  k) ih x1 x2 x5 z170.1 z170.2 h))
                · rw [if_neg c202] at h
                  exact Gk.tr (Gk.tr (Gk.rf (F := 2) (P := 3)) (g_Model_next hz170)) ((G205 (m_Model_readTable_156 n  k) ih x1 x2 x5 z170.1 z170.2 h))
            · rw [if_neg c190] at h
              exact Gk.tr (Gk.tr (Gk.rf (F := 2) (P := 3)) (g_Model_next hz170)) ((G209 (m_Model_readTable_156 n  k) ih x1 x2 x5 z170.1 z170.2 h))
        · rw [if_neg c166] at h
          exact Gk.tr (Gk.rf (F := 2) (P := 3)) ((G242  x1 x2 t h))
  have G131 : ∀ (k : Nat) (x1 : Int32) (x2 : Int32) (x5 : Int32) (t : St), m_Model_readTable_131 n  k x1 x2 x5 t = some z → Gk 2 3 t z := by
    intro k
    induction k with
    | zero => intro x1 x2 x5 t h; exact absurd (show none = some z from h) (by simp)
    | succ k ih =>
      intro x1 x2 x5 t h
      change m_Model_readTable_131b n  (m_Model_readTable_131 n  k) x1 x2 x5 t = some z at h
      unfold m_Model_readTable_131b at h
      by_cases c136 : (256 : Int32) ≤ x5
      · rw [if_pos c136] at h
        exact Gk.tr (Gk.rf (F := 2) (P := 3)) ((G156  n x1 x2 (0 : Int32) t h))
      · rw [if_neg c136] at h
        obtain ⟨b146, h⟩ := j_ifn h
        exact Gk.tr (Gk.h (Gk.rf (F := 2) (P := 3))) ((ih x1 x2 (x5 + 1) (sH t 18 (x5).toNatClampNeg (vp_nar .boolean (0 : Int32))) h))
  have G128 : ∀ (x1 : Int32) (x2 : Int32) (t : St), m_Model_readTable_128 n  x1 x2 t = some z → Gk 2 3 t z := by
    intro x1 x2 t h
    unfold m_Model_readTable_128 at h
    exact Gk.tr (Gk.rf (F := 2) (P := 3)) ((G131  n x1 x2 (0 : Int32) t h))
  have G119 : ∀ (K7 : Int32 → Int32 → Int64 → Int32 → St → Option (St)) (hK7 : ∀ (x1 : Int32) (x2 : Int32) (x3 : Int64) (x5 : Int32) (t : St), K7 x1 x2 x3 x5 t = some z → Gk 2 3 t z) (x1 : Int32) (x2 : Int32) (x3 : Int64) (x5 : Int32) (y1 : Int32) (t : St), m_Model_readTable_119 n K7 x1 x2 x3 x5 y1 t = some z → Gk 2 3 t z := by
    intro K7 hK7 x1 x2 x3 x5 y1 t h
    unfold m_Model_readTable_119 at h
    obtain ⟨z119, hz119, h⟩ := j_bind h
    exact Gk.tr (Gk.tr (Gk.rf (F := 2) (P := 3)) (g_Model_must hz119)) ((hK7 x1 x2 x3 (x5 + 1) z119 h))
  have G114 : ∀ (K7 : Int32 → Int32 → Int64 → Int32 → St → Option (St)) (hK7 : ∀ (x1 : Int32) (x2 : Int32) (x3 : Int64) (x5 : Int32) (t : St), K7 x1 x2 x3 x5 t = some z → Gk 2 3 t z) (x1 : Int32) (x2 : Int32) (x3 : Int64) (x5 : Int32) (t : St), m_Model_readTable_114 n K7 x1 x2 x3 x5 t = some z → Gk 2 3 t z := by
    intro K7 hK7 x1 x2 x3 x5 t h
    unfold m_Model_readTable_114 at h
    exact Gk.tr (Gk.rf (F := 2) (P := 3)) ((G119 K7 hK7 x1 x2 x3 x5 (1 : Int32) t h))
  have G92 : ∀ (K7 : Int32 → Int32 → Int64 → Int32 → St → Option (St)) (hK7 : ∀ (x1 : Int32) (x2 : Int32) (x3 : Int64) (x5 : Int32) (t : St), K7 x1 x2 x3 x5 t = some z → Gk 2 3 t z) (x1 : Int32) (x2 : Int32) (x3 : Int64) (x5 : Int32) (y1 : Int32) (t : St), m_Model_readTable_92 n K7 x1 x2 x3 x5 y1 t = some z → Gk 2 3 t z := by
    intro K7 hK7 x1 x2 x3 x5 y1 t h
    unfold m_Model_readTable_92 at h
    obtain ⟨z92, hz92, h⟩ := j_bind h
    by_cases c100 : 0 < (z92.1 2)
    · rw [if_pos c100] at h
      exact Gk.tr (Gk.tr (Gk.rf (F := 2) (P := 3)) (g_Model_must hz92)) ((G114 K7 hK7 x1 x2 x3 x5 z92 h))
    · rw [if_neg c100] at h
      by_cases c107 : x5 < (16 : Int32)
      · rw [if_pos c107] at h
        exact Gk.tr (Gk.tr (Gk.rf (F := 2) (P := 3)) (g_Model_must hz92)) ((G114 K7 hK7 x1 x2 x3 x5 z92 h))
      · rw [if_neg c107] at h
        by_cases c111 : x2 ≤ 0
        · rw [if_pos c111] at h
          exact Gk.tr (Gk.tr (Gk.rf (F := 2) (P := 3)) (g_Model_must hz92)) ((G119 K7 hK7 x1 x2 x3 x5 (0 : Int32) z92 h))
        · rw [if_neg c111] at h
          exact Gk.tr (Gk.tr (Gk.rf (F := 2) (P := 3)) (g_Model_must hz92)) ((G114 K7 hK7 x1 x2 x3 x5 z92 h))
  have G87 : ∀ (K7 : Int32 → Int32 → Int64 → Int32 → St → Option (St)) (hK7 : ∀ (x1 : Int32) (x2 : Int32) (x3 : Int64) (x5 : Int32) (t : St), K7 x1 x2 x3 x5 t = some z → Gk 2 3 t z) (x1 : Int32) (x2 : Int32) (x3 : Int64) (x5 : Int32) (t : St), m_Model_readTable_87 n K7 x1 x2 x3 x5 t = some z → Gk 2 3 t z := by
    intro K7 hK7 x1 x2 x3 x5 t h
    unfold m_Model_readTable_87 at h
    exact Gk.tr (Gk.rf (F := 2) (P := 3)) ((G92 K7 hK7 x1 x2 x3 x5 (1 : Int32) t h))
  have G91 : ∀ (K7 : Int32 → Int32 → Int64 → Int32 → St → Option (St)) (hK7 : ∀ (x1 : Int32) (x2 : Int32) (x3 : Int64) (x5 : Int32) (t : St), K7 x1 x2 x3 x5 t = some z → Gk 2 3 t z) (x1 : Int32) (x2 : Int32) (x3 : Int64) (x5 : Int32) (t : St), m_Model_readTable_91 n K7 x1 x2 x3 x5 t = some z → Gk 2 3 t z := by
    intro K7 hK7 x1 x2 x3 x5 t h
    unfold m_Model_readTable_91 at h
    exact Gk.tr (Gk.rf (F := 2) (P := 3)) ((G92 K7 hK7 x1 x2 x3 x5 (0 : Int32) t h))
  have G7 : ∀ (k : Nat) (x1 : Int32) (x2 : Int32) (x3 : Int64) (x5 : Int32) (t : St), m_Model_readTable_7 n  k x1 x2 x3 x5 t = some z → Gk 2 3 t z := by
    intro k
    induction k with
    | zero => intro x1 x2 x3 x5 t h; exact absurd (show none = some z from h) (by simp)
    | succ k ih =>
      intro x1 x2 x3 x5 t h
      change m_Model_readTable_7b n  (m_Model_readTable_7 n  k) x1 x2 x3 x5 t = some z at h
      unfold m_Model_readTable_7b at h
      by_cases c11 : (16 : Int32) < x5
      · rw [if_pos c11] at h
        exact Gk.tr (Gk.rf (F := 2) (P := 3)) ((G128  x1 x2 t h))
      · rw [if_neg c11] at h
        by_cases c18 : (t.1 2) = 0
        · rw [if_pos c18] at h
          obtain ⟨z22, hz22, h⟩ := j_bind h
          obtain ⟨b40, h⟩ := j_ifn h
          by_cases c61 : 0 < (z22.2.1 2)
          · rw [if_pos c61] at h
            exact Gk.tr (Gk.h (Gk.tr (Gk.rf (F := 2) (P := 3)) (g_Model_next hz22))) ((G87 (m_Model_readTable_7 n  k) ih x1 (x2 + z22.1) (((2 : Int64) * x3) + (z22.1).toInt64) x5 (sH z22.2 9 ((((17 : Int32) * x1) + x5)).toNatClampNeg z22.1) h))
          · rw [if_neg c61] at h
            by_cases c68 : (256 : Int32) < (x2 + z22.1)
            · rw [if_pos c68] at h
              exact Gk.tr (Gk.h (Gk.tr (Gk.rf (F := 2) (P := 3)) (g_Model_next hz22))) ((G91 (m_Model_readTable_7 n  k) ih x1 (x2 + z22.1) (((2 : Int64) * x3) + (z22.1).toInt64) x5 (sH z22.2 9 ((((17 : Int32) * x1) + x5)).toNatClampNeg z22.1) h))
            · rw [if_neg c68] at h
              by_cases c73 : z22.1 = 0
              · rw [if_pos c73] at h
                exact Gk.tr (Gk.h (Gk.tr (Gk.rf (F := 2) (P := 3)) (g_Model_next hz22))) ((G87 (m_Model_readTable_7 n  k) ih x1 (x2 + z22.1) (((2 : Int64) * x3) + (z22.1).toInt64) x5 (sH z22.2 9 ((((17 : Int32) * x1) + x5)).toNatClampNeg z22.1) h))
              · rw [if_neg c73] at h
                by_cases c84 : 0 < (lg_cmp (((2 : Int64) * x3) + (z22.1).toInt64) (((1 : Int64) <<< ((x5).toInt64 &&& 63)) - (1 : Int64)))
                · rw [if_pos c84] at h
                  exact Gk.tr (Gk.h (Gk.tr (Gk.rf (F := 2) (P := 3)) (g_Model_next hz22))) ((G91 (m_Model_readTable_7 n  k) ih x1 (x2 + z22.1) (((2 : Int64) * x3) + (z22.1).toInt64) x5 (sH z22.2 9 ((((17 : Int32) * x1) + x5)).toNatClampNeg z22.1) h))
                · rw [if_neg c84] at h
                  exact Gk.tr (Gk.h (Gk.tr (Gk.rf (F := 2) (P := 3)) (g_Model_next hz22))) ((G87 (m_Model_readTable_7 n  k) ih x1 (x2 + z22.1) (((2 : Int64) * x3) + (z22.1).toInt64) x5 (sH z22.2 9 ((((17 : Int32) * x1) + x5)).toNatClampNeg z22.1) h))
        · rw [if_neg c18] at h
          exact Gk.tr (Gk.rf (F := 2) (P := 3)) ((G128  x1 x2 t h))
  unfold m_Model_readTable at h
  exact Gk.tr (Gk.rf (F := 2) (P := 3)) ((G7  n x1 (0 : Int32) (0 : Int64) (1 : Int32) t h))
theorem g_Model_readWords {n : Nat}  {t : St} {z : St} (h : m_Model_readWords n t = some z) : Gk 2 3 t z := by
  have G93 : ∀ (K2 : Int32 → St → Option (St)) (hK2 : ∀ (x1 : Int32) (t : St), K2 x1 t = some z → Gk 2 3 t z) (y0 : Int32) (t : St), m_Model_readWords_93 n K2 y0 t = some z → Gk 2 3 t z := by
    intro K2 hK2 y0 t h
    unfold m_Model_readWords_93 at h
    exact Gk.tr (Gk.rf (F := 2) (P := 3)) ((hK2 y0 t h))
  have G77 : ∀ (K2 : Int32 → St → Option (St)) (hK2 : ∀ (x1 : Int32) (t : St), K2 x1 t = some z → Gk 2 3 t z)  (t : St), m_Model_readWords_77 n K2  t = some z → Gk 2 3 t z := by
    intro K2 hK2  t h
    unfold m_Model_readWords_77 at h
    by_cases c85 : (t.1 5) ≤ (t.1 4)
    · rw [if_pos c85] at h
      exact Gk.tr (Gk.rf (F := 2) (P := 3)) ((G93 K2 hK2 (0 : Int32) t h))
    · rw [if_neg c85] at h
      exact Gk.tr (Gk.rf (F := 2) (P := 3)) ((G93 K2 hK2 (1 : Int32) t h))
  have G64 : ∀ (K2 : Int32 → St → Option (St)) (hK2 : ∀ (x1 : Int32) (t : St), K2 x1 t = some z → Gk 2 3 t z) (y0 : Int32) (t : St), m_Model_readWords_64 n K2 y0 t = some z → Gk 2 3 t z := by
    intro K2 hK2 y0 t h
    unfold m_Model_readWords_64 at h
    by_cases c69 : (t.1 2) = 0
    · rw [if_pos c69] at h
      obtain ⟨z74, hz74, h⟩ := j_bind h
      exact Gk.tr (Gk.tr (Gk.rf (F := 2) (P := 3)) (g_Model_readTable hz74)) ((G77 K2 hK2 z74 h))
    · rw [if_neg c69] at h
      exact Gk.tr (Gk.rf (F := 2) (P := 3)) ((G77 K2 hK2 t h))
  have G48 : ∀ (K2 : Int32 → St → Option (St)) (hK2 : ∀ (x1 : Int32) (t : St), K2 x1 t = some z → Gk 2 3 t z) (x2 : Int32) (y1 : Int32) (t : St), m_Model_readWords_48 n K2 x2 y1 t = some z → Gk 2 3 t z := by
    intro K2 hK2 x2 y1 t h
    unfold m_Model_readWords_48 at h
    obtain ⟨z48, hz48, h⟩ := j_bind h
    by_cases c53 : (4 : Int32) ≤ x2
    · rw [if_pos c53] at h
      exact Gk.tr (Gk.tr (Gk.rf (F := 2) (P := 3)) (g_Model_must hz48)) ((G64 K2 hK2 (x2 - (12 : Int32)) z48 h))
    · rw [if_neg c53] at h
      exact Gk.tr (Gk.tr (Gk.rf (F := 2) (P := 3)) (g_Model_must hz48)) ((G64 K2 hK2 x2 z48 h))
  have G43 : ∀ (K2 : Int32 → St → Option (St)) (hK2 : ∀ (x1 : Int32) (t : St), K2 x1 t = some z → Gk 2 3 t z) (x2 : Int32) (t : St), m_Model_readWords_43 n K2 x2 t = some z → Gk 2 3 t z := by
    intro K2 hK2 x2 t h
    unfold m_Model_readWords_43 at h
    exact Gk.tr (Gk.rf (F := 2) (P := 3)) ((G48 K2 hK2 x2 (1 : Int32) t h))
  have G47 : ∀ (K2 : Int32 → St → Option (St)) (hK2 : ∀ (x1 : Int32) (t : St), K2 x1 t = some z → Gk 2 3 t z) (x2 : Int32) (t : St), m_Model_readWords_47 n K2 x2 t = some z → Gk 2 3 t z := by
    intro K2 hK2 x2 t h
    unfold m_Model_readWords_47 at h
    exact Gk.tr (Gk.rf (F := 2) (P := 3)) ((G48 K2 hK2 x2 (0 : Int32) t h))
  have G2 : ∀ (k : Nat) (x1 : Int32) (t : St), m_Model_readWords_2 n  k x1 t = some z → Gk 2 3 t z := by
    intro k
    induction k with
    | zero => intro x1 t h; exact absurd (show none = some z from h) (by simp)
    | succ k ih =>
      intro x1 t h
      change m_Model_readWords_2b n  (m_Model_readWords_2 n  k) x1 t = some z at h
      unfold m_Model_readWords_2b at h
      by_cases c3 : x1 = 0
      · rw [if_pos c3] at h
        exact Gk.cast (Gk.rf (F := 2) (P := 3)) (j_s h)
      · rw [if_neg c3] at h
        by_cases c10 : (t.1 2) = 0
        · rw [if_pos c10] at h
          obtain ⟨z14, hz14, h⟩ := j_bind h
          by_cases c23 : 0 < (z14.2.1 2)
          · rw [if_pos c23] at h
            exact Gk.tr (Gk.tr (Gk.rf (F := 2) (P := 3)) (g_Model_next hz14)) ((G43 (m_Model_readWords_2 n  k) ih z14.1 z14.2 h))
          · rw [if_neg c23] at h
            by_cases c28 : z14.1 < (4 : Int32)
            · rw [if_pos c28] at h
              exact Gk.tr (Gk.tr (Gk.rf (F := 2) (P := 3)) (g_Model_next hz14)) ((G43 (m_Model_readWords_2 n  k) ih z14.1 z14.2 h))
            · rw [if_neg c28] at h
              by_cases c34 : z14.1 < (16 : Int32)
              · rw [if_pos c34] at h
                exact Gk.tr (Gk.tr (Gk.rf (F := 2) (P := 3)) (g_Model_next hz14)) ((G47 (m_Model_readWords_2 n  k) ih z14.1 z14.2 h))
              · rw [if_neg c34] at h
                by_cases c40 : (20 : Int32) ≤ z14.1
                · rw [if_pos c40] at h
                  exact Gk.tr (Gk.tr (Gk.rf (F := 2) (P := 3)) (g_Model_next hz14)) ((G47 (m_Model_readWords_2 n  k) ih z14.1 z14.2 h))
                · rw [if_neg c40] at h
                  exact Gk.tr (Gk.tr (Gk.rf (F := 2) (P := 3)) (g_Model_next hz14)) ((G43 (m_Model_readWords_2 n  k) ih z14.1 z14.2 h))
        · rw [if_neg c10] at h
          exact Gk.cast (Gk.rf (F := 2) (P := 3)) (j_s h)
  unfold m_Model_readWords at h
  exact Gk.tr (Gk.rf (F := 2) (P := 3)) ((G2  n (1 : Int32) t h))
theorem g_Model_readFrame {n : Nat} {x1 : Int32} {t : St} {z : St} (h : m_Model_readFrame n x1 t = some z) : Gk 2 3 t z := by
  have G345 : ∀ (x1 : Int32) (x2 : Int32) (t : St), m_Model_readFrame_345 n  x1 x2 t = some z → Gk 2 3 t z := by
    intro x1 x2 t h
    unfold m_Model_readFrame_345 at h
    exact Gk.cast (Gk.g (Gk.g (Gk.rf (F := 2) (P := 3)) (by decide) (by decide)) (by decide) (by decide)) (j_s h)
  have G336 : ∀ (K130 : Int32 → Int32 → Int32 → St → Option (St)) (hK130 : ∀ (x1 : Int32) (x2 : Int32) (x3 : Int32) (t : St), K130 x1 x2 x3 t = some z → Gk 2 3 t z) (x1 : Int32) (x2 : Int32) (x3 : Int32) (y1 : Int32) (t : St), m_Model_readFrame_336 n K130 x1 x2 x3 y1 t = some z → Gk 2 3 t z := by
    intro K130 hK130 x1 x2 x3 y1 t h
    unfold m_Model_readFrame_336 at h
    obtain ⟨z336, hz336, h⟩ := j_bind h
    exact Gk.tr (Gk.tr (Gk.rf (F := 2) (P := 3)) (g_Model_must hz336)) ((hK130 x1 x2 (x3 + 1) z336 h))
  have G331 : ∀ (K130 : Int32 → Int32 → Int32 → St → Option (St)) (hK130 : ∀ (x1 : Int32) (x2 : Int32) (x3 : Int32) (t : St), K130 x1 x2 x3 t = some z → Gk 2 3 t z) (x1 : Int32) (x2 : Int32) (x3 : Int32) (t : St), m_Model_readFrame_331 n K130 x1 x2 x3 t = some z → Gk 2 3 t z := by
    intro K130 hK130 x1 x2 x3 t h
    unfold m_Model_readFrame_331 at h
    exact Gk.tr (Gk.rf (F := 2) (P := 3)) ((G336 K130 hK130 x1 x2 x3 (1 : Int32) t h))
  have G300 : ∀ (K130 : Int32 → Int32 → Int32 → St → Option (St)) (hK130 : ∀ (x1 : Int32) (x2 : Int32) (x3 : Int32) (t : St), K130 x1 x2 x3 t = some z → Gk 2 3 t z) (x1 : Int32) (x2 : Int32) (x3 : Int32) (y1 : Int32) (t : St), m_Model_readFrame_300 n K130 x1 x2 x3 y1 t = some z → Gk 2 3 t z := by
    intro K130 hK130 x1 x2 x3 y1 t h
    unfold m_Model_readFrame_300 at h
    obtain ⟨z300, hz300, h⟩ := j_bind h
    obtain ⟨z309, hz309, h⟩ := j_bind h
    obtain ⟨b312, h⟩ := j_ifn h
    by_cases c318 : 0 < (z309.2.1 2)
    · rw [if_pos c318] at h
      exact Gk.tr (Gk.h (Gk.tr (Gk.tr (Gk.rf (F := 2) (P := 3)) (g_Model_must hz300)) (g_Model_next hz309))) ((G331 K130 hK130 x1 x2 x3 (sH z309.2 5 (x3).toNatClampNeg z309.1) h))
    · rw [if_neg c318] at h
      obtain ⟨b326, h⟩ := j_ifn h
      by_cases c328 : (4 : Int32) ≤ (((sH z309.2 5 (x3).toNatClampNeg z309.1).2.1 5) (x3).toNatClampNeg)
      · rw [if_pos c328] at h
        exact Gk.tr (Gk.h (Gk.tr (Gk.tr (Gk.rf (F := 2) (P := 3)) (g_Model_must hz300)) (g_Model_next hz309))) ((G336 K130 hK130 x1 x2 x3 (0 : Int32) (sH z309.2 5 (x3).toNatClampNeg z309.1) h))
      · rw [if_neg c328] at h
        exact Gk.tr (Gk.h (Gk.tr (Gk.tr (Gk.rf (F := 2) (P := 3)) (g_Model_must hz300)) (g_Model_next hz309))) ((G331 K130 hK130 x1 x2 x3 (sH z309.2 5 (x3).toNatClampNeg z309.1) h))
  have G295 : ∀ (K130 : Int32 → Int32 → Int32 → St → Option (St)) (hK130 : ∀ (x1 : Int32) (x2 : Int32) (x3 : Int32) (t : St), K130 x1 x2 x3 t = some z → Gk 2 3 t z) (x1 : Int32) (x2 : Int32) (x3 : Int32) (t : St), m_Model_readFrame_295 n K130 x1 x2 x3 t = some z → Gk 2 3 t z := by
    intro K130 hK130 x1 x2 x3 t h
    unfold m_Model_readFrame_295 at h
    exact Gk.tr (Gk.rf (F := 2) (P := 3)) ((G300 K130 hK130 x1 x2 x3 (1 : Int32) t h))
  have G299 : ∀ (K130 : Int32 → Int32 → Int32 → St → Option (St)) (hK130 : ∀ (x1 : Int32) (x2 : Int32) (x3 : Int32) (t : St), K130 x1 x2 x3 t = some z → Gk 2 3 t z) (x1 : Int32) (x2 : Int32) (x3 : Int32) (t : St), m_Model_readFrame_299 n K130 x1 x2 x3 t = some z → Gk 2 3 t z := by
    intro K130 hK130 x1 x2 x3 t h
    unfold m_Model_readFrame_299 at h
    exact Gk.tr (Gk.rf (F := 2) (P := 3)) ((G300 K130 hK130 x1 x2 x3 (0 : Int32) t h))
  have G216 : ∀ (K130 : Int32 → Int32 → Int32 → St → Option (St)) (hK130 : ∀ (x1 : Int32) (x2 : Int32) (x3 : Int32) (t : St), K130 x1 x2 x3 t = some z → Gk 2 3 t z) (x1 : Int32) (x2 : Int32) (x3 : Int32) (y1 : Int32) (t : St), m_Model_readFrame_216 n K130 x1 x2 x3 y1 t = some z → Gk 2 3 t z := by
    intro K130 hK130 x1 x2 x3 y1 t h
    unfold m_Model_readFrame_216 at h
    obtain ⟨z216, hz216, h⟩ := j_bind h
    obtain ⟨z220, hz220, h⟩ := j_bind h
    obtain ⟨b235, h⟩ := j_ifn h
    obtain ⟨w246, hw246, h⟩ := j_bind h
    obtain ⟨b246, h⟩ := j_ifn h
    by_cases c252 : 0 < (w246.1 2)
    · rw [if_pos c252] at h
      exact Gk.tr (Gk.h (Gk.cast (Gk.h (Gk.tr (Gk.tr (Gk.rf (F := 2) (P := 3)) (g_Model_must hz216)) (g_Model_next hz220))) (j_s hw246))) ((G295 K130 hK130 x1 x2 x3 (sH w246 4 (x3).toNatClampNeg (z220.1 - z220.1 / (16 : Int32) * (16 : Int32))) h))
    · rw [if_neg c252] at h
      obtain ⟨b260, h⟩ := j_ifn h
      by_cases c262 : ((w246.2.1 3) (x3).toNatClampNeg) < (1 : Int32)
      · rw [if_pos c262] at h
        exact Gk.tr (Gk.h (Gk.cast (Gk.h (Gk.tr (Gk.tr (Gk.rf (F := 2) (P := 3)) (g_Model_must hz216)) (g_Model_next hz220))) (j_s hw246))) ((G299 K130 hK130 x1 x2 x3 (sH w246 4 (x3).toNatClampNeg (z220.1 - z220.1 / (16 : Int32) * (16 : Int32))) h))
      · rw [if_neg c262] at h
        obtain ⟨b270, h⟩ := j_ifn h
        by_cases c272 : (2 : Int32) < ((w246.2.1 3) (x3).toNatClampNeg)
        · rw [if_pos c272] at h
          exact Gk.tr (Gk.h (Gk.cast (Gk.h (Gk.tr (Gk.tr (Gk.rf (F := 2) (P := 3)) (g_Model_must hz216)) (g_Model_next hz220))) (j_s hw246))) ((G299 K130 hK130 x1 x2 x3 (sH w246 4 (x3).toNatClampNeg (z220.1 - z220.1 / (16 : Int32) * (16 : Int32))) h))
        · rw [if_neg c272] at h
          obtain ⟨b280, h⟩ := j_ifn h
          by_cases c282 : (((sH w246 4 (x3).toNatClampNeg (z220.1 - z220.1 / (16 : Int32) * (16 : Int32))).2.1 4) (x3).toNatClampNeg) < (1 : Int32)
          · rw [if_pos c282] at h
            exact Gk.tr (Gk.h (Gk.cast (Gk.h (Gk.tr (Gk.tr (Gk.rf (F := 2) (P := 3)) (g_Model_must hz216)) (g_Model_next hz220))) (j_s hw246))) ((G299 K130 hK130 x1 x2 x3 (sH w246 4 (x3).toNatClampNeg (z220.1 - z220.1 / (16 : Int32) * (16 : Int32))) h))
          · rw [if_neg c282] at h
            obtain ⟨b290, h⟩ := j_ifn h
            by_cases c292 : (2 : Int32) < (((sH w246 4 (x3).toNatClampNeg (z220.1 - z220.1 / (16 : Int32) * (16 : Int32))).2.1 4) (x3).toNatClampNeg)
            · rw [if_pos c292] at h
              exact Gk.tr (Gk.h (Gk.cast (Gk.h (Gk.tr (Gk.tr (Gk.rf (F := 2) (P := 3)) (g_Model_must hz216)) (g_Model_next hz220))) (j_s hw246))) ((G299 K130 hK130 x1 x2 x3 (sH w246 4 (x3).toNatClampNeg (z220.1 - z220.1 / (16 : Int32) * (16 : Int32))) h))
            · rw [if_neg c292] at h
              exact Gk.tr (Gk.h (Gk.cast (Gk.h (Gk.tr (Gk.tr (Gk.rf (F := 2) (P := 3)) (g_Model_must hz216)) (g_Model_next hz220))) (j_s hw246))) ((G295 K130 hK130 x1 x2 x3 (sH w246 4 (x3).toNatClampNeg (z220.1 - z220.1 / (16 : Int32) * (16 : Int32))) h))
  have G211 : ∀ (K130 : Int32 → Int32 → Int32 → St → Option (St)) (hK130 : ∀ (x1 : Int32) (x2 : Int32) (x3 : Int32) (t : St), K130 x1 x2 x3 t = some z → Gk 2 3 t z) (x1 : Int32) (x2 : Int32) (x3 : Int32) (t : St), m_Model_readFrame_211 n K130 x1 x2 x3 t = some z → Gk 2 3 t z := by
    intro K130 hK130 x1 x2 x3 t h
    unfold m_Model_readFrame_211 at h
    exact Gk.tr (Gk.rf (F := 2) (P := 3)) ((G216 K130 hK130 x1 x2 x3 (1 : Int32) t h))
  have G190 : ∀ (K130 : Int32 → Int32 → Int32 → St → Option (St)) (hK130 : ∀ (x1 : Int32) (x2 : Int32) (x3 : Int32) (t : St), K130 x1 x2 x3 t = some z → Gk 2 3 t z) (K158 : Int32 → Int32 → Int32 → Int32 → Int32 → St → Option (St)) (hK158 : ∀ (x1 : Int32) (x2 : Int32) (x3 : Int32) (x4 : Int32) (x5 : Int32) (t : St), K158 x1 x2 x3 x4 x5 t = some z → Gk 2 3 t z) (x1 : Int32) (x2 : Int32) (x3 : Int32) (x5 : Int32) (y0 : Int32) (t : St), m_Model_readFrame_190 n K130 K158 x1 x2 x3 x5 y0 t = some z → Gk 2 3 t z := by
    intro K130 hK130 K158 hK158 x1 x2 x3 x5 y0 t h
    unfold m_Model_readFrame_190 at h
    exact Gk.tr (Gk.rf (F := 2) (P := 3)) ((hK158 x1 x2 x3 y0 (x5 + 1) t h))
  have G185 : ∀ (K130 : Int32 → Int32 → Int32 → St → Option (St)) (hK130 : ∀ (x1 : Int32) (x2 : Int32) (x3 : Int32) (t : St), K130 x1 x2 x3 t = some z → Gk 2 3 t z) (K158 : Int32 → Int32 → Int32 → Int32 → Int32 → St → Option (St)) (hK158 : ∀ (x1 : Int32) (x2 : Int32) (x3 : Int32) (x4 : Int32) (x5 : Int32) (t : St), K158 x1 x2 x3 x4 x5 t = some z → Gk 2 3 t z) (x1 : Int32) (x2 : Int32) (x3 : Int32) (x5 : Int32) (t : St), m_Model_readFrame_185 n K130 K158 x1 x2 x3 x5 t = some z → Gk 2 3 t z := by
    intro K130 hK130 K158 hK158 x1 x2 x3 x5 t h
    unfold m_Model_readFrame_185 at h
    exact Gk.tr (Gk.rf (F := 2) (P := 3)) ((G190 K130 hK130 K158 hK158 x1 x2 x3 x5 (1 : Int32) t h))
  have G158 : ∀ (K130 : Int32 → Int32 → Int32 → St → Option (St)) (hK130 : ∀ (x1 : Int32) (x2 : Int32) (x3 : Int32) (t : St), K130 x1 x2 x3 t = some z → Gk 2 3 t z) (k : Nat) (x1 : Int32) (x2 : Int32) (x3 : Int32) (x4 : Int32) (x5 : Int32) (t : St), m_Model_readFrame_158 n K130 k x1 x2 x3 x4 x5 t = some z → Gk 2 3 t z := by
    intro K130 hK130 k
    induction k with
    | zero => intro x1 x2 x3 x4 x5 t h; exact absurd (show none = some z from h) (by simp)
    | succ k ih =>
      intro x1 x2 x3 x4 x5 t h
      change m_Model_readFrame_158b n K130 (m_Model_readFrame_158 n K130 k) x1 x2 x3 x4 x5 t = some z at h
      unfold m_Model_readFrame_158b at h
      by_cases c161 : x3 ≤ x5
      · rw [if_pos c161] at h
        by_cases c203 : 0 < (t.1 2)
        · rw [if_pos c203] at h
          exact Gk.tr (Gk.rf (F := 2) (P := 3)) ((G211 K130 hK130 x1 x2 x3 t h))
        · rw [if_neg c203] at h
          by_cases c208 : x4 = 0
          · rw [if_pos c208] at h
            exact Gk.tr (Gk.rf (F := 2) (P := 3)) ((G211 K130 hK130 x1 x2 x3 t h))
          · rw [if_neg c208] at h
            exact Gk.tr (Gk.rf (F := 2) (P := 3)) ((G216 K130 hK130 x1 x2 x3 (0 : Int32) t h))
      · rw [if_neg c161] at h
        by_cases c166 : x4 = 0
        · rw [if_pos c166] at h
          obtain ⟨b175, h⟩ := j_ifn h
          obtain ⟨b181, h⟩ := j_ifn h
          by_cases c182 : ((t.2.1 2) (x5).toNatClampNeg) = ((t.2.1 2) (x3).toNatClampNeg)
          · rw [if_pos c182] at h
            exact Gk.tr (Gk.rf (F := 2) (P := 3)) ((G185 K130 hK130 (m_Model_readFrame_158 n K130 k) ih x1 x2 x3 x5 t h))
          · rw [if_neg c182] at h
            exact Gk.tr (Gk.rf (F := 2) (P := 3)) ((G190 K130 hK130 (m_Model_readFrame_158 n K130 k) ih x1 x2 x3 x5 (0 : Int32) t h))
        · rw [if_neg c166] at h
          exact Gk.tr (Gk.rf (F := 2) (P := 3)) ((G185 K130 hK130 (m_Model_readFrame_158 n K130 k) ih x1 x2 x3 x5 t h))
  have G130 : ∀ (k : Nat) (x1 : Int32) (x2 : Int32) (x3 : Int32) (t : St), m_Model_readFrame_130 n  k x1 x2 x3 t = some z → Gk 2 3 t z := by
    intro k
    induction k with
    | zero => intro x1 x2 x3 t h; exact absurd (show none = some z from h) (by simp)
    | succ k ih =>
      intro x1 x2 x3 t h
      change m_Model_readFrame_130b n  (m_Model_readFrame_130 n  k) x1 x2 x3 t = some z at h
      unfold m_Model_readFrame_130b at h
      by_cases c132 : x2 ≤ x3
      · rw [if_pos c132] at h
        exact Gk.tr (Gk.rf (F := 2) (P := 3)) ((G345  x1 x2 t h))
      · rw [if_neg c132] at h
        by_cases c139 : (t.1 2) = 0
        · rw [if_pos c139] at h
          obtain ⟨z148, hz148, h⟩ := j_bind h
          obtain ⟨b151, h⟩ := j_ifn h
          exact Gk.tr (Gk.h (Gk.tr (Gk.rf (F := 2) (P := 3)) (g_Model_next hz148))) ((G158 (m_Model_readFrame_130 n  k) ih n x1 x2 x3 (0 : Int32) (0 : Int32) (sH z148.2 2 (x3).toNatClampNeg z148.1) h))
        · rw [if_neg c139] at h
          exact Gk.tr (Gk.rf (F := 2) (P := 3)) ((G345  x1 x2 t h))
  have G125 : ∀ (x1 : Int32) (x2 : Int32) (y1 : Int32) (t : St), m_Model_readFrame_125 n  x1 x2 y1 t = some z → Gk 2 3 t z := by
    intro x1 x2 y1 t h
    unfold m_Model_readFrame_125 at h
    obtain ⟨z125, hz125, h⟩ := j_bind h
    exact Gk.tr (Gk.tr (Gk.rf (F := 2) (P := 3)) (g_Model_must hz125)) ((G130  n x1 x2 (0 : Int32) z125 h))
  have G120 : ∀ (x1 : Int32) (x2 : Int32) (t : St), m_Model_readFrame_120 n  x1 x2 t = some z → Gk 2 3 t z := by
    intro x1 x2 t h
    unfold m_Model_readFrame_120 at h
    exact Gk.tr (Gk.rf (F := 2) (P := 3)) ((G125  x1 x2 (1 : Int32) t h))
  have G124 : ∀ (x1 : Int32) (x2 : Int32) (t : St), m_Model_readFrame_124 n  x1 x2 t = some z → Gk 2 3 t z := by
    intro x1 x2 t h
    unfold m_Model_readFrame_124 at h
    exact Gk.tr (Gk.rf (F := 2) (P := 3)) ((G125  x1 x2 (0 : Int32) t h))
  have G95 : ∀ (x1 : Int32) (y1 : Int32) (t : St), m_Model_readFrame_95 n  x1 y1 t = some z → Gk 2 3 t z := by
    intro x1 y1 t h
    unfold m_Model_readFrame_95 at h
    obtain ⟨z95, hz95, h⟩ := j_bind h
    obtain ⟨z99, hz99, h⟩ := j_bind h
    by_cases c108 : 0 < (z99.2.1 2)
    · rw [if_pos c108] at h
      exact Gk.tr (Gk.tr (Gk.tr (Gk.rf (F := 2) (P := 3)) (g_Model_must hz95)) (g_Model_next hz99)) ((G120  x1 z99.1 z99.2 h))
    · rw [if_neg c108] at h
      by_cases c112 : z99.1 ≤ 0
      · rw [if_pos c112] at h
        exact Gk.tr (Gk.tr (Gk.tr (Gk.rf (F := 2) (P := 3)) (g_Model_must hz95)) (g_Model_next hz99)) ((G124  x1 z99.1 z99.2 h))
      · rw [if_neg c112] at h
        by_cases c117 : (5 : Int32) ≤ z99.1
        · rw [if_pos c117] at h
          exact Gk.tr (Gk.tr (Gk.tr (Gk.rf (F := 2) (P := 3)) (g_Model_must hz95)) (g_Model_next hz99)) ((G124  x1 z99.1 z99.2 h))
        · rw [if_neg c117] at h
          exact Gk.tr (Gk.tr (Gk.tr (Gk.rf (F := 2) (P := 3)) (g_Model_must hz95)) (g_Model_next hz99)) ((G120  x1 z99.1 z99.2 h))
  have G90 : ∀ (x1 : Int32) (t : St), m_Model_readFrame_90 n  x1 t = some z → Gk 2 3 t z := by
    intro x1 t h
    unfold m_Model_readFrame_90 at h
    exact Gk.tr (Gk.rf (F := 2) (P := 3)) ((G95  x1 (1 : Int32) t h))
  have G94 : ∀ (x1 : Int32) (t : St), m_Model_readFrame_94 n  x1 t = some z → Gk 2 3 t z := by
    intro x1 t h
    unfold m_Model_readFrame_94 at h
    exact Gk.tr (Gk.rf (F := 2) (P := 3)) ((G95  x1 (0 : Int32) t h))
  have G55 : ∀ (x1 : Int32) (y1 : Int32) (t : St), m_Model_readFrame_55 n  x1 y1 t = some z → Gk 2 3 t z := by
    intro x1 y1 t h
    unfold m_Model_readFrame_55 at h
    obtain ⟨z55, hz55, h⟩ := j_bind h
    obtain ⟨z60, hz60, h⟩ := j_bind h
    by_cases c71 : 0 < (z60.2.1 2)
    · rw [if_pos c71] at h
      exact Gk.tr (Gk.g (Gk.tr (Gk.tr (Gk.rf (F := 2) (P := 3)) (g_Model_must hz55)) (g_Model_two hz60)) (by decide) (by decide)) ((G90  x1 (sG z60.2 10 z60.1) h))
    · rw [if_neg c71] at h
      by_cases c78 : z60.1 ≤ 0
      · rw [if_pos c78] at h
        exact Gk.tr (Gk.g (Gk.tr (Gk.tr (Gk.rf (F := 2) (P := 3)) (g_Model_must hz55)) (g_Model_two hz60)) (by decide) (by decide)) ((G94  x1 (sG z60.2 10 z60.1) h))
      · rw [if_neg c78] at h
        by_cases c87 : (64 : Int32) < z60.1
        · rw [if_pos c87] at h
          exact Gk.tr (Gk.g (Gk.tr (Gk.tr (Gk.rf (F := 2) (P := 3)) (g_Model_must hz55)) (g_Model_two hz60)) (by decide) (by decide)) ((G94  x1 (sG z60.2 10 z60.1) h))
        · rw [if_neg c87] at h
          exact Gk.tr (Gk.g (Gk.tr (Gk.tr (Gk.rf (F := 2) (P := 3)) (g_Model_must hz55)) (g_Model_two hz60)) (by decide) (by decide)) ((G90  x1 (sG z60.2 10 z60.1) h))
  have G50 : ∀ (x1 : Int32) (t : St), m_Model_readFrame_50 n  x1 t = some z → Gk 2 3 t z := by
    intro x1 t h
    unfold m_Model_readFrame_50 at h
    exact Gk.tr (Gk.rf (F := 2) (P := 3)) ((G55  x1 (1 : Int32) t h))
  have G22 : ∀ (x1 : Int32) (y1 : Int32) (t : St), m_Model_readFrame_22 n  x1 y1 t = some z → Gk 2 3 t z := by
    intro x1 y1 t h
    unfold m_Model_readFrame_22 at h
    obtain ⟨z22, hz22, h⟩ := j_bind h
    obtain ⟨z27, hz27, h⟩ := j_bind h
    by_cases c38 : 0 < (z27.2.1 2)
    · rw [if_pos c38] at h
      exact Gk.tr (Gk.g (Gk.tr (Gk.tr (Gk.rf (F := 2) (P := 3)) (g_Model_must hz22)) (g_Model_two hz27)) (by decide) (by decide)) ((G50  x1 (sG z27.2 11 z27.1) h))
    · rw [if_neg c38] at h
      by_cases c47 : (64 : Int32) < z27.1
      · rw [if_pos c47] at h
        exact Gk.tr (Gk.g (Gk.tr (Gk.tr (Gk.rf (F := 2) (P := 3)) (g_Model_must hz22)) (g_Model_two hz27)) (by decide) (by decide)) ((G55  x1 (0 : Int32) (sG z27.2 11 z27.1) h))
      · rw [if_neg c47] at h
        exact Gk.tr (Gk.g (Gk.tr (Gk.tr (Gk.rf (F := 2) (P := 3)) (g_Model_must hz22)) (g_Model_two hz27)) (by decide) (by decide)) ((G50  x1 (sG z27.2 11 z27.1) h))
  have G17 : ∀ (x1 : Int32) (t : St), m_Model_readFrame_17 n  x1 t = some z → Gk 2 3 t z := by
    intro x1 t h
    unfold m_Model_readFrame_17 at h
    exact Gk.tr (Gk.rf (F := 2) (P := 3)) ((G22  x1 (1 : Int32) t h))
  unfold m_Model_readFrame at h
  obtain ⟨z2, hz2, h⟩ := j_bind h
  by_cases c7 : z2.1 = (8 : Int32)
  · rw [if_pos c7] at h
    exact Gk.tr (Gk.tr (Gk.rf (F := 2) (P := 3)) (g_Model_next hz2)) ((G17  x1 z2.2 h))
  · rw [if_neg c7] at h
    by_cases c14 : (z2.2.1 2) ≤ 0
    · rw [if_pos c14] at h
      exact Gk.tr (Gk.tr (Gk.rf (F := 2) (P := 3)) (g_Model_next hz2)) ((G22  x1 (0 : Int32) z2.2 h))
    · rw [if_neg c14] at h
      exact Gk.tr (Gk.tr (Gk.rf (F := 2) (P := 3)) (g_Model_next hz2)) ((G17  x1 z2.2 h))
theorem g_Model_order {n : Nat} {x1 : Int32} {x2 : Int32} {t : St} {z : St} (h : m_Model_order n x1 x2 t = some z) : Gk 2 3 t z := by
  have G157 : ∀ (K62 : Int32 → Int32 → Int32 → St → Option (St)) (hK62 : ∀ (x2 : Int32) (x3 : Int32) (x4 : Int32) (t : St), K62 x2 x3 x4 t = some z → Gk 2 3 t z) (x2 : Int32) (x3 : Int32) (x4 : Int32) (t : St), m_Model_order_157 n K62 x2 x3 x4 t = some z → Gk 2 3 t z := by
    intro K62 hK62 x2 x3 x4 t h
    unfold m_Model_order_157 at h
    exact Gk.tr (Gk.rf (F := 2) (P := 3)) ((hK62 x2 x3 (x4 + 1) t h))
  have G136 : ∀ (K62 : Int32 → Int32 → Int32 → St → Option (St)) (hK62 : ∀ (x2 : Int32) (x3 : Int32) (x4 : Int32) (t : St), K62 x2 x3 x4 t = some z → Gk 2 3 t z) (x2 : Int32) (x3 : Int32) (x4 : Int32) (y0 : Int32) (t : St), m_Model_order_136 n K62 x2 x3 x4 y0 t = some z → Gk 2 3 t z := by
    intro K62 hK62 x2 x3 x4 y0 t h
    unfold m_Model_order_136 at h
    by_cases c140 : y0 = 0
    · rw [if_pos c140] at h
      obtain ⟨z152, hz152, h⟩ := j_bind h
      exact Gk.tr (Gk.tr (Gk.rf (F := 2) (P := 3)) (g_Model_wrong hz152 (by decide))) ((G157 K62 hK62 x2 x3 x4 z152.2 h))
    · rw [if_neg c140] at h
      exact Gk.tr (Gk.rf (F := 2) (P := 3)) ((G157 K62 hK62 x2 x3 x4 t h))
  have G135 : ∀ (K62 : Int32 → Int32 → Int32 → St → Option (St)) (hK62 : ∀ (x2 : Int32) (x3 : Int32) (x4 : Int32) (t : St), K62 x2 x3 x4 t = some z → Gk 2 3 t z) (x2 : Int32) (x3 : Int32) (x4 : Int32) (t : St), m_Model_order_135 n K62 x2 x3 x4 t = some z → Gk 2 3 t z := by
    intro K62 hK62 x2 x3 x4 t h
    unfold m_Model_order_135 at h
    exact Gk.tr (Gk.rf (F := 2) (P := 3)) ((G136 K62 hK62 x2 x3 x4 (0 : Int32) t h))
  have G62 : ∀ (k : Nat) (x2 : Int32) (x3 : Int32) (x4 : Int32) (t : St), m_Model_order_62 n  k x2 x3 x4 t = some z → Gk 2 3 t z := by
    intro k
    induction k with
    | zero => intro x2 x3 x4 t h; exact absurd (show none = some z from h) (by simp)
    | succ k ih =>
      intro x2 x3 x4 t h
      change m_Model_order_62b n  (m_Model_order_62 n  k) x2 x3 x4 t = some z at h
      unfold m_Model_order_62b at h
      by_cases c68 : (t.1 18) < x4
      · rw [if_pos c68] at h
        exact Gk.cast (Gk.rf (F := 2) (P := 3)) (j_s h)
      · rw [if_neg c68] at h
        by_cases c72 : x2 = 0
        · rw [if_pos c72] at h
          exact Gk.cast (Gk.rf (F := 2) (P := 3)) (j_s h)
        · rw [if_neg c72] at h
          obtain ⟨b83, h⟩ := j_ifn h
          by_cases c84 : 0 ≤ ((t.2.1 13) ((x3 + x4)).toNatClampNeg)
          · rw [if_pos c84] at h
            by_cases c112 : (t.1 19) = ((t.1 20) + (1 : Int32))
            · rw [if_pos c112] at h
              obtain ⟨b123, h⟩ := j_ifn h
              by_cases c128 : ((t.2.1 13) ((x3 + x4)).toNatClampNeg) = (t.1 19)
              · rw [if_pos c128] at h
                exact Gk.tr (Gk.rf (F := 2) (P := 3)) ((G136 (m_Model_order_62 n  k) ih x2 x3 x4 (1 : Int32) t h))
              · rw [if_neg c128] at h
                exact Gk.tr (Gk.rf (F := 2) (P := 3)) ((G135 (m_Model_order_62 n  k) ih x2 x3 x4 t h))
            · rw [if_neg c112] at h
              exact Gk.tr (Gk.rf (F := 2) (P := 3)) ((G135 (m_Model_order_62 n  k) ih x2 x3 x4 t h))
          · rw [if_neg c84] at h
            by_cases c91 : (t.1 19) = 0
            · rw [if_pos c91] at h
              exact Gk.tr (Gk.rf (F := 2) (P := 3)) ((G136 (m_Model_order_62 n  k) ih x2 x3 x4 (1 : Int32) t h))
            · rw [if_neg c91] at h
              exact Gk.tr (Gk.rf (F := 2) (P := 3)) ((G136 (m_Model_order_62 n  k) ih x2 x3 x4 (0 : Int32) t h))
  have G56 : ∀ (x2 : Int32) (x3 : Int32) (t : St), m_Model_order_56 n  x2 x3 t = some z → Gk 2 3 t z := by
    intro x2 x3 t h
    unfold m_Model_order_56 at h
    exact Gk.tr (Gk.rf (F := 2) (P := 3)) ((G62  n x2 x3 (t.1 17) t h))
  have G42 : ∀ (x1 : Int32) (x2 : Int32) (x3 : Int32) (t : St), m_Model_order_42 n  x1 x2 x3 t = some z → Gk 2 3 t z := by
    intro x1 x2 x3 t h
    unfold m_Model_order_42 at h
    obtain ⟨b50, h⟩ := j_ifn h
    obtain ⟨z51, hz51, h⟩ := j_bind h
    exact Gk.tr (Gk.tr (Gk.rf (F := 2) (P := 3)) (g_Model_wrong hz51 (by decide))) ((G56  x2 x3 z51.2 h))
  unfold m_Model_order at h
  obtain ⟨b7, h⟩ := j_ifn h
  by_cases c11 : x2 = 0
  · rw [if_pos c11] at h
    obtain ⟨b38, h⟩ := j_ifn h
    by_cases c39 : ((t.2.1 13) (((64 : Int32) * ((t.2.1 14) (x1).toNatClampNeg))).toNatClampNeg) < 0
    · rw [if_pos c39] at h
      exact Gk.tr (Gk.rf (F := 2) (P := 3)) ((G56  x2 ((64 : Int32) * ((t.2.1 14) (x1).toNatClampNeg)) t h))
    · rw [if_neg c39] at h
      exact Gk.tr (Gk.rf (F := 2) (P := 3)) ((G42  x1 x2 ((64 : Int32) * ((t.2.1 14) (x1).toNatClampNeg)) t h))
  · rw [if_neg c11] at h
    by_cases c18 : (t.1 17) ≤ 0
    · rw [if_pos c18] at h
      exact Gk.tr (Gk.rf (F := 2) (P := 3)) ((G56  x2 ((64 : Int32) * ((t.2.1 14) (x1).toNatClampNeg)) t h))
    · rw [if_neg c18] at h
      obtain ⟨b26, h⟩ := j_ifn h
      by_cases c27 : 0 ≤ ((t.2.1 13) (((64 : Int32) * ((t.2.1 14) (x1).toNatClampNeg))).toNatClampNeg)
      · rw [if_pos c27] at h
        exact Gk.tr (Gk.rf (F := 2) (P := 3)) ((G56  x2 ((64 : Int32) * ((t.2.1 14) (x1).toNatClampNeg)) t h))
      · rw [if_neg c27] at h
        exact Gk.tr (Gk.rf (F := 2) (P := 3)) ((G42  x1 x2 ((64 : Int32) * ((t.2.1 14) (x1).toNatClampNeg)) t h))
theorem g_Model_needs {n : Nat} {x1 : Int32} {t : St} {z : St} (h : m_Model_needs n x1 t = some z) : Gk 2 3 t z := by
  have G93 : ∀ (x1 : Int32) (t : St), m_Model_needs_93 n  x1 t = some z → Gk 2 3 t z := by
    intro x1 t h
    unfold m_Model_needs_93 at h
    obtain ⟨b101, h⟩ := j_ifn h
    obtain ⟨z104, hz104, h⟩ := j_bind h
    exact Gk.cast (Gk.tr (Gk.rf (F := 2) (P := 3)) (g_Model_wrong hz104 (by decide))) (j_s h)
  have G70 : ∀ (x1 : Int32) (t : St), m_Model_needs_70 n  x1 t = some z → Gk 2 3 t z := by
    intro x1 t h
    unfold m_Model_needs_70 at h
    by_cases c74 : (t.1 18) ≤ 0
    · rw [if_pos c74] at h
      exact Gk.cast (Gk.rf (F := 2) (P := 3)) (j_s h)
    · rw [if_neg c74] at h
      obtain ⟨b87, h⟩ := j_ifn h
      obtain ⟨b89, h⟩ := j_ifn h
      by_cases c90 : ((t.2.1 8) (((4 : Int32) + ((t.2.1 16) (x1).toNatClampNeg))).toNatClampNeg) = 0
      · rw [if_pos c90] at h
        exact Gk.tr (Gk.rf (F := 2) (P := 3)) ((G93  x1 t h))
      · rw [if_neg c90] at h
        exact Gk.cast (Gk.rf (F := 2) (P := 3)) (j_s h)
  have G51 : ∀ (x1 : Int32) (y0 : Int32) (t : St), m_Model_needs_51 n  x1 y0 t = some z → Gk 2 3 t z := by
    intro x1 y0 t h
    unfold m_Model_needs_51 at h
    by_cases c53 : y0 = 0
    · rw [if_pos c53] at h
      exact Gk.tr (Gk.rf (F := 2) (P := 3)) ((G70  x1 t h))
    · rw [if_neg c53] at h
      obtain ⟨b65, h⟩ := j_ifn h
      obtain ⟨b66, h⟩ := j_ifn h
      by_cases c67 : ((t.2.1 8) (((t.2.1 15) (x1).toNatClampNeg)).toNatClampNeg) = 0
      · rw [if_pos c67] at h
        exact Gk.tr (Gk.rf (F := 2) (P := 3)) ((G93  x1 t h))
      · rw [if_neg c67] at h
        exact Gk.tr (Gk.rf (F := 2) (P := 3)) ((G70  x1 t h))
  have G50 : ∀ (x1 : Int32) (t : St), m_Model_needs_50 n  x1 t = some z → Gk 2 3 t z := by
    intro x1 t h
    unfold m_Model_needs_50 at h
    exact Gk.tr (Gk.rf (F := 2) (P := 3)) ((G51  x1 (0 : Int32) t h))
  have G32 : ∀ (x1 : Int32) (t : St), m_Model_needs_32 n  x1 t = some z → Gk 2 3 t z := by
    intro x1 t h
    unfold m_Model_needs_32 at h
    by_cases c36 : (t.1 17) = 0
    · rw [if_pos c36] at h
      by_cases c43 : (t.1 19) = 0
      · rw [if_pos c43] at h
        exact Gk.tr (Gk.rf (F := 2) (P := 3)) ((G51  x1 (1 : Int32) t h))
      · rw [if_neg c43] at h
        exact Gk.tr (Gk.rf (F := 2) (P := 3)) ((G50  x1 t h))
    · rw [if_neg c36] at h
      exact Gk.tr (Gk.rf (F := 2) (P := 3)) ((G50  x1 t h))
  unfold m_Model_needs at h
  obtain ⟨b13, h⟩ := j_ifn h
  obtain ⟨b14, h⟩ := j_ifn h
  obtain ⟨b15, h⟩ := j_ifn h
  by_cases c16 : ((t.2.1 6) (((t.2.1 5) (((t.2.1 14) (x1).toNatClampNeg)).toNatClampNeg)).toNatClampNeg) = 0
  · rw [if_pos c16] at h
    obtain ⟨b27, h⟩ := j_ifn h
    obtain ⟨z28, hz28, h⟩ := j_bind h
    exact Gk.tr (Gk.tr (Gk.rf (F := 2) (P := 3)) (g_Model_wrong hz28 (by decide))) ((G32  x1 z28.2 h))
  · rw [if_neg c16] at h
    exact Gk.tr (Gk.rf (F := 2) (P := 3)) ((G32  x1 t h))
theorem g_Model_readScan {n : Nat}  {t : St} {z : St} (h : m_Model_readScan n t = some z) : Gk 2 3 t z := by
  have G507 : ∀ (k : Nat) (x5 : Int32) (t : St), m_Model_readScan_507 n  k x5 t = some z → Gk 2 3 t z := by
    intro k
    induction k with
    | zero => intro x5 t h; exact absurd (show none = some z from h) (by simp)
    | succ k ih =>
      intro x5 t h
      change m_Model_readScan_507b n  (m_Model_readScan_507 n  k) x5 t = some z at h
      unfold m_Model_readScan_507b at h
      by_cases c513 : (t.1 15) ≤ x5
      · rw [if_pos c513] at h
        exact Gk.cast (Gk.rf (F := 2) (P := 3)) (j_s h)
      · rw [if_neg c513] at h
        by_cases c520 : (t.1 2) = 0
        · rw [if_pos c520] at h
          obtain ⟨z526, hz526, h⟩ := j_bind h
          exact Gk.tr (Gk.tr (Gk.rf (F := 2) (P := 3)) (g_Model_needs hz526)) ((ih (x5 + 1) z526 h))
        · rw [if_neg c520] at h
          exact Gk.cast (Gk.rf (F := 2) (P := 3)) (j_s h)
  have G504 : ∀  (t : St), m_Model_readScan_504 n   t = some z → Gk 2 3 t z := by
    intro  t h
    unfold m_Model_readScan_504 at h
    exact Gk.tr (Gk.rf (F := 2) (P := 3)) ((G507  n (0 : Int32) t h))
  have G475 : ∀ (k : Nat) (x3 : Int32) (x5 : Int32) (t : St), m_Model_readScan_475 n  k x3 x5 t = some z → Gk 2 3 t z := by
    intro k
    induction k with
    | zero => intro x3 x5 t h; exact absurd (show none = some z from h) (by simp)
    | succ k ih =>
      intro x3 x5 t h
      change m_Model_readScan_475b n  (m_Model_readScan_475 n  k) x3 x5 t = some z at h
      unfold m_Model_readScan_475b at h
      by_cases c481 : (t.1 15) ≤ x5
      · rw [if_pos c481] at h
        exact Gk.tr (Gk.rf (F := 2) (P := 3)) ((G504  t h))
      · rw [if_neg c481] at h
        by_cases c488 : (t.1 2) = 0
        · rw [if_pos c488] at h
          obtain ⟨z495, hz495, h⟩ := j_bind h
          exact Gk.tr (Gk.tr (Gk.rf (F := 2) (P := 3)) (g_Model_order hz495)) ((ih x3 (x5 + 1) z495 h))
        · rw [if_neg c488] at h
          exact Gk.tr (Gk.rf (F := 2) (P := 3)) ((G504  t h))
  have G469 : ∀ (x3 : Int32) (y1 : Int32) (t : St), m_Model_readScan_469 n  x3 y1 t = some z → Gk 2 3 t z := by
    intro x3 y1 t h
    unfold m_Model_readScan_469 at h
    obtain ⟨z469, hz469, h⟩ := j_bind h
    exact Gk.tr (Gk.tr (Gk.rf (F := 2) (P := 3)) (g_Model_must hz469)) ((G475  n x3 (0 : Int32) z469 h))
  have G464 : ∀ (x3 : Int32) (t : St), m_Model_readScan_464 n  x3 t = some z → Gk 2 3 t z := by
    intro x3 t h
    unfold m_Model_readScan_464 at h
    exact Gk.tr (Gk.rf (F := 2) (P := 3)) ((G469  x3 (1 : Int32) t h))
  have G468 : ∀ (x3 : Int32) (t : St), m_Model_readScan_468 n  x3 t = some z → Gk 2 3 t z := by
    intro x3 t h
    unfold m_Model_readScan_468 at h
    exact Gk.tr (Gk.rf (F := 2) (P := 3)) ((G469  x3 (0 : Int32) t h))
  have G388 : ∀ (x3 : Int32) (y1 : Int32) (t : St), m_Model_readScan_388 n  x3 y1 t = some z → Gk 2 3 t z := by
    intro x3 y1 t h
    unfold m_Model_readScan_388 at h
    obtain ⟨z388, hz388, h⟩ := j_bind h
    obtain ⟨z392, hz392, h⟩ := j_bind h
    by_cases c420 : 0 < (z392.2.1 2)
    · rw [if_pos c420] at h
      exact Gk.tr (Gk.g (Gk.g (Gk.tr (Gk.tr (Gk.rf (F := 2) (P := 3)) (g_Model_must hz388)) (g_Model_next hz392)) (by decide) (by decide)) (by decide) (by decide)) ((G464  x3 (sG (sG z392.2 19 (z392.1 / (16 : Int32))) 20 (z392.1 - z392.1 / (16 : Int32) * (16 : Int32))) h))
    · rw [if_neg c420] at h
      by_cases c424 : x3 = 0
      · rw [if_pos c424] at h
        by_cases c461 : z392.1 = 0
        · rw [if_pos c461] at h
          exact Gk.tr (Gk.g (Gk.g (Gk.tr (Gk.tr (Gk.rf (F := 2) (P := 3)) (g_Model_must hz388)) (g_Model_next hz392)) (by decide) (by decide)) (by decide) (by decide)) ((G464  x3 (sG (sG z392.2 19 (z392.1 / (16 : Int32))) 20 (z392.1 - z392.1 / (16 : Int32) * (16 : Int32))) h))
        · rw [if_neg c461] at h
          exact Gk.tr (Gk.g (Gk.g (Gk.tr (Gk.tr (Gk.rf (F := 2) (P := 3)) (g_Model_must hz388)) (g_Model_next hz392)) (by decide) (by decide)) (by decide) (by decide)) ((G468  x3 (sG (sG z392.2 19 (z392.1 / (16 : Int32))) 20 (z392.1 - z392.1 / (16 : Int32) * (16 : Int32))) h))
      · rw [if_neg c424] at h
        by_cases c433 : (13 : Int32) < (z392.1 - z392.1 / (16 : Int32) * (16 : Int32))
        · rw [if_pos c433] at h
          exact Gk.tr (Gk.g (Gk.g (Gk.tr (Gk.tr (Gk.rf (F := 2) (P := 3)) (g_Model_must hz388)) (g_Model_next hz392)) (by decide) (by decide)) (by decide) (by decide)) ((G468  x3 (sG (sG z392.2 19 (z392.1 / (16 : Int32))) 20 (z392.1 - z392.1 / (16 : Int32) * (16 : Int32))) h))
        · rw [if_neg c433] at h
          by_cases c440 : (z392.1 / (16 : Int32)) = 0
          · rw [if_pos c440] at h
            exact Gk.tr (Gk.g (Gk.g (Gk.tr (Gk.tr (Gk.rf (F := 2) (P := 3)) (g_Model_must hz388)) (g_Model_next hz392)) (by decide) (by decide)) (by decide) (by decide)) ((G464  x3 (sG (sG z392.2 19 (z392.1 / (16 : Int32))) 20 (z392.1 - z392.1 / (16 : Int32) * (16 : Int32))) h))
          · rw [if_neg c440] at h
            by_cases c453 : (z392.1 / (16 : Int32)) = ((z392.1 - z392.1 / (16 : Int32) * (16 : Int32)) + (1 : Int32))
            · rw [if_pos c453] at h
              exact Gk.tr (Gk.g (Gk.g (Gk.tr (Gk.tr (Gk.rf (F := 2) (P := 3)) (g_Model_must hz388)) (g_Model_next hz392)) (by decide) (by decide)) (by decide) (by decide)) ((G464  x3 (sG (sG z392.2 19 (z392.1 / (16 : Int32))) 20 (z392.1 - z392.1 / (16 : Int32) * (16 : Int32))) h))
            · rw [if_neg c453] at h
              exact Gk.tr (Gk.g (Gk.g (Gk.tr (Gk.tr (Gk.rf (F := 2) (P := 3)) (g_Model_must hz388)) (g_Model_next hz392)) (by decide) (by decide)) (by decide) (by decide)) ((G468  x3 (sG (sG z392.2 19 (z392.1 / (16 : Int32))) 20 (z392.1 - z392.1 / (16 : Int32) * (16 : Int32))) h))
  have G383 : ∀ (x3 : Int32) (t : St), m_Model_readScan_383 n  x3 t = some z → Gk 2 3 t z := by
    intro x3 t h
    unfold m_Model_readScan_383 at h
    exact Gk.tr (Gk.rf (F := 2) (P := 3)) ((G388  x3 (1 : Int32) t h))
  have G387 : ∀ (x3 : Int32) (t : St), m_Model_readScan_387 n  x3 t = some z → Gk 2 3 t z := by
    intro x3 t h
    unfold m_Model_readScan_387 at h
    exact Gk.tr (Gk.rf (F := 2) (P := 3)) ((G388  x3 (0 : Int32) t h))
  have G311 : ∀ (x3 : Int32) (y1 : Int32) (t : St), m_Model_readScan_311 n  x3 y1 t = some z → Gk 2 3 t z := by
    intro x3 y1 t h
    unfold m_Model_readScan_311 at h
    obtain ⟨z311, hz311, h⟩ := j_bind h
    obtain ⟨z316, hz316, h⟩ := j_bind h
    by_cases c327 : 0 < (z316.2.1 2)
    · rw [if_pos c327] at h
      exact Gk.tr (Gk.g (Gk.tr (Gk.tr (Gk.rf (F := 2) (P := 3)) (g_Model_must hz311)) (g_Model_next hz316)) (by decide) (by decide)) ((G383  x3 (sG z316.2 18 z316.1) h))
    · rw [if_neg c327] at h
      by_cases c331 : x3 = 0
      · rw [if_pos c331] at h
        by_cases c340 : z316.1 = (63 : Int32)
        · rw [if_pos c340] at h
          exact Gk.tr (Gk.g (Gk.tr (Gk.tr (Gk.rf (F := 2) (P := 3)) (g_Model_must hz311)) (g_Model_next hz316)) (by decide) (by decide)) ((G383  x3 (sG z316.2 18 z316.1) h))
        · rw [if_neg c340] at h
          exact Gk.tr (Gk.g (Gk.tr (Gk.tr (Gk.rf (F := 2) (P := 3)) (g_Model_must hz311)) (g_Model_next hz316)) (by decide) (by decide)) ((G387  x3 (sG z316.2 18 z316.1) h))
      · rw [if_neg c331] at h
        by_cases c350 : (z316.2.1 17) = 0
        · rw [if_pos c350] at h
          by_cases c357 : z316.1 = 0
          · rw [if_pos c357] at h
            exact Gk.tr (Gk.g (Gk.tr (Gk.tr (Gk.rf (F := 2) (P := 3)) (g_Model_must hz311)) (g_Model_next hz316)) (by decide) (by decide)) ((G383  x3 (sG z316.2 18 z316.1) h))
          · rw [if_neg c357] at h
            exact Gk.tr (Gk.g (Gk.tr (Gk.tr (Gk.rf (F := 2) (P := 3)) (g_Model_must hz311)) (g_Model_next hz316)) (by decide) (by decide)) ((G387  x3 (sG z316.2 18 z316.1) h))
        · rw [if_neg c350] at h
          by_cases c371 : z316.1 < (z316.2.1 17)
          · rw [if_pos c371] at h
            exact Gk.tr (Gk.g (Gk.tr (Gk.tr (Gk.rf (F := 2) (P := 3)) (g_Model_must hz311)) (g_Model_next hz316)) (by decide) (by decide)) ((G387  x3 (sG z316.2 18 z316.1) h))
          · rw [if_neg c371] at h
            by_cases c380 : (64 : Int32) ≤ z316.1
            · rw [if_pos c380] at h
              exact Gk.tr (Gk.g (Gk.tr (Gk.tr (Gk.rf (F := 2) (P := 3)) (g_Model_must hz311)) (g_Model_next hz316)) (by decide) (by decide)) ((G387  x3 (sG z316.2 18 z316.1) h))
            · rw [if_neg c380] at h
              exact Gk.tr (Gk.g (Gk.tr (Gk.tr (Gk.rf (F := 2) (P := 3)) (g_Model_must hz311)) (g_Model_next hz316)) (by decide) (by decide)) ((G383  x3 (sG z316.2 18 z316.1) h))
  have G306 : ∀ (x3 : Int32) (t : St), m_Model_readScan_306 n  x3 t = some z → Gk 2 3 t z := by
    intro x3 t h
    unfold m_Model_readScan_306 at h
    exact Gk.tr (Gk.rf (F := 2) (P := 3)) ((G311  x3 (1 : Int32) t h))
  have G310 : ∀ (x3 : Int32) (t : St), m_Model_readScan_310 n  x3 t = some z → Gk 2 3 t z := by
    intro x3 t h
    unfold m_Model_readScan_310 at h
    exact Gk.tr (Gk.rf (F := 2) (P := 3)) ((G311  x3 (0 : Int32) t h))
  have G251 : ∀ (y0 : Int32) (t : St), m_Model_readScan_251 n  y0 t = some z → Gk 2 3 t z := by
    intro y0 t h
    unfold m_Model_readScan_251 at h
    obtain ⟨z254, hz254, h⟩ := j_bind h
    by_cases c265 : 0 < (z254.2.1 2)
    · rw [if_pos c265] at h
      exact Gk.tr (Gk.g (Gk.tr (Gk.rf (F := 2) (P := 3)) (g_Model_next hz254)) (by decide) (by decide)) ((G306  y0 (sG z254.2 17 z254.1) h))
    · rw [if_neg c265] at h
      by_cases c269 : y0 = 0
      · rw [if_pos c269] at h
        by_cases c303 : z254.1 = 0
        · rw [if_pos c303] at h
          exact Gk.tr (Gk.g (Gk.tr (Gk.rf (F := 2) (P := 3)) (g_Model_next hz254)) (by decide) (by decide)) ((G306  y0 (sG z254.2 17 z254.1) h))
        · rw [if_neg c303] at h
          exact Gk.tr (Gk.g (Gk.tr (Gk.rf (F := 2) (P := 3)) (g_Model_next hz254)) (by decide) (by decide)) ((G310  y0 (sG z254.2 17 z254.1) h))
      · rw [if_neg c269] at h
        by_cases c278 : (64 : Int32) ≤ z254.1
        · rw [if_pos c278] at h
          exact Gk.tr (Gk.g (Gk.tr (Gk.rf (F := 2) (P := 3)) (g_Model_next hz254)) (by decide) (by decide)) ((G310  y0 (sG z254.2 17 z254.1) h))
        · rw [if_neg c278] at h
          by_cases c285 : z254.1 = 0
          · rw [if_pos c285] at h
            exact Gk.tr (Gk.g (Gk.tr (Gk.rf (F := 2) (P := 3)) (g_Model_next hz254)) (by decide) (by decide)) ((G306  y0 (sG z254.2 17 z254.1) h))
          · rw [if_neg c285] at h
            by_cases c293 : (z254.2.1 15) = (1 : Int32)
            · rw [if_pos c293] at h
              exact Gk.tr (Gk.g (Gk.tr (Gk.rf (F := 2) (P := 3)) (g_Model_next hz254)) (by decide) (by decide)) ((G306  y0 (sG z254.2 17 z254.1) h))
            · rw [if_neg c293] at h
              exact Gk.tr (Gk.g (Gk.tr (Gk.rf (F := 2) (P := 3)) (g_Model_next hz254)) (by decide) (by decide)) ((G310  y0 (sG z254.2 17 z254.1) h))
  have G236 : ∀  (t : St), m_Model_readScan_236 n   t = some z → Gk 2 3 t z := by
    intro  t h
    unfold m_Model_readScan_236 at h
    by_cases c243 : (t.1 9) = (194 : Int32)
    · rw [if_pos c243] at h
      exact Gk.tr (Gk.rf (F := 2) (P := 3)) ((G251  (1 : Int32) t h))
    · rw [if_neg c243] at h
      exact Gk.tr (Gk.rf (F := 2) (P := 3)) ((G251  (0 : Int32) t h))
  have G227 : ∀ (K45 : Int32 → Int32 → Int32 → St → Option (St)) (hK45 : ∀ (x1 : Int32) (x2 : Int32) (x3 : Int32) (t : St), K45 x1 x2 x3 t = some z → Gk 2 3 t z) (x1 : Int32) (x2 : Int32) (x3 : Int32) (y1 : Int32) (t : St), m_Model_readScan_227 n K45 x1 x2 x3 y1 t = some z → Gk 2 3 t z := by
    intro K45 hK45 x1 x2 x3 y1 t h
    unfold m_Model_readScan_227 at h
    obtain ⟨z227, hz227, h⟩ := j_bind h
    exact Gk.tr (Gk.tr (Gk.rf (F := 2) (P := 3)) (g_Model_must hz227)) ((hK45 x1 x2 (x3 + 1) z227 h))
  have G222 : ∀ (K45 : Int32 → Int32 → Int32 → St → Option (St)) (hK45 : ∀ (x1 : Int32) (x2 : Int32) (x3 : Int32) (t : St), K45 x1 x2 x3 t = some z → Gk 2 3 t z) (x1 : Int32) (x2 : Int32) (x3 : Int32) (t : St), m_Model_readScan_222 n K45 x1 x2 x3 t = some z → Gk 2 3 t z := by
    intro K45 hK45 x1 x2 x3 t h
    unfold m_Model_readScan_222 at h
    exact Gk.tr (Gk.rf (F := 2) (P := 3)) ((G227 K45 hK45 x1 x2 x3 (1 : Int32) t h))
  have G226 : ∀ (K45 : Int32 → Int32 → Int32 → St → Option (St)) (hK45 : ∀ (x1 : Int32) (x2 : Int32) (x3 : Int32) (t : St), K45 x1 x2 x3 t = some z → Gk 2 3 t z) (x1 : Int32) (x2 : Int32) (x3 : Int32) (t : St), m_Model_readScan_226 n K45 x1 x2 x3 t = some z → Gk 2 3 t z := by
    intro K45 hK45 x1 x2 x3 t h
    unfold m_Model_readScan_226 at h
    exact Gk.tr (Gk.rf (F := 2) (P := 3)) ((G227 K45 hK45 x1 x2 x3 (0 : Int32) t h))
  have G166 : ∀ (K45 : Int32 → Int32 → Int32 → St → Option (St)) (hK45 : ∀ (x1 : Int32) (x2 : Int32) (x3 : Int32) (t : St), K45 x1 x2 x3 t = some z → Gk 2 3 t z) (x1 : Int32) (x2 : Int32) (x3 : Int32) (t : St), m_Model_readScan_166 n K45 x1 x2 x3 t = some z → Gk 2 3 t z := by
    intro K45 hK45 x1 x2 x3 t h
    unfold m_Model_readScan_166 at h
    obtain ⟨z167, hz167, h⟩ := j_bind h
    obtain ⟨b182, h⟩ := j_ifn h
    obtain ⟨w193, hw193, h⟩ := j_bind h
    obtain ⟨b193, h⟩ := j_ifn h
    by_cases c199 : 0 < (w193.1 2)
    · rw [if_pos c199] at h
      exact Gk.tr (Gk.h (Gk.cast (Gk.h (Gk.tr (Gk.rf (F := 2) (P := 3)) (g_Model_next hz167))) (j_s hw193))) ((G222 K45 hK45 x1 x2 x3 (sH w193 16 (x3).toNatClampNeg (z167.1 - z167.1 / (16 : Int32) * (16 : Int32))) h))
    · rw [if_neg c199] at h
      obtain ⟨b207, h⟩ := j_ifn h
      by_cases c209 : (4 : Int32) ≤ ((w193.2.1 15) (x3).toNatClampNeg)
      · rw [if_pos c209] at h
        exact Gk.tr (Gk.h (Gk.cast (Gk.h (Gk.tr (Gk.rf (F := 2) (P := 3)) (g_Model_next hz167))) (j_s hw193))) ((G226 K45 hK45 x1 x2 x3 (sH w193 16 (x3).toNatClampNeg (z167.1 - z167.1 / (16 : Int32) * (16 : Int32))) h))
      · rw [if_neg c209] at h
        obtain ⟨b217, h⟩ := j_ifn h
        by_cases c219 : (4 : Int32) ≤ (((sH w193 16 (x3).toNatClampNeg (z167.1 - z167.1 / (16 : Int32) * (16 : Int32))).2.1 16) (x3).toNatClampNeg)
        · rw [if_pos c219] at h
          exact Gk.tr (Gk.h (Gk.cast (Gk.h (Gk.tr (Gk.rf (F := 2) (P := 3)) (g_Model_next hz167))) (j_s hw193))) ((G226 K45 hK45 x1 x2 x3 (sH w193 16 (x3).toNatClampNeg (z167.1 - z167.1 / (16 : Int32) * (16 : Int32))) h))
        · rw [if_neg c219] at h
          exact Gk.tr (Gk.h (Gk.cast (Gk.h (Gk.tr (Gk.rf (F := 2) (P := 3)) (g_Model_next hz167))) (j_s hw193))) ((G222 K45 hK45 x1 x2 x3 (sH w193 16 (x3).toNatClampNeg (z167.1 - z167.1 / (16 : Int32) * (16 : Int32))) h))
  have G163 : ∀ (K45 : Int32 → Int32 → Int32 → St → Option (St)) (hK45 : ∀ (x1 : Int32) (x2 : Int32) (x3 : Int32) (t : St), K45 x1 x2 x3 t = some z → Gk 2 3 t z) (x1 : Int32) (x2 : Int32) (x3 : Int32) (y1 : Int32) (t : St), m_Model_readScan_163 n K45 x1 x2 x3 y1 t = some z → Gk 2 3 t z := by
    intro K45 hK45 x1 x2 x3 y1 t h
    unfold m_Model_readScan_163 at h
    obtain ⟨z163, hz163, h⟩ := j_bind h
    exact Gk.tr (Gk.tr (Gk.rf (F := 2) (P := 3)) (g_Model_must hz163)) ((G166 K45 hK45 x1 x2 x3 z163 h))
  have G158 : ∀ (K45 : Int32 → Int32 → Int32 → St → Option (St)) (hK45 : ∀ (x1 : Int32) (x2 : Int32) (x3 : Int32) (t : St), K45 x1 x2 x3 t = some z → Gk 2 3 t z) (x1 : Int32) (x2 : Int32) (x3 : Int32) (t : St), m_Model_readScan_158 n K45 x1 x2 x3 t = some z → Gk 2 3 t z := by
    intro K45 hK45 x1 x2 x3 t h
    unfold m_Model_readScan_158 at h
    exact Gk.tr (Gk.rf (F := 2) (P := 3)) ((G163 K45 hK45 x1 x2 x3 (1 : Int32) t h))
  have G107 : ∀ (K45 : Int32 → Int32 → Int32 → St → Option (St)) (hK45 : ∀ (x1 : Int32) (x2 : Int32) (x3 : Int32) (t : St), K45 x1 x2 x3 t = some z → Gk 2 3 t z) (x1 : Int32) (x2 : Int32) (x3 : Int32) (x4 : Int32) (t : St), m_Model_readScan_107 n K45 x1 x2 x3 x4 t = some z → Gk 2 3 t z := by
    intro K45 hK45 x1 x2 x3 x4 t h
    unfold m_Model_readScan_107 at h
    by_cases c111 : (t.1 2) = 0
    · rw [if_pos c111] at h
      obtain ⟨b121, h⟩ := j_ifn h
      obtain ⟨b132, h⟩ := j_ifn h
      obtain ⟨b139, h⟩ := j_ifn h
      by_cases c149 : (t.1 15) = (1 : Int32)
      · rw [if_pos c149] at h
        exact Gk.tr (Gk.h (Gk.rf (F := 2) (P := 3))) ((G158 K45 hK45 (x1 + (((t.2.1 3) (x4).toNatClampNeg) * ((t.2.1 4) (x4).toNatClampNeg))) x4 x3 (sH t 14 (x3).toNatClampNeg x4) h))
      · rw [if_neg c149] at h
        by_cases c155 : (10 : Int32) < (x1 + (((t.2.1 3) (x4).toNatClampNeg) * ((t.2.1 4) (x4).toNatClampNeg)))
        · rw [if_pos c155] at h
          exact Gk.tr (Gk.h (Gk.rf (F := 2) (P := 3))) ((G163 K45 hK45 (x1 + (((t.2.1 3) (x4).toNatClampNeg) * ((t.2.1 4) (x4).toNatClampNeg))) x4 x3 (0 : Int32) (sH t 14 (x3).toNatClampNeg x4) h))
        · rw [if_neg c155] at h
          exact Gk.tr (Gk.h (Gk.rf (F := 2) (P := 3))) ((G158 K45 hK45 (x1 + (((t.2.1 3) (x4).toNatClampNeg) * ((t.2.1 4) (x4).toNatClampNeg))) x4 x3 (sH t 14 (x3).toNatClampNeg x4) h))
    · rw [if_neg c111] at h
      exact Gk.tr (Gk.rf (F := 2) (P := 3)) ((G166 K45 hK45 x1 x2 x3 t h))
  have G45 : ∀ (k : Nat) (x1 : Int32) (x2 : Int32) (x3 : Int32) (t : St), m_Model_readScan_45 n  k x1 x2 x3 t = some z → Gk 2 3 t z := by
    intro k
    induction k with
    | zero => intro x1 x2 x3 t h; exact absurd (show none = some z from h) (by simp)
    | succ k ih =>
      intro x1 x2 x3 t h
      change m_Model_readScan_45b n  (m_Model_readScan_45 n  k) x1 x2 x3 t = some z at h
      unfold m_Model_readScan_45b at h
      by_cases c50 : (t.1 15) ≤ x3
      · rw [if_pos c50] at h
        exact Gk.tr (Gk.rf (F := 2) (P := 3)) ((G236  t h))
      · rw [if_neg c50] at h
        by_cases c57 : (t.1 2) = 0
        · rw [if_pos c57] at h
          obtain ⟨b69, h⟩ := j_ifn h
          obtain ⟨z72, hz72, h⟩ := j_bind h
          obtain ⟨z75, hz75, h⟩ := j_bind h
          by_cases c84 : (z75.2.1 2) = 0
          · rw [if_pos c84] at h
            by_cases c90 : x2 < z75.1
            · rw [if_pos c90] at h
              exact Gk.tr (Gk.tr (Gk.tr (Gk.h (Gk.rf (F := 2) (P := 3))) (g_Model_next hz72)) (Gk.x (x_Model_named hz75) (by decide) (by decide))) ((G107 (m_Model_readScan_45 n  k) ih x1 x2 x3 z75.1 z75.2 h))
            · rw [if_neg c90] at h
              obtain ⟨b101, h⟩ := j_ifn h
              obtain ⟨z102, hz102, h⟩ := j_bind h
              exact Gk.tr (Gk.tr (Gk.tr (Gk.tr (Gk.h (Gk.rf (F := 2) (P := 3))) (g_Model_next hz72)) (Gk.x (x_Model_named hz75) (by decide) (by decide))) (g_Model_wrong hz102 (by decide))) ((G107 (m_Model_readScan_45 n  k) ih x1 x2 x3 z75.1 z102.2 h))
          · rw [if_neg c84] at h
            exact Gk.tr (Gk.tr (Gk.tr (Gk.h (Gk.rf (F := 2) (P := 3))) (g_Model_next hz72)) (Gk.x (x_Model_named hz75) (by decide) (by decide))) ((G107 (m_Model_readScan_45 n  k) ih x1 x2 x3 z75.1 z75.2 h))
        · rw [if_neg c57] at h
          exact Gk.tr (Gk.rf (F := 2) (P := 3)) ((G236  t h))
  have G36 : ∀ (y1 : Int32) (t : St), m_Model_readScan_36 n  y1 t = some z → Gk 2 3 t z := by
    intro y1 t h
    unfold m_Model_readScan_36 at h
    obtain ⟨z36, hz36, h⟩ := j_bind h
    exact Gk.tr (Gk.tr (Gk.rf (F := 2) (P := 3)) (g_Model_must hz36)) ((G45  n (0 : Int32) (-1 : Int32) (0 : Int32) z36 h))
  have G31 : ∀  (t : St), m_Model_readScan_31 n   t = some z → Gk 2 3 t z := by
    intro  t h
    unfold m_Model_readScan_31 at h
    exact Gk.tr (Gk.rf (F := 2) (P := 3)) ((G36  (1 : Int32) t h))
  have G35 : ∀  (t : St), m_Model_readScan_35 n   t = some z → Gk 2 3 t z := by
    intro  t h
    unfold m_Model_readScan_35 at h
    exact Gk.tr (Gk.rf (F := 2) (P := 3)) ((G36  (0 : Int32) t h))
  unfold m_Model_readScan at h
  obtain ⟨z2, hz2, h⟩ := j_bind h
  by_cases c13 : 0 < (z2.2.1 2)
  · rw [if_pos c13] at h
    exact Gk.tr (Gk.g (Gk.tr (Gk.rf (F := 2) (P := 3)) (g_Model_next hz2)) (by decide) (by decide)) ((G31  (sG z2.2 15 z2.1) h))
  · rw [if_neg c13] at h
    by_cases c20 : z2.1 ≤ 0
    · rw [if_pos c20] at h
      exact Gk.tr (Gk.g (Gk.tr (Gk.rf (F := 2) (P := 3)) (g_Model_next hz2)) (by decide) (by decide)) ((G35  (sG z2.2 15 z2.1) h))
    · rw [if_neg c20] at h
      by_cases c28 : (5 : Int32) ≤ z2.1
      · rw [if_pos c28] at h
        exact Gk.tr (Gk.g (Gk.tr (Gk.rf (F := 2) (P := 3)) (g_Model_next hz2)) (by decide) (by decide)) ((G35  (sG z2.2 15 z2.1) h))
      · rw [if_neg c28] at h
        exact Gk.tr (Gk.g (Gk.tr (Gk.rf (F := 2) (P := 3)) (g_Model_next hz2)) (by decide) (by decide)) ((G31  (sG z2.2 15 z2.1) h))
theorem g_Model_any {n : Nat}  {t : St} {z : St} (h : m_Model_any n t = some z) : Gk 2 3 t z := by
  have G0 : ∀ (k : Nat)  (t : St), m_Model_any_0 n  k  t = some z → Gk 2 3 t z := by
    intro k
    induction k with
    | zero => intro  t h; exact absurd (show none = some z from h) (by simp)
    | succ k ih =>
      intro  t h
      change m_Model_any_0b n  (m_Model_any_0 n  k)  t = some z at h
      unfold m_Model_any_0b at h
      by_cases c4 : (t.1 2) = 0
      · rw [if_pos c4] at h
        by_cases c15 : (t.1 5) ≤ (t.1 4)
        · rw [if_pos c15] at h
          exact Gk.cast (Gk.rf (F := 2) (P := 3)) (j_s h)
        · rw [if_neg c15] at h
          obtain ⟨z19, hz19, h⟩ := j_bind h
          exact Gk.tr (Gk.tr (Gk.rf (F := 2) (P := 3)) (g_Model_next hz19)) ((ih z19.2 h))
      · rw [if_neg c4] at h
        exact Gk.cast (Gk.rf (F := 2) (P := 3)) (j_s h)
  unfold m_Model_any at h
  by_cases c4 : (t.1 2) = 0
  · rw [if_pos c4] at h
    by_cases c15 : (t.1 5) ≤ (t.1 4)
    · rw [if_pos c15] at h
      exact Gk.cast (Gk.rf (F := 2) (P := 3)) (j_s h)
    · rw [if_neg c15] at h
      obtain ⟨z19, hz19, h⟩ := j_bind h
      exact Gk.tr (Gk.tr (Gk.rf (F := 2) (P := 3)) (g_Model_next hz19)) ((G0  n z19.2 h))
  · rw [if_neg c4] at h
    exact Gk.cast (Gk.rf (F := 2) (P := 3)) (j_s h)
theorem g_Model_close {n : Nat} {x1 : Int32} {t : St} {z : St} (h : m_Model_close n x1 t = some z) : Gk 2 3 t z := by
  have G28 : ∀ (x1 : Int32) (t : St), m_Model_close_28 n  x1 t = some z → Gk 2 3 t z := by
    intro x1 t h
    unfold m_Model_close_28 at h
    by_cases c32 : (t.1 2) = 0
    · rw [if_pos c32] at h
      obtain ⟨b48, h⟩ := j_ifn h
      obtain ⟨w60, hw60, h⟩ := j_bind h
      obtain ⟨b60, h⟩ := j_ifn h
      obtain ⟨w74, hw74, h⟩ := j_bind h
      obtain ⟨b74, h⟩ := j_ifn h
      obtain ⟨w93, hw93, h⟩ := j_bind h
      obtain ⟨b93, h⟩ := j_ifn h
      exact Gk.cast (Gk.g (Gk.g (Gk.h (Gk.cast (Gk.h (Gk.cast (Gk.h (Gk.cast (Gk.h (Gk.rf (F := 2) (P := 3))) (j_s hw60))) (j_s hw74))) (j_s hw93))) (by decide) (by decide)) (by decide) (by decide)) (j_s h)
    · rw [if_neg c32] at h
      exact Gk.cast (Gk.g (Gk.rf (F := 2) (P := 3)) (by decide) (by decide)) (j_s h)
  unfold m_Model_close at h
  by_cases c4 : (t.1 2) = 0
  · rw [if_pos c4] at h
    by_cases c15 : (t.1 4) = (t.1 5)
    · rw [if_pos c15] at h
      exact Gk.tr (Gk.rf (F := 2) (P := 3)) ((G28  x1 t h))
    · rw [if_neg c15] at h
      obtain ⟨z24, hz24, h⟩ := j_bind h
      exact Gk.tr (Gk.tr (Gk.rf (F := 2) (P := 3)) (g_Model_wrong hz24 (by decide))) ((G28  x1 z24.2 h))
  · rw [if_neg c4] at h
    exact Gk.tr (Gk.rf (F := 2) (P := 3)) ((G28  x1 t h))
theorem g_Model_readData {n : Nat} {x1 : Int32} {t : St} {z : St} (h : m_Model_readData n x1 t = some z) : Gk 2 3 t z := by
  have G163 : ∀ (x1 : Int32) (x2 : Int32) (y1 : Int32) (t : St), m_Model_readData_163 n  x1 x2 y1 t = some z → Gk 2 3 t z := by
    intro x1 x2 y1 t h
    unfold m_Model_readData_163 at h
    obtain ⟨b185, h⟩ := j_ifn h
    obtain ⟨b187, h⟩ := j_ifn h
    obtain ⟨w197, hw197, h⟩ := j_bind h
    obtain ⟨b197, h⟩ := j_ifn h
    exact Gk.cast (Gk.g (Gk.h (Gk.cast (Gk.h (Gk.g (Gk.rf (F := 2) (P := 3)) (by decide) (by decide))) (j_s hw197))) (by decide) (by decide)) (j_s h)
  have G142 : ∀ (x1 : Int32) (x2 : Int32) (t : St), m_Model_readData_142 n  x1 x2 t = some z → Gk 2 3 t z := by
    intro x1 x2 t h
    unfold m_Model_readData_142 at h
    by_cases c147 : (t.1 2) = 0
    · rw [if_pos c147] at h
      exact Gk.tr (Gk.rf (F := 2) (P := 3)) ((G163  x1 x2 ((t.1 4) - (2 : Int32)) t h))
    · rw [if_neg c147] at h
      exact Gk.tr (Gk.rf (F := 2) (P := 3)) ((G163  x1 x2 (t.1 4) t h))
  have G139 : ∀ (K4 : Int32 → Int32 → Int32 → St → Option (St)) (hK4 : ∀ (x1 : Int32) (x2 : Int32) (x3 : Int32) (t : St), K4 x1 x2 x3 t = some z → Gk 2 3 t z) (x1 : Int32) (x2 : Int32) (x3 : Int32) (t : St), m_Model_readData_139 n K4 x1 x2 x3 t = some z → Gk 2 3 t z := by
    intro K4 hK4 x1 x2 x3 t h
    unfold m_Model_readData_139 at h
    exact Gk.tr (Gk.rf (F := 2) (P := 3)) ((hK4 x1 x2 x3 t h))
  have G138 : ∀ (K4 : Int32 → Int32 → Int32 → St → Option (St)) (hK4 : ∀ (x1 : Int32) (x2 : Int32) (x3 : Int32) (t : St), K4 x1 x2 x3 t = some z → Gk 2 3 t z) (x1 : Int32) (x2 : Int32) (y0 : Int32) (t : St), m_Model_readData_138 n K4 x1 x2 y0 t = some z → Gk 2 3 t z := by
    intro K4 hK4 x1 x2 y0 t h
    unfold m_Model_readData_138 at h
    exact Gk.tr (Gk.rf (F := 2) (P := 3)) ((G139 K4 hK4 x1 x2 y0 t h))
  have G133 : ∀ (K4 : Int32 → Int32 → Int32 → St → Option (St)) (hK4 : ∀ (x1 : Int32) (x2 : Int32) (x3 : Int32) (t : St), K4 x1 x2 x3 t = some z → Gk 2 3 t z) (x1 : Int32) (x2 : Int32) (t : St), m_Model_readData_133 n K4 x1 x2 t = some z → Gk 2 3 t z := by
    intro K4 hK4 x1 x2 t h
    unfold m_Model_readData_133 at h
    exact Gk.tr (Gk.rf (F := 2) (P := 3)) ((G138 K4 hK4 x1 x2 (1 : Int32) t h))
  have G121 : ∀ (K4 : Int32 → Int32 → Int32 → St → Option (St)) (hK4 : ∀ (x1 : Int32) (x2 : Int32) (x3 : Int32) (t : St), K4 x1 x2 x3 t = some z → Gk 2 3 t z) (x1 : Int32) (x5 : Int32) (x6 : Int32) (y0 : Int32) (y1 : Int32) (t : St), m_Model_readData_121 n K4 x1 x5 x6 y0 y1 t = some z → Gk 2 3 t z := by
    intro K4 hK4 x1 x5 x6 y0 y1 t h
    unfold m_Model_readData_121 at h
    by_cases c125 : x5 = 0
    · rw [if_pos c125] at h
      exact Gk.tr (Gk.rf (F := 2) (P := 3)) ((G133 K4 hK4 x1 (y0 + y1) t h))
    · rw [if_neg c125] at h
      by_cases c130 : x6 = 0
      · rw [if_pos c130] at h
        exact Gk.tr (Gk.rf (F := 2) (P := 3)) ((G138 K4 hK4 x1 (y0 + y1) (0 : Int32) t h))
      · rw [if_neg c130] at h
        exact Gk.tr (Gk.rf (F := 2) (P := 3)) ((G133 K4 hK4 x1 (y0 + y1) t h))
  have G110 : ∀ (K4 : Int32 → Int32 → Int32 → St → Option (St)) (hK4 : ∀ (x1 : Int32) (x2 : Int32) (x3 : Int32) (t : St), K4 x1 x2 x3 t = some z → Gk 2 3 t z) (x1 : Int32) (x2 : Int32) (x5 : Int32) (x6 : Int32) (t : St), m_Model_readData_110 n K4 x1 x2 x5 x6 t = some z → Gk 2 3 t z := by
    intro K4 hK4 x1 x2 x5 x6 t h
    unfold m_Model_readData_110 at h
    by_cases c113 : x6 = 0
    · rw [if_pos c113] at h
      exact Gk.tr (Gk.rf (F := 2) (P := 3)) ((G121 K4 hK4 x1 x5 x6 x2 (0 : Int32) t h))
    · rw [if_neg c113] at h
      exact Gk.tr (Gk.rf (F := 2) (P := 3)) ((G121 K4 hK4 x1 x5 x6 x2 (1 : Int32) t h))
  have G97 : ∀ (K4 : Int32 → Int32 → Int32 → St → Option (St)) (hK4 : ∀ (x1 : Int32) (x2 : Int32) (x3 : Int32) (t : St), K4 x1 x2 x3 t = some z → Gk 2 3 t z) (x1 : Int32) (x2 : Int32) (x5 : Int32) (x6 : Int32) (t : St), m_Model_readData_97 n K4 x1 x2 x5 x6 t = some z → Gk 2 3 t z := by
    intro K4 hK4 x1 x2 x5 x6 t h
    unfold m_Model_readData_97 at h
    obtain ⟨z105, hz105, h⟩ := j_bind h
    exact Gk.tr (Gk.tr (Gk.rf (F := 2) (P := 3)) (g_Model_wrong hz105 (by decide))) ((G110 K4 hK4 x1 x2 x5 x6 z105.2 h))
  have G63 : ∀ (K4 : Int32 → Int32 → Int32 → St → Option (St)) (hK4 : ∀ (x1 : Int32) (x2 : Int32) (x3 : Int32) (t : St), K4 x1 x2 x3 t = some z → Gk 2 3 t z) (x1 : Int32) (x2 : Int32) (x5 : Int32) (y0 : Int32) (t : St), m_Model_readData_63 n K4 x1 x2 x5 y0 t = some z → Gk 2 3 t z := by
    intro K4 hK4 x1 x2 x5 y0 t h
    unfold m_Model_readData_63 at h
    by_cases c69 : (t.1 2) = 0
    · rw [if_pos c69] at h
      by_cases c74 : y0 = 0
      · rw [if_pos c74] at h
        exact Gk.tr (Gk.rf (F := 2) (P := 3)) ((G110 K4 hK4 x1 x2 x5 y0 t h))
      · rw [if_neg c74] at h
        by_cases c81 : (t.1 13) = 0
        · rw [if_pos c81] at h
          exact Gk.tr (Gk.rf (F := 2) (P := 3)) ((G97 K4 hK4 x1 x2 x5 y0 t h))
        · rw [if_neg c81] at h
          by_cases c94 : x5 = ((208 : Int32) + (x2 - x2 / (8 : Int32) * (8 : Int32)))
          · rw [if_pos c94] at h
            exact Gk.tr (Gk.rf (F := 2) (P := 3)) ((G110 K4 hK4 x1 x2 x5 y0 t h))
          · rw [if_neg c94] at h
            exact Gk.tr (Gk.rf (F := 2) (P := 3)) ((G97 K4 hK4 x1 x2 x5 y0 t h))
    · rw [if_neg c69] at h
      exact Gk.tr (Gk.rf (F := 2) (P := 3)) ((G110 K4 hK4 x1 x2 x5 y0 t h))
  have G62 : ∀ (K4 : Int32 → Int32 → Int32 → St → Option (St)) (hK4 : ∀ (x1 : Int32) (x2 : Int32) (x3 : Int32) (t : St), K4 x1 x2 x3 t = some z → Gk 2 3 t z) (x1 : Int32) (x2 : Int32) (x5 : Int32) (t : St), m_Model_readData_62 n K4 x1 x2 x5 t = some z → Gk 2 3 t z := by
    intro K4 hK4 x1 x2 x5 t h
    unfold m_Model_readData_62 at h
    exact Gk.tr (Gk.rf (F := 2) (P := 3)) ((G63 K4 hK4 x1 x2 x5 (0 : Int32) t h))
  have G4 : ∀ (k : Nat) (x1 : Int32) (x2 : Int32) (x3 : Int32) (t : St), m_Model_readData_4 n  k x1 x2 x3 t = some z → Gk 2 3 t z := by
    intro k
    induction k with
    | zero => intro x1 x2 x3 t h; exact absurd (show none = some z from h) (by simp)
    | succ k ih =>
      intro x1 x2 x3 t h
      change m_Model_readData_4b n  (m_Model_readData_4 n  k) x1 x2 x3 t = some z at h
      unfold m_Model_readData_4b at h
      by_cases c5 : x3 = 0
      · rw [if_pos c5] at h
        exact Gk.tr (Gk.rf (F := 2) (P := 3)) ((G142  x1 x2 t h))
      · rw [if_neg c5] at h
        by_cases c12 : (t.1 2) = 0
        · rw [if_pos c12] at h
          obtain ⟨z16, hz16, h⟩ := j_bind h
          by_cases c25 : (z16.2.1 2) = 0
          · rw [if_pos c25] at h
            by_cases c33 : z16.1 = (255 : Int32)
            · rw [if_pos c33] at h
              obtain ⟨z37, hz37, h⟩ := j_bind h
              by_cases c47 : z37.1 < (208 : Int32)
              · rw [if_pos c47] at h
                exact Gk.tr (Gk.tr (Gk.tr (Gk.rf (F := 2) (P := 3)) (g_Model_next hz16)) (g_Model_next hz37)) ((G62 (m_Model_readData_4 n  k) ih x1 x2 z37.1 z37.2 h))
              · rw [if_neg c47] at h
                by_cases c55 : (215 : Int32) < z37.1
                · rw [if_pos c55] at h
                  exact Gk.tr (Gk.tr (Gk.tr (Gk.rf (F := 2) (P := 3)) (g_Model_next hz16)) (g_Model_next hz37)) ((G62 (m_Model_readData_4 n  k) ih x1 x2 z37.1 z37.2 h))
                · rw [if_neg c55] at h
                  exact Gk.tr (Gk.tr (Gk.tr (Gk.rf (F := 2) (P := 3)) (g_Model_next hz16)) (g_Model_next hz37)) ((G63 (m_Model_readData_4 n  k) ih x1 x2 z37.1 (1 : Int32) z37.2 h))
            · rw [if_neg c33] at h
              exact Gk.tr (Gk.tr (Gk.rf (F := 2) (P := 3)) (g_Model_next hz16)) ((G139 (m_Model_readData_4 n  k) ih x1 x2 x3 z16.2 h))
          · rw [if_neg c25] at h
            exact Gk.tr (Gk.tr (Gk.rf (F := 2) (P := 3)) (g_Model_next hz16)) ((G139 (m_Model_readData_4 n  k) ih x1 x2 x3 z16.2 h))
        · rw [if_neg c12] at h
          exact Gk.tr (Gk.rf (F := 2) (P := 3)) ((G142  x1 x2 t h))
  unfold m_Model_readData at h
  exact Gk.tr (Gk.rf (F := 2) (P := 3)) ((G4  n x1 (0 : Int32) (1 : Int32) t h))
theorem g_Model_keepScan {n : Nat}  {t : St} {z : St} (h : m_Model_keepScan n t = some z) : Gk 2 3 t z := by
  have G163 : ∀ (K93 : Int32 → Int32 → St → Option (St)) (hK93 : ∀ (x1 : Int32) (x2 : Int32) (t : St), K93 x1 x2 t = some z → Gk 2 3 t z) (k : Nat) (x1 : Int32) (x2 : Int32) (x3 : Int32) (t : St), m_Model_keepScan_163 n K93 k x1 x2 x3 t = some z → Gk 2 3 t z := by
    intro K93 hK93 k
    induction k with
    | zero => intro x1 x2 x3 t h; exact absurd (show none = some z from h) (by simp)
    | succ k ih =>
      intro x1 x2 x3 t h
      change m_Model_keepScan_163b n K93 (m_Model_keepScan_163 n K93 k) x1 x2 x3 t = some z at h
      unfold m_Model_keepScan_163b at h
      by_cases c168 : (t.1 18) < x3
      · rw [if_pos c168] at h
        exact Gk.tr (Gk.rf (F := 2) (P := 3)) ((hK93 x1 (x2 + 1) t h))
      · rw [if_neg c168] at h
        obtain ⟨b182, h⟩ := j_ifn h
        obtain ⟨b190, h⟩ := j_ifn h
        exact Gk.tr (Gk.h (Gk.rf (F := 2) (P := 3))) ((ih x1 x2 (x3 + 1) (sH t 13 ((((64 : Int32) * ((t.2.1 14) (x2).toNatClampNeg)) + x3)).toNatClampNeg (t.1 20)) h))
  have G93 : ∀ (k : Nat) (x1 : Int32) (x2 : Int32) (t : St), m_Model_keepScan_93 n  k x1 x2 t = some z → Gk 2 3 t z := by
    intro k
    induction k with
    | zero => intro x1 x2 t h; exact absurd (show none = some z from h) (by simp)
    | succ k ih =>
      intro x1 x2 t h
      change m_Model_keepScan_93b n  (m_Model_keepScan_93 n  k) x1 x2 t = some z at h
      unfold m_Model_keepScan_93b at h
      by_cases c98 : (t.1 15) ≤ x2
      · rw [if_pos c98] at h
        obtain ⟨z205, hz205, h⟩ := j_bind h
        exact Gk.cast (Gk.tr (Gk.rf (F := 2) (P := 3)) (g_Model_readData hz205)) (j_s h)
      · rw [if_neg c98] at h
        obtain ⟨b118, h⟩ := j_ifn h
        obtain ⟨b119, h⟩ := j_ifn h
        obtain ⟨b137, h⟩ := j_ifn h
        obtain ⟨w138, hw138, h⟩ := j_bind h
        obtain ⟨b138, h⟩ := j_ifn h
        obtain ⟨b156, h⟩ := j_ifn h
        obtain ⟨w157, hw157, h⟩ := j_bind h
        obtain ⟨b157, h⟩ := j_ifn h
        exact Gk.tr (Gk.h (Gk.cast (Gk.h (Gk.cast (Gk.h (Gk.rf (F := 2) (P := 3))) (j_s hw138))) (j_s hw157))) ((G163 (m_Model_keepScan_93 n  k) ih n x1 x2 (w157.1 17) (sH w157 12 (((x1 + (12 : Int32)) + ((4 : Int32) * x2))).toNatClampNeg ((w138.2.1 16) (x2).toNatClampNeg)) h))
  unfold m_Model_keepScan at h
  obtain ⟨b17, h⟩ := j_ifn h
  obtain ⟨w29, hw29, h⟩ := j_bind h
  obtain ⟨b29, h⟩ := j_ifn h
  obtain ⟨w41, hw41, h⟩ := j_bind h
  obtain ⟨b41, h⟩ := j_ifn h
  obtain ⟨w53, hw53, h⟩ := j_bind h
  obtain ⟨b53, h⟩ := j_ifn h
  obtain ⟨w65, hw65, h⟩ := j_bind h
  obtain ⟨b65, h⟩ := j_ifn h
  obtain ⟨w77, hw77, h⟩ := j_bind h
  obtain ⟨b77, h⟩ := j_ifn h
  obtain ⟨w90, hw90, h⟩ := j_bind h
  obtain ⟨b90, h⟩ := j_ifn h
  exact Gk.tr (Gk.h (Gk.cast (Gk.h (Gk.cast (Gk.h (Gk.cast (Gk.h (Gk.cast (Gk.h (Gk.cast (Gk.h (Gk.cast (Gk.h (Gk.rf (F := 2) (P := 3))) (j_s hw29))) (j_s hw41))) (j_s hw53))) (j_s hw65))) (j_s hw77))) (j_s hw90))) ((G93  n ((30 : Int32) * (t.1 14)) (0 : Int32) (sH w90 12 ((((30 : Int32) * (t.1 14)) + (8 : Int32))).toNatClampNeg (w77.1 13)) h))
theorem g_Model_segment1 {n : Nat} {x1 : Int32} {t : St} {z : Int32 × St} (h : m_Model_segment1 n x1 t = some z) : Gk 2 3 t z.2 := by
  have G203 : ∀  (t : St), m_Model_segment1_203 n   t = some z → Gk 2 3 t z.2 := by
    intro  t h
    unfold m_Model_segment1_203 at h
    exact Gk.cast (Gk.rf (F := 2) (P := 3)) (j_r2 h)
  have G161 : ∀ (x1 : Int32) (t : St), m_Model_segment1_161 n  x1 t = some z → Gk 2 3 t z.2 := by
    intro x1 t h
    unfold m_Model_segment1_161 at h
    obtain ⟨z163, hz163, h⟩ := j_bind h
    by_cases c170 : x1 = (218 : Int32)
    · rw [if_pos c170] at h
      by_cases c177 : (z163.1 2) = 0
      · rw [if_pos c177] at h
        obtain ⟨z181, hz181, h⟩ := j_bind h
        by_cases c188 : (z181.1 11) = 0
        · rw [if_pos c188] at h
          by_cases c196 : (z181.1 14) = (1 : Int32)
          · rw [if_pos c196] at h
            exact Gk.cast (Gk.tr (Gk.tr (Gk.rf (F := 2) (P := 3)) (g_Model_close hz163)) (g_Model_keepScan hz181)) (j_r2 h)
          · rw [if_neg c196] at h
            exact Gk.tr (Gk.tr (Gk.tr (Gk.rf (F := 2) (P := 3)) (g_Model_close hz163)) (g_Model_keepScan hz181)) ((G203  z181 h))
        · rw [if_neg c188] at h
          exact Gk.tr (Gk.tr (Gk.tr (Gk.rf (F := 2) (P := 3)) (g_Model_close hz163)) (g_Model_keepScan hz181)) ((G203  z181 h))
      · rw [if_neg c177] at h
        exact Gk.cast (Gk.tr (Gk.rf (F := 2) (P := 3)) (g_Model_close hz163)) (j_r2 h)
    · rw [if_neg c170] at h
      exact Gk.cast (Gk.tr (Gk.rf (F := 2) (P := 3)) (g_Model_close hz163)) (j_r2 h)
  have G89 : ∀ (x1 : Int32) (t : St), m_Model_segment1_89 n  x1 t = some z → Gk 2 3 t z.2 := by
    intro x1 t h
    unfold m_Model_segment1_89 at h
    obtain ⟨z91, hz91, h⟩ := j_bind h
    exact Gk.tr (Gk.tr (Gk.rf (F := 2) (P := 3)) (g_Model_readFrame hz91)) ((G161  x1 z91 h))
  have G146 : ∀ (x1 : Int32) (x2 : Int32) (y1 : Int32) (t : St), m_Model_segment1_146 n  x1 x2 y1 t = some z → Gk 2 3 t z.2 := by
    intro x1 x2 y1 t h
    unfold m_Model_segment1_146 at h
    obtain ⟨z146, hz146, h⟩ := j_bind h
    exact Gk.tr (Gk.g (Gk.tr (Gk.rf (F := 2) (P := 3)) (g_Model_must hz146)) (by decide) (by decide)) ((G161  x1 (sG z146 11 x2) h))
  have G141 : ∀ (x1 : Int32) (x2 : Int32) (t : St), m_Model_segment1_141 n  x1 x2 t = some z → Gk 2 3 t z.2 := by
    intro x1 x2 t h
    unfold m_Model_segment1_141 at h
    exact Gk.tr (Gk.rf (F := 2) (P := 3)) ((G146  x1 x2 (1 : Int32) t h))
  have G145 : ∀ (x1 : Int32) (x2 : Int32) (t : St), m_Model_segment1_145 n  x1 x2 t = some z → Gk 2 3 t z.2 := by
    intro x1 x2 t h
    unfold m_Model_segment1_145 at h
    exact Gk.tr (Gk.rf (F := 2) (P := 3)) ((G146  x1 x2 (0 : Int32) t h))
  have G69 : ∀ (x1 : Int32) (y1 : Int32) (t : St), m_Model_segment1_69 n  x1 y1 t = some z → Gk 2 3 t z.2 := by
    intro x1 y1 t h
    unfold m_Model_segment1_69 at h
    exact Gk.tr (Gk.g (Gk.rf (F := 2) (P := 3)) (by decide) (by decide)) ((G161  x1 (sG t 13 y1) h))
  unfold m_Model_segment1 at h
  obtain ⟨z1, hz1, h⟩ := j_bind h
  by_cases c8 : (z1.1 2) ≤ 0
  · rw [if_pos c8] at h
    by_cases c17 : x1 = (219 : Int32)
    · rw [if_pos c17] at h
      obtain ⟨z21, hz21, h⟩ := j_bind h
      exact Gk.tr (Gk.tr (Gk.tr (Gk.rf (F := 2) (P := 3)) (g_Model_open hz1)) (g_Model_readQuantisers hz21)) ((G161  x1 z21 h))
    · rw [if_neg c17] at h
      by_cases c31 : x1 = (196 : Int32)
      · rw [if_pos c31] at h
        obtain ⟨z35, hz35, h⟩ := j_bind h
        exact Gk.tr (Gk.tr (Gk.tr (Gk.rf (F := 2) (P := 3)) (g_Model_open hz1)) (g_Model_readWords hz35)) ((G161  x1 z35 h))
      · rw [if_neg c31] at h
        by_cases c45 : x1 = (221 : Int32)
        · rw [if_pos c45] at h
          obtain ⟨z49, hz49, h⟩ := j_bind h
          by_cases c58 : (z49.2.1 2) = 0
          · rw [if_pos c58] at h
            exact Gk.tr (Gk.tr (Gk.tr (Gk.rf (F := 2) (P := 3)) (g_Model_open hz1)) (g_Model_two hz49)) ((G69  x1 z49.1 z49.2 h))
          · rw [if_neg c58] at h
            exact Gk.tr (Gk.tr (Gk.tr (Gk.rf (F := 2) (P := 3)) (g_Model_open hz1)) (g_Model_two hz49)) ((G69  x1 (z49.2.1 13) z49.2 h))
        · rw [if_neg c45] at h
          by_cases c79 : x1 = (192 : Int32)
          · rw [if_pos c79] at h
            exact Gk.tr (Gk.tr (Gk.rf (F := 2) (P := 3)) (g_Model_open hz1)) ((G89  x1 z1 h))
          · rw [if_neg c79] at h
            by_cases c86 : x1 = (194 : Int32)
            · rw [if_pos c86] at h
              exact Gk.tr (Gk.tr (Gk.rf (F := 2) (P := 3)) (g_Model_open hz1)) ((G89  x1 z1 h))
            · rw [if_neg c86] at h
              by_cases c101 : x1 = (218 : Int32)
              · rw [if_pos c101] at h
                obtain ⟨z105, hz105, h⟩ := j_bind h
                exact Gk.tr (Gk.tr (Gk.tr (Gk.rf (F := 2) (P := 3)) (g_Model_open hz1)) (g_Model_readScan hz105)) ((G161  x1 z105 h))
              · rw [if_neg c101] at h
                by_cases c115 : x1 = (220 : Int32)
                · rw [if_pos c115] at h
                  obtain ⟨z119, hz119, h⟩ := j_bind h
                  by_cases c128 : 0 < (z119.2.1 2)
                  · rw [if_pos c128] at h
                    exact Gk.tr (Gk.tr (Gk.tr (Gk.rf (F := 2) (P := 3)) (g_Model_open hz1)) (g_Model_two hz119)) ((G141  x1 z119.1 z119.2 h))
                  · rw [if_neg c128] at h
                    by_cases c132 : z119.1 ≤ 0
                    · rw [if_pos c132] at h
                      exact Gk.tr (Gk.tr (Gk.tr (Gk.rf (F := 2) (P := 3)) (g_Model_open hz1)) (g_Model_two hz119)) ((G145  x1 z119.1 z119.2 h))
                    · rw [if_neg c132] at h
                      by_cases c138 : (64 : Int32) < z119.1
                      · rw [if_pos c138] at h
                        exact Gk.tr (Gk.tr (Gk.tr (Gk.rf (F := 2) (P := 3)) (g_Model_open hz1)) (g_Model_two hz119)) ((G145  x1 z119.1 z119.2 h))
                      · rw [if_neg c138] at h
                        exact Gk.tr (Gk.tr (Gk.tr (Gk.rf (F := 2) (P := 3)) (g_Model_open hz1)) (g_Model_two hz119)) ((G141  x1 z119.1 z119.2 h))
                · rw [if_neg c115] at h
                  obtain ⟨z158, hz158, h⟩ := j_bind h
                  exact Gk.tr (Gk.tr (Gk.tr (Gk.rf (F := 2) (P := 3)) (g_Model_open hz1)) (g_Model_any hz158)) ((G161  x1 z158 h))
  · rw [if_neg c8] at h
    exact Gk.cast (Gk.tr (Gk.rf (F := 2) (P := 3)) (g_Model_open hz1)) (j_r2 h)
theorem g_Model_readFile {n : Nat}  {t : St} {z : St} (h : m_Model_readFile n t = some z) : Gk 2 3 t z := by
  have G273 : ∀ (K56 : Int32 → Int32 → St → Option (St)) (hK56 : ∀ (x2 : Int32) (x3 : Int32) (t : St), K56 x2 x3 t = some z → Gk 2 3 t z) (x2 : Int32) (x3 : Int32) (t : St), m_Model_readFile_273 n K56 x2 x3 t = some z → Gk 2 3 t z := by
    intro K56 hK56 x2 x3 t h
    unfold m_Model_readFile_273 at h
    exact Gk.tr (Gk.rf (F := 2) (P := 3)) ((hK56 x2 x3 t h))
  have G259 : ∀ (K56 : Int32 → Int32 → St → Option (St)) (hK56 : ∀ (x2 : Int32) (x3 : Int32) (t : St), K56 x2 x3 t = some z → Gk 2 3 t z) (x2 : Int32) (x3 : Int32) (x4 : Int32) (t : St), m_Model_readFile_259 n K56 x2 x3 x4 t = some z → Gk 2 3 t z := by
    intro K56 hK56 x2 x3 x4 t h
    unfold m_Model_readFile_259 at h
    by_cases c263 : (t.1 2) = 0
    · rw [if_pos c263] at h
      obtain ⟨z269, hz269, h⟩ := j_bind h
      exact Gk.tr (Gk.tr (Gk.rf (F := 2) (P := 3)) (g_Model_segment1 hz269)) ((G273 K56 hK56 z269.1 x3 z269.2 h))
    · rw [if_neg c263] at h
      exact Gk.tr (Gk.rf (F := 2) (P := 3)) ((G273 K56 hK56 x2 x3 t h))
  have G231 : ∀ (K56 : Int32 → Int32 → St → Option (St)) (hK56 : ∀ (x2 : Int32) (x3 : Int32) (t : St), K56 x2 x3 t = some z → Gk 2 3 t z) (x2 : Int32) (x3 : Int32) (x4 : Int32) (t : St), m_Model_readFile_231 n K56 x2 x3 x4 t = some z → Gk 2 3 t z := by
    intro K56 hK56 x2 x3 x4 t h
    unfold m_Model_readFile_231 at h
    by_cases c235 : (t.1 2) = 0
    · rw [if_pos c235] at h
      by_cases c243 : x4 = (217 : Int32)
      · rw [if_pos c243] at h
        exact Gk.tr (Gk.g (Gk.rf (F := 2) (P := 3)) (by decide) (by decide)) ((G273 K56 hK56 x2 (0 : Int32) (sG t 7 (t.1 4)) h))
      · rw [if_neg c243] at h
        exact Gk.tr (Gk.rf (F := 2) (P := 3)) ((G259 K56 hK56 x2 x3 x4 t h))
    · rw [if_neg c235] at h
      exact Gk.tr (Gk.rf (F := 2) (P := 3)) ((G259 K56 hK56 x2 x3 x4 t h))
  have G222 : ∀ (K56 : Int32 → Int32 → St → Option (St)) (hK56 : ∀ (x2 : Int32) (x3 : Int32) (t : St), K56 x2 x3 t = some z → Gk 2 3 t z) (x2 : Int32) (x3 : Int32) (x4 : Int32) (x5 : Int32) (t : St), m_Model_readFile_222 n K56 x2 x3 x4 x5 t = some z → Gk 2 3 t z := by
    intro K56 hK56 x2 x3 x4 x5 t h
    unfold m_Model_readFile_222 at h
    obtain ⟨z226, hz226, h⟩ := j_bind h
    exact Gk.tr (Gk.tr (Gk.rf (F := 2) (P := 3)) (g_Model_wrong hz226 (by decide))) ((G231 K56 hK56 x2 x3 x4 z226.2 h))
  have G192 : ∀ (K56 : Int32 → Int32 → St → Option (St)) (hK56 : ∀ (x2 : Int32) (x3 : Int32) (t : St), K56 x2 x3 t = some z → Gk 2 3 t z) (x2 : Int32) (x3 : Int32) (x4 : Int32) (x5 : Int32) (x6 : Int32) (y0 : Int32) (t : St), m_Model_readFile_192 n K56 x2 x3 x4 x5 x6 y0 t = some z → Gk 2 3 t z := by
    intro K56 hK56 x2 x3 x4 x5 x6 y0 t h
    unfold m_Model_readFile_192 at h
    by_cases c198 : (t.1 2) = 0
    · rw [if_pos c198] at h
      by_cases c203 : x6 = 0
      · rw [if_pos c203] at h
        by_cases c219 : y0 = 0
        · rw [if_pos c219] at h
          exact Gk.tr (Gk.rf (F := 2) (P := 3)) ((G222 K56 hK56 x2 x3 x4 x5 t h))
        · rw [if_neg c219] at h
          exact Gk.tr (Gk.rf (F := 2) (P := 3)) ((G231 K56 hK56 x2 x3 x4 t h))
      · rw [if_neg c203] at h
        by_cases c211 : x4 = (220 : Int32)
        · rw [if_pos c211] at h
          exact Gk.tr (Gk.rf (F := 2) (P := 3)) ((G231 K56 hK56 x2 x3 x4 t h))
        · rw [if_neg c211] at h
          exact Gk.tr (Gk.rf (F := 2) (P := 3)) ((G222 K56 hK56 x2 x3 x4 x5 t h))
    · rw [if_neg c198] at h
      exact Gk.tr (Gk.rf (F := 2) (P := 3)) ((G231 K56 hK56 x2 x3 x4 t h))
  have G187 : ∀ (K56 : Int32 → Int32 → St → Option (St)) (hK56 : ∀ (x2 : Int32) (x3 : Int32) (t : St), K56 x2 x3 t = some z → Gk 2 3 t z) (x2 : Int32) (x3 : Int32) (x4 : Int32) (x5 : Int32) (x6 : Int32) (t : St), m_Model_readFile_187 n K56 x2 x3 x4 x5 x6 t = some z → Gk 2 3 t z := by
    intro K56 hK56 x2 x3 x4 x5 x6 t h
    unfold m_Model_readFile_187 at h
    exact Gk.tr (Gk.rf (F := 2) (P := 3)) ((G192 K56 hK56 x2 x3 x4 x5 x6 (1 : Int32) t h))
  have G191 : ∀ (K56 : Int32 → Int32 → St → Option (St)) (hK56 : ∀ (x2 : Int32) (x3 : Int32) (t : St), K56 x2 x3 t = some z → Gk 2 3 t z) (x2 : Int32) (x3 : Int32) (x4 : Int32) (x5 : Int32) (x6 : Int32) (t : St), m_Model_readFile_191 n K56 x2 x3 x4 x5 x6 t = some z → Gk 2 3 t z := by
    intro K56 hK56 x2 x3 x4 x5 x6 t h
    unfold m_Model_readFile_191 at h
    exact Gk.tr (Gk.rf (F := 2) (P := 3)) ((G192 K56 hK56 x2 x3 x4 x5 x6 (0 : Int32) t h))
  have G172 : ∀ (K56 : Int32 → Int32 → St → Option (St)) (hK56 : ∀ (x2 : Int32) (x3 : Int32) (t : St), K56 x2 x3 t = some z → Gk 2 3 t z) (x2 : Int32) (x3 : Int32) (x4 : Int32) (x5 : Int32) (x6 : Int32) (t : St), m_Model_readFile_172 n K56 x2 x3 x4 x5 x6 t = some z → Gk 2 3 t z := by
    intro K56 hK56 x2 x3 x4 x5 x6 t h
    unfold m_Model_readFile_172 at h
    by_cases c177 : x4 = (218 : Int32)
    · rw [if_pos c177] at h
      by_cases c184 : (t.1 9) ≤ 0
      · rw [if_pos c184] at h
        exact Gk.tr (Gk.rf (F := 2) (P := 3)) ((G191 K56 hK56 x2 x3 x4 x5 x6 t h))
      · rw [if_neg c184] at h
        exact Gk.tr (Gk.rf (F := 2) (P := 3)) ((G187 K56 hK56 x2 x3 x4 x5 x6 t h))
    · rw [if_neg c177] at h
      exact Gk.tr (Gk.rf (F := 2) (P := 3)) ((G191 K56 hK56 x2 x3 x4 x5 x6 t h))
  have G165 : ∀ (K56 : Int32 → Int32 → St → Option (St)) (hK56 : ∀ (x2 : Int32) (x3 : Int32) (t : St), K56 x2 x3 t = some z → Gk 2 3 t z) (x2 : Int32) (x3 : Int32) (x4 : Int32) (x5 : Int32) (x6 : Int32) (t : St), m_Model_readFile_165 n K56 x2 x3 x4 x5 x6 t = some z → Gk 2 3 t z := by
    intro K56 hK56 x2 x3 x4 x5 x6 t h
    unfold m_Model_readFile_165 at h
    by_cases c169 : (t.1 9) = 0
    · rw [if_pos c169] at h
      exact Gk.tr (Gk.rf (F := 2) (P := 3)) ((G187 K56 hK56 x2 x3 x4 x5 x6 t h))
    · rw [if_neg c169] at h
      exact Gk.tr (Gk.rf (F := 2) (P := 3)) ((G172 K56 hK56 x2 x3 x4 x5 x6 t h))
  have G117 : ∀ (K56 : Int32 → Int32 → St → Option (St)) (hK56 : ∀ (x2 : Int32) (x3 : Int32) (t : St), K56 x2 x3 t = some z → Gk 2 3 t z) (x2 : Int32) (x3 : Int32) (x4 : Int32) (x5 : Int32) (x6 : Int32) (t : St), m_Model_readFile_117 n K56 x2 x3 x4 x5 x6 t = some z → Gk 2 3 t z := by
    intro K56 hK56 x2 x3 x4 x5 x6 t h
    unfold m_Model_readFile_117 at h
    by_cases c122 : x4 = (254 : Int32)
    · rw [if_pos c122] at h
      exact Gk.tr (Gk.rf (F := 2) (P := 3)) ((G187 K56 hK56 x2 x3 x4 x5 x6 t h))
    · rw [if_neg c122] at h
      by_cases c130 : x4 = (219 : Int32)
      · rw [if_pos c130] at h
        exact Gk.tr (Gk.rf (F := 2) (P := 3)) ((G187 K56 hK56 x2 x3 x4 x5 x6 t h))
      · rw [if_neg c130] at h
        by_cases c138 : x4 = (196 : Int32)
        · rw [if_pos c138] at h
          exact Gk.tr (Gk.rf (F := 2) (P := 3)) ((G187 K56 hK56 x2 x3 x4 x5 x6 t h))
        · rw [if_neg c138] at h
          by_cases c146 : x4 = (221 : Int32)
          · rw [if_pos c146] at h
            exact Gk.tr (Gk.rf (F := 2) (P := 3)) ((G187 K56 hK56 x2 x3 x4 x5 x6 t h))
          · rw [if_neg c146] at h
            by_cases c154 : x4 = (192 : Int32)
            · rw [if_pos c154] at h
              exact Gk.tr (Gk.rf (F := 2) (P := 3)) ((G165 K56 hK56 x2 x3 x4 x5 x6 t h))
            · rw [if_neg c154] at h
              by_cases c162 : x4 = (194 : Int32)
              · rw [if_pos c162] at h
                exact Gk.tr (Gk.rf (F := 2) (P := 3)) ((G165 K56 hK56 x2 x3 x4 x5 x6 t h))
              · rw [if_neg c162] at h
                exact Gk.tr (Gk.rf (F := 2) (P := 3)) ((G172 K56 hK56 x2 x3 x4 x5 x6 t h))
  have G101 : ∀ (K56 : Int32 → Int32 → St → Option (St)) (hK56 : ∀ (x2 : Int32) (x3 : Int32) (t : St), K56 x2 x3 t = some z → Gk 2 3 t z) (x2 : Int32) (x3 : Int32) (x4 : Int32) (x5 : Int32) (x6 : Int32) (t : St), m_Model_readFile_101 n K56 x2 x3 x4 x5 x6 t = some z → Gk 2 3 t z := by
    intro K56 hK56 x2 x3 x4 x5 x6 t h
    unfold m_Model_readFile_101 at h
    by_cases c106 : x4 < (224 : Int32)
    · rw [if_pos c106] at h
      exact Gk.tr (Gk.rf (F := 2) (P := 3)) ((G117 K56 hK56 x2 x3 x4 x5 x6 t h))
    · rw [if_neg c106] at h
      by_cases c114 : x4 ≤ (239 : Int32)
      · rw [if_pos c114] at h
        exact Gk.tr (Gk.rf (F := 2) (P := 3)) ((G187 K56 hK56 x2 x3 x4 x5 x6 t h))
      · rw [if_neg c114] at h
        exact Gk.tr (Gk.rf (F := 2) (P := 3)) ((G117 K56 hK56 x2 x3 x4 x5 x6 t h))
  have G56 : ∀ (k : Nat) (x2 : Int32) (x3 : Int32) (t : St), m_Model_readFile_56 n  k x2 x3 t = some z → Gk 2 3 t z := by
    intro k
    induction k with
    | zero => intro x2 x3 t h; exact absurd (show none = some z from h) (by simp)
    | succ k ih =>
      intro x2 x3 t h
      change m_Model_readFile_56b n  (m_Model_readFile_56 n  k) x2 x3 t = some z at h
      unfold m_Model_readFile_56b at h
      by_cases c57 : x3 = 0
      · rw [if_pos c57] at h
        exact Gk.cast (Gk.rf (F := 2) (P := 3)) (j_s h)
      · rw [if_neg c57] at h
        by_cases c64 : (t.1 2) = 0
        · rw [if_pos c64] at h
          obtain ⟨z68, hz68, h⟩ := j_bind h
          by_cases c91 : z68.1 = (217 : Int32)
          · rw [if_pos c91] at h
            obtain ⟨z95, hz95, h⟩ := j_bind h
            by_cases c98 : z95.1 = 0
            · rw [if_pos c98] at h
              exact Gk.tr (Gk.tr (Gk.tr (Gk.rf (F := 2) (P := 3)) (g_Model_marker hz68)) (Gk.x (x_Model_isSent hz95) (by decide) (by decide))) ((G101 (m_Model_readFile_56 n  k) ih (0 : Int32) x3 z68.1 ((z68.2.1 4) - (1 : Int32)) x2 z95.2 h))
            · rw [if_neg c98] at h
              exact Gk.tr (Gk.tr (Gk.tr (Gk.rf (F := 2) (P := 3)) (g_Model_marker hz68)) (Gk.x (x_Model_isSent hz95) (by decide) (by decide))) ((G187 (m_Model_readFile_56 n  k) ih (0 : Int32) x3 z68.1 ((z68.2.1 4) - (1 : Int32)) x2 z95.2 h))
          · rw [if_neg c91] at h
            exact Gk.tr (Gk.tr (Gk.rf (F := 2) (P := 3)) (g_Model_marker hz68)) ((G101 (m_Model_readFile_56 n  k) ih (0 : Int32) x3 z68.1 ((z68.2.1 4) - (1 : Int32)) x2 z68.2 h))
        · rw [if_neg c64] at h
          exact Gk.cast (Gk.rf (F := 2) (P := 3)) (j_s h)
  have G52 : ∀  (t : St), m_Model_readFile_52 n   t = some z → Gk 2 3 t z := by
    intro  t h
    unfold m_Model_readFile_52 at h
    exact Gk.tr (Gk.rf (F := 2) (P := 3)) ((G56  n (0 : Int32) (1 : Int32) t h))
  have G26 : ∀  (t : St), m_Model_readFile_26 n   t = some z → Gk 2 3 t z := by
    intro  t h
    unfold m_Model_readFile_26 at h
    obtain ⟨z27, hz27, h⟩ := j_bind h
    by_cases c35 : (z27.2.1 2) = 0
    · rw [if_pos c35] at h
      by_cases c42 : z27.1 = (216 : Int32)
      · rw [if_pos c42] at h
        exact Gk.tr (Gk.tr (Gk.rf (F := 2) (P := 3)) (g_Model_next hz27)) ((G52  z27.2 h))
      · rw [if_neg c42] at h
        obtain ⟨z48, hz48, h⟩ := j_bind h
        exact Gk.tr (Gk.tr (Gk.tr (Gk.rf (F := 2) (P := 3)) (g_Model_next hz27)) (g_Model_wrong hz48 (by decide))) ((G52  z48.2 h))
    · rw [if_neg c35] at h
      exact Gk.tr (Gk.tr (Gk.rf (F := 2) (P := 3)) (g_Model_next hz27)) ((G52  z27.2 h))
  unfold m_Model_readFile at h
  obtain ⟨z1, hz1, h⟩ := j_bind h
  by_cases c9 : (z1.2.1 2) = 0
  · rw [if_pos c9] at h
    by_cases c16 : z1.1 = (255 : Int32)
    · rw [if_pos c16] at h
      exact Gk.tr (Gk.tr (Gk.rf (F := 2) (P := 3)) (g_Model_next hz1)) ((G26  z1.2 h))
    · rw [if_neg c16] at h
      obtain ⟨z22, hz22, h⟩ := j_bind h
      exact Gk.tr (Gk.tr (Gk.tr (Gk.rf (F := 2) (P := 3)) (g_Model_next hz1)) (g_Model_wrong hz22 (by decide))) ((G26  z22.2 h))
  · rw [if_neg c9] at h
    exact Gk.tr (Gk.tr (Gk.rf (F := 2) (P := 3)) (g_Model_next hz1)) ((G26  z1.2 h))

/-- as before but for the numbers K, the arrays H, the rows L -/
def EqX (K H L : List Nat) (t z : St) : Prop := (∀ k, k ∉ K → z.1 k = t.1 k) ∧ (∀ k, k ∉ H → z.2.1 k = t.2.1 k) ∧ ∀ k, k ∉ L → z.2.2.1 k = t.2.2.1 k
theorem EqX.rf {K H L : List Nat} {t : St} : EqX K H L t t := ⟨fun _ _ => rfl, fun _ _ => rfl, fun _ _ => rfl⟩
theorem EqX.tr {K H L : List Nat} {t z w : St} (h1 : EqX K H L t z) (h2 : EqX K H L z w) : EqX K H L t w := ⟨fun k h => (h2.1 k h).trans (h1.1 k h), fun k h => (h2.2.1 k h).trans (h1.2.1 k h), fun k h => (h2.2.2 k h).trans (h1.2.2 k h)⟩
theorem EqX.g {K H L : List Nat} {t z : St} {k : Nat} {v : Int32} (h1 : EqX K H L t z) (hk : k ∈ K) : EqX K H L t (sG z k v) := ⟨fun j h => by have e : j ≠ k := fun e => h (e ▸ hk); show (if j = k then v else z.1 j) = t.1 j; rw [if_neg e]; exact h1.1 j h, h1.2.1, h1.2.2⟩
theorem EqX.h {K H L : List Nat} {t z : St} {k i : Nat} {v : Int32} (h1 : EqX K H L t z) (hk : k ∈ H) : EqX K H L t (sH z k i v) := ⟨h1.1, fun j h => by have e : j ≠ k := fun e => h (e ▸ hk); show (if j = k then _ else z.2.1 j) = t.2.1 j; rw [if_neg e]; exact h1.2.1 j h, h1.2.2⟩
theorem EqX.l {K H L : List Nat} {t z : St} {k i : Nat} {v : Int64} (h1 : EqX K H L t z) (hk : k ∈ L) : EqX K H L t (sL z k i v) := ⟨h1.1, h1.2.1, fun j h => by have e : j ≠ k := fun e => h (e ▸ hk); show (if j = k then _ else z.2.2.1 j) = t.2.2.1 j; rw [if_neg e]; exact h1.2.2 j h⟩
theorem EqX.a {K H L : List Nat} {t z : St} {k N : Nat} {f : Nat → Int32} (h1 : EqX K H L t z) (hk : k ∈ H) : EqX K H L t (sA z k N f) := ⟨h1.1, fun j h => by have e : j ≠ k := fun e => h (e ▸ hk); show (if j = k then _ else z.2.1 j) = t.2.1 j; rw [if_neg e]; exact h1.2.1 j h, h1.2.2⟩
theorem EqX.mono {K H L K2 H2 L2 : List Nat} {t z : St} (h : EqX K H L t z) (a : ∀ k ∈ K, k ∈ K2) (b : ∀ k ∈ H, k ∈ H2) (c : ∀ k ∈ L, k ∈ L2) : EqX K2 H2 L2 t z := ⟨fun k q => h.1 k (fun m => q (a k m)), fun k q => h.2.1 k (fun m => q (b k m)), fun k q => h.2.2 k (fun m => q (c k m))⟩
theorem EqX.cast {K H L : List Nat} {t z w : St} (h : EqX K H L t z) (e : z = w) : EqX K H L t w := e ▸ h
/-- fault and place as they were -/
def Fk (F P : Nat) (t z : St) : Prop := z.1 F = t.1 F ∧ z.1 P = t.1 P
theorem Fk.rf {F P : Nat} {t : St} : Fk F P t t := ⟨rfl, rfl⟩
theorem Fk.tr {F P : Nat} {t z w : St} (h1 : Fk F P t z) (h2 : Fk F P z w) : Fk F P t w := ⟨h2.1.trans h1.1, h2.2.trans h1.2⟩
theorem Fk.g {F P : Nat} {t z : St} {k : Nat} {v : Int32} (h1 : Fk F P t z) (a : F ≠ k) (b : P ≠ k) : Fk F P t (sG z k v) := ⟨by show (if F = k then v else z.1 F) = t.1 F; rw [if_neg a]; exact h1.1, by show (if P = k then v else z.1 P) = t.1 P; rw [if_neg b]; exact h1.2⟩
theorem Fk.h {F P : Nat} {t z : St} {k i : Nat} {v : Int32} (h1 : Fk F P t z) : Fk F P t (sH z k i v) := h1
theorem Fk.l {F P : Nat} {t z : St} {k i : Nat} {v : Int64} (h1 : Fk F P t z) : Fk F P t (sL z k i v) := h1
theorem Fk.a {F P : Nat} {t z : St} {k N : Nat} {f : Nat → Int32} (h1 : Fk F P t z) : Fk F P t (sA z k N f) := h1
theorem Fk.x {F P : Nat} {K H L : List Nat} {t z : St} (h : EqX K H L t z) (a : F ∉ K) (b : P ∉ K) : Fk F P t z := ⟨h.1 F a, h.1 P b⟩
theorem Fk.ne {F P : Nat} {t z : St} (h : Fk F P t z) (q : t.1 F ≠ 0) : z.1 F ≠ 0 := fun e => q (h.1 ▸ e)
theorem Fk.cast {F P : Nat} {t z w : St} (h : Fk F P t z) (e : z = w) : Fk F P t w := e ▸ h

theorem x_Arrays_fillI_9 {n : Nat} {x1 : Int32} {t : St} {z : St} (h : m_Arrays_fillI_9 n x1 t = some z) : EqX [] [4] [] t z := by
  have G5 : ∀ (k : Nat) (x1 : Int32) (x2 : Int32) (x3 : Int32) (t : St), m_Arrays_fillI_9_5 n  k x1 x2 x3 t = some z → EqX [] [4] [] t z := by
    intro k
    induction k with
    | zero => intro x1 x2 x3 t h; exact absurd (show none = some z from h) (by simp)
    | succ k ih =>
      intro x1 x2 x3 t h
      change m_Arrays_fillI_9_5b n  (m_Arrays_fillI_9_5 n  k) x1 x2 x3 t = some z at h
      unfold m_Arrays_fillI_9_5b at h
      by_cases c7 : x3 ≤ x2
      · rw [if_pos c7] at h
        exact EqX.cast EqX.rf (j_s h)
      · rw [if_neg c7] at h
        obtain ⟨b13, h⟩ := j_ifn h
        exact EqX.tr (EqX.h EqX.rf (by decide)) (ih x1 (x2 + 1) x3 (sH t 4 (x2).toNatClampNeg x1) h)
  unfold m_Arrays_fillI_9 at h
  exact EqX.tr EqX.rf (G5  n x1 (0 : Int32) (Int32.ofNat 4) t h)
theorem x_Arrays_fillI_10 {n : Nat} {x1 : Int32} {t : St} {z : St} (h : m_Arrays_fillI_10 n x1 t = some z) : EqX [] [5] [] t z := by
  have G5 : ∀ (k : Nat) (x1 : Int32) (x2 : Int32) (x3 : Int32) (t : St), m_Arrays_fillI_10_5 n  k x1 x2 x3 t = some z → EqX [] [5] [] t z := by
    intro k
    induction k with
    | zero => intro x1 x2 x3 t h; exact absurd (show none = some z from h) (by simp)
    | succ k ih =>
      intro x1 x2 x3 t h
      change m_Arrays_fillI_10_5b n  (m_Arrays_fillI_10_5 n  k) x1 x2 x3 t = some z at h
      unfold m_Arrays_fillI_10_5b at h
      by_cases c7 : x3 ≤ x2
      · rw [if_pos c7] at h
        exact EqX.cast EqX.rf (j_s h)
      · rw [if_neg c7] at h
        obtain ⟨b13, h⟩ := j_ifn h
        exact EqX.tr (EqX.h EqX.rf (by decide)) (ih x1 (x2 + 1) x3 (sH t 5 (x2).toNatClampNeg x1) h)
  unfold m_Arrays_fillI_10 at h
  exact EqX.tr EqX.rf (G5  n x1 (0 : Int32) (Int32.ofNat 8) t h)
theorem x_Arrays_fillI_14 {n : Nat} {x1 : Int32} {t : St} {z : St} (h : m_Arrays_fillI_14 n x1 t = some z) : EqX [] [7] [] t z := by
  have G5 : ∀ (k : Nat) (x1 : Int32) (x2 : Int32) (x3 : Int32) (t : St), m_Arrays_fillI_14_5 n  k x1 x2 x3 t = some z → EqX [] [7] [] t z := by
    intro k
    induction k with
    | zero => intro x1 x2 x3 t h; exact absurd (show none = some z from h) (by simp)
    | succ k ih =>
      intro x1 x2 x3 t h
      change m_Arrays_fillI_14_5b n  (m_Arrays_fillI_14_5 n  k) x1 x2 x3 t = some z at h
      unfold m_Arrays_fillI_14_5b at h
      by_cases c7 : x3 ≤ x2
      · rw [if_pos c7] at h
        exact EqX.cast EqX.rf (j_s h)
      · rw [if_neg c7] at h
        obtain ⟨b13, h⟩ := j_ifn h
        exact EqX.tr (EqX.h EqX.rf (by decide)) (ih x1 (x2 + 1) x3 (sH t 7 (x2).toNatClampNeg x1) h)
  unfold m_Arrays_fillI_14 at h
  exact EqX.tr EqX.rf (G5  n x1 (0 : Int32) (Int32.ofNat 256) t h)
theorem x_Picture_clear {n : Nat}  {t : St} {z : St} (h : m_Picture_clear n t = some z) : EqX [1, 2, 3, 4, 5, 6, 7, 8] [4, 5] [] t z := by
  unfold m_Picture_clear at h
  obtain ⟨z21, hz21, h⟩ := j_bind h
  obtain ⟨z29, hz29, h⟩ := j_bind h
  exact EqX.cast (EqX.g (EqX.g (EqX.g (EqX.g (EqX.g (EqX.g (EqX.tr (EqX.tr (EqX.g (EqX.g EqX.rf (by decide)) (by decide)) (EqX.mono (x_Arrays_fillI_9 hz21) (by decide) (by decide) (by decide))) (EqX.mono (x_Arrays_fillI_10 hz29) (by decide) (by decide) (by decide))) (by decide)) (by decide)) (by decide)) (by decide)) (by decide)) (by decide)) (j_s h)
theorem x_Parser_forget {n : Nat}  {t : St} {z : St} (h : m_Parser_forget n t = some z) : EqX [1, 2, 3, 4, 5, 6, 7, 8, 13, 14] [4, 5] [] t z := by
  unfold m_Parser_forget at h
  obtain ⟨z14, hz14, h⟩ := j_bind h
  exact EqX.cast (EqX.tr (EqX.g (EqX.g EqX.rf (by decide)) (by decide)) (EqX.mono (x_Picture_clear hz14) (by decide) (by decide) (by decide))) (j_s h)
theorem x_Reader_wipe {n : Nat}  {t : St} {z : St} (h : m_Reader_wipe n t = some z) : EqX [0, 1, 2, 3, 4, 5, 6, 7, 8, 13, 14] [4, 5] [] t z := by
  unfold m_Reader_wipe at h
  obtain ⟨z12, hz12, h⟩ := j_bind h
  exact EqX.cast (EqX.tr (EqX.g EqX.rf (by decide)) (EqX.mono (x_Parser_forget hz12) (by decide) (by decide) (by decide))) (j_s h)
theorem x_Bytes_at {n : Nat} {x1 : Int32} {t : St} {z : Int32 × St} (h : m_Bytes_at n x1 t = some z) : EqX [] [] [] t z.2 := by
  have G25 : ∀  (t : St), m_Bytes_at_25 n   t = some z → EqX [] [] [] t z.2 := by
    intro  t h
    unfold m_Bytes_at_25 at h
    exact EqX.cast EqX.rf (j_r2 h)
  unfold m_Bytes_at at h
  by_cases c1 : x1 < 0
  · rw [if_pos c1] at h
    exact EqX.tr EqX.rf (G25  t h)
  · rw [if_neg c1] at h
    by_cases c9 : (t.1 0) ≤ x1
    · rw [if_pos c9] at h
      exact EqX.tr EqX.rf (G25  t h)
    · rw [if_neg c9] at h
      obtain ⟨b17, h⟩ := j_ifn h
      exact EqX.cast EqX.rf (j_r2 h)
theorem x_Parser_fail {n : Nat} {x1 : Int32} {x2 : Int32} {t : St} {z : Int32 × St} (h : m_Parser_fail n x1 x2 t = some z) : EqX [13, 14] [] [] t z.2 := by
  unfold m_Parser_fail at h
  by_cases c4 : (t.1 13) = 0
  · rw [if_pos c4] at h
    exact EqX.cast (EqX.g (EqX.g EqX.rf (by decide)) (by decide)) (j_r2 h)
  · rw [if_neg c4] at h
    exact EqX.cast EqX.rf (j_r2 h)
theorem x_Parser_begin {n : Nat}  {t : St} {z : St} (h : m_Parser_begin n t = some z) : EqX [1, 2, 3, 4, 5, 6, 7, 8, 9, 12, 13, 14] [4, 5, 7] [] t z := by
  have G51 : ∀  (t : St), m_Parser_begin_51 n   t = some z → EqX [1, 2, 3, 4, 5, 6, 7, 8, 9, 12, 13, 14] [4, 5, 7] [] t z := by
    intro  t h
    unfold m_Parser_begin_51 at h
    by_cases c59 : (2 : Int32) ≤ (t.1 0)
    · rw [if_pos c59] at h
      obtain ⟨z83, hz83, h⟩ := j_bind h
      by_cases c89 : z83.1 = (216 : Int32)
      · rw [if_pos c89] at h
        exact EqX.cast (EqX.g (EqX.tr EqX.rf (EqX.mono (x_Bytes_at hz83) (by decide) (by decide) (by decide))) (by decide)) (j_s h)
      · rw [if_neg c89] at h
        obtain ⟨z95, hz95, h⟩ := j_bind h
        exact EqX.cast (EqX.g (EqX.tr (EqX.tr EqX.rf (EqX.mono (x_Bytes_at hz83) (by decide) (by decide) (by decide))) (EqX.mono (x_Parser_fail hz95) (by decide) (by decide) (by decide))) (by decide)) (j_s h)
    · rw [if_neg c59] at h
      obtain ⟨z71, hz71, h⟩ := j_bind h
      exact EqX.cast (EqX.g (EqX.tr EqX.rf (EqX.mono (x_Parser_fail hz71) (by decide) (by decide) (by decide))) (by decide)) (j_s h)
  unfold m_Parser_begin at h
  obtain ⟨z1, hz1, h⟩ := j_bind h
  obtain ⟨z9, hz9, h⟩ := j_bind h
  by_cases c24 : (z9.1 0) ≤ 0
  · rw [if_pos c24] at h
    exact EqX.tr (EqX.g (EqX.tr (EqX.tr EqX.rf (EqX.mono (x_Parser_forget hz1) (by decide) (by decide) (by decide))) (EqX.mono (x_Arrays_fillI_14 hz9) (by decide) (by decide) (by decide))) (by decide)) (G51  (sG z9 12 (0 : Int32)) h)
  · rw [if_neg c24] at h
    obtain ⟨z32, hz32, h⟩ := j_bind h
    by_cases c38 : z32.1 = (255 : Int32)
    · rw [if_pos c38] at h
      exact EqX.tr (EqX.tr (EqX.g (EqX.tr (EqX.tr EqX.rf (EqX.mono (x_Parser_forget hz1) (by decide) (by decide) (by decide))) (EqX.mono (x_Arrays_fillI_14 hz9) (by decide) (by decide) (by decide))) (by decide)) (EqX.mono (x_Bytes_at hz32) (by decide) (by decide) (by decide))) (G51  z32.2 h)
    · rw [if_neg c38] at h
      obtain ⟨z44, hz44, h⟩ := j_bind h
      exact EqX.cast (EqX.g (EqX.tr (EqX.tr (EqX.g (EqX.tr (EqX.tr EqX.rf (EqX.mono (x_Parser_forget hz1) (by decide) (by decide) (by decide))) (EqX.mono (x_Arrays_fillI_14 hz9) (by decide) (by decide) (by decide))) (by decide)) (EqX.mono (x_Bytes_at hz32) (by decide) (by decide) (by decide))) (EqX.mono (x_Parser_fail hz44) (by decide) (by decide) (by decide))) (by decide)) (j_s h)
theorem x_Parser_goesOn {n : Nat}  {t : St} {z : Int32 × St} (h : m_Parser_goesOn n t = some z) : EqX [] [] [] t z.2 := by
  have G22 : ∀  (t : St), m_Parser_goesOn_22 n   t = some z → EqX [] [] [] t z.2 := by
    intro  t h
    unfold m_Parser_goesOn_22 at h
    exact EqX.cast EqX.rf (j_r2 h)
  unfold m_Parser_goesOn at h
  by_cases c4 : (t.1 13) = 0
  · rw [if_pos c4] at h
    by_cases c15 : (t.1 6) = (-1 : Int32)
    · rw [if_pos c15] at h
      exact EqX.cast EqX.rf (j_r2 h)
    · rw [if_neg c15] at h
      exact EqX.tr EqX.rf (G22  t h)
  · rw [if_neg c4] at h
    exact EqX.tr EqX.rf (G22  t h)
theorem x_Parser_latestOf {n : Nat} {x1 : Int32} {x2 : Int32} {t : St} {z : Int32 × St} (h : m_Parser_latestOf n x1 x2 t = some z) : EqX [] [] [] t z.2 := by
  have G29 : ∀  (t : St), m_Parser_latestOf_29 n   t = some z → EqX [] [] [] t z.2 := by
    intro  t h
    unfold m_Parser_latestOf_29 at h
    exact EqX.cast EqX.rf (j_r2 h)
  unfold m_Parser_latestOf at h
  by_cases c8 : ((x1 * (64 : Int32)) + x2) < 0
  · rw [if_pos c8] at h
    exact EqX.tr EqX.rf (G29  t h)
  · rw [if_neg c8] at h
    by_cases c17 : (Int32.ofNat 256) ≤ ((x1 * (64 : Int32)) + x2)
    · rw [if_pos c17] at h
      exact EqX.tr EqX.rf (G29  t h)
    · rw [if_neg c17] at h
      obtain ⟨b25, h⟩ := j_ifn h
      exact EqX.cast EqX.rf (j_r2 h)
theorem x_Parser_allBegun {n : Nat}  {t : St} {z : Int32 × St} (h : m_Parser_allBegun n t = some z) : EqX [] [] [] t z.2 := by
  have G2 : ∀ (k : Nat) (x1 : Int32) (t : St), m_Parser_allBegun_2 n  k x1 t = some z → EqX [] [] [] t z.2 := by
    intro k
    induction k with
    | zero => intro x1 t h; exact absurd (show none = some z from h) (by simp)
    | succ k ih =>
      intro x1 t h
      change m_Parser_allBegun_2b n  (m_Parser_allBegun_2 n  k) x1 t = some z at h
      unfold m_Parser_allBegun_2b at h
      by_cases c10 : (t.1 4) ≤ x1
      · rw [if_pos c10] at h
        exact EqX.cast EqX.rf (j_r2 h)
      · rw [if_neg c10] at h
        obtain ⟨z16, hz16, h⟩ := j_bind h
        by_cases c20 : z16.1 = (-1 : Int32)
        · rw [if_pos c20] at h
          exact EqX.cast (EqX.tr EqX.rf (EqX.mono (x_Parser_latestOf hz16) (by decide) (by decide) (by decide))) (j_r2 h)
        · rw [if_neg c20] at h
          exact EqX.tr (EqX.tr EqX.rf (EqX.mono (x_Parser_latestOf hz16) (by decide) (by decide) (by decide))) (ih (x1 + 1) z16.2 h)
  unfold m_Parser_allBegun at h
  exact EqX.tr EqX.rf (G2  n (0 : Int32) t h)
theorem x_Parser_isFree {n : Nat} {x1 : Int32} {t : St} {z : Int32 × St} (h : m_Parser_isFree n x1 t = some z) : EqX [] [] [] t z.2 := by
  have G21 : ∀  (t : St), m_Parser_isFree_21 n   t = some z → EqX [] [] [] t z.2 := by
    intro  t h
    unfold m_Parser_isFree_21 at h
    exact EqX.cast EqX.rf (j_r2 h)
  have G25 : ∀  (t : St), m_Parser_isFree_25 n   t = some z → EqX [] [] [] t z.2 := by
    intro  t h
    unfold m_Parser_isFree_25 at h
    exact EqX.cast EqX.rf (j_r2 h)
  unfold m_Parser_isFree at h
  by_cases c4 : x1 = (254 : Int32)
  · rw [if_pos c4] at h
    exact EqX.tr EqX.rf (G21  t h)
  · rw [if_neg c4] at h
    by_cases c11 : x1 < (224 : Int32)
    · rw [if_pos c11] at h
      exact EqX.tr EqX.rf (G25  t h)
    · rw [if_neg c11] at h
      by_cases c18 : (239 : Int32) < x1
      · rw [if_pos c18] at h
        exact EqX.tr EqX.rf (G25  t h)
      · rw [if_neg c18] at h
        exact EqX.tr EqX.rf (G21  t h)
theorem x_Parser_canStand {n : Nat} {x1 : Int32} {t : St} {z : Int32 × St} (h : m_Parser_canStand n x1 t = some z) : EqX [] [] [] t z.2 := by
  have G32 : ∀  (t : St), m_Parser_canStand_32 n   t = some z → EqX [] [] [] t z.2 := by
    intro  t h
    unfold m_Parser_canStand_32 at h
    exact EqX.cast EqX.rf (j_r2 h)
  have G14 : ∀ (x1 : Int32) (t : St), m_Parser_canStand_14 n  x1 t = some z → EqX [] [] [] t z.2 := by
    intro x1 t h
    unfold m_Parser_canStand_14 at h
    by_cases c18 : (t.1 12) = 0
    · rw [if_pos c18] at h
      exact EqX.tr EqX.rf (G32  t h)
    · rw [if_neg c18] at h
      by_cases c25 : x1 = (220 : Int32)
      · rw [if_pos c25] at h
        exact EqX.cast EqX.rf (j_r2 h)
      · rw [if_neg c25] at h
        exact EqX.tr EqX.rf (G32  t h)
  have G158 : ∀  (t : St), m_Parser_canStand_158 n   t = some z → EqX [] [] [] t z.2 := by
    intro  t h
    unfold m_Parser_canStand_158 at h
    exact EqX.cast EqX.rf (j_r2 h)
  unfold m_Parser_canStand at h
  by_cases c4 : (t.1 12) = 0
  · rw [if_pos c4] at h
    by_cases c11 : x1 = (220 : Int32)
    · rw [if_pos c11] at h
      exact EqX.tr EqX.rf (G14  x1 t h)
    · rw [if_neg c11] at h
      by_cases c35_192 : x1 = (192 : Int32)
      · rw [if_pos c35_192] at h
        by_cases c110 : (t.1 1) = (-1 : Int32)
        · rw [if_pos c110] at h
          exact EqX.cast EqX.rf (j_r2 h)
        · rw [if_neg c110] at h
          exact EqX.cast EqX.rf (j_r2 h)
      rw [if_neg c35_192] at h
      by_cases c35_194 : x1 = (194 : Int32)
      · rw [if_pos c35_194] at h
        by_cases c110 : (t.1 1) = (-1 : Int32)
        · rw [if_pos c110] at h
          exact EqX.cast EqX.rf (j_r2 h)
        · rw [if_neg c110] at h
          exact EqX.cast EqX.rf (j_r2 h)
      rw [if_neg c35_194] at h
      by_cases c35_196 : x1 = (196 : Int32)
      · rw [if_pos c35_196] at h
        exact EqX.cast EqX.rf (j_r2 h)
      rw [if_neg c35_196] at h
      by_cases c35_217 : x1 = (217 : Int32)
      · rw [if_pos c35_217] at h
        by_cases c144 : (t.1 1) = (-1 : Int32)
        · rw [if_pos c144] at h
          exact EqX.tr EqX.rf (G158  t h)
        · rw [if_neg c144] at h
          obtain ⟨z148, hz148, h⟩ := j_bind h
          by_cases c151 : z148.1 = 0
          · rw [if_pos c151] at h
            exact EqX.tr (EqX.tr EqX.rf (EqX.mono (x_Parser_allBegun hz148) (by decide) (by decide) (by decide))) (G158  z148.2 h)
          · rw [if_neg c151] at h
            exact EqX.cast (EqX.tr EqX.rf (EqX.mono (x_Parser_allBegun hz148) (by decide) (by decide) (by decide))) (j_r2 h)
      rw [if_neg c35_217] at h
      by_cases c35_218 : x1 = (218 : Int32)
      · rw [if_pos c35_218] at h
        by_cases c127 : (t.1 1) = (-1 : Int32)
        · rw [if_pos c127] at h
          exact EqX.cast EqX.rf (j_r2 h)
        · rw [if_neg c127] at h
          exact EqX.cast EqX.rf (j_r2 h)
      rw [if_neg c35_218] at h
      by_cases c35_219 : x1 = (219 : Int32)
      · rw [if_pos c35_219] at h
        exact EqX.cast EqX.rf (j_r2 h)
      rw [if_neg c35_219] at h
      by_cases c35_221 : x1 = (221 : Int32)
      · rw [if_pos c35_221] at h
        exact EqX.cast EqX.rf (j_r2 h)
      rw [if_neg c35_221] at h
      obtain ⟨z162, hz162, h⟩ := j_bind h
      obtain ⟨b165, h⟩ := j_ifn h
      exact EqX.cast (EqX.tr EqX.rf (EqX.mono (x_Parser_isFree hz162) (by decide) (by decide) (by decide))) (j_r2 h)
  · rw [if_neg c4] at h
    exact EqX.tr EqX.rf (G14  x1 t h)
theorem x_Parser_takeMarker {n : Nat}  {t : St} {z : Int32 × St} (h : m_Parser_takeMarker n t = some z) : EqX [9, 13, 14] [] [] t z.2 := by
  have G34 : ∀ (k : Nat)  (t : St), m_Parser_takeMarker_34 n  k  t = some z → EqX [9, 13, 14] [] [] t z.2 := by
    intro k
    induction k with
    | zero => intro  t h; exact absurd (show none = some z from h) (by simp)
    | succ k ih =>
      intro  t h
      change m_Parser_takeMarker_34b n  (m_Parser_takeMarker_34 n  k)  t = some z at h
      unfold m_Parser_takeMarker_34b at h
      by_cases c45 : (t.1 0) ≤ (t.1 9)
      · rw [if_pos c45] at h
        obtain ⟨z119, hz119, h⟩ := j_bind h
        exact EqX.cast (EqX.tr EqX.rf (EqX.mono (x_Parser_fail hz119) (by decide) (by decide) (by decide))) (j_r2 h)
      · rw [if_neg c45] at h
        obtain ⟨z56, hz56, h⟩ := j_bind h
        by_cases c64 : z56.1 = (255 : Int32)
        · rw [if_pos c64] at h
          exact EqX.tr (EqX.g (EqX.tr EqX.rf (EqX.mono (x_Bytes_at hz56) (by decide) (by decide) (by decide))) (by decide)) (ih (sG z56.2 9 ((z56.2.1 9) + (1 : Int32))) h)
        · rw [if_neg c64] at h
          obtain ⟨z69, hz69, h⟩ := j_bind h
          by_cases c72 : z69.1 = 0
          · rw [if_pos c72] at h
            obtain ⟨z81, hz81, h⟩ := j_bind h
            exact EqX.cast (EqX.tr (EqX.tr (EqX.tr EqX.rf (EqX.mono (x_Bytes_at hz56) (by decide) (by decide) (by decide))) (EqX.mono (x_Parser_canStand hz69) (by decide) (by decide) (by decide))) (EqX.mono (x_Parser_fail hz81) (by decide) (by decide) (by decide))) (j_r2 h)
          · rw [if_neg c72] at h
            exact EqX.cast (EqX.g (EqX.tr (EqX.tr EqX.rf (EqX.mono (x_Bytes_at hz56) (by decide) (by decide) (by decide))) (EqX.mono (x_Parser_canStand hz69) (by decide) (by decide) (by decide))) (by decide)) (j_r2 h)
  unfold m_Parser_takeMarker at h
  obtain ⟨z8, hz8, h⟩ := j_bind h
  by_cases c14 : z8.1 = (-1 : Int32)
  · rw [if_pos c14] at h
    exact EqX.tr (EqX.tr EqX.rf (EqX.mono (x_Bytes_at hz8) (by decide) (by decide) (by decide))) (G34  n z8.2 h)
  · rw [if_neg c14] at h
    by_cases c21 : z8.1 = (255 : Int32)
    · rw [if_pos c21] at h
      exact EqX.tr (EqX.tr EqX.rf (EqX.mono (x_Bytes_at hz8) (by decide) (by decide) (by decide))) (G34  n z8.2 h)
    · rw [if_neg c21] at h
      obtain ⟨z30, hz30, h⟩ := j_bind h
      exact EqX.cast (EqX.tr (EqX.tr EqX.rf (EqX.mono (x_Bytes_at hz8) (by decide) (by decide) (by decide))) (EqX.mono (x_Parser_fail hz30) (by decide) (by decide) (by decide))) (j_r2 h)
theorem x_Parser_take {n : Nat} {x1 : Int32} {x2 : Int32} {t : St} {z : Int32 × St} (h : m_Parser_take n x1 x2 t = some z) : EqX [9, 13, 14] [] [] t z.2 := by
  have G70 : ∀  (t : St), m_Parser_take_70 n   t = some z → EqX [9, 13, 14] [] [] t z.2 := by
    intro  t h
    unfold m_Parser_take_70 at h
    obtain ⟨z77, hz77, h⟩ := j_bind h
    exact EqX.cast (EqX.tr EqX.rf (EqX.mono (x_Parser_fail hz77) (by decide) (by decide) (by decide))) (j_r2 h)
  unfold m_Parser_take at h
  by_cases c4 : (t.1 13) = 0
  · rw [if_pos c4] at h
    by_cases c17 : (t.1 9) < (t.1 11)
    · rw [if_pos c17] at h
      obtain ⟨z38, hz38, h⟩ := j_bind h
      by_cases c44 : z38.1 = (-1 : Int32)
      · rw [if_pos c44] at h
        obtain ⟨z56, hz56, h⟩ := j_bind h
        exact EqX.cast (EqX.tr (EqX.tr EqX.rf (EqX.mono (x_Bytes_at hz38) (by decide) (by decide) (by decide))) (EqX.mono (x_Parser_fail hz56) (by decide) (by decide) (by decide))) (j_r2 h)
      · rw [if_neg c44] at h
        by_cases c62 : z38.1 < x1
        · rw [if_pos c62] at h
          exact EqX.tr (EqX.tr EqX.rf (EqX.mono (x_Bytes_at hz38) (by decide) (by decide) (by decide))) (G70  z38.2 h)
        · rw [if_neg c62] at h
          by_cases c67 : z38.1 ≤ x2
          · rw [if_pos c67] at h
            exact EqX.cast (EqX.g (EqX.tr EqX.rf (EqX.mono (x_Bytes_at hz38) (by decide) (by decide) (by decide))) (by decide)) (j_r2 h)
          · rw [if_neg c67] at h
            exact EqX.tr (EqX.tr EqX.rf (EqX.mono (x_Bytes_at hz38) (by decide) (by decide) (by decide))) (G70  z38.2 h)
    · rw [if_neg c17] at h
      obtain ⟨z26, hz26, h⟩ := j_bind h
      exact EqX.cast (EqX.tr EqX.rf (EqX.mono (x_Parser_fail hz26) (by decide) (by decide) (by decide))) (j_r2 h)
  · rw [if_neg c4] at h
    exact EqX.cast EqX.rf (j_r2 h)
theorem x_Parser_refuseTaken {n : Nat}  {t : St} {z : St} (h : m_Parser_refuseTaken n t = some z) : EqX [13, 14] [] [] t z := by
  unfold m_Parser_refuseTaken at h
  obtain ⟨z9, hz9, h⟩ := j_bind h
  exact EqX.cast (EqX.tr EqX.rf (EqX.mono (x_Parser_fail hz9) (by decide) (by decide) (by decide))) (j_s h)
theorem x_Parser_takePair {n : Nat} {x1 : Int32} {x2 : Int32} {t : St} {z : Int32 × St} (h : m_Parser_takePair n x1 x2 t = some z) : EqX [9, 13, 14] [] [] t z.2 := by
  have G45 : ∀ (x5 : Int32) (t : St), m_Parser_takePair_45 n  x5 t = some z → EqX [9, 13, 14] [] [] t z.2 := by
    intro x5 t h
    unfold m_Parser_takePair_45 at h
    by_cases c49 : (t.1 13) = 0
    · rw [if_pos c49] at h
      exact EqX.cast EqX.rf (j_r2 h)
    · rw [if_neg c49] at h
      exact EqX.cast EqX.rf (j_r2 h)
  have G41 : ∀ (x5 : Int32) (t : St), m_Parser_takePair_41 n  x5 t = some z → EqX [9, 13, 14] [] [] t z.2 := by
    intro x5 t h
    unfold m_Parser_takePair_41 at h
    obtain ⟨z42, hz42, h⟩ := j_bind h
    exact EqX.tr (EqX.tr EqX.rf (EqX.mono (x_Parser_refuseTaken hz42) (by decide) (by decide) (by decide))) (G45  x5 z42 h)
  unfold m_Parser_takePair at h
  obtain ⟨z5, hz5, h⟩ := j_bind h
  obtain ⟨z14, hz14, h⟩ := j_bind h
  by_cases c32 : (((256 : Int32) * z5.1) + z14.1) < x1
  · rw [if_pos c32] at h
    exact EqX.tr (EqX.tr (EqX.tr EqX.rf (EqX.mono (x_Parser_take hz5) (by decide) (by decide) (by decide))) (EqX.mono (x_Parser_take hz14) (by decide) (by decide) (by decide))) (G41  (((256 : Int32) * z5.1) + z14.1) z14.2 h)
  · rw [if_neg c32] at h
    by_cases c38 : (((256 : Int32) * z5.1) + z14.1) ≤ x2
    · rw [if_pos c38] at h
      exact EqX.tr (EqX.tr (EqX.tr EqX.rf (EqX.mono (x_Parser_take hz5) (by decide) (by decide) (by decide))) (EqX.mono (x_Parser_take hz14) (by decide) (by decide) (by decide))) (G45  (((256 : Int32) * z5.1) + z14.1) z14.2 h)
    · rw [if_neg c38] at h
      exact EqX.tr (EqX.tr (EqX.tr EqX.rf (EqX.mono (x_Parser_take hz5) (by decide) (by decide) (by decide))) (EqX.mono (x_Parser_take hz14) (by decide) (by decide) (by decide))) (G41  (((256 : Int32) * z5.1) + z14.1) z14.2 h)
theorem x_Parser_takeLength {n : Nat}  {t : St} {z : St} (h : m_Parser_takeLength n t = some z) : EqX [9, 10, 11, 13, 14] [] [] t z := by
  have G41 : ∀ (x1 : Int32) (t : St), m_Parser_takeLength_41 n  x1 t = some z → EqX [9, 10, 11, 13, 14] [] [] t z := by
    intro x1 t h
    unfold m_Parser_takeLength_41 at h
    exact EqX.cast (EqX.g EqX.rf (by decide)) (j_s h)
  unfold m_Parser_takeLength at h
  obtain ⟨z22, hz22, h⟩ := j_bind h
  by_cases c28 : (2 : Int32) ≤ z22.1
  · rw [if_pos c28] at h
    exact EqX.tr (EqX.tr (EqX.g (EqX.g EqX.rf (by decide)) (by decide)) (EqX.mono (x_Parser_takePair hz22) (by decide) (by decide) (by decide))) (G41  z22.1 z22.2 h)
  · rw [if_neg c28] at h
    obtain ⟨z37, hz37, h⟩ := j_bind h
    exact EqX.tr (EqX.tr (EqX.tr (EqX.g (EqX.g EqX.rf (by decide)) (by decide)) (EqX.mono (x_Parser_takePair hz22) (by decide) (by decide) (by decide))) (EqX.mono (x_Parser_fail hz37) (by decide) (by decide) (by decide))) (G41  z22.1 z37.2 h)
theorem x_Picture_setQuantisers {n : Nat} {x1 : Int32} {x2 : Int32} {t : St} {z : St} (h : m_Picture_setQuantisers n x1 x2 t = some z) : EqX [] [4] [] t z := by
  unfold m_Picture_setQuantisers at h
  by_cases c1 : x1 < 0
  · rw [if_pos c1] at h
    exact EqX.cast EqX.rf (j_s h)
  · rw [if_neg c1] at h
    by_cases c10 : (Int32.ofNat 4) ≤ x1
    · rw [if_pos c10] at h
      exact EqX.cast EqX.rf (j_s h)
    · rw [if_neg c10] at h
      obtain ⟨b19, h⟩ := j_ifn h
      exact EqX.cast (EqX.h EqX.rf (by decide)) (j_s h)
theorem x_Parser_moreContents {n : Nat}  {t : St} {z : Int32 × St} (h : m_Parser_moreContents n t = some z) : EqX [] [] [] t z.2 := by
  have G22 : ∀  (t : St), m_Parser_moreContents_22 n   t = some z → EqX [] [] [] t z.2 := by
    intro  t h
    unfold m_Parser_moreContents_22 at h
    exact EqX.cast EqX.rf (j_r2 h)
  unfold m_Parser_moreContents at h
  by_cases c4 : (t.1 13) = 0
  · rw [if_pos c4] at h
    by_cases c15 : (t.1 11) ≤ (t.1 9)
    · rw [if_pos c15] at h
      exact EqX.tr EqX.rf (G22  t h)
    · rw [if_neg c15] at h
      exact EqX.cast EqX.rf (j_r2 h)
  · rw [if_neg c4] at h
    exact EqX.tr EqX.rf (G22  t h)
theorem x_Parser_readQuantisers {n : Nat}  {t : St} {z : St} (h : m_Parser_readQuantisers n t = some z) : EqX [9, 13, 14] [4] [] t z := by
  have G31 : ∀ (K4 : Int32 → Int32 → St → Option (St)) (hK4 : ∀ (x1 : Int32) (x2 : Int32) (t : St), K4 x1 x2 t = some z → EqX [9, 13, 14] [4] [] t z) (k : Nat) (x2 : Int32) (x3 : Int32) (x4 : Int32) (x5 : Int32) (t : St), m_Parser_readQuantisers_31 n K4 k x2 x3 x4 x5 t = some z → EqX [9, 13, 14] [4] [] t z := by
    intro K4 hK4 k
    induction k with
    | zero => intro x2 x3 x4 x5 t h; exact absurd (show none = some z from h) (by simp)
    | succ k ih =>
      intro x2 x3 x4 x5 t h
      change m_Parser_readQuantisers_31b n K4 (m_Parser_readQuantisers_31 n K4 k) x2 x3 x4 x5 t = some z at h
      unfold m_Parser_readQuantisers_31b at h
      by_cases c35 : (64 : Int32) ≤ x5
      · rw [if_pos c35] at h
        obtain ⟨z60, hz60, h⟩ := j_bind h
        obtain ⟨z64, hz64, h⟩ := j_bind h
        exact EqX.tr (EqX.tr (EqX.tr EqX.rf (EqX.mono (x_Picture_setQuantisers hz60) (by decide) (by decide) (by decide))) (EqX.mono (x_Parser_moreContents hz64) (by decide) (by decide) (by decide))) (hK4 z64.1 (x2 + 1) z64.2 h)
      · rw [if_neg c35] at h
        obtain ⟨z43, hz43, h⟩ := j_bind h
        exact EqX.tr (EqX.tr EqX.rf (EqX.mono (x_Parser_take hz43) (by decide) (by decide) (by decide))) (ih x2 x3 x4 (x5 + 1) z43.2 h)
  have G4 : ∀ (k : Nat) (x1 : Int32) (x2 : Int32) (t : St), m_Parser_readQuantisers_4 n  k x1 x2 t = some z → EqX [9, 13, 14] [4] [] t z := by
    intro k
    induction k with
    | zero => intro x1 x2 t h; exact absurd (show none = some z from h) (by simp)
    | succ k ih =>
      intro x1 x2 t h
      change m_Parser_readQuantisers_4b n  (m_Parser_readQuantisers_4 n  k) x1 x2 t = some z at h
      unfold m_Parser_readQuantisers_4b at h
      by_cases c8 : (16384 : Int32) ≤ x2
      · rw [if_pos c8] at h
        exact EqX.cast EqX.rf (j_s h)
      · rw [if_neg c8] at h
        by_cases c12 : x1 = 0
        · rw [if_pos c12] at h
          exact EqX.cast EqX.rf (j_s h)
        · rw [if_neg c12] at h
          obtain ⟨z18, hz18, h⟩ := j_bind h
          exact EqX.tr (EqX.tr EqX.rf (EqX.mono (x_Parser_take hz18) (by decide) (by decide) (by decide))) (G31 (m_Parser_readQuantisers_4 n  k) ih n x2 z18.1 (z18.2.1 9) (0 : Int32) z18.2 h)
  unfold m_Parser_readQuantisers at h
  exact EqX.tr EqX.rf (G4  n (1 : Int32) (0 : Int32) t h)
theorem x_Parser_takeCounts {n : Nat}  {t : St} {z : Int32 × St} (h : m_Parser_takeCounts n t = some z) : EqX [9, 13, 14] [] [] t z.2 := by
  have G52 : ∀ (K6 : Int32 → Int32 → Int32 → St → Option (Int32 × St)) (hK6 : ∀ (x1 : Int32) (x2 : Int32) (x3 : Int32) (t : St), K6 x1 x2 x3 t = some z → EqX [9, 13, 14] [] [] t z.2) (x1 : Int32) (x2 : Int32) (x3 : Int32) (t : St), m_Parser_takeCounts_52 n K6 x1 x2 x3 t = some z → EqX [9, 13, 14] [] [] t z.2 := by
    intro K6 hK6 x1 x2 x3 t h
    unfold m_Parser_takeCounts_52 at h
    exact EqX.tr EqX.rf (hK6 x1 x2 (x3 + 1) t h)
  have G48 : ∀ (K6 : Int32 → Int32 → Int32 → St → Option (Int32 × St)) (hK6 : ∀ (x1 : Int32) (x2 : Int32) (x3 : Int32) (t : St), K6 x1 x2 x3 t = some z → EqX [9, 13, 14] [] [] t z.2) (x1 : Int32) (x2 : Int32) (x3 : Int32) (t : St), m_Parser_takeCounts_48 n K6 x1 x2 x3 t = some z → EqX [9, 13, 14] [] [] t z.2 := by
    intro K6 hK6 x1 x2 x3 t h
    unfold m_Parser_takeCounts_48 at h
    obtain ⟨z49, hz49, h⟩ := j_bind h
    exact EqX.tr (EqX.tr EqX.rf (EqX.mono (x_Parser_refuseTaken hz49) (by decide) (by decide) (by decide))) (G52 K6 hK6 x1 x2 x3 z49 h)
  have G6 : ∀ (k : Nat) (x1 : Int32) (x2 : Int32) (x3 : Int32) (t : St), m_Parser_takeCounts_6 n  k x1 x2 x3 t = some z → EqX [9, 13, 14] [] [] t z.2 := by
    intro k
    induction k with
    | zero => intro x1 x2 x3 t h; exact absurd (show none = some z from h) (by simp)
    | succ k ih =>
      intro x1 x2 x3 t h
      change m_Parser_takeCounts_6b n  (m_Parser_takeCounts_6 n  k) x1 x2 x3 t = some z at h
      unfold m_Parser_takeCounts_6b at h
      by_cases c9 : (16 : Int32) < x3
      · rw [if_pos c9] at h
        by_cases c59 : x1 = 0
        · rw [if_pos c59] at h
          obtain ⟨z63, hz63, h⟩ := j_bind h
          exact EqX.cast (EqX.tr EqX.rf (EqX.mono (x_Parser_refuseTaken hz63) (by decide) (by decide) (by decide))) (j_r2 h)
        · rw [if_neg c59] at h
          exact EqX.cast EqX.rf (j_r2 h)
      · rw [if_neg c9] at h
        obtain ⟨z17, hz17, h⟩ := j_bind h
        by_cases c38 : (256 : Int32) < (x1 + z17.1)
        · rw [if_pos c38] at h
          exact EqX.tr (EqX.tr EqX.rf (EqX.mono (x_Parser_take hz17) (by decide) (by decide) (by decide))) (G48 (m_Parser_takeCounts_6 n  k) ih (x1 + z17.1) (((2 : Int32) * x2) + z17.1) x3 z17.2 h)
        · rw [if_neg c38] at h
          by_cases c45 : (((2 : Int32) * x2) + z17.1) < ((1 : Int32) <<< (x3 &&& 31))
          · rw [if_pos c45] at h
            exact EqX.tr (EqX.tr EqX.rf (EqX.mono (x_Parser_take hz17) (by decide) (by decide) (by decide))) (G52 (m_Parser_takeCounts_6 n  k) ih (x1 + z17.1) (((2 : Int32) * x2) + z17.1) x3 z17.2 h)
          · rw [if_neg c45] at h
            exact EqX.tr (EqX.tr EqX.rf (EqX.mono (x_Parser_take hz17) (by decide) (by decide) (by decide))) (G48 (m_Parser_takeCounts_6 n  k) ih (x1 + z17.1) (((2 : Int32) * x2) + z17.1) x3 z17.2 h)
  unfold m_Parser_takeCounts at h
  exact EqX.tr EqX.rf (G6  n (0 : Int32) (0 : Int32) (1 : Int32) t h)
theorem x_Arrays_fillJ_15 {n : Nat} {x1 : Int64} {t : St} {z : St} (h : m_Arrays_fillJ_15 n x1 t = some z) : EqX [] [] [0] t z := by
  have G6 : ∀ (k : Nat) (x1 : Int64) (x3 : Int32) (x4 : Int32) (t : St), m_Arrays_fillJ_15_6 n  k x1 x3 x4 t = some z → EqX [] [] [0] t z := by
    intro k
    induction k with
    | zero => intro x1 x3 x4 t h; exact absurd (show none = some z from h) (by simp)
    | succ k ih =>
      intro x1 x3 x4 t h
      change m_Arrays_fillJ_15_6b n  (m_Arrays_fillJ_15_6 n  k) x1 x3 x4 t = some z at h
      unfold m_Arrays_fillJ_15_6b at h
      by_cases c9 : x4 ≤ x3
      · rw [if_pos c9] at h
        exact EqX.cast EqX.rf (j_s h)
      · rw [if_neg c9] at h
        obtain ⟨b15, h⟩ := j_ifn h
        exact EqX.tr (EqX.l EqX.rf (by decide)) (ih x1 (x3 + 1) x4 (sL t 0 (x3).toNatClampNeg x1) h)
  unfold m_Arrays_fillJ_15 at h
  exact EqX.tr EqX.rf (G6  n x1 (0 : Int32) (Int32.ofNat 4) t h)
theorem x_Parser_takeSymbols {n : Nat} {x1 : Int32} {x2 : Int32} {t : St} {z : St} (h : m_Parser_takeSymbols n x1 x2 t = some z) : EqX [9, 13, 14] [] [0] t z := by
  have G74 : ∀ (K10 : Int32 → Int32 → Int32 → St → Option (St)) (hK10 : ∀ (x1 : Int32) (x2 : Int32) (x3 : Int32) (t : St), K10 x1 x2 x3 t = some z → EqX [9, 13, 14] [] [0] t z) (x1 : Int32) (x2 : Int32) (x3 : Int32) (x5 : Int32) (x6 : Int64) (t : St), m_Parser_takeSymbols_74 n K10 x1 x2 x3 x5 x6 t = some z → EqX [9, 13, 14] [] [0] t z := by
    intro K10 hK10 x1 x2 x3 x5 x6 t h
    unfold m_Parser_takeSymbols_74 at h
    obtain ⟨b81, h⟩ := j_ifn h
    obtain ⟨b85, h⟩ := j_ifn h
    exact EqX.tr (EqX.l EqX.rf (by decide)) (hK10 x1 x2 (x3 + 1) (sL t 0 (x5).toNatClampNeg (((t.2.2.1 0) (x5).toNatClampNeg) ||| x6)) h)
  have G10 : ∀ (k : Nat) (x1 : Int32) (x2 : Int32) (x3 : Int32) (t : St), m_Parser_takeSymbols_10 n  k x1 x2 x3 t = some z → EqX [9, 13, 14] [] [0] t z := by
    intro k
    induction k with
    | zero => intro x1 x2 x3 t h; exact absurd (show none = some z from h) (by simp)
    | succ k ih =>
      intro x1 x2 x3 t h
      change m_Parser_takeSymbols_10b n  (m_Parser_takeSymbols_10 n  k) x1 x2 x3 t = some z at h
      unfold m_Parser_takeSymbols_10b at h
      by_cases c12 : x1 ≤ x3
      · rw [if_pos c12] at h
        exact EqX.cast EqX.rf (j_s h)
      · rw [if_neg c12] at h
        by_cases c19 : (t.1 13) = 0
        · rw [if_pos c19] at h
          obtain ⟨z25, hz25, h⟩ := j_bind h
          by_cases c33 : z25.1 = (-1 : Int32)
          · rw [if_pos c33] at h
            exact EqX.cast (EqX.tr EqX.rf (EqX.mono (x_Parser_take hz25) (by decide) (by decide) (by decide))) (j_s h)
          · rw [if_neg c33] at h
            obtain ⟨b61, h⟩ := j_ifn h
            by_cases c67 : (lg_cmp (((z25.2.2.2.1 0) (((z25.1 >>> ((6 : Int32) &&& 31)) &&& (3 : Int32))).toNatClampNeg) &&& ((1 : Int64) <<< (((z25.1 &&& (63 : Int32))).toInt64 &&& 63))) (0 : Int64)) = 0
            · rw [if_pos c67] at h
              exact EqX.tr (EqX.tr EqX.rf (EqX.mono (x_Parser_take hz25) (by decide) (by decide) (by decide))) (G74 (m_Parser_takeSymbols_10 n  k) ih x1 x2 x3 ((z25.1 >>> ((6 : Int32) &&& 31)) &&& (3 : Int32)) ((1 : Int64) <<< (((z25.1 &&& (63 : Int32))).toInt64 &&& 63)) z25.2 h)
            · rw [if_neg c67] at h
              obtain ⟨z71, hz71, h⟩ := j_bind h
              exact EqX.tr (EqX.tr (EqX.tr EqX.rf (EqX.mono (x_Parser_take hz25) (by decide) (by decide) (by decide))) (EqX.mono (x_Parser_refuseTaken hz71) (by decide) (by decide) (by decide))) (G74 (m_Parser_takeSymbols_10 n  k) ih x1 x2 x3 ((z25.1 >>> ((6 : Int32) &&& 31)) &&& (3 : Int32)) ((1 : Int64) <<< (((z25.1 &&& (63 : Int32))).toInt64 &&& 63)) z71 h)
        · rw [if_neg c19] at h
          exact EqX.cast EqX.rf (j_s h)
  unfold m_Parser_takeSymbols at h
  obtain ⟨z5, hz5, h⟩ := j_bind h
  exact EqX.tr (EqX.tr EqX.rf (EqX.mono (x_Arrays_fillJ_15 hz5) (by decide) (by decide) (by decide))) (G10  n x1 x2 (0 : Int32) z5 h)
theorem x_Picture_rowOfWords {n : Nat} {x1 : Int32} {t : St} {z : Int32 × St} (h : m_Picture_rowOfWords n x1 t = some z) : EqX [] [] [] t z.2 := by
  have G30 : ∀  (t : St), m_Picture_rowOfWords_30 n   t = some z → EqX [] [] [] t z.2 := by
    intro  t h
    unfold m_Picture_rowOfWords_30 at h
    exact EqX.cast EqX.rf (j_r2 h)
  have G11 : ∀ (x1 : Int32) (t : St), m_Picture_rowOfWords_11 n  x1 t = some z → EqX [] [] [] t z.2 := by
    intro x1 t h
    unfold m_Picture_rowOfWords_11 at h
    by_cases c14 : x1 < (16 : Int32)
    · rw [if_pos c14] at h
      exact EqX.tr EqX.rf (G30  t h)
    · rw [if_neg c14] at h
      by_cases c20 : (19 : Int32) < x1
      · rw [if_pos c20] at h
        exact EqX.tr EqX.rf (G30  t h)
      · rw [if_neg c20] at h
        exact EqX.cast EqX.rf (j_r2 h)
  unfold m_Picture_rowOfWords at h
  by_cases c1 : x1 < 0
  · rw [if_pos c1] at h
    exact EqX.tr EqX.rf (G11  x1 t h)
  · rw [if_neg c1] at h
    by_cases c6 : (3 : Int32) < x1
    · rw [if_pos c6] at h
      exact EqX.tr EqX.rf (G11  x1 t h)
    · rw [if_neg c6] at h
      exact EqX.cast EqX.rf (j_r2 h)
theorem x_Picture_setWords {n : Nat} {x1 : Int32} {x2 : Int32} {t : St} {z : St} (h : m_Picture_setWords n x1 x2 t = some z) : EqX [] [5] [] t z := by
  unfold m_Picture_setWords at h
  obtain ⟨z2, hz2, h⟩ := j_bind h
  by_cases c7 : z2.1 < 0
  · rw [if_pos c7] at h
    exact EqX.cast (EqX.tr EqX.rf (EqX.mono (x_Picture_rowOfWords hz2) (by decide) (by decide) (by decide))) (j_s h)
  · rw [if_neg c7] at h
    by_cases c16 : (Int32.ofNat 8) ≤ z2.1
    · rw [if_pos c16] at h
      exact EqX.cast (EqX.tr EqX.rf (EqX.mono (x_Picture_rowOfWords hz2) (by decide) (by decide) (by decide))) (j_s h)
    · rw [if_neg c16] at h
      obtain ⟨b25, h⟩ := j_ifn h
      exact EqX.cast (EqX.h (EqX.tr EqX.rf (EqX.mono (x_Picture_rowOfWords hz2) (by decide) (by decide) (by decide))) (by decide)) (j_s h)
theorem x_Parser_readWords {n : Nat}  {t : St} {z : St} (h : m_Parser_readWords n t = some z) : EqX [9, 13, 14] [5] [0] t z := by
  have G67 : ∀ (K4 : Int32 → Int32 → St → Option (St)) (hK4 : ∀ (x1 : Int32) (x2 : Int32) (t : St), K4 x1 x2 t = some z → EqX [9, 13, 14] [5] [0] t z) (x2 : Int32) (x3 : Int32) (x4 : Int32) (y1 : Int32) (y2 : Int32) (t : St), m_Parser_readWords_67 n K4 x2 x3 x4 y1 y2 t = some z → EqX [9, 13, 14] [5] [0] t z := by
    intro K4 hK4 x2 x3 x4 y1 y2 t h
    unfold m_Parser_readWords_67 at h
    obtain ⟨z67, hz67, h⟩ := j_bind h
    obtain ⟨z77, hz77, h⟩ := j_bind h
    obtain ⟨z81, hz81, h⟩ := j_bind h
    exact EqX.tr (EqX.tr (EqX.tr (EqX.tr EqX.rf (EqX.mono (x_Parser_takeSymbols hz67) (by decide) (by decide) (by decide))) (EqX.mono (x_Picture_setWords hz77) (by decide) (by decide) (by decide))) (EqX.mono (x_Parser_moreContents hz81) (by decide) (by decide) (by decide))) (hK4 z81.1 (x2 + 1) z81.2 h)
  have G38 : ∀ (K4 : Int32 → Int32 → St → Option (St)) (hK4 : ∀ (x1 : Int32) (x2 : Int32) (t : St), K4 x1 x2 t = some z → EqX [9, 13, 14] [5] [0] t z) (x2 : Int32) (x3 : Int32) (t : St), m_Parser_readWords_38 n K4 x2 x3 t = some z → EqX [9, 13, 14] [5] [0] t z := by
    intro K4 hK4 x2 x3 t h
    unfold m_Parser_readWords_38 at h
    obtain ⟨z45, hz45, h⟩ := j_bind h
    by_cases c56 : (16 : Int32) ≤ x3
    · rw [if_pos c56] at h
      exact EqX.tr (EqX.tr EqX.rf (EqX.mono (x_Parser_takeCounts hz45) (by decide) (by decide) (by decide))) (G67 K4 hK4 x2 x3 (t.1 9) z45.1 (255 : Int32) z45.2 h)
    · rw [if_neg c56] at h
      exact EqX.tr (EqX.tr EqX.rf (EqX.mono (x_Parser_takeCounts hz45) (by decide) (by decide) (by decide))) (G67 K4 hK4 x2 x3 (t.1 9) z45.1 (11 : Int32) z45.2 h)
  have G4 : ∀ (k : Nat) (x1 : Int32) (x2 : Int32) (t : St), m_Parser_readWords_4 n  k x1 x2 t = some z → EqX [9, 13, 14] [5] [0] t z := by
    intro k
    induction k with
    | zero => intro x1 x2 t h; exact absurd (show none = some z from h) (by simp)
    | succ k ih =>
      intro x1 x2 t h
      change m_Parser_readWords_4b n  (m_Parser_readWords_4 n  k) x1 x2 t = some z at h
      unfold m_Parser_readWords_4b at h
      by_cases c8 : (16384 : Int32) ≤ x2
      · rw [if_pos c8] at h
        exact EqX.cast EqX.rf (j_s h)
      · rw [if_neg c8] at h
        by_cases c12 : x1 = 0
        · rw [if_pos c12] at h
          exact EqX.cast EqX.rf (j_s h)
        · rw [if_neg c12] at h
          obtain ⟨z19, hz19, h⟩ := j_bind h
          by_cases c25 : z19.1 ≤ (3 : Int32)
          · rw [if_pos c25] at h
            exact EqX.tr (EqX.tr EqX.rf (EqX.mono (x_Parser_take hz19) (by decide) (by decide) (by decide))) (G38 (m_Parser_readWords_4 n  k) ih x2 z19.1 z19.2 h)
          · rw [if_neg c25] at h
            by_cases c31 : (16 : Int32) ≤ z19.1
            · rw [if_pos c31] at h
              exact EqX.tr (EqX.tr EqX.rf (EqX.mono (x_Parser_take hz19) (by decide) (by decide) (by decide))) (G38 (m_Parser_readWords_4 n  k) ih x2 z19.1 z19.2 h)
            · rw [if_neg c31] at h
              obtain ⟨z35, hz35, h⟩ := j_bind h
              exact EqX.tr (EqX.tr (EqX.tr EqX.rf (EqX.mono (x_Parser_take hz19) (by decide) (by decide) (by decide))) (EqX.mono (x_Parser_refuseTaken hz35) (by decide) (by decide) (by decide))) (G38 (m_Parser_readWords_4 n  k) ih x2 z19.1 z35 h)
  unfold m_Parser_readWords at h
  exact EqX.tr EqX.rf (G4  n (1 : Int32) (0 : Int32) t h)
theorem x_Picture_ofComponent {n : Nat} {x1 : Int32} {x2 : Int32} {t : St} {z : Int32 × St} (h : m_Picture_ofComponent n x1 x2 t = some z) : EqX [] [] [] t z.2 := by
  unfold m_Picture_ofComponent at h
  by_cases c1 : x1 < 0
  · rw [if_pos c1] at h
    exact EqX.cast EqX.rf (j_r2 h)
  · rw [if_neg c1] at h
    by_cases c9 : (t.1 4) ≤ x1
    · rw [if_pos c9] at h
      exact EqX.cast EqX.rf (j_r2 h)
    · rw [if_neg c9] at h
      by_cases c13 : x2 < 0
      · rw [if_pos c13] at h
        exact EqX.cast EqX.rf (j_r2 h)
      · rw [if_neg c13] at h
        by_cases c18 : x2 < (4 : Int32)
        · rw [if_pos c18] at h
          obtain ⟨b32, h⟩ := j_ifn h
          exact EqX.cast EqX.rf (j_r2 h)
        · rw [if_neg c18] at h
          exact EqX.cast EqX.rf (j_r2 h)
theorem x_Picture_placeOfName {n : Nat} {x1 : Int32} {t : St} {z : Int32 × St} (h : m_Picture_placeOfName n x1 t = some z) : EqX [] [] [] t z.2 := by
  have G2 : ∀ (k : Nat) (x1 : Int32) (x2 : Int32) (t : St), m_Picture_placeOfName_2 n  k x1 x2 t = some z → EqX [] [] [] t z.2 := by
    intro k
    induction k with
    | zero => intro x1 x2 t h; exact absurd (show none = some z from h) (by simp)
    | succ k ih =>
      intro x1 x2 t h
      change m_Picture_placeOfName_2b n  (m_Picture_placeOfName_2 n  k) x1 x2 t = some z at h
      unfold m_Picture_placeOfName_2b at h
      by_cases c7 : (t.1 4) ≤ x2
      · rw [if_pos c7] at h
        exact EqX.cast EqX.rf (j_r2 h)
      · rw [if_neg c7] at h
        obtain ⟨z13, hz13, h⟩ := j_bind h
        by_cases c17 : z13.1 = x1
        · rw [if_pos c17] at h
          exact EqX.cast (EqX.tr EqX.rf (EqX.mono (x_Picture_ofComponent hz13) (by decide) (by decide) (by decide))) (j_r2 h)
        · rw [if_neg c17] at h
          exact EqX.tr (EqX.tr EqX.rf (EqX.mono (x_Picture_ofComponent hz13) (by decide) (by decide) (by decide))) (ih x1 (x2 + 1) z13.2 h)
  unfold m_Picture_placeOfName at h
  exact EqX.tr EqX.rf (G2  n x1 (0 : Int32) t h)
theorem x_Picture_addComponent {n : Nat} {x1 : Int32} {x2 : Int32} {x3 : Int32} {x4 : Int32} {t : St} {z : St} (h : m_Picture_addComponent n x1 x2 x3 x4 t = some z) : EqX [4] [3] [] t z := by
  unfold m_Picture_addComponent at h
  by_cases c5 : (t.1 4) < (4 : Int32)
  · rw [if_pos c5] at h
    obtain ⟨b24, h⟩ := j_ifn h
    obtain ⟨w34, hw34, h⟩ := j_bind h
    obtain ⟨b34, h⟩ := j_ifn h
    obtain ⟨w44, hw44, h⟩ := j_bind h
    obtain ⟨b44, h⟩ := j_ifn h
    obtain ⟨w55, hw55, h⟩ := j_bind h
    obtain ⟨b55, h⟩ := j_ifn h
    exact EqX.cast (EqX.g (EqX.h (EqX.cast (EqX.h (EqX.cast (EqX.h (EqX.cast (EqX.h EqX.rf (by decide)) (j_s hw34)) (by decide)) (j_s hw44)) (by decide)) (j_s hw55)) (by decide)) (by decide)) (j_s h)
  · rw [if_neg c5] at h
    exact EqX.cast EqX.rf (j_s h)
theorem x_Parser_readComponent {n : Nat}  {t : St} {z : St} (h : m_Parser_readComponent n t = some z) : EqX [4, 9, 13, 14] [3] [] t z := by
  have G70 : ∀ (x1 : Int32) (x3 : Int32) (x4 : Int32) (t : St), m_Parser_readComponent_70 n  x1 x3 x4 t = some z → EqX [4, 9, 13, 14] [3] [] t z := by
    intro x1 x3 x4 t h
    unfold m_Parser_readComponent_70 at h
    obtain ⟨z81, hz81, h⟩ := j_bind h
    obtain ⟨z84, hz84, h⟩ := j_bind h
    exact EqX.cast (EqX.tr (EqX.tr EqX.rf (EqX.mono (x_Parser_take hz81) (by decide) (by decide) (by decide))) (EqX.mono (x_Picture_addComponent hz84) (by decide) (by decide) (by decide))) (j_s h)
  have G66 : ∀ (x1 : Int32) (x3 : Int32) (x4 : Int32) (t : St), m_Parser_readComponent_66 n  x1 x3 x4 t = some z → EqX [4, 9, 13, 14] [3] [] t z := by
    intro x1 x3 x4 t h
    unfold m_Parser_readComponent_66 at h
    obtain ⟨z67, hz67, h⟩ := j_bind h
    exact EqX.tr (EqX.tr EqX.rf (EqX.mono (x_Parser_refuseTaken hz67) (by decide) (by decide) (by decide))) (G70  x1 x3 x4 z67 h)
  have G25 : ∀ (x1 : Int32) (t : St), m_Parser_readComponent_25 n  x1 t = some z → EqX [4, 9, 13, 14] [3] [] t z := by
    intro x1 t h
    unfold m_Parser_readComponent_25 at h
    obtain ⟨z30, hz30, h⟩ := j_bind h
    by_cases c46 : (z30.1 >>> ((4 : Int32) &&& 31)) < (1 : Int32)
    · rw [if_pos c46] at h
      exact EqX.tr (EqX.tr EqX.rf (EqX.mono (x_Parser_take hz30) (by decide) (by decide) (by decide))) (G66  x1 (z30.1 >>> ((4 : Int32) &&& 31)) (z30.1 &&& (15 : Int32)) z30.2 h)
    · rw [if_neg c46] at h
      by_cases c51 : (2 : Int32) < (z30.1 >>> ((4 : Int32) &&& 31))
      · rw [if_pos c51] at h
        exact EqX.tr (EqX.tr EqX.rf (EqX.mono (x_Parser_take hz30) (by decide) (by decide) (by decide))) (G66  x1 (z30.1 >>> ((4 : Int32) &&& 31)) (z30.1 &&& (15 : Int32)) z30.2 h)
      · rw [if_neg c51] at h
        by_cases c57 : (z30.1 &&& (15 : Int32)) < (1 : Int32)
        · rw [if_pos c57] at h
          exact EqX.tr (EqX.tr EqX.rf (EqX.mono (x_Parser_take hz30) (by decide) (by decide) (by decide))) (G66  x1 (z30.1 >>> ((4 : Int32) &&& 31)) (z30.1 &&& (15 : Int32)) z30.2 h)
        · rw [if_neg c57] at h
          by_cases c63 : (z30.1 &&& (15 : Int32)) ≤ (2 : Int32)
          · rw [if_pos c63] at h
            exact EqX.tr (EqX.tr EqX.rf (EqX.mono (x_Parser_take hz30) (by decide) (by decide) (by decide))) (G70  x1 (z30.1 >>> ((4 : Int32) &&& 31)) (z30.1 &&& (15 : Int32)) z30.2 h)
          · rw [if_neg c63] at h
            exact EqX.tr (EqX.tr EqX.rf (EqX.mono (x_Parser_take hz30) (by decide) (by decide) (by decide))) (G66  x1 (z30.1 >>> ((4 : Int32) &&& 31)) (z30.1 &&& (15 : Int32)) z30.2 h)
  unfold m_Parser_readComponent at h
  obtain ⟨z5, hz5, h⟩ := j_bind h
  obtain ⟨z14, hz14, h⟩ := j_bind h
  by_cases c18 : z14.1 = (-1 : Int32)
  · rw [if_pos c18] at h
    exact EqX.tr (EqX.tr (EqX.tr EqX.rf (EqX.mono (x_Parser_take hz5) (by decide) (by decide) (by decide))) (EqX.mono (x_Picture_placeOfName hz14) (by decide) (by decide) (by decide))) (G25  z5.1 z14.2 h)
  · rw [if_neg c18] at h
    obtain ⟨z22, hz22, h⟩ := j_bind h
    exact EqX.tr (EqX.tr (EqX.tr (EqX.tr EqX.rf (EqX.mono (x_Parser_take hz5) (by decide) (by decide) (by decide))) (EqX.mono (x_Picture_placeOfName hz14) (by decide) (by decide) (by decide))) (EqX.mono (x_Parser_refuseTaken hz22) (by decide) (by decide) (by decide))) (G25  z5.1 z22 h)
theorem x_Parser_readFrame {n : Nat} {x1 : Int32} {t : St} {z : St} (h : m_Parser_readFrame n x1 t = some z) : EqX [1, 2, 3, 4, 9, 13, 14] [3] [] t z := by
  have G46 : ∀ (k : Nat) (x1 : Int32) (x2 : Int32) (x3 : Int32) (t : St), m_Parser_readFrame_46 n  k x1 x2 x3 t = some z → EqX [1, 2, 3, 4, 9, 13, 14] [3] [] t z := by
    intro k
    induction k with
    | zero => intro x1 x2 x3 t h; exact absurd (show none = some z from h) (by simp)
    | succ k ih =>
      intro x1 x2 x3 t h
      change m_Parser_readFrame_46b n  (m_Parser_readFrame_46 n  k) x1 x2 x3 t = some z at h
      unfold m_Parser_readFrame_46b at h
      by_cases c48 : x2 ≤ x3
      · rw [if_pos c48] at h
        exact EqX.cast (EqX.g EqX.rf (by decide)) (j_s h)
      · rw [if_neg c48] at h
        obtain ⟨z52, hz52, h⟩ := j_bind h
        exact EqX.tr (EqX.tr EqX.rf (EqX.mono (x_Parser_readComponent hz52) (by decide) (by decide) (by decide))) (ih x1 x2 (x3 + 1) z52 h)
  unfold m_Parser_readFrame at h
  obtain ⟨z5, hz5, h⟩ := j_bind h
  obtain ⟨z17, hz17, h⟩ := j_bind h
  obtain ⟨z31, hz31, h⟩ := j_bind h
  obtain ⟨z40, hz40, h⟩ := j_bind h
  exact EqX.tr (EqX.tr (EqX.g (EqX.tr (EqX.g (EqX.tr (EqX.tr EqX.rf (EqX.mono (x_Parser_take hz5) (by decide) (by decide) (by decide))) (EqX.mono (x_Parser_takePair hz17) (by decide) (by decide) (by decide))) (by decide)) (EqX.mono (x_Parser_takePair hz31) (by decide) (by decide) (by decide))) (by decide)) (EqX.mono (x_Parser_take hz40) (by decide) (by decide) (by decide))) (G46  n x1 z40.1 (0 : Int32) z40.2 h)
theorem x_Parser_takeScanComponents {n : Nat}  {t : St} {z : St} (h : m_Parser_takeScanComponents n t = some z) : EqX [9, 13, 14] [6] [] t z := by
  have G128 : ∀ (K6 : Int32 → Int32 → Int32 → St → Option (St)) (hK6 : ∀ (x1 : Int32) (x2 : Int32) (x3 : Int32) (t : St), K6 x1 x2 x3 t = some z → EqX [9, 13, 14] [6] [] t z) (x1 : Int32) (x2 : Int32) (x3 : Int32) (t : St), m_Parser_takeScanComponents_128 n K6 x1 x2 x3 t = some z → EqX [9, 13, 14] [6] [] t z := by
    intro K6 hK6 x1 x2 x3 t h
    unfold m_Parser_takeScanComponents_128 at h
    exact EqX.tr EqX.rf (hK6 x1 x2 (x3 + 1) t h)
  have G92 : ∀ (K6 : Int32 → Int32 → Int32 → St → Option (St)) (hK6 : ∀ (x1 : Int32) (x2 : Int32) (x3 : Int32) (t : St), K6 x1 x2 x3 t = some z → EqX [9, 13, 14] [6] [] t z) (x2 : Int32) (x3 : Int32) (x4 : Int32) (t : St), m_Parser_takeScanComponents_92 n K6 x2 x3 x4 t = some z → EqX [9, 13, 14] [6] [] t z := by
    intro K6 hK6 x2 x3 x4 t h
    unfold m_Parser_takeScanComponents_92 at h
    obtain ⟨b102, h⟩ := j_ifn h
    obtain ⟨z110, hz110, h⟩ := j_bind h
    by_cases c121 : (z110.1 &&& (15 : Int32)) ≤ (3 : Int32)
    · rw [if_pos c121] at h
      exact EqX.tr (EqX.tr (EqX.h EqX.rf (by decide)) (EqX.mono (x_Parser_take hz110) (by decide) (by decide) (by decide))) (G128 K6 hK6 x4 x2 x3 z110.2 h)
    · rw [if_neg c121] at h
      obtain ⟨z125, hz125, h⟩ := j_bind h
      exact EqX.tr (EqX.tr (EqX.tr (EqX.h EqX.rf (by decide)) (EqX.mono (x_Parser_take hz110) (by decide) (by decide) (by decide))) (EqX.mono (x_Parser_refuseTaken hz125) (by decide) (by decide) (by decide))) (G128 K6 hK6 x4 x2 x3 z125 h)
  have G58 : ∀ (K6 : Int32 → Int32 → Int32 → St → Option (St)) (hK6 : ∀ (x1 : Int32) (x2 : Int32) (x3 : Int32) (t : St), K6 x1 x2 x3 t = some z → EqX [9, 13, 14] [6] [] t z) (x2 : Int32) (x3 : Int32) (x4 : Int32) (t : St), m_Parser_takeScanComponents_58 n K6 x2 x3 x4 t = some z → EqX [9, 13, 14] [6] [] t z := by
    intro K6 hK6 x2 x3 x4 t h
    unfold m_Parser_takeScanComponents_58 at h
    obtain ⟨z66, hz66, h⟩ := j_bind h
    obtain ⟨z76, hz76, h⟩ := j_bind h
    by_cases c85 : (x2 + (z66.1 * z76.1)) ≤ (10 : Int32)
    · rw [if_pos c85] at h
      exact EqX.tr (EqX.tr (EqX.tr EqX.rf (EqX.mono (x_Picture_ofComponent hz66) (by decide) (by decide) (by decide))) (EqX.mono (x_Picture_ofComponent hz76) (by decide) (by decide) (by decide))) (G92 K6 hK6 (x2 + (z66.1 * z76.1)) x3 x4 z76.2 h)
    · rw [if_neg c85] at h
      obtain ⟨z89, hz89, h⟩ := j_bind h
      exact EqX.tr (EqX.tr (EqX.tr (EqX.tr EqX.rf (EqX.mono (x_Picture_ofComponent hz66) (by decide) (by decide) (by decide))) (EqX.mono (x_Picture_ofComponent hz76) (by decide) (by decide) (by decide))) (EqX.mono (x_Parser_refuseTaken hz89) (by decide) (by decide) (by decide))) (G92 K6 hK6 (x2 + (z66.1 * z76.1)) x3 x4 z89 h)
  have G6 : ∀ (k : Nat) (x1 : Int32) (x2 : Int32) (x3 : Int32) (t : St), m_Parser_takeScanComponents_6 n  k x1 x2 x3 t = some z → EqX [9, 13, 14] [6] [] t z := by
    intro k
    induction k with
    | zero => intro x1 x2 x3 t h; exact absurd (show none = some z from h) (by simp)
    | succ k ih =>
      intro x1 x2 x3 t h
      change m_Parser_takeScanComponents_6b n  (m_Parser_takeScanComponents_6 n  k) x1 x2 x3 t = some z at h
      unfold m_Parser_takeScanComponents_6b at h
      by_cases c14 : (t.1 16) ≤ x3
      · rw [if_pos c14] at h
        exact EqX.cast EqX.rf (j_s h)
      · rw [if_neg c14] at h
        by_cases c19 : (4 : Int32) ≤ x3
        · rw [if_pos c19] at h
          exact EqX.cast EqX.rf (j_s h)
        · rw [if_neg c19] at h
          obtain ⟨z31, hz31, h⟩ := j_bind h
          obtain ⟨z34, hz34, h⟩ := j_bind h
          by_cases c42 : x1 < z34.1
          · rw [if_pos c42] at h
            exact EqX.tr (EqX.tr (EqX.tr EqX.rf (EqX.mono (x_Parser_take hz31) (by decide) (by decide) (by decide))) (EqX.mono (x_Picture_placeOfName hz34) (by decide) (by decide) (by decide))) (G58 (m_Parser_takeScanComponents_6 n  k) ih x2 x3 z34.1 z34.2 h)
          · rw [if_neg c42] at h
            obtain ⟨z54, hz54, h⟩ := j_bind h
            exact EqX.tr (EqX.tr (EqX.tr (EqX.tr EqX.rf (EqX.mono (x_Parser_take hz31) (by decide) (by decide) (by decide))) (EqX.mono (x_Picture_placeOfName hz34) (by decide) (by decide) (by decide))) (EqX.mono (x_Parser_fail hz54) (by decide) (by decide) (by decide))) (G58 (m_Parser_takeScanComponents_6 n  k) ih x2 x3 z34.1 z54.2 h)
  unfold m_Parser_takeScanComponents at h
  exact EqX.tr EqX.rf (G6  n (-1 : Int32) (0 : Int32) (0 : Int32) t h)
theorem x_Parser_takeBits {n : Nat} {x1 : Int32} {t : St} {z : St} (h : m_Parser_takeBits n x1 t = some z) : EqX [9, 13, 14, 19, 20] [] [] t z := by
  have G69 : ∀  (t : St), m_Parser_takeBits_69 n   t = some z → EqX [9, 13, 14, 19, 20] [] [] t z := by
    intro  t h
    unfold m_Parser_takeBits_69 at h
    obtain ⟨z70, hz70, h⟩ := j_bind h
    exact EqX.cast (EqX.tr EqX.rf (EqX.mono (x_Parser_refuseTaken hz70) (by decide) (by decide) (by decide))) (j_s h)
  unfold m_Parser_takeBits at h
  obtain ⟨z3, hz3, h⟩ := j_bind h
  by_cases c37 : (13 : Int32) < (z3.1 &&& (15 : Int32))
  · rw [if_pos c37] at h
    exact EqX.tr (EqX.g (EqX.g (EqX.tr EqX.rf (EqX.mono (x_Parser_take hz3) (by decide) (by decide) (by decide))) (by decide)) (by decide)) (G69  (sG (sG z3.2 19 (z3.1 >>> ((4 : Int32) &&& 31))) 20 (z3.1 &&& (15 : Int32))) h)
  · rw [if_neg c37] at h
    by_cases c47 : (z3.1 >>> ((4 : Int32) &&& 31)) = 0
    · rw [if_pos c47] at h
      exact EqX.cast (EqX.g (EqX.g (EqX.tr EqX.rf (EqX.mono (x_Parser_take hz3) (by decide) (by decide) (by decide))) (by decide)) (by decide)) (j_s h)
    · rw [if_neg c47] at h
      by_cases c66 : (z3.1 >>> ((4 : Int32) &&& 31)) = ((z3.1 &&& (15 : Int32)) + (1 : Int32))
      · rw [if_pos c66] at h
        exact EqX.cast (EqX.g (EqX.g (EqX.tr EqX.rf (EqX.mono (x_Parser_take hz3) (by decide) (by decide) (by decide))) (by decide)) (by decide)) (j_s h)
      · rw [if_neg c66] at h
        exact EqX.tr (EqX.g (EqX.g (EqX.tr EqX.rf (EqX.mono (x_Parser_take hz3) (by decide) (by decide) (by decide))) (by decide)) (by decide)) (G69  (sG (sG z3.2 19 (z3.1 >>> ((4 : Int32) &&& 31))) 20 (z3.1 &&& (15 : Int32))) h)
theorem x_Scan_placeAt {n : Nat} {x1 : Int32} {t : St} {z : Int32 × St} (h : m_Scan_placeAt n x1 t = some z) : EqX [] [] [] t z.2 := by
  have G22 : ∀  (t : St), m_Scan_placeAt_22 n   t = some z → EqX [] [] [] t z.2 := by
    intro  t h
    unfold m_Scan_placeAt_22 at h
    exact EqX.cast EqX.rf (j_r2 h)
  unfold m_Scan_placeAt at h
  by_cases c1 : x1 < 0
  · rw [if_pos c1] at h
    exact EqX.tr EqX.rf (G22  t h)
  · rw [if_neg c1] at h
    by_cases c10 : (Int32.ofNat 4) ≤ x1
    · rw [if_pos c10] at h
      exact EqX.tr EqX.rf (G22  t h)
    · rw [if_neg c10] at h
      obtain ⟨b18, h⟩ := j_ifn h
      exact EqX.cast EqX.rf (j_r2 h)
theorem x_Scan_nameAt {n : Nat} {x1 : Int32} {t : St} {z : Int32 × St} (h : m_Scan_nameAt n x1 t = some z) : EqX [] [] [] t z.2 := by
  unfold m_Scan_nameAt at h
  exact EqX.cast EqX.rf (j_r2 h)
theorem x_Parser_checkSent {n : Nat}  {t : St} {z : St} (h : m_Parser_checkSent n t = some z) : EqX [13, 14] [] [] t z := by
  have G163 : ∀ (K2 : Int32 → St → Option (St)) (hK2 : ∀ (x1 : Int32) (t : St), K2 x1 t = some z → EqX [13, 14] [] [] t z) (K135 : Int32 → Int32 → Int32 → Int32 → St → Option (St)) (hK135 : ∀ (x1 : Int32) (x2 : Int32) (x5 : Int32) (x6 : Int32) (t : St), K135 x1 x2 x5 x6 t = some z → EqX [13, 14] [] [] t z) (x1 : Int32) (x2 : Int32) (x5 : Int32) (x6 : Int32) (t : St), m_Parser_checkSent_163 n K2 K135 x1 x2 x5 x6 t = some z → EqX [13, 14] [] [] t z := by
    intro K2 hK2 K135 hK135 x1 x2 x5 x6 t h
    unfold m_Parser_checkSent_163 at h
    exact EqX.tr EqX.rf (hK135 x1 x2 x5 (x6 + 1) t h)
  have G135 : ∀ (K2 : Int32 → St → Option (St)) (hK2 : ∀ (x1 : Int32) (t : St), K2 x1 t = some z → EqX [13, 14] [] [] t z) (k : Nat) (x1 : Int32) (x2 : Int32) (x5 : Int32) (x6 : Int32) (t : St), m_Parser_checkSent_135 n K2 k x1 x2 x5 x6 t = some z → EqX [13, 14] [] [] t z := by
    intro K2 hK2 k
    induction k with
    | zero => intro x1 x2 x5 x6 t h; exact absurd (show none = some z from h) (by simp)
    | succ k ih =>
      intro x1 x2 x5 x6 t h
      change m_Parser_checkSent_135b n K2 (m_Parser_checkSent_135 n K2 k) x1 x2 x5 x6 t = some z at h
      unfold m_Parser_checkSent_135b at h
      by_cases c144 : (t.1 18) < x6
      · rw [if_pos c144] at h
        exact EqX.tr EqX.rf (hK2 (x1 + 1) t h)
      · rw [if_neg c144] at h
        obtain ⟨z151, hz151, h⟩ := j_bind h
        by_cases c156 : z151.1 = x5
        · rw [if_pos c156] at h
          exact EqX.tr (EqX.tr EqX.rf (EqX.mono (x_Parser_latestOf hz151) (by decide) (by decide) (by decide))) (G163 K2 hK2 (m_Parser_checkSent_135 n K2 k) ih x1 x2 x5 x6 z151.2 h)
        · rw [if_neg c156] at h
          obtain ⟨z160, hz160, h⟩ := j_bind h
          exact EqX.tr (EqX.tr (EqX.tr EqX.rf (EqX.mono (x_Parser_latestOf hz151) (by decide) (by decide) (by decide))) (EqX.mono (x_Parser_refuseTaken hz160) (by decide) (by decide) (by decide))) (G163 K2 hK2 (m_Parser_checkSent_135 n K2 k) ih x1 x2 x5 x6 z160 h)
  have G124 : ∀ (K2 : Int32 → St → Option (St)) (hK2 : ∀ (x1 : Int32) (t : St), K2 x1 t = some z → EqX [13, 14] [] [] t z) (x1 : Int32) (x2 : Int32) (y0 : Int32) (t : St), m_Parser_checkSent_124 n K2 x1 x2 y0 t = some z → EqX [13, 14] [] [] t z := by
    intro K2 hK2 x1 x2 y0 t h
    unfold m_Parser_checkSent_124 at h
    exact EqX.tr EqX.rf (G135 K2 hK2 n x1 x2 y0 (t.1 17) t h)
  have G103 : ∀ (K2 : Int32 → St → Option (St)) (hK2 : ∀ (x1 : Int32) (t : St), K2 x1 t = some z → EqX [13, 14] [] [] t z) (x1 : Int32) (x2 : Int32) (t : St), m_Parser_checkSent_103 n K2 x1 x2 t = some z → EqX [13, 14] [] [] t z := by
    intro K2 hK2 x1 x2 t h
    unfold m_Parser_checkSent_103 at h
    by_cases c110 : (t.1 19) = 0
    · rw [if_pos c110] at h
      exact EqX.tr EqX.rf (G124 K2 hK2 x1 x2 (-1 : Int32) t h)
    · rw [if_neg c110] at h
      exact EqX.tr EqX.rf (G124 K2 hK2 x1 x2 (t.1 19) t h)
  have G88 : ∀ (K2 : Int32 → St → Option (St)) (hK2 : ∀ (x1 : Int32) (t : St), K2 x1 t = some z → EqX [13, 14] [] [] t z) (x1 : Int32) (x2 : Int32) (t : St), m_Parser_checkSent_88 n K2 x1 x2 t = some z → EqX [13, 14] [] [] t z := by
    intro K2 hK2 x1 x2 t h
    unfold m_Parser_checkSent_88 at h
    obtain ⟨z96, hz96, h⟩ := j_bind h
    obtain ⟨z99, hz99, h⟩ := j_bind h
    exact EqX.tr (EqX.tr (EqX.tr EqX.rf (EqX.mono (x_Scan_nameAt hz96) (by decide) (by decide) (by decide))) (EqX.mono (x_Parser_fail hz99) (by decide) (by decide) (by decide))) (G103 K2 hK2 x1 x2 z99.2 h)
  have G67 : ∀ (K2 : Int32 → St → Option (St)) (hK2 : ∀ (x1 : Int32) (t : St), K2 x1 t = some z → EqX [13, 14] [] [] t z) (x1 : Int32) (x2 : Int32) (x3 : Int32) (y0 : Int32) (t : St), m_Parser_checkSent_67 n K2 x1 x2 x3 y0 t = some z → EqX [13, 14] [] [] t z := by
    intro K2 hK2 x1 x2 x3 y0 t h
    unfold m_Parser_checkSent_67 at h
    by_cases c71 : y0 = 0
    · rw [if_pos c71] at h
      by_cases c81 : (t.1 17) ≤ 0
      · rw [if_pos c81] at h
        exact EqX.tr EqX.rf (G103 K2 hK2 x1 x2 t h)
      · rw [if_neg c81] at h
        by_cases c85 : x3 = 0
        · rw [if_pos c85] at h
          exact EqX.tr EqX.rf (G88 K2 hK2 x1 x2 t h)
        · rw [if_neg c85] at h
          exact EqX.tr EqX.rf (G103 K2 hK2 x1 x2 t h)
    · rw [if_neg c71] at h
      exact EqX.tr EqX.rf (G88 K2 hK2 x1 x2 t h)
  have G66 : ∀ (K2 : Int32 → St → Option (St)) (hK2 : ∀ (x1 : Int32) (t : St), K2 x1 t = some z → EqX [13, 14] [] [] t z) (x1 : Int32) (x2 : Int32) (x3 : Int32) (t : St), m_Parser_checkSent_66 n K2 x1 x2 x3 t = some z → EqX [13, 14] [] [] t z := by
    intro K2 hK2 x1 x2 x3 t h
    unfold m_Parser_checkSent_66 at h
    exact EqX.tr EqX.rf (G67 K2 hK2 x1 x2 x3 (0 : Int32) t h)
  have G44 : ∀ (K2 : Int32 → St → Option (St)) (hK2 : ∀ (x1 : Int32) (t : St), K2 x1 t = some z → EqX [13, 14] [] [] t z) (x1 : Int32) (x2 : Int32) (y0 : Int32) (t : St), m_Parser_checkSent_44 n K2 x1 x2 y0 t = some z → EqX [13, 14] [] [] t z := by
    intro K2 hK2 x1 x2 y0 t h
    unfold m_Parser_checkSent_44 at h
    by_cases c46 : y0 = 0
    · rw [if_pos c46] at h
      exact EqX.tr EqX.rf (G66 K2 hK2 x1 x2 y0 t h)
    · rw [if_neg c46] at h
      by_cases c59 : (t.1 1) = (192 : Int32)
      · rw [if_pos c59] at h
        exact EqX.tr EqX.rf (G67 K2 hK2 x1 x2 y0 (1 : Int32) t h)
      · rw [if_neg c59] at h
        exact EqX.tr EqX.rf (G66 K2 hK2 x1 x2 y0 t h)
  have G2 : ∀ (k : Nat) (x1 : Int32) (t : St), m_Parser_checkSent_2 n  k x1 t = some z → EqX [13, 14] [] [] t z := by
    intro k
    induction k with
    | zero => intro x1 t h; exact absurd (show none = some z from h) (by simp)
    | succ k ih =>
      intro x1 t h
      change m_Parser_checkSent_2b n  (m_Parser_checkSent_2 n  k) x1 t = some z at h
      unfold m_Parser_checkSent_2b at h
      by_cases c10 : (t.1 16) ≤ x1
      · rw [if_pos c10] at h
        exact EqX.cast EqX.rf (j_s h)
      · rw [if_neg c10] at h
        by_cases c17 : (t.1 13) = 0
        · rw [if_pos c17] at h
          obtain ⟨z25, hz25, h⟩ := j_bind h
          obtain ⟨z32, hz32, h⟩ := j_bind h
          by_cases c36 : z32.1 = (-1 : Int32)
          · rw [if_pos c36] at h
            exact EqX.tr (EqX.tr (EqX.tr EqX.rf (EqX.mono (x_Scan_placeAt hz25) (by decide) (by decide) (by decide))) (EqX.mono (x_Parser_latestOf hz32) (by decide) (by decide) (by decide))) (G44 (m_Parser_checkSent_2 n  k) ih x1 z25.1 (0 : Int32) z32.2 h)
          · rw [if_neg c36] at h
            exact EqX.tr (EqX.tr (EqX.tr EqX.rf (EqX.mono (x_Scan_placeAt hz25) (by decide) (by decide) (by decide))) (EqX.mono (x_Parser_latestOf hz32) (by decide) (by decide) (by decide))) (G44 (m_Parser_checkSent_2 n  k) ih x1 z25.1 (1 : Int32) z32.2 h)
        · rw [if_neg c17] at h
          exact EqX.cast EqX.rf (j_s h)
  unfold m_Parser_checkSent at h
  exact EqX.tr EqX.rf (G2  n (0 : Int32) t h)
theorem x_Picture_hasQuantisers {n : Nat} {x1 : Int32} {t : St} {z : Int32 × St} (h : m_Picture_hasQuantisers n x1 t = some z) : EqX [] [] [] t z.2 := by
  have G27 : ∀  (t : St), m_Picture_hasQuantisers_27 n   t = some z → EqX [] [] [] t z.2 := by
    intro  t h
    unfold m_Picture_hasQuantisers_27 at h
    exact EqX.cast EqX.rf (j_r2 h)
  unfold m_Picture_hasQuantisers at h
  by_cases c1 : x1 < 0
  · rw [if_pos c1] at h
    exact EqX.tr EqX.rf (G27  t h)
  · rw [if_neg c1] at h
    by_cases c10 : (Int32.ofNat 4) ≤ x1
    · rw [if_pos c10] at h
      exact EqX.tr EqX.rf (G27  t h)
    · rw [if_neg c10] at h
      obtain ⟨b18, h⟩ := j_ifn h
      by_cases c20 : ((t.2.1 4) (x1).toNatClampNeg) = (-1 : Int32)
      · rw [if_pos c20] at h
        exact EqX.tr EqX.rf (G27  t h)
      · rw [if_neg c20] at h
        exact EqX.cast EqX.rf (j_r2 h)
theorem x_Picture_placeOfWords {n : Nat} {x1 : Int32} {t : St} {z : Int32 × St} (h : m_Picture_placeOfWords n x1 t = some z) : EqX [] [] [] t z.2 := by
  have G28 : ∀  (t : St), m_Picture_placeOfWords_28 n   t = some z → EqX [] [] [] t z.2 := by
    intro  t h
    unfold m_Picture_placeOfWords_28 at h
    exact EqX.cast EqX.rf (j_r2 h)
  unfold m_Picture_placeOfWords at h
  obtain ⟨z2, hz2, h⟩ := j_bind h
  by_cases c7 : z2.1 < 0
  · rw [if_pos c7] at h
    exact EqX.tr (EqX.tr EqX.rf (EqX.mono (x_Picture_rowOfWords hz2) (by decide) (by decide) (by decide))) (G28  z2.2 h)
  · rw [if_neg c7] at h
    by_cases c16 : (Int32.ofNat 8) ≤ z2.1
    · rw [if_pos c16] at h
      exact EqX.tr (EqX.tr EqX.rf (EqX.mono (x_Picture_rowOfWords hz2) (by decide) (by decide) (by decide))) (G28  z2.2 h)
    · rw [if_neg c16] at h
      obtain ⟨b24, h⟩ := j_ifn h
      exact EqX.cast (EqX.tr EqX.rf (EqX.mono (x_Picture_rowOfWords hz2) (by decide) (by decide) (by decide))) (j_r2 h)
theorem x_Parser_checkTables {n : Nat}  {t : St} {z : St} (h : m_Parser_checkTables n t = some z) : EqX [13, 14] [] [] t z := by
  have G168 : ∀ (K2 : Int32 → St → Option (St)) (hK2 : ∀ (x1 : Int32) (t : St), K2 x1 t = some z → EqX [13, 14] [] [] t z) (x1 : Int32) (t : St), m_Parser_checkTables_168 n K2 x1 t = some z → EqX [13, 14] [] [] t z := by
    intro K2 hK2 x1 t h
    unfold m_Parser_checkTables_168 at h
    exact EqX.tr EqX.rf (hK2 (x1 + 1) t h)
  have G130 : ∀ (K2 : Int32 → St → Option (St)) (hK2 : ∀ (x1 : Int32) (t : St), K2 x1 t = some z → EqX [13, 14] [] [] t z) (x1 : Int32) (x2 : Int32) (x3 : Int32) (t : St), m_Parser_checkTables_130 n K2 x1 x2 x3 t = some z → EqX [13, 14] [] [] t z := by
    intro K2 hK2 x1 x2 x3 t h
    unfold m_Parser_checkTables_130 at h
    by_cases c137 : (t.1 18) ≤ 0
    · rw [if_pos c137] at h
      exact EqX.tr EqX.rf (G168 K2 hK2 x1 t h)
    · rw [if_neg c137] at h
      obtain ⟨z151, hz151, h⟩ := j_bind h
      by_cases c155 : z151.1 = (-1 : Int32)
      · rw [if_pos c155] at h
        obtain ⟨z164, hz164, h⟩ := j_bind h
        exact EqX.tr (EqX.tr (EqX.tr EqX.rf (EqX.mono (x_Picture_placeOfWords hz151) (by decide) (by decide) (by decide))) (EqX.mono (x_Parser_fail hz164) (by decide) (by decide) (by decide))) (G168 K2 hK2 x1 z164.2 h)
      · rw [if_neg c155] at h
        exact EqX.tr (EqX.tr EqX.rf (EqX.mono (x_Picture_placeOfWords hz151) (by decide) (by decide) (by decide))) (G168 K2 hK2 x1 z151.2 h)
  have G99 : ∀ (K2 : Int32 → St → Option (St)) (hK2 : ∀ (x1 : Int32) (t : St), K2 x1 t = some z → EqX [13, 14] [] [] t z) (x1 : Int32) (x2 : Int32) (x3 : Int32) (y0 : Int32) (t : St), m_Parser_checkTables_99 n K2 x1 x2 x3 y0 t = some z → EqX [13, 14] [] [] t z := by
    intro K2 hK2 x1 x2 x3 y0 t h
    unfold m_Parser_checkTables_99 at h
    by_cases c103 : y0 = 0
    · rw [if_pos c103] at h
      exact EqX.tr EqX.rf (G130 K2 hK2 x1 x2 x3 t h)
    · rw [if_neg c103] at h
      obtain ⟨z113, hz113, h⟩ := j_bind h
      by_cases c117 : z113.1 = (-1 : Int32)
      · rw [if_pos c117] at h
        obtain ⟨z126, hz126, h⟩ := j_bind h
        exact EqX.tr (EqX.tr (EqX.tr EqX.rf (EqX.mono (x_Picture_placeOfWords hz113) (by decide) (by decide) (by decide))) (EqX.mono (x_Parser_fail hz126) (by decide) (by decide) (by decide))) (G130 K2 hK2 x1 x2 x3 z126.2 h)
      · rw [if_neg c117] at h
        exact EqX.tr (EqX.tr EqX.rf (EqX.mono (x_Picture_placeOfWords hz113) (by decide) (by decide) (by decide))) (G130 K2 hK2 x1 x2 x3 z113.2 h)
  have G98 : ∀ (K2 : Int32 → St → Option (St)) (hK2 : ∀ (x1 : Int32) (t : St), K2 x1 t = some z → EqX [13, 14] [] [] t z) (x1 : Int32) (x2 : Int32) (x3 : Int32) (t : St), m_Parser_checkTables_98 n K2 x1 x2 x3 t = some z → EqX [13, 14] [] [] t z := by
    intro K2 hK2 x1 x2 x3 t h
    unfold m_Parser_checkTables_98 at h
    exact EqX.tr EqX.rf (G99 K2 hK2 x1 x2 x3 (0 : Int32) t h)
  have G74 : ∀ (K2 : Int32 → St → Option (St)) (hK2 : ∀ (x1 : Int32) (t : St), K2 x1 t = some z → EqX [13, 14] [] [] t z) (x1 : Int32) (x2 : Int32) (x3 : Int32) (t : St), m_Parser_checkTables_74 n K2 x1 x2 x3 t = some z → EqX [13, 14] [] [] t z := by
    intro K2 hK2 x1 x2 x3 t h
    unfold m_Parser_checkTables_74 at h
    by_cases c81 : (t.1 17) = 0
    · rw [if_pos c81] at h
      by_cases c91 : (t.1 19) = 0
      · rw [if_pos c91] at h
        exact EqX.tr EqX.rf (G99 K2 hK2 x1 x2 x3 (1 : Int32) t h)
      · rw [if_neg c91] at h
        exact EqX.tr EqX.rf (G98 K2 hK2 x1 x2 x3 t h)
    · rw [if_neg c81] at h
      exact EqX.tr EqX.rf (G98 K2 hK2 x1 x2 x3 t h)
  have G2 : ∀ (k : Nat) (x1 : Int32) (t : St), m_Parser_checkTables_2 n  k x1 t = some z → EqX [13, 14] [] [] t z := by
    intro k
    induction k with
    | zero => intro x1 t h; exact absurd (show none = some z from h) (by simp)
    | succ k ih =>
      intro x1 t h
      change m_Parser_checkTables_2b n  (m_Parser_checkTables_2 n  k) x1 t = some z at h
      unfold m_Parser_checkTables_2b at h
      by_cases c10 : (t.1 16) ≤ x1
      · rw [if_pos c10] at h
        exact EqX.cast EqX.rf (j_s h)
      · rw [if_neg c10] at h
        by_cases c17 : (t.1 13) = 0
        · rw [if_pos c17] at h
          obtain ⟨z25, hz25, h⟩ := j_bind h
          obtain ⟨z36, hz36, h⟩ := j_bind h
          obtain ⟨z53, hz53, h⟩ := j_bind h
          obtain ⟨z57, hz57, h⟩ := j_bind h
          obtain ⟨z60, hz60, h⟩ := j_bind h
          by_cases c63 : z60.1 = 0
          · rw [if_pos c63] at h
            obtain ⟨z70, hz70, h⟩ := j_bind h
            exact EqX.tr (EqX.tr (EqX.tr (EqX.tr (EqX.tr (EqX.tr (EqX.tr EqX.rf (EqX.mono (x_Scan_nameAt hz25) (by decide) (by decide) (by decide))) (EqX.mono (x_Bytes_at hz36) (by decide) (by decide) (by decide))) (EqX.mono (x_Scan_placeAt hz53) (by decide) (by decide) (by decide))) (EqX.mono (x_Picture_ofComponent hz57) (by decide) (by decide) (by decide))) (EqX.mono (x_Picture_hasQuantisers hz60) (by decide) (by decide) (by decide))) (EqX.mono (x_Parser_fail hz70) (by decide) (by decide) (by decide))) (G74 (m_Parser_checkTables_2 n  k) ih x1 z25.1 z36.1 z70.2 h)
          · rw [if_neg c63] at h
            exact EqX.tr (EqX.tr (EqX.tr (EqX.tr (EqX.tr (EqX.tr EqX.rf (EqX.mono (x_Scan_nameAt hz25) (by decide) (by decide) (by decide))) (EqX.mono (x_Bytes_at hz36) (by decide) (by decide) (by decide))) (EqX.mono (x_Scan_placeAt hz53) (by decide) (by decide) (by decide))) (EqX.mono (x_Picture_ofComponent hz57) (by decide) (by decide) (by decide))) (EqX.mono (x_Picture_hasQuantisers hz60) (by decide) (by decide) (by decide))) (G74 (m_Parser_checkTables_2 n  k) ih x1 z25.1 z36.1 z60.2 h)
        · rw [if_neg c17] at h
          exact EqX.cast EqX.rf (j_s h)
  unfold m_Parser_checkTables at h
  exact EqX.tr EqX.rf (G2  n (0 : Int32) t h)
theorem x_Parser_noteSent {n : Nat}  {t : St} {z : St} (h : m_Parser_noteSent n t = some z) : EqX [] [7] [] t z := by
  have G85 : ∀ (K2 : Int32 → St → Option (St)) (hK2 : ∀ (x1 : Int32) (t : St), K2 x1 t = some z → EqX [] [7] [] t z) (K40 : Int32 → Int32 → Int32 → St → Option (St)) (hK40 : ∀ (x1 : Int32) (x2 : Int32) (x3 : Int32) (t : St), K40 x1 x2 x3 t = some z → EqX [] [7] [] t z) (x1 : Int32) (x2 : Int32) (x3 : Int32) (t : St), m_Parser_noteSent_85 n K2 K40 x1 x2 x3 t = some z → EqX [] [7] [] t z := by
    intro K2 hK2 K40 hK40 x1 x2 x3 t h
    unfold m_Parser_noteSent_85 at h
    exact EqX.tr EqX.rf (hK40 x1 x2 (x3 + 1) t h)
  have G40 : ∀ (K2 : Int32 → St → Option (St)) (hK2 : ∀ (x1 : Int32) (t : St), K2 x1 t = some z → EqX [] [7] [] t z) (k : Nat) (x1 : Int32) (x2 : Int32) (x3 : Int32) (t : St), m_Parser_noteSent_40 n K2 k x1 x2 x3 t = some z → EqX [] [7] [] t z := by
    intro K2 hK2 k
    induction k with
    | zero => intro x1 x2 x3 t h; exact absurd (show none = some z from h) (by simp)
    | succ k ih =>
      intro x1 x2 x3 t h
      change m_Parser_noteSent_40b n K2 (m_Parser_noteSent_40 n K2 k) x1 x2 x3 t = some z at h
      unfold m_Parser_noteSent_40b at h
      by_cases c48 : (t.1 18) < x3
      · rw [if_pos c48] at h
        exact EqX.tr EqX.rf (hK2 (x1 + 1) t h)
      · rw [if_neg c48] at h
        by_cases c58 : (x2 + x3) < 0
        · rw [if_pos c58] at h
          exact EqX.tr EqX.rf (G85 K2 hK2 (m_Parser_noteSent_40 n K2 k) ih x1 x2 x3 t h)
        · rw [if_neg c58] at h
          by_cases c68 : (Int32.ofNat 256) ≤ (x2 + x3)
          · rw [if_pos c68] at h
            exact EqX.tr EqX.rf (G85 K2 hK2 (m_Parser_noteSent_40 n K2 k) ih x1 x2 x3 t h)
          · rw [if_neg c68] at h
            obtain ⟨b84, h⟩ := j_ifn h
            exact EqX.tr (EqX.h EqX.rf (by decide)) (G85 K2 hK2 (m_Parser_noteSent_40 n K2 k) ih x1 x2 x3 (sH t 7 ((x2 + x3)).toNatClampNeg (t.1 20)) h)
  have G2 : ∀ (k : Nat) (x1 : Int32) (t : St), m_Parser_noteSent_2 n  k x1 t = some z → EqX [] [7] [] t z := by
    intro k
    induction k with
    | zero => intro x1 t h; exact absurd (show none = some z from h) (by simp)
    | succ k ih =>
      intro x1 t h
      change m_Parser_noteSent_2b n  (m_Parser_noteSent_2 n  k) x1 t = some z at h
      unfold m_Parser_noteSent_2b at h
      by_cases c10 : (t.1 16) ≤ x1
      · rw [if_pos c10] at h
        exact EqX.cast EqX.rf (j_s h)
      · rw [if_neg c10] at h
        by_cases c17 : (t.1 13) = 0
        · rw [if_pos c17] at h
          obtain ⟨z25, hz25, h⟩ := j_bind h
          exact EqX.tr (EqX.tr EqX.rf (EqX.mono (x_Scan_placeAt hz25) (by decide) (by decide) (by decide))) (G40 (m_Parser_noteSent_2 n  k) ih n x1 (z25.1 * (64 : Int32)) (z25.2.1 17) z25.2 h)
        · rw [if_neg c17] at h
          exact EqX.cast EqX.rf (j_s h)
  unfold m_Parser_noteSent at h
  exact EqX.tr EqX.rf (G2  n (0 : Int32) t h)
theorem x_Parser_readScan {n : Nat}  {t : St} {z : St} (h : m_Parser_readScan n t = some z) : EqX [9, 13, 14, 15, 16, 17, 18, 19, 20] [6, 7] [] t z := by
  have G147 : ∀  (t : St), m_Parser_readScan_147 n   t = some z → EqX [9, 13, 14, 15, 16, 17, 18, 19, 20] [6, 7] [] t z := by
    intro  t h
    unfold m_Parser_readScan_147 at h
    obtain ⟨z148, hz148, h⟩ := j_bind h
    obtain ⟨z152, hz152, h⟩ := j_bind h
    obtain ⟨z156, hz156, h⟩ := j_bind h
    exact EqX.cast (EqX.tr (EqX.tr (EqX.tr EqX.rf (EqX.mono (x_Parser_checkSent hz148) (by decide) (by decide) (by decide))) (EqX.mono (x_Parser_checkTables hz152) (by decide) (by decide) (by decide))) (EqX.mono (x_Parser_noteSent hz156) (by decide) (by decide) (by decide))) (j_s h)
  have G134 : ∀ (y2 : Int32) (y3 : Int32) (t : St), m_Parser_readScan_134 n  y2 y3 t = some z → EqX [9, 13, 14, 15, 16, 17, 18, 19, 20] [6, 7] [] t z := by
    intro y2 y3 t h
    unfold m_Parser_readScan_134 at h
    obtain ⟨z134, hz134, h⟩ := j_bind h
    obtain ⟨z144, hz144, h⟩ := j_bind h
    exact EqX.tr (EqX.tr (EqX.g (EqX.tr EqX.rf (EqX.mono (x_Parser_take hz134) (by decide) (by decide) (by decide))) (by decide)) (EqX.mono (x_Parser_takeBits hz144) (by decide) (by decide) (by decide))) (G147  z144 h)
  have G100 : ∀ (y2 : Int32) (y3 : Int32) (t : St), m_Parser_readScan_100 n  y2 y3 t = some z → EqX [9, 13, 14, 15, 16, 17, 18, 19, 20] [6, 7] [] t z := by
    intro y2 y3 t h
    unfold m_Parser_readScan_100 at h
    obtain ⟨z100, hz100, h⟩ := j_bind h
    by_cases c125 : z100.1 = 0
    · rw [if_pos c125] at h
      exact EqX.tr (EqX.g (EqX.tr EqX.rf (EqX.mono (x_Parser_take hz100) (by decide) (by decide) (by decide))) (by decide)) (G134  z100.1 (0 : Int32) (sG z100.2 17 z100.1) h)
    · rw [if_neg c125] at h
      exact EqX.tr (EqX.g (EqX.tr EqX.rf (EqX.mono (x_Parser_take hz100) (by decide) (by decide) (by decide))) (by decide)) (G134  z100.1 (63 : Int32) (sG z100.2 17 z100.1) h)
  unfold m_Parser_readScan at h
  obtain ⟨z18, hz18, h⟩ := j_bind h
  obtain ⟨z25, hz25, h⟩ := j_bind h
  by_cases c38 : (z25.1 1) = (192 : Int32)
  · rw [if_pos c38] at h
    obtain ⟨z48, hz48, h⟩ := j_bind h
    obtain ⟨z63, hz63, h⟩ := j_bind h
    obtain ⟨z71, hz71, h⟩ := j_bind h
    exact EqX.tr (EqX.tr (EqX.g (EqX.tr (EqX.g (EqX.tr (EqX.tr (EqX.g (EqX.tr (EqX.g EqX.rf (by decide)) (EqX.mono (x_Parser_take hz18) (by decide) (by decide) (by decide))) (by decide)) (EqX.mono (x_Parser_takeScanComponents hz25) (by decide) (by decide) (by decide))) (EqX.mono (x_Parser_take hz48) (by decide) (by decide) (by decide))) (by decide)) (EqX.mono (x_Parser_take hz63) (by decide) (by decide) (by decide))) (by decide)) (EqX.mono (x_Parser_takeBits hz71) (by decide) (by decide) (by decide))) (G147  z71 h)
  · rw [if_neg c38] at h
    by_cases c91 : (z25.1 16) = (1 : Int32)
    · rw [if_pos c91] at h
      exact EqX.tr (EqX.tr (EqX.g (EqX.tr (EqX.g EqX.rf (by decide)) (EqX.mono (x_Parser_take hz18) (by decide) (by decide) (by decide))) (by decide)) (EqX.mono (x_Parser_takeScanComponents hz25) (by decide) (by decide) (by decide))) (G100  (0 : Int32) (63 : Int32) z25 h)
    · rw [if_neg c91] at h
      exact EqX.tr (EqX.tr (EqX.g (EqX.tr (EqX.g EqX.rf (by decide)) (EqX.mono (x_Parser_take hz18) (by decide) (by decide) (by decide))) (by decide)) (EqX.mono (x_Parser_takeScanComponents hz25) (by decide) (by decide) (by decide))) (G100  (0 : Int32) (0 : Int32) z25 h)
theorem x_Parser_skipContents {n : Nat}  {t : St} {z : St} (h : m_Parser_skipContents n t = some z) : EqX [9, 13, 14] [] [] t z := by
  have G27 : ∀  (t : St), m_Parser_skipContents_27 n   t = some z → EqX [9, 13, 14] [] [] t z := by
    intro  t h
    unfold m_Parser_skipContents_27 at h
    exact EqX.cast (EqX.g EqX.rf (by decide)) (j_s h)
  unfold m_Parser_skipContents at h
  by_cases c11 : (t.1 11) ≤ (t.1 0)
  · rw [if_pos c11] at h
    exact EqX.tr EqX.rf (G27  t h)
  · rw [if_neg c11] at h
    obtain ⟨z23, hz23, h⟩ := j_bind h
    exact EqX.tr (EqX.tr EqX.rf (EqX.mono (x_Parser_fail hz23) (by decide) (by decide) (by decide))) (G27  z23.2 h)
theorem x_Parser_readContents {n : Nat} {x1 : Int32} {t : St} {z : St} (h : m_Parser_readContents n x1 t = some z) : EqX [1, 2, 3, 4, 5, 9, 12, 13, 14, 15, 16, 17, 18, 19, 20] [3, 4, 5, 6, 7] [0] t z := by
  have G140 : ∀  (t : St), m_Parser_readContents_140 n   t = some z → EqX [1, 2, 3, 4, 5, 9, 12, 13, 14, 15, 16, 17, 18, 19, 20] [3, 4, 5, 6, 7] [0] t z := by
    intro  t h
    unfold m_Parser_readContents_140 at h
    by_cases c148 : (t.1 9) = (t.1 11)
    · rw [if_pos c148] at h
      exact EqX.cast EqX.rf (j_s h)
    · rw [if_neg c148] at h
      obtain ⟨z157, hz157, h⟩ := j_bind h
      exact EqX.cast (EqX.tr EqX.rf (EqX.mono (x_Parser_fail hz157) (by decide) (by decide) (by decide))) (j_s h)
  unfold m_Parser_readContents at h
  by_cases c1_192 : x1 = (192 : Int32)
  · rw [if_pos c1_192] at h
    obtain ⟨z101, hz101, h⟩ := j_bind h
    exact EqX.tr (EqX.tr EqX.rf (EqX.mono (x_Parser_readFrame hz101) (by decide) (by decide) (by decide))) (G140  z101 h)
  rw [if_neg c1_192] at h
  by_cases c1_194 : x1 = (194 : Int32)
  · rw [if_pos c1_194] at h
    obtain ⟨z101, hz101, h⟩ := j_bind h
    exact EqX.tr (EqX.tr EqX.rf (EqX.mono (x_Parser_readFrame hz101) (by decide) (by decide) (by decide))) (G140  z101 h)
  rw [if_neg c1_194] at h
  by_cases c1_196 : x1 = (196 : Int32)
  · rw [if_pos c1_196] at h
    obtain ⟨z76, hz76, h⟩ := j_bind h
    exact EqX.tr (EqX.tr EqX.rf (EqX.mono (x_Parser_readWords hz76) (by decide) (by decide) (by decide))) (G140  z76 h)
  rw [if_neg c1_196] at h
  by_cases c1_218 : x1 = (218 : Int32)
  · rw [if_pos c1_218] at h
    obtain ⟨z108, hz108, h⟩ := j_bind h
    exact EqX.tr (EqX.tr EqX.rf (EqX.mono (x_Parser_readScan hz108) (by decide) (by decide) (by decide))) (G140  z108 h)
  rw [if_neg c1_218] at h
  by_cases c1_219 : x1 = (219 : Int32)
  · rw [if_pos c1_219] at h
    obtain ⟨z69, hz69, h⟩ := j_bind h
    exact EqX.tr (EqX.tr EqX.rf (EqX.mono (x_Parser_readQuantisers hz69) (by decide) (by decide) (by decide))) (G140  z69 h)
  rw [if_neg c1_219] at h
  by_cases c1_220 : x1 = (220 : Int32)
  · rw [if_pos c1_220] at h
    obtain ⟨z122, hz122, h⟩ := j_bind h
    exact EqX.tr (EqX.g (EqX.g (EqX.tr EqX.rf (EqX.mono (x_Parser_takePair hz122) (by decide) (by decide) (by decide))) (by decide)) (by decide)) (G140  (sG (sG z122.2 3 z122.1) 12 (0 : Int32)) h)
  rw [if_neg c1_220] at h
  by_cases c1_221 : x1 = (221 : Int32)
  · rw [if_pos c1_221] at h
    obtain ⟨z90, hz90, h⟩ := j_bind h
    exact EqX.tr (EqX.g (EqX.tr EqX.rf (EqX.mono (x_Parser_takePair hz90) (by decide) (by decide) (by decide))) (by decide)) (G140  (sG z90.2 5 z90.1) h)
  rw [if_neg c1_221] at h
  obtain ⟨z137, hz137, h⟩ := j_bind h
  exact EqX.tr (EqX.tr EqX.rf (EqX.mono (x_Parser_skipContents hz137) (by decide) (by decide) (by decide))) (G140  z137 h)
theorem x_Picture_scanCount {n : Nat}  {t : St} {z : Int32 × St} (h : m_Picture_scanCount n t = some z) : EqX [] [] [] t z.2 := by
  unfold m_Picture_scanCount at h
  exact EqX.cast EqX.rf (j_r2 h)
theorem x_Parser_finish {n : Nat}  {t : St} {z : Int32 × St} (h : m_Parser_finish n t = some z) : EqX [1, 2, 3, 4, 5, 6, 7, 8] [4, 5] [] t z.2 := by
  unfold m_Parser_finish at h
  by_cases c4 : (t.1 13) = 0
  · rw [if_pos c4] at h
    exact EqX.cast EqX.rf (j_r2 h)
  · rw [if_neg c4] at h
    obtain ⟨z11, hz11, h⟩ := j_bind h
    exact EqX.cast (EqX.tr EqX.rf (EqX.mono (x_Picture_clear hz11) (by decide) (by decide) (by decide))) (j_r2 h)
theorem x_Picture_segmentCount {n : Nat}  {t : St} {z : Int32 × St} (h : m_Picture_segmentCount n t = some z) : EqX [] [] [] t z.2 := by
  unfold m_Picture_segmentCount at h
  exact EqX.cast EqX.rf (j_r2 h)
theorem x_Numbers_at_4 {n : Nat} {x1 : Int32} {t : St} {z : Int32 × St} (h : m_Numbers_at_4 n x1 t = some z) : EqX [] [] [] t z.2 := by
  have G21 : ∀  (t : St), m_Numbers_at_4_21 n   t = some z → EqX [] [] [] t z.2 := by
    intro  t h
    unfold m_Numbers_at_4_21 at h
    exact EqX.cast EqX.rf (j_r2 h)
  unfold m_Numbers_at_4 at h
  by_cases c1 : x1 < 0
  · rw [if_pos c1] at h
    exact EqX.tr EqX.rf (G21  t h)
  · rw [if_neg c1] at h
    by_cases c9 : (t.1 7) ≤ x1
    · rw [if_pos c9] at h
      exact EqX.tr EqX.rf (G21  t h)
    · rw [if_neg c9] at h
      obtain ⟨b17, h⟩ := j_ifn h
      exact EqX.cast EqX.rf (j_r2 h)
theorem x_Numbers_at_6 {n : Nat} {x1 : Int32} {t : St} {z : Int32 × St} (h : m_Numbers_at_6 n x1 t = some z) : EqX [] [] [] t z.2 := by
  have G21 : ∀  (t : St), m_Numbers_at_6_21 n   t = some z → EqX [] [] [] t z.2 := by
    intro  t h
    unfold m_Numbers_at_6_21 at h
    exact EqX.cast EqX.rf (j_r2 h)
  unfold m_Numbers_at_6 at h
  by_cases c1 : x1 < 0
  · rw [if_pos c1] at h
    exact EqX.tr EqX.rf (G21  t h)
  · rw [if_neg c1] at h
    by_cases c9 : (t.1 8) ≤ x1
    · rw [if_pos c9] at h
      exact EqX.tr EqX.rf (G21  t h)
    · rw [if_neg c9] at h
      obtain ⟨b17, h⟩ := j_ifn h
      exact EqX.cast EqX.rf (j_r2 h)
theorem x_Picture_ofSegment {n : Nat} {x1 : Int32} {x2 : Int32} {t : St} {z : Int32 × St} (h : m_Picture_ofSegment n x1 x2 t = some z) : EqX [] [] [] t z.2 := by
  unfold m_Picture_ofSegment at h
  by_cases c1 : x1 < 0
  · rw [if_pos c1] at h
    exact EqX.cast EqX.rf (j_r2 h)
  · rw [if_neg c1] at h
    obtain ⟨z6, hz6, h⟩ := j_bind h
    by_cases c9 : x1 < z6.1
    · rw [if_pos c9] at h
      obtain ⟨z23, hz23, h⟩ := j_bind h
      by_cases c28_0 : x2 = (0 : Int32)
      · rw [if_pos c28_0] at h
        obtain ⟨z67, hz67, h⟩ := j_bind h
        exact EqX.cast (EqX.tr (EqX.tr (EqX.tr EqX.rf (EqX.mono (x_Picture_segmentCount hz6) (by decide) (by decide) (by decide))) (EqX.mono (x_Numbers_at_4 hz23) (by decide) (by decide) (by decide))) (EqX.mono (x_Bytes_at hz67) (by decide) (by decide) (by decide))) (j_r2 h)
      rw [if_neg c28_0] at h
      by_cases c28_1 : x2 = (1 : Int32)
      · rw [if_pos c28_1] at h
        obtain ⟨z78, hz78, h⟩ := j_bind h
        exact EqX.cast (EqX.tr (EqX.tr (EqX.tr EqX.rf (EqX.mono (x_Picture_segmentCount hz6) (by decide) (by decide) (by decide))) (EqX.mono (x_Numbers_at_4 hz23) (by decide) (by decide) (by decide))) (EqX.mono (x_Numbers_at_4 hz78) (by decide) (by decide) (by decide))) (j_r2 h)
      rw [if_neg c28_1] at h
      by_cases c28_2 : x2 = (2 : Int32)
      · rw [if_pos c28_2] at h
        exact EqX.cast (EqX.tr (EqX.tr EqX.rf (EqX.mono (x_Picture_segmentCount hz6) (by decide) (by decide) (by decide))) (EqX.mono (x_Numbers_at_4 hz23) (by decide) (by decide) (by decide))) (j_r2 h)
      rw [if_neg c28_2] at h
      by_cases c28_3 : x2 = (3 : Int32)
      · rw [if_pos c28_3] at h
        obtain ⟨z94, hz94, h⟩ := j_bind h
        obtain ⟨z105, hz105, h⟩ := j_bind h
        exact EqX.cast (EqX.tr (EqX.tr (EqX.tr (EqX.tr EqX.rf (EqX.mono (x_Picture_segmentCount hz6) (by decide) (by decide) (by decide))) (EqX.mono (x_Numbers_at_4 hz23) (by decide) (by decide) (by decide))) (EqX.mono (x_Bytes_at hz94) (by decide) (by decide) (by decide))) (EqX.mono (x_Bytes_at hz105) (by decide) (by decide) (by decide))) (j_r2 h)
      rw [if_neg c28_3] at h
      exact EqX.cast (EqX.tr (EqX.tr EqX.rf (EqX.mono (x_Picture_segmentCount hz6) (by decide) (by decide) (by decide))) (EqX.mono (x_Numbers_at_4 hz23) (by decide) (by decide) (by decide))) (j_r2 h)
    · rw [if_neg c9] at h
      exact EqX.cast (EqX.tr EqX.rf (EqX.mono (x_Picture_segmentCount hz6) (by decide) (by decide) (by decide))) (j_r2 h)
theorem x_Reader_segment {n : Nat} {x1 : Int32} {x2 : Int32} {t : St} {z : Int32 × St} (h : m_Reader_segment n x1 x2 t = some z) : EqX [] [] [] t z.2 := by
  unfold m_Reader_segment at h
  obtain ⟨z6, hz6, h⟩ := j_bind h
  exact EqX.cast (EqX.tr EqX.rf (EqX.mono (x_Picture_ofSegment hz6) (by decide) (by decide) (by decide))) (j_r2 h)
theorem x_Picture_greatest {n : Nat} {x1 : Int32} {t : St} {z : Int32 × St} (h : m_Picture_greatest n x1 t = some z) : EqX [] [] [] t z.2 := by
  have G4 : ∀ (k : Nat) (x1 : Int32) (x2 : Int32) (x3 : Int32) (t : St), m_Picture_greatest_4 n  k x1 x2 x3 t = some z → EqX [] [] [] t z.2 := by
    intro k
    induction k with
    | zero => intro x1 x2 x3 t h; exact absurd (show none = some z from h) (by simp)
    | succ k ih =>
      intro x1 x2 x3 t h
      change m_Picture_greatest_4b n  (m_Picture_greatest_4 n  k) x1 x2 x3 t = some z at h
      unfold m_Picture_greatest_4b at h
      by_cases c9 : (t.1 4) ≤ x3
      · rw [if_pos c9] at h
        exact EqX.cast EqX.rf (j_r2 h)
      · rw [if_neg c9] at h
        obtain ⟨z16, hz16, h⟩ := j_bind h
        exact EqX.tr (EqX.tr EqX.rf (EqX.mono (x_Picture_ofComponent hz16) (by decide) (by decide) (by decide))) (ih x1 (if x2 < z16.1 then z16.1 else x2) (x3 + 1) z16.2 h)
  unfold m_Picture_greatest at h
  exact EqX.tr EqX.rf (G4  n x1 (0 : Int32) (0 : Int32) t h)
theorem x_Picture_ofFrame {n : Nat} {x1 : Int32} {t : St} {z : Int32 × St} (h : m_Picture_ofFrame n x1 t = some z) : EqX [] [] [] t z.2 := by
  unfold m_Picture_ofFrame at h
  by_cases c5 : (t.1 1) = (-1 : Int32)
  · rw [if_pos c5] at h
    exact EqX.cast EqX.rf (j_r2 h)
  · rw [if_neg c5] at h
    by_cases c11_0 : x1 = (0 : Int32)
    · rw [if_pos c11_0] at h
      exact EqX.cast EqX.rf (j_r2 h)
    rw [if_neg c11_0] at h
    by_cases c11_1 : x1 = (1 : Int32)
    · rw [if_pos c11_1] at h
      exact EqX.cast EqX.rf (j_r2 h)
    rw [if_neg c11_1] at h
    by_cases c11_2 : x1 = (2 : Int32)
    · rw [if_pos c11_2] at h
      exact EqX.cast EqX.rf (j_r2 h)
    rw [if_neg c11_2] at h
    by_cases c11_3 : x1 = (3 : Int32)
    · rw [if_pos c11_3] at h
      exact EqX.cast EqX.rf (j_r2 h)
    rw [if_neg c11_3] at h
    by_cases c11_4 : x1 = (4 : Int32)
    · rw [if_pos c11_4] at h
      obtain ⟨z70, hz70, h⟩ := j_bind h
      exact EqX.cast (EqX.tr EqX.rf (EqX.mono (x_Picture_greatest hz70) (by decide) (by decide) (by decide))) (j_r2 h)
    rw [if_neg c11_4] at h
    by_cases c11_5 : x1 = (5 : Int32)
    · rw [if_pos c11_5] at h
      obtain ⟨z76, hz76, h⟩ := j_bind h
      exact EqX.cast (EqX.tr EqX.rf (EqX.mono (x_Picture_greatest hz76) (by decide) (by decide) (by decide))) (j_r2 h)
    rw [if_neg c11_5] at h
    exact EqX.cast EqX.rf (j_r2 h)
theorem x_Reader_frame {n : Nat} {x1 : Int32} {t : St} {z : Int32 × St} (h : m_Reader_frame n x1 t = some z) : EqX [] [] [] t z.2 := by
  unfold m_Reader_frame at h
  obtain ⟨z5, hz5, h⟩ := j_bind h
  exact EqX.cast (EqX.tr EqX.rf (EqX.mono (x_Picture_ofFrame hz5) (by decide) (by decide) (by decide))) (j_r2 h)
theorem x_Reader_component {n : Nat} {x1 : Int32} {x2 : Int32} {t : St} {z : Int32 × St} (h : m_Reader_component n x1 x2 t = some z) : EqX [] [] [] t z.2 := by
  unfold m_Reader_component at h
  obtain ⟨z6, hz6, h⟩ := j_bind h
  exact EqX.cast (EqX.tr EqX.rf (EqX.mono (x_Picture_ofComponent hz6) (by decide) (by decide) (by decide))) (j_r2 h)
theorem x_Picture_ofScanComponent {n : Nat} {x1 : Int32} {x2 : Int32} {x3 : Int32} {t : St} {z : Int32 × St} (h : m_Picture_ofScanComponent n x1 x2 x3 t = some z) : EqX [] [] [] t z.2 := by
  unfold m_Picture_ofScanComponent at h
  by_cases c8 : (x3 / (4 : Int32)) < x2
  · rw [if_pos c8] at h
    by_cases c26_0 : (x3 - x3 / (4 : Int32) * (4 : Int32)) = (0 : Int32)
    · rw [if_pos c26_0] at h
      obtain ⟨z59, hz59, h⟩ := j_bind h
      obtain ⟨z62, hz62, h⟩ := j_bind h
      exact EqX.cast (EqX.tr (EqX.tr EqX.rf (EqX.mono (x_Bytes_at hz59) (by decide) (by decide) (by decide))) (EqX.mono (x_Picture_placeOfName hz62) (by decide) (by decide) (by decide))) (j_r2 h)
    rw [if_neg c26_0] at h
    by_cases c26_1 : (x3 - x3 / (4 : Int32) * (4 : Int32)) = (1 : Int32)
    · rw [if_pos c26_1] at h
      obtain ⟨z74, hz74, h⟩ := j_bind h
      exact EqX.cast (EqX.tr EqX.rf (EqX.mono (x_Bytes_at hz74) (by decide) (by decide) (by decide))) (j_r2 h)
    rw [if_neg c26_1] at h
    by_cases c26_2 : (x3 - x3 / (4 : Int32) * (4 : Int32)) = (2 : Int32)
    · rw [if_pos c26_2] at h
      obtain ⟨z88, hz88, h⟩ := j_bind h
      exact EqX.cast (EqX.tr EqX.rf (EqX.mono (x_Bytes_at hz88) (by decide) (by decide) (by decide))) (j_r2 h)
    rw [if_neg c26_2] at h
    exact EqX.cast EqX.rf (j_r2 h)
  · rw [if_neg c8] at h
    exact EqX.cast EqX.rf (j_r2 h)
theorem x_Picture_ofScan {n : Nat} {x1 : Int32} {x2 : Int32} {t : St} {z : Int32 × St} (h : m_Picture_ofScan n x1 x2 t = some z) : EqX [] [] [] t z.2 := by
  unfold m_Picture_ofScan at h
  by_cases c1 : x1 < 0
  · rw [if_pos c1] at h
    exact EqX.cast EqX.rf (j_r2 h)
  · rw [if_neg c1] at h
    obtain ⟨z6, hz6, h⟩ := j_bind h
    by_cases c9 : x1 < z6.1
    · rw [if_pos c9] at h
      obtain ⟨z23, hz23, h⟩ := j_bind h
      obtain ⟨z34, hz34, h⟩ := j_bind h
      by_cases c51_0 : x2 = (0 : Int32)
      · rw [if_pos c51_0] at h
        exact EqX.cast (EqX.tr (EqX.tr (EqX.tr EqX.rf (EqX.mono (x_Picture_scanCount hz6) (by decide) (by decide) (by decide))) (EqX.mono (x_Numbers_at_6 hz23) (by decide) (by decide) (by decide))) (EqX.mono (x_Bytes_at hz34) (by decide) (by decide) (by decide))) (j_r2 h)
      rw [if_neg c51_0] at h
      by_cases c51_1 : x2 = (1 : Int32)
      · rw [if_pos c51_1] at h
        obtain ⟨z109, hz109, h⟩ := j_bind h
        exact EqX.cast (EqX.tr (EqX.tr (EqX.tr (EqX.tr EqX.rf (EqX.mono (x_Picture_scanCount hz6) (by decide) (by decide) (by decide))) (EqX.mono (x_Numbers_at_6 hz23) (by decide) (by decide) (by decide))) (EqX.mono (x_Bytes_at hz34) (by decide) (by decide) (by decide))) (EqX.mono (x_Bytes_at hz109) (by decide) (by decide) (by decide))) (j_r2 h)
      rw [if_neg c51_1] at h
      by_cases c51_2 : x2 = (2 : Int32)
      · rw [if_pos c51_2] at h
        obtain ⟨z121, hz121, h⟩ := j_bind h
        exact EqX.cast (EqX.tr (EqX.tr (EqX.tr (EqX.tr EqX.rf (EqX.mono (x_Picture_scanCount hz6) (by decide) (by decide) (by decide))) (EqX.mono (x_Numbers_at_6 hz23) (by decide) (by decide) (by decide))) (EqX.mono (x_Bytes_at hz34) (by decide) (by decide) (by decide))) (EqX.mono (x_Bytes_at hz121) (by decide) (by decide) (by decide))) (j_r2 h)
      rw [if_neg c51_2] at h
      by_cases c51_3 : x2 = (3 : Int32)
      · rw [if_pos c51_3] at h
        obtain ⟨z133, hz133, h⟩ := j_bind h
        exact EqX.cast (EqX.tr (EqX.tr (EqX.tr (EqX.tr EqX.rf (EqX.mono (x_Picture_scanCount hz6) (by decide) (by decide) (by decide))) (EqX.mono (x_Numbers_at_6 hz23) (by decide) (by decide) (by decide))) (EqX.mono (x_Bytes_at hz34) (by decide) (by decide) (by decide))) (EqX.mono (x_Bytes_at hz133) (by decide) (by decide) (by decide))) (j_r2 h)
      rw [if_neg c51_3] at h
      by_cases c51_4 : x2 = (4 : Int32)
      · rw [if_pos c51_4] at h
        obtain ⟨z147, hz147, h⟩ := j_bind h
        exact EqX.cast (EqX.tr (EqX.tr (EqX.tr (EqX.tr EqX.rf (EqX.mono (x_Picture_scanCount hz6) (by decide) (by decide) (by decide))) (EqX.mono (x_Numbers_at_6 hz23) (by decide) (by decide) (by decide))) (EqX.mono (x_Bytes_at hz34) (by decide) (by decide) (by decide))) (EqX.mono (x_Bytes_at hz147) (by decide) (by decide) (by decide))) (j_r2 h)
      rw [if_neg c51_4] at h
      by_cases c51_5 : x2 = (5 : Int32)
      · rw [if_pos c51_5] at h
        obtain ⟨z161, hz161, h⟩ := j_bind h
        exact EqX.cast (EqX.tr (EqX.tr (EqX.tr (EqX.tr EqX.rf (EqX.mono (x_Picture_scanCount hz6) (by decide) (by decide) (by decide))) (EqX.mono (x_Numbers_at_6 hz23) (by decide) (by decide) (by decide))) (EqX.mono (x_Bytes_at hz34) (by decide) (by decide) (by decide))) (EqX.mono (x_Numbers_at_6 hz161) (by decide) (by decide) (by decide))) (j_r2 h)
      rw [if_neg c51_5] at h
      by_cases c51_6 : x2 = (6 : Int32)
      · rw [if_pos c51_6] at h
        obtain ⟨z172, hz172, h⟩ := j_bind h
        exact EqX.cast (EqX.tr (EqX.tr (EqX.tr (EqX.tr EqX.rf (EqX.mono (x_Picture_scanCount hz6) (by decide) (by decide) (by decide))) (EqX.mono (x_Numbers_at_6 hz23) (by decide) (by decide) (by decide))) (EqX.mono (x_Bytes_at hz34) (by decide) (by decide) (by decide))) (EqX.mono (x_Numbers_at_6 hz172) (by decide) (by decide) (by decide))) (j_r2 h)
      rw [if_neg c51_6] at h
      by_cases c51_7 : x2 = (7 : Int32)
      · rw [if_pos c51_7] at h
        obtain ⟨z183, hz183, h⟩ := j_bind h
        exact EqX.cast (EqX.tr (EqX.tr (EqX.tr (EqX.tr EqX.rf (EqX.mono (x_Picture_scanCount hz6) (by decide) (by decide) (by decide))) (EqX.mono (x_Numbers_at_6 hz23) (by decide) (by decide) (by decide))) (EqX.mono (x_Bytes_at hz34) (by decide) (by decide) (by decide))) (EqX.mono (x_Numbers_at_6 hz183) (by decide) (by decide) (by decide))) (j_r2 h)
      rw [if_neg c51_7] at h
      by_cases c51_8 : x2 = (8 : Int32)
      · rw [if_pos c51_8] at h
        obtain ⟨z194, hz194, h⟩ := j_bind h
        exact EqX.cast (EqX.tr (EqX.tr (EqX.tr (EqX.tr EqX.rf (EqX.mono (x_Picture_scanCount hz6) (by decide) (by decide) (by decide))) (EqX.mono (x_Numbers_at_6 hz23) (by decide) (by decide) (by decide))) (EqX.mono (x_Bytes_at hz34) (by decide) (by decide) (by decide))) (EqX.mono (x_Numbers_at_6 hz194) (by decide) (by decide) (by decide))) (j_r2 h)
      rw [if_neg c51_8] at h
      by_cases c201 : (16 : Int32) ≤ x2
      · rw [if_pos c201] at h
        obtain ⟨z217, hz217, h⟩ := j_bind h
        exact EqX.cast (EqX.tr (EqX.tr (EqX.tr (EqX.tr EqX.rf (EqX.mono (x_Picture_scanCount hz6) (by decide) (by decide) (by decide))) (EqX.mono (x_Numbers_at_6 hz23) (by decide) (by decide) (by decide))) (EqX.mono (x_Bytes_at hz34) (by decide) (by decide) (by decide))) (EqX.mono (x_Picture_ofScanComponent hz217) (by decide) (by decide) (by decide))) (j_r2 h)
      · rw [if_neg c201] at h
        exact EqX.cast (EqX.tr (EqX.tr (EqX.tr EqX.rf (EqX.mono (x_Picture_scanCount hz6) (by decide) (by decide) (by decide))) (EqX.mono (x_Numbers_at_6 hz23) (by decide) (by decide) (by decide))) (EqX.mono (x_Bytes_at hz34) (by decide) (by decide) (by decide))) (j_r2 h)
    · rw [if_neg c9] at h
      exact EqX.cast (EqX.tr EqX.rf (EqX.mono (x_Picture_scanCount hz6) (by decide) (by decide) (by decide))) (j_r2 h)
theorem x_Reader_scan {n : Nat} {x1 : Int32} {x2 : Int32} {t : St} {z : Int32 × St} (h : m_Reader_scan n x1 x2 t = some z) : EqX [] [] [] t z.2 := by
  unfold m_Reader_scan at h
  obtain ⟨z6, hz6, h⟩ := j_bind h
  exact EqX.cast (EqX.tr EqX.rf (EqX.mono (x_Picture_ofScan hz6) (by decide) (by decide) (by decide))) (j_r2 h)
theorem x_Picture_dataByte {n : Nat} {x1 : Int32} {x2 : Int32} {t : St} {z : Int32 × St} (h : m_Picture_dataByte n x1 x2 t = some z) : EqX [] [] [] t z.2 := by
  have G136 : ∀ (K50 : Int32 → Int32 → Int32 → St → Option (Int32 × St)) (hK50 : ∀ (x3 : Int32) (x4 : Int32) (x5 : Int32) (t : St), K50 x3 x4 x5 t = some z → EqX [] [] [] t z.2) (x4 : Int32) (x5 : Int32) (y0 : Int32) (y1 : Int32) (t : St), m_Picture_dataByte_136 n K50 x4 x5 y0 y1 t = some z → EqX [] [] [] t z.2 := by
    intro K50 hK50 x4 x5 y0 y1 t h
    unfold m_Picture_dataByte_136 at h
    exact EqX.tr EqX.rf (hK50 (y0 + y1) x4 x5 t h)
  have G119 : ∀ (K50 : Int32 → Int32 → Int32 → St → Option (Int32 × St)) (hK50 : ∀ (x3 : Int32) (x4 : Int32) (x5 : Int32) (t : St), K50 x3 x4 x5 t = some z → EqX [] [] [] t z.2) (x3 : Int32) (x4 : Int32) (x6 : Int32) (y0 : Int32) (y1 : Int32) (t : St), m_Picture_dataByte_119 n K50 x3 x4 x6 y0 y1 t = some z → EqX [] [] [] t z.2 := by
    intro K50 hK50 x3 x4 x6 y0 y1 t h
    unfold m_Picture_dataByte_119 at h
    by_cases c128 : x6 = (255 : Int32)
    · rw [if_pos c128] at h
      exact EqX.tr EqX.rf (G136 K50 hK50 x4 (y0 - y1) x3 (2 : Int32) t h)
    · rw [if_neg c128] at h
      exact EqX.tr EqX.rf (G136 K50 hK50 x4 (y0 - y1) x3 (1 : Int32) t h)
  have G107 : ∀ (K50 : Int32 → Int32 → Int32 → St → Option (Int32 × St)) (hK50 : ∀ (x3 : Int32) (x4 : Int32) (x5 : Int32) (t : St), K50 x3 x4 x5 t = some z → EqX [] [] [] t z.2) (x3 : Int32) (x4 : Int32) (x5 : Int32) (x6 : Int32) (x7 : Int32) (t : St), m_Picture_dataByte_107 n K50 x3 x4 x5 x6 x7 t = some z → EqX [] [] [] t z.2 := by
    intro K50 hK50 x3 x4 x5 x6 x7 t h
    unfold m_Picture_dataByte_107 at h
    by_cases c111 : x7 = 0
    · rw [if_pos c111] at h
      exact EqX.tr EqX.rf (G119 K50 hK50 x3 x4 x6 x5 (1 : Int32) t h)
    · rw [if_neg c111] at h
      exact EqX.tr EqX.rf (G119 K50 hK50 x3 x4 x6 x5 (0 : Int32) t h)
  have G92 : ∀ (K50 : Int32 → Int32 → Int32 → St → Option (Int32 × St)) (hK50 : ∀ (x3 : Int32) (x4 : Int32) (x5 : Int32) (t : St), K50 x3 x4 x5 t = some z → EqX [] [] [] t z.2) (x3 : Int32) (x4 : Int32) (x5 : Int32) (x6 : Int32) (y0 : Int32) (t : St), m_Picture_dataByte_92 n K50 x3 x4 x5 x6 y0 t = some z → EqX [] [] [] t z.2 := by
    intro K50 hK50 x3 x4 x5 x6 y0 t h
    unfold m_Picture_dataByte_92 at h
    by_cases c96 : y0 = 0
    · rw [if_pos c96] at h
      by_cases c101 : x5 = 0
      · rw [if_pos c101] at h
        exact EqX.cast EqX.rf (j_r2 h)
      · rw [if_neg c101] at h
        exact EqX.tr EqX.rf (G107 K50 hK50 x3 x4 x5 x6 y0 t h)
    · rw [if_neg c96] at h
      exact EqX.tr EqX.rf (G107 K50 hK50 x3 x4 x5 x6 y0 t h)
  have G91 : ∀ (K50 : Int32 → Int32 → Int32 → St → Option (Int32 × St)) (hK50 : ∀ (x3 : Int32) (x4 : Int32) (x5 : Int32) (t : St), K50 x3 x4 x5 t = some z → EqX [] [] [] t z.2) (x3 : Int32) (x4 : Int32) (x5 : Int32) (x6 : Int32) (t : St), m_Picture_dataByte_91 n K50 x3 x4 x5 x6 t = some z → EqX [] [] [] t z.2 := by
    intro K50 hK50 x3 x4 x5 x6 t h
    unfold m_Picture_dataByte_91 at h
    exact EqX.tr EqX.rf (G92 K50 hK50 x3 x4 x5 x6 (0 : Int32) t h)
  have G50 : ∀ (k : Nat) (x3 : Int32) (x4 : Int32) (x5 : Int32) (t : St), m_Picture_dataByte_50 n  k x3 x4 x5 t = some z → EqX [] [] [] t z.2 := by
    intro k
    induction k with
    | zero => intro x3 x4 x5 t h; exact absurd (show none = some z from h) (by simp)
    | succ k ih =>
      intro x3 x4 x5 t h
      change m_Picture_dataByte_50b n  (m_Picture_dataByte_50 n  k) x3 x4 x5 t = some z at h
      unfold m_Picture_dataByte_50b at h
      by_cases c53 : x4 ≤ x3
      · rw [if_pos c53] at h
        exact EqX.cast EqX.rf (j_r2 h)
      · rw [if_neg c53] at h
        obtain ⟨z61, hz61, h⟩ := j_bind h
        by_cases c71 : z61.1 = (255 : Int32)
        · rw [if_pos c71] at h
          obtain ⟨z81, hz81, h⟩ := j_bind h
          by_cases c84 : z81.1 = 0
          · rw [if_pos c84] at h
            exact EqX.tr (EqX.tr (EqX.tr EqX.rf (EqX.mono (x_Bytes_at hz61) (by decide) (by decide) (by decide))) (EqX.mono (x_Bytes_at hz81) (by decide) (by decide) (by decide))) (G91 (m_Picture_dataByte_50 n  k) ih x3 x4 x5 z61.1 z81.2 h)
          · rw [if_neg c84] at h
            exact EqX.tr (EqX.tr (EqX.tr EqX.rf (EqX.mono (x_Bytes_at hz61) (by decide) (by decide) (by decide))) (EqX.mono (x_Bytes_at hz81) (by decide) (by decide) (by decide))) (G92 (m_Picture_dataByte_50 n  k) ih x3 x4 x5 z61.1 (1 : Int32) z81.2 h)
        · rw [if_neg c71] at h
          exact EqX.tr (EqX.tr EqX.rf (EqX.mono (x_Bytes_at hz61) (by decide) (by decide) (by decide))) (G91 (m_Picture_dataByte_50 n  k) ih x3 x4 x5 z61.1 z61.2 h)
  unfold m_Picture_dataByte at h
  by_cases c1 : x1 < 0
  · rw [if_pos c1] at h
    exact EqX.cast EqX.rf (j_r2 h)
  · rw [if_neg c1] at h
    obtain ⟨z6, hz6, h⟩ := j_bind h
    by_cases c9 : z6.1 ≤ x1
    · rw [if_pos c9] at h
      exact EqX.cast (EqX.tr EqX.rf (EqX.mono (x_Picture_scanCount hz6) (by decide) (by decide) (by decide))) (j_r2 h)
    · rw [if_neg c9] at h
      by_cases c13 : 0 ≤ x2
      · rw [if_pos c13] at h
        obtain ⟨z27, hz27, h⟩ := j_bind h
        obtain ⟨z41, hz41, h⟩ := j_bind h
        exact EqX.tr (EqX.tr (EqX.tr (EqX.tr EqX.rf (EqX.mono (x_Picture_scanCount hz6) (by decide) (by decide) (by decide))) (EqX.mono (x_Numbers_at_6 hz27) (by decide) (by decide) (by decide))) (EqX.mono (x_Numbers_at_6 hz41) (by decide) (by decide) (by decide))) (G50  n z27.1 (z27.1 + z41.1) x2 z41.2 h)
      · rw [if_neg c13] at h
        exact EqX.cast (EqX.tr EqX.rf (EqX.mono (x_Picture_scanCount hz6) (by decide) (by decide) (by decide))) (j_r2 h)
theorem x_Reader_data {n : Nat} {x1 : Int32} {x2 : Int32} {t : St} {z : Int32 × St} (h : m_Reader_data n x1 x2 t = some z) : EqX [] [] [] t z.2 := by
  unfold m_Reader_data at h
  obtain ⟨z6, hz6, h⟩ := j_bind h
  exact EqX.cast (EqX.tr EqX.rf (EqX.mono (x_Picture_dataByte hz6) (by decide) (by decide) (by decide))) (j_r2 h)
theorem x_Picture_quantiserValue {n : Nat} {x1 : Int32} {x2 : Int32} {t : St} {z : Int32 × St} (h : m_Picture_quantiserValue n x1 x2 t = some z) : EqX [] [] [] t z.2 := by
  unfold m_Picture_quantiserValue at h
  obtain ⟨z2, hz2, h⟩ := j_bind h
  by_cases c5 : z2.1 = 0
  · rw [if_pos c5] at h
    exact EqX.cast (EqX.tr EqX.rf (EqX.mono (x_Picture_hasQuantisers hz2) (by decide) (by decide) (by decide))) (j_r2 h)
  · rw [if_neg c5] at h
    by_cases c9 : x2 < 0
    · rw [if_pos c9] at h
      exact EqX.cast (EqX.tr EqX.rf (EqX.mono (x_Picture_hasQuantisers hz2) (by decide) (by decide) (by decide))) (j_r2 h)
    · rw [if_neg c9] at h
      by_cases c15 : x2 < (64 : Int32)
      · rw [if_pos c15] at h
        obtain ⟨b29, h⟩ := j_ifn h
        obtain ⟨z32, hz32, h⟩ := j_bind h
        exact EqX.cast (EqX.tr (EqX.tr EqX.rf (EqX.mono (x_Picture_hasQuantisers hz2) (by decide) (by decide) (by decide))) (EqX.mono (x_Bytes_at hz32) (by decide) (by decide) (by decide))) (j_r2 h)
      · rw [if_neg c15] at h
        exact EqX.cast (EqX.tr EqX.rf (EqX.mono (x_Picture_hasQuantisers hz2) (by decide) (by decide) (by decide))) (j_r2 h)
theorem x_Reader_quantiser {n : Nat} {x1 : Int32} {x2 : Int32} {t : St} {z : Int32 × St} (h : m_Reader_quantiser n x1 x2 t = some z) : EqX [] [] [] t z.2 := by
  unfold m_Reader_quantiser at h
  obtain ⟨z6, hz6, h⟩ := j_bind h
  exact EqX.cast (EqX.tr EqX.rf (EqX.mono (x_Picture_quantiserValue hz6) (by decide) (by decide) (by decide))) (j_r2 h)
theorem x_Picture_wordCount {n : Nat} {x1 : Int32} {t : St} {z : Int32 × St} (h : m_Picture_wordCount n x1 t = some z) : EqX [] [] [] t z.2 := by
  have G4 : ∀ (k : Nat) (x1 : Int32) (x2 : Int32) (x3 : Int32) (t : St), m_Picture_wordCount_4 n  k x1 x2 x3 t = some z → EqX [] [] [] t z.2 := by
    intro k
    induction k with
    | zero => intro x1 x2 x3 t h; exact absurd (show none = some z from h) (by simp)
    | succ k ih =>
      intro x1 x2 x3 t h
      change m_Picture_wordCount_4b n  (m_Picture_wordCount_4 n  k) x1 x2 x3 t = some z at h
      unfold m_Picture_wordCount_4b at h
      by_cases c7 : (16 : Int32) < x3
      · rw [if_pos c7] at h
        exact EqX.cast EqX.rf (j_r2 h)
      · rw [if_neg c7] at h
        obtain ⟨z20, hz20, h⟩ := j_bind h
        exact EqX.tr (EqX.tr EqX.rf (EqX.mono (x_Bytes_at hz20) (by decide) (by decide) (by decide))) (ih x1 (x2 + z20.1) (x3 + 1) z20.2 h)
  unfold m_Picture_wordCount at h
  exact EqX.tr EqX.rf (G4  n x1 (0 : Int32) (1 : Int32) t h)
theorem x_Picture_ofWords {n : Nat} {x1 : Int32} {x2 : Int32} {x3 : Int32} {t : St} {z : Int32 × St} (h : m_Picture_ofWords n x1 x2 x3 t = some z) : EqX [] [] [] t z.2 := by
  have G44 : ∀ (x2 : Int32) (x3 : Int32) (x4 : Int32) (t : St), m_Picture_ofWords_44 n  x2 x3 x4 t = some z → EqX [] [] [] t z.2 := by
    intro x2 x3 x4 t h
    unfold m_Picture_ofWords_44 at h
    by_cases c46 : x2 = (1 : Int32)
    · rw [if_pos c46] at h
      by_cases c50 : x3 < 0
      · rw [if_pos c50] at h
        exact EqX.cast EqX.rf (j_r2 h)
      · rw [if_neg c50] at h
        obtain ⟨z57, hz57, h⟩ := j_bind h
        by_cases c60 : z57.1 ≤ x3
        · rw [if_pos c60] at h
          exact EqX.cast (EqX.tr EqX.rf (EqX.mono (x_Picture_wordCount hz57) (by decide) (by decide) (by decide))) (j_r2 h)
        · rw [if_neg c60] at h
          obtain ⟨z74, hz74, h⟩ := j_bind h
          exact EqX.cast (EqX.tr (EqX.tr EqX.rf (EqX.mono (x_Picture_wordCount hz57) (by decide) (by decide) (by decide))) (EqX.mono (x_Bytes_at hz74) (by decide) (by decide) (by decide))) (j_r2 h)
    · rw [if_neg c46] at h
      exact EqX.cast EqX.rf (j_r2 h)
  unfold m_Picture_ofWords at h
  obtain ⟨z2, hz2, h⟩ := j_bind h
  by_cases c10 : z2.1 = (-1 : Int32)
  · rw [if_pos c10] at h
    exact EqX.cast (EqX.tr EqX.rf (EqX.mono (x_Picture_placeOfWords hz2) (by decide) (by decide) (by decide))) (j_r2 h)
  · rw [if_neg c10] at h
    by_cases c16 : x2 = 0
    · rw [if_pos c16] at h
      by_cases c21 : x3 < (1 : Int32)
      · rw [if_pos c21] at h
        exact EqX.tr (EqX.tr EqX.rf (EqX.mono (x_Picture_placeOfWords hz2) (by decide) (by decide) (by decide))) (G44  x2 x3 z2.1 z2.2 h)
      · rw [if_neg c21] at h
        by_cases c27 : (16 : Int32) < x3
        · rw [if_pos c27] at h
          exact EqX.tr (EqX.tr EqX.rf (EqX.mono (x_Picture_placeOfWords hz2) (by decide) (by decide) (by decide))) (G44  x2 x3 z2.1 z2.2 h)
        · rw [if_neg c27] at h
          obtain ⟨z40, hz40, h⟩ := j_bind h
          exact EqX.cast (EqX.tr (EqX.tr EqX.rf (EqX.mono (x_Picture_placeOfWords hz2) (by decide) (by decide) (by decide))) (EqX.mono (x_Bytes_at hz40) (by decide) (by decide) (by decide))) (j_r2 h)
    · rw [if_neg c16] at h
      exact EqX.tr (EqX.tr EqX.rf (EqX.mono (x_Picture_placeOfWords hz2) (by decide) (by decide) (by decide))) (G44  x2 x3 z2.1 z2.2 h)
theorem x_Reader_word {n : Nat} {x1 : Int32} {x2 : Int32} {x3 : Int32} {t : St} {z : Int32 × St} (h : m_Reader_word n x1 x2 x3 t = some z) : EqX [] [] [] t z.2 := by
  unfold m_Reader_word at h
  obtain ⟨z7, hz7, h⟩ := j_bind h
  exact EqX.cast (EqX.tr EqX.rf (EqX.mono (x_Picture_ofWords hz7) (by decide) (by decide) (by decide))) (j_r2 h)
theorem x_Reader_look {n : Nat} {x1 : Int32} {t : St} {z : Int32 × St} (h : m_Reader_look n x1 t = some z) : EqX [] [] [] t z.2 := by
  unfold m_Reader_look at h
  by_cases c1_0 : x1 = (0 : Int32)
  · rw [if_pos c1_0] at h
    exact EqX.cast EqX.rf (j_r2 h)
  rw [if_neg c1_0] at h
  by_cases c1_1 : x1 = (1 : Int32)
  · rw [if_pos c1_1] at h
    exact EqX.cast EqX.rf (j_r2 h)
  rw [if_neg c1_1] at h
  by_cases c1_2 : x1 = (2 : Int32)
  · rw [if_pos c1_2] at h
    exact EqX.cast EqX.rf (j_r2 h)
  rw [if_neg c1_2] at h
  by_cases c1_3 : x1 = (3 : Int32)
  · rw [if_pos c1_3] at h
    obtain ⟨z72, hz72, h⟩ := j_bind h
    exact EqX.cast (EqX.tr EqX.rf (EqX.mono (x_Picture_segmentCount hz72) (by decide) (by decide) (by decide))) (j_r2 h)
  rw [if_neg c1_3] at h
  by_cases c1_4 : x1 = (4 : Int32)
  · rw [if_pos c1_4] at h
    obtain ⟨z80, hz80, h⟩ := j_bind h
    exact EqX.cast (EqX.tr EqX.rf (EqX.mono (x_Picture_scanCount hz80) (by decide) (by decide) (by decide))) (j_r2 h)
  rw [if_neg c1_4] at h
  by_cases c1_5 : x1 = (5 : Int32)
  · rw [if_pos c1_5] at h
    exact EqX.cast EqX.rf (j_r2 h)
  rw [if_neg c1_5] at h
  by_cases c1_6 : x1 = (6 : Int32)
  · rw [if_pos c1_6] at h
    exact EqX.cast EqX.rf (j_r2 h)
  rw [if_neg c1_6] at h
  exact EqX.cast EqX.rf (j_r2 h)
theorem x_Bytes_add {n : Nat} {x1 : Int32} {t0 : St} {z : St} (h : m_Bytes_add n x1 t0 = some z) : EqX [0] [0] [] t0 z := by
  have G40 : ∀ (x1 : Int32) (t : St), m_Bytes_add_40 n  x1 t = some z → EqX [0] [0] [] t z := by
    intro x1 t h
    unfold m_Bytes_add_40 at h
    obtain ⟨b50, h⟩ := j_ifn h
    exact EqX.cast (EqX.g (EqX.h EqX.rf (by decide)) (by decide)) (j_s h)
  unfold m_Bytes_add at h
  by_cases c7 : (t0.1 0) < (16384 : Int32)
  · rw [if_pos c7] at h
    by_cases c20 : (t0.1 0) < (Int32.ofNat (t0.2.2.2 0))
    · rw [if_pos c20] at h
      exact EqX.tr EqX.rf (G40  x1 t0 h)
    · rw [if_neg c20] at h
      obtain ⟨b34, h⟩ := j_ifn h
      exact EqX.tr (EqX.a EqX.rf (by decide)) (G40  x1 (sA t0 0 (((2 : Int32) * (t0.1 0))).toNatClampNeg (va_cpy (t0.2.1 0) (fun _ => 0) 0 0 (t0.2.2.2 0))) h)
  · rw [if_neg c7] at h
    exact EqX.cast EqX.rf (j_s h)
theorem x_Numbers_add_4 {n : Nat} {x1 : Int32} {t0 : St} {z : St} (h : m_Numbers_add_4 n x1 t0 = some z) : EqX [7] [1] [] t0 z := by
  have G29 : ∀ (x1 : Int32) (t : St), m_Numbers_add_4_29 n  x1 t = some z → EqX [7] [1] [] t z := by
    intro x1 t h
    unfold m_Numbers_add_4_29 at h
    obtain ⟨b38, h⟩ := j_ifn h
    exact EqX.cast (EqX.g (EqX.h EqX.rf (by decide)) (by decide)) (j_s h)
  unfold m_Numbers_add_4 at h
  by_cases c9 : (t0.1 7) < (Int32.ofNat (t0.2.2.2 1))
  · rw [if_pos c9] at h
    exact EqX.tr EqX.rf (G29  x1 t0 h)
  · rw [if_neg c9] at h
    obtain ⟨b23, h⟩ := j_ifn h
    exact EqX.tr (EqX.a EqX.rf (by decide)) (G29  x1 (sA t0 1 (((2 : Int32) * (t0.1 7))).toNatClampNeg (va_cpy (t0.2.1 1) (fun _ => 0) 0 0 (t0.2.2.2 1))) h)
theorem x_Numbers_add_6 {n : Nat} {x1 : Int32} {t0 : St} {z : St} (h : m_Numbers_add_6 n x1 t0 = some z) : EqX [8] [2] [] t0 z := by
  have G29 : ∀ (x1 : Int32) (t : St), m_Numbers_add_6_29 n  x1 t = some z → EqX [8] [2] [] t z := by
    intro x1 t h
    unfold m_Numbers_add_6_29 at h
    obtain ⟨b38, h⟩ := j_ifn h
    exact EqX.cast (EqX.g (EqX.h EqX.rf (by decide)) (by decide)) (j_s h)
  unfold m_Numbers_add_6 at h
  by_cases c9 : (t0.1 8) < (Int32.ofNat (t0.2.2.2 2))
  · rw [if_pos c9] at h
    exact EqX.tr EqX.rf (G29  x1 t0 h)
  · rw [if_neg c9] at h
    obtain ⟨b23, h⟩ := j_ifn h
    exact EqX.tr (EqX.a EqX.rf (by decide)) (G29  x1 (sA t0 2 (((2 : Int32) * (t0.1 8))).toNatClampNeg (va_cpy (t0.2.1 2) (fun _ => 0) 0 0 (t0.2.2.2 2))) h)
theorem x_Picture_addSegment {n : Nat} {x1 : Int32} {x2 : Int32} {t0 : St} {z : St} (h : m_Picture_addSegment n x1 x2 t0 = some z) : EqX [7] [1] [] t0 z := by
  unfold m_Picture_addSegment at h
  obtain ⟨z5, hz5, h⟩ := j_bind h
  obtain ⟨z13, hz13, h⟩ := j_bind h
  exact EqX.cast (EqX.tr (EqX.tr EqX.rf (EqX.mono (x_Numbers_add_4 hz5) (by decide) (by decide) (by decide))) (EqX.mono (x_Numbers_add_4 hz13) (by decide) (by decide) (by decide))) (j_s h)
theorem x_Picture_addScan {n : Nat} {x1 : Int32} {x2 : Int32} {x3 : Int32} {x4 : Int32} {t0 : St} {z : St} (h : m_Picture_addScan n x1 x2 x3 x4 t0 = some z) : EqX [8] [2] [] t0 z := by
  unfold m_Picture_addScan at h
  obtain ⟨z5, hz5, h⟩ := j_bind h
  obtain ⟨z13, hz13, h⟩ := j_bind h
  obtain ⟨z21, hz21, h⟩ := j_bind h
  obtain ⟨z30, hz30, h⟩ := j_bind h
  obtain ⟨z41, hz41, h⟩ := j_bind h
  exact EqX.cast (EqX.tr (EqX.tr (EqX.tr (EqX.tr (EqX.tr EqX.rf (EqX.mono (x_Numbers_add_6 hz5) (by decide) (by decide) (by decide))) (EqX.mono (x_Numbers_add_6 hz13) (by decide) (by decide) (by decide))) (EqX.mono (x_Numbers_add_6 hz21) (by decide) (by decide) (by decide))) (EqX.mono (x_Numbers_add_6 hz30) (by decide) (by decide) (by decide))) (EqX.mono (x_Numbers_add_6 hz41) (by decide) (by decide) (by decide))) (j_s h)
theorem x_Parser_endData {n : Nat} {x1 : Int32} {x2 : Int32} {x3 : Int32} {t0 : St} {z : St} (h : m_Parser_endData n x1 x2 x3 t0 = some z) : EqX [8, 12, 13, 14] [2] [] t0 z := by
  have G43 : ∀ (x1 : Int32) (x2 : Int32) (t : St), m_Parser_endData_43 n  x1 x2 t = some z → EqX [8, 12, 13, 14] [2] [] t z := by
    intro x1 x2 t h
    unfold m_Parser_endData_43 at h
    obtain ⟨z66, hz66, h⟩ := j_bind h
    exact EqX.cast (EqX.tr (EqX.g EqX.rf (by decide)) (EqX.mono (x_Picture_addScan hz66) (by decide) (by decide) (by decide))) (j_s h)
  have G18 : ∀ (x1 : Int32) (x2 : Int32) (t : St), m_Parser_endData_18 n  x1 x2 t = some z → EqX [8, 12, 13, 14] [2] [] t z := by
    intro x1 x2 t h
    unfold m_Parser_endData_18 at h
    obtain ⟨z23, hz23, h⟩ := j_bind h
    by_cases c26 : z23.1 = 0
    · rw [if_pos c26] at h
      by_cases c36 : (z23.2.1 3) = 0
      · rw [if_pos c36] at h
        obtain ⟨z66, hz66, h⟩ := j_bind h
        exact EqX.cast (EqX.tr (EqX.g (EqX.tr EqX.rf (EqX.mono (x_Picture_scanCount hz23) (by decide) (by decide) (by decide))) (by decide)) (EqX.mono (x_Picture_addScan hz66) (by decide) (by decide) (by decide))) (j_s h)
      · rw [if_neg c36] at h
        exact EqX.tr (EqX.tr EqX.rf (EqX.mono (x_Picture_scanCount hz23) (by decide) (by decide) (by decide))) (G43  x1 x2 z23.2 h)
    · rw [if_neg c26] at h
      exact EqX.tr (EqX.tr EqX.rf (EqX.mono (x_Picture_scanCount hz23) (by decide) (by decide) (by decide))) (G43  x1 x2 z23.2 h)
  unfold m_Parser_endData at h
  by_cases c2 : x3 = (-1 : Int32)
  · rw [if_pos c2] at h
    obtain ⟨z14, hz14, h⟩ := j_bind h
    exact EqX.tr (EqX.tr EqX.rf (EqX.mono (x_Parser_fail hz14) (by decide) (by decide) (by decide))) (G18  x1 x2 z14.2 h)
  · rw [if_neg c2] at h
    exact EqX.tr EqX.rf (G18  x1 x2 t0 h)
theorem x_Parser_readData {n : Nat}  {t0 : St} {z : St} (h : m_Parser_readData n t0 = some z) : EqX [8, 9, 12, 13, 14] [2] [] t0 z := by
  have G139 : ∀  (t : St), m_Parser_readData_139 n   t = some z → EqX [8, 9, 12, 13, 14] [2] [] t z := by
    intro  t h
    unfold m_Parser_readData_139 at h
    obtain ⟨z148, hz148, h⟩ := j_bind h
    exact EqX.cast (EqX.tr EqX.rf (EqX.mono (x_Parser_fail hz148) (by decide) (by decide) (by decide))) (j_s h)
  have G126 : ∀ (K7 : Int32 → Int32 → St → Option (St)) (hK7 : ∀ (x1 : Int32) (x2 : Int32) (t : St), K7 x1 x2 t = some z → EqX [8, 9, 12, 13, 14] [2] [] t z) (x1 : Int32) (x2 : Int32) (t : St), m_Parser_readData_126 n K7 x1 x2 t = some z → EqX [8, 9, 12, 13, 14] [2] [] t z := by
    intro K7 hK7 x1 x2 t h
    unfold m_Parser_readData_126 at h
    exact EqX.tr (EqX.g EqX.rf (by decide)) (hK7 x1 x2 (sG t 9 ((t.1 9) + (2 : Int32))) h)
  have G109 : ∀ (K7 : Int32 → Int32 → St → Option (St)) (hK7 : ∀ (x1 : Int32) (x2 : Int32) (t : St), K7 x1 x2 t = some z → EqX [8, 9, 12, 13, 14] [2] [] t z) (x1 : Int32) (x2 : Int32) (x3 : Int32) (x4 : Int32) (t : St), m_Parser_readData_109 n K7 x1 x2 x3 x4 t = some z → EqX [8, 9, 12, 13, 14] [2] [] t z := by
    intro K7 hK7 x1 x2 x3 x4 t h
    unfold m_Parser_readData_109 at h
    by_cases c110 : x3 = 0
    · rw [if_pos c110] at h
      exact EqX.tr EqX.rf (G126 K7 hK7 x1 x2 t h)
    · rw [if_neg c110] at h
      by_cases c115 : x4 = 0
      · rw [if_pos c115] at h
        obtain ⟨z122, hz122, h⟩ := j_bind h
        exact EqX.cast (EqX.tr EqX.rf (EqX.mono (x_Parser_endData hz122) (by decide) (by decide) (by decide))) (j_s h)
      · rw [if_neg c115] at h
        exact EqX.tr EqX.rf (G126 K7 hK7 x1 x2 t h)
  have G99 : ∀ (K7 : Int32 → Int32 → St → Option (St)) (hK7 : ∀ (x1 : Int32) (x2 : Int32) (t : St), K7 x1 x2 t = some z → EqX [8, 9, 12, 13, 14] [2] [] t z) (x1 : Int32) (x2 : Int32) (x3 : Int32) (y0 : Int32) (t : St), m_Parser_readData_99 n K7 x1 x2 x3 y0 t = some z → EqX [8, 9, 12, 13, 14] [2] [] t z := by
    intro K7 hK7 x1 x2 x3 y0 t h
    unfold m_Parser_readData_99 at h
    by_cases c103 : y0 = 0
    · rw [if_pos c103] at h
      exact EqX.tr EqX.rf (G109 K7 hK7 x1 x2 x3 y0 t h)
    · rw [if_neg c103] at h
      exact EqX.tr EqX.rf (G109 K7 hK7 x1 (x2 + 1) x3 y0 t h)
  have G98 : ∀ (K7 : Int32 → Int32 → St → Option (St)) (hK7 : ∀ (x1 : Int32) (x2 : Int32) (t : St), K7 x1 x2 t = some z → EqX [8, 9, 12, 13, 14] [2] [] t z) (x1 : Int32) (x2 : Int32) (x3 : Int32) (t : St), m_Parser_readData_98 n K7 x1 x2 x3 t = some z → EqX [8, 9, 12, 13, 14] [2] [] t z := by
    intro K7 hK7 x1 x2 x3 t h
    unfold m_Parser_readData_98 at h
    exact EqX.tr EqX.rf (G99 K7 hK7 x1 x2 x3 (0 : Int32) t h)
  have G7 : ∀ (k : Nat) (x1 : Int32) (x2 : Int32) (t : St), m_Parser_readData_7 n  k x1 x2 t = some z → EqX [8, 9, 12, 13, 14] [2] [] t z := by
    intro k
    induction k with
    | zero => intro x1 x2 t h; exact absurd (show none = some z from h) (by simp)
    | succ k ih =>
      intro x1 x2 t h
      change m_Parser_readData_7b n  (m_Parser_readData_7 n  k) x1 x2 t = some z at h
      unfold m_Parser_readData_7b at h
      by_cases c11 : (t.1 13) = 0
      · rw [if_pos c11] at h
        by_cases c25 : (t.1 0) ≤ (t.1 9)
        · rw [if_pos c25] at h
          exact EqX.tr EqX.rf (G139  t h)
        · rw [if_neg c25] at h
          obtain ⟨z36, hz36, h⟩ := j_bind h
          by_cases c42 : z36.1 = (255 : Int32)
          · rw [if_pos c42] at h
            obtain ⟨z68, hz68, h⟩ := j_bind h
            by_cases c79 : (z68.2.1 5) ≤ 0
            · rw [if_pos c79] at h
              exact EqX.tr (EqX.tr (EqX.tr EqX.rf (EqX.mono (x_Bytes_at hz36) (by decide) (by decide) (by decide))) (EqX.mono (x_Bytes_at hz68) (by decide) (by decide) (by decide))) (G98 (m_Parser_readData_7 n  k) ih x1 x2 z68.1 z68.2 h)
            · rw [if_neg c79] at h
              by_cases c91 : z68.1 = ((208 : Int32) + (x2 - x2 / (8 : Int32) * (8 : Int32)))
              · rw [if_pos c91] at h
                exact EqX.tr (EqX.tr (EqX.tr EqX.rf (EqX.mono (x_Bytes_at hz36) (by decide) (by decide) (by decide))) (EqX.mono (x_Bytes_at hz68) (by decide) (by decide) (by decide))) (G99 (m_Parser_readData_7 n  k) ih x1 x2 z68.1 (1 : Int32) z68.2 h)
              · rw [if_neg c91] at h
                exact EqX.tr (EqX.tr (EqX.tr EqX.rf (EqX.mono (x_Bytes_at hz36) (by decide) (by decide) (by decide))) (EqX.mono (x_Bytes_at hz68) (by decide) (by decide) (by decide))) (G98 (m_Parser_readData_7 n  k) ih x1 x2 z68.1 z68.2 h)
          · rw [if_neg c42] at h
            exact EqX.tr (EqX.g (EqX.tr EqX.rf (EqX.mono (x_Bytes_at hz36) (by decide) (by decide) (by decide))) (by decide)) (ih x1 x2 (sG z36.2 9 ((z36.2.1 9) + (1 : Int32))) h)
      · rw [if_neg c11] at h
        exact EqX.tr EqX.rf (G139  t h)
  unfold m_Parser_readData at h
  exact EqX.tr EqX.rf (G7  n (t0.1 9) (0 : Int32) t0 h)
theorem x_Parser_readNext {n : Nat}  {t0 : St} {z : St} (h : m_Parser_readNext n t0 = some z) : EqX [1, 2, 3, 4, 5, 6, 7, 8, 9, 10, 11, 12, 13, 14, 15, 16, 17, 18, 19, 20] [1, 2, 3, 4, 5, 6, 7] [0] t0 z := by
  unfold m_Parser_readNext at h
  obtain ⟨z6, hz6, h⟩ := j_bind h
  by_cases c12 : z6.1 = (-1 : Int32)
  · rw [if_pos c12] at h
    exact EqX.cast (EqX.tr EqX.rf (EqX.mono (x_Parser_takeMarker hz6) (by decide) (by decide) (by decide))) (j_s h)
  · rw [if_neg c12] at h
    by_cases c20 : z6.1 = (217 : Int32)
    · rw [if_pos c20] at h
      exact EqX.cast (EqX.g (EqX.tr EqX.rf (EqX.mono (x_Parser_takeMarker hz6) (by decide) (by decide) (by decide))) (by decide)) (j_s h)
    · rw [if_neg c20] at h
      obtain ⟨z36, hz36, h⟩ := j_bind h
      obtain ⟨z48, hz48, h⟩ := j_bind h
      obtain ⟨z53, hz53, h⟩ := j_bind h
      by_cases c60 : z6.1 = (218 : Int32)
      · rw [if_pos c60] at h
        obtain ⟨z64, hz64, h⟩ := j_bind h
        exact EqX.cast (EqX.tr (EqX.tr (EqX.tr (EqX.tr (EqX.tr EqX.rf (EqX.mono (x_Parser_takeMarker hz6) (by decide) (by decide) (by decide))) (EqX.mono (x_Parser_takeLength hz36) (by decide) (by decide) (by decide))) (EqX.mono (x_Picture_addSegment hz48) (by decide) (by decide) (by decide))) (EqX.mono (x_Parser_readContents hz53) (by decide) (by decide) (by decide))) (EqX.mono (x_Parser_readData hz64) (by decide) (by decide) (by decide))) (j_s h)
      · rw [if_neg c60] at h
        exact EqX.cast (EqX.tr (EqX.tr (EqX.tr (EqX.tr EqX.rf (EqX.mono (x_Parser_takeMarker hz6) (by decide) (by decide) (by decide))) (EqX.mono (x_Parser_takeLength hz36) (by decide) (by decide) (by decide))) (EqX.mono (x_Picture_addSegment hz48) (by decide) (by decide) (by decide))) (EqX.mono (x_Parser_readContents hz53) (by decide) (by decide) (by decide))) (j_s h)
theorem x_Model_forget {n : Nat}  {t : St} {z : St} (h : m_Model_forget n t = some z) : EqX [7, 8, 9, 10, 11, 12, 13, 14] [6, 8, 13] [] t z := by
  have G83 : ∀ (k : Nat) (x1 : Int32) (t : St), m_Model_forget_83 n  k x1 t = some z → EqX [7, 8, 9, 10, 11, 12, 13, 14] [6, 8, 13] [] t z := by
    intro k
    induction k with
    | zero => intro x1 t h; exact absurd (show none = some z from h) (by simp)
    | succ k ih =>
      intro x1 t h
      change m_Model_forget_83b n  (m_Model_forget_83 n  k) x1 t = some z at h
      unfold m_Model_forget_83b at h
      by_cases c87 : (256 : Int32) ≤ x1
      · rw [if_pos c87] at h
        exact EqX.cast EqX.rf (j_s h)
      · rw [if_neg c87] at h
        obtain ⟨b96, h⟩ := j_ifn h
        exact EqX.tr (EqX.h EqX.rf (by decide)) (ih (x1 + 1) (sH t 13 (x1).toNatClampNeg (-1 : Int32)) h)
  have G62 : ∀ (k : Nat) (x1 : Int32) (t : St), m_Model_forget_62 n  k x1 t = some z → EqX [7, 8, 9, 10, 11, 12, 13, 14] [6, 8, 13] [] t z := by
    intro k
    induction k with
    | zero => intro x1 t h; exact absurd (show none = some z from h) (by simp)
    | succ k ih =>
      intro x1 t h
      change m_Model_forget_62b n  (m_Model_forget_62 n  k) x1 t = some z at h
      unfold m_Model_forget_62b at h
      by_cases c65 : (8 : Int32) ≤ x1
      · rw [if_pos c65] at h
        exact EqX.tr EqX.rf (G83  n (0 : Int32) t h)
      · rw [if_neg c65] at h
        obtain ⟨b74, h⟩ := j_ifn h
        exact EqX.tr (EqX.h EqX.rf (by decide)) (ih (x1 + 1) (sH t 8 (x1).toNatClampNeg (vp_nar .boolean (0 : Int32))) h)
  have G42 : ∀ (k : Nat) (x1 : Int32) (t : St), m_Model_forget_42 n  k x1 t = some z → EqX [7, 8, 9, 10, 11, 12, 13, 14] [6, 8, 13] [] t z := by
    intro k
    induction k with
    | zero => intro x1 t h; exact absurd (show none = some z from h) (by simp)
    | succ k ih =>
      intro x1 t h
      change m_Model_forget_42b n  (m_Model_forget_42 n  k) x1 t = some z at h
      unfold m_Model_forget_42b at h
      by_cases c44 : (4 : Int32) ≤ x1
      · rw [if_pos c44] at h
        exact EqX.tr EqX.rf (G62  n (0 : Int32) t h)
      · rw [if_neg c44] at h
        obtain ⟨b53, h⟩ := j_ifn h
        exact EqX.tr (EqX.h EqX.rf (by decide)) (ih (x1 + 1) (sH t 6 (x1).toNatClampNeg (vp_nar .boolean (0 : Int32))) h)
  unfold m_Model_forget at h
  exact EqX.tr (EqX.g (EqX.g (EqX.g (EqX.g (EqX.g (EqX.g (EqX.g (EqX.g EqX.rf (by decide)) (by decide)) (by decide)) (by decide)) (by decide)) (by decide)) (by decide)) (by decide)) (G42  n (0 : Int32) (sG (sG (sG (sG (sG (sG (sG (sG t 7 (-1 : Int32)) 8 (0 : Int32)) 9 (0 : Int32)) 10 (0 : Int32)) 11 (0 : Int32)) 12 (0 : Int32)) 13 (0 : Int32)) 14 (0 : Int32)) h)
theorem x_Model_give {n : Nat} {x1 : Int64} {x3 : Int32} {t : St} {z : Int32 × St} (h : m_Model_give n x1 x3 t = some z) : EqX [0, 1, 2, 3, 7, 8, 9, 10, 11, 12, 13, 14] [0, 6, 8, 13] [] t z.2 := by
  have G35 : ∀ (k : Nat) (x1 : Int64) (x4 : Int32) (t : St), m_Model_give_35 n  k x1 x4 t = some z → EqX [0, 1, 2, 3, 7, 8, 9, 10, 11, 12, 13, 14] [0, 6, 8, 13] [] t z.2 := by
    intro k
    induction k with
    | zero => intro x1 x4 t h; exact absurd (show none = some z from h) (by simp)
    | succ k ih =>
      intro x1 x4 t h
      change m_Model_give_35b n  (m_Model_give_35 n  k) x1 x4 t = some z at h
      unfold m_Model_give_35b at h
      by_cases c37 : x4 < 0
      · rw [if_pos c37] at h
        obtain ⟨z85, hz85, h⟩ := j_bind h
        exact EqX.cast (EqX.tr (EqX.g (EqX.g EqX.rf (by decide)) (by decide)) (EqX.mono (x_Model_forget hz85) (by decide) (by decide) (by decide))) (j_r2 h)
      · rw [if_neg c37] at h
        obtain ⟨b57, h⟩ := j_ifn h
        exact EqX.tr (EqX.g (EqX.h EqX.rf (by decide)) (by decide)) (ih x1 (x4 + (-1)) (sG (sH t 0 ((t.1 1)).toNatClampNeg (vp_nar .byte (((x1 >>> ((((8 : Int32) * x4)).toInt64 &&& 63))).toInt32).toInt8.toInt32)) 1 ((t.1 1) + (1 : Int32))) h)
  unfold m_Model_give at h
  by_cases c7 : x3 < (1 : Int32)
  · rw [if_pos c7] at h
    exact EqX.cast (EqX.g EqX.rf (by decide)) (j_r2 h)
  · rw [if_neg c7] at h
    by_cases c13 : (8 : Int32) < x3
    · rw [if_pos c13] at h
      exact EqX.cast (EqX.g EqX.rf (by decide)) (j_r2 h)
    · rw [if_neg c13] at h
      by_cases c25 : ((t.1 1) + x3) ≤ (16384 : Int32)
      · rw [if_pos c25] at h
        exact EqX.tr (EqX.g EqX.rf (by decide)) (G35  n x1 (x3 - (1 : Int32)) (sG t 0 (0 : Int32)) h)
      · rw [if_neg c25] at h
        exact EqX.cast (EqX.g EqX.rf (by decide)) (j_r2 h)
theorem x_Model_wipe {n : Nat}  {t : St} {z : St} (h : m_Model_wipe n t = some z) : EqX [0, 1, 2, 3, 7, 8, 9, 10, 11, 12, 13, 14] [6, 8, 13] [] t z := by
  unfold m_Model_wipe at h
  obtain ⟨z21, hz21, h⟩ := j_bind h
  exact EqX.cast (EqX.tr (EqX.g (EqX.g (EqX.g (EqX.g EqX.rf (by decide)) (by decide)) (by decide)) (by decide)) (EqX.mono (x_Model_forget hz21) (by decide) (by decide) (by decide))) (j_s h)
theorem x_Model_lengthAt {n : Nat}  {t : St} {z : Int32 × St} (h : m_Model_lengthAt n t = some z) : EqX [] [] [] t z.2 := by
  unfold m_Model_lengthAt at h
  exact EqX.cast EqX.rf (j_r2 h)
theorem x_Model_wrong {n : Nat} {x1 : Int32} {x2 : Int32} {t : St} {z : Int32 × St} (h : m_Model_wrong n x1 x2 t = some z) : EqX [2, 3] [] [] t z.2 := by
  unfold m_Model_wrong at h
  by_cases c4 : (t.1 2) = 0
  · rw [if_pos c4] at h
    exact EqX.cast (EqX.g (EqX.g EqX.rf (by decide)) (by decide)) (j_r2 h)
  · rw [if_neg c4] at h
    exact EqX.cast EqX.rf (j_r2 h)
theorem x_Model_byteAt {n : Nat} {x1 : Int32} {t : St} {z : Int32 × St} (h : m_Model_byteAt n x1 t = some z) : EqX [] [] [] t z.2 := by
  unfold m_Model_byteAt at h
  obtain ⟨b5, h⟩ := j_ifn h
  exact EqX.cast EqX.rf (j_r2 h)
theorem x_Model_next {n : Nat}  {t : St} {z : Int32 × St} (h : m_Model_next n t = some z) : EqX [2, 3, 4] [] [] t z.2 := by
  have G37 : ∀  (t : St), m_Model_next_37 n   t = some z → EqX [2, 3, 4] [] [] t z.2 := by
    intro  t h
    unfold m_Model_next_37 at h
    by_cases c45 : (t.1 4) = (t.1 1)
    · rw [if_pos c45] at h
      obtain ⟨z54, hz54, h⟩ := j_bind h
      exact EqX.cast (EqX.tr EqX.rf (EqX.mono (x_Model_wrong hz54) (by decide) (by decide) (by decide))) (j_r2 h)
    · rw [if_neg c45] at h
      obtain ⟨z75, hz75, h⟩ := j_bind h
      exact EqX.cast (EqX.tr (EqX.g EqX.rf (by decide)) (EqX.mono (x_Model_byteAt hz75) (by decide) (by decide) (by decide))) (j_r2 h)
  unfold m_Model_next at h
  by_cases c4 : (t.1 2) ≤ 0
  · rw [if_pos c4] at h
    by_cases c13 : (t.1 5) < 0
    · rw [if_pos c13] at h
      exact EqX.tr EqX.rf (G37  t h)
    · rw [if_neg c13] at h
      by_cases c24 : (t.1 4) = (t.1 5)
      · rw [if_pos c24] at h
        obtain ⟨z30, hz30, h⟩ := j_bind h
        obtain ⟨z33, hz33, h⟩ := j_bind h
        exact EqX.cast (EqX.tr (EqX.tr EqX.rf (EqX.mono (x_Model_lengthAt hz30) (by decide) (by decide) (by decide))) (EqX.mono (x_Model_wrong hz33) (by decide) (by decide) (by decide))) (j_r2 h)
      · rw [if_neg c24] at h
        exact EqX.tr EqX.rf (G37  t h)
  · rw [if_neg c4] at h
    exact EqX.cast EqX.rf (j_r2 h)
theorem x_Model_marker {n : Nat}  {t : St} {z : Int32 × St} (h : m_Model_marker n t = some z) : EqX [2, 3, 4, 6] [] [] t z.2 := by
  have G61 : ∀ (x1 : Int32) (t : St), m_Model_marker_61 n  x1 t = some z → EqX [2, 3, 4, 6] [] [] t z.2 := by
    intro x1 t h
    unfold m_Model_marker_61 at h
    by_cases c65 : (t.1 2) = 0
    · rw [if_pos c65] at h
      by_cases c69 : x1 = 0
      · rw [if_pos c69] at h
        obtain ⟨z80, hz80, h⟩ := j_bind h
        exact EqX.cast (EqX.tr EqX.rf (EqX.mono (x_Model_wrong hz80) (by decide) (by decide) (by decide))) (j_r2 h)
      · rw [if_neg c69] at h
        exact EqX.cast EqX.rf (j_r2 h)
    · rw [if_neg c65] at h
      exact EqX.cast EqX.rf (j_r2 h)
  have G39 : ∀ (k : Nat) (x1 : Int32) (t : St), m_Model_marker_39 n  k x1 t = some z → EqX [2, 3, 4, 6] [] [] t z.2 := by
    intro k
    induction k with
    | zero => intro x1 t h; exact absurd (show none = some z from h) (by simp)
    | succ k ih =>
      intro x1 t h
      change m_Model_marker_39b n  (m_Model_marker_39 n  k) x1 t = some z at h
      unfold m_Model_marker_39b at h
      by_cases c43 : (t.1 2) = 0
      · rw [if_pos c43] at h
        by_cases c50 : x1 = (255 : Int32)
        · rw [if_pos c50] at h
          obtain ⟨z54, hz54, h⟩ := j_bind h
          exact EqX.tr (EqX.tr EqX.rf (EqX.mono (x_Model_next hz54) (by decide) (by decide) (by decide))) (ih z54.1 z54.2 h)
        · rw [if_neg c50] at h
          exact EqX.tr EqX.rf (G61  x1 t h)
      · rw [if_neg c43] at h
        exact EqX.tr EqX.rf (G61  x1 t h)
  unfold m_Model_marker at h
  obtain ⟨z9, hz9, h⟩ := j_bind h
  by_cases c17 : (z9.2.1 2) = 0
  · rw [if_pos c17] at h
    by_cases c24 : z9.1 = (255 : Int32)
    · rw [if_pos c24] at h
      exact EqX.tr (EqX.tr (EqX.g EqX.rf (by decide)) (EqX.mono (x_Model_next hz9) (by decide) (by decide) (by decide))) (G39  n z9.1 z9.2 h)
    · rw [if_neg c24] at h
      obtain ⟨z35, hz35, h⟩ := j_bind h
      exact EqX.cast (EqX.tr (EqX.tr (EqX.g EqX.rf (by decide)) (EqX.mono (x_Model_next hz9) (by decide) (by decide) (by decide))) (EqX.mono (x_Model_wrong hz35) (by decide) (by decide) (by decide))) (j_r2 h)
  · rw [if_neg c17] at h
    exact EqX.tr (EqX.tr (EqX.g EqX.rf (by decide)) (EqX.mono (x_Model_next hz9) (by decide) (by decide) (by decide))) (G39  n z9.1 z9.2 h)
theorem x_Model_isSent {n : Nat}  {t : St} {z : Int32 × St} (h : m_Model_isSent n t = some z) : EqX [] [] [] t z.2 := by
  have G44 : ∀ (K15 : Int32 → Int32 → St → Option (Int32 × St)) (hK15 : ∀ (x1 : Int32) (x2 : Int32) (t : St), K15 x1 x2 t = some z → EqX [] [] [] t z.2) (x2 : Int32) (y0 : Int32) (t : St), m_Model_isSent_44 n K15 x2 y0 t = some z → EqX [] [] [] t z.2 := by
    intro K15 hK15 x2 y0 t h
    unfold m_Model_isSent_44 at h
    exact EqX.tr EqX.rf (hK15 y0 (x2 + 1) t h)
  have G43 : ∀ (K15 : Int32 → Int32 → St → Option (Int32 × St)) (hK15 : ∀ (x1 : Int32) (x2 : Int32) (t : St), K15 x1 x2 t = some z → EqX [] [] [] t z.2) (x2 : Int32) (t : St), m_Model_isSent_43 n K15 x2 t = some z → EqX [] [] [] t z.2 := by
    intro K15 hK15 x2 t h
    unfold m_Model_isSent_43 at h
    exact EqX.tr EqX.rf (G44 K15 hK15 x2 (0 : Int32) t h)
  have G15 : ∀ (k : Nat) (x1 : Int32) (x2 : Int32) (t : St), m_Model_isSent_15 n  k x1 x2 t = some z → EqX [] [] [] t z.2 := by
    intro k
    induction k with
    | zero => intro x1 x2 t h; exact absurd (show none = some z from h) (by simp)
    | succ k ih =>
      intro x1 x2 t h
      change m_Model_isSent_15b n  (m_Model_isSent_15 n  k) x1 x2 t = some z at h
      unfold m_Model_isSent_15b at h
      by_cases c20 : (t.1 12) ≤ x2
      · rw [if_pos c20] at h
        obtain ⟨b52, h⟩ := j_ifn h
        exact EqX.cast EqX.rf (j_r2 h)
      · rw [if_neg c20] at h
        by_cases c24 : x1 = 0
        · rw [if_pos c24] at h
          exact EqX.tr EqX.rf (G43 (m_Model_isSent_15 n  k) ih x2 t h)
        · rw [if_neg c24] at h
          obtain ⟨b35, h⟩ := j_ifn h
          by_cases c36 : ((t.2.1 13) (((64 : Int32) * x2)).toNatClampNeg) < 0
          · rw [if_pos c36] at h
            exact EqX.tr EqX.rf (G43 (m_Model_isSent_15 n  k) ih x2 t h)
          · rw [if_neg c36] at h
            exact EqX.tr EqX.rf (G44 (m_Model_isSent_15 n  k) ih x2 (1 : Int32) t h)
  have G12 : ∀ (y0 : Int32) (t : St), m_Model_isSent_12 n  y0 t = some z → EqX [] [] [] t z.2 := by
    intro y0 t h
    unfold m_Model_isSent_12 at h
    exact EqX.tr EqX.rf (G15  n y0 (0 : Int32) t h)
  unfold m_Model_isSent at h
  by_cases c4 : (t.1 12) ≤ 0
  · rw [if_pos c4] at h
    exact EqX.tr EqX.rf (G12  (0 : Int32) t h)
  · rw [if_neg c4] at h
    exact EqX.tr EqX.rf (G12  (1 : Int32) t h)
theorem x_Model_two {n : Nat}  {t : St} {z : Int32 × St} (h : m_Model_two n t = some z) : EqX [2, 3, 4] [] [] t z.2 := by
  unfold m_Model_two at h
  obtain ⟨z1, hz1, h⟩ := j_bind h
  obtain ⟨z11, hz11, h⟩ := j_bind h
  exact EqX.cast (EqX.tr (EqX.tr EqX.rf (EqX.mono (x_Model_next hz1) (by decide) (by decide) (by decide))) (EqX.mono (x_Model_next hz11) (by decide) (by decide) (by decide))) (j_r2 h)
theorem x_Model_open {n : Nat}  {t : St} {z : St} (h : m_Model_open n t = some z) : EqX [2, 3, 4, 5, 16] [] [] t z := by
  have G35 : ∀ (x1 : Int32) (t : St), m_Model_open_35 n  x1 t = some z → EqX [2, 3, 4, 5, 16] [] [] t z := by
    intro x1 t h
    unfold m_Model_open_35 at h
    exact EqX.cast (EqX.g EqX.rf (by decide)) (j_s h)
  unfold m_Model_open at h
  obtain ⟨z9, hz9, h⟩ := j_bind h
  by_cases c17 : (z9.2.1 2) = 0
  · rw [if_pos c17] at h
    by_cases c22 : (2 : Int32) ≤ z9.1
    · rw [if_pos c22] at h
      exact EqX.tr (EqX.tr (EqX.g EqX.rf (by decide)) (EqX.mono (x_Model_two hz9) (by decide) (by decide) (by decide))) (G35  z9.1 z9.2 h)
    · rw [if_neg c22] at h
      obtain ⟨z31, hz31, h⟩ := j_bind h
      exact EqX.tr (EqX.tr (EqX.tr (EqX.g EqX.rf (by decide)) (EqX.mono (x_Model_two hz9) (by decide) (by decide) (by decide))) (EqX.mono (x_Model_wrong hz31) (by decide) (by decide) (by decide))) (G35  z9.1 z31.2 h)
  · rw [if_neg c17] at h
    exact EqX.tr (EqX.tr (EqX.g EqX.rf (by decide)) (EqX.mono (x_Model_two hz9) (by decide) (by decide) (by decide))) (G35  z9.1 z9.2 h)
theorem x_Model_must {n : Nat} {x1 : Int32} {t : St} {z : St} (h : m_Model_must n x1 t = some z) : EqX [2, 3] [] [] t z := by
  unfold m_Model_must at h
  by_cases c1 : x1 = 0
  · rw [if_pos c1] at h
    obtain ⟨z13, hz13, h⟩ := j_bind h
    exact EqX.cast (EqX.tr EqX.rf (EqX.mono (x_Model_wrong hz13) (by decide) (by decide) (by decide))) (j_s h)
  · rw [if_neg c1] at h
    exact EqX.cast EqX.rf (j_s h)
theorem x_Model_readQuantisers {n : Nat}  {t : St} {z : St} (h : m_Model_readQuantisers n t = some z) : EqX [2, 3, 4] [6, 7] [] t z := by
  have G130 : ∀ (K2 : Int32 → St → Option (St)) (hK2 : ∀ (x1 : Int32) (t : St), K2 x1 t = some z → EqX [2, 3, 4] [6, 7] [] t z) (y0 : Int32) (t : St), m_Model_readQuantisers_130 n K2 y0 t = some z → EqX [2, 3, 4] [6, 7] [] t z := by
    intro K2 hK2 y0 t h
    unfold m_Model_readQuantisers_130 at h
    exact EqX.tr EqX.rf (hK2 y0 t h)
  have G114 : ∀ (K2 : Int32 → St → Option (St)) (hK2 : ∀ (x1 : Int32) (t : St), K2 x1 t = some z → EqX [2, 3, 4] [6, 7] [] t z)  (t : St), m_Model_readQuantisers_114 n K2  t = some z → EqX [2, 3, 4] [6, 7] [] t z := by
    intro K2 hK2  t h
    unfold m_Model_readQuantisers_114 at h
    by_cases c122 : (t.1 5) ≤ (t.1 4)
    · rw [if_pos c122] at h
      exact EqX.tr EqX.rf (G130 K2 hK2 (0 : Int32) t h)
    · rw [if_neg c122] at h
      exact EqX.tr EqX.rf (G130 K2 hK2 (1 : Int32) t h)
  have G100 : ∀ (K2 : Int32 → St → Option (St)) (hK2 : ∀ (x1 : Int32) (t : St), K2 x1 t = some z → EqX [2, 3, 4] [6, 7] [] t z) (x2 : Int32) (t : St), m_Model_readQuantisers_100 n K2 x2 t = some z → EqX [2, 3, 4] [6, 7] [] t z := by
    intro K2 hK2 x2 t h
    unfold m_Model_readQuantisers_100 at h
    by_cases c104 : (t.1 2) = 0
    · rw [if_pos c104] at h
      obtain ⟨b113, h⟩ := j_ifn h
      exact EqX.tr (EqX.h EqX.rf (by decide)) (G114 K2 hK2 (sH t 6 (x2).toNatClampNeg (vp_nar .boolean (1 : Int32))) h)
    · rw [if_neg c104] at h
      exact EqX.tr EqX.rf (G114 K2 hK2 t h)
  have G78 : ∀ (K2 : Int32 → St → Option (St)) (hK2 : ∀ (x1 : Int32) (t : St), K2 x1 t = some z → EqX [2, 3, 4] [6, 7] [] t z) (K41 : Int32 → Int32 → St → Option (St)) (hK41 : ∀ (x2 : Int32) (x3 : Int32) (t : St), K41 x2 x3 t = some z → EqX [2, 3, 4] [6, 7] [] t z) (x2 : Int32) (x3 : Int32) (x4 : Int32) (y1 : Int32) (t : St), m_Model_readQuantisers_78 n K2 K41 x2 x3 x4 y1 t = some z → EqX [2, 3, 4] [6, 7] [] t z := by
    intro K2 hK2 K41 hK41 x2 x3 x4 y1 t h
    unfold m_Model_readQuantisers_78 at h
    obtain ⟨z78, hz78, h⟩ := j_bind h
    obtain ⟨b93, h⟩ := j_ifn h
    exact EqX.tr (EqX.h (EqX.tr EqX.rf (EqX.mono (x_Model_must hz78) (by decide) (by decide) (by decide))) (by decide)) (hK41 x2 (x3 + 1) (sH z78 7 ((((64 : Int32) * x2) + x3)).toNatClampNeg x4) h)
  have G73 : ∀ (K2 : Int32 → St → Option (St)) (hK2 : ∀ (x1 : Int32) (t : St), K2 x1 t = some z → EqX [2, 3, 4] [6, 7] [] t z) (K41 : Int32 → Int32 → St → Option (St)) (hK41 : ∀ (x2 : Int32) (x3 : Int32) (t : St), K41 x2 x3 t = some z → EqX [2, 3, 4] [6, 7] [] t z) (x2 : Int32) (x3 : Int32) (x4 : Int32) (t : St), m_Model_readQuantisers_73 n K2 K41 x2 x3 x4 t = some z → EqX [2, 3, 4] [6, 7] [] t z := by
    intro K2 hK2 K41 hK41 x2 x3 x4 t h
    unfold m_Model_readQuantisers_73 at h
    exact EqX.tr EqX.rf (G78 K2 hK2 K41 hK41 x2 x3 x4 (1 : Int32) t h)
  have G41 : ∀ (K2 : Int32 → St → Option (St)) (hK2 : ∀ (x1 : Int32) (t : St), K2 x1 t = some z → EqX [2, 3, 4] [6, 7] [] t z) (k : Nat) (x2 : Int32) (x3 : Int32) (t : St), m_Model_readQuantisers_41 n K2 k x2 x3 t = some z → EqX [2, 3, 4] [6, 7] [] t z := by
    intro K2 hK2 k
    induction k with
    | zero => intro x2 x3 t h; exact absurd (show none = some z from h) (by simp)
    | succ k ih =>
      intro x2 x3 t h
      change m_Model_readQuantisers_41b n K2 (m_Model_readQuantisers_41 n K2 k) x2 x3 t = some z at h
      unfold m_Model_readQuantisers_41b at h
      by_cases c44 : (64 : Int32) ≤ x3
      · rw [if_pos c44] at h
        exact EqX.tr EqX.rf (G100 K2 hK2 x2 t h)
      · rw [if_neg c44] at h
        by_cases c51 : (t.1 2) = 0
        · rw [if_pos c51] at h
          obtain ⟨z55, hz55, h⟩ := j_bind h
          by_cases c65 : 0 < (z55.2.1 2)
          · rw [if_pos c65] at h
            exact EqX.tr (EqX.tr EqX.rf (EqX.mono (x_Model_next hz55) (by decide) (by decide) (by decide))) (G73 K2 hK2 (m_Model_readQuantisers_41 n K2 k) ih x2 x3 z55.1 z55.2 h)
          · rw [if_neg c65] at h
            by_cases c70 : z55.1 ≤ 0
            · rw [if_pos c70] at h
              exact EqX.tr (EqX.tr EqX.rf (EqX.mono (x_Model_next hz55) (by decide) (by decide) (by decide))) (G78 K2 hK2 (m_Model_readQuantisers_41 n K2 k) ih x2 x3 z55.1 (0 : Int32) z55.2 h)
            · rw [if_neg c70] at h
              exact EqX.tr (EqX.tr EqX.rf (EqX.mono (x_Model_next hz55) (by decide) (by decide) (by decide))) (G73 K2 hK2 (m_Model_readQuantisers_41 n K2 k) ih x2 x3 z55.1 z55.2 h)
        · rw [if_neg c51] at h
          exact EqX.tr EqX.rf (G100 K2 hK2 x2 t h)
  have G36 : ∀ (K2 : Int32 → St → Option (St)) (hK2 : ∀ (x1 : Int32) (t : St), K2 x1 t = some z → EqX [2, 3, 4] [6, 7] [] t z) (x2 : Int32) (y1 : Int32) (t : St), m_Model_readQuantisers_36 n K2 x2 y1 t = some z → EqX [2, 3, 4] [6, 7] [] t z := by
    intro K2 hK2 x2 y1 t h
    unfold m_Model_readQuantisers_36 at h
    obtain ⟨z36, hz36, h⟩ := j_bind h
    exact EqX.tr (EqX.tr EqX.rf (EqX.mono (x_Model_must hz36) (by decide) (by decide) (by decide))) (G41 K2 hK2 n x2 (0 : Int32) z36 h)
  have G31 : ∀ (K2 : Int32 → St → Option (St)) (hK2 : ∀ (x1 : Int32) (t : St), K2 x1 t = some z → EqX [2, 3, 4] [6, 7] [] t z) (x2 : Int32) (t : St), m_Model_readQuantisers_31 n K2 x2 t = some z → EqX [2, 3, 4] [6, 7] [] t z := by
    intro K2 hK2 x2 t h
    unfold m_Model_readQuantisers_31 at h
    exact EqX.tr EqX.rf (G36 K2 hK2 x2 (1 : Int32) t h)
  have G2 : ∀ (k : Nat) (x1 : Int32) (t : St), m_Model_readQuantisers_2 n  k x1 t = some z → EqX [2, 3, 4] [6, 7] [] t z := by
    intro k
    induction k with
    | zero => intro x1 t h; exact absurd (show none = some z from h) (by simp)
    | succ k ih =>
      intro x1 t h
      change m_Model_readQuantisers_2b n  (m_Model_readQuantisers_2 n  k) x1 t = some z at h
      unfold m_Model_readQuantisers_2b at h
      by_cases c3 : x1 = 0
      · rw [if_pos c3] at h
        exact EqX.cast EqX.rf (j_s h)
      · rw [if_neg c3] at h
        by_cases c10 : (t.1 2) = 0
        · rw [if_pos c10] at h
          obtain ⟨z14, hz14, h⟩ := j_bind h
          by_cases c23 : 0 < (z14.2.1 2)
          · rw [if_pos c23] at h
            exact EqX.tr (EqX.tr EqX.rf (EqX.mono (x_Model_next hz14) (by decide) (by decide) (by decide))) (G31 (m_Model_readQuantisers_2 n  k) ih z14.1 z14.2 h)
          · rw [if_neg c23] at h
            by_cases c28 : (4 : Int32) ≤ z14.1
            · rw [if_pos c28] at h
              exact EqX.tr (EqX.tr EqX.rf (EqX.mono (x_Model_next hz14) (by decide) (by decide) (by decide))) (G36 (m_Model_readQuantisers_2 n  k) ih z14.1 (0 : Int32) z14.2 h)
            · rw [if_neg c28] at h
              exact EqX.tr (EqX.tr EqX.rf (EqX.mono (x_Model_next hz14) (by decide) (by decide) (by decide))) (G31 (m_Model_readQuantisers_2 n  k) ih z14.1 z14.2 h)
        · rw [if_neg c10] at h
          exact EqX.cast EqX.rf (j_s h)
  unfold m_Model_readQuantisers at h
  exact EqX.tr EqX.rf (G2  n (1 : Int32) t h)
theorem x_Model_readTable {n : Nat} {x1 : Int32} {t : St} {z : St} (h : m_Model_readTable n x1 t = some z) : EqX [2, 3, 4] [8, 9, 10, 11, 18] [] t z := by
  have G242 : ∀ (x1 : Int32) (x2 : Int32) (t : St), m_Model_readTable_242 n  x1 x2 t = some z → EqX [2, 3, 4] [8, 9, 10, 11, 18] [] t z := by
    intro x1 x2 t h
    unfold m_Model_readTable_242 at h
    obtain ⟨b248, h⟩ := j_ifn h
    by_cases c253 : (t.1 2) = 0
    · rw [if_pos c253] at h
      obtain ⟨w262, hw262, h⟩ := j_bind h
      obtain ⟨b262, h⟩ := j_ifn h
      exact EqX.cast (EqX.h (EqX.cast (EqX.h EqX.rf (by decide)) (j_s hw262)) (by decide)) (j_s h)
    · rw [if_neg c253] at h
      exact EqX.cast (EqX.h EqX.rf (by decide)) (j_s h)
  have G210 : ∀ (K156 : Int32 → Int32 → Int32 → St → Option (St)) (hK156 : ∀ (x1 : Int32) (x2 : Int32) (x5 : Int32) (t : St), K156 x1 x2 x5 t = some z → EqX [2, 3, 4] [8, 9, 10, 11, 18] [] t z) (x1 : Int32) (x2 : Int32) (x5 : Int32) (x6 : Int32) (y1 : Int32) (t : St), m_Model_readTable_210 n K156 x1 x2 x5 x6 y1 t = some z → EqX [2, 3, 4] [8, 9, 10, 11, 18] [] t z := by
    intro K156 hK156 x1 x2 x5 x6 y1 t h
    unfold m_Model_readTable_210 at h
    obtain ⟨z210, hz210, h⟩ := j_bind h
    obtain ⟨b220, h⟩ := j_ifn h
    obtain ⟨w235, hw235, h⟩ := j_bind h
    obtain ⟨b235, h⟩ := j_ifn h
    exact EqX.tr (EqX.h (EqX.cast (EqX.h (EqX.tr EqX.rf (EqX.mono (x_Model_must hz210) (by decide) (by decide) (by decide))) (by decide)) (j_s hw235)) (by decide)) (hK156 x1 x2 (x5 + 1) (sH w235 10 ((((256 : Int32) * x1) + x5)).toNatClampNeg x6) h)
  have G205 : ∀ (K156 : Int32 → Int32 → Int32 → St → Option (St)) (hK156 : ∀ (x1 : Int32) (x2 : Int32) (x5 : Int32) (t : St), K156 x1 x2 x5 t = some z → EqX [2, 3, 4] [8, 9, 10, 11, 18] [] t z) (x1 : Int32) (x2 : Int32) (x5 : Int32) (x6 : Int32) (t : St), m_Model_readTable_205 n K156 x1 x2 x5 x6 t = some z → EqX [2, 3, 4] [8, 9, 10, 11, 18] [] t z := by
    intro K156 hK156 x1 x2 x5 x6 t h
    unfold m_Model_readTable_205 at h
    exact EqX.tr EqX.rf (G210 K156 hK156 x1 x2 x5 x6 (1 : Int32) t h)
  have G209 : ∀ (K156 : Int32 → Int32 → Int32 → St → Option (St)) (hK156 : ∀ (x1 : Int32) (x2 : Int32) (x5 : Int32) (t : St), K156 x1 x2 x5 t = some z → EqX [2, 3, 4] [8, 9, 10, 11, 18] [] t z) (x1 : Int32) (x2 : Int32) (x5 : Int32) (x6 : Int32) (t : St), m_Model_readTable_209 n K156 x1 x2 x5 x6 t = some z → EqX [2, 3, 4] [8, 9, 10, 11, 18] [] t z := by
    intro K156 hK156 x1 x2 x5 x6 t h
    unfold m_Model_readTable_209 at h
    exact EqX.tr EqX.rf (G210 K156 hK156 x1 x2 x5 x6 (0 : Int32) t h)
  have G156 : ∀ (k : Nat) (x1 : Int32) (x2 : Int32) (x5 : Int32) (t : St), m_Model_readTable_156 n  k x1 x2 x5 t = some z → EqX [2, 3, 4] [8, 9, 10, 11, 18] [] t z := by
    intro k
    induction k with
    | zero => intro x1 x2 x5 t h; exact absurd (show none = some z from h) (by simp)
    | succ k ih =>
      intro x1 x2 x5 t h
      change m_Model_readTable_156b n  (m_Model_readTable_156 n  k) x1 x2 x5 t = some z at h
      unfold m_Model_readTable_156b at h
      by_cases c159 : x2 ≤ x5
      · rw [if_pos c159] at h
        exact EqX.tr EqX.rf (G242  x1 x2 t h)
      · rw [if_neg c159] at h
        by_cases c166 : (t.1 2) = 0
        · rw [if_pos c166] at h
          obtain ⟨z170, hz170, h⟩ := j_bind h
          by_cases c180 : 0 < (z170.2.1 2)
          · rw [if_pos c180] at h
            exact EqX.tr (EqX.tr EqX.rf (EqX.mono (x_Model_next hz170) (by decide) (by decide) (by decide))) (G205 (m_Model_readTable_156 n  k) ih x1 x2 x5 z170.1 z170.2 h)
          · rw [if_neg c180] at h
            obtain ⟨b189, h⟩ := j_ifn h
            by_cases c190 : ((z170.2.2.1 18) (z170.1).toNatClampNeg) = 0
            · rw [if_pos c190] at h
              by_cases c195 : (3 : Int32) < x1
              · rw [if_pos c195] at h
                exact EqX.tr (EqX.tr EqX.rf (EqX.mono (x_Model_next hz170) (by decide) (by decide) (by decide))) (G205 (m_Model_readTable_156 n  k) ih x1 x2 x5 z170.1 z170.2 h)
              · rw [if_neg c195] at h
                by_cases c202 : (12 : Int32) ≤ z170.1
                · rw [if_pos c202] at h
                  exact EqX.tr (EqX.tr EqX.rf (EqX.mono (x_Model_next hz170) (by decide) (by decide) (by decide))) (G209 (m_Model_readTable_156 n  k) ih x1 x2 x5 z170.1 z170.2 h)
                · rw [if_neg c202] at h
                  exact EqX.tr (EqX.tr EqX.rf (EqX.mono (x_Model_next hz170) (by decide) (by decide) (by decide))) (G205 (m_Model_readTable_156 n  k) ih x1 x2 x5 z170.1 z170.2 h)
            · rw [if_neg c190] at h
              exact EqX.tr (EqX.tr EqX.rf (EqX.mono (x_Model_next hz170) (by decide) (by decide) (by decide))) (G209 (m_Model_readTable_156 n  k) ih x1 x2 x5 z170.1 z170.2 h)
        · rw [if_neg c166] at h
          exact EqX.tr EqX.rf (G242  x1 x2 t h)
  have G131 : ∀ (k : Nat) (x1 : Int32) (x2 : Int32) (x5 : Int32) (t : St), m_Model_readTable_131 n  k x1 x2 x5 t = some z → EqX [2, 3, 4] [8, 9, 10, 11, 18] [] t z := by
    intro k
    induction k with
    | zero => intro x1 x2 x5 t h; exact absurd (show none = some z from h) (by simp)
    | succ k ih =>
      intro x1 x2 x5 t h
      change m_Model_readTable_131b n  (m_Model_readTable_131 n  k) x1 x2 x5 t = some z at h
      unfold m_Model_readTable_131b at h
      by_cases c136 : (256 : Int32) ≤ x5
      · rw [if_pos c136] at h
        exact EqX.tr EqX.rf (G156  n x1 x2 (0 : Int32) t h)
      · rw [if_neg c136] at h
        obtain ⟨b146, h⟩ := j_ifn h
        exact EqX.tr (EqX.h EqX.rf (by decide)) (ih x1 x2 (x5 + 1) (sH t 18 (x5).toNatClampNeg (vp_nar .boolean (0 : Int32))) h)
  have G128 : ∀ (x1 : Int32) (x2 : Int32) (t : St), m_Model_readTable_128 n  x1 x2 t = some z → EqX [2, 3, 4] [8, 9, 10, 11, 18] [] t z := by
    intro x1 x2 t h
    unfold m_Model_readTable_128 at h
    exact EqX.tr EqX.rf (G131  n x1 x2 (0 : Int32) t h)
  have G119 : ∀ (K7 : Int32 → Int32 → Int64 → Int32 → St → Option (St)) (hK7 : ∀ (x1 : Int32) (x2 : Int32) (x3 : Int64) (x5 : Int32) (t : St), K7 x1 x2 x3 x5 t = some z → EqX [2, 3, 4] [8, 9, 10, 11, 18] [] t z) (x1 : Int32) (x2 : Int32) (x3 : Int64) (x5 : Int32) (y1 : Int32) (t : St), m_Model_readTable_119 n K7 x1 x2 x3 x5 y1 t = some z → EqX [2, 3, 4] [8, 9, 10, 11, 18] [] t z := by
    intro K7 hK7 x1 x2 x3 x5 y1 t h
    unfold m_Model_readTable_119 at h
    obtain ⟨z119, hz119, h⟩ := j_bind h
    exact EqX.tr (EqX.tr EqX.rf (EqX.mono (x_Model_must hz119) (by decide) (by decide) (by decide))) (hK7 x1 x2 x3 (x5 + 1) z119 h)
  have G114 : ∀ (K7 : Int32 → Int32 → Int64 → Int32 → St → Option (St)) (hK7 : ∀ (x1 : Int32) (x2 : Int32) (x3 : Int64) (x5 : Int32) (t : St), K7 x1 x2 x3 x5 t = some z → EqX [2, 3, 4] [8, 9, 10, 11, 18] [] t z) (x1 : Int32) (x2 : Int32) (x3 : Int64) (x5 : Int32) (t : St), m_Model_readTable_114 n K7 x1 x2 x3 x5 t = some z → EqX [2, 3, 4] [8, 9, 10, 11, 18] [] t z := by
    intro K7 hK7 x1 x2 x3 x5 t h
    unfold m_Model_readTable_114 at h
    exact EqX.tr EqX.rf (G119 K7 hK7 x1 x2 x3 x5 (1 : Int32) t h)
  have G92 : ∀ (K7 : Int32 → Int32 → Int64 → Int32 → St → Option (St)) (hK7 : ∀ (x1 : Int32) (x2 : Int32) (x3 : Int64) (x5 : Int32) (t : St), K7 x1 x2 x3 x5 t = some z → EqX [2, 3, 4] [8, 9, 10, 11, 18] [] t z) (x1 : Int32) (x2 : Int32) (x3 : Int64) (x5 : Int32) (y1 : Int32) (t : St), m_Model_readTable_92 n K7 x1 x2 x3 x5 y1 t = some z → EqX [2, 3, 4] [8, 9, 10, 11, 18] [] t z := by
    intro K7 hK7 x1 x2 x3 x5 y1 t h
    unfold m_Model_readTable_92 at h
    obtain ⟨z92, hz92, h⟩ := j_bind h
    by_cases c100 : 0 < (z92.1 2)
    · rw [if_pos c100] at h
      exact EqX.tr (EqX.tr EqX.rf (EqX.mono (x_Model_must hz92) (by decide) (by decide) (by decide))) (G114 K7 hK7 x1 x2 x3 x5 z92 h)
    · rw [if_neg c100] at h
      by_cases c107 : x5 < (16 : Int32)
      · rw [if_pos c107] at h
        exact EqX.tr (EqX.tr EqX.rf (EqX.mono (x_Model_must hz92) (by decide) (by decide) (by decide))) (G114 K7 hK7 x1 x2 x3 x5 z92 h)
      · rw [if_neg c107] at h
        by_cases c111 : x2 ≤ 0
        · rw [if_pos c111] at h
          exact EqX.tr (EqX.tr EqX.rf (EqX.mono (x_Model_must hz92) (by decide) (by decide) (by decide))) (G119 K7 hK7 x1 x2 x3 x5 (0 : Int32) z92 h)
        · rw [if_neg c111] at h
          exact EqX.tr (EqX.tr EqX.rf (EqX.mono (x_Model_must hz92) (by decide) (by decide) (by decide))) (G114 K7 hK7 x1 x2 x3 x5 z92 h)
  have G87 : ∀ (K7 : Int32 → Int32 → Int64 → Int32 → St → Option (St)) (hK7 : ∀ (x1 : Int32) (x2 : Int32) (x3 : Int64) (x5 : Int32) (t : St), K7 x1 x2 x3 x5 t = some z → EqX [2, 3, 4] [8, 9, 10, 11, 18] [] t z) (x1 : Int32) (x2 : Int32) (x3 : Int64) (x5 : Int32) (t : St), m_Model_readTable_87 n K7 x1 x2 x3 x5 t = some z → EqX [2, 3, 4] [8, 9, 10, 11, 18] [] t z := by
    intro K7 hK7 x1 x2 x3 x5 t h
    unfold m_Model_readTable_87 at h
    exact EqX.tr EqX.rf (G92 K7 hK7 x1 x2 x3 x5 (1 : Int32) t h)
  have G91 : ∀ (K7 : Int32 → Int32 → Int64 → Int32 → St → Option (St)) (hK7 : ∀ (x1 : Int32) (x2 : Int32) (x3 : Int64) (x5 : Int32) (t : St), K7 x1 x2 x3 x5 t = some z → EqX [2, 3, 4] [8, 9, 10, 11, 18] [] t z) (x1 : Int32) (x2 : Int32) (x3 : Int64) (x5 : Int32) (t : St), m_Model_readTable_91 n K7 x1 x2 x3 x5 t = some z → EqX [2, 3, 4] [8, 9, 10, 11, 18] [] t z := by
    intro K7 hK7 x1 x2 x3 x5 t h
    unfold m_Model_readTable_91 at h
    exact EqX.tr EqX.rf (G92 K7 hK7 x1 x2 x3 x5 (0 : Int32) t h)
  have G7 : ∀ (k : Nat) (x1 : Int32) (x2 : Int32) (x3 : Int64) (x5 : Int32) (t : St), m_Model_readTable_7 n  k x1 x2 x3 x5 t = some z → EqX [2, 3, 4] [8, 9, 10, 11, 18] [] t z := by
    intro k
    induction k with
    | zero => intro x1 x2 x3 x5 t h; exact absurd (show none = some z from h) (by simp)
    | succ k ih =>
      intro x1 x2 x3 x5 t h
      change m_Model_readTable_7b n  (m_Model_readTable_7 n  k) x1 x2 x3 x5 t = some z at h
      unfold m_Model_readTable_7b at h
      by_cases c11 : (16 : Int32) < x5
      · rw [if_pos c11] at h
        exact EqX.tr EqX.rf (G128  x1 x2 t h)
      · rw [if_neg c11] at h
        by_cases c18 : (t.1 2) = 0
        · rw [if_pos c18] at h
          obtain ⟨z22, hz22, h⟩ := j_bind h
          obtain ⟨b40, h⟩ := j_ifn h
          by_cases c61 : 0 < (z22.2.1 2)
          · rw [if_pos c61] at h
            exact EqX.tr (EqX.h (EqX.tr EqX.rf (EqX.mono (x_Model_next hz22) (by decide) (by decide) (by decide))) (by decide)) (G87 (m_Model_readTable_7 n  k) ih x1 (x2 + z22.1) (((2 : Int64) * x3) + (z22.1).toInt64) x5 (sH z22.2 9 ((((17 : Int32) * x1) + x5)).toNatClampNeg z22.1) h)
          · rw [if_neg c61] at h
            by_cases c68 : (256 : Int32) < (x2 + z22.1)
            · rw [if_pos c68] at h
              exact EqX.tr (EqX.h (EqX.tr EqX.rf (EqX.mono (x_Model_next hz22) (by decide) (by decide) (by decide))) (by decide)) (G91 (m_Model_readTable_7 n  k) ih x1 (x2 + z22.1) (((2 : Int64) * x3) + (z22.1).toInt64) x5 (sH z22.2 9 ((((17 : Int32) * x1) + x5)).toNatClampNeg z22.1) h)
            · rw [if_neg c68] at h
              by_cases c73 : z22.1 = 0
              · rw [if_pos c73] at h
                exact EqX.tr (EqX.h (EqX.tr EqX.rf (EqX.mono (x_Model_next hz22) (by decide) (by decide) (by decide))) (by decide)) (G87 (m_Model_readTable_7 n  k) ih x1 (x2 + z22.1) (((2 : Int64) * x3) + (z22.1).toInt64) x5 (sH z22.2 9 ((((17 : Int32) * x1) + x5)).toNatClampNeg z22.1) h)
              · rw [if_neg c73] at h
                by_cases c84 : 0 < (lg_cmp (((2 : Int64) * x3) + (z22.1).toInt64) (((1 : Int64) <<< ((x5).toInt64 &&& 63)) - (1 : Int64)))
                · rw [if_pos c84] at h
                  exact EqX.tr (EqX.h (EqX.tr EqX.rf (EqX.mono (x_Model_next hz22) (by decide) (by decide) (by decide))) (by decide)) (G91 (m_Model_readTable_7 n  k) ih x1 (x2 + z22.1) (((2 : Int64) * x3) + (z22.1).toInt64) x5 (sH z22.2 9 ((((17 : Int32) * x1) + x5)).toNatClampNeg z22.1) h)
                · rw [if_neg c84] at h
                  exact EqX.tr (EqX.h (EqX.tr EqX.rf (EqX.mono (x_Model_next hz22) (by decide) (by decide) (by decide))) (by decide)) (G87 (m_Model_readTable_7 n  k) ih x1 (x2 + z22.1) (((2 : Int64) * x3) + (z22.1).toInt64) x5 (sH z22.2 9 ((((17 : Int32) * x1) + x5)).toNatClampNeg z22.1) h)
        · rw [if_neg c18] at h
          exact EqX.tr EqX.rf (G128  x1 x2 t h)
  unfold m_Model_readTable at h
  exact EqX.tr EqX.rf (G7  n x1 (0 : Int32) (0 : Int64) (1 : Int32) t h)
theorem x_Model_readWords {n : Nat}  {t : St} {z : St} (h : m_Model_readWords n t = some z) : EqX [2, 3, 4] [8, 9, 10, 11, 18] [] t z := by
  have G93 : ∀ (K2 : Int32 → St → Option (St)) (hK2 : ∀ (x1 : Int32) (t : St), K2 x1 t = some z → EqX [2, 3, 4] [8, 9, 10, 11, 18] [] t z) (y0 : Int32) (t : St), m_Model_readWords_93 n K2 y0 t = some z → EqX [2, 3, 4] [8, 9, 10, 11, 18] [] t z := by
    intro K2 hK2 y0 t h
    unfold m_Model_readWords_93 at h
    exact EqX.tr EqX.rf (hK2 y0 t h)
  have G77 : ∀ (K2 : Int32 → St → Option (St)) (hK2 : ∀ (x1 : Int32) (t : St), K2 x1 t = some z → EqX [2, 3, 4] [8, 9, 10, 11, 18] [] t z)  (t : St), m_Model_readWords_77 n K2  t = some z → EqX [2, 3, 4] [8, 9, 10, 11, 18] [] t z := by
    intro K2 hK2  t h
    unfold m_Model_readWords_77 at h
    by_cases c85 : (t.1 5) ≤ (t.1 4)
    · rw [if_pos c85] at h
      exact EqX.tr EqX.rf (G93 K2 hK2 (0 : Int32) t h)
    · rw [if_neg c85] at h
      exact EqX.tr EqX.rf (G93 K2 hK2 (1 : Int32) t h)
  have G64 : ∀ (K2 : Int32 → St → Option (St)) (hK2 : ∀ (x1 : Int32) (t : St), K2 x1 t = some z → EqX [2, 3, 4] [8, 9, 10, 11, 18] [] t z) (y0 : Int32) (t : St), m_Model_readWords_64 n K2 y0 t = some z → EqX [2, 3, 4] [8, 9, 10, 11, 18] [] t z := by
    intro K2 hK2 y0 t h
    unfold m_Model_readWords_64 at h
    by_cases c69 : (t.1 2) = 0
    · rw [if_pos c69] at h
      obtain ⟨z74, hz74, h⟩ := j_bind h
      exact EqX.tr (EqX.tr EqX.rf (EqX.mono (x_Model_readTable hz74) (by decide) (by decide) (by decide))) (G77 K2 hK2 z74 h)
    · rw [if_neg c69] at h
      exact EqX.tr EqX.rf (G77 K2 hK2 t h)
  have G48 : ∀ (K2 : Int32 → St → Option (St)) (hK2 : ∀ (x1 : Int32) (t : St), K2 x1 t = some z → EqX [2, 3, 4] [8, 9, 10, 11, 18] [] t z) (x2 : Int32) (y1 : Int32) (t : St), m_Model_readWords_48 n K2 x2 y1 t = some z → EqX [2, 3, 4] [8, 9, 10, 11, 18] [] t z := by
    intro K2 hK2 x2 y1 t h
    unfold m_Model_readWords_48 at h
    obtain ⟨z48, hz48, h⟩ := j_bind h
    by_cases c53 : (4 : Int32) ≤ x2
    · rw [if_pos c53] at h
      exact EqX.tr (EqX.tr EqX.rf (EqX.mono (x_Model_must hz48) (by decide) (by decide) (by decide))) (G64 K2 hK2 (x2 - (12 : Int32)) z48 h)
    · rw [if_neg c53] at h
      exact EqX.tr (EqX.tr EqX.rf (EqX.mono (x_Model_must hz48) (by decide) (by decide) (by decide))) (G64 K2 hK2 x2 z48 h)
  have G43 : ∀ (K2 : Int32 → St → Option (St)) (hK2 : ∀ (x1 : Int32) (t : St), K2 x1 t = some z → EqX [2, 3, 4] [8, 9, 10, 11, 18] [] t z) (x2 : Int32) (t : St), m_Model_readWords_43 n K2 x2 t = some z → EqX [2, 3, 4] [8, 9, 10, 11, 18] [] t z := by
    intro K2 hK2 x2 t h
    unfold m_Model_readWords_43 at h
    exact EqX.tr EqX.rf (G48 K2 hK2 x2 (1 : Int32) t h)
  have G47 : ∀ (K2 : Int32 → St → Option (St)) (hK2 : ∀ (x1 : Int32) (t : St), K2 x1 t = some z → EqX [2, 3, 4] [8, 9, 10, 11, 18] [] t z) (x2 : Int32) (t : St), m_Model_readWords_47 n K2 x2 t = some z → EqX [2, 3, 4] [8, 9, 10, 11, 18] [] t z := by
    intro K2 hK2 x2 t h
    unfold m_Model_readWords_47 at h
    exact EqX.tr EqX.rf (G48 K2 hK2 x2 (0 : Int32) t h)
  have G2 : ∀ (k : Nat) (x1 : Int32) (t : St), m_Model_readWords_2 n  k x1 t = some z → EqX [2, 3, 4] [8, 9, 10, 11, 18] [] t z := by
    intro k
    induction k with
    | zero => intro x1 t h; exact absurd (show none = some z from h) (by simp)
    | succ k ih =>
      intro x1 t h
      change m_Model_readWords_2b n  (m_Model_readWords_2 n  k) x1 t = some z at h
      unfold m_Model_readWords_2b at h
      by_cases c3 : x1 = 0
      · rw [if_pos c3] at h
        exact EqX.cast EqX.rf (j_s h)
      · rw [if_neg c3] at h
        by_cases c10 : (t.1 2) = 0
        · rw [if_pos c10] at h
          obtain ⟨z14, hz14, h⟩ := j_bind h
          by_cases c23 : 0 < (z14.2.1 2)
          · rw [if_pos c23] at h
            exact EqX.tr (EqX.tr EqX.rf (EqX.mono (x_Model_next hz14) (by decide) (by decide) (by decide))) (G43 (m_Model_readWords_2 n  k) ih z14.1 z14.2 h)
          · rw [if_neg c23] at h
            by_cases c28 : z14.1 < (4 : Int32)
            · rw [if_pos c28] at h
              exact EqX.tr (EqX.tr EqX.rf (EqX.mono (x_Model_next hz14) (by decide) (by decide) (by decide))) (G43 (m_Model_readWords_2 n  k) ih z14.1 z14.2 h)
            · rw [if_neg c28] at h
              by_cases c34 : z14.1 < (16 : Int32)
              · rw [if_pos c34] at h
                exact EqX.tr (EqX.tr EqX.rf (EqX.mono (x_Model_next hz14) (by decide) (by decide) (by decide))) (G47 (m_Model_readWords_2 n  k) ih z14.1 z14.2 h)
              · rw [if_neg c34] at h
                by_cases c40 : (20 : Int32) ≤ z14.1
                · rw [if_pos c40] at h
                  exact EqX.tr (EqX.tr EqX.rf (EqX.mono (x_Model_next hz14) (by decide) (by decide) (by decide))) (G47 (m_Model_readWords_2 n  k) ih z14.1 z14.2 h)
                · rw [if_neg c40] at h
                  exact EqX.tr (EqX.tr EqX.rf (EqX.mono (x_Model_next hz14) (by decide) (by decide) (by decide))) (G43 (m_Model_readWords_2 n  k) ih z14.1 z14.2 h)
        · rw [if_neg c10] at h
          exact EqX.cast EqX.rf (j_s h)
  unfold m_Model_readWords at h
  exact EqX.tr EqX.rf (G2  n (1 : Int32) t h)
theorem x_Model_readFrame {n : Nat} {x1 : Int32} {t : St} {z : St} (h : m_Model_readFrame n x1 t = some z) : EqX [2, 3, 4, 9, 10, 11, 12] [2, 3, 4, 5] [] t z := by
  have G345 : ∀ (x1 : Int32) (x2 : Int32) (t : St), m_Model_readFrame_345 n  x1 x2 t = some z → EqX [2, 3, 4, 9, 10, 11, 12] [2, 3, 4, 5] [] t z := by
    intro x1 x2 t h
    unfold m_Model_readFrame_345 at h
    exact EqX.cast (EqX.g (EqX.g EqX.rf (by decide)) (by decide)) (j_s h)
  have G336 : ∀ (K130 : Int32 → Int32 → Int32 → St → Option (St)) (hK130 : ∀ (x1 : Int32) (x2 : Int32) (x3 : Int32) (t : St), K130 x1 x2 x3 t = some z → EqX [2, 3, 4, 9, 10, 11, 12] [2, 3, 4, 5] [] t z) (x1 : Int32) (x2 : Int32) (x3 : Int32) (y1 : Int32) (t : St), m_Model_readFrame_336 n K130 x1 x2 x3 y1 t = some z → EqX [2, 3, 4, 9, 10, 11, 12] [2, 3, 4, 5] [] t z := by
    intro K130 hK130 x1 x2 x3 y1 t h
    unfold m_Model_readFrame_336 at h
    obtain ⟨z336, hz336, h⟩ := j_bind h
    exact EqX.tr (EqX.tr EqX.rf (EqX.mono (x_Model_must hz336) (by decide) (by decide) (by decide))) (hK130 x1 x2 (x3 + 1) z336 h)
  have G331 : ∀ (K130 : Int32 → Int32 → Int32 → St → Option (St)) (hK130 : ∀ (x1 : Int32) (x2 : Int32) (x3 : Int32) (t : St), K130 x1 x2 x3 t = some z → EqX [2, 3, 4, 9, 10, 11, 12] [2, 3, 4, 5] [] t z) (x1 : Int32) (x2 : Int32) (x3 : Int32) (t : St), m_Model_readFrame_331 n K130 x1 x2 x3 t = some z → EqX [2, 3, 4, 9, 10, 11, 12] [2, 3, 4, 5] [] t z := by
    intro K130 hK130 x1 x2 x3 t h
    unfold m_Model_readFrame_331 at h
    exact EqX.tr EqX.rf (G336 K130 hK130 x1 x2 x3 (1 : Int32) t h)
  have G300 : ∀ (K130 : Int32 → Int32 → Int32 → St → Option (St)) (hK130 : ∀ (x1 : Int32) (x2 : Int32) (x3 : Int32) (t : St), K130 x1 x2 x3 t = some z → EqX [2, 3, 4, 9, 10, 11, 12] [2, 3, 4, 5] [] t z) (x1 : Int32) (x2 : Int32) (x3 : Int32) (y1 : Int32) (t : St), m_Model_readFrame_300 n K130 x1 x2 x3 y1 t = some z → EqX [2, 3, 4, 9, 10, 11, 12] [2, 3, 4, 5] [] t z := by
    intro K130 hK130 x1 x2 x3 y1 t h
    unfold m_Model_readFrame_300 at h
    obtain ⟨z300, hz300, h⟩ := j_bind h
    obtain ⟨z309, hz309, h⟩ := j_bind h
    obtain ⟨b312, h⟩ := j_ifn h
    by_cases c318 : 0 < (z309.2.1 2)
    · rw [if_pos c318] at h
      exact EqX.tr (EqX.h (EqX.tr (EqX.tr EqX.rf (EqX.mono (x_Model_must hz300) (by decide) (by decide) (by decide))) (EqX.mono (x_Model_next hz309) (by decide) (by decide) (by decide))) (by decide)) (G331 K130 hK130 x1 x2 x3 (sH z309.2 5 (x3).toNatClampNeg z309.1) h)
    · rw [if_neg c318] at h
      obtain ⟨b326, h⟩ := j_ifn h
      by_cases c328 : (4 : Int32) ≤ (((sH z309.2 5 (x3).toNatClampNeg z309.1).2.1 5) (x3).toNatClampNeg)
      · rw [if_pos c328] at h
        exact EqX.tr (EqX.h (EqX.tr (EqX.tr EqX.rf (EqX.mono (x_Model_must hz300) (by decide) (by decide) (by decide))) (EqX.mono (x_Model_next hz309) (by decide) (by decide) (by decide))) (by decide)) (G336 K130 hK130 x1 x2 x3 (0 : Int32) (sH z309.2 5 (x3).toNatClampNeg z309.1) h)
      · rw [if_neg c328] at h
        exact EqX.tr (EqX.h (EqX.tr (EqX.tr EqX.rf (EqX.mono (x_Model_must hz300) (by decide) (by decide) (by decide))) (EqX.mono (x_Model_next hz309) (by decide) (by decide) (by decide))) (by decide)) (G331 K130 hK130 x1 x2 x3 (sH z309.2 5 (x3).toNatClampNeg z309.1) h)
  have G295 : ∀ (K130 : Int32 → Int32 → Int32 → St → Option (St)) (hK130 : ∀ (x1 : Int32) (x2 : Int32) (x3 : Int32) (t : St), K130 x1 x2 x3 t = some z → EqX [2, 3, 4, 9, 10, 11, 12] [2, 3, 4, 5] [] t z) (x1 : Int32) (x2 : Int32) (x3 : Int32) (t : St), m_Model_readFrame_295 n K130 x1 x2 x3 t = some z → EqX [2, 3, 4, 9, 10, 11, 12] [2, 3, 4, 5] [] t z := by
    intro K130 hK130 x1 x2 x3 t h
    unfold m_Model_readFrame_295 at h
    exact EqX.tr EqX.rf (G300 K130 hK130 x1 x2 x3 (1 : Int32) t h)
  have G299 : ∀ (K130 : Int32 → Int32 → Int32 → St → Option (St)) (hK130 : ∀ (x1 : Int32) (x2 : Int32) (x3 : Int32) (t : St), K130 x1 x2 x3 t = some z → EqX [2, 3, 4, 9, 10, 11, 12] [2, 3, 4, 5] [] t z) (x1 : Int32) (x2 : Int32) (x3 : Int32) (t : St), m_Model_readFrame_299 n K130 x1 x2 x3 t = some z → EqX [2, 3, 4, 9, 10, 11, 12] [2, 3, 4, 5] [] t z := by
    intro K130 hK130 x1 x2 x3 t h
    unfold m_Model_readFrame_299 at h
    exact EqX.tr EqX.rf (G300 K130 hK130 x1 x2 x3 (0 : Int32) t h)
  have G216 : ∀ (K130 : Int32 → Int32 → Int32 → St → Option (St)) (hK130 : ∀ (x1 : Int32) (x2 : Int32) (x3 : Int32) (t : St), K130 x1 x2 x3 t = some z → EqX [2, 3, 4, 9, 10, 11, 12] [2, 3, 4, 5] [] t z) (x1 : Int32) (x2 : Int32) (x3 : Int32) (y1 : Int32) (t : St), m_Model_readFrame_216 n K130 x1 x2 x3 y1 t = some z → EqX [2, 3, 4, 9, 10, 11, 12] [2, 3, 4, 5] [] t z := by
    intro K130 hK130 x1 x2 x3 y1 t h
    unfold m_Model_readFrame_216 at h
    obtain ⟨z216, hz216, h⟩ := j_bind h
    obtain ⟨z220, hz220, h⟩ := j_bind h
    obtain ⟨b235, h⟩ := j_ifn h
    obtain ⟨w246, hw246, h⟩ := j_bind h
    obtain ⟨b246, h⟩ := j_ifn h
    by_cases c252 : 0 < (w246.1 2)
    · rw [if_pos c252] at h
      exact EqX.tr (EqX.h (EqX.cast (EqX.h (EqX.tr (EqX.tr EqX.rf (EqX.mono (x_Model_must hz216) (by decide) (by decide) (by decide))) (EqX.mono (x_Model_next hz220) (by decide) (by decide) (by decide))) (by decide)) (j_s hw246)) (by decide)) (G295 K130 hK130 x1 x2 x3 (sH w246 4 (x3).toNatClampNeg (z220.1 - z220.1 / (16 : Int32) * (16 : Int32))) h)
    · rw [if_neg c252] at h
      obtain ⟨b260, h⟩ := j_ifn h
      by_cases c262 : ((w246.2.1 3) (x3).toNatClampNeg) < (1 : Int32)
      · rw [if_pos c262] at h
        exact EqX.tr (EqX.h (EqX.cast (EqX.h (EqX.tr (EqX.tr EqX.rf (EqX.mono (x_Model_must hz216) (by decide) (by decide) (by decide))) (EqX.mono (x_Model_next hz220) (by decide) (by decide) (by decide))) (by decide)) (j_s hw246)) (by decide)) (G299 K130 hK130 x1 x2 x3 (sH w246 4 (x3).toNatClampNeg (z220.1 - z220.1 / (16 : Int32) * (16 : Int32))) h)
      · rw [if_neg c262] at h
        obtain ⟨b270, h⟩ := j_ifn h
        by_cases c272 : (2 : Int32) < ((w246.2.1 3) (x3).toNatClampNeg)
        · rw [if_pos c272] at h
          exact EqX.tr (EqX.h (EqX.cast (EqX.h (EqX.tr (EqX.tr EqX.rf (EqX.mono (x_Model_must hz216) (by decide) (by decide) (by decide))) (EqX.mono (x_Model_next hz220) (by decide) (by decide) (by decide))) (by decide)) (j_s hw246)) (by decide)) (G299 K130 hK130 x1 x2 x3 (sH w246 4 (x3).toNatClampNeg (z220.1 - z220.1 / (16 : Int32) * (16 : Int32))) h)
        · rw [if_neg c272] at h
          obtain ⟨b280, h⟩ := j_ifn h
          by_cases c282 : (((sH w246 4 (x3).toNatClampNeg (z220.1 - z220.1 / (16 : Int32) * (16 : Int32))).2.1 4) (x3).toNatClampNeg) < (1 : Int32)
          · rw [if_pos c282] at h
            exact EqX.tr (EqX.h (EqX.cast (EqX.h (EqX.tr (EqX.tr EqX.rf (EqX.mono (x_Model_must hz216) (by decide) (by decide) (by decide))) (EqX.mono (x_Model_next hz220) (by decide) (by decide) (by decide))) (by decide)) (j_s hw246)) (by decide)) (G299 K130 hK130 x1 x2 x3 (sH w246 4 (x3).toNatClampNeg (z220.1 - z220.1 / (16 : Int32) * (16 : Int32))) h)
          · rw [if_neg c282] at h
            obtain ⟨b290, h⟩ := j_ifn h
            by_cases c292 : (2 : Int32) < (((sH w246 4 (x3).toNatClampNeg (z220.1 - z220.1 / (16 : Int32) * (16 : Int32))).2.1 4) (x3).toNatClampNeg)
            · rw [if_pos c292] at h
              exact EqX.tr (EqX.h (EqX.cast (EqX.h (EqX.tr (EqX.tr EqX.rf (EqX.mono (x_Model_must hz216) (by decide) (by decide) (by decide))) (EqX.mono (x_Model_next hz220) (by decide) (by decide) (by decide))) (by decide)) (j_s hw246)) (by decide)) (G299 K130 hK130 x1 x2 x3 (sH w246 4 (x3).toNatClampNeg (z220.1 - z220.1 / (16 : Int32) * (16 : Int32))) h)
            · rw [if_neg c292] at h
              exact EqX.tr (EqX.h (EqX.cast (EqX.h (EqX.tr (EqX.tr EqX.rf (EqX.mono (x_Model_must hz216) (by decide) (by decide) (by decide))) (EqX.mono (x_Model_next hz220) (by decide) (by decide) (by decide))) (by decide)) (j_s hw246)) (by decide)) (G295 K130 hK130 x1 x2 x3 (sH w246 4 (x3).toNatClampNeg (z220.1 - z220.1 / (16 : Int32) * (16 : Int32))) h)
  have G211 : ∀ (K130 : Int32 → Int32 → Int32 → St → Option (St)) (hK130 : ∀ (x1 : Int32) (x2 : Int32) (x3 : Int32) (t : St), K130 x1 x2 x3 t = some z → EqX [2, 3, 4, 9, 10, 11, 12] [2, 3, 4, 5] [] t z) (x1 : Int32) (x2 : Int32) (x3 : Int32) (t : St), m_Model_readFrame_211 n K130 x1 x2 x3 t = some z → EqX [2, 3, 4, 9, 10, 11, 12] [2, 3, 4, 5] [] t z := by
    intro K130 hK130 x1 x2 x3 t h
    unfold m_Model_readFrame_211 at h
    exact EqX.tr EqX.rf (G216 K130 hK130 x1 x2 x3 (1 : Int32) t h)
  have G190 : ∀ (K130 : Int32 → Int32 → Int32 → St → Option (St)) (hK130 : ∀ (x1 : Int32) (x2 : Int32) (x3 : Int32) (t : St), K130 x1 x2 x3 t = some z → EqX [2, 3, 4, 9, 10, 11, 12] [2, 3, 4, 5] [] t z) (K158 : Int32 → Int32 → Int32 → Int32 → Int32 → St → Option (St)) (hK158 : ∀ (x1 : Int32) (x2 : Int32) (x3 : Int32) (x4 : Int32) (x5 : Int32) (t : St), K158 x1 x2 x3 x4 x5 t = some z → EqX [2, 3, 4, 9, 10, 11, 12] [2, 3, 4, 5] [] t z) (x1 : Int32) (x2 : Int32) (x3 : Int32) (x5 : Int32) (y0 : Int32) (t : St), m_Model_readFrame_190 n K130 K158 x1 x2 x3 x5 y0 t = some z → EqX [2, 3, 4, 9, 10, 11, 12] [2, 3, 4, 5] [] t z := by
    intro K130 hK130 K158 hK158 x1 x2 x3 x5 y0 t h
    unfold m_Model_readFrame_190 at h
    exact EqX.tr EqX.rf (hK158 x1 x2 x3 y0 (x5 + 1) t h)
  have G185 : ∀ (K130 : Int32 → Int32 → Int32 → St → Option (St)) (hK130 : ∀ (x1 : Int32) (x2 : Int32) (x3 : Int32) (t : St), K130 x1 x2 x3 t = some z → EqX [2, 3, 4, 9, 10, 11, 12] [2, 3, 4, 5] [] t z) (K158 : Int32 → Int32 → Int32 → Int32 → Int32 → St → Option (St)) (hK158 : ∀ (x1 : Int32) (x2 : Int32) (x3 : Int32) (x4 : Int32) (x5 : Int32) (t : St), K158 x1 x2 x3 x4 x5 t = some z → EqX [2, 3, 4, 9, 10, 11, 12] [2, 3, 4, 5] [] t z) (x1 : Int32) (x2 : Int32) (x3 : Int32) (x5 : Int32) (t : St), m_Model_readFrame_185 n K130 K158 x1 x2 x3 x5 t = some z → EqX [2, 3, 4, 9, 10, 11, 12] [2, 3, 4, 5] [] t z := by
    intro K130 hK130 K158 hK158 x1 x2 x3 x5 t h
    unfold m_Model_readFrame_185 at h
    exact EqX.tr EqX.rf (G190 K130 hK130 K158 hK158 x1 x2 x3 x5 (1 : Int32) t h)
  have G158 : ∀ (K130 : Int32 → Int32 → Int32 → St → Option (St)) (hK130 : ∀ (x1 : Int32) (x2 : Int32) (x3 : Int32) (t : St), K130 x1 x2 x3 t = some z → EqX [2, 3, 4, 9, 10, 11, 12] [2, 3, 4, 5] [] t z) (k : Nat) (x1 : Int32) (x2 : Int32) (x3 : Int32) (x4 : Int32) (x5 : Int32) (t : St), m_Model_readFrame_158 n K130 k x1 x2 x3 x4 x5 t = some z → EqX [2, 3, 4, 9, 10, 11, 12] [2, 3, 4, 5] [] t z := by
    intro K130 hK130 k
    induction k with
    | zero => intro x1 x2 x3 x4 x5 t h; exact absurd (show none = some z from h) (by simp)
    | succ k ih =>
      intro x1 x2 x3 x4 x5 t h
      change m_Model_readFrame_158b n K130 (m_Model_readFrame_158 n K130 k) x1 x2 x3 x4 x5 t = some z at h
      unfold m_Model_readFrame_158b at h
      by_cases c161 : x3 ≤ x5
      · rw [if_pos c161] at h
        by_cases c203 : 0 < (t.1 2)
        · rw [if_pos c203] at h
          exact EqX.tr EqX.rf (G211 K130 hK130 x1 x2 x3 t h)
        · rw [if_neg c203] at h
          by_cases c208 : x4 = 0
          · rw [if_pos c208] at h
            exact EqX.tr EqX.rf (G211 K130 hK130 x1 x2 x3 t h)
          · rw [if_neg c208] at h
            exact EqX.tr EqX.rf (G216 K130 hK130 x1 x2 x3 (0 : Int32) t h)
      · rw [if_neg c161] at h
        by_cases c166 : x4 = 0
        · rw [if_pos c166] at h
          obtain ⟨b175, h⟩ := j_ifn h
          obtain ⟨b181, h⟩ := j_ifn h
          by_cases c182 : ((t.2.1 2) (x5).toNatClampNeg) = ((t.2.1 2) (x3).toNatClampNeg)
          · rw [if_pos c182] at h
            exact EqX.tr EqX.rf (G185 K130 hK130 (m_Model_readFrame_158 n K130 k) ih x1 x2 x3 x5 t h)
          · rw [if_neg c182] at h
            exact EqX.tr EqX.rf (G190 K130 hK130 (m_Model_readFrame_158 n K130 k) ih x1 x2 x3 x5 (0 : Int32) t h)
        · rw [if_neg c166] at h
          exact EqX.tr EqX.rf (G185 K130 hK130 (m_Model_readFrame_158 n K130 k) ih x1 x2 x3 x5 t h)
  have G130 : ∀ (k : Nat) (x1 : Int32) (x2 : Int32) (x3 : Int32) (t : St), m_Model_readFrame_130 n  k x1 x2 x3 t = some z → EqX [2, 3, 4, 9, 10, 11, 12] [2, 3, 4, 5] [] t z := by
    intro k
    induction k with
    | zero => intro x1 x2 x3 t h; exact absurd (show none = some z from h) (by simp)
    | succ k ih =>
      intro x1 x2 x3 t h
      change m_Model_readFrame_130b n  (m_Model_readFrame_130 n  k) x1 x2 x3 t = some z at h
      unfold m_Model_readFrame_130b at h
      by_cases c132 : x2 ≤ x3
      · rw [if_pos c132] at h
        exact EqX.tr EqX.rf (G345  x1 x2 t h)
      · rw [if_neg c132] at h
        by_cases c139 : (t.1 2) = 0
        · rw [if_pos c139] at h
          obtain ⟨z148, hz148, h⟩ := j_bind h
          obtain ⟨b151, h⟩ := j_ifn h
          exact EqX.tr (EqX.h (EqX.tr EqX.rf (EqX.mono (x_Model_next hz148) (by decide) (by decide) (by decide))) (by decide)) (G158 (m_Model_readFrame_130 n  k) ih n x1 x2 x3 (0 : Int32) (0 : Int32) (sH z148.2 2 (x3).toNatClampNeg z148.1) h)
        · rw [if_neg c139] at h
          exact EqX.tr EqX.rf (G345  x1 x2 t h)
  have G125 : ∀ (x1 : Int32) (x2 : Int32) (y1 : Int32) (t : St), m_Model_readFrame_125 n  x1 x2 y1 t = some z → EqX [2, 3, 4, 9, 10, 11, 12] [2, 3, 4, 5] [] t z := by
    intro x1 x2 y1 t h
    unfold m_Model_readFrame_125 at h
    obtain ⟨z125, hz125, h⟩ := j_bind h
    exact EqX.tr (EqX.tr EqX.rf (EqX.mono (x_Model_must hz125) (by decide) (by decide) (by decide))) (G130  n x1 x2 (0 : Int32) z125 h)
  have G120 : ∀ (x1 : Int32) (x2 : Int32) (t : St), m_Model_readFrame_120 n  x1 x2 t = some z → EqX [2, 3, 4, 9, 10, 11, 12] [2, 3, 4, 5] [] t z := by
    intro x1 x2 t h
    unfold m_Model_readFrame_120 at h
    exact EqX.tr EqX.rf (G125  x1 x2 (1 : Int32) t h)
  have G124 : ∀ (x1 : Int32) (x2 : Int32) (t : St), m_Model_readFrame_124 n  x1 x2 t = some z → EqX [2, 3, 4, 9, 10, 11, 12] [2, 3, 4, 5] [] t z := by
    intro x1 x2 t h
    unfold m_Model_readFrame_124 at h
    exact EqX.tr EqX.rf (G125  x1 x2 (0 : Int32) t h)
  have G95 : ∀ (x1 : Int32) (y1 : Int32) (t : St), m_Model_readFrame_95 n  x1 y1 t = some z → EqX [2, 3, 4, 9, 10, 11, 12] [2, 3, 4, 5] [] t z := by
    intro x1 y1 t h
    unfold m_Model_readFrame_95 at h
    obtain ⟨z95, hz95, h⟩ := j_bind h
    obtain ⟨z99, hz99, h⟩ := j_bind h
    by_cases c108 : 0 < (z99.2.1 2)
    · rw [if_pos c108] at h
      exact EqX.tr (EqX.tr (EqX.tr EqX.rf (EqX.mono (x_Model_must hz95) (by decide) (by decide) (by decide))) (EqX.mono (x_Model_next hz99) (by decide) (by decide) (by decide))) (G120  x1 z99.1 z99.2 h)
    · rw [if_neg c108] at h
      by_cases c112 : z99.1 ≤ 0
      · rw [if_pos c112] at h
        exact EqX.tr (EqX.tr (EqX.tr EqX.rf (EqX.mono (x_Model_must hz95) (by decide) (by decide) (by decide))) (EqX.mono (x_Model_next hz99) (by decide) (by decide) (by decide))) (G124  x1 z99.1 z99.2 h)
      · rw [if_neg c112] at h
        by_cases c117 : (5 : Int32) ≤ z99.1
        · rw [if_pos c117] at h
          exact EqX.tr (EqX.tr (EqX.tr EqX.rf (EqX.mono (x_Model_must hz95) (by decide) (by decide) (by decide))) (EqX.mono (x_Model_next hz99) (by decide) (by decide) (by decide))) (G124  x1 z99.1 z99.2 h)
        · rw [if_neg c117] at h
          exact EqX.tr (EqX.tr (EqX.tr EqX.rf (EqX.mono (x_Model_must hz95) (by decide) (by decide) (by decide))) (EqX.mono (x_Model_next hz99) (by decide) (by decide) (by decide))) (G120  x1 z99.1 z99.2 h)
  have G90 : ∀ (x1 : Int32) (t : St), m_Model_readFrame_90 n  x1 t = some z → EqX [2, 3, 4, 9, 10, 11, 12] [2, 3, 4, 5] [] t z := by
    intro x1 t h
    unfold m_Model_readFrame_90 at h
    exact EqX.tr EqX.rf (G95  x1 (1 : Int32) t h)
  have G94 : ∀ (x1 : Int32) (t : St), m_Model_readFrame_94 n  x1 t = some z → EqX [2, 3, 4, 9, 10, 11, 12] [2, 3, 4, 5] [] t z := by
    intro x1 t h
    unfold m_Model_readFrame_94 at h
    exact EqX.tr EqX.rf (G95  x1 (0 : Int32) t h)
  have G55 : ∀ (x1 : Int32) (y1 : Int32) (t : St), m_Model_readFrame_55 n  x1 y1 t = some z → EqX [2, 3, 4, 9, 10, 11, 12] [2, 3, 4, 5] [] t z := by
    intro x1 y1 t h
    unfold m_Model_readFrame_55 at h
    obtain ⟨z55, hz55, h⟩ := j_bind h
    obtain ⟨z60, hz60, h⟩ := j_bind h
    by_cases c71 : 0 < (z60.2.1 2)
    · rw [if_pos c71] at h
      exact EqX.tr (EqX.g (EqX.tr (EqX.tr EqX.rf (EqX.mono (x_Model_must hz55) (by decide) (by decide) (by decide))) (EqX.mono (x_Model_two hz60) (by decide) (by decide) (by decide))) (by decide)) (G90  x1 (sG z60.2 10 z60.1) h)
    · rw [if_neg c71] at h
      by_cases c78 : z60.1 ≤ 0
      · rw [if_pos c78] at h
        exact EqX.tr (EqX.g (EqX.tr (EqX.tr EqX.rf (EqX.mono (x_Model_must hz55) (by decide) (by decide) (by decide))) (EqX.mono (x_Model_two hz60) (by decide) (by decide) (by decide))) (by decide)) (G94  x1 (sG z60.2 10 z60.1) h)
      · rw [if_neg c78] at h
        by_cases c87 : (64 : Int32) < z60.1
        · rw [if_pos c87] at h
          exact EqX.tr (EqX.g (EqX.tr (EqX.tr EqX.rf (EqX.mono (x_Model_must hz55) (by decide) (by decide) (by decide))) (EqX.mono (x_Model_two hz60) (by decide) (by decide) (by decide))) (by decide)) (G94  x1 (sG z60.2 10 z60.1) h)
        · rw [if_neg c87] at h
          exact EqX.tr (EqX.g (EqX.tr (EqX.tr EqX.rf (EqX.mono (x_Model_must hz55) (by decide) (by decide) (by decide))) (EqX.mono (x_Model_two hz60) (by decide) (by decide) (by decide))) (by decide)) (G90  x1 (sG z60.2 10 z60.1) h)
  have G50 : ∀ (x1 : Int32) (t : St), m_Model_readFrame_50 n  x1 t = some z → EqX [2, 3, 4, 9, 10, 11, 12] [2, 3, 4, 5] [] t z := by
    intro x1 t h
    unfold m_Model_readFrame_50 at h
    exact EqX.tr EqX.rf (G55  x1 (1 : Int32) t h)
  have G22 : ∀ (x1 : Int32) (y1 : Int32) (t : St), m_Model_readFrame_22 n  x1 y1 t = some z → EqX [2, 3, 4, 9, 10, 11, 12] [2, 3, 4, 5] [] t z := by
    intro x1 y1 t h
    unfold m_Model_readFrame_22 at h
    obtain ⟨z22, hz22, h⟩ := j_bind h
    obtain ⟨z27, hz27, h⟩ := j_bind h
    by_cases c38 : 0 < (z27.2.1 2)
    · rw [if_pos c38] at h
      exact EqX.tr (EqX.g (EqX.tr (EqX.tr EqX.rf (EqX.mono (x_Model_must hz22) (by decide) (by decide) (by decide))) (EqX.mono (x_Model_two hz27) (by decide) (by decide) (by decide))) (by decide)) (G50  x1 (sG z27.2 11 z27.1) h)
    · rw [if_neg c38] at h
      by_cases c47 : (64 : Int32) < z27.1
      · rw [if_pos c47] at h
        exact EqX.tr (EqX.g (EqX.tr (EqX.tr EqX.rf (EqX.mono (x_Model_must hz22) (by decide) (by decide) (by decide))) (EqX.mono (x_Model_two hz27) (by decide) (by decide) (by decide))) (by decide)) (G55  x1 (0 : Int32) (sG z27.2 11 z27.1) h)
      · rw [if_neg c47] at h
        exact EqX.tr (EqX.g (EqX.tr (EqX.tr EqX.rf (EqX.mono (x_Model_must hz22) (by decide) (by decide) (by decide))) (EqX.mono (x_Model_two hz27) (by decide) (by decide) (by decide))) (by decide)) (G50  x1 (sG z27.2 11 z27.1) h)
  have G17 : ∀ (x1 : Int32) (t : St), m_Model_readFrame_17 n  x1 t = some z → EqX [2, 3, 4, 9, 10, 11, 12] [2, 3, 4, 5] [] t z := by
    intro x1 t h
    unfold m_Model_readFrame_17 at h
    exact EqX.tr EqX.rf (G22  x1 (1 : Int32) t h)
  unfold m_Model_readFrame at h
  obtain ⟨z2, hz2, h⟩ := j_bind h
  by_cases c7 : z2.1 = (8 : Int32)
  · rw [if_pos c7] at h
    exact EqX.tr (EqX.tr EqX.rf (EqX.mono (x_Model_next hz2) (by decide) (by decide) (by decide))) (G17  x1 z2.2 h)
  · rw [if_neg c7] at h
    by_cases c14 : (z2.2.1 2) ≤ 0
    · rw [if_pos c14] at h
      exact EqX.tr (EqX.tr EqX.rf (EqX.mono (x_Model_next hz2) (by decide) (by decide) (by decide))) (G22  x1 (0 : Int32) z2.2 h)
    · rw [if_neg c14] at h
      exact EqX.tr (EqX.tr EqX.rf (EqX.mono (x_Model_next hz2) (by decide) (by decide) (by decide))) (G17  x1 z2.2 h)
theorem x_Model_named {n : Nat} {x1 : Int32} {t : St} {z : Int32 × St} (h : m_Model_named n x1 t = some z) : EqX [] [] [] t z.2 := by
  have G27 : ∀ (K4 : Int32 → Int32 → Int32 → St → Option (Int32 × St)) (hK4 : ∀ (x1 : Int32) (x2 : Int32) (x3 : Int32) (t : St), K4 x1 x2 x3 t = some z → EqX [] [] [] t z.2) (x1 : Int32) (x3 : Int32) (y0 : Int32) (t : St), m_Model_named_27 n K4 x1 x3 y0 t = some z → EqX [] [] [] t z.2 := by
    intro K4 hK4 x1 x3 y0 t h
    unfold m_Model_named_27 at h
    exact EqX.tr EqX.rf (hK4 x1 y0 (x3 + 1) t h)
  have G4 : ∀ (k : Nat) (x1 : Int32) (x2 : Int32) (x3 : Int32) (t : St), m_Model_named_4 n  k x1 x2 x3 t = some z → EqX [] [] [] t z.2 := by
    intro k
    induction k with
    | zero => intro x1 x2 x3 t h; exact absurd (show none = some z from h) (by simp)
    | succ k ih =>
      intro x1 x2 x3 t h
      change m_Model_named_4b n  (m_Model_named_4 n  k) x1 x2 x3 t = some z at h
      unfold m_Model_named_4b at h
      by_cases c9 : (t.1 12) ≤ x3
      · rw [if_pos c9] at h
        exact EqX.cast EqX.rf (j_r2 h)
      · rw [if_neg c9] at h
        obtain ⟨b17, h⟩ := j_ifn h
        by_cases c19 : ((t.2.1 2) (x3).toNatClampNeg) = x1
        · rw [if_pos c19] at h
          exact EqX.tr EqX.rf (G27 (m_Model_named_4 n  k) ih x1 x3 x3 t h)
        · rw [if_neg c19] at h
          exact EqX.tr EqX.rf (G27 (m_Model_named_4 n  k) ih x1 x3 x2 t h)
  unfold m_Model_named at h
  exact EqX.tr EqX.rf (G4  n x1 (-1 : Int32) (0 : Int32) t h)
theorem x_Model_order {n : Nat} {x1 : Int32} {x2 : Int32} {t : St} {z : St} (h : m_Model_order n x1 x2 t = some z) : EqX [2, 3] [] [] t z := by
  have G157 : ∀ (K62 : Int32 → Int32 → Int32 → St → Option (St)) (hK62 : ∀ (x2 : Int32) (x3 : Int32) (x4 : Int32) (t : St), K62 x2 x3 x4 t = some z → EqX [2, 3] [] [] t z) (x2 : Int32) (x3 : Int32) (x4 : Int32) (t : St), m_Model_order_157 n K62 x2 x3 x4 t = some z → EqX [2, 3] [] [] t z := by
    intro K62 hK62 x2 x3 x4 t h
    unfold m_Model_order_157 at h
    exact EqX.tr EqX.rf (hK62 x2 x3 (x4 + 1) t h)
  have G136 : ∀ (K62 : Int32 → Int32 → Int32 → St → Option (St)) (hK62 : ∀ (x2 : Int32) (x3 : Int32) (x4 : Int32) (t : St), K62 x2 x3 x4 t = some z → EqX [2, 3] [] [] t z) (x2 : Int32) (x3 : Int32) (x4 : Int32) (y0 : Int32) (t : St), m_Model_order_136 n K62 x2 x3 x4 y0 t = some z → EqX [2, 3] [] [] t z := by
    intro K62 hK62 x2 x3 x4 y0 t h
    unfold m_Model_order_136 at h
    by_cases c140 : y0 = 0
    · rw [if_pos c140] at h
      obtain ⟨z152, hz152, h⟩ := j_bind h
      exact EqX.tr (EqX.tr EqX.rf (EqX.mono (x_Model_wrong hz152) (by decide) (by decide) (by decide))) (G157 K62 hK62 x2 x3 x4 z152.2 h)
    · rw [if_neg c140] at h
      exact EqX.tr EqX.rf (G157 K62 hK62 x2 x3 x4 t h)
  have G135 : ∀ (K62 : Int32 → Int32 → Int32 → St → Option (St)) (hK62 : ∀ (x2 : Int32) (x3 : Int32) (x4 : Int32) (t : St), K62 x2 x3 x4 t = some z → EqX [2, 3] [] [] t z) (x2 : Int32) (x3 : Int32) (x4 : Int32) (t : St), m_Model_order_135 n K62 x2 x3 x4 t = some z → EqX [2, 3] [] [] t z := by
    intro K62 hK62 x2 x3 x4 t h
    unfold m_Model_order_135 at h
    exact EqX.tr EqX.rf (G136 K62 hK62 x2 x3 x4 (0 : Int32) t h)
  have G62 : ∀ (k : Nat) (x2 : Int32) (x3 : Int32) (x4 : Int32) (t : St), m_Model_order_62 n  k x2 x3 x4 t = some z → EqX [2, 3] [] [] t z := by
    intro k
    induction k with
    | zero => intro x2 x3 x4 t h; exact absurd (show none = some z from h) (by simp)
    | succ k ih =>
      intro x2 x3 x4 t h
      change m_Model_order_62b n  (m_Model_order_62 n  k) x2 x3 x4 t = some z at h
      unfold m_Model_order_62b at h
      by_cases c68 : (t.1 18) < x4
      · rw [if_pos c68] at h
        exact EqX.cast EqX.rf (j_s h)
      · rw [if_neg c68] at h
        by_cases c72 : x2 = 0
        · rw [if_pos c72] at h
          exact EqX.cast EqX.rf (j_s h)
        · rw [if_neg c72] at h
          obtain ⟨b83, h⟩ := j_ifn h
          by_cases c84 : 0 ≤ ((t.2.1 13) ((x3 + x4)).toNatClampNeg)
          · rw [if_pos c84] at h
            by_cases c112 : (t.1 19) = ((t.1 20) + (1 : Int32))
            · rw [if_pos c112] at h
              obtain ⟨b123, h⟩ := j_ifn h
              by_cases c128 : ((t.2.1 13) ((x3 + x4)).toNatClampNeg) = (t.1 19)
              · rw [if_pos c128] at h
                exact EqX.tr EqX.rf (G136 (m_Model_order_62 n  k) ih x2 x3 x4 (1 : Int32) t h)
              · rw [if_neg c128] at h
                exact EqX.tr EqX.rf (G135 (m_Model_order_62 n  k) ih x2 x3 x4 t h)
            · rw [if_neg c112] at h
              exact EqX.tr EqX.rf (G135 (m_Model_order_62 n  k) ih x2 x3 x4 t h)
          · rw [if_neg c84] at h
            by_cases c91 : (t.1 19) = 0
            · rw [if_pos c91] at h
              exact EqX.tr EqX.rf (G136 (m_Model_order_62 n  k) ih x2 x3 x4 (1 : Int32) t h)
            · rw [if_neg c91] at h
              exact EqX.tr EqX.rf (G136 (m_Model_order_62 n  k) ih x2 x3 x4 (0 : Int32) t h)
  have G56 : ∀ (x2 : Int32) (x3 : Int32) (t : St), m_Model_order_56 n  x2 x3 t = some z → EqX [2, 3] [] [] t z := by
    intro x2 x3 t h
    unfold m_Model_order_56 at h
    exact EqX.tr EqX.rf (G62  n x2 x3 (t.1 17) t h)
  have G42 : ∀ (x1 : Int32) (x2 : Int32) (x3 : Int32) (t : St), m_Model_order_42 n  x1 x2 x3 t = some z → EqX [2, 3] [] [] t z := by
    intro x1 x2 x3 t h
    unfold m_Model_order_42 at h
    obtain ⟨b50, h⟩ := j_ifn h
    obtain ⟨z51, hz51, h⟩ := j_bind h
    exact EqX.tr (EqX.tr EqX.rf (EqX.mono (x_Model_wrong hz51) (by decide) (by decide) (by decide))) (G56  x2 x3 z51.2 h)
  unfold m_Model_order at h
  obtain ⟨b7, h⟩ := j_ifn h
  by_cases c11 : x2 = 0
  · rw [if_pos c11] at h
    obtain ⟨b38, h⟩ := j_ifn h
    by_cases c39 : ((t.2.1 13) (((64 : Int32) * ((t.2.1 14) (x1).toNatClampNeg))).toNatClampNeg) < 0
    · rw [if_pos c39] at h
      exact EqX.tr EqX.rf (G56  x2 ((64 : Int32) * ((t.2.1 14) (x1).toNatClampNeg)) t h)
    · rw [if_neg c39] at h
      exact EqX.tr EqX.rf (G42  x1 x2 ((64 : Int32) * ((t.2.1 14) (x1).toNatClampNeg)) t h)
  · rw [if_neg c11] at h
    by_cases c18 : (t.1 17) ≤ 0
    · rw [if_pos c18] at h
      exact EqX.tr EqX.rf (G56  x2 ((64 : Int32) * ((t.2.1 14) (x1).toNatClampNeg)) t h)
    · rw [if_neg c18] at h
      obtain ⟨b26, h⟩ := j_ifn h
      by_cases c27 : 0 ≤ ((t.2.1 13) (((64 : Int32) * ((t.2.1 14) (x1).toNatClampNeg))).toNatClampNeg)
      · rw [if_pos c27] at h
        exact EqX.tr EqX.rf (G56  x2 ((64 : Int32) * ((t.2.1 14) (x1).toNatClampNeg)) t h)
      · rw [if_neg c27] at h
        exact EqX.tr EqX.rf (G42  x1 x2 ((64 : Int32) * ((t.2.1 14) (x1).toNatClampNeg)) t h)
theorem x_Model_needs {n : Nat} {x1 : Int32} {t : St} {z : St} (h : m_Model_needs n x1 t = some z) : EqX [2, 3] [] [] t z := by
  have G93 : ∀ (x1 : Int32) (t : St), m_Model_needs_93 n  x1 t = some z → EqX [2, 3] [] [] t z := by
    intro x1 t h
    unfold m_Model_needs_93 at h
    obtain ⟨b101, h⟩ := j_ifn h
    obtain ⟨z104, hz104, h⟩ := j_bind h
    exact EqX.cast (EqX.tr EqX.rf (EqX.mono (x_Model_wrong hz104) (by decide) (by decide) (by decide))) (j_s h)
  have G70 : ∀ (x1 : Int32) (t : St), m_Model_needs_70 n  x1 t = some z → EqX [2, 3] [] [] t z := by
    intro x1 t h
    unfold m_Model_needs_70 at h
    by_cases c74 : (t.1 18) ≤ 0
    · rw [if_pos c74] at h
      exact EqX.cast EqX.rf (j_s h)
    · rw [if_neg c74] at h
      obtain ⟨b87, h⟩ := j_ifn h
      obtain ⟨b89, h⟩ := j_ifn h
      by_cases c90 : ((t.2.1 8) (((4 : Int32) + ((t.2.1 16) (x1).toNatClampNeg))).toNatClampNeg) = 0
      · rw [if_pos c90] at h
        exact EqX.tr EqX.rf (G93  x1 t h)
      · rw [if_neg c90] at h
        exact EqX.cast EqX.rf (j_s h)
  have G51 : ∀ (x1 : Int32) (y0 : Int32) (t : St), m_Model_needs_51 n  x1 y0 t = some z → EqX [2, 3] [] [] t z := by
    intro x1 y0 t h
    unfold m_Model_needs_51 at h
    by_cases c53 : y0 = 0
    · rw [if_pos c53] at h
      exact EqX.tr EqX.rf (G70  x1 t h)
    · rw [if_neg c53] at h
      obtain ⟨b65, h⟩ := j_ifn h
      obtain ⟨b66, h⟩ := j_ifn h
      by_cases c67 : ((t.2.1 8) (((t.2.1 15) (x1).toNatClampNeg)).toNatClampNeg) = 0
      · rw [if_pos c67] at h
        exact EqX.tr EqX.rf (G93  x1 t h)
      · rw [if_neg c67] at h
        exact EqX.tr EqX.rf (G70  x1 t h)
  have G50 : ∀ (x1 : Int32) (t : St), m_Model_needs_50 n  x1 t = some z → EqX [2, 3] [] [] t z := by
    intro x1 t h
    unfold m_Model_needs_50 at h
    exact EqX.tr EqX.rf (G51  x1 (0 : Int32) t h)
  have G32 : ∀ (x1 : Int32) (t : St), m_Model_needs_32 n  x1 t = some z → EqX [2, 3] [] [] t z := by
    intro x1 t h
    unfold m_Model_needs_32 at h
    by_cases c36 : (t.1 17) = 0
    · rw [if_pos c36] at h
      by_cases c43 : (t.1 19) = 0
      · rw [if_pos c43] at h
        exact EqX.tr EqX.rf (G51  x1 (1 : Int32) t h)
      · rw [if_neg c43] at h
        exact EqX.tr EqX.rf (G50  x1 t h)
    · rw [if_neg c36] at h
      exact EqX.tr EqX.rf (G50  x1 t h)
  unfold m_Model_needs at h
  obtain ⟨b13, h⟩ := j_ifn h
  obtain ⟨b14, h⟩ := j_ifn h
  obtain ⟨b15, h⟩ := j_ifn h
  by_cases c16 : ((t.2.1 6) (((t.2.1 5) (((t.2.1 14) (x1).toNatClampNeg)).toNatClampNeg)).toNatClampNeg) = 0
  · rw [if_pos c16] at h
    obtain ⟨b27, h⟩ := j_ifn h
    obtain ⟨z28, hz28, h⟩ := j_bind h
    exact EqX.tr (EqX.tr EqX.rf (EqX.mono (x_Model_wrong hz28) (by decide) (by decide) (by decide))) (G32  x1 z28.2 h)
  · rw [if_neg c16] at h
    exact EqX.tr EqX.rf (G32  x1 t h)
theorem x_Model_readScan {n : Nat}  {t : St} {z : St} (h : m_Model_readScan n t = some z) : EqX [2, 3, 4, 15, 17, 18, 19, 20] [14, 15, 16, 17] [] t z := by
  have G507 : ∀ (k : Nat) (x5 : Int32) (t : St), m_Model_readScan_507 n  k x5 t = some z → EqX [2, 3, 4, 15, 17, 18, 19, 20] [14, 15, 16, 17] [] t z := by
    intro k
    induction k with
    | zero => intro x5 t h; exact absurd (show none = some z from h) (by simp)
    | succ k ih =>
      intro x5 t h
      change m_Model_readScan_507b n  (m_Model_readScan_507 n  k) x5 t = some z at h
      unfold m_Model_readScan_507b at h
      by_cases c513 : (t.1 15) ≤ x5
      · rw [if_pos c513] at h
        exact EqX.cast EqX.rf (j_s h)
      · rw [if_neg c513] at h
        by_cases c520 : (t.1 2) = 0
        · rw [if_pos c520] at h
          obtain ⟨z526, hz526, h⟩ := j_bind h
          exact EqX.tr (EqX.tr EqX.rf (EqX.mono (x_Model_needs hz526) (by decide) (by decide) (by decide))) (ih (x5 + 1) z526 h)
        · rw [if_neg c520] at h
          exact EqX.cast EqX.rf (j_s h)
  have G504 : ∀  (t : St), m_Model_readScan_504 n   t = some z → EqX [2, 3, 4, 15, 17, 18, 19, 20] [14, 15, 16, 17] [] t z := by
    intro  t h
    unfold m_Model_readScan_504 at h
    exact EqX.tr EqX.rf (G507  n (0 : Int32) t h)
  have G475 : ∀ (k : Nat) (x3 : Int32) (x5 : Int32) (t : St), m_Model_readScan_475 n  k x3 x5 t = some z → EqX [2, 3, 4, 15, 17, 18, 19, 20] [14, 15, 16, 17] [] t z := by
    intro k
    induction k with
    | zero => intro x3 x5 t h; exact absurd (show none = some z from h) (by simp)
    | succ k ih =>
      intro x3 x5 t h
      change m_Model_readScan_475b n  (m_Model_readScan_475 n  k) x3 x5 t = some z at h
      unfold m_Model_readScan_475b at h
      by_cases c481 : (t.1 15) ≤ x5
      · rw [if_pos c481] at h
        exact EqX.tr EqX.rf (G504  t h)
      · rw [if_neg c481] at h
        by_cases c488 : (t.1 2) = 0
        · rw [if_pos c488] at h
          obtain ⟨z495, hz495, h⟩ := j_bind h
          exact EqX.tr (EqX.tr EqX.rf (EqX.mono (x_Model_order hz495) (by decide) (by decide) (by decide))) (ih x3 (x5 + 1) z495 h)
        · rw [if_neg c488] at h
          exact EqX.tr EqX.rf (G504  t h)
  have G469 : ∀ (x3 : Int32) (y1 : Int32) (t : St), m_Model_readScan_469 n  x3 y1 t = some z → EqX [2, 3, 4, 15, 17, 18, 19, 20] [14, 15, 16, 17] [] t z := by
    intro x3 y1 t h
    unfold m_Model_readScan_469 at h
    obtain ⟨z469, hz469, h⟩ := j_bind h
    exact EqX.tr (EqX.tr EqX.rf (EqX.mono (x_Model_must hz469) (by decide) (by decide) (by decide))) (G475  n x3 (0 : Int32) z469 h)
  have G464 : ∀ (x3 : Int32) (t : St), m_Model_readScan_464 n  x3 t = some z → EqX [2, 3, 4, 15, 17, 18, 19, 20] [14, 15, 16, 17] [] t z := by
    intro x3 t h
    unfold m_Model_readScan_464 at h
    exact EqX.tr EqX.rf (G469  x3 (1 : Int32) t h)
  have G468 : ∀ (x3 : Int32) (t : St), m_Model_readScan_468 n  x3 t = some z → EqX [2, 3, 4, 15, 17, 18, 19, 20] [14, 15, 16, 17] [] t z := by
    intro x3 t h
    unfold m_Model_readScan_468 at h
    exact EqX.tr EqX.rf (G469  x3 (0 : Int32) t h)
  have G388 : ∀ (x3 : Int32) (y1 : Int32) (t : St), m_Model_readScan_388 n  x3 y1 t = some z → EqX [2, 3, 4, 15, 17, 18, 19, 20] [14, 15, 16, 17] [] t z := by
    intro x3 y1 t h
    unfold m_Model_readScan_388 at h
    obtain ⟨z388, hz388, h⟩ := j_bind h
    obtain ⟨z392, hz392, h⟩ := j_bind h
    by_cases c420 : 0 < (z392.2.1 2)
    · rw [if_pos c420] at h
      exact EqX.tr (EqX.g (EqX.g (EqX.tr (EqX.tr EqX.rf (EqX.mono (x_Model_must hz388) (by decide) (by decide) (by decide))) (EqX.mono (x_Model_next hz392) (by decide) (by decide) (by decide))) (by decide)) (by decide)) (G464  x3 (sG (sG z392.2 19 (z392.1 / (16 : Int32))) 20 (z392.1 - z392.1 / (16 : Int32) * (16 : Int32))) h)
    · rw [if_neg c420] at h
      by_cases c424 : x3 = 0
      · rw [if_pos c424] at h
        by_cases c461 : z392.1 = 0
        · rw [if_pos c461] at h
          exact EqX.tr (EqX.g (EqX.g (EqX.tr (EqX.tr EqX.rf (EqX.mono (x_Model_must hz388) (by decide) (by decide) (by decide))) (EqX.mono (x_Model_next hz392) (by decide) (by decide) (by decide))) (by decide)) (by decide)) (G464  x3 (sG (sG z392.2 19 (z392.1 / (16 : Int32))) 20 (z392.1 - z392.1 / (16 : Int32) * (16 : Int32))) h)
        · rw [if_neg c461] at h
          exact EqX.tr (EqX.g (EqX.g (EqX.tr (EqX.tr EqX.rf (EqX.mono (x_Model_must hz388) (by decide) (by decide) (by decide))) (EqX.mono (x_Model_next hz392) (by decide) (by decide) (by decide))) (by decide)) (by decide)) (G468  x3 (sG (sG z392.2 19 (z392.1 / (16 : Int32))) 20 (z392.1 - z392.1 / (16 : Int32) * (16 : Int32))) h)
      · rw [if_neg c424] at h
        by_cases c433 : (13 : Int32) < (z392.1 - z392.1 / (16 : Int32) * (16 : Int32))
        · rw [if_pos c433] at h
          exact EqX.tr (EqX.g (EqX.g (EqX.tr (EqX.tr EqX.rf (EqX.mono (x_Model_must hz388) (by decide) (by decide) (by decide))) (EqX.mono (x_Model_next hz392) (by decide) (by decide) (by decide))) (by decide)) (by decide)) (G468  x3 (sG (sG z392.2 19 (z392.1 / (16 : Int32))) 20 (z392.1 - z392.1 / (16 : Int32) * (16 : Int32))) h)
        · rw [if_neg c433] at h
          by_cases c440 : (z392.1 / (16 : Int32)) = 0
          · rw [if_pos c440] at h
            exact EqX.tr (EqX.g (EqX.g (EqX.tr (EqX.tr EqX.rf (EqX.mono (x_Model_must hz388) (by decide) (by decide) (by decide))) (EqX.mono (x_Model_next hz392) (by decide) (by decide) (by decide))) (by decide)) (by decide)) (G464  x3 (sG (sG z392.2 19 (z392.1 / (16 : Int32))) 20 (z392.1 - z392.1 / (16 : Int32) * (16 : Int32))) h)
          · rw [if_neg c440] at h
            by_cases c453 : (z392.1 / (16 : Int32)) = ((z392.1 - z392.1 / (16 : Int32) * (16 : Int32)) + (1 : Int32))
            · rw [if_pos c453] at h
              exact EqX.tr (EqX.g (EqX.g (EqX.tr (EqX.tr EqX.rf (EqX.mono (x_Model_must hz388) (by decide) (by decide) (by decide))) (EqX.mono (x_Model_next hz392) (by decide) (by decide) (by decide))) (by decide)) (by decide)) (G464  x3 (sG (sG z392.2 19 (z392.1 / (16 : Int32))) 20 (z392.1 - z392.1 / (16 : Int32) * (16 : Int32))) h)
            · rw [if_neg c453] at h
              exact EqX.tr (EqX.g (EqX.g (EqX.tr (EqX.tr EqX.rf (EqX.mono (x_Model_must hz388) (by decide) (by decide) (by decide))) (EqX.mono (x_Model_next hz392) (by decide) (by decide) (by decide))) (by decide)) (by decide)) (G468  x3 (sG (sG z392.2 19 (z392.1 / (16 : Int32))) 20 (z392.1 - z392.1 / (16 : Int32) * (16 : Int32))) h)
  have G383 : ∀ (x3 : Int32) (t : St), m_Model_readScan_383 n  x3 t = some z → EqX [2, 3, 4, 15, 17, 18, 19, 20] [14, 15, 16, 17] [] t z := by
    intro x3 t h
    unfold m_Model_readScan_383 at h
    exact EqX.tr EqX.rf (G388  x3 (1 : Int32) t h)
  have G387 : ∀ (x3 : Int32) (t : St), m_Model_readScan_387 n  x3 t = some z → EqX [2, 3, 4, 15, 17, 18, 19, 20] [14, 15, 16, 17] [] t z := by
    intro x3 t h
    unfold m_Model_readScan_387 at h
    exact EqX.tr EqX.rf (G388  x3 (0 : Int32) t h)
  have G311 : ∀ (x3 : Int32) (y1 : Int32) (t : St), m_Model_readScan_311 n  x3 y1 t = some z → EqX [2, 3, 4, 15, 17, 18, 19, 20] [14, 15, 16, 17] [] t z := by
    intro x3 y1 t h
    unfold m_Model_readScan_311 at h
    obtain ⟨z311, hz311, h⟩ := j_bind h
    obtain ⟨z316, hz316, h⟩ := j_bind h
    by_cases c327 : 0 < (z316.2.1 2)
    · rw [if_pos c327] at h
      exact EqX.tr (EqX.g (EqX.tr (EqX.tr EqX.rf (EqX.mono (x_Model_must hz311) (by decide) (by decide) (by decide))) (EqX.mono (x_Model_next hz316) (by decide) (by decide) (by decide))) (by decide)) (G383  x3 (sG z316.2 18 z316.1) h)
    · rw [if_neg c327] at h
      by_cases c331 : x3 = 0
      · rw [if_pos c331] at h
        by_cases c340 : z316.1 = (63 : Int32)
        · rw [if_pos c340] at h
          exact EqX.tr (EqX.g (EqX.tr (EqX.tr EqX.rf (EqX.mono (x_Model_must hz311) (by decide) (by decide) (by decide))) (EqX.mono (x_Model_next hz316) (by decide) (by decide) (by decide))) (by decide)) (G383  x3 (sG z316.2 18 z316.1) h)
        · rw [if_neg c340] at h
          exact EqX.tr (EqX.g (EqX.tr (EqX.tr EqX.rf (EqX.mono (x_Model_must hz311) (by decide) (by decide) (by decide))) (EqX.mono (x_Model_next hz316) (by decide) (by decide) (by decide))) (by decide)) (G387  x3 (sG z316.2 18 z316.1) h)
      · rw [if_neg c331] at h
        by_cases c350 : (z316.2.1 17) = 0
        · rw [if_pos c350] at h
          by_cases c357 : z316.1 = 0
          · rw [if_pos c357] at h
            exact EqX.tr (EqX.g (EqX.tr (EqX.tr EqX.rf (EqX.mono (x_Model_must hz311) (by decide) (by decide) (by decide))) (EqX.mono (x_Model_next hz316) (by decide) (by decide) (by decide))) (by decide)) (G383  x3 (sG z316.2 18 z316.1) h)
          · rw [if_neg c357] at h
            exact EqX.tr (EqX.g (EqX.tr (EqX.tr EqX.rf (EqX.mono (x_Model_must hz311) (by decide) (by decide) (by decide))) (EqX.mono (x_Model_next hz316) (by decide) (by decide) (by decide))) (by decide)) (G387  x3 (sG z316.2 18 z316.1) h)
        · rw [if_neg c350] at h
          by_cases c371 : z316.1 < (z316.2.1 17)
          · rw [if_pos c371] at h
            exact EqX.tr (EqX.g (EqX.tr (EqX.tr EqX.rf (EqX.mono (x_Model_must hz311) (by decide) (by decide) (by decide))) (EqX.mono (x_Model_next hz316) (by decide) (by decide) (by decide))) (by decide)) (G387  x3 (sG z316.2 18 z316.1) h)
          · rw [if_neg c371] at h
            by_cases c380 : (64 : Int32) ≤ z316.1
            · rw [if_pos c380] at h
              exact EqX.tr (EqX.g (EqX.tr (EqX.tr EqX.rf (EqX.mono (x_Model_must hz311) (by decide) (by decide) (by decide))) (EqX.mono (x_Model_next hz316) (by decide) (by decide) (by decide))) (by decide)) (G387  x3 (sG z316.2 18 z316.1) h)
            · rw [if_neg c380] at h
              exact EqX.tr (EqX.g (EqX.tr (EqX.tr EqX.rf (EqX.mono (x_Model_must hz311) (by decide) (by decide) (by decide))) (EqX.mono (x_Model_next hz316) (by decide) (by decide) (by decide))) (by decide)) (G383  x3 (sG z316.2 18 z316.1) h)
  have G306 : ∀ (x3 : Int32) (t : St), m_Model_readScan_306 n  x3 t = some z → EqX [2, 3, 4, 15, 17, 18, 19, 20] [14, 15, 16, 17] [] t z := by
    intro x3 t h
    unfold m_Model_readScan_306 at h
    exact EqX.tr EqX.rf (G311  x3 (1 : Int32) t h)
  have G310 : ∀ (x3 : Int32) (t : St), m_Model_readScan_310 n  x3 t = some z → EqX [2, 3, 4, 15, 17, 18, 19, 20] [14, 15, 16, 17] [] t z := by
    intro x3 t h
    unfold m_Model_readScan_310 at h
    exact EqX.tr EqX.rf (G311  x3 (0 : Int32) t h)
  have G251 : ∀ (y0 : Int32) (t : St), m_Model_readScan_251 n  y0 t = some z → EqX [2, 3, 4, 15, 17, 18, 19, 20] [14, 15, 16, 17] [] t z := by
    intro y0 t h
    unfold m_Model_readScan_251 at h
    obtain ⟨z254, hz254, h⟩ := j_bind h
    by_cases c265 : 0 < (z254.2.1 2)
    · rw [if_pos c265] at h
      exact EqX.tr (EqX.g (EqX.tr EqX.rf (EqX.mono (x_Model_next hz254) (by decide) (by decide) (by decide))) (by decide)) (G306  y0 (sG z254.2 17 z254.1) h)
    · rw [if_neg c265] at h
      by_cases c269 : y0 = 0
      · rw [if_pos c269] at h
        by_cases c303 : z254.1 = 0
        · rw [if_pos c303] at h
          exact EqX.tr (EqX.g (EqX.tr EqX.rf (EqX.mono (x_Model_next hz254) (by decide) (by decide) (by decide))) (by decide)) (G306  y0 (sG z254.2 17 z254.1) h)
        · rw [if_neg c303] at h
          exact EqX.tr (EqX.g (EqX.tr EqX.rf (EqX.mono (x_Model_next hz254) (by decide) (by decide) (by decide))) (by decide)) (G310  y0 (sG z254.2 17 z254.1) h)
      · rw [if_neg c269] at h
        by_cases c278 : (64 : Int32) ≤ z254.1
        · rw [if_pos c278] at h
          exact EqX.tr (EqX.g (EqX.tr EqX.rf (EqX.mono (x_Model_next hz254) (by decide) (by decide) (by decide))) (by decide)) (G310  y0 (sG z254.2 17 z254.1) h)
        · rw [if_neg c278] at h
          by_cases c285 : z254.1 = 0
          · rw [if_pos c285] at h
            exact EqX.tr (EqX.g (EqX.tr EqX.rf (EqX.mono (x_Model_next hz254) (by decide) (by decide) (by decide))) (by decide)) (G306  y0 (sG z254.2 17 z254.1) h)
          · rw [if_neg c285] at h
            by_cases c293 : (z254.2.1 15) = (1 : Int32)
            · rw [if_pos c293] at h
              exact EqX.tr (EqX.g (EqX.tr EqX.rf (EqX.mono (x_Model_next hz254) (by decide) (by decide) (by decide))) (by decide)) (G306  y0 (sG z254.2 17 z254.1) h)
            · rw [if_neg c293] at h
              exact EqX.tr (EqX.g (EqX.tr EqX.rf (EqX.mono (x_Model_next hz254) (by decide) (by decide) (by decide))) (by decide)) (G310  y0 (sG z254.2 17 z254.1) h)
  have G236 : ∀  (t : St), m_Model_readScan_236 n   t = some z → EqX [2, 3, 4, 15, 17, 18, 19, 20] [14, 15, 16, 17] [] t z := by
    intro  t h
    unfold m_Model_readScan_236 at h
    by_cases c243 : (t.1 9) = (194 : Int32)
    · rw [if_pos c243] at h
      exact EqX.tr EqX.rf (G251  (1 : Int32) t h)
    · rw [if_neg c243] at h
      exact EqX.tr EqX.rf (G251  (0 : Int32) t h)
  have G227 : ∀ (K45 : Int32 → Int32 → Int32 → St → Option (St)) (hK45 : ∀ (x1 : Int32) (x2 : Int32) (x3 : Int32) (t : St), K45 x1 x2 x3 t = some z → EqX [2, 3, 4, 15, 17, 18, 19, 20] [14, 15, 16, 17] [] t z) (x1 : Int32) (x2 : Int32) (x3 : Int32) (y1 : Int32) (t : St), m_Model_readScan_227 n K45 x1 x2 x3 y1 t = some z → EqX [2, 3, 4, 15, 17, 18, 19, 20] [14, 15, 16, 17] [] t z := by
    intro K45 hK45 x1 x2 x3 y1 t h
    unfold m_Model_readScan_227 at h
    obtain ⟨z227, hz227, h⟩ := j_bind h
    exact EqX.tr (EqX.tr EqX.rf (EqX.mono (x_Model_must hz227) (by decide) (by decide) (by decide))) (hK45 x1 x2 (x3 + 1) z227 h)
  have G222 : ∀ (K45 : Int32 → Int32 → Int32 → St → Option (St)) (hK45 : ∀ (x1 : Int32) (x2 : Int32) (x3 : Int32) (t : St), K45 x1 x2 x3 t = some z → EqX [2, 3, 4, 15, 17, 18, 19, 20] [14, 15, 16, 17] [] t z) (x1 : Int32) (x2 : Int32) (x3 : Int32) (t : St), m_Model_readScan_222 n K45 x1 x2 x3 t = some z → EqX [2, 3, 4, 15, 17, 18, 19, 20] [14, 15, 16, 17] [] t z := by
    intro K45 hK45 x1 x2 x3 t h
    unfold m_Model_readScan_222 at h
    exact EqX.tr EqX.rf (G227 K45 hK45 x1 x2 x3 (1 : Int32) t h)
  have G226 : ∀ (K45 : Int32 → Int32 → Int32 → St → Option (St)) (hK45 : ∀ (x1 : Int32) (x2 : Int32) (x3 : Int32) (t : St), K45 x1 x2 x3 t = some z → EqX [2, 3, 4, 15, 17, 18, 19, 20] [14, 15, 16, 17] [] t z) (x1 : Int32) (x2 : Int32) (x3 : Int32) (t : St), m_Model_readScan_226 n K45 x1 x2 x3 t = some z → EqX [2, 3, 4, 15, 17, 18, 19, 20] [14, 15, 16, 17] [] t z := by
    intro K45 hK45 x1 x2 x3 t h
    unfold m_Model_readScan_226 at h
    exact EqX.tr EqX.rf (G227 K45 hK45 x1 x2 x3 (0 : Int32) t h)
  have G166 : ∀ (K45 : Int32 → Int32 → Int32 → St → Option (St)) (hK45 : ∀ (x1 : Int32) (x2 : Int32) (x3 : Int32) (t : St), K45 x1 x2 x3 t = some z → EqX [2, 3, 4, 15, 17, 18, 19, 20] [14, 15, 16, 17] [] t z) (x1 : Int32) (x2 : Int32) (x3 : Int32) (t : St), m_Model_readScan_166 n K45 x1 x2 x3 t = some z → EqX [2, 3, 4, 15, 17, 18, 19, 20] [14, 15, 16, 17] [] t z := by
    intro K45 hK45 x1 x2 x3 t h
    unfold m_Model_readScan_166 at h
    obtain ⟨z167, hz167, h⟩ := j_bind h
    obtain ⟨b182, h⟩ := j_ifn h
    obtain ⟨w193, hw193, h⟩ := j_bind h
    obtain ⟨b193, h⟩ := j_ifn h
    by_cases c199 : 0 < (w193.1 2)
    · rw [if_pos c199] at h
      exact EqX.tr (EqX.h (EqX.cast (EqX.h (EqX.tr EqX.rf (EqX.mono (x_Model_next hz167) (by decide) (by decide) (by decide))) (by decide)) (j_s hw193)) (by decide)) (G222 K45 hK45 x1 x2 x3 (sH w193 16 (x3).toNatClampNeg (z167.1 - z167.1 / (16 : Int32) * (16 : Int32))) h)
    · rw [if_neg c199] at h
      obtain ⟨b207, h⟩ := j_ifn h
      by_cases c209 : (4 : Int32) ≤ ((w193.2.1 15) (x3).toNatClampNeg)
      · rw [if_pos c209] at h
        exact EqX.tr (EqX.h (EqX.cast (EqX.h (EqX.tr EqX.rf (EqX.mono (x_Model_next hz167) (by decide) (by decide) (by decide))) (by decide)) (j_s hw193)) (by decide)) (G226 K45 hK45 x1 x2 x3 (sH w193 16 (x3).toNatClampNeg (z167.1 - z167.1 / (16 : Int32) * (16 : Int32))) h)
      · rw [if_neg c209] at h
        obtain ⟨b217, h⟩ := j_ifn h
        by_cases c219 : (4 : Int32) ≤ (((sH w193 16 (x3).toNatClampNeg (z167.1 - z167.1 / (16 : Int32) * (16 : Int32))).2.1 16) (x3).toNatClampNeg)
        · rw [if_pos c219] at h
          exact EqX.tr (EqX.h (EqX.cast (EqX.h (EqX.tr EqX.rf (EqX.mono (x_Model_next hz167) (by decide) (by decide) (by decide))) (by decide)) (j_s hw193)) (by decide)) (G226 K45 hK45 x1 x2 x3 (sH w193 16 (x3).toNatClampNeg (z167.1 - z167.1 / (16 : Int32) * (16 : Int32))) h)
        · rw [if_neg c219] at h
          exact EqX.tr (EqX.h (EqX.cast (EqX.h (EqX.tr EqX.rf (EqX.mono (x_Model_next hz167) (by decide) (by decide) (by decide))) (by decide)) (j_s hw193)) (by decide)) (G222 K45 hK45 x1 x2 x3 (sH w193 16 (x3).toNatClampNeg (z167.1 - z167.1 / (16 : Int32) * (16 : Int32))) h)
  have G163 : ∀ (K45 : Int32 → Int32 → Int32 → St → Option (St)) (hK45 : ∀ (x1 : Int32) (x2 : Int32) (x3 : Int32) (t : St), K45 x1 x2 x3 t = some z → EqX [2, 3, 4, 15, 17, 18, 19, 20] [14, 15, 16, 17] [] t z) (x1 : Int32) (x2 : Int32) (x3 : Int32) (y1 : Int32) (t : St), m_Model_readScan_163 n K45 x1 x2 x3 y1 t = some z → EqX [2, 3, 4, 15, 17, 18, 19, 20] [14, 15, 16, 17] [] t z := by
    intro K45 hK45 x1 x2 x3 y1 t h
    unfold m_Model_readScan_163 at h
    obtain ⟨z163, hz163, h⟩ := j_bind h
    exact EqX.tr (EqX.tr EqX.rf (EqX.mono (x_Model_must hz163) (by decide) (by decide) (by decide))) (G166 K45 hK45 x1 x2 x3 z163 h)
  have G158 : ∀ (K45 : Int32 → Int32 → Int32 → St → Option (St)) (hK45 : ∀ (x1 : Int32) (x2 : Int32) (x3 : Int32) (t : St), K45 x1 x2 x3 t = some z → EqX [2, 3, 4, 15, 17, 18, 19, 20] [14, 15, 16, 17] [] t z) (x1 : Int32) (x2 : Int32) (x3 : Int32) (t : St), m_Model_readScan_158 n K45 x1 x2 x3 t = some z → EqX [2, 3, 4, 15, 17, 18, 19, 20] [14, 15, 16, 17] [] t z := by
    intro K45 hK45 x1 x2 x3 t h
    unfold m_Model_readScan_158 at h
    exact EqX.tr EqX.rf (G163 K45 hK45 x1 x2 x3 (1 : Int32) t h)
  have G107 : ∀ (K45 : Int32 → Int32 → Int32 → St → Option (St)) (hK45 : ∀ (x1 : Int32) (x2 : Int32) (x3 : Int32) (t : St), K45 x1 x2 x3 t = some z → EqX [2, 3, 4, 15, 17, 18, 19, 20] [14, 15, 16, 17] [] t z) (x1 : Int32) (x2 : Int32) (x3 : Int32) (x4 : Int32) (t : St), m_Model_readScan_107 n K45 x1 x2 x3 x4 t = some z → EqX [2, 3, 4, 15, 17, 18, 19, 20] [14, 15, 16, 17] [] t z := by
    intro K45 hK45 x1 x2 x3 x4 t h
    unfold m_Model_readScan_107 at h
    by_cases c111 : (t.1 2) = 0
    · rw [if_pos c111] at h
      obtain ⟨b121, h⟩ := j_ifn h
      obtain ⟨b132, h⟩ := j_ifn h
      obtain ⟨b139, h⟩ := j_ifn h
      by_cases c149 : (t.1 15) = (1 : Int32)
      · rw [if_pos c149] at h
        exact EqX.tr (EqX.h EqX.rf (by decide)) (G158 K45 hK45 (x1 + (((t.2.1 3) (x4).toNatClampNeg) * ((t.2.1 4) (x4).toNatClampNeg))) x4 x3 (sH t 14 (x3).toNatClampNeg x4) h)
      · rw [if_neg c149] at h
        by_cases c155 : (10 : Int32) < (x1 + (((t.2.1 3) (x4).toNatClampNeg) * ((t.2.1 4) (x4).toNatClampNeg)))
        · rw [if_pos c155] at h
          exact EqX.tr (EqX.h EqX.rf (by decide)) (G163 K45 hK45 (x1 + (((t.2.1 3) (x4).toNatClampNeg) * ((t.2.1 4) (x4).toNatClampNeg))) x4 x3 (0 : Int32) (sH t 14 (x3).toNatClampNeg x4) h)
        · rw [if_neg c155] at h
          exact EqX.tr (EqX.h EqX.rf (by decide)) (G158 K45 hK45 (x1 + (((t.2.1 3) (x4).toNatClampNeg) * ((t.2.1 4) (x4).toNatClampNeg))) x4 x3 (sH t 14 (x3).toNatClampNeg x4) h)
    · rw [if_neg c111] at h
      exact EqX.tr EqX.rf (G166 K45 hK45 x1 x2 x3 t h)
  have G45 : ∀ (k : Nat) (x1 : Int32) (x2 : Int32) (x3 : Int32) (t : St), m_Model_readScan_45 n  k x1 x2 x3 t = some z → EqX [2, 3, 4, 15, 17, 18, 19, 20] [14, 15, 16, 17] [] t z := by
    intro k
    induction k with
    | zero => intro x1 x2 x3 t h; exact absurd (show none = some z from h) (by simp)
    | succ k ih =>
      intro x1 x2 x3 t h
      change m_Model_readScan_45b n  (m_Model_readScan_45 n  k) x1 x2 x3 t = some z at h
      unfold m_Model_readScan_45b at h
      by_cases c50 : (t.1 15) ≤ x3
      · rw [if_pos c50] at h
        exact EqX.tr EqX.rf (G236  t h)
      · rw [if_neg c50] at h
        by_cases c57 : (t.1 2) = 0
        · rw [if_pos c57] at h
          obtain ⟨b69, h⟩ := j_ifn h
          obtain ⟨z72, hz72, h⟩ := j_bind h
          obtain ⟨z75, hz75, h⟩ := j_bind h
          by_cases c84 : (z75.2.1 2) = 0
          · rw [if_pos c84] at h
            by_cases c90 : x2 < z75.1
            · rw [if_pos c90] at h
              exact EqX.tr (EqX.tr (EqX.tr (EqX.h EqX.rf (by decide)) (EqX.mono (x_Model_next hz72) (by decide) (by decide) (by decide))) (EqX.mono (x_Model_named hz75) (by decide) (by decide) (by decide))) (G107 (m_Model_readScan_45 n  k) ih x1 x2 x3 z75.1 z75.2 h)
            · rw [if_neg c90] at h
              obtain ⟨b101, h⟩ := j_ifn h
              obtain ⟨z102, hz102, h⟩ := j_bind h
              exact EqX.tr (EqX.tr (EqX.tr (EqX.tr (EqX.h EqX.rf (by decide)) (EqX.mono (x_Model_next hz72) (by decide) (by decide) (by decide))) (EqX.mono (x_Model_named hz75) (by decide) (by decide) (by decide))) (EqX.mono (x_Model_wrong hz102) (by decide) (by decide) (by decide))) (G107 (m_Model_readScan_45 n  k) ih x1 x2 x3 z75.1 z102.2 h)
          · rw [if_neg c84] at h
            exact EqX.tr (EqX.tr (EqX.tr (EqX.h EqX.rf (by decide)) (EqX.mono (x_Model_next hz72) (by decide) (by decide) (by decide))) (EqX.mono (x_Model_named hz75) (by decide) (by decide) (by decide))) (G107 (m_Model_readScan_45 n  k) ih x1 x2 x3 z75.1 z75.2 h)
        · rw [if_neg c57] at h
          exact EqX.tr EqX.rf (G236  t h)
  have G36 : ∀ (y1 : Int32) (t : St), m_Model_readScan_36 n  y1 t = some z → EqX [2, 3, 4, 15, 17, 18, 19, 20] [14, 15, 16, 17] [] t z := by
    intro y1 t h
    unfold m_Model_readScan_36 at h
    obtain ⟨z36, hz36, h⟩ := j_bind h
    exact EqX.tr (EqX.tr EqX.rf (EqX.mono (x_Model_must hz36) (by decide) (by decide) (by decide))) (G45  n (0 : Int32) (-1 : Int32) (0 : Int32) z36 h)
  have G31 : ∀  (t : St), m_Model_readScan_31 n   t = some z → EqX [2, 3, 4, 15, 17, 18, 19, 20] [14, 15, 16, 17] [] t z := by
    intro  t h
    unfold m_Model_readScan_31 at h
    exact EqX.tr EqX.rf (G36  (1 : Int32) t h)
  have G35 : ∀  (t : St), m_Model_readScan_35 n   t = some z → EqX [2, 3, 4, 15, 17, 18, 19, 20] [14, 15, 16, 17] [] t z := by
    intro  t h
    unfold m_Model_readScan_35 at h
    exact EqX.tr EqX.rf (G36  (0 : Int32) t h)
  unfold m_Model_readScan at h
  obtain ⟨z2, hz2, h⟩ := j_bind h
  by_cases c13 : 0 < (z2.2.1 2)
  · rw [if_pos c13] at h
    exact EqX.tr (EqX.g (EqX.tr EqX.rf (EqX.mono (x_Model_next hz2) (by decide) (by decide) (by decide))) (by decide)) (G31  (sG z2.2 15 z2.1) h)
  · rw [if_neg c13] at h
    by_cases c20 : z2.1 ≤ 0
    · rw [if_pos c20] at h
      exact EqX.tr (EqX.g (EqX.tr EqX.rf (EqX.mono (x_Model_next hz2) (by decide) (by decide) (by decide))) (by decide)) (G35  (sG z2.2 15 z2.1) h)
    · rw [if_neg c20] at h
      by_cases c28 : (5 : Int32) ≤ z2.1
      · rw [if_pos c28] at h
        exact EqX.tr (EqX.g (EqX.tr EqX.rf (EqX.mono (x_Model_next hz2) (by decide) (by decide) (by decide))) (by decide)) (G35  (sG z2.2 15 z2.1) h)
      · rw [if_neg c28] at h
        exact EqX.tr (EqX.g (EqX.tr EqX.rf (EqX.mono (x_Model_next hz2) (by decide) (by decide) (by decide))) (by decide)) (G31  (sG z2.2 15 z2.1) h)
theorem x_Model_any {n : Nat}  {t : St} {z : St} (h : m_Model_any n t = some z) : EqX [2, 3, 4] [] [] t z := by
  have G0 : ∀ (k : Nat)  (t : St), m_Model_any_0 n  k  t = some z → EqX [2, 3, 4] [] [] t z := by
    intro k
    induction k with
    | zero => intro  t h; exact absurd (show none = some z from h) (by simp)
    | succ k ih =>
      intro  t h
      change m_Model_any_0b n  (m_Model_any_0 n  k)  t = some z at h
      unfold m_Model_any_0b at h
      by_cases c4 : (t.1 2) = 0
      · rw [if_pos c4] at h
        by_cases c15 : (t.1 5) ≤ (t.1 4)
        · rw [if_pos c15] at h
          exact EqX.cast EqX.rf (j_s h)
        · rw [if_neg c15] at h
          obtain ⟨z19, hz19, h⟩ := j_bind h
          exact EqX.tr (EqX.tr EqX.rf (EqX.mono (x_Model_next hz19) (by decide) (by decide) (by decide))) (ih z19.2 h)
      · rw [if_neg c4] at h
        exact EqX.cast EqX.rf (j_s h)
  unfold m_Model_any at h
  by_cases c4 : (t.1 2) = 0
  · rw [if_pos c4] at h
    by_cases c15 : (t.1 5) ≤ (t.1 4)
    · rw [if_pos c15] at h
      exact EqX.cast EqX.rf (j_s h)
    · rw [if_neg c15] at h
      obtain ⟨z19, hz19, h⟩ := j_bind h
      exact EqX.tr (EqX.tr EqX.rf (EqX.mono (x_Model_next hz19) (by decide) (by decide) (by decide))) (G0  n z19.2 h)
  · rw [if_neg c4] at h
    exact EqX.cast EqX.rf (j_s h)
theorem x_Model_close {n : Nat} {x1 : Int32} {t : St} {z : St} (h : m_Model_close n x1 t = some z) : EqX [2, 3, 5, 8] [1] [] t z := by
  have G28 : ∀ (x1 : Int32) (t : St), m_Model_close_28 n  x1 t = some z → EqX [2, 3, 5, 8] [1] [] t z := by
    intro x1 t h
    unfold m_Model_close_28 at h
    by_cases c32 : (t.1 2) = 0
    · rw [if_pos c32] at h
      obtain ⟨b48, h⟩ := j_ifn h
      obtain ⟨w60, hw60, h⟩ := j_bind h
      obtain ⟨b60, h⟩ := j_ifn h
      obtain ⟨w74, hw74, h⟩ := j_bind h
      obtain ⟨b74, h⟩ := j_ifn h
      obtain ⟨w93, hw93, h⟩ := j_bind h
      obtain ⟨b93, h⟩ := j_ifn h
      exact EqX.cast (EqX.g (EqX.g (EqX.h (EqX.cast (EqX.h (EqX.cast (EqX.h (EqX.cast (EqX.h EqX.rf (by decide)) (j_s hw60)) (by decide)) (j_s hw74)) (by decide)) (j_s hw93)) (by decide)) (by decide)) (by decide)) (j_s h)
    · rw [if_neg c32] at h
      exact EqX.cast (EqX.g EqX.rf (by decide)) (j_s h)
  unfold m_Model_close at h
  by_cases c4 : (t.1 2) = 0
  · rw [if_pos c4] at h
    by_cases c15 : (t.1 4) = (t.1 5)
    · rw [if_pos c15] at h
      exact EqX.tr EqX.rf (G28  x1 t h)
    · rw [if_neg c15] at h
      obtain ⟨z24, hz24, h⟩ := j_bind h
      exact EqX.tr (EqX.tr EqX.rf (EqX.mono (x_Model_wrong hz24) (by decide) (by decide) (by decide))) (G28  x1 z24.2 h)
  · rw [if_neg c4] at h
    exact EqX.tr EqX.rf (G28  x1 t h)
theorem x_Model_readData {n : Nat} {x1 : Int32} {t : St} {z : St} (h : m_Model_readData n x1 t = some z) : EqX [2, 3, 4, 14] [12] [] t z := by
  have G163 : ∀ (x1 : Int32) (x2 : Int32) (y1 : Int32) (t : St), m_Model_readData_163 n  x1 x2 y1 t = some z → EqX [2, 3, 4, 14] [12] [] t z := by
    intro x1 x2 y1 t h
    unfold m_Model_readData_163 at h
    obtain ⟨b185, h⟩ := j_ifn h
    obtain ⟨b187, h⟩ := j_ifn h
    obtain ⟨w197, hw197, h⟩ := j_bind h
    obtain ⟨b197, h⟩ := j_ifn h
    exact EqX.cast (EqX.g (EqX.h (EqX.cast (EqX.h (EqX.g EqX.rf (by decide)) (by decide)) (j_s hw197)) (by decide)) (by decide)) (j_s h)
  have G142 : ∀ (x1 : Int32) (x2 : Int32) (t : St), m_Model_readData_142 n  x1 x2 t = some z → EqX [2, 3, 4, 14] [12] [] t z := by
    intro x1 x2 t h
    unfold m_Model_readData_142 at h
    by_cases c147 : (t.1 2) = 0
    · rw [if_pos c147] at h
      exact EqX.tr EqX.rf (G163  x1 x2 ((t.1 4) - (2 : Int32)) t h)
    · rw [if_neg c147] at h
      exact EqX.tr EqX.rf (G163  x1 x2 (t.1 4) t h)
  have G139 : ∀ (K4 : Int32 → Int32 → Int32 → St → Option (St)) (hK4 : ∀ (x1 : Int32) (x2 : Int32) (x3 : Int32) (t : St), K4 x1 x2 x3 t = some z → EqX [2, 3, 4, 14] [12] [] t z) (x1 : Int32) (x2 : Int32) (x3 : Int32) (t : St), m_Model_readData_139 n K4 x1 x2 x3 t = some z → EqX [2, 3, 4, 14] [12] [] t z := by
    intro K4 hK4 x1 x2 x3 t h
    unfold m_Model_readData_139 at h
    exact EqX.tr EqX.rf (hK4 x1 x2 x3 t h)
  have G138 : ∀ (K4 : Int32 → Int32 → Int32 → St → Option (St)) (hK4 : ∀ (x1 : Int32) (x2 : Int32) (x3 : Int32) (t : St), K4 x1 x2 x3 t = some z → EqX [2, 3, 4, 14] [12] [] t z) (x1 : Int32) (x2 : Int32) (y0 : Int32) (t : St), m_Model_readData_138 n K4 x1 x2 y0 t = some z → EqX [2, 3, 4, 14] [12] [] t z := by
    intro K4 hK4 x1 x2 y0 t h
    unfold m_Model_readData_138 at h
    exact EqX.tr EqX.rf (G139 K4 hK4 x1 x2 y0 t h)
  have G133 : ∀ (K4 : Int32 → Int32 → Int32 → St → Option (St)) (hK4 : ∀ (x1 : Int32) (x2 : Int32) (x3 : Int32) (t : St), K4 x1 x2 x3 t = some z → EqX [2, 3, 4, 14] [12] [] t z) (x1 : Int32) (x2 : Int32) (t : St), m_Model_readData_133 n K4 x1 x2 t = some z → EqX [2, 3, 4, 14] [12] [] t z := by
    intro K4 hK4 x1 x2 t h
    unfold m_Model_readData_133 at h
    exact EqX.tr EqX.rf (G138 K4 hK4 x1 x2 (1 : Int32) t h)
  have G121 : ∀ (K4 : Int32 → Int32 → Int32 → St → Option (St)) (hK4 : ∀ (x1 : Int32) (x2 : Int32) (x3 : Int32) (t : St), K4 x1 x2 x3 t = some z → EqX [2, 3, 4, 14] [12] [] t z) (x1 : Int32) (x5 : Int32) (x6 : Int32) (y0 : Int32) (y1 : Int32) (t : St), m_Model_readData_121 n K4 x1 x5 x6 y0 y1 t = some z → EqX [2, 3, 4, 14] [12] [] t z := by
    intro K4 hK4 x1 x5 x6 y0 y1 t h
    unfold m_Model_readData_121 at h
    by_cases c125 : x5 = 0
    · rw [if_pos c125] at h
      exact EqX.tr EqX.rf (G133 K4 hK4 x1 (y0 + y1) t h)
    · rw [if_neg c125] at h
      by_cases c130 : x6 = 0
      · rw [if_pos c130] at h
        exact EqX.tr EqX.rf (G138 K4 hK4 x1 (y0 + y1) (0 : Int32) t h)
      · rw [if_neg c130] at h
        exact EqX.tr EqX.rf (G133 K4 hK4 x1 (y0 + y1) t h)
  have G110 : ∀ (K4 : Int32 → Int32 → Int32 → St → Option (St)) (hK4 : ∀ (x1 : Int32) (x2 : Int32) (x3 : Int32) (t : St), K4 x1 x2 x3 t = some z → EqX [2, 3, 4, 14] [12] [] t z) (x1 : Int32) (x2 : Int32) (x5 : Int32) (x6 : Int32) (t : St), m_Model_readData_110 n K4 x1 x2 x5 x6 t = some z → EqX [2, 3, 4, 14] [12] [] t z := by
    intro K4 hK4 x1 x2 x5 x6 t h
    unfold m_Model_readData_110 at h
    by_cases c113 : x6 = 0
    · rw [if_pos c113] at h
      exact EqX.tr EqX.rf (G121 K4 hK4 x1 x5 x6 x2 (0 : Int32) t h)
    · rw [if_neg c113] at h
      exact EqX.tr EqX.rf (G121 K4 hK4 x1 x5 x6 x2 (1 : Int32) t h)
  have G97 : ∀ (K4 : Int32 → Int32 → Int32 → St → Option (St)) (hK4 : ∀ (x1 : Int32) (x2 : Int32) (x3 : Int32) (t : St), K4 x1 x2 x3 t = some z → EqX [2, 3, 4, 14] [12] [] t z) (x1 : Int32) (x2 : Int32) (x5 : Int32) (x6 : Int32) (t : St), m_Model_readData_97 n K4 x1 x2 x5 x6 t = some z → EqX [2, 3, 4, 14] [12] [] t z := by
    intro K4 hK4 x1 x2 x5 x6 t h
    unfold m_Model_readData_97 at h
    obtain ⟨z105, hz105, h⟩ := j_bind h
    exact EqX.tr (EqX.tr EqX.rf (EqX.mono (x_Model_wrong hz105) (by decide) (by decide) (by decide))) (G110 K4 hK4 x1 x2 x5 x6 z105.2 h)
  have G63 : ∀ (K4 : Int32 → Int32 → Int32 → St → Option (St)) (hK4 : ∀ (x1 : Int32) (x2 : Int32) (x3 : Int32) (t : St), K4 x1 x2 x3 t = some z → EqX [2, 3, 4, 14] [12] [] t z) (x1 : Int32) (x2 : Int32) (x5 : Int32) (y0 : Int32) (t : St), m_Model_readData_63 n K4 x1 x2 x5 y0 t = some z → EqX [2, 3, 4, 14] [12] [] t z := by
    intro K4 hK4 x1 x2 x5 y0 t h
    unfold m_Model_readData_63 at h
    by_cases c69 : (t.1 2) = 0
    · rw [if_pos c69] at h
      by_cases c74 : y0 = 0
      · rw [if_pos c74] at h
        exact EqX.tr EqX.rf (G110 K4 hK4 x1 x2 x5 y0 t h)
      · rw [if_neg c74] at h
        by_cases c81 : (t.1 13) = 0
        · rw [if_pos c81] at h
          exact EqX.tr EqX.rf (G97 K4 hK4 x1 x2 x5 y0 t h)
        · rw [if_neg c81] at h
          by_cases c94 : x5 = ((208 : Int32) + (x2 - x2 / (8 : Int32) * (8 : Int32)))
          · rw [if_pos c94] at h
            exact EqX.tr EqX.rf (G110 K4 hK4 x1 x2 x5 y0 t h)
          · rw [if_neg c94] at h
            exact EqX.tr EqX.rf (G97 K4 hK4 x1 x2 x5 y0 t h)
    · rw [if_neg c69] at h
      exact EqX.tr EqX.rf (G110 K4 hK4 x1 x2 x5 y0 t h)
  have G62 : ∀ (K4 : Int32 → Int32 → Int32 → St → Option (St)) (hK4 : ∀ (x1 : Int32) (x2 : Int32) (x3 : Int32) (t : St), K4 x1 x2 x3 t = some z → EqX [2, 3, 4, 14] [12] [] t z) (x1 : Int32) (x2 : Int32) (x5 : Int32) (t : St), m_Model_readData_62 n K4 x1 x2 x5 t = some z → EqX [2, 3, 4, 14] [12] [] t z := by
    intro K4 hK4 x1 x2 x5 t h
    unfold m_Model_readData_62 at h
    exact EqX.tr EqX.rf (G63 K4 hK4 x1 x2 x5 (0 : Int32) t h)
  have G4 : ∀ (k : Nat) (x1 : Int32) (x2 : Int32) (x3 : Int32) (t : St), m_Model_readData_4 n  k x1 x2 x3 t = some z → EqX [2, 3, 4, 14] [12] [] t z := by
    intro k
    induction k with
    | zero => intro x1 x2 x3 t h; exact absurd (show none = some z from h) (by simp)
    | succ k ih =>
      intro x1 x2 x3 t h
      change m_Model_readData_4b n  (m_Model_readData_4 n  k) x1 x2 x3 t = some z at h
      unfold m_Model_readData_4b at h
      by_cases c5 : x3 = 0
      · rw [if_pos c5] at h
        exact EqX.tr EqX.rf (G142  x1 x2 t h)
      · rw [if_neg c5] at h
        by_cases c12 : (t.1 2) = 0
        · rw [if_pos c12] at h
          obtain ⟨z16, hz16, h⟩ := j_bind h
          by_cases c25 : (z16.2.1 2) = 0
          · rw [if_pos c25] at h
            by_cases c33 : z16.1 = (255 : Int32)
            · rw [if_pos c33] at h
              obtain ⟨z37, hz37, h⟩ := j_bind h
              by_cases c47 : z37.1 < (208 : Int32)
              · rw [if_pos c47] at h
                exact EqX.tr (EqX.tr (EqX.tr EqX.rf (EqX.mono (x_Model_next hz16) (by decide) (by decide) (by decide))) (EqX.mono (x_Model_next hz37) (by decide) (by decide) (by decide))) (G62 (m_Model_readData_4 n  k) ih x1 x2 z37.1 z37.2 h)
              · rw [if_neg c47] at h
                by_cases c55 : (215 : Int32) < z37.1
                · rw [if_pos c55] at h
                  exact EqX.tr (EqX.tr (EqX.tr EqX.rf (EqX.mono (x_Model_next hz16) (by decide) (by decide) (by decide))) (EqX.mono (x_Model_next hz37) (by decide) (by decide) (by decide))) (G62 (m_Model_readData_4 n  k) ih x1 x2 z37.1 z37.2 h)
                · rw [if_neg c55] at h
                  exact EqX.tr (EqX.tr (EqX.tr EqX.rf (EqX.mono (x_Model_next hz16) (by decide) (by decide) (by decide))) (EqX.mono (x_Model_next hz37) (by decide) (by decide) (by decide))) (G63 (m_Model_readData_4 n  k) ih x1 x2 z37.1 (1 : Int32) z37.2 h)
            · rw [if_neg c33] at h
              exact EqX.tr (EqX.tr EqX.rf (EqX.mono (x_Model_next hz16) (by decide) (by decide) (by decide))) (G139 (m_Model_readData_4 n  k) ih x1 x2 x3 z16.2 h)
          · rw [if_neg c25] at h
            exact EqX.tr (EqX.tr EqX.rf (EqX.mono (x_Model_next hz16) (by decide) (by decide) (by decide))) (G139 (m_Model_readData_4 n  k) ih x1 x2 x3 z16.2 h)
        · rw [if_neg c12] at h
          exact EqX.tr EqX.rf (G142  x1 x2 t h)
  unfold m_Model_readData at h
  exact EqX.tr EqX.rf (G4  n x1 (0 : Int32) (1 : Int32) t h)
theorem x_Model_keepScan {n : Nat}  {t : St} {z : St} (h : m_Model_keepScan n t = some z) : EqX [2, 3, 4, 14] [12, 13] [] t z := by
  have G163 : ∀ (K93 : Int32 → Int32 → St → Option (St)) (hK93 : ∀ (x1 : Int32) (x2 : Int32) (t : St), K93 x1 x2 t = some z → EqX [2, 3, 4, 14] [12, 13] [] t z) (k : Nat) (x1 : Int32) (x2 : Int32) (x3 : Int32) (t : St), m_Model_keepScan_163 n K93 k x1 x2 x3 t = some z → EqX [2, 3, 4, 14] [12, 13] [] t z := by
    intro K93 hK93 k
    induction k with
    | zero => intro x1 x2 x3 t h; exact absurd (show none = some z from h) (by simp)
    | succ k ih =>
      intro x1 x2 x3 t h
      change m_Model_keepScan_163b n K93 (m_Model_keepScan_163 n K93 k) x1 x2 x3 t = some z at h
      unfold m_Model_keepScan_163b at h
      by_cases c168 : (t.1 18) < x3
      · rw [if_pos c168] at h
        exact EqX.tr EqX.rf (hK93 x1 (x2 + 1) t h)
      · rw [if_neg c168] at h
        obtain ⟨b182, h⟩ := j_ifn h
        obtain ⟨b190, h⟩ := j_ifn h
        exact EqX.tr (EqX.h EqX.rf (by decide)) (ih x1 x2 (x3 + 1) (sH t 13 ((((64 : Int32) * ((t.2.1 14) (x2).toNatClampNeg)) + x3)).toNatClampNeg (t.1 20)) h)
  have G93 : ∀ (k : Nat) (x1 : Int32) (x2 : Int32) (t : St), m_Model_keepScan_93 n  k x1 x2 t = some z → EqX [2, 3, 4, 14] [12, 13] [] t z := by
    intro k
    induction k with
    | zero => intro x1 x2 t h; exact absurd (show none = some z from h) (by simp)
    | succ k ih =>
      intro x1 x2 t h
      change m_Model_keepScan_93b n  (m_Model_keepScan_93 n  k) x1 x2 t = some z at h
      unfold m_Model_keepScan_93b at h
      by_cases c98 : (t.1 15) ≤ x2
      · rw [if_pos c98] at h
        obtain ⟨z205, hz205, h⟩ := j_bind h
        exact EqX.cast (EqX.tr EqX.rf (EqX.mono (x_Model_readData hz205) (by decide) (by decide) (by decide))) (j_s h)
      · rw [if_neg c98] at h
        obtain ⟨b118, h⟩ := j_ifn h
        obtain ⟨b119, h⟩ := j_ifn h
        obtain ⟨b137, h⟩ := j_ifn h
        obtain ⟨w138, hw138, h⟩ := j_bind h
        obtain ⟨b138, h⟩ := j_ifn h
        obtain ⟨b156, h⟩ := j_ifn h
        obtain ⟨w157, hw157, h⟩ := j_bind h
        obtain ⟨b157, h⟩ := j_ifn h
        exact EqX.tr (EqX.h (EqX.cast (EqX.h (EqX.cast (EqX.h EqX.rf (by decide)) (j_s hw138)) (by decide)) (j_s hw157)) (by decide)) (G163 (m_Model_keepScan_93 n  k) ih n x1 x2 (w157.1 17) (sH w157 12 (((x1 + (12 : Int32)) + ((4 : Int32) * x2))).toNatClampNeg ((w138.2.1 16) (x2).toNatClampNeg)) h)
  unfold m_Model_keepScan at h
  obtain ⟨b17, h⟩ := j_ifn h
  obtain ⟨w29, hw29, h⟩ := j_bind h
  obtain ⟨b29, h⟩ := j_ifn h
  obtain ⟨w41, hw41, h⟩ := j_bind h
  obtain ⟨b41, h⟩ := j_ifn h
  obtain ⟨w53, hw53, h⟩ := j_bind h
  obtain ⟨b53, h⟩ := j_ifn h
  obtain ⟨w65, hw65, h⟩ := j_bind h
  obtain ⟨b65, h⟩ := j_ifn h
  obtain ⟨w77, hw77, h⟩ := j_bind h
  obtain ⟨b77, h⟩ := j_ifn h
  obtain ⟨w90, hw90, h⟩ := j_bind h
  obtain ⟨b90, h⟩ := j_ifn h
  exact EqX.tr (EqX.h (EqX.cast (EqX.h (EqX.cast (EqX.h (EqX.cast (EqX.h (EqX.cast (EqX.h (EqX.cast (EqX.h (EqX.cast (EqX.h EqX.rf (by decide)) (j_s hw29)) (by decide)) (j_s hw41)) (by decide)) (j_s hw53)) (by decide)) (j_s hw65)) (by decide)) (j_s hw77)) (by decide)) (j_s hw90)) (by decide)) (G93  n ((30 : Int32) * (t.1 14)) (0 : Int32) (sH w90 12 ((((30 : Int32) * (t.1 14)) + (8 : Int32))).toNatClampNeg (w77.1 13)) h)
theorem x_Model_segment1 {n : Nat} {x1 : Int32} {t : St} {z : Int32 × St} (h : m_Model_segment1 n x1 t = some z) : EqX [2, 3, 4, 5, 8, 9, 10, 11, 12, 13, 14, 15, 16, 17, 18, 19, 20] [1, 2, 3, 4, 5, 6, 7, 8, 9, 10, 11, 12, 13, 14, 15, 16, 17, 18] [] t z.2 := by
  have G203 : ∀  (t : St), m_Model_segment1_203 n   t = some z → EqX [2, 3, 4, 5, 8, 9, 10, 11, 12, 13, 14, 15, 16, 17, 18, 19, 20] [1, 2, 3, 4, 5, 6, 7, 8, 9, 10, 11, 12, 13, 14, 15, 16, 17, 18] [] t z.2 := by
    intro  t h
    unfold m_Model_segment1_203 at h
    exact EqX.cast EqX.rf (j_r2 h)
  have G161 : ∀ (x1 : Int32) (t : St), m_Model_segment1_161 n  x1 t = some z → EqX [2, 3, 4, 5, 8, 9, 10, 11, 12, 13, 14, 15, 16, 17, 18, 19, 20] [1, 2, 3, 4, 5, 6, 7, 8, 9, 10, 11, 12, 13, 14, 15, 16, 17, 18] [] t z.2 := by
    intro x1 t h
    unfold m_Model_segment1_161 at h
    obtain ⟨z163, hz163, h⟩ := j_bind h
    by_cases c170 : x1 = (218 : Int32)
    · rw [if_pos c170] at h
      by_cases c177 : (z163.1 2) = 0
      · rw [if_pos c177] at h
        obtain ⟨z181, hz181, h⟩ := j_bind h
        by_cases c188 : (z181.1 11) = 0
        · rw [if_pos c188] at h
          by_cases c196 : (z181.1 14) = (1 : Int32)
          · rw [if_pos c196] at h
            exact EqX.cast (EqX.tr (EqX.tr EqX.rf (EqX.mono (x_Model_close hz163) (by decide) (by decide) (by decide))) (EqX.mono (x_Model_keepScan hz181) (by decide) (by decide) (by decide))) (j_r2 h)
          · rw [if_neg c196] at h
            exact EqX.tr (EqX.tr (EqX.tr EqX.rf (EqX.mono (x_Model_close hz163) (by decide) (by decide) (by decide))) (EqX.mono (x_Model_keepScan hz181) (by decide) (by decide) (by decide))) (G203  z181 h)
        · rw [if_neg c188] at h
          exact EqX.tr (EqX.tr (EqX.tr EqX.rf (EqX.mono (x_Model_close hz163) (by decide) (by decide) (by decide))) (EqX.mono (x_Model_keepScan hz181) (by decide) (by decide) (by decide))) (G203  z181 h)
      · rw [if_neg c177] at h
        exact EqX.cast (EqX.tr EqX.rf (EqX.mono (x_Model_close hz163) (by decide) (by decide) (by decide))) (j_r2 h)
    · rw [if_neg c170] at h
      exact EqX.cast (EqX.tr EqX.rf (EqX.mono (x_Model_close hz163) (by decide) (by decide) (by decide))) (j_r2 h)
  have G89 : ∀ (x1 : Int32) (t : St), m_Model_segment1_89 n  x1 t = some z → EqX [2, 3, 4, 5, 8, 9, 10, 11, 12, 13, 14, 15, 16, 17, 18, 19, 20] [1, 2, 3, 4, 5, 6, 7, 8, 9, 10, 11, 12, 13, 14, 15, 16, 17, 18] [] t z.2 := by
    intro x1 t h
    unfold m_Model_segment1_89 at h
    obtain ⟨z91, hz91, h⟩ := j_bind h
    exact EqX.tr (EqX.tr EqX.rf (EqX.mono (x_Model_readFrame hz91) (by decide) (by decide) (by decide))) (G161  x1 z91 h)
  have G146 : ∀ (x1 : Int32) (x2 : Int32) (y1 : Int32) (t : St), m_Model_segment1_146 n  x1 x2 y1 t = some z → EqX [2, 3, 4, 5, 8, 9, 10, 11, 12, 13, 14, 15, 16, 17, 18, 19, 20] [1, 2, 3, 4, 5, 6, 7, 8, 9, 10, 11, 12, 13, 14, 15, 16, 17, 18] [] t z.2 := by
    intro x1 x2 y1 t h
    unfold m_Model_segment1_146 at h
    obtain ⟨z146, hz146, h⟩ := j_bind h
    exact EqX.tr (EqX.g (EqX.tr EqX.rf (EqX.mono (x_Model_must hz146) (by decide) (by decide) (by decide))) (by decide)) (G161  x1 (sG z146 11 x2) h)
  have G141 : ∀ (x1 : Int32) (x2 : Int32) (t : St), m_Model_segment1_141 n  x1 x2 t = some z → EqX [2, 3, 4, 5, 8, 9, 10, 11, 12, 13, 14, 15, 16, 17, 18, 19, 20] [1, 2, 3, 4, 5, 6, 7, 8, 9, 10, 11, 12, 13, 14, 15, 16, 17, 18] [] t z.2 := by
    intro x1 x2 t h
    unfold m_Model_segment1_141 at h
    exact EqX.tr EqX.rf (G146  x1 x2 (1 : Int32) t h)
  have G145 : ∀ (x1 : Int32) (x2 : Int32) (t : St), m_Model_segment1_145 n  x1 x2 t = some z → EqX [2, 3, 4, 5, 8, 9, 10, 11, 12, 13, 14, 15, 16, 17, 18, 19, 20] [1, 2, 3, 4, 5, 6, 7, 8, 9, 10, 11, 12, 13, 14, 15, 16, 17, 18] [] t z.2 := by
    intro x1 x2 t h
    unfold m_Model_segment1_145 at h
    exact EqX.tr EqX.rf (G146  x1 x2 (0 : Int32) t h)
  have G69 : ∀ (x1 : Int32) (y1 : Int32) (t : St), m_Model_segment1_69 n  x1 y1 t = some z → EqX [2, 3, 4, 5, 8, 9, 10, 11, 12, 13, 14, 15, 16, 17, 18, 19, 20] [1, 2, 3, 4, 5, 6, 7, 8, 9, 10, 11, 12, 13, 14, 15, 16, 17, 18] [] t z.2 := by
    intro x1 y1 t h
    unfold m_Model_segment1_69 at h
    exact EqX.tr (EqX.g EqX.rf (by decide)) (G161  x1 (sG t 13 y1) h)
  unfold m_Model_segment1 at h
  obtain ⟨z1, hz1, h⟩ := j_bind h
  by_cases c8 : (z1.1 2) ≤ 0
  · rw [if_pos c8] at h
    by_cases c17 : x1 = (219 : Int32)
    · rw [if_pos c17] at h
      obtain ⟨z21, hz21, h⟩ := j_bind h
      exact EqX.tr (EqX.tr (EqX.tr EqX.rf (EqX.mono (x_Model_open hz1) (by decide) (by decide) (by decide))) (EqX.mono (x_Model_readQuantisers hz21) (by decide) (by decide) (by decide))) (G161  x1 z21 h)
    · rw [if_neg c17] at h
      by_cases c31 : x1 = (196 : Int32)
      · rw [if_pos c31] at h
        obtain ⟨z35, hz35, h⟩ := j_bind h
        exact EqX.tr (EqX.tr (EqX.tr EqX.rf (EqX.mono (x_Model_open hz1) (by decide) (by decide) (by decide))) (EqX.mono (x_Model_readWords hz35) (by decide) (by decide) (by decide))) (G161  x1 z35 h)
      · rw [if_neg c31] at h
        by_cases c45 : x1 = (221 : Int32)
        · rw [if_pos c45] at h
          obtain ⟨z49, hz49, h⟩ := j_bind h
          by_cases c58 : (z49.2.1 2) = 0
          · rw [if_pos c58] at h
            exact EqX.tr (EqX.tr (EqX.tr EqX.rf (EqX.mono (x_Model_open hz1) (by decide) (by decide) (by decide))) (EqX.mono (x_Model_two hz49) (by decide) (by decide) (by decide))) (G69  x1 z49.1 z49.2 h)
          · rw [if_neg c58] at h
            exact EqX.tr (EqX.tr (EqX.tr EqX.rf (EqX.mono (x_Model_open hz1) (by decide) (by decide) (by decide))) (EqX.mono (x_Model_two hz49) (by decide) (by decide) (by decide))) (G69  x1 (z49.2.1 13) z49.2 h)
        · rw [if_neg c45] at h
          by_cases c79 : x1 = (192 : Int32)
          · rw [if_pos c79] at h
            exact EqX.tr (EqX.tr EqX.rf (EqX.mono (x_Model_open hz1) (by decide) (by decide) (by decide))) (G89  x1 z1 h)
          · rw [if_neg c79] at h
            by_cases c86 : x1 = (194 : Int32)
            · rw [if_pos c86] at h
              exact EqX.tr (EqX.tr EqX.rf (EqX.mono (x_Model_open hz1) (by decide) (by decide) (by decide))) (G89  x1 z1 h)
            · rw [if_neg c86] at h
              by_cases c101 : x1 = (218 : Int32)
              · rw [if_pos c101] at h
                obtain ⟨z105, hz105, h⟩ := j_bind h
                exact EqX.tr (EqX.tr (EqX.tr EqX.rf (EqX.mono (x_Model_open hz1) (by decide) (by decide) (by decide))) (EqX.mono (x_Model_readScan hz105) (by decide) (by decide) (by decide))) (G161  x1 z105 h)
              · rw [if_neg c101] at h
                by_cases c115 : x1 = (220 : Int32)
                · rw [if_pos c115] at h
                  obtain ⟨z119, hz119, h⟩ := j_bind h
                  by_cases c128 : 0 < (z119.2.1 2)
                  · rw [if_pos c128] at h
                    exact EqX.tr (EqX.tr (EqX.tr EqX.rf (EqX.mono (x_Model_open hz1) (by decide) (by decide) (by decide))) (EqX.mono (x_Model_two hz119) (by decide) (by decide) (by decide))) (G141  x1 z119.1 z119.2 h)
                  · rw [if_neg c128] at h
                    by_cases c132 : z119.1 ≤ 0
                    · rw [if_pos c132] at h
                      exact EqX.tr (EqX.tr (EqX.tr EqX.rf (EqX.mono (x_Model_open hz1) (by decide) (by decide) (by decide))) (EqX.mono (x_Model_two hz119) (by decide) (by decide) (by decide))) (G145  x1 z119.1 z119.2 h)
                    · rw [if_neg c132] at h
                      by_cases c138 : (64 : Int32) < z119.1
                      · rw [if_pos c138] at h
                        exact EqX.tr (EqX.tr (EqX.tr EqX.rf (EqX.mono (x_Model_open hz1) (by decide) (by decide) (by decide))) (EqX.mono (x_Model_two hz119) (by decide) (by decide) (by decide))) (G145  x1 z119.1 z119.2 h)
                      · rw [if_neg c138] at h
                        exact EqX.tr (EqX.tr (EqX.tr EqX.rf (EqX.mono (x_Model_open hz1) (by decide) (by decide) (by decide))) (EqX.mono (x_Model_two hz119) (by decide) (by decide) (by decide))) (G141  x1 z119.1 z119.2 h)
                · rw [if_neg c115] at h
                  obtain ⟨z158, hz158, h⟩ := j_bind h
                  exact EqX.tr (EqX.tr (EqX.tr EqX.rf (EqX.mono (x_Model_open hz1) (by decide) (by decide) (by decide))) (EqX.mono (x_Model_any hz158) (by decide) (by decide) (by decide))) (G161  x1 z158 h)
  · rw [if_neg c8] at h
    exact EqX.cast (EqX.tr EqX.rf (EqX.mono (x_Model_open hz1) (by decide) (by decide) (by decide))) (j_r2 h)
theorem x_Model_readFile {n : Nat}  {t : St} {z : St} (h : m_Model_readFile n t = some z) : EqX [2, 3, 4, 5, 6, 7, 8, 9, 10, 11, 12, 13, 14, 15, 16, 17, 18, 19, 20] [1, 2, 3, 4, 5, 6, 7, 8, 9, 10, 11, 12, 13, 14, 15, 16, 17, 18] [] t z := by
  have G273 : ∀ (K56 : Int32 → Int32 → St → Option (St)) (hK56 : ∀ (x2 : Int32) (x3 : Int32) (t : St), K56 x2 x3 t = some z → EqX [2, 3, 4, 5, 6, 7, 8, 9, 10, 11, 12, 13, 14, 15, 16, 17, 18, 19, 20] [1, 2, 3, 4, 5, 6, 7, 8, 9, 10, 11, 12, 13, 14, 15, 16, 17, 18] [] t z) (x2 : Int32) (x3 : Int32) (t : St), m_Model_readFile_273 n K56 x2 x3 t = some z → EqX [2, 3, 4, 5, 6, 7, 8, 9, 10, 11, 12, 13, 14, 15, 16, 17, 18, 19, 20] [1, 2, 3, 4, 5, 6, 7, 8, 9, 10, 11, 12, 13, 14, 15, 16, 17, 18] [] t z := by
    intro K56 hK56 x2 x3 t h
    unfold m_Model_readFile_273 at h
    exact EqX.tr EqX.rf (hK56 x2 x3 t h)
  have G259 : ∀ (K56 : Int32 → Int32 → St → Option (St)) (hK56 : ∀ (x2 : Int32) (x3 : Int32) (t : St), K56 x2 x3 t = some z → EqX [2, 3, 4, 5, 6, 7, 8, 9, 10, 11, 12, 13, 14, 15, 16, 17, 18, 19, 20] [1, 2, 3, 4, 5, 6, 7, 8, 9, 10, 11, 12, 13, 14, 15, 16, 17, 18] [] t z) (x2 : Int32) (x3 : Int32) (x4 : Int32) (t : St), m_Model_readFile_259 n K56 x2 x3 x4 t = some z → EqX [2, 3, 4, 5, 6, 7, 8, 9, 10, 11, 12, 13, 14, 15, 16, 17, 18, 19, 20] [1, 2, 3, 4, 5, 6, 7, 8, 9, 10, 11, 12, 13, 14, 15, 16, 17, 18] [] t z := by
    intro K56 hK56 x2 x3 x4 t h
    unfold m_Model_readFile_259 at h
    by_cases c263 : (t.1 2) = 0
    · rw [if_pos c263] at h
      obtain ⟨z269, hz269, h⟩ := j_bind h
      exact EqX.tr (EqX.tr EqX.rf (EqX.mono (x_Model_segment1 hz269) (by decide) (by decide) (by decide))) (G273 K56 hK56 z269.1 x3 z269.2 h)
    · rw [if_neg c263] at h
      exact EqX.tr EqX.rf (G273 K56 hK56 x2 x3 t h)
  have G231 : ∀ (K56 : Int32 → Int32 → St → Option (St)) (hK56 : ∀ (x2 : Int32) (x3 : Int32) (t : St), K56 x2 x3 t = some z → EqX [2, 3, 4, 5, 6, 7, 8, 9, 10, 11, 12, 13, 14, 15, 16, 17, 18, 19, 20] [1, 2, 3, 4, 5, 6, 7, 8, 9, 10, 11, 12, 13, 14, 15, 16, 17, 18] [] t z) (x2 : Int32) (x3 : Int32) (x4 : Int32) (t : St), m_Model_readFile_231 n K56 x2 x3 x4 t = some z → EqX [2, 3, 4, 5, 6, 7, 8, 9, 10, 11, 12, 13, 14, 15, 16, 17, 18, 19, 20] [1, 2, 3, 4, 5, 6, 7, 8, 9, 10, 11, 12, 13, 14, 15, 16, 17, 18] [] t z := by
    intro K56 hK56 x2 x3 x4 t h
    unfold m_Model_readFile_231 at h
    by_cases c235 : (t.1 2) = 0
    · rw [if_pos c235] at h
      by_cases c243 : x4 = (217 : Int32)
      · rw [if_pos c243] at h
        exact EqX.tr (EqX.g EqX.rf (by decide)) (G273 K56 hK56 x2 (0 : Int32) (sG t 7 (t.1 4)) h)
      · rw [if_neg c243] at h
        exact EqX.tr EqX.rf (G259 K56 hK56 x2 x3 x4 t h)
    · rw [if_neg c235] at h
      exact EqX.tr EqX.rf (G259 K56 hK56 x2 x3 x4 t h)
  have G222 : ∀ (K56 : Int32 → Int32 → St → Option (St)) (hK56 : ∀ (x2 : Int32) (x3 : Int32) (t : St), K56 x2 x3 t = some z → EqX [2, 3, 4, 5, 6, 7, 8, 9, 10, 11, 12, 13, 14, 15, 16, 17, 18, 19, 20] [1, 2, 3, 4, 5, 6, 7, 8, 9, 10, 11, 12, 13, 14, 15, 16, 17, 18] [] t z) (x2 : Int32) (x3 : Int32) (x4 : Int32) (x5 : Int32) (t : St), m_Model_readFile_222 n K56 x2 x3 x4 x5 t = some z → EqX [2, 3, 4, 5, 6, 7, 8, 9, 10, 11, 12, 13, 14, 15, 16, 17, 18, 19, 20] [1, 2, 3, 4, 5, 6, 7, 8, 9, 10, 11, 12, 13, 14, 15, 16, 17, 18] [] t z := by
    intro K56 hK56 x2 x3 x4 x5 t h
    unfold m_Model_readFile_222 at h
    obtain ⟨z226, hz226, h⟩ := j_bind h
    exact EqX.tr (EqX.tr EqX.rf (EqX.mono (x_Model_wrong hz226) (by decide) (by decide) (by decide))) (G231 K56 hK56 x2 x3 x4 z226.2 h)
  have G192 : ∀ (K56 : Int32 → Int32 → St → Option (St)) (hK56 : ∀ (x2 : Int32) (x3 : Int32) (t : St), K56 x2 x3 t = some z → EqX [2, 3, 4, 5, 6, 7, 8, 9, 10, 11, 12, 13, 14, 15, 16, 17, 18, 19, 20] [1, 2, 3, 4, 5, 6, 7, 8, 9, 10, 11, 12, 13, 14, 15, 16, 17, 18] [] t z) (x2 : Int32) (x3 : Int32) (x4 : Int32) (x5 : Int32) (x6 : Int32) (y0 : Int32) (t : St), m_Model_readFile_192 n K56 x2 x3 x4 x5 x6 y0 t = some z → EqX [2, 3, 4, 5, 6, 7, 8, 9, 10, 11, 12, 13, 14, 15, 16, 17, 18, 19, 20] [1, 2, 3, 4, 5, 6, 7, 8, 9, 10, 11, 12, 13, 14, 15, 16, 17, 18] [] t z := by
    intro K56 hK56 x2 x3 x4 x5 x6 y0 t h
    unfold m_Model_readFile_192 at h
    by_cases c198 : (t.1 2) = 0
    · rw [if_pos c198] at h
      by_cases c203 : x6 = 0
      · rw [if_pos c203] at h
        by_cases c219 : y0 = 0
        · rw [if_pos c219] at h
          exact EqX.tr EqX.rf (G222 K56 hK56 x2 x3 x4 x5 t h)
        · rw [if_neg c219] at h
          exact EqX.tr EqX.rf (G231 K56 hK56 x2 x3 x4 t h)
      · rw [if_neg c203] at h
        by_cases c211 : x4 = (220 : Int32)
        · rw [if_pos c211] at h
          exact EqX.tr EqX.rf (G231 K56 hK56 x2 x3 x4 t h)
        · rw [if_neg c211] at h
          exact EqX.tr EqX.rf (G222 K56 hK56 x2 x3 x4 x5 t h)
    · rw [if_neg c198] at h
      exact EqX.tr EqX.rf (G231 K56 hK56 x2 x3 x4 t h)
  have G187 : ∀ (K56 : Int32 → Int32 → St → Option (St)) (hK56 : ∀ (x2 : Int32) (x3 : Int32) (t : St), K56 x2 x3 t = some z → EqX [2, 3, 4, 5, 6, 7, 8, 9, 10, 11, 12, 13, 14, 15, 16, 17, 18, 19, 20] [1, 2, 3, 4, 5, 6, 7, 8, 9, 10, 11, 12, 13, 14, 15, 16, 17, 18] [] t z) (x2 : Int32) (x3 : Int32) (x4 : Int32) (x5 : Int32) (x6 : Int32) (t : St), m_Model_readFile_187 n K56 x2 x3 x4 x5 x6 t = some z → EqX [2, 3, 4, 5, 6, 7, 8, 9, 10, 11, 12, 13, 14, 15, 16, 17, 18, 19, 20] [1, 2, 3, 4, 5, 6, 7, 8, 9, 10, 11, 12, 13, 14, 15, 16, 17, 18] [] t z := by
    intro K56 hK56 x2 x3 x4 x5 x6 t h
    unfold m_Model_readFile_187 at h
    exact EqX.tr EqX.rf (G192 K56 hK56 x2 x3 x4 x5 x6 (1 : Int32) t h)
  have G191 : ∀ (K56 : Int32 → Int32 → St → Option (St)) (hK56 : ∀ (x2 : Int32) (x3 : Int32) (t : St), K56 x2 x3 t = some z → EqX [2, 3, 4, 5, 6, 7, 8, 9, 10, 11, 12, 13, 14, 15, 16, 17, 18, 19, 20] [1, 2, 3, 4, 5, 6, 7, 8, 9, 10, 11, 12, 13, 14, 15, 16, 17, 18] [] t z) (x2 : Int32) (x3 : Int32) (x4 : Int32) (x5 : Int32) (x6 : Int32) (t : St), m_Model_readFile_191 n K56 x2 x3 x4 x5 x6 t = some z → EqX [2, 3, 4, 5, 6, 7, 8, 9, 10, 11, 12, 13, 14, 15, 16, 17, 18, 19, 20] [1, 2, 3, 4, 5, 6, 7, 8, 9, 10, 11, 12, 13, 14, 15, 16, 17, 18] [] t z := by
    intro K56 hK56 x2 x3 x4 x5 x6 t h
    unfold m_Model_readFile_191 at h
    exact EqX.tr EqX.rf (G192 K56 hK56 x2 x3 x4 x5 x6 (0 : Int32) t h)
  have G172 : ∀ (K56 : Int32 → Int32 → St → Option (St)) (hK56 : ∀ (x2 : Int32) (x3 : Int32) (t : St), K56 x2 x3 t = some z → EqX [2, 3, 4, 5, 6, 7, 8, 9, 10, 11, 12, 13, 14, 15, 16, 17, 18, 19, 20] [1, 2, 3, 4, 5, 6, 7, 8, 9, 10, 11, 12, 13, 14, 15, 16, 17, 18] [] t z) (x2 : Int32) (x3 : Int32) (x4 : Int32) (x5 : Int32) (x6 : Int32) (t : St), m_Model_readFile_172 n K56 x2 x3 x4 x5 x6 t = some z → EqX [2, 3, 4, 5, 6, 7, 8, 9, 10, 11, 12, 13, 14, 15, 16, 17, 18, 19, 20] [1, 2, 3, 4, 5, 6, 7, 8, 9, 10, 11, 12, 13, 14, 15, 16, 17, 18] [] t z := by
    intro K56 hK56 x2 x3 x4 x5 x6 t h
    unfold m_Model_readFile_172 at h
    by_cases c177 : x4 = (218 : Int32)
    · rw [if_pos c177] at h
      by_cases c184 : (t.1 9) ≤ 0
      · rw [if_pos c184] at h
        exact EqX.tr EqX.rf (G191 K56 hK56 x2 x3 x4 x5 x6 t h)
      · rw [if_neg c184] at h
        exact EqX.tr EqX.rf (G187 K56 hK56 x2 x3 x4 x5 x6 t h)
    · rw [if_neg c177] at h
      exact EqX.tr EqX.rf (G191 K56 hK56 x2 x3 x4 x5 x6 t h)
  have G165 : ∀ (K56 : Int32 → Int32 → St → Option (St)) (hK56 : ∀ (x2 : Int32) (x3 : Int32) (t : St), K56 x2 x3 t = some z → EqX [2, 3, 4, 5, 6, 7, 8, 9, 10, 11, 12, 13, 14, 15, 16, 17, 18, 19, 20] [1, 2, 3, 4, 5, 6, 7, 8, 9, 10, 11, 12, 13, 14, 15, 16, 17, 18] [] t z) (x2 : Int32) (x3 : Int32) (x4 : Int32) (x5 : Int32) (x6 : Int32) (t : St), m_Model_readFile_165 n K56 x2 x3 x4 x5 x6 t = some z → EqX [2, 3, 4, 5, 6, 7, 8, 9, 10, 11, 12, 13, 14, 15, 16, 17, 18, 19, 20] [1, 2, 3, 4, 5, 6, 7, 8, 9, 10, 11, 12, 13, 14, 15, 16, 17, 18] [] t z := by
    intro K56 hK56 x2 x3 x4 x5 x6 t h
    unfold m_Model_readFile_165 at h
    by_cases c169 : (t.1 9) = 0
    · rw [if_pos c169] at h
      exact EqX.tr EqX.rf (G187 K56 hK56 x2 x3 x4 x5 x6 t h)
    · rw [if_neg c169] at h
      exact EqX.tr EqX.rf (G172 K56 hK56 x2 x3 x4 x5 x6 t h)
  have G117 : ∀ (K56 : Int32 → Int32 → St → Option (St)) (hK56 : ∀ (x2 : Int32) (x3 : Int32) (t : St), K56 x2 x3 t = some z → EqX [2, 3, 4, 5, 6, 7, 8, 9, 10, 11, 12, 13, 14, 15, 16, 17, 18, 19, 20] [1, 2, 3, 4, 5, 6, 7, 8, 9, 10, 11, 12, 13, 14, 15, 16, 17, 18] [] t z) (x2 : Int32) (x3 : Int32) (x4 : Int32) (x5 : Int32) (x6 : Int32) (t : St), m_Model_readFile_117 n K56 x2 x3 x4 x5 x6 t = some z → EqX [2, 3, 4, 5, 6, 7, 8, 9, 10, 11, 12, 13, 14, 15, 16, 17, 18, 19, 20] [1, 2, 3, 4, 5, 6, 7, 8, 9, 10, 11, 12, 13, 14, 15, 16, 17, 18] [] t z := by
    intro K56 hK56 x2 x3 x4 x5 x6 t h
    unfold m_Model_readFile_117 at h
    by_cases c122 : x4 = (254 : Int32)
    · rw [if_pos c122] at h
      exact EqX.tr EqX.rf (G187 K56 hK56 x2 x3 x4 x5 x6 t h)
    · rw [if_neg c122] at h
      by_cases c130 : x4 = (219 : Int32)
      · rw [if_pos c130] at h
        exact EqX.tr EqX.rf (G187 K56 hK56 x2 x3 x4 x5 x6 t h)
      · rw [if_neg c130] at h
        by_cases c138 : x4 = (196 : Int32)
        · rw [if_pos c138] at h
          exact EqX.tr EqX.rf (G187 K56 hK56 x2 x3 x4 x5 x6 t h)
        · rw [if_neg c138] at h
          by_cases c146 : x4 = (221 : Int32)
          · rw [if_pos c146] at h
            exact EqX.tr EqX.rf (G187 K56 hK56 x2 x3 x4 x5 x6 t h)
          · rw [if_neg c146] at h
            by_cases c154 : x4 = (192 : Int32)
            · rw [if_pos c154] at h
              exact EqX.tr EqX.rf (G165 K56 hK56 x2 x3 x4 x5 x6 t h)
            · rw [if_neg c154] at h
              by_cases c162 : x4 = (194 : Int32)
              · rw [if_pos c162] at h
                exact EqX.tr EqX.rf (G165 K56 hK56 x2 x3 x4 x5 x6 t h)
              · rw [if_neg c162] at h
                exact EqX.tr EqX.rf (G172 K56 hK56 x2 x3 x4 x5 x6 t h)
  have G101 : ∀ (K56 : Int32 → Int32 → St → Option (St)) (hK56 : ∀ (x2 : Int32) (x3 : Int32) (t : St), K56 x2 x3 t = some z → EqX [2, 3, 4, 5, 6, 7, 8, 9, 10, 11, 12, 13, 14, 15, 16, 17, 18, 19, 20] [1, 2, 3, 4, 5, 6, 7, 8, 9, 10, 11, 12, 13, 14, 15, 16, 17, 18] [] t z) (x2 : Int32) (x3 : Int32) (x4 : Int32) (x5 : Int32) (x6 : Int32) (t : St), m_Model_readFile_101 n K56 x2 x3 x4 x5 x6 t = some z → EqX [2, 3, 4, 5, 6, 7, 8, 9, 10, 11, 12, 13, 14, 15, 16, 17, 18, 19, 20] [1, 2, 3, 4, 5, 6, 7, 8, 9, 10, 11, 12, 13, 14, 15, 16, 17, 18] [] t z := by
    intro K56 hK56 x2 x3 x4 x5 x6 t h
    unfold m_Model_readFile_101 at h
    by_cases c106 : x4 < (224 : Int32)
    · rw [if_pos c106] at h
      exact EqX.tr EqX.rf (G117 K56 hK56 x2 x3 x4 x5 x6 t h)
    · rw [if_neg c106] at h
      by_cases c114 : x4 ≤ (239 : Int32)
      · rw [if_pos c114] at h
        exact EqX.tr EqX.rf (G187 K56 hK56 x2 x3 x4 x5 x6 t h)
      · rw [if_neg c114] at h
        exact EqX.tr EqX.rf (G117 K56 hK56 x2 x3 x4 x5 x6 t h)
  have G56 : ∀ (k : Nat) (x2 : Int32) (x3 : Int32) (t : St), m_Model_readFile_56 n  k x2 x3 t = some z → EqX [2, 3, 4, 5, 6, 7, 8, 9, 10, 11, 12, 13, 14, 15, 16, 17, 18, 19, 20] [1, 2, 3, 4, 5, 6, 7, 8, 9, 10, 11, 12, 13, 14, 15, 16, 17, 18] [] t z := by
    intro k
    induction k with
    | zero => intro x2 x3 t h; exact absurd (show none = some z from h) (by simp)
    | succ k ih =>
      intro x2 x3 t h
      change m_Model_readFile_56b n  (m_Model_readFile_56 n  k) x2 x3 t = some z at h
      unfold m_Model_readFile_56b at h
      by_cases c57 : x3 = 0
      · rw [if_pos c57] at h
        exact EqX.cast EqX.rf (j_s h)
      · rw [if_neg c57] at h
        by_cases c64 : (t.1 2) = 0
        · rw [if_pos c64] at h
          obtain ⟨z68, hz68, h⟩ := j_bind h
          by_cases c91 : z68.1 = (217 : Int32)
          · rw [if_pos c91] at h
            obtain ⟨z95, hz95, h⟩ := j_bind h
            by_cases c98 : z95.1 = 0
            · rw [if_pos c98] at h
              exact EqX.tr (EqX.tr (EqX.tr EqX.rf (EqX.mono (x_Model_marker hz68) (by decide) (by decide) (by decide))) (EqX.mono (x_Model_isSent hz95) (by decide) (by decide) (by decide))) (G101 (m_Model_readFile_56 n  k) ih (0 : Int32) x3 z68.1 ((z68.2.1 4) - (1 : Int32)) x2 z95.2 h)
            · rw [if_neg c98] at h
              exact EqX.tr (EqX.tr (EqX.tr EqX.rf (EqX.mono (x_Model_marker hz68) (by decide) (by decide) (by decide))) (EqX.mono (x_Model_isSent hz95) (by decide) (by decide) (by decide))) (G187 (m_Model_readFile_56 n  k) ih (0 : Int32) x3 z68.1 ((z68.2.1 4) - (1 : Int32)) x2 z95.2 h)
          · rw [if_neg c91] at h
            exact EqX.tr (EqX.tr EqX.rf (EqX.mono (x_Model_marker hz68) (by decide) (by decide) (by decide))) (G101 (m_Model_readFile_56 n  k) ih (0 : Int32) x3 z68.1 ((z68.2.1 4) - (1 : Int32)) x2 z68.2 h)
        · rw [if_neg c64] at h
          exact EqX.cast EqX.rf (j_s h)
  have G52 : ∀  (t : St), m_Model_readFile_52 n   t = some z → EqX [2, 3, 4, 5, 6, 7, 8, 9, 10, 11, 12, 13, 14, 15, 16, 17, 18, 19, 20] [1, 2, 3, 4, 5, 6, 7, 8, 9, 10, 11, 12, 13, 14, 15, 16, 17, 18] [] t z := by
    intro  t h
    unfold m_Model_readFile_52 at h
    exact EqX.tr EqX.rf (G56  n (0 : Int32) (1 : Int32) t h)
  have G26 : ∀  (t : St), m_Model_readFile_26 n   t = some z → EqX [2, 3, 4, 5, 6, 7, 8, 9, 10, 11, 12, 13, 14, 15, 16, 17, 18, 19, 20] [1, 2, 3, 4, 5, 6, 7, 8, 9, 10, 11, 12, 13, 14, 15, 16, 17, 18] [] t z := by
    intro  t h
    unfold m_Model_readFile_26 at h
    obtain ⟨z27, hz27, h⟩ := j_bind h
    by_cases c35 : (z27.2.1 2) = 0
    · rw [if_pos c35] at h
      by_cases c42 : z27.1 = (216 : Int32)
      · rw [if_pos c42] at h
        exact EqX.tr (EqX.tr EqX.rf (EqX.mono (x_Model_next hz27) (by decide) (by decide) (by decide))) (G52  z27.2 h)
      · rw [if_neg c42] at h
        obtain ⟨z48, hz48, h⟩ := j_bind h
        exact EqX.tr (EqX.tr (EqX.tr EqX.rf (EqX.mono (x_Model_next hz27) (by decide) (by decide) (by decide))) (EqX.mono (x_Model_wrong hz48) (by decide) (by decide) (by decide))) (G52  z48.2 h)
    · rw [if_neg c35] at h
      exact EqX.tr (EqX.tr EqX.rf (EqX.mono (x_Model_next hz27) (by decide) (by decide) (by decide))) (G52  z27.2 h)
  unfold m_Model_readFile at h
  obtain ⟨z1, hz1, h⟩ := j_bind h
  by_cases c9 : (z1.2.1 2) = 0
  · rw [if_pos c9] at h
    by_cases c16 : z1.1 = (255 : Int32)
    · rw [if_pos c16] at h
      exact EqX.tr (EqX.tr EqX.rf (EqX.mono (x_Model_next hz1) (by decide) (by decide) (by decide))) (G26  z1.2 h)
    · rw [if_neg c16] at h
      obtain ⟨z22, hz22, h⟩ := j_bind h
      exact EqX.tr (EqX.tr (EqX.tr EqX.rf (EqX.mono (x_Model_next hz1) (by decide) (by decide) (by decide))) (EqX.mono (x_Model_wrong hz22) (by decide) (by decide) (by decide))) (G26  z22.2 h)
  · rw [if_neg c9] at h
    exact EqX.tr (EqX.tr EqX.rf (EqX.mono (x_Model_next hz1) (by decide) (by decide) (by decide))) (G26  z1.2 h)
theorem x_Model_read {n : Nat}  {t : St} {z : Int32 × St} (h : m_Model_read n t = some z) : EqX [0, 2, 3, 4, 5, 6, 7, 8, 9, 10, 11, 12, 13, 14, 15, 16, 17, 18, 19, 20] [1, 2, 3, 4, 5, 6, 7, 8, 9, 10, 11, 12, 13, 14, 15, 16, 17, 18] [] t z.2 := by
  unfold m_Model_read at h
  obtain ⟨z16, hz16, h⟩ := j_bind h
  obtain ⟨z30, hz30, h⟩ := j_bind h
  by_cases c37 : (z30.1 2) ≤ 0
  · rw [if_pos c37] at h
    exact EqX.cast (EqX.tr (EqX.g (EqX.g (EqX.tr (EqX.g (EqX.g (EqX.g EqX.rf (by decide)) (by decide)) (by decide)) (EqX.mono (x_Model_forget hz16) (by decide) (by decide) (by decide))) (by decide)) (by decide)) (EqX.mono (x_Model_readFile hz30) (by decide) (by decide) (by decide))) (j_r2 h)
  · rw [if_neg c37] at h
    obtain ⟨z41, hz41, h⟩ := j_bind h
    exact EqX.cast (EqX.tr (EqX.tr (EqX.g (EqX.g (EqX.tr (EqX.g (EqX.g (EqX.g EqX.rf (by decide)) (by decide)) (by decide)) (EqX.mono (x_Model_forget hz16) (by decide) (by decide) (by decide))) (by decide)) (by decide)) (EqX.mono (x_Model_readFile hz30) (by decide) (by decide) (by decide))) (EqX.mono (x_Model_forget hz41) (by decide) (by decide) (by decide))) (j_r2 h)
theorem x_Model_segment {n : Nat} {x1 : Int32} {x2 : Int32} {t : St} {z : Int32 × St} (h : m_Model_segment n x1 x2 t = some z) : EqX [0] [] [] t z.2 := by
  have G26 : ∀  (t : St), m_Model_segment_26 n   t = some z → EqX [0] [] [] t z.2 := by
    intro  t h
    unfold m_Model_segment_26 at h
    exact EqX.cast EqX.rf (j_r2 h)
  unfold m_Model_segment at h
  by_cases c6 : x1 < 0
  · rw [if_pos c6] at h
    exact EqX.tr (EqX.g EqX.rf (by decide)) (G26  (sG t 0 (0 : Int32)) h)
  · rw [if_neg c6] at h
    by_cases c14 : (t.1 8) ≤ x1
    · rw [if_pos c14] at h
      exact EqX.tr (EqX.g EqX.rf (by decide)) (G26  (sG t 0 (0 : Int32)) h)
    · rw [if_neg c14] at h
      by_cases c18 : x2 < 0
      · rw [if_pos c18] at h
        exact EqX.tr (EqX.g EqX.rf (by decide)) (G26  (sG t 0 (0 : Int32)) h)
      · rw [if_neg c18] at h
        by_cases c23 : x2 ≤ (3 : Int32)
        · rw [if_pos c23] at h
          obtain ⟨b39, h⟩ := j_ifn h
          exact EqX.cast (EqX.g EqX.rf (by decide)) (j_r2 h)
        · rw [if_neg c23] at h
          exact EqX.tr (EqX.g EqX.rf (by decide)) (G26  (sG t 0 (0 : Int32)) h)
theorem x_Model_frame {n : Nat} {x1 : Int32} {t : St} {z : Int32 × St} (h : m_Model_frame n x1 t = some z) : EqX [0] [] [] t z.2 := by
  have G75 : ∀ (K21 : Int32 → Int32 → Int32 → Int32 → St → Option (Int32 × St)) (hK21 : ∀ (x1 : Int32) (x2 : Int32) (x3 : Int32) (x4 : Int32) (t : St), K21 x1 x2 x3 x4 t = some z → EqX [0] [] [] t z.2) (x1 : Int32) (x2 : Int32) (x4 : Int32) (y0 : Int32) (t : St), m_Model_frame_75 n K21 x1 x2 x4 y0 t = some z → EqX [0] [] [] t z.2 := by
    intro K21 hK21 x1 x2 x4 y0 t h
    unfold m_Model_frame_75 at h
    exact EqX.tr EqX.rf (hK21 x1 x2 y0 (x4 + 1) t h)
  have G52 : ∀ (K21 : Int32 → Int32 → Int32 → Int32 → St → Option (Int32 × St)) (hK21 : ∀ (x1 : Int32) (x2 : Int32) (x3 : Int32) (x4 : Int32) (t : St), K21 x1 x2 x3 x4 t = some z → EqX [0] [] [] t z.2) (x1 : Int32) (x3 : Int32) (x4 : Int32) (y0 : Int32) (t : St), m_Model_frame_52 n K21 x1 x3 x4 y0 t = some z → EqX [0] [] [] t z.2 := by
    intro K21 hK21 x1 x3 x4 y0 t h
    unfold m_Model_frame_52 at h
    obtain ⟨b59, h⟩ := j_ifn h
    by_cases c61 : ((t.2.1 4) (x4).toNatClampNeg) ≤ x3
    · rw [if_pos c61] at h
      exact EqX.tr EqX.rf (G75 K21 hK21 x1 y0 x4 x3 t h)
    · rw [if_neg c61] at h
      obtain ⟨b70, h⟩ := j_ifn h
      exact EqX.tr EqX.rf (G75 K21 hK21 x1 y0 x4 ((t.2.1 4) (x4).toNatClampNeg) t h)
  have G21 : ∀ (k : Nat) (x1 : Int32) (x2 : Int32) (x3 : Int32) (x4 : Int32) (t : St), m_Model_frame_21 n  k x1 x2 x3 x4 t = some z → EqX [0] [] [] t z.2 := by
    intro k
    induction k with
    | zero => intro x1 x2 x3 x4 t h; exact absurd (show none = some z from h) (by simp)
    | succ k ih =>
      intro x1 x2 x3 x4 t h
      change m_Model_frame_21b n  (m_Model_frame_21 n  k) x1 x2 x3 x4 t = some z at h
      unfold m_Model_frame_21b at h
      by_cases c27 : (t.1 12) ≤ x4
      · rw [if_pos c27] at h
        by_cases c83 : x1 = 0
        · rw [if_pos c83] at h
          exact EqX.cast EqX.rf (j_r2 h)
        · rw [if_neg c83] at h
          by_cases c95 : x1 = (1 : Int32)
          · rw [if_pos c95] at h
            exact EqX.cast EqX.rf (j_r2 h)
          · rw [if_neg c95] at h
            by_cases c107 : x1 = (2 : Int32)
            · rw [if_pos c107] at h
              exact EqX.cast EqX.rf (j_r2 h)
            · rw [if_neg c107] at h
              by_cases c119 : x1 = (3 : Int32)
              · rw [if_pos c119] at h
                exact EqX.cast EqX.rf (j_r2 h)
              · rw [if_neg c119] at h
                by_cases c131 : x1 = (4 : Int32)
                · rw [if_pos c131] at h
                  exact EqX.cast EqX.rf (j_r2 h)
                · rw [if_neg c131] at h
                  by_cases c140 : x1 = (5 : Int32)
                  · rw [if_pos c140] at h
                    exact EqX.cast EqX.rf (j_r2 h)
                  · rw [if_neg c140] at h
                    exact EqX.cast EqX.rf (j_r2 h)
      · rw [if_neg c27] at h
        obtain ⟨b36, h⟩ := j_ifn h
        by_cases c38 : ((t.2.1 3) (x4).toNatClampNeg) ≤ x2
        · rw [if_pos c38] at h
          exact EqX.tr EqX.rf (G52 (m_Model_frame_21 n  k) ih x1 x3 x4 x2 t h)
        · rw [if_neg c38] at h
          obtain ⟨b47, h⟩ := j_ifn h
          exact EqX.tr EqX.rf (G52 (m_Model_frame_21 n  k) ih x1 x3 x4 ((t.2.1 3) (x4).toNatClampNeg) t h)
  unfold m_Model_frame at h
  by_cases c9 : (t.1 9) = 0
  · rw [if_pos c9] at h
    exact EqX.cast (EqX.g EqX.rf (by decide)) (j_r2 h)
  · rw [if_neg c9] at h
    exact EqX.tr (EqX.g EqX.rf (by decide)) (G21  n x1 (0 : Int32) (0 : Int32) (0 : Int32) (sG t 0 (0 : Int32)) h)
theorem x_Model_component {n : Nat} {x1 : Int32} {x2 : Int32} {t : St} {z : Int32 × St} (h : m_Model_component n x1 x2 t = some z) : EqX [0] [] [] t z.2 := by
  unfold m_Model_component at h
  by_cases c6 : x1 < 0
  · rw [if_pos c6] at h
    exact EqX.cast (EqX.g EqX.rf (by decide)) (j_r2 h)
  · rw [if_neg c6] at h
    by_cases c14 : x1 < (t.1 12)
    · rw [if_pos c14] at h
      by_cases c20 : x2 = 0
      · rw [if_pos c20] at h
        obtain ⟨b28, h⟩ := j_ifn h
        exact EqX.cast (EqX.g EqX.rf (by decide)) (j_r2 h)
      · rw [if_neg c20] at h
        by_cases c34 : x2 = (1 : Int32)
        · rw [if_pos c34] at h
          obtain ⟨b42, h⟩ := j_ifn h
          exact EqX.cast (EqX.g EqX.rf (by decide)) (j_r2 h)
        · rw [if_neg c34] at h
          by_cases c48 : x2 = (2 : Int32)
          · rw [if_pos c48] at h
            obtain ⟨b56, h⟩ := j_ifn h
            exact EqX.cast (EqX.g EqX.rf (by decide)) (j_r2 h)
          · rw [if_neg c48] at h
            by_cases c62 : x2 = (3 : Int32)
            · rw [if_pos c62] at h
              obtain ⟨b70, h⟩ := j_ifn h
              exact EqX.cast (EqX.g EqX.rf (by decide)) (j_r2 h)
            · rw [if_neg c62] at h
              exact EqX.cast (EqX.g EqX.rf (by decide)) (j_r2 h)
    · rw [if_neg c14] at h
      exact EqX.cast (EqX.g EqX.rf (by decide)) (j_r2 h)
theorem x_Model_scan {n : Nat} {x1 : Int32} {x2 : Int32} {t : St} {z : Int32 × St} (h : m_Model_scan n x1 x2 t = some z) : EqX [0] [] [] t z.2 := by
  have G77 : ∀ (x1 : Int32) (x2 : Int32) (y0 : Int32) (t : St), m_Model_scan_77 n  x1 x2 y0 t = some z → EqX [0] [] [] t z.2 := by
    intro x1 x2 y0 t h
    unfold m_Model_scan_77 at h
    by_cases c79 : y0 = 0
    · rw [if_pos c79] at h
      exact EqX.cast EqX.rf (j_r2 h)
    · rw [if_neg c79] at h
      obtain ⟨b98, h⟩ := j_ifn h
      exact EqX.cast EqX.rf (j_r2 h)
  have G76 : ∀ (x1 : Int32) (x2 : Int32) (t : St), m_Model_scan_76 n  x1 x2 t = some z → EqX [0] [] [] t z.2 := by
    intro x1 x2 t h
    unfold m_Model_scan_76 at h
    exact EqX.tr EqX.rf (G77  x1 x2 (0 : Int32) t h)
  unfold m_Model_scan at h
  by_cases c6 : x1 < 0
  · rw [if_pos c6] at h
    exact EqX.cast (EqX.g EqX.rf (by decide)) (j_r2 h)
  · rw [if_neg c6] at h
    by_cases c14 : (t.1 14) ≤ x1
    · rw [if_pos c14] at h
      exact EqX.cast (EqX.g EqX.rf (by decide)) (j_r2 h)
    · rw [if_neg c14] at h
      by_cases c18 : 0 ≤ x2
      · rw [if_pos c18] at h
        by_cases c26 : (9 : Int32) ≤ x2
        · rw [if_pos c26] at h
          by_cases c44 : x2 < (16 : Int32)
          · rw [if_pos c44] at h
            exact EqX.tr (EqX.g EqX.rf (by decide)) (G76  x1 x2 (sG t 0 (0 : Int32)) h)
          · rw [if_neg c44] at h
            obtain ⟨b61, h⟩ := j_ifn h
            by_cases c62 : ((t.2.1 12) (((30 : Int32) * x1)).toNatClampNeg) ≤ ((x2 - (16 : Int32)) / (4 : Int32))
            · rw [if_pos c62] at h
              exact EqX.tr (EqX.g EqX.rf (by decide)) (G76  x1 x2 (sG t 0 (0 : Int32)) h)
            · rw [if_neg c62] at h
              by_cases c69 : (3 : Int32) ≤ (x2 - x2 / (4 : Int32) * (4 : Int32))
              · rw [if_pos c69] at h
                exact EqX.tr (EqX.g EqX.rf (by decide)) (G76  x1 x2 (sG t 0 (0 : Int32)) h)
              · rw [if_neg c69] at h
                exact EqX.tr (EqX.g EqX.rf (by decide)) (G77  x1 x2 (1 : Int32) (sG t 0 (0 : Int32)) h)
        · rw [if_neg c26] at h
          obtain ⟨b39, h⟩ := j_ifn h
          exact EqX.cast (EqX.g EqX.rf (by decide)) (j_r2 h)
      · rw [if_neg c18] at h
        exact EqX.cast (EqX.g EqX.rf (by decide)) (j_r2 h)
theorem x_Model_data {n : Nat} {x1 : Int32} {x2 : Int32} {t : St} {z : Int32 × St} (h : m_Model_data n x1 x2 t = some z) : EqX [0] [] [] t z.2 := by
  have G130 : ∀ (K54 : Int32 → Int32 → Int32 → St → Option (Int32 × St)) (hK54 : ∀ (x3 : Int32) (x4 : Int32) (x5 : Int32) (t : St), K54 x3 x4 x5 t = some z → EqX [0] [] [] t z.2) (x4 : Int32) (x5 : Int32) (y0 : Int32) (y1 : Int32) (t : St), m_Model_data_130 n K54 x4 x5 y0 y1 t = some z → EqX [0] [] [] t z.2 := by
    intro K54 hK54 x4 x5 y0 y1 t h
    unfold m_Model_data_130 at h
    exact EqX.tr EqX.rf (hK54 (y0 + y1) x4 x5 t h)
  have G119 : ∀ (K54 : Int32 → Int32 → Int32 → St → Option (Int32 × St)) (hK54 : ∀ (x3 : Int32) (x4 : Int32) (x5 : Int32) (t : St), K54 x3 x4 x5 t = some z → EqX [0] [] [] t z.2) (x3 : Int32) (x4 : Int32) (x5 : Int32) (x6 : Int32) (t : St), m_Model_data_119 n K54 x3 x4 x5 x6 t = some z → EqX [0] [] [] t z.2 := by
    intro K54 hK54 x3 x4 x5 x6 t h
    unfold m_Model_data_119 at h
    by_cases c122 : x6 = 0
    · rw [if_pos c122] at h
      exact EqX.tr EqX.rf (G130 K54 hK54 x4 x5 x3 (1 : Int32) t h)
    · rw [if_neg c122] at h
      exact EqX.tr EqX.rf (G130 K54 hK54 x4 x5 x3 (2 : Int32) t h)
  have G98 : ∀ (K54 : Int32 → Int32 → Int32 → St → Option (Int32 × St)) (hK54 : ∀ (x3 : Int32) (x4 : Int32) (x5 : Int32) (t : St), K54 x3 x4 x5 t = some z → EqX [0] [] [] t z.2) (x3 : Int32) (x4 : Int32) (x5 : Int32) (x6 : Int32) (y0 : Int32) (t : St), m_Model_data_98 n K54 x3 x4 x5 x6 y0 t = some z → EqX [0] [] [] t z.2 := by
    intro K54 hK54 x3 x4 x5 x6 y0 t h
    unfold m_Model_data_98 at h
    by_cases c102 : y0 = 0
    · rw [if_pos c102] at h
      by_cases c107 : x5 = 0
      · rw [if_pos c107] at h
        obtain ⟨z112, hz112, h⟩ := j_bind h
        exact EqX.cast (EqX.tr EqX.rf (EqX.mono (x_Model_byteAt hz112) (by decide) (by decide) (by decide))) (j_r2 h)
      · rw [if_neg c107] at h
        exact EqX.tr EqX.rf (G119 K54 hK54 x3 x4 (x5 + (-1)) x6 t h)
    · rw [if_neg c102] at h
      exact EqX.tr EqX.rf (G119 K54 hK54 x3 x4 x5 x6 t h)
  have G97 : ∀ (K54 : Int32 → Int32 → Int32 → St → Option (Int32 × St)) (hK54 : ∀ (x3 : Int32) (x4 : Int32) (x5 : Int32) (t : St), K54 x3 x4 x5 t = some z → EqX [0] [] [] t z.2) (x3 : Int32) (x4 : Int32) (x5 : Int32) (x6 : Int32) (t : St), m_Model_data_97 n K54 x3 x4 x5 x6 t = some z → EqX [0] [] [] t z.2 := by
    intro K54 hK54 x3 x4 x5 x6 t h
    unfold m_Model_data_97 at h
    exact EqX.tr EqX.rf (G98 K54 hK54 x3 x4 x5 x6 (0 : Int32) t h)
  have G76 : ∀ (K54 : Int32 → Int32 → Int32 → St → Option (Int32 × St)) (hK54 : ∀ (x3 : Int32) (x4 : Int32) (x5 : Int32) (t : St), K54 x3 x4 x5 t = some z → EqX [0] [] [] t z.2) (x3 : Int32) (x4 : Int32) (x5 : Int32) (y0 : Int32) (t : St), m_Model_data_76 n K54 x3 x4 x5 y0 t = some z → EqX [0] [] [] t z.2 := by
    intro K54 hK54 x3 x4 x5 y0 t h
    unfold m_Model_data_76 at h
    by_cases c80 : y0 = 0
    · rw [if_pos c80] at h
      exact EqX.tr EqX.rf (G97 K54 hK54 x3 x4 x5 y0 t h)
    · rw [if_neg c80] at h
      obtain ⟨z87, hz87, h⟩ := j_bind h
      by_cases c90 : z87.1 ≤ 0
      · rw [if_pos c90] at h
        exact EqX.tr (EqX.tr EqX.rf (EqX.mono (x_Model_byteAt hz87) (by decide) (by decide) (by decide))) (G97 K54 hK54 x3 x4 x5 y0 z87.2 h)
      · rw [if_neg c90] at h
        exact EqX.tr (EqX.tr EqX.rf (EqX.mono (x_Model_byteAt hz87) (by decide) (by decide) (by decide))) (G98 K54 hK54 x3 x4 x5 y0 (1 : Int32) z87.2 h)
  have G54 : ∀ (k : Nat) (x3 : Int32) (x4 : Int32) (x5 : Int32) (t : St), m_Model_data_54 n  k x3 x4 x5 t = some z → EqX [0] [] [] t z.2 := by
    intro k
    induction k with
    | zero => intro x3 x4 x5 t h; exact absurd (show none = some z from h) (by simp)
    | succ k ih =>
      intro x3 x4 x5 t h
      change m_Model_data_54b n  (m_Model_data_54 n  k) x3 x4 x5 t = some z at h
      unfold m_Model_data_54b at h
      by_cases c57 : x4 ≤ x3
      · rw [if_pos c57] at h
        exact EqX.cast EqX.rf (j_r2 h)
      · rw [if_neg c57] at h
        obtain ⟨z62, hz62, h⟩ := j_bind h
        by_cases c68 : z62.1 = (255 : Int32)
        · rw [if_pos c68] at h
          exact EqX.tr (EqX.tr EqX.rf (EqX.mono (x_Model_byteAt hz62) (by decide) (by decide) (by decide))) (G76 (m_Model_data_54 n  k) ih x3 x4 x5 (1 : Int32) z62.2 h)
        · rw [if_neg c68] at h
          exact EqX.tr (EqX.tr EqX.rf (EqX.mono (x_Model_byteAt hz62) (by decide) (by decide) (by decide))) (G76 (m_Model_data_54 n  k) ih x3 x4 x5 (0 : Int32) z62.2 h)
  unfold m_Model_data at h
  by_cases c6 : x1 < 0
  · rw [if_pos c6] at h
    exact EqX.cast (EqX.g EqX.rf (by decide)) (j_r2 h)
  · rw [if_neg c6] at h
    by_cases c14 : (t.1 14) ≤ x1
    · rw [if_pos c14] at h
      exact EqX.cast (EqX.g EqX.rf (by decide)) (j_r2 h)
    · rw [if_neg c14] at h
      by_cases c18 : 0 ≤ x2
      · rw [if_pos c18] at h
        obtain ⟨b33, h⟩ := j_ifn h
        obtain ⟨b47, h⟩ := j_ifn h
        exact EqX.tr (EqX.g EqX.rf (by decide)) (G54  n ((t.2.1 12) ((((30 : Int32) * x1) + (5 : Int32))).toNatClampNeg) (((t.2.1 12) ((((30 : Int32) * x1) + (5 : Int32))).toNatClampNeg) + ((t.2.1 12) ((((30 : Int32) * x1) + (6 : Int32))).toNatClampNeg)) x2 (sG t 0 (0 : Int32)) h)
      · rw [if_neg c18] at h
        exact EqX.cast (EqX.g EqX.rf (by decide)) (j_r2 h)
theorem x_Model_quantiser {n : Nat} {x1 : Int32} {x2 : Int32} {t : St} {z : Int32 × St} (h : m_Model_quantiser n x1 x2 t = some z) : EqX [0] [] [] t z.2 := by
  have G40 : ∀ (x1 : Int32) (x2 : Int32) (y0 : Int32) (t : St), m_Model_quantiser_40 n  x1 x2 y0 t = some z → EqX [0] [] [] t z.2 := by
    intro x1 x2 y0 t h
    unfold m_Model_quantiser_40 at h
    by_cases c42 : y0 = 0
    · rw [if_pos c42] at h
      exact EqX.cast EqX.rf (j_r2 h)
    · rw [if_neg c42] at h
      obtain ⟨b55, h⟩ := j_ifn h
      exact EqX.cast EqX.rf (j_r2 h)
  have G39 : ∀ (x1 : Int32) (x2 : Int32) (t : St), m_Model_quantiser_39 n  x1 x2 t = some z → EqX [0] [] [] t z.2 := by
    intro x1 x2 t h
    unfold m_Model_quantiser_39 at h
    exact EqX.tr EqX.rf (G40  x1 x2 (0 : Int32) t h)
  unfold m_Model_quantiser at h
  by_cases c6 : x1 < 0
  · rw [if_pos c6] at h
    exact EqX.tr (EqX.g EqX.rf (by decide)) (G39  x1 x2 (sG t 0 (0 : Int32)) h)
  · rw [if_neg c6] at h
    by_cases c11 : (4 : Int32) ≤ x1
    · rw [if_pos c11] at h
      exact EqX.tr (EqX.g EqX.rf (by decide)) (G39  x1 x2 (sG t 0 (0 : Int32)) h)
    · rw [if_neg c11] at h
      by_cases c15 : x2 < 0
      · rw [if_pos c15] at h
        exact EqX.tr (EqX.g EqX.rf (by decide)) (G39  x1 x2 (sG t 0 (0 : Int32)) h)
      · rw [if_neg c15] at h
        by_cases c21 : (64 : Int32) ≤ x2
        · rw [if_pos c21] at h
          exact EqX.tr (EqX.g EqX.rf (by decide)) (G39  x1 x2 (sG t 0 (0 : Int32)) h)
        · rw [if_neg c21] at h
          obtain ⟨b31, h⟩ := j_ifn h
          by_cases c32 : ((t.2.1 6) ((x1 &&& (3 : Int32))).toNatClampNeg) = 0
          · rw [if_pos c32] at h
            exact EqX.tr (EqX.g EqX.rf (by decide)) (G39  x1 x2 (sG t 0 (0 : Int32)) h)
          · rw [if_neg c32] at h
            exact EqX.tr (EqX.g EqX.rf (by decide)) (G40  x1 x2 (1 : Int32) (sG t 0 (0 : Int32)) h)
theorem x_Model_word {n : Nat} {x1 : Int32} {x2 : Int32} {x3 : Int32} {t : St} {z : Int32 × St} (h : m_Model_word n x1 x2 x3 t = some z) : EqX [0] [] [] t z.2 := by
  have G142 : ∀  (t : St), m_Model_word_142 n   t = some z → EqX [0] [] [] t z.2 := by
    intro  t h
    unfold m_Model_word_142 at h
    exact EqX.cast EqX.rf (j_r2 h)
  have G104 : ∀  (t : St), m_Model_word_104 n   t = some z → EqX [0] [] [] t z.2 := by
    intro  t h
    unfold m_Model_word_104 at h
    exact EqX.cast EqX.rf (j_r2 h)
  have G55 : ∀ (x2 : Int32) (x3 : Int32) (x4 : Int32) (y0 : Int32) (t : St), m_Model_word_55 n  x2 x3 x4 y0 t = some z → EqX [0] [] [] t z.2 := by
    intro x2 x3 x4 y0 t h
    unfold m_Model_word_55 at h
    by_cases c59 : x4 = 0
    · rw [if_pos c59] at h
      exact EqX.cast EqX.rf (j_r2 h)
    · rw [if_neg c59] at h
      obtain ⟨b68, h⟩ := j_ifn h
      by_cases c69 : ((t.2.1 8) (y0).toNatClampNeg) = 0
      · rw [if_pos c69] at h
        exact EqX.cast EqX.rf (j_r2 h)
      · rw [if_neg c69] at h
        by_cases c75 : x2 = 0
        · rw [if_pos c75] at h
          by_cases c80 : x3 < (1 : Int32)
          · rw [if_pos c80] at h
            exact EqX.tr EqX.rf (G104  t h)
          · rw [if_neg c80] at h
            by_cases c86 : (16 : Int32) < x3
            · rw [if_pos c86] at h
              exact EqX.tr EqX.rf (G104  t h)
            · rw [if_neg c86] at h
              obtain ⟨b100, h⟩ := j_ifn h
              exact EqX.cast EqX.rf (j_r2 h)
        · rw [if_neg c75] at h
          by_cases c108 : x2 = (1 : Int32)
          · rw [if_pos c108] at h
            by_cases c112 : x3 < 0
            · rw [if_pos c112] at h
              exact EqX.tr EqX.rf (G142  t h)
            · rw [if_neg c112] at h
              obtain ⟨b122, h⟩ := j_ifn h
              by_cases c123 : ((t.2.1 11) (y0).toNatClampNeg) ≤ x3
              · rw [if_pos c123] at h
                exact EqX.tr EqX.rf (G142  t h)
              · rw [if_neg c123] at h
                obtain ⟨b138, h⟩ := j_ifn h
                exact EqX.cast EqX.rf (j_r2 h)
          · rw [if_neg c108] at h
            exact EqX.tr EqX.rf (G142  t h)
  have G31 : ∀ (x1 : Int32) (x2 : Int32) (x3 : Int32) (y0 : Int32) (t : St), m_Model_word_31 n  x1 x2 x3 y0 t = some z → EqX [0] [] [] t z.2 := by
    intro x1 x2 x3 y0 t h
    unfold m_Model_word_31 at h
    by_cases c35 : y0 = 0
    · rw [if_pos c35] at h
      exact EqX.tr EqX.rf (G55  x2 x3 y0 (0 : Int32) t h)
    · rw [if_neg c35] at h
      by_cases c44 : (4 : Int32) ≤ x1
      · rw [if_pos c44] at h
        exact EqX.tr EqX.rf (G55  x2 x3 y0 (x1 - (12 : Int32)) t h)
      · rw [if_neg c44] at h
        exact EqX.tr EqX.rf (G55  x2 x3 y0 x1 t h)
  have G30 : ∀ (x1 : Int32) (x2 : Int32) (x3 : Int32) (t : St), m_Model_word_30 n  x1 x2 x3 t = some z → EqX [0] [] [] t z.2 := by
    intro x1 x2 x3 t h
    unfold m_Model_word_30 at h
    exact EqX.tr EqX.rf (G31  x1 x2 x3 (0 : Int32) t h)
  have G26 : ∀ (x1 : Int32) (x2 : Int32) (x3 : Int32) (t : St), m_Model_word_26 n  x1 x2 x3 t = some z → EqX [0] [] [] t z.2 := by
    intro x1 x2 x3 t h
    unfold m_Model_word_26 at h
    exact EqX.tr EqX.rf (G31  x1 x2 x3 (1 : Int32) t h)
  have G14 : ∀ (x1 : Int32) (x2 : Int32) (x3 : Int32) (t : St), m_Model_word_14 n  x1 x2 x3 t = some z → EqX [0] [] [] t z.2 := by
    intro x1 x2 x3 t h
    unfold m_Model_word_14 at h
    by_cases c17 : x1 < (16 : Int32)
    · rw [if_pos c17] at h
      exact EqX.tr EqX.rf (G30  x1 x2 x3 t h)
    · rw [if_neg c17] at h
      by_cases c23 : (20 : Int32) ≤ x1
      · rw [if_pos c23] at h
        exact EqX.tr EqX.rf (G30  x1 x2 x3 t h)
      · rw [if_neg c23] at h
        exact EqX.tr EqX.rf (G26  x1 x2 x3 t h)
  unfold m_Model_word at h
  by_cases c6 : x1 < 0
  · rw [if_pos c6] at h
    exact EqX.tr (EqX.g EqX.rf (by decide)) (G14  x1 x2 x3 (sG t 0 (0 : Int32)) h)
  · rw [if_neg c6] at h
    by_cases c11 : x1 < (4 : Int32)
    · rw [if_pos c11] at h
      exact EqX.tr (EqX.g EqX.rf (by decide)) (G26  x1 x2 x3 (sG t 0 (0 : Int32)) h)
    · rw [if_neg c11] at h
      exact EqX.tr (EqX.g EqX.rf (by decide)) (G14  x1 x2 x3 (sG t 0 (0 : Int32)) h)
theorem x_Model_look {n : Nat} {x1 : Int32} {t : St} {z : Int32 × St} (h : m_Model_look n x1 t = some z) : EqX [0] [] [] t z.2 := by
  unfold m_Model_look at h
  by_cases c6_0 : x1 = (0 : Int32)
  · rw [if_pos c6_0] at h
    exact EqX.cast (EqX.g EqX.rf (by decide)) (j_r2 h)
  rw [if_neg c6_0] at h
  by_cases c6_1 : x1 = (1 : Int32)
  · rw [if_pos c6_1] at h
    exact EqX.cast (EqX.g EqX.rf (by decide)) (j_r2 h)
  rw [if_neg c6_1] at h
  by_cases c6_2 : x1 = (2 : Int32)
  · rw [if_pos c6_2] at h
    exact EqX.cast (EqX.g EqX.rf (by decide)) (j_r2 h)
  rw [if_neg c6_2] at h
  by_cases c6_3 : x1 = (3 : Int32)
  · rw [if_pos c6_3] at h
    exact EqX.cast (EqX.g EqX.rf (by decide)) (j_r2 h)
  rw [if_neg c6_3] at h
  by_cases c6_4 : x1 = (4 : Int32)
  · rw [if_pos c6_4] at h
    exact EqX.cast (EqX.g EqX.rf (by decide)) (j_r2 h)
  rw [if_neg c6_4] at h
  by_cases c6_5 : x1 = (5 : Int32)
  · rw [if_pos c6_5] at h
    exact EqX.cast (EqX.g EqX.rf (by decide)) (j_r2 h)
  rw [if_neg c6_5] at h
  by_cases c6_6 : x1 = (6 : Int32)
  · rw [if_pos c6_6] at h
    exact EqX.cast (EqX.g EqX.rf (by decide)) (j_r2 h)
  rw [if_neg c6_6] at h
  exact EqX.cast (EqX.g EqX.rf (by decide)) (j_r2 h)

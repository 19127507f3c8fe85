theorem q_Arrays_fillI_9 {n : Nat} {x1 : Int32} {t : St} {z : St} (h : m_Arrays_fillI_9 n x1 t = some z) : z.2.2.2 = t.2.2.2 := by
  have G5 : ∀ (k : Nat) (x1 : Int32) (x2 : Int32) (x3 : Int32) (t : St), m_Arrays_fillI_9_5 n  k x1 x2 x3 t = some z → z.2.2.2 = t.2.2.2 := by
    intro k
    induction k with
    | zero => intro x1 x2 x3 t h; exact absurd (show none = some z from h) (by simp)
    | succ k ih =>
      intro x1 x2 x3 t h
      change m_Arrays_fillI_9_5b n  (m_Arrays_fillI_9_5 n  k) x1 x2 x3 t = some z at h
      unfold m_Arrays_fillI_9_5b at h
      by_cases c7 : x3 ≤ x2
      · rw [if_pos c7] at h
        exact (congrArg (fun q : St => q.2.2.2) (j_s h)).symm.trans rfl
      · rw [if_neg c7] at h
        obtain ⟨b13, h⟩ := j_ifn h
        exact (ih x1 (x2 + 1) x3 (sH t 4 (x2).toNatClampNeg x1) h).trans rfl
  unfold m_Arrays_fillI_9 at h
  exact (G5  n x1 (0 : Int32) (Int32.ofNat 4) t h).trans rfl
theorem q_Arrays_fillI_10 {n : Nat} {x1 : Int32} {t : St} {z : St} (h : m_Arrays_fillI_10 n x1 t = some z) : z.2.2.2 = t.2.2.2 := by
  have G5 : ∀ (k : Nat) (x1 : Int32) (x2 : Int32) (x3 : Int32) (t : St), m_Arrays_fillI_10_5 n  k x1 x2 x3 t = some z → z.2.2.2 = t.2.2.2 := by
    intro k
    induction k with
    | zero => intro x1 x2 x3 t h; exact absurd (show none = some z from h) (by simp)
    | succ k ih =>
      intro x1 x2 x3 t h
      change m_Arrays_fillI_10_5b n  (m_Arrays_fillI_10_5 n  k) x1 x2 x3 t = some z at h
      unfold m_Arrays_fillI_10_5b at h
      by_cases c7 : x3 ≤ x2
      · rw [if_pos c7] at h
        exact (congrArg (fun q : St => q.2.2.2) (j_s h)).symm.trans rfl
      · rw [if_neg c7] at h
        obtain ⟨b13, h⟩ := j_ifn h
        exact (ih x1 (x2 + 1) x3 (sH t 5 (x2).toNatClampNeg x1) h).trans rfl
  unfold m_Arrays_fillI_10 at h
  exact (G5  n x1 (0 : Int32) (Int32.ofNat 8) t h).trans rfl
theorem q_Arrays_fillI_14 {n : Nat} {x1 : Int32} {t : St} {z : St} (h : m_Arrays_fillI_14 n x1 t = some z) : z.2.2.2 = t.2.2.2 := by
  have G5 : ∀ (k : Nat) (x1 : Int32) (x2 : Int32) (x3 : Int32) (t : St), m_Arrays_fillI_14_5 n  k x1 x2 x3 t = some z → z.2.2.2 = t.2.2.2 := by
    intro k
    induction k with
    | zero => intro x1 x2 x3 t h; exact absurd (show none = some z from h) (by simp)
    | succ k ih =>
      intro x1 x2 x3 t h
      change m_Arrays_fillI_14_5b n  (m_Arrays_fillI_14_5 n  k) x1 x2 x3 t = some z at h
      unfold m_Arrays_fillI_14_5b at h
      by_cases c7 : x3 ≤ x2
      · rw [if_pos c7] at h
        exact (congrArg (fun q : St => q.2.2.2) (j_s h)).symm.trans rfl
      · rw [if_neg c7] at h
        obtain ⟨b13, h⟩ := j_ifn h
        exact (ih x1 (x2 + 1) x3 (sH t 7 (x2).toNatClampNeg x1) h).trans rfl
  unfold m_Arrays_fillI_14 at h
  exact (G5  n x1 (0 : Int32) (Int32.ofNat 256) t h).trans rfl
theorem q_Picture_clear {n : Nat}  {t : St} {z : St} (h : m_Picture_clear n t = some z) : z.2.2.2 = t.2.2.2 := by
  unfold m_Picture_clear at h
  obtain ⟨z21, hz21, h⟩ := j_bind h
  obtain ⟨z29, hz29, h⟩ := j_bind h
  exact (congrArg (fun q : St => q.2.2.2) (j_s h)).symm.trans ((q_Arrays_fillI_10 hz29).trans ((q_Arrays_fillI_9 hz21).trans rfl))
theorem q_Parser_forget {n : Nat}  {t : St} {z : St} (h : m_Parser_forget n t = some z) : z.2.2.2 = t.2.2.2 := by
  unfold m_Parser_forget at h
  obtain ⟨z14, hz14, h⟩ := j_bind h
  exact (congrArg (fun q : St => q.2.2.2) (j_s h)).symm.trans ((q_Picture_clear hz14).trans rfl)
theorem q_Reader_wipe {n : Nat}  {t : St} {z : St} (h : m_Reader_wipe n t = some z) : z.2.2.2 = t.2.2.2 := by
  unfold m_Reader_wipe at h
  obtain ⟨z12, hz12, h⟩ := j_bind h
  exact (congrArg (fun q : St => q.2.2.2) (j_s h)).symm.trans ((q_Parser_forget hz12).trans rfl)
theorem q_Bytes_at {n : Nat} {x1 : Int32} {t : St} {z : Int32 × St} (h : m_Bytes_at n x1 t = some z) : z.2.2.2.2 = t.2.2.2 := by
  have G25 : ∀  (t : St), m_Bytes_at_25 n   t = some z → z.2.2.2.2 = t.2.2.2 := by
    intro  t h
    unfold m_Bytes_at_25 at h
    exact (congrArg (fun q : St => q.2.2.2) (j_r2 h)).symm.trans rfl
  unfold m_Bytes_at at h
  by_cases c1 : x1 < 0
  · rw [if_pos c1] at h
    exact (G25  t h).trans rfl
  · rw [if_neg c1] at h
    by_cases c9 : (t.1 0) ≤ x1
    · rw [if_pos c9] at h
      exact (G25  t h).trans rfl
    · rw [if_neg c9] at h
      obtain ⟨b17, h⟩ := j_ifn h
      exact (congrArg (fun q : St => q.2.2.2) (j_r2 h)).symm.trans rfl
theorem q_Parser_fail {n : Nat} {x1 : Int32} {x2 : Int32} {t : St} {z : Int32 × St} (h : m_Parser_fail n x1 x2 t = some z) : z.2.2.2.2 = t.2.2.2 := by
  unfold m_Parser_fail at h
  by_cases c4 : (t.1 13) = 0
  · rw [if_pos c4] at h
    exact (congrArg (fun q : St => q.2.2.2) (j_r2 h)).symm.trans rfl
  · rw [if_neg c4] at h
    exact (congrArg (fun q : St => q.2.2.2) (j_r2 h)).symm.trans rfl
theorem q_Parser_begin {n : Nat}  {t : St} {z : St} (h : m_Parser_begin n t = some z) : z.2.2.2 = t.2.2.2 := by
  have G51 : ∀  (t : St), m_Parser_begin_51 n   t = some z → z.2.2.2 = t.2.2.2 := by
    intro  t h
    unfold m_Parser_begin_51 at h
    by_cases c59 : (2 : Int32) ≤ (t.1 0)
    · rw [if_pos c59] at h
      obtain ⟨z83, hz83, h⟩ := j_bind h
      by_cases c89 : z83.1 = (216 : Int32)
      · rw [if_pos c89] at h
        exact (congrArg (fun q : St => q.2.2.2) (j_s h)).symm.trans ((q_Bytes_at hz83).trans rfl)
      · rw [if_neg c89] at h
        obtain ⟨z95, hz95, h⟩ := j_bind h
        exact (congrArg (fun q : St => q.2.2.2) (j_s h)).symm.trans ((q_Parser_fail hz95).trans ((q_Bytes_at hz83).trans rfl))
    · rw [if_neg c59] at h
      obtain ⟨z71, hz71, h⟩ := j_bind h
      exact (congrArg (fun q : St => q.2.2.2) (j_s h)).symm.trans ((q_Parser_fail hz71).trans rfl)
  unfold m_Parser_begin at h
  obtain ⟨z1, hz1, h⟩ := j_bind h
  obtain ⟨z9, hz9, h⟩ := j_bind h
  by_cases c24 : (z9.1 0) ≤ 0
  · rw [if_pos c24] at h
    exact (G51  (sG z9 12 (0 : Int32)) h).trans ((q_Arrays_fillI_14 hz9).trans ((q_Parser_forget hz1).trans rfl))
  · rw [if_neg c24] at h
    obtain ⟨z32, hz32, h⟩ := j_bind h
    by_cases c38 : z32.1 = (255 : Int32)
    · rw [if_pos c38] at h
      exact (G51  z32.2 h).trans ((q_Bytes_at hz32).trans ((q_Arrays_fillI_14 hz9).trans ((q_Parser_forget hz1).trans rfl)))
    · rw [if_neg c38] at h
      obtain ⟨z44, hz44, h⟩ := j_bind h
      exact (congrArg (fun q : St => q.2.2.2) (j_s h)).symm.trans ((q_Parser_fail hz44).trans ((q_Bytes_at hz32).trans ((q_Arrays_fillI_14 hz9).trans ((q_Parser_forget hz1).trans rfl))))
theorem q_Parser_goesOn {n : Nat}  {t : St} {z : Int32 × St} (h : m_Parser_goesOn n t = some z) : z.2.2.2.2 = t.2.2.2 := by
  have G22 : ∀  (t : St), m_Parser_goesOn_22 n   t = some z → z.2.2.2.2 = t.2.2.2 := by
    intro  t h
    unfold m_Parser_goesOn_22 at h
    exact (congrArg (fun q : St => q.2.2.2) (j_r2 h)).symm.trans rfl
  unfold m_Parser_goesOn at h
  by_cases c4 : (t.1 13) = 0
  · rw [if_pos c4] at h
    by_cases c15 : (t.1 6) = (-1 : Int32)
    · rw [if_pos c15] at h
      exact (congrArg (fun q : St => q.2.2.2) (j_r2 h)).symm.trans rfl
    · rw [if_neg c15] at h
      exact (G22  t h).trans rfl
  · rw [if_neg c4] at h
    exact (G22  t h).trans rfl
theorem q_Parser_latestOf {n : Nat} {x1 : Int32} {x2 : Int32} {t : St} {z : Int32 × St} (h : m_Parser_latestOf n x1 x2 t = some z) : z.2.2.2.2 = t.2.2.2 := by
  have G29 : ∀  (t : St), m_Parser_latestOf_29 n   t = some z → z.2.2.2.2 = t.2.2.2 := by
    intro  t h
    unfold m_Parser_latestOf_29 at h
    exact (congrArg (fun q : St => q.2.2.2) (j_r2 h)).symm.trans rfl
  unfold m_Parser_latestOf at h
  by_cases c8 : ((x1 * (64 : Int32)) + x2) < 0
  · rw [if_pos c8] at h
    exact (G29  t h).trans rfl
  · rw [if_neg c8] at h
    by_cases c17 : (Int32.ofNat 256) ≤ ((x1 * (64 : Int32)) + x2)
    · rw [if_pos c17] at h
      exact (G29  t h).trans rfl
    · rw [if_neg c17] at h
      obtain ⟨b25, h⟩ := j_ifn h
      exact (congrArg (fun q : St => q.2.2.2) (j_r2 h)).symm.trans rfl
theorem q_Parser_allBegun {n : Nat}  {t : St} {z : Int32 × St} (h : m_Parser_allBegun n t = some z) : z.2.2.2.2 = t.2.2.2 := by
  have G2 : ∀ (k : Nat) (x1 : Int32) (t : St), m_Parser_allBegun_2 n  k x1 t = some z → z.2.2.2.2 = t.2.2.2 := by
    intro k
    induction k with
    | zero => intro x1 t h; exact absurd (show none = some z from h) (by simp)
    | succ k ih =>
      intro x1 t h
      change m_Parser_allBegun_2b n  (m_Parser_allBegun_2 n  k) x1 t = some z at h
      unfold m_Parser_allBegun_2b at h
      by_cases c10 : (t.1 4) ≤ x1
      · rw [if_pos c10] at h
        exact (congrArg (fun q : St => q.2.2.2) (j_r2 h)).symm.trans rfl
      · rw [if_neg c10] at h
        obtain ⟨z16, hz16, h⟩ := j_bind h
        by_cases c20 : z16.1 = (-1 : Int32)
        · rw [if_pos c20] at h
          exact (congrArg (fun q : St => q.2.2.2) (j_r2 h)).symm.trans ((q_Parser_latestOf hz16).trans rfl)
        · rw [if_neg c20] at h
          exact (ih (x1 + 1) z16.2 h).trans ((q_Parser_latestOf hz16).trans rfl)
  unfold m_Parser_allBegun at h
  exact (G2  n (0 : Int32) t h).trans rfl
theorem q_Parser_isFree {n : Nat} {x1 : Int32} {t : St} {z : Int32 × St} (h : m_Parser_isFree n x1 t = some z) : z.2.2.2.2 = t.2.2.2 := by
  have G21 : ∀  (t : St), m_Parser_isFree_21 n   t = some z → z.2.2.2.2 = t.2.2.2 := by
    intro  t h
    unfold m_Parser_isFree_21 at h
    exact (congrArg (fun q : St => q.2.2.2) (j_r2 h)).symm.trans rfl
  have G25 : ∀  (t : St), m_Parser_isFree_25 n   t = some z → z.2.2.2.2 = t.2.2.2 := by
    intro  t h
    unfold m_Parser_isFree_25 at h
    exact (congrArg (fun q : St => q.2.2.2) (j_r2 h)).symm.trans rfl
  unfold m_Parser_isFree at h
  by_cases c4 : x1 = (254 : Int32)
  · rw [if_pos c4] at h
    exact (G21  t h).trans rfl
  · rw [if_neg c4] at h
    by_cases c11 : x1 < (224 : Int32)
    · rw [if_pos c11] at h
      exact (G25  t h).trans rfl
    · rw [if_neg c11] at h
      by_cases c18 : (239 : Int32) < x1
      · rw [if_pos c18] at h
        exact (G25  t h).trans rfl
      · rw [if_neg c18] at h
        exact (G21  t h).trans rfl
theorem q_Parser_canStand {n : Nat} {x1 : Int32} {t : St} {z : Int32 × St} (h : m_Parser_canStand n x1 t = some z) : z.2.2.2.2 = t.2.2.2 := by
  have G32 : ∀  (t : St), m_Parser_canStand_32 n   t = some z → z.2.2.2.2 = t.2.2.2 := by
    intro  t h
    unfold m_Parser_canStand_32 at h
    exact (congrArg (fun q : St => q.2.2.2) (j_r2 h)).symm.trans rfl
  have G14 : ∀ (x1 : Int32) (t : St), m_Parser_canStand_14 n  x1 t = some z → z.2.2.2.2 = t.2.2.2 := by
    intro x1 t h
    unfold m_Parser_canStand_14 at h
    by_cases c18 : (t.1 12) = 0
    · rw [if_pos c18] at h
      exact (G32  t h).trans rfl
    · rw [if_neg c18] at h
      by_cases c25 : x1 = (220 : Int32)
      · rw [if_pos c25] at h
        exact (congrArg (fun q : St => q.2.2.2) (j_r2 h)).symm.trans rfl
      · rw [if_neg c25] at h
        exact (G32  t h).trans rfl
  have G158 : ∀  (t : St), m_Parser_canStand_158 n   t = some z → z.2.2.2.2 = t.2.2.2 := by
    intro  t h
    unfold m_Parser_canStand_158 at h
    exact (congrArg (fun q : St => q.2.2.2) (j_r2 h)).symm.trans rfl
  unfold m_Parser_canStand at h
  by_cases c4 : (t.1 12) = 0
  · rw [if_pos c4] at h
    by_cases c11 : x1 = (220 : Int32)
    · rw [if_pos c11] at h
      exact (G14  x1 t h).trans rfl
    · rw [if_neg c11] at h
      by_cases c35_192 : x1 = (192 : Int32)
      · rw [if_pos c35_192] at h
        by_cases c110 : (t.1 1) = (-1 : Int32)
        · rw [if_pos c110] at h
          exact (congrArg (fun q : St => q.2.2.2) (j_r2 h)).symm.trans rfl
        · rw [if_neg c110] at h
          exact (congrArg (fun q : St => q.2.2.2) (j_r2 h)).symm.trans rfl
      rw [if_neg c35_192] at h
      by_cases c35_194 : x1 = (194 : Int32)
      · rw [if_pos c35_194] at h
        by_cases c110 : (t.1 1) = (-1 : Int32)
        · rw [if_pos c110] at h
          exact (congrArg (fun q : St => q.2.2.2) (j_r2 h)).symm.trans rfl
        · rw [if_neg c110] at h
          exact (congrArg (fun q : St => q.2.2.2) (j_r2 h)).symm.trans rfl
      rw [if_neg c35_194] at h
      by_cases c35_196 : x1 = (196 : Int32)
      · rw [if_pos c35_196] at h
        exact (congrArg (fun q : St => q.2.2.2) (j_r2 h)).symm.trans rfl
      rw [if_neg c35_196] at h
      by_cases c35_217 : x1 = (217 : Int32)
      · rw [if_pos c35_217] at h
        by_cases c144 : (t.1 1) = (-1 : Int32)
        · rw [if_pos c144] at h
          exact (G158  t h).trans rfl
        · rw [if_neg c144] at h
          obtain ⟨z148, hz148, h⟩ := j_bind h
          by_cases c151 : z148.1 = 0
          · rw [if_pos c151] at h
            exact (G158  z148.2 h).trans ((q_Parser_allBegun hz148).trans rfl)
          · rw [if_neg c151] at h
            exact (congrArg (fun q : St => q.2.2.2) (j_r2 h)).symm.trans ((q_Parser_allBegun hz148).trans rfl)
      rw [if_neg c35_217] at h
      by_cases c35_218 : x1 = (218 : Int32)
      · rw [if_pos c35_218] at h
        by_cases c127 : (t.1 1) = (-1 : Int32)
        · rw [if_pos c127] at h
          exact (congrArg (fun q : St => q.2.2.2) (j_r2 h)).symm.trans rfl
        · rw [if_neg c127] at h
          exact (congrArg (fun q : St => q.2.2.2) (j_r2 h)).symm.trans rfl
      rw [if_neg c35_218] at h
      by_cases c35_219 : x1 = (219 : Int32)
      · rw [if_pos c35_219] at h
        exact (congrArg (fun q : St => q.2.2.2) (j_r2 h)).symm.trans rfl
      rw [if_neg c35_219] at h
      by_cases c35_221 : x1 = (221 : Int32)
      · rw [if_pos c35_221] at h
        exact (congrArg (fun q : St => q.2.2.2) (j_r2 h)).symm.trans rfl
      rw [if_neg c35_221] at h
      obtain ⟨z162, hz162, h⟩ := j_bind h
      obtain ⟨b165, h⟩ := j_ifn h
      exact (congrArg (fun q : St => q.2.2.2) (j_r2 h)).symm.trans ((q_Parser_isFree hz162).trans rfl)
  · rw [if_neg c4] at h
    exact (G14  x1 t h).trans rfl
theorem q_Parser_takeMarker {n : Nat}  {t : St} {z : Int32 × St} (h : m_Parser_takeMarker n t = some z) : z.2.2.2.2 = t.2.2.2 := by
  have G34 : ∀ (k : Nat)  (t : St), m_Parser_takeMarker_34 n  k  t = some z → z.2.2.2.2 = t.2.2.2 := by
    intro k
    induction k with
    | zero => intro  t h; exact absurd (show none = some z from h) (by simp)
    | succ k ih =>
      intro  t h
      change m_Parser_takeMarker_34b n  (m_Parser_takeMarker_34 n  k)  t = some z at h
      unfold m_Parser_takeMarker_34b at h
      by_cases c45 : (t.1 0) ≤ (t.1 9)
      · rw [if_pos c45] at h
        obtain ⟨z119, hz119, h⟩ := j_bind h
        exact (congrArg (fun q : St => q.2.2.2) (j_r2 h)).symm.trans ((q_Parser_fail hz119).trans rfl)
      · rw [if_neg c45] at h
        obtain ⟨z56, hz56, h⟩ := j_bind h
        by_cases c64 : z56.1 = (255 : Int32)
        · rw [if_pos c64] at h
          exact (ih (sG z56.2 9 ((z56.2.1 9) + (1 : Int32))) h).trans ((q_Bytes_at hz56).trans rfl)
        · rw [if_neg c64] at h
          obtain ⟨z69, hz69, h⟩ := j_bind h
          by_cases c72 : z69.1 = 0
          · rw [if_pos c72] at h
            obtain ⟨z81, hz81, h⟩ := j_bind h
            exact (congrArg (fun q : St => q.2.2.2) (j_r2 h)).symm.trans ((q_Parser_fail hz81).trans ((q_Parser_canStand hz69).trans ((q_Bytes_at hz56).trans rfl)))
          · rw [if_neg c72] at h
            exact (congrArg (fun q : St => q.2.2.2) (j_r2 h)).symm.trans ((q_Parser_canStand hz69).trans ((q_Bytes_at hz56).trans rfl))
  unfold m_Parser_takeMarker at h
  obtain ⟨z8, hz8, h⟩ := j_bind h
  by_cases c14 : z8.1 = (-1 : Int32)
  · rw [if_pos c14] at h
    exact (G34  n z8.2 h).trans ((q_Bytes_at hz8).trans rfl)
  · rw [if_neg c14] at h
    by_cases c21 : z8.1 = (255 : Int32)
    · rw [if_pos c21] at h
      exact (G34  n z8.2 h).trans ((q_Bytes_at hz8).trans rfl)
    · rw [if_neg c21] at h
      obtain ⟨z30, hz30, h⟩ := j_bind h
      exact (congrArg (fun q : St => q.2.2.2) (j_r2 h)).symm.trans ((q_Parser_fail hz30).trans ((q_Bytes_at hz8).trans rfl))
theorem q_Parser_take {n : Nat} {x1 : Int32} {x2 : Int32} {t : St} {z : Int32 × St} (h : m_Parser_take n x1 x2 t = some z) : z.2.2.2.2 = t.2.2.2 := by
  have G70 : ∀  (t : St), m_Parser_take_70 n   t = some z → z.2.2.2.2 = t.2.2.2 := by
    intro  t h
    unfold m_Parser_take_70 at h
    obtain ⟨z77, hz77, h⟩ := j_bind h
    exact (congrArg (fun q : St => q.2.2.2) (j_r2 h)).symm.trans ((q_Parser_fail hz77).trans rfl)
  unfold m_Parser_take at h
  by_cases c4 : (t.1 13) = 0
  · rw [if_pos c4] at h
    by_cases c17 : (t.1 9) < (t.1 11)
    · rw [if_pos c17] at h
      obtain ⟨z38, hz38, h⟩ := j_bind h
      by_cases c44 : z38.1 = (-1 : Int32)
      · rw [if_pos c44] at h
        obtain ⟨z56, hz56, h⟩ := j_bind h
        exact (congrArg (fun q : St => q.2.2.2) (j_r2 h)).symm.trans ((q_Parser_fail hz56).trans ((q_Bytes_at hz38).trans rfl))
      · rw [if_neg c44] at h
        by_cases c62 : z38.1 < x1
        · rw [if_pos c62] at h
          exact (G70  z38.2 h).trans ((q_Bytes_at hz38).trans rfl)
        · rw [if_neg c62] at h
          by_cases c67 : z38.1 ≤ x2
          · rw [if_pos c67] at h
            exact (congrArg (fun q : St => q.2.2.2) (j_r2 h)).symm.trans ((q_Bytes_at hz38).trans rfl)
          · rw [if_neg c67] at h
            exact (G70  z38.2 h).trans ((q_Bytes_at hz38).trans rfl)
    · rw [if_neg c17] at h
      obtain ⟨z26, hz26, h⟩ := j_bind h
      exact (congrArg (fun q : St => q.2.2.2) (j_r2 h)).symm.trans ((q_Parser_fail hz26).trans rfl)
  · rw [if_neg c4] at h
    exact (congrArg (fun q : St => q.2.2.2) (j_r2 h)).symm.trans rfl
theorem q_Parser_refuseTaken {n : Nat}  {t : St} {z : St} (h : m_Parser_refuseTaken n t = some z) : z.2.2.2 = t.2.2.2 := by
  unfold m_Parser_refuseTaken at h
  obtain ⟨z9, hz9, h⟩ := j_bind h
  exact (congrArg (fun q : St => q.2.2.2) (j_s h)).symm.trans ((q_Parser_fail hz9).trans rfl)
theorem q_Parser_takePair {n : Nat} {x1 : Int32} {x2 : Int32} {t : St} {z : Int32 × St} (h : m_Parser_takePair n x1 x2 t = some z) : z.2.2.2.2 = t.2.2.2 := by
  have G45 : ∀ (x5 : Int32) (t : St), m_Parser_takePair_45 n  x5 t = some z → z.2.2.2.2 = t.2.2.2 := by
    intro x5 t h
    unfold m_Parser_takePair_45 at h
    by_cases c49 : (t.1 13) = 0
    · rw [if_pos c49] at h
      exact (congrArg (fun q : St => q.2.2.2) (j_r2 h)).symm.trans rfl
    · rw [if_neg c49] at h
      exact (congrArg (fun q : St => q.2.2.2) (j_r2 h)).symm.trans rfl
  have G41 : ∀ (x5 : Int32) (t : St), m_Parser_takePair_41 n  x5 t = some z → z.2.2.2.2 = t.2.2.2 := by
    intro x5 t h
    unfold m_Parser_takePair_41 at h
    obtain ⟨z42, hz42, h⟩ := j_bind h
    exact (G45  x5 z42 h).trans ((q_Parser_refuseTaken hz42).trans rfl)
  unfold m_Parser_takePair at h
  obtain ⟨z5, hz5, h⟩ := j_bind h
  obtain ⟨z14, hz14, h⟩ := j_bind h
  by_cases c32 : (((256 : Int32) * z5.1) + z14.1) < x1
  · rw [if_pos c32] at h
    exact (G41  (((256 : Int32) * z5.1) + z14.1) z14.2 h).trans ((q_Parser_take hz14).trans ((q_Parser_take hz5).trans rfl))
  · rw [if_neg c32] at h
    by_cases c38 : (((256 : Int32) * z5.1) + z14.1) ≤ x2
    · rw [if_pos c38] at h
      exact (G45  (((256 : Int32) * z5.1) + z14.1) z14.2 h).trans ((q_Parser_take hz14).trans ((q_Parser_take hz5).trans rfl))
    · rw [if_neg c38] at h
      exact (G41  (((256 : Int32) * z5.1) + z14.1) z14.2 h).trans ((q_Parser_take hz14).trans ((q_Parser_take hz5).trans rfl))
theorem q_Parser_takeLength {n : Nat}  {t : St} {z : St} (h : m_Parser_takeLength n t = some z) : z.2.2.2 = t.2.2.2 := by
  have G41 : ∀ (x1 : Int32) (t : St), m_Parser_takeLength_41 n  x1 t = some z → z.2.2.2 = t.2.2.2 := by
    intro x1 t h
    unfold m_Parser_takeLength_41 at h
    exact (congrArg (fun q : St => q.2.2.2) (j_s h)).symm.trans rfl
  unfold m_Parser_takeLength at h
  obtain ⟨z22, hz22, h⟩ := j_bind h
  by_cases c28 : (2 : Int32) ≤ z22.1
  · rw [if_pos c28] at h
    exact (G41  z22.1 z22.2 h).trans ((q_Parser_takePair hz22).trans rfl)
  · rw [if_neg c28] at h
    obtain ⟨z37, hz37, h⟩ := j_bind h
    exact (G41  z22.1 z37.2 h).trans ((q_Parser_fail hz37).trans ((q_Parser_takePair hz22).trans rfl))
theorem q_Picture_setQuantisers {n : Nat} {x1 : Int32} {x2 : Int32} {t : St} {z : St} (h : m_Picture_setQuantisers n x1 x2 t = some z) : z.2.2.2 = t.2.2.2 := by
  unfold m_Picture_setQuantisers at h
  by_cases c1 : x1 < 0
  · rw [if_pos c1] at h
    exact (congrArg (fun q : St => q.2.2.2) (j_s h)).symm.trans rfl
  · rw [if_neg c1] at h
    by_cases c10 : (Int32.ofNat 4) ≤ x1
    · rw [if_pos c10] at h
      exact (congrArg (fun q : St => q.2.2.2) (j_s h)).symm.trans rfl
    · rw [if_neg c10] at h
      obtain ⟨b19, h⟩ := j_ifn h
      exact (congrArg (fun q : St => q.2.2.2) (j_s h)).symm.trans rfl
theorem q_Parser_moreContents {n : Nat}  {t : St} {z : Int32 × St} (h : m_Parser_moreContents n t = some z) : z.2.2.2.2 = t.2.2.2 := by
  have G22 : ∀  (t : St), m_Parser_moreContents_22 n   t = some z → z.2.2.2.2 = t.2.2.2 := by
    intro  t h
    unfold m_Parser_moreContents_22 at h
    exact (congrArg (fun q : St => q.2.2.2) (j_r2 h)).symm.trans rfl
  unfold m_Parser_moreContents at h
  by_cases c4 : (t.1 13) = 0
  · rw [if_pos c4] at h
    by_cases c15 : (t.1 11) ≤ (t.1 9)
    · rw [if_pos c15] at h
      exact (G22  t h).trans rfl
    · rw [if_neg c15] at h
      exact (congrArg (fun q : St => q.2.2.2) (j_r2 h)).symm.trans rfl
  · rw [if_neg c4] at h
    exact (G22  t h).trans rfl
theorem q_Parser_readQuantisers {n : Nat}  {t : St} {z : St} (h : m_Parser_readQuantisers n t = some z) : z.2.2.2 = t.2.2.2 := by
  have G31 : ∀ (K4 : Int32 → Int32 → St → Option (St)) (hK4 : ∀ (x1 : Int32) (x2 : Int32) (t : St), K4 x1 x2 t = some z → z.2.2.2 = t.2.2.2) (k : Nat) (x2 : Int32) (x3 : Int32) (x4 : Int32) (x5 : Int32) (t : St), m_Parser_readQuantisers_31 n K4 k x2 x3 x4 x5 t = some z → z.2.2.2 = t.2.2.2 := by
    intro K4 hK4 k
    induction k with
    | zero => intro x2 x3 x4 x5 t h; exact absurd (show none = some z from h) (by simp)
    | succ k ih =>
      intro x2 x3 x4 x5 t h
      change m_Parser_readQuantisers_31b n K4 (m_Parser_readQuantisers_31 n K4 k) x2 x3 x4 x5 t = some z at h
      unfold m_Parser_readQuantisers_31b at h
      by_cases c35 : (64 : Int32) ≤ x5
      · rw [if_pos c35] at h
        obtain ⟨z60, hz60, h⟩ := j_bind h
        obtain ⟨z64, hz64, h⟩ := j_bind h
        exact (hK4 z64.1 (x2 + 1) z64.2 h).trans ((q_Parser_moreContents hz64).trans ((q_Picture_setQuantisers hz60).trans rfl))
      · rw [if_neg c35] at h
        obtain ⟨z43, hz43, h⟩ := j_bind h
        exact (ih x2 x3 x4 (x5 + 1) z43.2 h).trans ((q_Parser_take hz43).trans rfl)
  have G4 : ∀ (k : Nat) (x1 : Int32) (x2 : Int32) (t : St), m_Parser_readQuantisers_4 n  k x1 x2 t = some z → z.2.2.2 = t.2.2.2 := by
    intro k
    induction k with
    | zero => intro x1 x2 t h; exact absurd (show none = some z from h) (by simp)
    | succ k ih =>
      intro x1 x2 t h
      change m_Parser_readQuantisers_4b n  (m_Parser_readQuantisers_4 n  k) x1 x2 t = some z at h
      unfold m_Parser_readQuantisers_4b at h
      by_cases c8 : (16384 : Int32) ≤ x2
      · rw [if_pos c8] at h
        exact (congrArg (fun q : St => q.2.2.2) (j_s h)).symm.trans rfl
      · rw [if_neg c8] at h
        by_cases c12 : x1 = 0
        · rw [if_pos c12] at h
          exact (congrArg (fun q : St => q.2.2.2) (j_s h)).symm.trans rfl
        · rw [if_neg c12] at h
          obtain ⟨z18, hz18, h⟩ := j_bind h
          exact (G31 (m_Parser_readQuantisers_4 n  k) ih n x2 z18.1 (z18.2.1 9) (0 : Int32) z18.2 h).trans ((q_Parser_take hz18).trans rfl)
  unfold m_Parser_readQuantisers at h
  exact (G4  n (1 : Int32) (0 : Int32) t h).trans rfl
theorem q_Parser_takeCounts {n : Nat}  {t : St} {z : Int32 × St} (h : m_Parser_takeCounts n t = some z) : z.2.2.2.2 = t.2.2.2 := by
  have G52 : ∀ (K6 : Int32 → Int32 → Int32 → St → Option (Int32 × St)) (hK6 : ∀ (x1 : Int32) (x2 : Int32) (x3 : Int32) (t : St), K6 x1 x2 x3 t = some z → z.2.2.2.2 = t.2.2.2) (x1 : Int32) (x2 : Int32) (x3 : Int32) (t : St), m_Parser_takeCounts_52 n K6 x1 x2 x3 t = some z → z.2.2.2.2 = t.2.2.2 := by
    intro K6 hK6 x1 x2 x3 t h
    unfold m_Parser_takeCounts_52 at h
    exact (hK6 x1 x2 (x3 + 1) t h).trans rfl
  have G48 : ∀ (K6 : Int32 → Int32 → Int32 → St → Option (Int32 × St)) (hK6 : ∀ (x1 : Int32) (x2 : Int32) (x3 : Int32) (t : St), K6 x1 x2 x3 t = some z → z.2.2.2.2 = t.2.2.2) (x1 : Int32) (x2 : Int32) (x3 : Int32) (t : St), m_Parser_takeCounts_48 n K6 x1 x2 x3 t = some z → z.2.2.2.2 = t.2.2.2 := by
    intro K6 hK6 x1 x2 x3 t h
    unfold m_Parser_takeCounts_48 at h
    obtain ⟨z49, hz49, h⟩ := j_bind h
    exact (G52 K6 hK6 x1 x2 x3 z49 h).trans ((q_Parser_refuseTaken hz49).trans rfl)
  have G6 : ∀ (k : Nat) (x1 : Int32) (x2 : Int32) (x3 : Int32) (t : St), m_Parser_takeCounts_6 n  k x1 x2 x3 t = some z → z.2.2.2.2 = t.2.2.2 := by
    intro k
    induction k with
    | zero => intro x1 x2 x3 t h; exact absurd (show none = some z from h) (by simp)
    | succ k ih =>
      intro x1 x2 x3 t h
      change m_Parser_takeCounts_6b n  (m_Parser_takeCounts_6 n  k) x1 x2 x3 t = some z at h
      unfold m_Parser_takeCounts_6b at h
      by_cases c9 : (16 : Int32) < x3
      · rw [if_pos c9] at h
        by_cases c59 : x1 = 0
        · rw [if_pos c59] at h
          obtain ⟨z63, hz63, h⟩ := j_bind h
          exact (congrArg (fun q : St => q.2.2.2) (j_r2 h)).symm.trans ((q_Parser_refuseTaken hz63).trans rfl)
        · rw [if_neg c59] at h
          exact (congrArg (fun q : St => q.2.2.2) (j_r2 h)).symm.trans rfl
      · rw [if_neg c9] at h
        obtain ⟨z17, hz17, h⟩ := j_bind h
        by_cases c38 : (256 : Int32) < (x1 + z17.1)
        · rw [if_pos c38] at h
          exact (G48 (m_Parser_takeCounts_6 n  k) ih (x1 + z17.1) (((2 : Int32) * x2) + z17.1) x3 z17.2 h).trans ((q_Parser_take hz17).trans rfl)
        · rw [if_neg c38] at h
          by_cases c45 : (((2 : Int32) * x2) + z17.1) < ((1 : Int32) <<< (x3 &&& 31))
          · rw [if_pos c45] at h
            exact (G52 (m_Parser_takeCounts_6 n  k) ih (x1 + z17.1) (((2 : Int32) * x2) + z17.1) x3 z17.2 h).trans ((q_Parser_take hz17).trans rfl)
          · rw [if_neg c45] at h
            exact (G48 (m_Parser_takeCounts_6 n  k) ih (x1 + z17.1) (((2 : Int32) * x2) + z17.1) x3 z17.2 h).trans ((q_Parser_take hz17).trans rfl)
  unfold m_Parser_takeCounts at h
  exact (G6  n (0 : Int32) (0 : Int32) (1 : Int32) t h).trans rfl
theorem q_Arrays_fillJ_15 {n : Nat} {x1 : Int64} {t : St} {z : St} (h : m_Arrays_fillJ_15 n x1 t = some z) : z.2.2.2 = t.2.2.2 := by
  have G6 : ∀ (k : Nat) (x1 : Int64) (x3 : Int32) (x4 : Int32) (t : St), m_Arrays_fillJ_15_6 n  k x1 x3 x4 t = some z → z.2.2.2 = t.2.2.2 := by
    intro k
    induction k with
    | zero => intro x1 x3 x4 t h; exact absurd (show none = some z from h) (by simp)
    | succ k ih =>
      intro x1 x3 x4 t h
      change m_Arrays_fillJ_15_6b n  (m_Arrays_fillJ_15_6 n  k) x1 x3 x4 t = some z at h
      unfold m_Arrays_fillJ_15_6b at h
      by_cases c9 : x4 ≤ x3
      · rw [if_pos c9] at h
        exact (congrArg (fun q : St => q.2.2.2) (j_s h)).symm.trans rfl
      · rw [if_neg c9] at h
        obtain ⟨b15, h⟩ := j_ifn h
        exact (ih x1 (x3 + 1) x4 (sL t 0 (x3).toNatClampNeg x1) h).trans rfl
  unfold m_Arrays_fillJ_15 at h
  exact (G6  n x1 (0 : Int32) (Int32.ofNat 4) t h).trans rfl
theorem q_Parser_takeSymbols {n : Nat} {x1 : Int32} {x2 : Int32} {t : St} {z : St} (h : m_Parser_takeSymbols n x1 x2 t = some z) : z.2.2.2 = t.2.2.2 := by
  have G74 : ∀ (K10 : Int32 → Int32 → Int32 → St → Option (St)) (hK10 : ∀ (x1 : Int32) (x2 : Int32) (x3 : Int32) (t : St), K10 x1 x2 x3 t = some z → z.2.2.2 = t.2.2.2) (x1 : Int32) (x2 : Int32) (x3 : Int32) (x5 : Int32) (x6 : Int64) (t : St), m_Parser_takeSymbols_74 n K10 x1 x2 x3 x5 x6 t = some z → z.2.2.2 = t.2.2.2 := by
    intro K10 hK10 x1 x2 x3 x5 x6 t h
    unfold m_Parser_takeSymbols_74 at h
    obtain ⟨b81, h⟩ := j_ifn h
    obtain ⟨b85, h⟩ := j_ifn h
    exact (hK10 x1 x2 (x3 + 1) (sL t 0 (x5).toNatClampNeg (((t.2.2.1 0) (x5).toNatClampNeg) ||| x6)) h).trans rfl
  have G10 : ∀ (k : Nat) (x1 : Int32) (x2 : Int32) (x3 : Int32) (t : St), m_Parser_takeSymbols_10 n  k x1 x2 x3 t = some z → z.2.2.2 = t.2.2.2 := by
    intro k
    induction k with
    | zero => intro x1 x2 x3 t h; exact absurd (show none = some z from h) (by simp)
    | succ k ih =>
      intro x1 x2 x3 t h
      change m_Parser_takeSymbols_10b n  (m_Parser_takeSymbols_10 n  k) x1 x2 x3 t = some z at h
      unfold m_Parser_takeSymbols_10b at h
      by_cases c12 : x1 ≤ x3
      · rw [if_pos c12] at h
        exact (congrArg (fun q : St => q.2.2.2) (j_s h)).symm.trans rfl
      · rw [if_neg c12] at h
        by_cases c19 : (t.1 13) = 0
        · rw [if_pos c19] at h
          obtain ⟨z25, hz25, h⟩ := j_bind h
          by_cases c33 : z25.1 = (-1 : Int32)
          · rw [if_pos c33] at h
            exact (congrArg (fun q : St => q.2.2.2) (j_s h)).symm.trans ((q_Parser_take hz25).trans rfl)
          · rw [if_neg c33] at h
            obtain ⟨b61, h⟩ := j_ifn h
            by_cases c67 : (lg_cmp (((z25.2.2.2.1 0) (((z25.1 >>> ((6 : Int32) &&& 31)) &&& (3 : Int32))).toNatClampNeg) &&& ((1 : Int64) <<< (((z25.1 &&& (63 : Int32))).toInt64 &&& 63))) (0 : Int64)) = 0
            · rw [if_pos c67] at h
              exact (G74 (m_Parser_takeSymbols_10 n  k) ih x1 x2 x3 ((z25.1 >>> ((6 : Int32) &&& 31)) &&& (3 : Int32)) ((1 : Int64) <<< (((z25.1 &&& (63 : Int32))).toInt64 &&& 63)) z25.2 h).trans ((q_Parser_take hz25).trans rfl)
            · rw [if_neg c67] at h
              obtain ⟨z71, hz71, h⟩ := j_bind h
              exact (G74 (m_Parser_takeSymbols_10 n  k) ih x1 x2 x3 ((z25.1 >>> ((6 : Int32) &&& 31)) &&& (3 : Int32)) ((1 : Int64) <<< (((z25.1 &&& (63 : Int32))).toInt64 &&& 63)) z71 h).trans ((q_Parser_refuseTaken hz71).trans ((q_Parser_take hz25).trans rfl))
        · rw [if_neg c19] at h
          exact (congrArg (fun q : St => q.2.2.2) (j_s h)).symm.trans rfl
  unfold m_Parser_takeSymbols at h
  obtain ⟨z5, hz5, h⟩ := j_bind h
  exact (G10  n x1 x2 (0 : Int32) z5 h).trans ((q_Arrays_fillJ_15 hz5).trans rfl)
theorem q_Picture_rowOfWords {n : Nat} {x1 : Int32} {t : St} {z : Int32 × St} (h : m_Picture_rowOfWords n x1 t = some z) : z.2.2.2.2 = t.2.2.2 := by
  have G30 : ∀  (t : St), m_Picture_rowOfWords_30 n   t = some z → z.2.2.2.2 = t.2.2.2 := by
    intro  t h
    unfold m_Picture_rowOfWords_30 at h
    exact (congrArg (fun q : St => q.2.2.2) (j_r2 h)).symm.trans rfl
  have G11 : ∀ (x1 : Int32) (t : St), m_Picture_rowOfWords_11 n  x1 t = some z → z.2.2.2.2 = t.2.2.2 := by
    intro x1 t h
    unfold m_Picture_rowOfWords_11 at h
    by_cases c14 : x1 < (16 : Int32)
    · rw [if_pos c14] at h
      exact (G30  t h).trans rfl
    · rw [if_neg c14] at h
      by_cases c20 : (19 : Int32) < x1
      · rw [if_pos c20] at h
        exact (G30  t h).trans rfl
      · rw [if_neg c20] at h
        exact (congrArg (fun q : St => q.2.2.2) (j_r2 h)).symm.trans rfl
  unfold m_Picture_rowOfWords at h
  by_cases c1 : x1 < 0
  · rw [if_pos c1] at h
    exact (G11  x1 t h).trans rfl
  · rw [if_neg c1] at h
    by_cases c6 : (3 : Int32) < x1
    · rw [if_pos c6] at h
      exact (G11  x1 t h).trans rfl
    · rw [if_neg c6] at h
      exact (congrArg (fun q : St => q.2.2.2) (j_r2 h)).symm.trans rfl
theorem q_Picture_setWords {n : Nat} {x1 : Int32} {x2 : Int32} {t : St} {z : St} (h : m_Picture_setWords n x1 x2 t = some z) : z.2.2.2 = t.2.2.2 := by
  unfold m_Picture_setWords at h
  obtain ⟨z2, hz2, h⟩ := j_bind h
  by_cases c7 : z2.1 < 0
  · rw [if_pos c7] at h
    exact (congrArg (fun q : St => q.2.2.2) (j_s h)).symm.trans ((q_Picture_rowOfWords hz2).trans rfl)
  · rw [if_neg c7] at h
    by_cases c16 : (Int32.ofNat 8) ≤ z2.1
    · rw [if_pos c16] at h
      exact (congrArg (fun q : St => q.2.2.2) (j_s h)).symm.trans ((q_Picture_rowOfWords hz2).trans rfl)
    · rw [if_neg c16] at h
      obtain ⟨b25, h⟩ := j_ifn h
      exact (congrArg (fun q : St => q.2.2.2) (j_s h)).symm.trans ((q_Picture_rowOfWords hz2).trans rfl)
theorem q_Parser_readWords {n : Nat}  {t : St} {z : St} (h : m_Parser_readWords n t = some z) : z.2.2.2 = t.2.2.2 := by
  have G67 : ∀ (K4 : Int32 → Int32 → St → Option (St)) (hK4 : ∀ (x1 : Int32) (x2 : Int32) (t : St), K4 x1 x2 t = some z → z.2.2.2 = t.2.2.2) (x2 : Int32) (x3 : Int32) (x4 : Int32) (y1 : Int32) (y2 : Int32) (t : St), m_Parser_readWords_67 n K4 x2 x3 x4 y1 y2 t = some z → z.2.2.2 = t.2.2.2 := by
    intro K4 hK4 x2 x3 x4 y1 y2 t h
    unfold m_Parser_readWords_67 at h
    obtain ⟨z67, hz67, h⟩ := j_bind h
    obtain ⟨z77, hz77, h⟩ := j_bind h
    obtain ⟨z81, hz81, h⟩ := j_bind h
    exact (hK4 z81.1 (x2 + 1) z81.2 h).trans ((q_Parser_moreContents hz81).trans ((q_Picture_setWords hz77).trans ((q_Parser_takeSymbols hz67).trans rfl)))
  have G38 : ∀ (K4 : Int32 → Int32 → St → Option (St)) (hK4 : ∀ (x1 : Int32) (x2 : Int32) (t : St), K4 x1 x2 t = some z → z.2.2.2 = t.2.2.2) (x2 : Int32) (x3 : Int32) (t : St), m_Parser_readWords_38 n K4 x2 x3 t = some z → z.2.2.2 = t.2.2.2 := by
    intro K4 hK4 x2 x3 t h
    unfold m_Parser_readWords_38 at h
    obtain ⟨z45, hz45, h⟩ := j_bind h
    by_cases c56 : (16 : Int32) ≤ x3
    · rw [if_pos c56] at h
      exact (G67 K4 hK4 x2 x3 (t.1 9) z45.1 (255 : Int32) z45.2 h).trans ((q_Parser_takeCounts hz45).trans rfl)
    · rw [if_neg c56] at h
      exact (G67 K4 hK4 x2 x3 (t.1 9) z45.1 (11 : Int32) z45.2 h).trans ((q_Parser_takeCounts hz45).trans rfl)
  have G4 : ∀ (k : Nat) (x1 : Int32) (x2 : Int32) (t : St), m_Parser_readWords_4 n  k x1 x2 t = some z → z.2.2.2 = t.2.2.2 := by
    intro k
    induction k with
    | zero => intro x1 x2 t h; exact absurd (show none = some z from h) (by simp)
    | succ k ih =>
      intro x1 x2 t h
      change m_Parser_readWords_4b n  (m_Parser_readWords_4 n  k) x1 x2 t = some z at h
      unfold m_Parser_readWords_4b at h
      by_cases c8 : (16384 : Int32) ≤ x2
      · rw [if_pos c8] at h
        exact (congrArg (fun q : St => q.2.2.2) (j_s h)).symm.trans rfl
      · rw [if_neg c8] at h
        by_cases c12 : x1 = 0
        · rw [if_pos c12] at h
          exact (congrArg (fun q : St => q.2.2.2) (j_s h)).symm.trans rfl
        · rw [if_neg c12] at h
          obtain ⟨z19, hz19, h⟩ := j_bind h
          by_cases c25 : z19.1 ≤ (3 : Int32)
          · rw [if_pos c25] at h
            exact (G38 (m_Parser_readWords_4 n  k) ih x2 z19.1 z19.2 h).trans ((q_Parser_take hz19).trans rfl)
          · rw [if_neg c25] at h
            by_cases c31 : (16 : Int32) ≤ z19.1
            · rw [if_pos c31] at h
              exact (G38 (m_Parser_readWords_4 n  k) ih x2 z19.1 z19.2 h).trans ((q_Parser_take hz19).trans rfl)
            · rw [if_neg c31] at h
              obtain ⟨z35, hz35, h⟩ := j_bind h
              exact (G38 (m_Parser_readWords_4 n  k) ih x2 z19.1 z35 h).trans ((q_Parser_refuseTaken hz35).trans ((q_Parser_take hz19).trans rfl))
  unfold m_Parser_readWords at h
  exact (G4  n (1 : Int32) (0 : Int32) t h).trans rfl
theorem q_Picture_ofComponent {n : Nat} {x1 : Int32} {x2 : Int32} {t : St} {z : Int32 × St} (h : m_Picture_ofComponent n x1 x2 t = some z) : z.2.2.2.2 = t.2.2.2 := by
  unfold m_Picture_ofComponent at h
  by_cases c1 : x1 < 0
  · rw [if_pos c1] at h
    exact (congrArg (fun q : St => q.2.2.2) (j_r2 h)).symm.trans rfl
  · rw [if_neg c1] at h
    by_cases c9 : (t.1 4) ≤ x1
    · rw [if_pos c9] at h
      exact (congrArg (fun q : St => q.2.2.2) (j_r2 h)).symm.trans rfl
    · rw [if_neg c9] at h
      by_cases c13 : x2 < 0
      · rw [if_pos c13] at h
        exact (congrArg (fun q : St => q.2.2.2) (j_r2 h)).symm.trans rfl
      · rw [if_neg c13] at h
        by_cases c18 : x2 < (4 : Int32)
        · rw [if_pos c18] at h
          obtain ⟨b32, h⟩ := j_ifn h
          exact (congrArg (fun q : St => q.2.2.2) (j_r2 h)).symm.trans rfl
        · rw [if_neg c18] at h
          exact (congrArg (fun q : St => q.2.2.2) (j_r2 h)).symm.trans rfl
theorem q_Picture_placeOfName {n : Nat} {x1 : Int32} {t : St} {z : Int32 × St} (h : m_Picture_placeOfName n x1 t = some z) : z.2.2.2.2 = t.2.2.2 := by
  have G2 : ∀ (k : Nat) (x1 : Int32) (x2 : Int32) (t : St), m_Picture_placeOfName_2 n  k x1 x2 t = some z → z.2.2.2.2 = t.2.2.2 := by
    intro k
    induction k with
    | zero => intro x1 x2 t h; exact absurd (show none = some z from h) (by simp)
    | succ k ih =>
      intro x1 x2 t h
      change m_Picture_placeOfName_2b n  (m_Picture_placeOfName_2 n  k) x1 x2 t = some z at h
      unfold m_Picture_placeOfName_2b at h
      by_cases c7 : (t.1 4) ≤ x2
      · rw [if_pos c7] at h
        exact (congrArg (fun q : St => q.2.2.2) (j_r2 h)).symm.trans rfl
      · rw [if_neg c7] at h
        obtain ⟨z13, hz13, h⟩ := j_bind h
        by_cases c17 : z13.1 = x1
        · rw [if_pos c17] at h
          exact (congrArg (fun q : St => q.2.2.2) (j_r2 h)).symm.trans ((q_Picture_ofComponent hz13).trans rfl)
        · rw [if_neg c17] at h
          exact (ih x1 (x2 + 1) z13.2 h).trans ((q_Picture_ofComponent hz13).trans rfl)
  unfold m_Picture_placeOfName at h
  exact (G2  n x1 (0 : Int32) t h).trans rfl
theorem q_Picture_addComponent {n : Nat} {x1 : Int32} {x2 : Int32} {x3 : Int32} {x4 : Int32} {t : St} {z : St} (h : m_Picture_addComponent n x1 x2 x3 x4 t = some z) : z.2.2.2 = t.2.2.2 := by
  unfold m_Picture_addComponent at h
  by_cases c5 : (t.1 4) < (4 : Int32)
  · rw [if_pos c5] at h
    obtain ⟨b24, h⟩ := j_ifn h
    obtain ⟨w34, hw34, h⟩ := j_bind h
    obtain ⟨b34, h⟩ := j_ifn h
    obtain ⟨w44, hw44, h⟩ := j_bind h
    obtain ⟨b44, h⟩ := j_ifn h
    obtain ⟨w55, hw55, h⟩ := j_bind h
    obtain ⟨b55, h⟩ := j_ifn h
    exact (congrArg (fun q : St => q.2.2.2) (j_s h)).symm.trans ((congrArg (fun q : St => q.2.2.2) (j_s hw55)).symm.trans ((congrArg (fun q : St => q.2.2.2) (j_s hw44)).symm.trans ((congrArg (fun q : St => q.2.2.2) (j_s hw34)).symm.trans rfl)))
  · rw [if_neg c5] at h
    exact (congrArg (fun q : St => q.2.2.2) (j_s h)).symm.trans rfl
theorem q_Parser_readComponent {n : Nat}  {t : St} {z : St} (h : m_Parser_readComponent n t = some z) : z.2.2.2 = t.2.2.2 := by
  have G70 : ∀ (x1 : Int32) (x3 : Int32) (x4 : Int32) (t : St), m_Parser_readComponent_70 n  x1 x3 x4 t = some z → z.2.2.2 = t.2.2.2 := by
    intro x1 x3 x4 t h
    unfold m_Parser_readComponent_70 at h
    obtain ⟨z81, hz81, h⟩ := j_bind h
    obtain ⟨z84, hz84, h⟩ := j_bind h
    exact (congrArg (fun q : St => q.2.2.2) (j_s h)).symm.trans ((q_Picture_addComponent hz84).trans ((q_Parser_take hz81).trans rfl))
  have G66 : ∀ (x1 : Int32) (x3 : Int32) (x4 : Int32) (t : St), m_Parser_readComponent_66 n  x1 x3 x4 t = some z → z.2.2.2 = t.2.2.2 := by
    intro x1 x3 x4 t h
    unfold m_Parser_readComponent_66 at h
    obtain ⟨z67, hz67, h⟩ := j_bind h
    exact (G70  x1 x3 x4 z67 h).trans ((q_Parser_refuseTaken hz67).trans rfl)
  have G25 : ∀ (x1 : Int32) (t : St), m_Parser_readComponent_25 n  x1 t = some z → z.2.2.2 = t.2.2.2 := by
    intro x1 t h
    unfold m_Parser_readComponent_25 at h
    obtain ⟨z30, hz30, h⟩ := j_bind h
    by_cases c46 : (z30.1 >>> ((4 : Int32) &&& 31)) < (1 : Int32)
    · rw [if_pos c46] at h
      exact (G66  x1 (z30.1 >>> ((4 : Int32) &&& 31)) (z30.1 &&& (15 : Int32)) z30.2 h).trans ((q_Parser_take hz30).trans rfl)
    · rw [if_neg c46] at h
      by_cases c51 : (2 : Int32) < (z30.1 >>> ((4 : Int32) &&& 31))
      · rw [if_pos c51] at h
        exact (G66  x1 (z30.1 >>> ((4 : Int32) &&& 31)) (z30.1 &&& (15 : Int32)) z30.2 h).trans ((q_Parser_take hz30).trans rfl)
      · rw [if_neg c51] at h
        by_cases c57 : (z30.1 &&& (15 : Int32)) < (1 : Int32)
        · rw [if_pos c57] at h
          exact (G66  x1 (z30.1 >>> ((4 : Int32) &&& 31)) (z30.1 &&& (15 : Int32)) z30.2 h).trans ((q_Parser_take hz30).trans rfl)
        · rw [if_neg c57] at h
          by_cases c63 : (z30.1 &&& (15 : Int32)) ≤ (2 : Int32)
          · rw [if_pos c63] at h
            exact (G70  x1 (z30.1 >>> ((4 : Int32) &&& 31)) (z30.1 &&& (15 : Int32)) z30.2 h).trans ((q_Parser_take hz30).trans rfl)
          · rw [if_neg c63] at h
            exact (G66  x1 (z30.1 >>> ((4 : Int32) &&& 31)) (z30.1 &&& (15 : Int32)) z30.2 h).trans ((q_Parser_take hz30).trans rfl)
  unfold m_Parser_readComponent at h
  obtain ⟨z5, hz5, h⟩ := j_bind h
  obtain ⟨z14, hz14, h⟩ := j_bind h
  by_cases c18 : z14.1 = (-1 : Int32)
  · rw [if_pos c18] at h
    exact (G25  z5.1 z14.2 h).trans ((q_Picture_placeOfName hz14).trans ((q_Parser_take hz5).trans rfl))
  · rw [if_neg c18] at h
    obtain ⟨z22, hz22, h⟩ := j_bind h
    exact (G25  z5.1 z22 h).trans ((q_Parser_refuseTaken hz22).trans ((q_Picture_placeOfName hz14).trans ((q_Parser_take hz5).trans rfl)))
theorem q_Parser_readFrame {n : Nat} {x1 : Int32} {t : St} {z : St} (h : m_Parser_readFrame n x1 t = some z) : z.2.2.2 = t.2.2.2 := by
  have G46 : ∀ (k : Nat) (x1 : Int32) (x2 : Int32) (x3 : Int32) (t : St), m_Parser_readFrame_46 n  k x1 x2 x3 t = some z → z.2.2.2 = t.2.2.2 := by
    intro k
    induction k with
    | zero => intro x1 x2 x3 t h; exact absurd (show none = some z from h) (by simp)
    | succ k ih =>
      intro x1 x2 x3 t h
      change m_Parser_readFrame_46b n  (m_Parser_readFrame_46 n  k) x1 x2 x3 t = some z at h
      unfold m_Parser_readFrame_46b at h
      by_cases c48 : x2 ≤ x3
      · rw [if_pos c48] at h
        exact (congrArg (fun q : St => q.2.2.2) (j_s h)).symm.trans rfl
      · rw [if_neg c48] at h
        obtain ⟨z52, hz52, h⟩ := j_bind h
        exact (ih x1 x2 (x3 + 1) z52 h).trans ((q_Parser_readComponent hz52).trans rfl)
  unfold m_Parser_readFrame at h
  obtain ⟨z5, hz5, h⟩ := j_bind h
  obtain ⟨z17, hz17, h⟩ := j_bind h
  obtain ⟨z31, hz31, h⟩ := j_bind h
  obtain ⟨z40, hz40, h⟩ := j_bind h
  exact (G46  n x1 z40.1 (0 : Int32) z40.2 h).trans ((q_Parser_take hz40).trans ((q_Parser_takePair hz31).trans ((q_Parser_takePair hz17).trans ((q_Parser_take hz5).trans rfl))))
theorem q_Parser_takeScanComponents {n : Nat}  {t : St} {z : St} (h : m_Parser_takeScanComponents n t = some z) : z.2.2.2 = t.2.2.2 := by
  have G128 : ∀ (K6 : Int32 → Int32 → Int32 → St → Option (St)) (hK6 : ∀ (x1 : Int32) (x2 : Int32) (x3 : Int32) (t : St), K6 x1 x2 x3 t = some z → z.2.2.2 = t.2.2.2) (x1 : Int32) (x2 : Int32) (x3 : Int32) (t : St), m_Parser_takeScanComponents_128 n K6 x1 x2 x3 t = some z → z.2.2.2 = t.2.2.2 := by
    intro K6 hK6 x1 x2 x3 t h
    unfold m_Parser_takeScanComponents_128 at h
    exact (hK6 x1 x2 (x3 + 1) t h).trans rfl
  have G92 : ∀ (K6 : Int32 → Int32 → Int32 → St → Option (St)) (hK6 : ∀ (x1 : Int32) (x2 : Int32) (x3 : Int32) (t : St), K6 x1 x2 x3 t = some z → z.2.2.2 = t.2.2.2) (x2 : Int32) (x3 : Int32) (x4 : Int32) (t : St), m_Parser_takeScanComponents_92 n K6 x2 x3 x4 t = some z → z.2.2.2 = t.2.2.2 := by
    intro K6 hK6 x2 x3 x4 t h
    unfold m_Parser_takeScanComponents_92 at h
    obtain ⟨b102, h⟩ := j_ifn h
    obtain ⟨z110, hz110, h⟩ := j_bind h
    by_cases c121 : (z110.1 &&& (15 : Int32)) ≤ (3 : Int32)
    · rw [if_pos c121] at h
      exact (G128 K6 hK6 x4 x2 x3 z110.2 h).trans ((q_Parser_take hz110).trans rfl)
    · rw [if_neg c121] at h
      obtain ⟨z125, hz125, h⟩ := j_bind h
      exact (G128 K6 hK6 x4 x2 x3 z125 h).trans ((q_Parser_refuseTaken hz125).trans ((q_Parser_take hz110).trans rfl))
  have G58 : ∀ (K6 : Int32 → Int32 → Int32 → St → Option (St)) (hK6 : ∀ (x1 : Int32) (x2 : Int32) (x3 : Int32) (t : St), K6 x1 x2 x3 t = some z → z.2.2.2 = t.2.2.2) (x2 : Int32) (x3 : Int32) (x4 : Int32) (t : St), m_Parser_takeScanComponents_58 n K6 x2 x3 x4 t = some z → z.2.2.2 = t.2.2.2 := by
    intro K6 hK6 x2 x3 x4 t h
    unfold m_Parser_takeScanComponents_58 at h
    obtain ⟨z66, hz66, h⟩ := j_bind h
    obtain ⟨z76, hz76, h⟩ := j_bind h
    by_cases c85 : (x2 + (z66.1 * z76.1)) ≤ (10 : Int32)
    · rw [if_pos c85] at h
      exact (G92 K6 hK6 (x2 + (z66.1 * z76.1)) x3 x4 z76.2 h).trans ((q_Picture_ofComponent hz76).trans ((q_Picture_ofComponent hz66).trans rfl))
    · rw [if_neg c85] at h
      obtain ⟨z89, hz89, h⟩ := j_bind h
      exact (G92 K6 hK6 (x2 + (z66.1 * z76.1)) x3 x4 z89 h).trans ((q_Parser_refuseTaken hz89).trans ((q_Picture_ofComponent hz76).trans ((q_Picture_ofComponent hz66).trans rfl)))
  have G6 : ∀ (k : Nat) (x1 : Int32) (x2 : Int32) (x3 : Int32) (t : St), m_Parser_takeScanComponents_6 n  k x1 x2 x3 t = some z → z.2.2.2 = t.2.2.2 := by
    intro k
    induction k with
    | zero => intro x1 x2 x3 t h; exact absurd (show none = some z from h) (by simp)
    | succ k ih =>
      intro x1 x2 x3 t h
      change m_Parser_takeScanComponents_6b n  (m_Parser_takeScanComponents_6 n  k) x1 x2 x3 t = some z at h
      unfold m_Parser_takeScanComponents_6b at h
      by_cases c14 : (t.1 16) ≤ x3
      · rw [if_pos c14] at h
        exact (congrArg (fun q : St => q.2.2.2) (j_s h)).symm.trans rfl
      · rw [if_neg c14] at h
        by_cases c19 : (4 : Int32) ≤ x3
        · rw [if_pos c19] at h
          exact (congrArg (fun q : St => q.2.2.2) (j_s h)).symm.trans rfl
        · rw [if_neg c19] at h
          obtain ⟨z31, hz31, h⟩ := j_bind h
          obtain ⟨z34, hz34, h⟩ := j_bind h
          by_cases c42 : x1 < z34.1
          · rw [if_pos c42] at h
            exact (G58 (m_Parser_takeScanComponents_6 n  k) ih x2 x3 z34.1 z34.2 h).trans ((q_Picture_placeOfName hz34).trans ((q_Parser_take hz31).trans rfl))
          · rw [if_neg c42] at h
            obtain ⟨z54, hz54, h⟩ := j_bind h
            exact (G58 (m_Parser_takeScanComponents_6 n  k) ih x2 x3 z34.1 z54.2 h).trans ((q_Parser_fail hz54).trans ((q_Picture_placeOfName hz34).trans ((q_Parser_take hz31).trans rfl)))
  unfold m_Parser_takeScanComponents at h
  exact (G6  n (-1 : Int32) (0 : Int32) (0 : Int32) t h).trans rfl
theorem q_Parser_takeBits {n : Nat} {x1 : Int32} {t : St} {z : St} (h : m_Parser_takeBits n x1 t = some z) : z.2.2.2 = t.2.2.2 := by
  have G69 : ∀  (t : St), m_Parser_takeBits_69 n   t = some z → z.2.2.2 = t.2.2.2 := by
    intro  t h
    unfold m_Parser_takeBits_69 at h
    obtain ⟨z70, hz70, h⟩ := j_bind h
    exact (congrArg (fun q : St => q.2.2.2) (j_s h)).symm.trans ((q_Parser_refuseTaken hz70).trans rfl)
  unfold m_Parser_takeBits at h
  obtain ⟨z3, hz3, h⟩ := j_bind h
  by_cases c37 : (13 : Int32) < (z3.1 &&& (15 : Int32))
  · rw [if_pos c37] at h
    exact (G69  (sG (sG z3.2 19 (z3.1 >>> ((4 : Int32) &&& 31))) 20 (z3.1 &&& (15 : Int32))) h).trans ((q_Parser_take hz3).trans rfl)
  · rw [if_neg c37] at h
    by_cases c47 : (z3.1 >>> ((4 : Int32) &&& 31)) = 0
    · rw [if_pos c47] at h
      exact (congrArg (fun q : St => q.2.2.2) (j_s h)).symm.trans ((q_Parser_take hz3).trans rfl)
    · rw [if_neg c47] at h
      by_cases c66 : (z3.1 >>> ((4 : Int32) &&& 31)) = ((z3.1 &&& (15 : Int32)) + (1 : Int32))
      · rw [if_pos c66] at h
        exact (congrArg (fun q : St => q.2.2.2) (j_s h)).symm.trans ((q_Parser_take hz3).trans rfl)
      · rw [if_neg c66] at h
        exact (G69  (sG (sG z3.2 19 (z3.1 >>> ((4 : Int32) &&& 31))) 20 (z3.1 &&& (15 : Int32))) h).trans ((q_Parser_take hz3).trans rfl)
theorem q_Scan_placeAt {n : Nat} {x1 : Int32} {t : St} {z : Int32 × St} (h : m_Scan_placeAt n x1 t = some z) : z.2.2.2.2 = t.2.2.2 := by
  have G22 : ∀  (t : St), m_Scan_placeAt_22 n   t = some z → z.2.2.2.2 = t.2.2.2 := by
    intro  t h
    unfold m_Scan_placeAt_22 at h
    exact (congrArg (fun q : St => q.2.2.2) (j_r2 h)).symm.trans rfl
  unfold m_Scan_placeAt at h
  by_cases c1 : x1 < 0
  · rw [if_pos c1] at h
    exact (G22  t h).trans rfl
  · rw [if_neg c1] at h
    by_cases c10 : (Int32.ofNat 4) ≤ x1
    · rw [if_pos c10] at h
      exact (G22  t h).trans rfl
    · rw [if_neg c10] at h
      obtain ⟨b18, h⟩ := j_ifn h
      exact (congrArg (fun q : St => q.2.2.2) (j_r2 h)).symm.trans rfl
theorem q_Scan_nameAt {n : Nat} {x1 : Int32} {t : St} {z : Int32 × St} (h : m_Scan_nameAt n x1 t = some z) : z.2.2.2.2 = t.2.2.2 := by
  unfold m_Scan_nameAt at h
  exact (congrArg (fun q : St => q.2.2.2) (j_r2 h)).symm.trans rfl
theorem q_Parser_checkSent {n : Nat}  {t : St} {z : St} (h : m_Parser_checkSent n t = some z) : z.2.2.2 = t.2.2.2 := by
  have G163 : ∀ (K2 : Int32 → St → Option (St)) (hK2 : ∀ (x1 : Int32) (t : St), K2 x1 t = some z → z.2.2.2 = t.2.2.2) (K135 : Int32 → Int32 → Int32 → Int32 → St → Option (St)) (hK135 : ∀ (x1 : Int32) (x2 : Int32) (x5 : Int32) (x6 : Int32) (t : St), K135 x1 x2 x5 x6 t = some z → z.2.2.2 = t.2.2.2) (x1 : Int32) (x2 : Int32) (x5 : Int32) (x6 : Int32) (t : St), m_Parser_checkSent_163 n K2 K135 x1 x2 x5 x6 t = some z → z.2.2.2 = t.2.2.2 := by
    intro K2 hK2 K135 hK135 x1 x2 x5 x6 t h
    unfold m_Parser_checkSent_163 at h
    exact (hK135 x1 x2 x5 (x6 + 1) t h).trans rfl
  have G135 : ∀ (K2 : Int32 → St → Option (St)) (hK2 : ∀ (x1 : Int32) (t : St), K2 x1 t = some z → z.2.2.2 = t.2.2.2) (k : Nat) (x1 : Int32) (x2 : Int32) (x5 : Int32) (x6 : Int32) (t : St), m_Parser_checkSent_135 n K2 k x1 x2 x5 x6 t = some z → z.2.2.2 = t.2.2.2 := by
    intro K2 hK2 k
    induction k with
    | zero => intro x1 x2 x5 x6 t h; exact absurd (show none = some z from h) (by simp)
    | succ k ih =>
      intro x1 x2 x5 x6 t h
      change m_Parser_checkSent_135b n K2 (m_Parser_checkSent_135 n K2 k) x1 x2 x5 x6 t = some z at h
      unfold m_Parser_checkSent_135b at h
      by_cases c144 : (t.1 18) < x6
      · rw [if_pos c144] at h
        exact (hK2 (x1 + 1) t h).trans rfl
      · rw [if_neg c144] at h
        obtain ⟨z151, hz151, h⟩ := j_bind h
        by_cases c156 : z151.1 = x5
        · rw [if_pos c156] at h
          exact (G163 K2 hK2 (m_Parser_checkSent_135 n K2 k) ih x1 x2 x5 x6 z151.2 h).trans ((q_Parser_latestOf hz151).trans rfl)
        · rw [if_neg c156] at h
          obtain ⟨z160, hz160, h⟩ := j_bind h
          exact (G163 K2 hK2 (m_Parser_checkSent_135 n K2 k) ih x1 x2 x5 x6 z160 h).trans ((q_Parser_refuseTaken hz160).trans ((q_Parser_latestOf hz151).trans rfl))
  have G124 : ∀ (K2 : Int32 → St → Option (St)) (hK2 : ∀ (x1 : Int32) (t : St), K2 x1 t = some z → z.2.2.2 = t.2.2.2) (x1 : Int32) (x2 : Int32) (y0 : Int32) (t : St), m_Parser_checkSent_124 n K2 x1 x2 y0 t = some z → z.2.2.2 = t.2.2.2 := by
    intro K2 hK2 x1 x2 y0 t h
    unfold m_Parser_checkSent_124 at h
    exact (G135 K2 hK2 n x1 x2 y0 (t.1 17) t h).trans rfl
  have G103 : ∀ (K2 : Int32 → St → Option (St)) (hK2 : ∀ (x1 : Int32) (t : St), K2 x1 t = some z → z.2.2.2 = t.2.2.2) (x1 : Int32) (x2 : Int32) (t : St), m_Parser_checkSent_103 n K2 x1 x2 t = some z → z.2.2.2 = t.2.2.2 := by
    intro K2 hK2 x1 x2 t h
    unfold m_Parser_checkSent_103 at h
    by_cases c110 : (t.1 19) = 0
    · rw [if_pos c110] at h
      exact (G124 K2 hK2 x1 x2 (-1 : Int32) t h).trans rfl
    · rw [if_neg c110] at h
      exact (G124 K2 hK2 x1 x2 (t.1 19) t h).trans rfl
  have G88 : ∀ (K2 : Int32 → St → Option (St)) (hK2 : ∀ (x1 : Int32) (t : St), K2 x1 t = some z → z.2.2.2 = t.2.2.2) (x1 : Int32) (x2 : Int32) (t : St), m_Parser_checkSent_88 n K2 x1 x2 t = some z → z.2.2.2 = t.2.2.2 := by
    intro K2 hK2 x1 x2 t h
    unfold m_Parser_checkSent_88 at h
    obtain ⟨z96, hz96, h⟩ := j_bind h
    obtain ⟨z99, hz99, h⟩ := j_bind h
    exact (G103 K2 hK2 x1 x2 z99.2 h).trans ((q_Parser_fail hz99).trans ((q_Scan_nameAt hz96).trans rfl))
  have G67 : ∀ (K2 : Int32 → St → Option (St)) (hK2 : ∀ (x1 : Int32) (t : St), K2 x1 t = some z → z.2.2.2 = t.2.2.2) (x1 : Int32) (x2 : Int32) (x3 : Int32) (y0 : Int32) (t : St), m_Parser_checkSent_67 n K2 x1 x2 x3 y0 t = some z → z.2.2.2 = t.2.2.2 := by
    intro K2 hK2 x1 x2 x3 y0 t h
    unfold m_Parser_checkSent_67 at h
    by_cases c71 : y0 = 0
    · rw [if_pos c71] at h
      by_cases c81 : (t.1 17) ≤ 0
      · rw [if_pos c81] at h
        exact (G103 K2 hK2 x1 x2 t h).trans rfl
      · rw [if_neg c81] at h
        by_cases c85 : x3 = 0
        · rw [if_pos c85] at h
          exact (G88 K2 hK2 x1 x2 t h).trans rfl
        · rw [if_neg c85] at h
          exact (G103 K2 hK2 x1 x2 t h).trans rfl
    · rw [if_neg c71] at h
      exact (G88 K2 hK2 x1 x2 t h).trans rfl
  have G66 : ∀ (K2 : Int32 → St → Option (St)) (hK2 : ∀ (x1 : Int32) (t : St), K2 x1 t = some z → z.2.2.2 = t.2.2.2) (x1 : Int32) (x2 : Int32) (x3 : Int32) (t : St), m_Parser_checkSent_66 n K2 x1 x2 x3 t = some z → z.2.2.2 = t.2.2.2 := by
    intro K2 hK2 x1 x2 x3 t h
    unfold m_Parser_checkSent_66 at h
    exact (G67 K2 hK2 x1 x2 x3 (0 : Int32) t h).trans rfl
  have G44 : ∀ (K2 : Int32 → St → Option (St)) (hK2 : ∀ (x1 : Int32) (t : St), K2 x1 t = some z → z.2.2.2 = t.2.2.2) (x1 : Int32) (x2 : Int32) (y0 : Int32) (t : St), m_Parser_checkSent_44 n K2 x1 x2 y0 t = some z → z.2.2.2 = t.2.2.2 := by
    intro K2 hK2 x1 x2 y0 t h
    unfold m_Parser_checkSent_44 at h
    by_cases c46 : y0 = 0
    · rw [if_pos c46] at h
      exact (G66 K2 hK2 x1 x2 y0 t h).trans rfl
    · rw [if_neg c46] at h
      by_cases c59 : (t.1 1) = (192 : Int32)
      · rw [if_pos c59] at h
        exact (G67 K2 hK2 x1 x2 y0 (1 : Int32) t h).trans rfl
      · rw [if_neg c59] at h
        exact (G66 K2 hK2 x1 x2 y0 t h).trans rfl
  have G2 : ∀ (k : Nat) (x1 : Int32) (t : St), m_Parser_checkSent_2 n  k x1 t = some z → z.2.2.2 = t.2.2.2 := by
    intro k
    induction k with
    | zero => intro x1 t h; exact absurd (show none = some z from h) (by simp)
    | succ k ih =>
      intro x1 t h
      change m_Parser_checkSent_2b n  (m_Parser_checkSent_2 n  k) x1 t = some z at h
      unfold m_Parser_checkSent_2b at h
      by_cases c10 : (t.1 16) ≤ x1
      · rw [if_pos c10] at h
        exact (congrArg (fun q : St => q.2.2.2) (j_s h)).symm.trans rfl
      · rw [if_neg c10] at h
        by_cases c17 : (t.1 13) = 0
        · rw [if_pos c17] at h
          obtain ⟨z25, hz25, h⟩ := j_bind h
          obtain ⟨z32, hz32, h⟩ := j_bind h
          by_cases c36 : z32.1 = (-1 : Int32)
          · rw [if_pos c36] at h
            exact (G44 (m_Parser_checkSent_2 n  k) ih x1 z25.1 (0 : Int32) z32.2 h).trans ((q_Parser_latestOf hz32).trans ((q_Scan_placeAt hz25).trans rfl))
          · rw [if_neg c36] at h
            exact (G44 (m_Parser_checkSent_2 n  k) ih x1 z25.1 (1 : Int32) z32.2 h).trans ((q_Parser_latestOf hz32).trans ((q_Scan_placeAt hz25).trans rfl))
        · rw [if_neg c17] at h
          exact (congrArg (fun q : St => q.2.2.2) (j_s h)).symm.trans rfl
  unfold m_Parser_checkSent at h
  exact (G2  n (0 : Int32) t h).trans rfl
theorem q_Picture_hasQuantisers {n : Nat} {x1 : Int32} {t : St} {z : Int32 × St} (h : m_Picture_hasQuantisers n x1 t = some z) : z.2.2.2.2 = t.2.2.2 := by
  have G27 : ∀  (t : St), m_Picture_hasQuantisers_27 n   t = some z → z.2.2.2.2 = t.2.2.2 := by
    intro  t h
    unfold m_Picture_hasQuantisers_27 at h
    exact (congrArg (fun q : St => q.2.2.2) (j_r2 h)).symm.trans rfl
  unfold m_Picture_hasQuantisers at h
  by_cases c1 : x1 < 0
  · rw [if_pos c1] at h
    exact (G27  t h).trans rfl
  · rw [if_neg c1] at h
    by_cases c10 : (Int32.ofNat 4) ≤ x1
    · rw [if_pos c10] at h
      exact (G27  t h).trans rfl
    · rw [if_neg c10] at h
      obtain ⟨b18, h⟩ := j_ifn h
      by_cases c20 : ((t.2.1 4) (x1).toNatClampNeg) = (-1 : Int32)
      · rw [if_pos c20] at h
        exact (G27  t h).trans rfl
      · rw [if_neg c20] at h
        exact (congrArg (fun q : St => q.2.2.2) (j_r2 h)).symm.trans rfl
theorem q_Picture_placeOfWords {n : Nat} {x1 : Int32} {t : St} {z : Int32 × St} (h : m_Picture_placeOfWords n x1 t = some z) : z.2.2.2.2 = t.2.2.2 := by
  have G28 : ∀  (t : St), m_Picture_placeOfWords_28 n   t = some z → z.2.2.2.2 = t.2.2.2 := by
    intro  t h
    unfold m_Picture_placeOfWords_28 at h
    exact (congrArg (fun q : St => q.2.2.2) (j_r2 h)).symm.trans rfl
  unfold m_Picture_placeOfWords at h
  obtain ⟨z2, hz2, h⟩ := j_bind h
  by_cases c7 : z2.1 < 0
  · rw [if_pos c7] at h
    exact (G28  z2.2 h).trans ((q_Picture_rowOfWords hz2).trans rfl)
  · rw [if_neg c7] at h
    by_cases c16 : (Int32.ofNat 8) ≤ z2.1
    · rw [if_pos c16] at h
      exact (G28  z2.2 h).trans ((q_Picture_rowOfWords hz2).trans rfl)
    · rw [if_neg c16] at h
      obtain ⟨b24, h⟩ := j_ifn h
      exact (congrArg (fun q : St => q.2.2.2) (j_r2 h)).symm.trans ((q_Picture_rowOfWords hz2).trans rfl)
theorem q_Parser_checkTables {n : Nat}  {t : St} {z : St} (h : m_Parser_checkTables n t = some z) : z.2.2.2 = t.2.2.2 := by
  have G168 : ∀ (K2 : Int32 → St → Option (St)) (hK2 : ∀ (x1 : Int32) (t : St), K2 x1 t = some z → z.2.2.2 = t.2.2.2) (x1 : Int32) (t : St), m_Parser_checkTables_168 n K2 x1 t = some z → z.2.2.2 = t.2.2.2 := by
    intro K2 hK2 x1 t h
    unfold m_Parser_checkTables_168 at h
    exact (hK2 (x1 + 1) t h).trans rfl
  have G130 : ∀ (K2 : Int32 → St → Option (St)) (hK2 : ∀ (x1 : Int32) (t : St), K2 x1 t = some z → z.2.2.2 = t.2.2.2) (x1 : Int32) (x2 : Int32) (x3 : Int32) (t : St), m_Parser_checkTables_130 n K2 x1 x2 x3 t = some z → z.2.2.2 = t.2.2.2 := by
    intro K2 hK2 x1 x2 x3 t h
    unfold m_Parser_checkTables_130 at h
    by_cases c137 : (t.1 18) ≤ 0
    · rw [if_pos c137] at h
      exact (G168 K2 hK2 x1 t h).trans rfl
    · rw [if_neg c137] at h
      obtain ⟨z151, hz151, h⟩ := j_bind h
      by_cases c155 : z151.1 = (-1 : Int32)
      · rw [if_pos c155] at h
        obtain ⟨z164, hz164, h⟩ := j_bind h
        exact (G168 K2 hK2 x1 z164.2 h).trans ((q_Parser_fail hz164).trans ((q_Picture_placeOfWords hz151).trans rfl))
      · rw [if_neg c155] at h
        exact (G168 K2 hK2 x1 z151.2 h).trans ((q_Picture_placeOfWords hz151).trans rfl)
  have G99 : ∀ (K2 : Int32 → St → Option (St)) (hK2 : ∀ (x1 : Int32) (t : St), K2 x1 t = some z → z.2.2.2 = t.2.2.2) (x1 : Int32) (x2 : Int32) (x3 : Int32) (y0 : Int32) (t : St), m_Parser_checkTables_99 n K2 x1 x2 x3 y0 t = some z → z.2.2.2 = t.2.2.2 := by
    intro K2 hK2 x1 x2 x3 y0 t h
    unfold m_Parser_checkTables_99 at h
    by_cases c103 : y0 = 0
    · rw [if_pos c103] at h
      exact (G130 K2 hK2 x1 x2 x3 t h).trans rfl
    · rw [if_neg c103] at h
      obtain ⟨z113, hz113, h⟩ := j_bind h
      by_cases c117 : z113.1 = (-1 : Int32)
      · rw [if_pos c117] at h
        obtain ⟨z126, hz126, h⟩ := j_bind h
        exact (G130 K2 hK2 x1 x2 x3 z126.2 h).trans ((q_Parser_fail hz126).trans ((q_Picture_placeOfWords hz113).trans rfl))
      · rw [if_neg c117] at h
        exact (G130 K2 hK2 x1 x2 x3 z113.2 h).trans ((q_Picture_placeOfWords hz113).trans rfl)
  have G98 : ∀ (K2 : Int32 → St → Option (St)) (hK2 : ∀ (x1 : Int32) (t : St), K2 x1 t = some z → z.2.2.2 = t.2.2.2) (x1 : Int32) (x2 : Int32) (x3 : Int32) (t : St), m_Parser_checkTables_98 n K2 x1 x2 x3 t = some z → z.2.2.2 = t.2.2.2 := by
    intro K2 hK2 x1 x2 x3 t h
    unfold m_Parser_checkTables_98 at h
    exact (G99 K2 hK2 x1 x2 x3 (0 : Int32) t h).trans rfl
  have G74 : ∀ (K2 : Int32 → St → Option (St)) (hK2 : ∀ (x1 : Int32) (t : St), K2 x1 t = some z → z.2.2.2 = t.2.2.2) (x1 : Int32) (x2 : Int32) (x3 : Int32) (t : St), m_Parser_checkTables_74 n K2 x1 x2 x3 t = some z → z.2.2.2 = t.2.2.2 := by
    intro K2 hK2 x1 x2 x3 t h
    unfold m_Parser_checkTables_74 at h
    by_cases c81 : (t.1 17) = 0
    · rw [if_pos c81] at h
      by_cases c91 : (t.1 19) = 0
      · rw [if_pos c91] at h
        exact (G99 K2 hK2 x1 x2 x3 (1 : Int32) t h).trans rfl
      · rw [if_neg c91] at h
        exact (G98 K2 hK2 x1 x2 x3 t h).trans rfl
    · rw [if_neg c81] at h
      exact (G98 K2 hK2 x1 x2 x3 t h).trans rfl
  have G2 : ∀ (k : Nat) (x1 : Int32) (t : St), m_Parser_checkTables_2 n  k x1 t = some z → z.2.2.2 = t.2.2.2 := by
    intro k
    induction k with
    | zero => intro x1 t h; exact absurd (show none = some z from h) (by simp)
    | succ k ih =>
      intro x1 t h
      change m_Parser_checkTables_2b n  (m_Parser_checkTables_2 n  k) x1 t = some z at h
      unfold m_Parser_checkTables_2b at h
      by_cases c10 : (t.1 16) ≤ x1
      · rw [if_pos c10] at h
        exact (congrArg (fun q : St => q.2.2.2) (j_s h)).symm.trans rfl
      · rw [if_neg c10] at h
        by_cases c17 : (t.1 13) = 0
        · rw [if_pos c17] at h
          obtain ⟨z25, hz25, h⟩ := j_bind h
          obtain ⟨z36, hz36, h⟩ := j_bind h
          obtain ⟨z53, hz53, h⟩ := j_bind h
          obtain ⟨z57, hz57, h⟩ := j_bind h
          obtain ⟨z60, hz60, h⟩ := j_bind h
          by_cases c63 : z60.1 = 0
          · rw [if_pos c63] at h
            obtain ⟨z70, hz70, h⟩ := j_bind h
            exact (G74 (m_Parser_checkTables_2 n  k) ih x1 z25.1 z36.1 z70.2 h).trans ((q_Parser_fail hz70).trans ((q_Picture_hasQuantisers hz60).trans ((q_Picture_ofComponent hz57).trans ((q_Scan_placeAt hz53).trans ((q_Bytes_at hz36).trans ((q_Scan_nameAt hz25).trans rfl))))))
          · rw [if_neg c63] at h
            exact (G74 (m_Parser_checkTables_2 n  k) ih x1 z25.1 z36.1 z60.2 h).trans ((q_Picture_hasQuantisers hz60).trans ((q_Picture_ofComponent hz57).trans ((q_Scan_placeAt hz53).trans ((q_Bytes_at hz36).trans ((q_Scan_nameAt hz25).trans rfl)))))
        · rw [if_neg c17] at h
          exact (congrArg (fun q : St => q.2.2.2) (j_s h)).symm.trans rfl
  unfold m_Parser_checkTables at h
  exact (G2  n (0 : Int32) t h).trans rfl
theorem q_Parser_noteSent {n : Nat}  {t : St} {z : St} (h : m_Parser_noteSent n t = some z) : z.2.2.2 = t.2.2.2 := by
  have G85 : ∀ (K2 : Int32 → St → Option (St)) (hK2 : ∀ (x1 : Int32) (t : St), K2 x1 t = some z → z.2.2.2 = t.2.2.2) (K40 : Int32 → Int32 → Int32 → St → Option (St)) (hK40 : ∀ (x1 : Int32) (x2 : Int32) (x3 : Int32) (t : St), K40 x1 x2 x3 t = some z → z.2.2.2 = t.2.2.2) (x1 : Int32) (x2 : Int32) (x3 : Int32) (t : St), m_Parser_noteSent_85 n K2 K40 x1 x2 x3 t = some z → z.2.2.2 = t.2.2.2 := by
    intro K2 hK2 K40 hK40 x1 x2 x3 t h
    unfold m_Parser_noteSent_85 at h
    exact (hK40 x1 x2 (x3 + 1) t h).trans rfl
  have G40 : ∀ (K2 : Int32 → St → Option (St)) (hK2 : ∀ (x1 : Int32) (t : St), K2 x1 t = some z → z.2.2.2 = t.2.2.2) (k : Nat) (x1 : Int32) (x2 : Int32) (x3 : Int32) (t : St), m_Parser_noteSent_40 n K2 k x1 x2 x3 t = some z → z.2.2.2 = t.2.2.2 := by
    intro K2 hK2 k
    induction k with
    | zero => intro x1 x2 x3 t h; exact absurd (show none = some z from h) (by simp)
    | succ k ih =>
      intro x1 x2 x3 t h
      change m_Parser_noteSent_40b n K2 (m_Parser_noteSent_40 n K2 k) x1 x2 x3 t = some z at h
      unfold m_Parser_noteSent_40b at h
      by_cases c48 : (t.1 18) < x3
      · rw [if_pos c48] at h
        exact (hK2 (x1 + 1) t h).trans rfl
      · rw [if_neg c48] at h
        by_cases c58 : (x2 + x3) < 0
        · rw [if_pos c58] at h
          exact (G85 K2 hK2 (m_Parser_noteSent_40 n K2 k) ih x1 x2 x3 t h).trans rfl
        · rw [if_neg c58] at h
          by_cases c68 : (Int32.ofNat 256) ≤ (x2 + x3)
          · rw [if_pos c68] at h
            exact (G85 K2 hK2 (m_Parser_noteSent_40 n K2 k) ih x1 x2 x3 t h).trans rfl
          · rw [if_neg c68] at h
            obtain ⟨b84, h⟩ := j_ifn h
            exact (G85 K2 hK2 (m_Parser_noteSent_40 n K2 k) ih x1 x2 x3 (sH t 7 ((x2 + x3)).toNatClampNeg (t.1 20)) h).trans rfl
  have G2 : ∀ (k : Nat) (x1 : Int32) (t : St), m_Parser_noteSent_2 n  k x1 t = some z → z.2.2.2 = t.2.2.2 := by
    intro k
    induction k with
    | zero => intro x1 t h; exact absurd (show none = some z from h) (by simp)
    | succ k ih =>
      intro x1 t h
      change m_Parser_noteSent_2b n  (m_Parser_noteSent_2 n  k) x1 t = some z at h
      unfold m_Parser_noteSent_2b at h
      by_cases c10 : (t.1 16) ≤ x1
      · rw [if_pos c10] at h
        exact (congrArg (fun q : St => q.2.2.2) (j_s h)).symm.trans rfl
      · rw [if_neg c10] at h
        by_cases c17 : (t.1 13) = 0
        · rw [if_pos c17] at h
          obtain ⟨z25, hz25, h⟩ := j_bind h
          exact (G40 (m_Parser_noteSent_2 n  k) ih n x1 (z25.1 * (64 : Int32)) (z25.2.1 17) z25.2 h).trans ((q_Scan_placeAt hz25).trans rfl)
        · rw [if_neg c17] at h
          exact (congrArg (fun q : St => q.2.2.2) (j_s h)).symm.trans rfl
  unfold m_Parser_noteSent at h
  exact (G2  n (0 : Int32) t h).trans rfl
theorem q_Parser_readScan {n : Nat}  {t : St} {z : St} (h : m_Parser_readScan n t = some z) : z.2.2.2 = t.2.2.2 := by
  have G147 : ∀  (t : St), m_Parser_readScan_147 n   t = some z → z.2.2.2 = t.2.2.2 := by
    intro  t h
    unfold m_Parser_readScan_147 at h
    obtain ⟨z148, hz148, h⟩ := j_bind h
    obtain ⟨z152, hz152, h⟩ := j_bind h
    obtain ⟨z156, hz156, h⟩ := j_bind h
    exact (congrArg (fun q : St => q.2.2.2) (j_s h)).symm.trans ((q_Parser_noteSent hz156).trans ((q_Parser_checkTables hz152).trans ((q_Parser_checkSent hz148).trans rfl)))
  have G134 : ∀ (y2 : Int32) (y3 : Int32) (t : St), m_Parser_readScan_134 n  y2 y3 t = some z → z.2.2.2 = t.2.2.2 := by
    intro y2 y3 t h
    unfold m_Parser_readScan_134 at h
    obtain ⟨z134, hz134, h⟩ := j_bind h
    obtain ⟨z144, hz144, h⟩ := j_bind h
    exact (G147  z144 h).trans ((q_Parser_takeBits hz144).trans ((q_Parser_take hz134).trans rfl))
  have G100 : ∀ (y2 : Int32) (y3 : Int32) (t : St), m_Parser_readScan_100 n  y2 y3 t = some z → z.2.2.2 = t.2.2.2 := by
    intro y2 y3 t h
    unfold m_Parser_readScan_100 at h
    obtain ⟨z100, hz100, h⟩ := j_bind h
    by_cases c125 : z100.1 = 0
    · rw [if_pos c125] at h
      exact (G134  z100.1 (0 : Int32) (sG z100.2 17 z100.1) h).trans ((q_Parser_take hz100).trans rfl)
    · rw [if_neg c125] at h
      exact (G134  z100.1 (63 : Int32) (sG z100.2 17 z100.1) h).trans ((q_Parser_take hz100).trans rfl)
  unfold m_Parser_readScan at h
  obtain ⟨z18, hz18, h⟩ := j_bind h
  obtain ⟨z25, hz25, h⟩ := j_bind h
  by_cases c38 : (z25.1 1) = (192 : Int32)
  · rw [if_pos c38] at h
    obtain ⟨z48, hz48, h⟩ := j_bind h
    obtain ⟨z63, hz63, h⟩ := j_bind h
    obtain ⟨z71, hz71, h⟩ := j_bind h
    exact (G147  z71 h).trans ((q_Parser_takeBits hz71).trans ((q_Parser_take hz63).trans ((q_Parser_take hz48).trans ((q_Parser_takeScanComponents hz25).trans ((q_Parser_take hz18).trans rfl)))))
  · rw [if_neg c38] at h
    by_cases c91 : (z25.1 16) = (1 : Int32)
    · rw [if_pos c91] at h
      exact (G100  (0 : Int32) (63 : Int32) z25 h).trans ((q_Parser_takeScanComponents hz25).trans ((q_Parser_take hz18).trans rfl))
    · rw [if_neg c91] at h
      exact (G100  (0 : Int32) (0 : Int32) z25 h).trans ((q_Parser_takeScanComponents hz25).trans ((q_Parser_take hz18).trans rfl))
theorem q_Parser_skipContents {n : Nat}  {t : St} {z : St} (h : m_Parser_skipContents n t = some z) : z.2.2.2 = t.2.2.2 := by
  have G27 : ∀  (t : St), m_Parser_skipContents_27 n   t = some z → z.2.2.2 = t.2.2.2 := by
    intro  t h
    unfold m_Parser_skipContents_27 at h
    exact (congrArg (fun q : St => q.2.2.2) (j_s h)).symm.trans rfl
  unfold m_Parser_skipContents at h
  by_cases c11 : (t.1 11) ≤ (t.1 0)
  · rw [if_pos c11] at h
    exact (G27  t h).trans rfl
  · rw [if_neg c11] at h
    obtain ⟨z23, hz23, h⟩ := j_bind h
    exact (G27  z23.2 h).trans ((q_Parser_fail hz23).trans rfl)
theorem q_Parser_readContents {n : Nat} {x1 : Int32} {t : St} {z : St} (h : m_Parser_readContents n x1 t = some z) : z.2.2.2 = t.2.2.2 := by
  have G140 : ∀  (t : St), m_Parser_readContents_140 n   t = some z → z.2.2.2 = t.2.2.2 := by
    intro  t h
    unfold m_Parser_readContents_140 at h
    by_cases c148 : (t.1 9) = (t.1 11)
    · rw [if_pos c148] at h
      exact (congrArg (fun q : St => q.2.2.2) (j_s h)).symm.trans rfl
    · rw [if_neg c148] at h
      obtain ⟨z157, hz157, h⟩ := j_bind h
      exact (congrArg (fun q : St => q.2.2.2) (j_s h)).symm.trans ((q_Parser_fail hz157).trans rfl)
  unfold m_Parser_readContents at h
  by_cases c1_192 : x1 = (192 : Int32)
  · rw [if_pos c1_192] at h
    obtain ⟨z101, hz101, h⟩ := j_bind h
    exact (G140  z101 h).trans ((q_Parser_readFrame hz101).trans rfl)
  rw [if_neg c1_192] at h
  by_cases c1_194 : x1 = (194 : Int32)
  · rw [if_pos c1_194] at h
    obtain ⟨z101, hz101, h⟩ := j_bind h
    exact (G140  z101 h).trans ((q_Parser_readFrame hz101).trans rfl)
  rw [if_neg c1_194] at h
  by_cases c1_196 : x1 = (196 : Int32)
  · rw [if_pos c1_196] at h
    obtain ⟨z76, hz76, h⟩ := j_bind h
    exact (G140  z76 h).trans ((q_Parser_readWords hz76).trans rfl)
  rw [if_neg c1_196] at h
  by_cases c1_218 : x1 = (218 : Int32)
  · rw [if_pos c1_218] at h
    obtain ⟨z108, hz108, h⟩ := j_bind h
    exact (G140  z108 h).trans ((q_Parser_readScan hz108).trans rfl)
  rw [if_neg c1_218] at h
  by_cases c1_219 : x1 = (219 : Int32)
  · rw [if_pos c1_219] at h
    obtain ⟨z69, hz69, h⟩ := j_bind h
    exact (G140  z69 h).trans ((q_Parser_readQuantisers hz69).trans rfl)
  rw [if_neg c1_219] at h
  by_cases c1_220 : x1 = (220 : Int32)
  · rw [if_pos c1_220] at h
    obtain ⟨z122, hz122, h⟩ := j_bind h
    exact (G140  (sG (sG z122.2 3 z122.1) 12 (0 : Int32)) h).trans ((q_Parser_takePair hz122).trans rfl)
  rw [if_neg c1_220] at h
  by_cases c1_221 : x1 = (221 : Int32)
  · rw [if_pos c1_221] at h
    obtain ⟨z90, hz90, h⟩ := j_bind h
    exact (G140  (sG z90.2 5 z90.1) h).trans ((q_Parser_takePair hz90).trans rfl)
  rw [if_neg c1_221] at h
  obtain ⟨z137, hz137, h⟩ := j_bind h
  exact (G140  z137 h).trans ((q_Parser_skipContents hz137).trans rfl)
theorem q_Picture_scanCount {n : Nat}  {t : St} {z : Int32 × St} (h : m_Picture_scanCount n t = some z) : z.2.2.2.2 = t.2.2.2 := by
  unfold m_Picture_scanCount at h
  exact (congrArg (fun q : St => q.2.2.2) (j_r2 h)).symm.trans rfl
theorem q_Parser_finish {n : Nat}  {t : St} {z : Int32 × St} (h : m_Parser_finish n t = some z) : z.2.2.2.2 = t.2.2.2 := by
  unfold m_Parser_finish at h
  by_cases c4 : (t.1 13) = 0
  · rw [if_pos c4] at h
    exact (congrArg (fun q : St => q.2.2.2) (j_r2 h)).symm.trans rfl
  · rw [if_neg c4] at h
    obtain ⟨z11, hz11, h⟩ := j_bind h
    exact (congrArg (fun q : St => q.2.2.2) (j_r2 h)).symm.trans ((q_Picture_clear hz11).trans rfl)
theorem q_Picture_segmentCount {n : Nat}  {t : St} {z : Int32 × St} (h : m_Picture_segmentCount n t = some z) : z.2.2.2.2 = t.2.2.2 := by
  unfold m_Picture_segmentCount at h
  exact (congrArg (fun q : St => q.2.2.2) (j_r2 h)).symm.trans rfl
theorem q_Numbers_at_4 {n : Nat} {x1 : Int32} {t : St} {z : Int32 × St} (h : m_Numbers_at_4 n x1 t = some z) : z.2.2.2.2 = t.2.2.2 := by
  have G21 : ∀  (t : St), m_Numbers_at_4_21 n   t = some z → z.2.2.2.2 = t.2.2.2 := by
    intro  t h
    unfold m_Numbers_at_4_21 at h
    exact (congrArg (fun q : St => q.2.2.2) (j_r2 h)).symm.trans rfl
  unfold m_Numbers_at_4 at h
  by_cases c1 : x1 < 0
  · rw [if_pos c1] at h
    exact (G21  t h).trans rfl
  · rw [if_neg c1] at h
    by_cases c9 : (t.1 7) ≤ x1
    · rw [if_pos c9] at h
      exact (G21  t h).trans rfl
    · rw [if_neg c9] at h
      obtain ⟨b17, h⟩ := j_ifn h
      exact (congrArg (fun q : St => q.2.2.2) (j_r2 h)).symm.trans rfl
theorem q_Numbers_at_6 {n : Nat} {x1 : Int32} {t : St} {z : Int32 × St} (h : m_Numbers_at_6 n x1 t = some z) : z.2.2.2.2 = t.2.2.2 := by
  have G21 : ∀  (t : St), m_Numbers_at_6_21 n   t = some z → z.2.2.2.2 = t.2.2.2 := by
    intro  t h
    unfold m_Numbers_at_6_21 at h
    exact (congrArg (fun q : St => q.2.2.2) (j_r2 h)).symm.trans rfl
  unfold m_Numbers_at_6 at h
  by_cases c1 : x1 < 0
  · rw [if_pos c1] at h
    exact (G21  t h).trans rfl
  · rw [if_neg c1] at h
    by_cases c9 : (t.1 8) ≤ x1
    · rw [if_pos c9] at h
      exact (G21  t h).trans rfl
    · rw [if_neg c9] at h
      obtain ⟨b17, h⟩ := j_ifn h
      exact (congrArg (fun q : St => q.2.2.2) (j_r2 h)).symm.trans rfl
theorem q_Picture_ofSegment {n : Nat} {x1 : Int32} {x2 : Int32} {t : St} {z : Int32 × St} (h : m_Picture_ofSegment n x1 x2 t = some z) : z.2.2.2.2 = t.2.2.2 := by
  unfold m_Picture_ofSegment at h
  by_cases c1 : x1 < 0
  · rw [if_pos c1] at h
    exact (congrArg (fun q : St => q.2.2.2) (j_r2 h)).symm.trans rfl
  · rw [if_neg c1] at h
    obtain ⟨z6, hz6, h⟩ := j_bind h
    by_cases c9 : x1 < z6.1
    · rw [if_pos c9] at h
      obtain ⟨z23, hz23, h⟩ := j_bind h
      by_cases c28_0 : x2 = (0 : Int32)
      · rw [if_pos c28_0] at h
        obtain ⟨z67, hz67, h⟩ := j_bind h
        exact (congrArg (fun q : St => q.2.2.2) (j_r2 h)).symm.trans ((q_Bytes_at hz67).trans ((q_Numbers_at_4 hz23).trans ((q_Picture_segmentCount hz6).trans rfl)))
      rw [if_neg c28_0] at h
      by_cases c28_1 : x2 = (1 : Int32)
      · rw [if_pos c28_1] at h
        obtain ⟨z78, hz78, h⟩ := j_bind h
        exact (congrArg (fun q : St => q.2.2.2) (j_r2 h)).symm.trans ((q_Numbers_at_4 hz78).trans ((q_Numbers_at_4 hz23).trans ((q_Picture_segmentCount hz6).trans rfl)))
      rw [if_neg c28_1] at h
      by_cases c28_2 : x2 = (2 : Int32)
      · rw [if_pos c28_2] at h
        exact (congrArg (fun q : St => q.2.2.2) (j_r2 h)).symm.trans ((q_Numbers_at_4 hz23).trans ((q_Picture_segmentCount hz6).trans rfl))
      rw [if_neg c28_2] at h
      by_cases c28_3 : x2 = (3 : Int32)
      · rw [if_pos c28_3] at h
        obtain ⟨z94, hz94, h⟩ := j_bind h
        obtain ⟨z105, hz105, h⟩ := j_bind h
        exact (congrArg (fun q : St => q.2.2.2) (j_r2 h)).symm.trans ((q_Bytes_at hz105).trans ((q_Bytes_at hz94).trans ((q_Numbers_at_4 hz23).trans ((q_Picture_segmentCount hz6).trans rfl))))
      rw [if_neg c28_3] at h
      exact (congrArg (fun q : St => q.2.2.2) (j_r2 h)).symm.trans ((q_Numbers_at_4 hz23).trans ((q_Picture_segmentCount hz6).trans rfl))
    · rw [if_neg c9] at h
      exact (congrArg (fun q : St => q.2.2.2) (j_r2 h)).symm.trans ((q_Picture_segmentCount hz6).trans rfl)
theorem q_Reader_segment {n : Nat} {x1 : Int32} {x2 : Int32} {t : St} {z : Int32 × St} (h : m_Reader_segment n x1 x2 t = some z) : z.2.2.2.2 = t.2.2.2 := by
  unfold m_Reader_segment at h
  obtain ⟨z6, hz6, h⟩ := j_bind h
  exact (congrArg (fun q : St => q.2.2.2) (j_r2 h)).symm.trans ((q_Picture_ofSegment hz6).trans rfl)
theorem q_Picture_greatest {n : Nat} {x1 : Int32} {t : St} {z : Int32 × St} (h : m_Picture_greatest n x1 t = some z) : z.2.2.2.2 = t.2.2.2 := by
  have G4 : ∀ (k : Nat) (x1 : Int32) (x2 : Int32) (x3 : Int32) (t : St), m_Picture_greatest_4 n  k x1 x2 x3 t = some z → z.2.2.2.2 = t.2.2.2 := by
    intro k
    induction k with
    | zero => intro x1 x2 x3 t h; exact absurd (show none = some z from h) (by simp)
    | succ k ih =>
      intro x1 x2 x3 t h
      change m_Picture_greatest_4b n  (m_Picture_greatest_4 n  k) x1 x2 x3 t = some z at h
      unfold m_Picture_greatest_4b at h
      by_cases c9 : (t.1 4) ≤ x3
      · rw [if_pos c9] at h
        exact (congrArg (fun q : St => q.2.2.2) (j_r2 h)).symm.trans rfl
      · rw [if_neg c9] at h
        obtain ⟨z16, hz16, h⟩ := j_bind h
        exact (ih x1 (if x2 < z16.1 then z16.1 else x2) (x3 + 1) z16.2 h).trans ((q_Picture_ofComponent hz16).trans rfl)
  unfold m_Picture_greatest at h
  exact (G4  n x1 (0 : Int32) (0 : Int32) t h).trans rfl
theorem q_Picture_ofFrame {n : Nat} {x1 : Int32} {t : St} {z : Int32 × St} (h : m_Picture_ofFrame n x1 t = some z) : z.2.2.2.2 = t.2.2.2 := by
  unfold m_Picture_ofFrame at h
  by_cases c5 : (t.1 1) = (-1 : Int32)
  · rw [if_pos c5] at h
    exact (congrArg (fun q : St => q.2.2.2) (j_r2 h)).symm.trans rfl
  · rw [if_neg c5] at h
    by_cases c11_0 : x1 = (0 : Int32)
    · rw [if_pos c11_0] at h
      exact (congrArg (fun q : St => q.2.2.2) (j_r2 h)).symm.trans rfl
    rw [if_neg c11_0] at h
    by_cases c11_1 : x1 = (1 : Int32)
    · rw [if_pos c11_1] at h
      exact (congrArg (fun q : St => q.2.2.2) (j_r2 h)).symm.trans rfl
    rw [if_neg c11_1] at h
    by_cases c11_2 : x1 = (2 : Int32)
    · rw [if_pos c11_2] at h
      exact (congrArg (fun q : St => q.2.2.2) (j_r2 h)).symm.trans rfl
    rw [if_neg c11_2] at h
    by_cases c11_3 : x1 = (3 : Int32)
    · rw [if_pos c11_3] at h
      exact (congrArg (fun q : St => q.2.2.2) (j_r2 h)).symm.trans rfl
    rw [if_neg c11_3] at h
    by_cases c11_4 : x1 = (4 : Int32)
    · rw [if_pos c11_4] at h
      obtain ⟨z70, hz70, h⟩ := j_bind h
      exact (congrArg (fun q : St => q.2.2.2) (j_r2 h)).symm.trans ((q_Picture_greatest hz70).trans rfl)
    rw [if_neg c11_4] at h
    by_cases c11_5 : x1 = (5 : Int32)
    · rw [if_pos c11_5] at h
      obtain ⟨z76, hz76, h⟩ := j_bind h
      exact (congrArg (fun q : St => q.2.2.2) (j_r2 h)).symm.trans ((q_Picture_greatest hz76).trans rfl)
    rw [if_neg c11_5] at h
    exact (congrArg (fun q : St => q.2.2.2) (j_r2 h)).symm.trans rfl
theorem q_Reader_frame {n : Nat} {x1 : Int32} {t : St} {z : Int32 × St} (h : m_Reader_frame n x1 t = some z) : z.2.2.2.2 = t.2.2.2 := by
  unfold m_Reader_frame at h
  obtain ⟨z5, hz5, h⟩ := j_bind h
  exact (congrArg (fun q : St => q.2.2.2) (j_r2 h)).symm.trans ((q_Picture_ofFrame hz5).trans rfl)
theorem q_Reader_component {n : Nat} {x1 : Int32} {x2 : Int32} {t : St} {z : Int32 × St} (h : m_Reader_component n x1 x2 t = some z) : z.2.2.2.2 = t.2.2.2 := by
  unfold m_Reader_component at h
  obtain ⟨z6, hz6, h⟩ := j_bind h
  exact (congrArg (fun q : St => q.2.2.2) (j_r2 h)).symm.trans ((q_Picture_ofComponent hz6).trans rfl)
theorem q_Picture_ofScanComponent {n : Nat} {x1 : Int32} {x2 : Int32} {x3 : Int32} {t : St} {z : Int32 × St} (h : m_Picture_ofScanComponent n x1 x2 x3 t = some z) : z.2.2.2.2 = t.2.2.2 := by
  unfold m_Picture_ofScanComponent at h
  by_cases c8 : (x3 / (4 : Int32)) < x2
  · rw [if_pos c8] at h
    by_cases c26_0 : (x3 - x3 / (4 : Int32) * (4 : Int32)) = (0 : Int32)
    · rw [if_pos c26_0] at h
      obtain ⟨z59, hz59, h⟩ := j_bind h
      obtain ⟨z62, hz62, h⟩ := j_bind h
      exact (congrArg (fun q : St => q.2.2.2) (j_r2 h)).symm.trans ((q_Picture_placeOfName hz62).trans ((q_Bytes_at hz59).trans rfl))
    rw [if_neg c26_0] at h
    by_cases c26_1 : (x3 - x3 / (4 : Int32) * (4 : Int32)) = (1 : Int32)
    · rw [if_pos c26_1] at h
      obtain ⟨z74, hz74, h⟩ := j_bind h
      exact (congrArg (fun q : St => q.2.2.2) (j_r2 h)).symm.trans ((q_Bytes_at hz74).trans rfl)
    rw [if_neg c26_1] at h
    by_cases c26_2 : (x3 - x3 / (4 : Int32) * (4 : Int32)) = (2 : Int32)
    · rw [if_pos c26_2] at h
      obtain ⟨z88, hz88, h⟩ := j_bind h
      exact (congrArg (fun q : St => q.2.2.2) (j_r2 h)).symm.trans ((q_Bytes_at hz88).trans rfl)
    rw [if_neg c26_2] at h
    exact (congrArg (fun q : St => q.2.2.2) (j_r2 h)).symm.trans rfl
  · rw [if_neg c8] at h
    exact (congrArg (fun q : St => q.2.2.2) (j_r2 h)).symm.trans rfl
theorem q_Picture_ofScan {n : Nat} {x1 : Int32} {x2 : Int32} {t : St} {z : Int32 × St} (h : m_Picture_ofScan n x1 x2 t = some z) : z.2.2.2.2 = t.2.2.2 := by
  unfold m_Picture_ofScan at h
  by_cases c1 : x1 < 0
  · rw [if_pos c1] at h
    exact (congrArg (fun q : St => q.2.2.2) (j_r2 h)).symm.trans rfl
  · rw [if_neg c1] at h
    obtain ⟨z6, hz6, h⟩ := j_bind h
    by_cases c9 : x1 < z6.1
    · rw [if_pos c9] at h
      obtain ⟨z23, hz23, h⟩ := j_bind h
      obtain ⟨z34, hz34, h⟩ := j_bind h
      by_cases c51_0 : x2 = (0 : Int32)
      · rw [if_pos c51_0] at h
        exact (congrArg (fun q : St => q.2.2.2) (j_r2 h)).symm.trans ((q_Bytes_at hz34).trans ((q_Numbers_at_6 hz23).trans ((q_Picture_scanCount hz6).trans rfl)))
      rw [if_neg c51_0] at h
      by_cases c51_1 : x2 = (1 : Int32)
      · rw [if_pos c51_1] at h
        obtain ⟨z109, hz109, h⟩ := j_bind h
        exact (congrArg (fun q : St => q.2.2.2) (j_r2 h)).symm.trans ((q_Bytes_at hz109).trans ((q_Bytes_at hz34).trans ((q_Numbers_at_6 hz23).trans ((q_Picture_scanCount hz6).trans rfl))))
      rw [if_neg c51_1] at h
      by_cases c51_2 : x2 = (2 : Int32)
      · rw [if_pos c51_2] at h
        obtain ⟨z121, hz121, h⟩ := j_bind h
        exact (congrArg (fun q : St => q.2.2.2) (j_r2 h)).symm.trans ((q_Bytes_at hz121).trans ((q_Bytes_at hz34).trans ((q_Numbers_at_6 hz23).trans ((q_Picture_scanCount hz6).trans rfl))))
      rw [if_neg c51_2] at h
      by_cases c51_3 : x2 = (3 : Int32)
      · rw [if_pos c51_3] at h
        obtain ⟨z133, hz133, h⟩ := j_bind h
        exact (congrArg (fun q : St => q.2.2.2) (j_r2 h)).symm.trans ((q_Bytes_at hz133).trans ((q_Bytes_at hz34).trans ((q_Numbers_at_6 hz23).trans ((q_Picture_scanCount hz6).trans rfl))))
      rw [if_neg c51_3] at h
      by_cases c51_4 : x2 = (4 : Int32)
      · rw [if_pos c51_4] at h
        obtain ⟨z147, hz147, h⟩ := j_bind h
        exact (congrArg (fun q : St => q.2.2.2) (j_r2 h)).symm.trans ((q_Bytes_at hz147).trans ((q_Bytes_at hz34).trans ((q_Numbers_at_6 hz23).trans ((q_Picture_scanCount hz6).trans rfl))))
      rw [if_neg c51_4] at h
      by_cases c51_5 : x2 = (5 : Int32)
      · rw [if_pos c51_5] at h
        obtain ⟨z161, hz161, h⟩ := j_bind h
        exact (congrArg (fun q : St => q.2.2.2) (j_r2 h)).symm.trans ((q_Numbers_at_6 hz161).trans ((q_Bytes_at hz34).trans ((q_Numbers_at_6 hz23).trans ((q_Picture_scanCount hz6).trans rfl))))
      rw [if_neg c51_5] at h
      by_cases c51_6 : x2 = (6 : Int32)
      · rw [if_pos c51_6] at h
        obtain ⟨z172, hz172, h⟩ := j_bind h
        exact (congrArg (fun q : St => q.2.2.2) (j_r2 h)).symm.trans ((q_Numbers_at_6 hz172).trans ((q_Bytes_at hz34).trans ((q_Numbers_at_6 hz23).trans ((q_Picture_scanCount hz6).trans rfl))))
      rw [if_neg c51_6] at h
      by_cases c51_7 : x2 = (7 : Int32)
      · rw [if_pos c51_7] at h
        obtain ⟨z183, hz183, h⟩ := j_bind h
        exact (congrArg (fun q : St => q.2.2.2) (j_r2 h)).symm.trans ((q_Numbers_at_6 hz183).trans ((q_Bytes_at hz34).trans ((q_Numbers_at_6 hz23).trans ((q_Picture_scanCount hz6).trans rfl))))
      rw [if_neg c51_7] at h
      by_cases c51_8 : x2 = (8 : Int32)
      · rw [if_pos c51_8] at h
        obtain ⟨z194, hz194, h⟩ := j_bind h
        exact (congrArg (fun q : St => q.2.2.2) (j_r2 h)).symm.trans ((q_Numbers_at_6 hz194).trans ((q_Bytes_at hz34).trans ((q_Numbers_at_6 hz23).trans ((q_Picture_scanCount hz6).trans rfl))))
      rw [if_neg c51_8] at h
      by_cases c201 : (16 : Int32) ≤ x2
      · rw [if_pos c201] at h
        obtain ⟨z217, hz217, h⟩ := j_bind h
        exact (congrArg (fun q : St => q.2.2.2) (j_r2 h)).symm.trans ((q_Picture_ofScanComponent hz217).trans ((q_Bytes_at hz34).trans ((q_Numbers_at_6 hz23).trans ((q_Picture_scanCount hz6).trans rfl))))
      · rw [if_neg c201] at h
        exact (congrArg (fun q : St => q.2.2.2) (j_r2 h)).symm.trans ((q_Bytes_at hz34).trans ((q_Numbers_at_6 hz23).trans ((q_Picture_scanCount hz6).trans rfl)))
    · rw [if_neg c9] at h
      exact (congrArg (fun q : St => q.2.2.2) (j_r2 h)).symm.trans ((q_Picture_scanCount hz6).trans rfl)
theorem q_Reader_scan {n : Nat} {x1 : Int32} {x2 : Int32} {t : St} {z : Int32 × St} (h : m_Reader_scan n x1 x2 t = some z) : z.2.2.2.2 = t.2.2.2 := by
  unfold m_Reader_scan at h
  obtain ⟨z6, hz6, h⟩ := j_bind h
  exact (congrArg (fun q : St => q.2.2.2) (j_r2 h)).symm.trans ((q_Picture_ofScan hz6).trans rfl)
theorem q_Picture_dataByte {n : Nat} {x1 : Int32} {x2 : Int32} {t : St} {z : Int32 × St} (h : m_Picture_dataByte n x1 x2 t = some z) : z.2.2.2.2 = t.2.2.2 := by
  have G136 : ∀ (K50 : Int32 → Int32 → Int32 → St → Option (Int32 × St)) (hK50 : ∀ (x3 : Int32) (x4 : Int32) (x5 : Int32) (t : St), K50 x3 x4 x5 t = some z → z.2.2.2.2 = t.2.2.2) (x4 : Int32) (x5 : Int32) (y0 : Int32) (y1 : Int32) (t : St), m_Picture_dataByte_136 n K50 x4 x5 y0 y1 t = some z → z.2.2.2.2 = t.2.2.2 := by
    intro K50 hK50 x4 x5 y0 y1 t h
    unfold m_Picture_dataByte_136 at h
    exact (hK50 (y0 + y1) x4 x5 t h).trans rfl
  have G119 : ∀ (K50 : Int32 → Int32 → Int32 → St → Option (Int32 × St)) (hK50 : ∀ (x3 : Int32) (x4 : Int32) (x5 : Int32) (t : St), K50 x3 x4 x5 t = some z → z.2.2.2.2 = t.2.2.2) (x3 : Int32) (x4 : Int32) (x6 : Int32) (y0 : Int32) (y1 : Int32) (t : St), m_Picture_dataByte_119 n K50 x3 x4 x6 y0 y1 t = some z → z.2.2.2.2 = t.2.2.2 := by
    intro K50 hK50 x3 x4 x6 y0 y1 t h
    unfold m_Picture_dataByte_119 at h
    by_cases c128 : x6 = (255 : Int32)
    · rw [if_pos c128] at h
      exact (G136 K50 hK50 x4 (y0 - y1) x3 (2 : Int32) t h).trans rfl
    · rw [if_neg c128] at h
      exact (G136 K50 hK50 x4 (y0 - y1) x3 (1 : Int32) t h).trans rfl
  have G107 : ∀ (K50 : Int32 → Int32 → Int32 → St → Option (Int32 × St)) (hK50 : ∀ (x3 : Int32) (x4 : Int32) (x5 : Int32) (t : St), K50 x3 x4 x5 t = some z → z.2.2.2.2 = t.2.2.2) (x3 : Int32) (x4 : Int32) (x5 : Int32) (x6 : Int32) (x7 : Int32) (t : St), m_Picture_dataByte_107 n K50 x3 x4 x5 x6 x7 t = some z → z.2.2.2.2 = t.2.2.2 := by
    intro K50 hK50 x3 x4 x5 x6 x7 t h
    unfold m_Picture_dataByte_107 at h
    by_cases c111 : x7 = 0
    · rw [if_pos c111] at h
      exact (G119 K50 hK50 x3 x4 x6 x5 (1 : Int32) t h).trans rfl
    · rw [if_neg c111] at h
      exact (G119 K50 hK50 x3 x4 x6 x5 (0 : Int32) t h).trans rfl
  have G92 : ∀ (K50 : Int32 → Int32 → Int32 → St → Option (Int32 × St)) (hK50 : ∀ (x3 : Int32) (x4 : Int32) (x5 : Int32) (t : St), K50 x3 x4 x5 t = some z → z.2.2.2.2 = t.2.2.2) (x3 : Int32) (x4 : Int32) (x5 : Int32) (x6 : Int32) (y0 : Int32) (t : St), m_Picture_dataByte_92 n K50 x3 x4 x5 x6 y0 t = some z → z.2.2.2.2 = t.2.2.2 := by
    intro K50 hK50 x3 x4 x5 x6 y0 t h
    unfold m_Picture_dataByte_92 at h
    by_cases c96 : y0 = 0
    · rw [if_pos c96] at h
      by_cases c101 : x5 = 0
      · rw [if_pos c101] at h
        exact (congrArg (fun q : St => q.2.2.2) (j_r2 h)).symm.trans rfl
      · rw [if_neg c101] at h
        exact (G107 K50 hK50 x3 x4 x5 x6 y0 t h).trans rfl
    · rw [if_neg c96] at h
      exact (G107 K50 hK50 x3 x4 x5 x6 y0 t h).trans rfl
  have G91 : ∀ (K50 : Int32 → Int32 → Int32 → St → Option (Int32 × St)) (hK50 : ∀ (x3 : Int32) (x4 : Int32) (x5 : Int32) (t : St), K50 x3 x4 x5 t = some z → z.2.2.2.2 = t.2.2.2) (x3 : Int32) (x4 : Int32) (x5 : Int32) (x6 : Int32) (t : St), m_Picture_dataByte_91 n K50 x3 x4 x5 x6 t = some z → z.2.2.2.2 = t.2.2.2 := by
    intro K50 hK50 x3 x4 x5 x6 t h
    unfold m_Picture_dataByte_91 at h
    exact (G92 K50 hK50 x3 x4 x5 x6 (0 : Int32) t h).trans rfl
  have G50 : ∀ (k : Nat) (x3 : Int32) (x4 : Int32) (x5 : Int32) (t : St), m_Picture_dataByte_50 n  k x3 x4 x5 t = some z → z.2.2.2.2 = t.2.2.2 := by
    intro k
    induction k with
    | zero => intro x3 x4 x5 t h; exact absurd (show none = some z from h) (by simp)
    | succ k ih =>
      intro x3 x4 x5 t h
      change m_Picture_dataByte_50b n  (m_Picture_dataByte_50 n  k) x3 x4 x5 t = some z at h
      unfold m_Picture_dataByte_50b at h
      by_cases c53 : x4 ≤ x3
      · rw [if_pos c53] at h
        exact (congrArg (fun q : St => q.2.2.2) (j_r2 h)).symm.trans rfl
      · rw [if_neg c53] at h
        obtain ⟨z61, hz61, h⟩ := j_bind h
        by_cases c71 : z61.1 = (255 : Int32)
        · rw [if_pos c71] at h
          obtain ⟨z81, hz81, h⟩ := j_bind h
          by_cases c84 : z81.1 = 0
          · rw [if_pos c84] at h
            exact (G91 (m_Picture_dataByte_50 n  k) ih x3 x4 x5 z61.1 z81.2 h).trans ((q_Bytes_at hz81).trans ((q_Bytes_at hz61).trans rfl))
          · rw [if_neg c84] at h
            exact (G92 (m_Picture_dataByte_50 n  k) ih x3 x4 x5 z61.1 (1 : Int32) z81.2 h).trans ((q_Bytes_at hz81).trans ((q_Bytes_at hz61).trans rfl))
        · rw [if_neg c71] at h
          exact (G91 (m_Picture_dataByte_50 n  k) ih x3 x4 x5 z61.1 z61.2 h).trans ((q_Bytes_at hz61).trans rfl)
  unfold m_Picture_dataByte at h
  by_cases c1 : x1 < 0
  · rw [if_pos c1] at h
    exact (congrArg (fun q : St => q.2.2.2) (j_r2 h)).symm.trans rfl
  · rw [if_neg c1] at h
    obtain ⟨z6, hz6, h⟩ := j_bind h
    by_cases c9 : z6.1 ≤ x1
    · rw [if_pos c9] at h
      exact (congrArg (fun q : St => q.2.2.2) (j_r2 h)).symm.trans ((q_Picture_scanCount hz6).trans rfl)
    · rw [if_neg c9] at h
      by_cases c13 : 0 ≤ x2
      · rw [if_pos c13] at h
        obtain ⟨z27, hz27, h⟩ := j_bind h
        obtain ⟨z41, hz41, h⟩ := j_bind h
        exact (G50  n z27.1 (z27.1 + z41.1) x2 z41.2 h).trans ((q_Numbers_at_6 hz41).trans ((q_Numbers_at_6 hz27).trans ((q_Picture_scanCount hz6).trans rfl)))
      · rw [if_neg c13] at h
        exact (congrArg (fun q : St => q.2.2.2) (j_r2 h)).symm.trans ((q_Picture_scanCount hz6).trans rfl)
theorem q_Reader_data {n : Nat} {x1 : Int32} {x2 : Int32} {t : St} {z : Int32 × St} (h : m_Reader_data n x1 x2 t = some z) : z.2.2.2.2 = t.2.2.2 := by
  unfold m_Reader_data at h
  obtain ⟨z6, hz6, h⟩ := j_bind h
  exact (congrArg (fun q : St => q.2.2.2) (j_r2 h)).symm.trans ((q_Picture_dataByte hz6).trans rfl)
theorem q_Picture_quantiserValue {n : Nat} {x1 : Int32} {x2 : Int32} {t : St} {z : Int32 × St} (h : m_Picture_quantiserValue n x1 x2 t = some z) : z.2.2.2.2 = t.2.2.2 := by
  unfold m_Picture_quantiserValue at h
  obtain ⟨z2, hz2, h⟩ := j_bind h
  by_cases c5 : z2.1 = 0
  · rw [if_pos c5] at h
    exact (congrArg (fun q : St => q.2.2.2) (j_r2 h)).symm.trans ((q_Picture_hasQuantisers hz2).trans rfl)
  · rw [if_neg c5] at h
    by_cases c9 : x2 < 0
    · rw [if_pos c9] at h
      exact (congrArg (fun q : St => q.2.2.2) (j_r2 h)).symm.trans ((q_Picture_hasQuantisers hz2).trans rfl)
    · rw [if_neg c9] at h
      by_cases c15 : x2 < (64 : Int32)
      · rw [if_pos c15] at h
        obtain ⟨b29, h⟩ := j_ifn h
        obtain ⟨z32, hz32, h⟩ := j_bind h
        exact (congrArg (fun q : St => q.2.2.2) (j_r2 h)).symm.trans ((q_Bytes_at hz32).trans ((q_Picture_hasQuantisers hz2).trans rfl))
      · rw [if_neg c15] at h
        exact (congrArg (fun q : St => q.2.2.2) (j_r2 h)).symm.trans ((q_Picture_hasQuantisers hz2).trans rfl)
theorem q_Reader_quantiser {n : Nat} {x1 : Int32} {x2 : Int32} {t : St} {z : Int32 × St} (h : m_Reader_quantiser n x1 x2 t = some z) : z.2.2.2.2 = t.2.2.2 := by
  unfold m_Reader_quantiser at h
  obtain ⟨z6, hz6, h⟩ := j_bind h
  exact (congrArg (fun q : St => q.2.2.2) (j_r2 h)).symm.trans ((q_Picture_quantiserValue hz6).trans rfl)
theorem q_Picture_wordCount {n : Nat} {x1 : Int32} {t : St} {z : Int32 × St} (h : m_Picture_wordCount n x1 t = some z) : z.2.2.2.2 = t.2.2.2 := by
  have G4 : ∀ (k : Nat) (x1 : Int32) (x2 : Int32) (x3 : Int32) (t : St), m_Picture_wordCount_4 n  k x1 x2 x3 t = some z → z.2.2.2.2 = t.2.2.2 := by
    intro k
    induction k with
    | zero => intro x1 x2 x3 t h; exact absurd (show none = some z from h) (by simp)
    | succ k ih =>
      intro x1 x2 x3 t h
      change m_Picture_wordCount_4b n  (m_Picture_wordCount_4 n  k) x1 x2 x3 t = some z at h
      unfold m_Picture_wordCount_4b at h
      by_cases c7 : (16 : Int32) < x3
      · rw [if_pos c7] at h
        exact (congrArg (fun q : St => q.2.2.2) (j_r2 h)).symm.trans rfl
      · rw [if_neg c7] at h
        obtain ⟨z20, hz20, h⟩ := j_bind h
        exact (ih x1 (x2 + z20.1) (x3 + 1) z20.2 h).trans ((q_Bytes_at hz20).trans rfl)
  unfold m_Picture_wordCount at h
  exact (G4  n x1 (0 : Int32) (1 : Int32) t h).trans rfl
theorem q_Picture_ofWords {n : Nat} {x1 : Int32} {x2 : Int32} {x3 : Int32} {t : St} {z : Int32 × St} (h : m_Picture_ofWords n x1 x2 x3 t = some z) : z.2.2.2.2 = t.2.2.2 := by
  have G44 : ∀ (x2 : Int32) (x3 : Int32) (x4 : Int32) (t : St), m_Picture_ofWords_44 n  x2 x3 x4 t = some z → z.2.2.2.2 = t.2.2.2 := by
    intro x2 x3 x4 t h
    unfold m_Picture_ofWords_44 at h
    by_cases c46 : x2 = (1 : Int32)
    · rw [if_pos c46] at h
      by_cases c50 : x3 < 0
      · rw [if_pos c50] at h
        exact (congrArg (fun q : St => q.2.2.2) (j_r2 h)).symm.trans rfl
      · rw [if_neg c50] at h
        obtain ⟨z57, hz57, h⟩ := j_bind h
        by_cases c60 : z57.1 ≤ x3
        · rw [if_pos c60] at h
          exact (congrArg (fun q : St => q.2.2.2) (j_r2 h)).symm.trans ((q_Picture_wordCount hz57).trans rfl)
        · rw [if_neg c60] at h
          obtain ⟨z74, hz74, h⟩ := j_bind h
          exact (congrArg (fun q : St => q.2.2.2) (j_r2 h)).symm.trans ((q_Bytes_at hz74).trans ((q_Picture_wordCount hz57).trans rfl))
    · rw [if_neg c46] at h
      exact (congrArg (fun q : St => q.2.2.2) (j_r2 h)).symm.trans rfl
  unfold m_Picture_ofWords at h
  obtain ⟨z2, hz2, h⟩ := j_bind h
  by_cases c10 : z2.1 = (-1 : Int32)
  · rw [if_pos c10] at h
    exact (congrArg (fun q : St => q.2.2.2) (j_r2 h)).symm.trans ((q_Picture_placeOfWords hz2).trans rfl)
  · rw [if_neg c10] at h
    by_cases c16 : x2 = 0
    · rw [if_pos c16] at h
      by_cases c21 : x3 < (1 : Int32)
      · rw [if_pos c21] at h
        exact (G44  x2 x3 z2.1 z2.2 h).trans ((q_Picture_placeOfWords hz2).trans rfl)
      · rw [if_neg c21] at h
        by_cases c27 : (16 : Int32) < x3
        · rw [if_pos c27] at h
          exact (G44  x2 x3 z2.1 z2.2 h).trans ((q_Picture_placeOfWords hz2).trans rfl)
        · rw [if_neg c27] at h
          obtain ⟨z40, hz40, h⟩ := j_bind h
          exact (congrArg (fun q : St => q.2.2.2) (j_r2 h)).symm.trans ((q_Bytes_at hz40).trans ((q_Picture_placeOfWords hz2).trans rfl))
    · rw [if_neg c16] at h
      exact (G44  x2 x3 z2.1 z2.2 h).trans ((q_Picture_placeOfWords hz2).trans rfl)
theorem q_Reader_word {n : Nat} {x1 : Int32} {x2 : Int32} {x3 : Int32} {t : St} {z : Int32 × St} (h : m_Reader_word n x1 x2 x3 t = some z) : z.2.2.2.2 = t.2.2.2 := by
  unfold m_Reader_word at h
  obtain ⟨z7, hz7, h⟩ := j_bind h
  exact (congrArg (fun q : St => q.2.2.2) (j_r2 h)).symm.trans ((q_Picture_ofWords hz7).trans rfl)
theorem q_Reader_look {n : Nat} {x1 : Int32} {t : St} {z : Int32 × St} (h : m_Reader_look n x1 t = some z) : z.2.2.2.2 = t.2.2.2 := by
  unfold m_Reader_look at h
  by_cases c1_0 : x1 = (0 : Int32)
  · rw [if_pos c1_0] at h
    exact (congrArg (fun q : St => q.2.2.2) (j_r2 h)).symm.trans rfl
  rw [if_neg c1_0] at h
  by_cases c1_1 : x1 = (1 : Int32)
  · rw [if_pos c1_1] at h
    exact (congrArg (fun q : St => q.2.2.2) (j_r2 h)).symm.trans rfl
  rw [if_neg c1_1] at h
  by_cases c1_2 : x1 = (2 : Int32)
  · rw [if_pos c1_2] at h
    exact (congrArg (fun q : St => q.2.2.2) (j_r2 h)).symm.trans rfl
  rw [if_neg c1_2] at h
  by_cases c1_3 : x1 = (3 : Int32)
  · rw [if_pos c1_3] at h
    obtain ⟨z72, hz72, h⟩ := j_bind h
    exact (congrArg (fun q : St => q.2.2.2) (j_r2 h)).symm.trans ((q_Picture_segmentCount hz72).trans rfl)
  rw [if_neg c1_3] at h
  by_cases c1_4 : x1 = (4 : Int32)
  · rw [if_pos c1_4] at h
    obtain ⟨z80, hz80, h⟩ := j_bind h
    exact (congrArg (fun q : St => q.2.2.2) (j_r2 h)).symm.trans ((q_Picture_scanCount hz80).trans rfl)
  rw [if_neg c1_4] at h
  by_cases c1_5 : x1 = (5 : Int32)
  · rw [if_pos c1_5] at h
    exact (congrArg (fun q : St => q.2.2.2) (j_r2 h)).symm.trans rfl
  rw [if_neg c1_5] at h
  by_cases c1_6 : x1 = (6 : Int32)
  · rw [if_pos c1_6] at h
    exact (congrArg (fun q : St => q.2.2.2) (j_r2 h)).symm.trans rfl
  rw [if_neg c1_6] at h
  exact (congrArg (fun q : St => q.2.2.2) (j_r2 h)).symm.trans rfl

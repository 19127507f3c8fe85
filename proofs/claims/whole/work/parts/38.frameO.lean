/-- the first of m names from j on that is v -/
def fn (nm : Nat → Nat) (v : Nat) : Nat → Nat → Option Nat
  | 0, _ => none
  | m + 1, j => if nm j = v then some j else fn nm v m (j + 1)
def CN (f : Nat → Int32) (nm : Nat → Nat) (i : Nat) : Prop := ∀ j, j < i → f (j * 4) = nI (nm j) ∧ nm j < 256
theorem O_ofC {n c w cnt : Nat} {t : St} (h4 : t.1 4 = nI cnt) (hc : cnt ≤ 4) (h : c < cnt) (hw : w < 4) : m_Picture_ofComponent n (nI c) (nI w) t = some (t.2.1 3 (c * 4 + w), t) := by
  have q : nI c * (4 : Int32) + nI w = nI (c * 4 + w) := by rw [show (4 : Int32) = nI 4 from rfl, pk_mul, nI_add]
  unfold m_Picture_ofComponent
  rw [if_neg (nI_pos (by omega)), h4, if_neg (nI_ge h (by omega)), if_neg (nI_pos (by omega)), if_pos (show nI w < (4 : Int32) from nI_lt (b := 4) hw (by omega)), q, if_neg (nI_in (N := 16) (by omega) (by omega)), nI_clamp (by omega)]
theorem O_ofCm {n : Nat} {w : Int32} {t : St} : m_Picture_ofComponent n mI w t = some (mI, t) := by
  unfold m_Picture_ofComponent
  rw [if_pos (show mI < 0 by decide)]; rfl
theorem O_pon1 {n f : Nat} {x1 : Int32} {j cnt : Nat} {t : St} (h4 : t.1 4 = nI cnt) (hc : cnt ≤ 4) (h : j < cnt) : m_Picture_placeOfName_2 n (f + 1) x1 (nI j) t = if t.2.1 3 (j * 4) = x1 then some (nI j, t) else m_Picture_placeOfName_2 n f x1 (nI (j + 1)) t := by
  show m_Picture_placeOfName_2b n _ x1 (nI j) t = _
  unfold m_Picture_placeOfName_2b
  have e : m_Picture_ofComponent n (nI j) 0 t = some (t.2.1 3 (j * 4), t) := O_ofC (w := 0) h4 hc h (by omega)
  rw [h4, if_neg (nI_ge h (by omega)), e, Option.bind_some, nI_1]
theorem O_pon0 {n f : Nat} {x1 : Int32} {cnt : Nat} {t : St} (h4 : t.1 4 = nI cnt) : m_Picture_placeOfName_2 n (f + 1) x1 (nI cnt) t = some (mI, t) := by
  show m_Picture_placeOfName_2b n _ x1 (nI cnt) t = _
  unfold m_Picture_placeOfName_2b
  rw [h4, if_pos (show nI cnt ≤ nI cnt from Int32.le_refl _)]; rfl
theorem O_ponL {n cnt v : Nat} {nm : Nat → Nat} {t : St} (h4 : t.1 4 = nI cnt) (hc : cnt ≤ 4) (hv : v < 256) (hN : CN (t.2.1 3) nm cnt) : ∀ (m f j : Nat), j + m = cnt → m < f → m_Picture_placeOfName_2 n f (nI v) (nI j) t = some (oI (fn nm v m j), t) := by
  intro m
  induction m with
  | zero =>
    intro f j hj hf
    obtain ⟨f, rfl⟩ : ∃ g, f = g + 1 := ⟨f - 1, by omega⟩
    obtain rfl : j = cnt := hj
    exact O_pon0 h4
  | succ m ih =>
    intro f j hj hf
    obtain ⟨f, rfl⟩ : ∃ g, f = g + 1 := ⟨f - 1, by omega⟩
    have hq := hN j (by omega)
    rw [O_pon1 h4 hc (by omega)]
    unfold fn
    by_cases c : nm j = v
    · rw [if_pos c, if_pos (by rw [hq.1, c])]; rfl
    · rw [if_neg c, if_neg (by rw [hq.1]; exact fun q => c ((nI_eq (by omega) (by omega)).mp q))]
      exact ih f (j + 1) (by omega) (by omega)
theorem O_pon {n cnt v : Nat} {nm : Nat → Nat} {t : St} (hn : 20000 ≤ n) (h4 : t.1 4 = nI cnt) (hc : cnt ≤ 4) (hv : v < 256) (hN : CN (t.2.1 3) nm cnt) : m_Picture_placeOfName n (nI v) t = some (oI (fn nm v cnt 0), t) := O_ponL h4 hc hv hN cnt n 0 (by omega) (by omega)
theorem O_ponT {n cnt : Nat} {x1 : Int32} {t : St} (hn : 20000 ≤ n) (h4 : t.1 4 = nI cnt) (hc : cnt ≤ 4) : ∃ r, m_Picture_placeOfName n x1 t = some (r, t) := by
  have H : ∀ (m f j : Nat), j + m = cnt → m < f → ∃ r, m_Picture_placeOfName_2 n f x1 (nI j) t = some (r, t) := by
    intro m
    induction m with
    | zero =>
      intro f j hj hf
      obtain ⟨f, rfl⟩ : ∃ g, f = g + 1 := ⟨f - 1, by omega⟩
      obtain rfl : j = cnt := hj
      exact ⟨_, O_pon0 h4⟩
    | succ m ih =>
      intro f j hj hf
      obtain ⟨f, rfl⟩ : ∃ g, f = g + 1 := ⟨f - 1, by omega⟩
      rw [O_pon1 h4 hc (by omega)]
      by_cases c : t.2.1 3 (j * 4) = x1
      · rw [if_pos c]; exact ⟨_, rfl⟩
      · rw [if_neg c]; exact ih f (j + 1) (by omega) (by omega)
  exact H cnt n 0 (by omega) (by omega)
/-- the class's state with one component more -/
def addC (t : St) (i : Nat) (a b c d : Int32) : St := sG (sH (sH (sH (sH t 3 (i * 4) a) 3 (i * 4 + 1) b) 3 (i * 4 + 2) c) 3 (i * 4 + 3) d) 4 (nI (i + 1))
theorem O_addC {n i : Nat} {a b c d : Int32} {t : St} (h4 : t.1 4 = nI i) (hi : i < 4) : m_Picture_addComponent n a b c d t = some (addC t i a b c d) := by
  have q : nI i * (4 : Int32) = nI (i * 4) := by rw [show (4 : Int32) = nI 4 from rfl, pk_mul]
  have q1 : nI (i * 4) + (1 : Int32) = nI (i * 4 + 1) := nI_add (i * 4) 1
  have q2 : nI (i * 4) + (2 : Int32) = nI (i * 4 + 2) := nI_add (i * 4) 2
  have q3 : nI (i * 4) + (3 : Int32) = nI (i * 4 + 3) := nI_add (i * 4) 3
  unfold m_Picture_addComponent
  rw [h4, if_pos (show nI i < (4 : Int32) from nI_lt (b := 4) hi (by omega)), q, q1, q2, q3, if_neg (nI_in (N := 16) (by omega) (by omega)), nI_clamp (by omega), Option.bind_some, if_neg (nI_in (N := 16) (by omega) (by omega)), nI_clamp (by omega), Option.bind_some, if_neg (nI_in (N := 16) (by omega) (by omega)), nI_clamp (by omega), Option.bind_some, if_neg (nI_in (N := 16) (by omega) (by omega)), nI_clamp (by omega)]
  have e : (sH (sH (sH t 3 (i * 4) a) 3 (i * 4 + 1) b) 3 (i * 4 + 2) c).1 4 = nI i := h4
  rw [e, nI_1]; rfl
theorem O_addT {n i : Nat} {a b c d : Int32} {t : St} (h4 : t.1 4 = nI i) (hi : i ≤ 4) : ∃ z j, m_Picture_addComponent n a b c d t = some z ∧ z.1 4 = nI j ∧ j ≤ 4 := by
  by_cases c4 : i < 4
  · exact ⟨_, i + 1, O_addC h4 c4, rfl, by omega⟩
  · refine ⟨t, i, ?_, h4, hi⟩
    unfold m_Picture_addComponent
    rw [h4, if_neg (show ¬ nI i < (4 : Int32) from nI_nlt (b := 4) (by omega) (by omega))]
theorem O_c70F {n i : Nat} {x1 x3 x4 : Int32} {t : St} (h : t.1 13 ≠ 0) (h4 : t.1 4 = nI i) (hi : i ≤ 4) : ∃ z j, m_Parser_readComponent_70 n x1 x3 x4 t = some z ∧ z.1 4 = nI j ∧ j ≤ 4 := by
  obtain ⟨z, j, z1, z2, z3⟩ := O_addT (n := n) (a := x1) (b := x3) (c := x4) (d := mI) h4 hi
  refine ⟨z, j, ?_, z2, z3⟩
  unfold m_Parser_readComponent_70
  rw [O_takeF h, Option.bind_some, z1, Option.bind_some]
theorem O_c66F {n i : Nat} {x1 x3 x4 : Int32} {t : St} (h : t.1 13 ≠ 0) (h4 : t.1 4 = nI i) (hi : i ≤ 4) : ∃ z j, m_Parser_readComponent_66 n x1 x3 x4 t = some z ∧ z.1 4 = nI j ∧ j ≤ 4 := by
  unfold m_Parser_readComponent_66
  rw [O_refF h, Option.bind_some]
  exact O_c70F h h4 hi
theorem O_c25F {n i : Nat} {x1 : Int32} {t : St} (h : t.1 13 ≠ 0) (h4 : t.1 4 = nI i) (hi : i ≤ 4) : ∃ z j, m_Parser_readComponent_25 n x1 t = some z ∧ z.1 4 = nI j ∧ j ≤ 4 := by
  unfold m_Parser_readComponent_25
  rw [O_takeF h, Option.bind_some]
  dsimp only
  by_cases c1 : (mI >>> ((4 : Int32) &&& 31)) < (1 : Int32)
  · rw [if_pos c1]; exact O_c66F h h4 hi
  · rw [if_neg c1]
    by_cases c2 : (2 : Int32) < (mI >>> ((4 : Int32) &&& 31))
    · rw [if_pos c2]; exact O_c66F h h4 hi
    · rw [if_neg c2]
      by_cases c3 : (mI &&& (15 : Int32)) < (1 : Int32)
      · rw [if_pos c3]; exact O_c66F h h4 hi
      · rw [if_neg c3]
        by_cases c4 : (mI &&& (15 : Int32)) ≤ (2 : Int32)
        · rw [if_pos c4]; exact O_c70F h h4 hi
        · rw [if_neg c4]; exact O_c66F h h4 hi
theorem O_compF {n i : Nat} {t : St} {e : Er} (hn : 20000 ≤ n) (h : Fz t e) (h4 : t.1 4 = nI i) (hi : i ≤ 4) : ∃ z j, m_Parser_readComponent n t = some z ∧ z.1 4 = nI j ∧ j ≤ 4 ∧ Fz z e := by
  have H : ∃ z j, m_Parser_readComponent n t = some z ∧ z.1 4 = nI j ∧ j ≤ 4 := by
    obtain ⟨r, hr⟩ := O_ponT (x1 := mI) hn h4 hi
    unfold m_Parser_readComponent
    rw [O_takeF h.ne, Option.bind_some, hr, Option.bind_some]
    dsimp only
    by_cases c : r = -1
    · rw [if_pos c]; exact O_c25F h.ne h4 hi
    · rw [if_neg c, O_refF h.ne, Option.bind_some]; exact O_c25F h.ne h4 hi
  obtain ⟨z, j, z1, z2, z3⟩ := H
  exact ⟨z, j, z1, z2, z3, h.keep (f_Parser_readComponent z1 h.ne)⟩
theorem O_f46F {n c : Nat} {x1 : Int32} {e : Er} (hn : 20000 ≤ n) (hc : c ≤ 4) : ∀ (m f j i : Nat) (t : St), j + m = c → m < f → Fz t e → t.1 4 = nI i → i ≤ 4 → ∃ z, m_Parser_readFrame_46 n f x1 (nI c) (nI j) t = some z ∧ Fz z e := by
  intro m
  induction m with
  | zero =>
    intro f j i t hj hf h h4 hi
    obtain ⟨f, rfl⟩ : ∃ g, f = g + 1 := ⟨f - 1, by omega⟩
    refine ⟨sG t 1 x1, ?_, h⟩
    show m_Parser_readFrame_46b n _ x1 (nI c) (nI j) t = _
    unfold m_Parser_readFrame_46b
    rw [if_pos (nI_le (by omega) (by omega))]
  | succ m ih =>
    intro f j i t hj hf h h4 hi
    obtain ⟨f, rfl⟩ : ∃ g, f = g + 1 := ⟨f - 1, by omega⟩
    obtain ⟨z, k, z1, z2, z3, z4⟩ := O_compF hn h h4 hi
    obtain ⟨w, w1, w2⟩ := ih f (j + 1) k z (by omega) (by omega) z4 z2 z3
    refine ⟨w, Eq.trans ?_ w1, w2⟩
    show m_Parser_readFrame_46b n _ x1 (nI c) (nI j) t = _
    unfold m_Parser_readFrame_46b
    rw [if_neg (nI_ge (by omega) (by omega)), z1, Option.bind_some, nI_1]
theorem O_f46m {n f : Nat} {x1 : Int32} {t : St} : m_Parser_readFrame_46 n (f + 1) x1 mI 0 t = some (sG t 1 x1) := by
  show m_Parser_readFrame_46b n _ x1 mI 0 t = _
  unfold m_Parser_readFrame_46b
  rw [if_pos (show mI ≤ 0 by decide)]
theorem b4 : ∀ s, s < 256 → nI s >>> ((4 : Int32) &&& 31) = nI (s / 16) := by decide +kernel
theorem b15 : ∀ s, s < 256 → nI s &&& (15 : Int32) = nI (s % 16) := by decide +kernel
/-- the components of a frame, from p0 on: m are left, the next is the i-th, at p -/
def fc (B : Nat → Nat) (sz ce lp p0 : Nat) : Nat → Nat → Nat → Except Er Unit
  | 0, _, _ => .ok ()
  | m + 1, p, i => match tk B sz ce lp p 0 255 with
    | .error e => .error e
    | .ok v => if (fn (fun j => B (p0 + 3 * j)) v i 0).isSome = true then .error (6, p) else match tk B sz ce lp (p + 1) 0 255 with
      | .error e => .error e
      | .ok hv => if hv / 16 < 1 ∨ 2 < hv / 16 ∨ hv % 16 < 1 ∨ 2 < hv % 16 then .error (6, p + 1) else match tk B sz ce lp (p + 2) 0 3 with
        | .error e => .error e
        | .ok _ => fc B sz ce lp p0 m (p + 3) (i + 1)
/-- the components as the class has them -/
def PC (B : Nat → Nat) (p0 : Nat) (f : Nat → Int32) (i : Nat) : Prop := ∀ j, j < i → f (j * 4) = nI (B (p0 + 3 * j)) ∧ f (j * 4 + 1) = nI (B (p0 + 3 * j + 1) / 16) ∧ f (j * 4 + 2) = nI (B (p0 + 3 * j + 1) % 16) ∧ f (j * 4 + 3) = nI (B (p0 + 3 * j + 2)) ∧ B (p0 + 3 * j) < 256 ∧ B (p0 + 3 * j + 1) < 256 ∧ B (p0 + 3 * j + 2) < 256
theorem PC.CN {B : Nat → Nat} {p0 : Nat} {f : Nat → Int32} {i : Nat} (h : PC B p0 f i) : CN f (fun j => B (p0 + 3 * j)) i := fun j hj => ⟨(h j hj).1, (h j hj).2.2.2.2.1⟩
theorem PC_add {B : Nat → Nat} {p0 i a b c d : Nat} {t : St} (h : PC B p0 (t.2.1 3) i) (h1 : a = B (p0 + 3 * i)) (h2 : b = B (p0 + 3 * i + 1) / 16) (h3 : c = B (p0 + 3 * i + 1) % 16) (h4 : d = B (p0 + 3 * i + 2)) (h5 : B (p0 + 3 * i) < 256) (h6 : B (p0 + 3 * i + 1) < 256) (h7 : B (p0 + 3 * i + 2) < 256) : PC B p0 ((addC t i (nI a) (nI b) (nI c) (nI d)).2.1 3) (i + 1) := by
  intro j hj
  have e : ∀ k, (addC t i (nI a) (nI b) (nI c) (nI d)).2.1 3 k = if k = i * 4 + 3 then nI d else if k = i * 4 + 2 then nI c else if k = i * 4 + 1 then nI b else if k = i * 4 then nI a else t.2.1 3 k := fun k => rfl
  rw [e, e, e, e]
  by_cases cj : j = i
  · subst cj
    rw [if_neg (by omega), if_neg (by omega), if_neg (by omega), if_pos rfl, if_neg (by omega), if_neg (by omega), if_pos rfl, if_neg (by omega), if_pos rfl, if_pos rfl, h1, h2, h3, h4]
    exact ⟨rfl, rfl, rfl, rfl, h5, h6, h7⟩
  · rw [if_neg (by omega), if_neg (by omega), if_neg (by omega), if_neg (by omega), if_neg (by omega), if_neg (by omega), if_neg (by omega), if_neg (by omega), if_neg (by omega), if_neg (by omega), if_neg (by omega), if_neg (by omega), if_neg (by omega), if_neg (by omega), if_neg (by omega), if_neg (by omega)]
    exact h j (by omega)

/-- the first of m names from j on that is v -/
def fn (nm : Nat → Nat) (v : Nat) : Nat → Nat → Option Nat
  | 0, _ => none
  | m + 1, j => if nm j = v then some j else fn nm v m (j + 1)
def CN (f : Nat → Int32) (nm : Nat → Nat) (i : Nat) : Prop := ∀ j, j < i → f (j * 4) = nI (nm j) ∧ nm j < 256
theorem O_ofC {n c w cnt : Nat} {t : St} (h4 : t.1 4 = nI cnt) (hc : cnt ≤ 4) (h : c < cnt) (hw : w < 4) : m_Picture_ofComponent n (nI c) (nI w) t = some (t.2.1 3 (c * 4 + w), t) := by
  have q : nI c * (4 : Int32) + nI w = nI (c * 4 + w) := by rw [show (4 : Int32) = nI 4 from rfl, pk_mul, nI_add]
  unfold m_Picture_ofComponent
  rw [if_neg (nI_pos (by omega)), h4, if_neg (nI_ge h (by omega)), if_neg (nI_pos (by omega)), if_pos (show nI w < (4 : Int32) from nI_lt (b := 4) hw (by omega)), q, if_neg (nI_in (N := 16) (by omega) (by omega)), nI_clamp (by omega)]
theorem O_ofCm {n : Nat} {w : Int32} {t : St} : m_Picture_ofComponent n mI w t = some (mI, t) := by
  unfold m_Picture_ofComponent
  rw [if_pos (show mI < 0 by decide)]; rfl
theorem O_pon1 {n f : Nat} {x1 : Int32} {j cnt : Nat} {t : St} (h4 : t.1 4 = nI cnt) (hc : cnt ≤ 4) (h : j < cnt) : m_Picture_placeOfName_2 n (f + 1) x1 (nI j) t = if t.2.1 3 (j * 4) = x1 then some (nI j, t) else m_Picture_placeOfName_2 n f x1 (nI (j + 1)) t := by
  show m_Picture_placeOfName_2b n _ x1 (nI j) t = _
  unfold m_Picture_placeOfName_2b
  have e : m_Picture_ofComponent n (nI j) 0 t = some (t.2.1 3 (j * 4), t) := O_ofC (w := 0) h4 hc h (by omega)
  rw [h4, if_neg (nI_ge h (by omega)), e, Option.bind_some, nI_1]
theorem O_pon0 {n f : Nat} {x1 : Int32} {cnt : Nat} {t : St} (h4 : t.1 4 = nI cnt) : m_Picture_placeOfName_2 n (f + 1) x1 (nI cnt) t = some (mI, t) := by
  show m_Picture_placeOfName_2b n _ x1 (nI cnt) t = _
  unfold m_Picture_placeOfName_2b
  rw [h4, if_pos (show nI cnt ≤ nI cnt from Int32.le_refl _)]; rfl
theorem O_ponL {n cnt v : Nat} {nm : Nat → Nat} {t : St} (h4 : t.1 4 = nI cnt) (hc : cnt ≤ 4) (hv : v < 256) (hN : CN (t.2.1 3) nm cnt) : ∀ (m f j : Nat), j + m = cnt → m < f → m_Picture_placeOfName_2 n f (nI v) (nI j) t = some (oI (fn nm v m j), t) := by
  intro m
  induction m with
  | zero =>
    intro f j hj hf
    obtain ⟨f, rfl⟩ : ∃ g, f = g + 1 := ⟨f - 1, by omega⟩
    obtain rfl : j = cnt := hj
    exact O_pon0 h4
  | succ m ih =>
    intro f j hj hf
    obtain ⟨f, rfl⟩ : ∃ g, f = g + 1 := ⟨f - 1, by omega⟩
    have hq := hN j (by omega)
    rw [O_pon1 h4 hc (by omega)]
    unfold fn
    by_cases c : nm j = v
    · rw [if_pos c, if_pos (by rw [hq.1, c])]; rfl
    · rw [if_neg c, if_neg (by rw [hq.1]; exact fun q => c ((nI_eq (by omega) (by omega)).mp q))]
      exact ih f (j + 1) (by omega) (by omega)
theorem O_pon {n cnt v : Nat} {nm : Nat → Nat} {t : St} (hn : 20000 ≤ n) (h4 : t.1 4 = nI cnt) (hc : cnt ≤ 4) (hv : v < 256) (hN : CN (t.2.1 3) nm cnt) : m_Picture_placeOfName n (nI v) t = some (oI (fn nm v cnt 0), t) := O_ponL h4 hc hv hN cnt n 0 (by omega) (by omega)
theorem O_ponT {n cnt : Nat} {x1 : Int32} {t : St} (hn : 20000 ≤ n) (h4 : t.1 4 = nI cnt) (hc : cnt ≤ 4) : ∃ r, m_Picture_placeOfName n x1 t = some (r, t) := by
  have H : ∀ (m f j : Nat), j + m = cnt → m < f → ∃ r, m_Picture_placeOfName_2 n f x1 (nI j) t = some (r, t) := by
    intro m
    induction m with
    | zero =>
      intro f j hj hf
      obtain ⟨f, rfl⟩ : ∃ g, f = g + 1 := ⟨f - 1, by omega⟩
      obtain rfl : j = cnt := hj
      exact ⟨_, O_pon0 h4⟩
    | succ m ih =>
      intro f j hj hf
      obtain ⟨f, rfl⟩ : ∃ g, f = g + 1 := ⟨f - 1, by omega⟩
      rw [O_pon1 h4 hc (by omega)]
      by_cases c : t.2.1 3 (j * 4) = x1
      · rw [if_pos c]; exact ⟨_, rfl⟩
      · rw [if_neg c]; exact ih f (j + 1) (by omega) (by omega)
  exact H cnt n 0 (by omega) (by omega)
/-- the class's state with one component more -/
def addC (t : St) (i : Nat) (a b c d : Int32) : St := sG (sH (sH (sH (sH t 3 (i * 4) a) 3 (i * 4 + 1) b) 3 (i * 4 + 2) c) 3 (i * 4 + 3) d) 4 (nI (i + 1))
theorem O_addC {n i : Nat} {a b c d : Int32} {t : St} (h4 : t.1 4 = nI i) (hi : i < 4) : m_Picture_addComponent n a b c d t = some (addC t i a b c d) := by
  have q : nI i * (4 : Int32) = nI (i * 4) := by rw [show (4 : Int32) = nI 4 from rfl, pk_mul]
  have q1 : nI (i * 4) + (1 : Int32) = nI (i * 4 + 1) := nI_add (i * 4) 1
  have q2 : nI (i * 4) + (2 : Int32) = nI (i * 4 + 2) := nI_add (i * 4) 2
  have q3 : nI (i * 4) + (3 : Int32) = nI (i * 4 + 3) := nI_add (i * 4) 3
  unfold m_Picture_addComponent
  rw [h4, if_pos (show nI i < (4 : Int32) from nI_lt (b := 4) hi (by omega)), q, q1, q2, q3, if_neg (nI_in (N := 16) (by omega) (by omega)), nI_clamp (by omega), Option.bind_some, if_neg (nI_in (N := 16) (by omega) (by omega)), nI_clamp (by omega), Option.bind_some, if_neg (nI_in (N := 16) (by omega) (by omega)), nI_clamp (by omega), Option.bind_some, if_neg (nI_in (N := 16) (by omega) (by omega)), nI_clamp (by omega)]
  have e : (sH (sH (sH t 3 (i * 4) a) 3 (i * 4 + 1) b) 3 (i * 4 + 2) c).1 4 = nI i := h4
  rw [e, nI_1]; rfl
theorem O_addT {n i : Nat} {a b c d : Int32} {t : St} (h4 : t.1 4 = nI i) (hi : i ≤ 4) : ∃ z j, m_Picture_addComponent n a b c d t = some z ∧ z.1 4 = nI j ∧ j ≤ 4 := by
  by_cases c4 : i < 4
  · exact ⟨_, i + 1, O_addC h4 c4, rfl, by omega⟩
  · refine ⟨t, i, ?_, h4, hi⟩
    unfold m_Picture_addComponent
    rw [h4, if_neg (show ¬ nI i < (4 : Int32) from nI_nlt (b := 4) (by omega) (by omega))]
theorem O_c70G {n i : Nat} {x1 x3 x4 v : Int32} {t t1 : St} {e : Er} (ht : m_Parser_take n 0 3 t = some (v, t1)) (h : Fz t1 e) (h4 : t1.1 4 = nI i) (hi : i ≤ 4) : ∃ z j, m_Parser_readComponent_70 n x1 x3 x4 t = some z ∧ z.1 4 = nI j ∧ j ≤ 4 ∧ Fz z e := by
  obtain ⟨z, j, z1, z2, z3⟩ := O_addT (n := n) (a := x1) (b := x3) (c := x4) (d := v) h4 hi
  refine ⟨z, j, ?_, z2, z3, h.keep (Fk.x (x_Picture_addComponent z1) (by decide) (by decide))⟩
  unfold m_Parser_readComponent_70
  rw [ht, Option.bind_some, z1, Option.bind_some]
theorem O_c70F {n i : Nat} {x1 x3 x4 : Int32} {t : St} {e : Er} (h : Fz t e) (h4 : t.1 4 = nI i) (hi : i ≤ 4) : ∃ z j, m_Parser_readComponent_70 n x1 x3 x4 t = some z ∧ z.1 4 = nI j ∧ j ≤ 4 ∧ Fz z e := O_c70G (O_takeF h.ne) h h4 hi
theorem O_c66F {n i : Nat} {x1 x3 x4 : Int32} {t : St} {e : Er} (h : Fz t e) (h4 : t.1 4 = nI i) (hi : i ≤ 4) : ∃ z j, m_Parser_readComponent_66 n x1 x3 x4 t = some z ∧ z.1 4 = nI j ∧ j ≤ 4 ∧ Fz z e := by
  unfold m_Parser_readComponent_66
  rw [O_refF h.ne, Option.bind_some]
  exact O_c70F h h4 hi
theorem O_c25G {n i : Nat} {x1 v : Int32} {t t1 : St} {e : Er} (ht : m_Parser_take n 0 255 t = some (v, t1)) (h : Fz t1 e) (h4 : t1.1 4 = nI i) (hi : i ≤ 4) : ∃ z j, m_Parser_readComponent_25 n x1 t = some z ∧ z.1 4 = nI j ∧ j ≤ 4 ∧ Fz z e := by
  unfold m_Parser_readComponent_25
  rw [ht, Option.bind_some]
  dsimp only
  by_cases c1 : (v >>> ((4 : Int32) &&& 31)) < (1 : Int32)
  · rw [if_pos c1]; exact O_c66F h h4 hi
  · rw [if_neg c1]
    by_cases c2 : (2 : Int32) < (v >>> ((4 : Int32) &&& 31))
    · rw [if_pos c2]; exact O_c66F h h4 hi
    · rw [if_neg c2]
      by_cases c3 : (v &&& (15 : Int32)) < (1 : Int32)
      · rw [if_pos c3]; exact O_c66F h h4 hi
      · rw [if_neg c3]
        by_cases c4 : (v &&& (15 : Int32)) ≤ (2 : Int32)
        · rw [if_pos c4]; exact O_c70F h h4 hi
        · rw [if_neg c4]; exact O_c66F h h4 hi
theorem O_compG {n i : Nat} {v : Int32} {t t1 : St} {e : Er} (hn : 20000 ≤ n) (ht : m_Parser_take n 0 255 t = some (v, t1)) (h : Fz t1 e) (h4 : t1.1 4 = nI i) (hi : i ≤ 4) : ∃ z j, m_Parser_readComponent n t = some z ∧ z.1 4 = nI j ∧ j ≤ 4 ∧ Fz z e := by
  obtain ⟨r, hr⟩ := O_ponT (x1 := v) hn h4 hi
  unfold m_Parser_readComponent
  rw [ht, Option.bind_some, hr, Option.bind_some]
  dsimp only
  by_cases c : r = -1
  · rw [if_pos c]; exact O_c25G (O_takeF h.ne) h h4 hi
  · rw [if_neg c, O_refF h.ne, Option.bind_some]; exact O_c25G (O_takeF h.ne) h h4 hi
theorem O_compF {n i : Nat} {t : St} {e : Er} (hn : 20000 ≤ n) (h : Fz t e) (h4 : t.1 4 = nI i) (hi : i ≤ 4) : ∃ z j, m_Parser_readComponent n t = some z ∧ z.1 4 = nI j ∧ j ≤ 4 ∧ Fz z e := O_compG hn (O_takeF h.ne) h h4 hi
theorem O_f46F {n c : Nat} {x1 : Int32} {e : Er} (hn : 20000 ≤ n) (hc : c ≤ 4) : ∀ (m f j i : Nat) (t : St), j + m = c → m < f → Fz t e → t.1 4 = nI i → i ≤ 4 → ∃ z, m_Parser_readFrame_46 n f x1 (nI c) (nI j) t = some z ∧ Fz z e := by
  intro m
  induction m with
  | zero =>
    intro f j i t hj hf h h4 hi
    obtain ⟨f, rfl⟩ : ∃ g, f = g + 1 := ⟨f - 1, by omega⟩
    refine ⟨sG t 1 x1, ?_, h⟩
    show m_Parser_readFrame_46b n _ x1 (nI c) (nI j) t = _
    unfold m_Parser_readFrame_46b
    rw [if_pos (nI_le (by omega) (by omega))]
  | succ m ih =>
    intro f j i t hj hf h h4 hi
    obtain ⟨f, rfl⟩ : ∃ g, f = g + 1 := ⟨f - 1, by omega⟩
    obtain ⟨z, k, z1, z2, z3, z4⟩ := O_compF hn h h4 hi
    obtain ⟨w, w1, w2⟩ := ih f (j + 1) k z (by omega) (by omega) z4 z2 z3
    refine ⟨w, Eq.trans ?_ w1, w2⟩
    show m_Parser_readFrame_46b n _ x1 (nI c) (nI j) t = _
    unfold m_Parser_readFrame_46b
    rw [if_neg (nI_ge (by omega) (by omega)), z1, Option.bind_some, nI_1]
theorem O_f46m {n f : Nat} {x1 : Int32} {t : St} : m_Parser_readFrame_46 n (f + 1) x1 mI 0 t = some (sG t 1 x1) := by
  show m_Parser_readFrame_46b n _ x1 mI 0 t = _
  unfold m_Parser_readFrame_46b
  rw [if_pos (show mI ≤ 0 by decide)]
theorem b4 : ∀ s, s < 256 → nI s >>> ((4 : Int32) &&& 31) = nI (s / 16) := by decide +kernel
theorem b15 : ∀ s, s < 256 → nI s &&& (15 : Int32) = nI (s % 16) := by decide +kernel
/-- the components of a frame, from p0 on: m are left, the next is the i-th, at p -/
def fc (B : Nat → Nat) (sz ce lp p0 : Nat) : Nat → Nat → Nat → Except Er Unit
  | 0, _, _ => .ok ()
  | m + 1, p, i => match tk B sz ce lp p 0 255 with
    | .error e => .error e
    | .ok v => if (fn (fun j => B (p0 + 3 * j)) v i 0).isSome = true then .error (6, p) else match tk B sz ce lp (p + 1) 0 255 with
      | .error e => .error e
      | .ok hv => if hv / 16 < 1 ∨ 2 < hv / 16 ∨ hv % 16 < 1 ∨ 2 < hv % 16 then .error (6, p + 1) else match tk B sz ce lp (p + 2) 0 3 with
        | .error e => .error e
        | .ok _ => fc B sz ce lp p0 m (p + 3) (i + 1)
/-- the components as the class has them -/
def PC (B : Nat → Nat) (p0 : Nat) (f : Nat → Int32) (i : Nat) : Prop := ∀ j, j < i → f (j * 4) = nI (B (p0 + 3 * j)) ∧ f (j * 4 + 1) = nI (B (p0 + 3 * j + 1) / 16) ∧ f (j * 4 + 2) = nI (B (p0 + 3 * j + 1) % 16) ∧ f (j * 4 + 3) = nI (B (p0 + 3 * j + 2)) ∧ B (p0 + 3 * j) < 256 ∧ B (p0 + 3 * j + 1) < 256 ∧ B (p0 + 3 * j + 2) < 256
theorem PC.CN {B : Nat → Nat} {p0 : Nat} {f : Nat → Int32} {i : Nat} (h : PC B p0 f i) : CN f (fun j => B (p0 + 3 * j)) i := fun j hj => ⟨(h j hj).1, (h j hj).2.2.2.2.1⟩
theorem PC_add {B : Nat → Nat} {p0 i a b c d : Nat} {t : St} (h : PC B p0 (t.2.1 3) i) (h1 : a = B (p0 + 3 * i)) (h2 : b = B (p0 + 3 * i + 1) / 16) (h3 : c = B (p0 + 3 * i + 1) % 16) (h4 : d = B (p0 + 3 * i + 2)) (h5 : B (p0 + 3 * i) < 256) (h6 : B (p0 + 3 * i + 1) < 256) (h7 : B (p0 + 3 * i + 2) < 256) : PC B p0 ((addC t i (nI a) (nI b) (nI c) (nI d)).2.1 3) (i + 1) := by
  intro j hj
  have e : ∀ k, (addC t i (nI a) (nI b) (nI c) (nI d)).2.1 3 k = if k = i * 4 + 3 then nI d else if k = i * 4 + 2 then nI c else if k = i * 4 + 1 then nI b else if k = i * 4 then nI a else t.2.1 3 k := fun k => rfl
  rw [e, e, e, e]
  by_cases cj : j = i
  · subst cj
    rw [if_neg (by omega), if_neg (by omega), if_neg (by omega), if_pos rfl, if_neg (by omega), if_neg (by omega), if_pos rfl, if_neg (by omega), if_pos rfl, if_pos rfl, h1, h2, h3, h4]
    exact ⟨rfl, rfl, rfl, rfl, h5, h6, h7⟩
  · rw [if_neg (by omega), if_neg (by omega), if_neg (by omega), if_neg (by omega), if_neg (by omega), if_neg (by omega), if_neg (by omega), if_neg (by omega), if_neg (by omega), if_neg (by omega), if_neg (by omega), if_neg (by omega), if_neg (by omega), if_neg (by omega), if_neg (by omega), if_neg (by omega)]
    exact h j (by omega)
theorem oI_some {o : Option Nat} (h : o.isSome = true) (hb : ∀ q, o = some q → q < 100) : ¬ oI o = -1 := by
  cases o with
  | none => cases h
  | some q => exact fun e => (eq_mI (a := q) (by have := hb q rfl; omega)).mp e
theorem fn_lt {nm : Nat → Nat} {v : Nat} : ∀ {m j q : Nat}, fn nm v m j = some q → j ≤ q ∧ q < j + m ∧ nm q = v
  | 0, j, q, h => by cases h
  | m + 1, j, q, h => by
    unfold fn at h
    by_cases c : nm j = v
    · rw [if_pos c] at h; cases h; exact ⟨by omega, by omega, c⟩
    · rw [if_neg c] at h
      have := fn_lt (m := m) h
      exact ⟨by omega, by omega, this.2.2⟩
theorem At.addC {B : Nat → Nat} {sz ce lp p i : Nat} {a b c d : Int32} {t : St} (h : At B sz ce lp p t) : At B sz ce lp p (addC t i a b c d) := h
theorem O_f46 {n c p0 : Nat} {x1 : Int32} {B : Nat → Nat} {sz ce lp : Nat} (hn : 20000 ≤ n) (hc : c ≤ 4) (hp0 : p0 < 900000) : ∀ (m f j : Nat) (t : St), j + m = c → m < f → At B sz ce lp (p0 + 3 * j) t → t.1 4 = nI j → PC B p0 (t.2.1 3) j → (∀ e, fc B sz ce lp p0 m (p0 + 3 * j) j = .error e → ∃ z, m_Parser_readFrame_46 n f x1 (nI c) (nI j) t = some z ∧ Fz z e) ∧ (fc B sz ce lp p0 m (p0 + 3 * j) j = .ok () → ∃ z, m_Parser_readFrame_46 n f x1 (nI c) (nI j) t = some z ∧ At B sz ce lp (p0 + 3 * c) z ∧ z.1 1 = x1 ∧ z.1 4 = nI c ∧ PC B p0 (z.2.1 3) c ∧ z.1 2 = t.1 2 ∧ z.1 3 = t.1 3) := by
  intro m
  induction m with
  | zero =>
    intro f j t hj hf hA h4 hP
    obtain ⟨f, rfl⟩ : ∃ g, f = g + 1 := ⟨f - 1, by omega⟩
    obtain rfl : j = c := hj
    refine ⟨fun e he => (by cases he), fun _ => ⟨sG t 1 x1, ?_, hA, rfl, h4, hP, rfl, rfl⟩⟩
    show m_Parser_readFrame_46b n _ x1 (nI j) (nI j) t = _
    unfold m_Parser_readFrame_46b
    rw [if_pos (show nI j ≤ nI j from Int32.le_refl _)]
  | succ m ih =>
    intro f j t hj hf hA h4 hP
    obtain ⟨f, rfl⟩ : ∃ g, f = g + 1 := ⟨f - 1, by omega⟩
    have e1 : m_Parser_readFrame_46 n (f + 1) x1 (nI c) (nI j) t = (m_Parser_readComponent n t).bind (fun z52 => m_Parser_readFrame_46 n f x1 (nI c) (nI (j + 1)) z52) := by
      show m_Parser_readFrame_46b n _ x1 (nI c) (nI j) t = _
      unfold m_Parser_readFrame_46b
      rw [if_neg (nI_ge (by omega) (by omega)), nI_1]
    have eF : ∀ e, (∃ z k, m_Parser_readComponent n t = some z ∧ z.1 4 = nI k ∧ k ≤ 4 ∧ Fz z e) → ∃ z, m_Parser_readFrame_46 n (f + 1) x1 (nI c) (nI j) t = some z ∧ Fz z e := by
      intro e ⟨z, k, z1, z2, z3, z4⟩
      obtain ⟨w, w1, w2⟩ := O_f46F (x1 := x1) hn hc m f (j + 1) k z (by omega) (by omega) z4 z2 z3
      refine ⟨w, ?_, w2⟩
      rw [e1, z1, Option.bind_some]
      exact w1
    have e0 : m_Parser_take n 0 255 t = _ := hA.take 0 255 (by omega) (by omega)
    unfold fc
    cases h1 : tk B sz ce lp (p0 + 3 * j) 0 255 with
    | error e =>
      have hz := fO_z (t := t) (tk_er h1).1
      rw [h1] at e0
      refine ⟨fun e' he => ?_, fun he => (by cases he)⟩
      cases he
      exact eF e (O_compG (t1 := fO t e) (v := mI) (i := j) hn e0 hz h4 (by omega))
    | ok v =>
      obtain ⟨a1, a2, a3, a4, a5⟩ := tk_lt h1
      rw [h1] at e0
      have e0' : m_Parser_take n 0 255 t = some (nI v, sG t 9 (nI (p0 + 3 * j + 1))) := e0
      have hA2 := hA.step (q := p0 + 3 * j + 1) (by omega)
      have hpn := O_pon (v := v) (nm := fun i => B (p0 + 3 * i)) (t := sG t 9 (nI (p0 + 3 * j + 1))) hn h4 (by omega) (by omega) hP.CN
      have e2 : m_Parser_readComponent n t = if oI (fn (fun i => B (p0 + 3 * i)) v j 0) = -1 then m_Parser_readComponent_25 n (nI v) (sG t 9 (nI (p0 + 3 * j + 1))) else (m_Parser_refuseTaken n (sG t 9 (nI (p0 + 3 * j + 1)))).bind (fun z22 => m_Parser_readComponent_25 n (nI v) z22) := by
        unfold m_Parser_readComponent
        rw [e0', Option.bind_some, hpn, Option.bind_some]
      dsimp only
      by_cases c1 : (fn (fun i => B (p0 + 3 * i)) v j 0).isSome = true
      · rw [if_pos c1]
        refine ⟨fun e' he => ?_, fun he => (by cases he)⟩
        cases he
        have hz : Fz (fO (sG t 9 (nI (p0 + 3 * j + 1))) (6, p0 + 3 * j)) (6, p0 + 3 * j) := fO_z (Or.inr (Or.inr rfl))
        rw [if_neg (oI_some c1 (fun q hq => by have := fn_lt hq; omega)), O_ref (p := p0 + 3 * j) (t := sG t 9 (nI (p0 + 3 * j + 1))) hA.2.1 rfl, Option.bind_some] at e2
        obtain ⟨z, k, z1, z2, z3, z4⟩ := O_c25G (n := n) (x1 := nI v) (i := j) (O_takeF hz.ne) hz h4 (by omega)
        exact eF _ ⟨z, k, e2.trans z1, z2, z3, z4⟩
      · rw [if_neg c1]
        have hno : fn (fun i => B (p0 + 3 * i)) v j 0 = none := by
          cases hq : fn (fun i => B (p0 + 3 * i)) v j 0 with
          | none => rfl
          | some q => rw [hq] at c1; exact absurd rfl c1
        rw [if_pos (by rw [hno]; rfl)] at e2
        have e3 : m_Parser_take n 0 255 (sG t 9 (nI (p0 + 3 * j + 1))) = _ := hA2.take 0 255 (by omega) (by omega)
        cases h2 : tk B sz ce lp (p0 + 3 * j + 1) 0 255 with
        | error e =>
          have hz := fO_z (t := sG t 9 (nI (p0 + 3 * j + 1))) (tk_er h2).1
          rw [h2] at e3
          refine ⟨fun e' he => ?_, fun he => (by cases he)⟩
          cases he
          obtain ⟨z, k, z1, z2, z3, z4⟩ := O_c25G (n := n) (x1 := nI v) (i := j) (t1 := fO (sG t 9 (nI (p0 + 3 * j + 1))) e) (v := mI) e3 hz h4 (by omega)
          exact eF _ ⟨z, k, e2.trans z1, z2, z3, z4⟩
        | ok hv =>
          obtain ⟨b1, b2, b3, b4', b5⟩ := tk_lt h2
          rw [h2] at e3
          have e3' : m_Parser_take n 0 255 (sG t 9 (nI (p0 + 3 * j + 1))) = some (nI hv, sG (sG t 9 (nI (p0 + 3 * j + 1))) 9 (nI (p0 + 3 * j + 1 + 1))) := e3
          rw [sG_sG] at e3'
          have hA3 := hA.step (q := p0 + 3 * j + 2) (by omega)
          have e4 : m_Parser_readComponent n t = if nI (hv / 16) < (1 : Int32) then m_Parser_readComponent_66 n (nI v) (nI (hv / 16)) (nI (hv % 16)) (sG t 9 (nI (p0 + 3 * j + 2))) else if (2 : Int32) < nI (hv / 16) then m_Parser_readComponent_66 n (nI v) (nI (hv / 16)) (nI (hv % 16)) (sG t 9 (nI (p0 + 3 * j + 2))) else if nI (hv % 16) < (1 : Int32) then m_Parser_readComponent_66 n (nI v) (nI (hv / 16)) (nI (hv % 16)) (sG t 9 (nI (p0 + 3 * j + 2))) else if nI (hv % 16) ≤ (2 : Int32) then m_Parser_readComponent_70 n (nI v) (nI (hv / 16)) (nI (hv % 16)) (sG t 9 (nI (p0 + 3 * j + 2))) else m_Parser_readComponent_66 n (nI v) (nI (hv / 16)) (nI (hv % 16)) (sG t 9 (nI (p0 + 3 * j + 2))) := by
            rw [e2]
            unfold m_Parser_readComponent_25
            rw [e3', Option.bind_some]
            dsimp only
            rw [← b4 hv (by omega), ← b15 hv (by omega)]
          have e66 : m_Parser_readComponent_66 n (nI v) (nI (hv / 16)) (nI (hv % 16)) (sG t 9 (nI (p0 + 3 * j + 2))) = m_Parser_readComponent_70 n (nI v) (nI (hv / 16)) (nI (hv % 16)) (fO (sG t 9 (nI (p0 + 3 * j + 2))) (6, p0 + 3 * j + 1)) := by
            unfold m_Parser_readComponent_66
            rw [O_ref (p := p0 + 3 * j + 1) (t := sG t 9 (nI (p0 + 3 * j + 2))) hA.2.1 rfl, Option.bind_some]; rfl
          dsimp only
          by_cases c2 : hv / 16 < 1 ∨ 2 < hv / 16 ∨ hv % 16 < 1 ∨ 2 < hv % 16
          · rw [if_pos c2]
            refine ⟨fun e' he => ?_, fun he => (by cases he)⟩
            cases he
            have hz : Fz (fO (sG t 9 (nI (p0 + 3 * j + 2))) (6, p0 + 3 * j + 1)) (6, p0 + 3 * j + 1) := fO_z (Or.inr (Or.inr rfl))
            obtain ⟨z, k, z1, z2, z3, z4⟩ := O_c70F (n := n) (x1 := nI v) (x3 := nI (hv / 16)) (x4 := nI (hv % 16)) (i := j) hz h4 (by omega)
            refine eF _ ⟨z, k, ?_, z2, z3, z4⟩
            rw [e4, e66, z1]
            by_cases d1 : hv / 16 < 1
            · rw [if_pos (show nI (hv / 16) < (1 : Int32) from nI_lt (b := 1) d1 (by omega))]
            · rw [if_neg (show ¬ nI (hv / 16) < (1 : Int32) from nI_nlt (b := 1) (by omega) (by omega))]
              by_cases d2 : 2 < hv / 16
              · rw [if_pos (show (2 : Int32) < nI (hv / 16) from nI_lt (a := 2) d2 (by omega))]
              · rw [if_neg (show ¬ (2 : Int32) < nI (hv / 16) from nI_nlt (a := 2) (b := hv / 16) (by omega) (by omega))]
                by_cases d3 : hv % 16 < 1
                · rw [if_pos (show nI (hv % 16) < (1 : Int32) from nI_lt (b := 1) d3 (by omega))]
                · rw [if_neg (show ¬ nI (hv % 16) < (1 : Int32) from nI_nlt (b := 1) (by omega) (by omega)), if_neg (show ¬ nI (hv % 16) ≤ (2 : Int32) from nI_ge (a := 2) (by omega) (by omega))]
          · rw [if_neg c2]
            rw [if_neg (show ¬ nI (hv / 16) < (1 : Int32) from nI_nlt (b := 1) (by omega) (by omega)), if_neg (show ¬ (2 : Int32) < nI (hv / 16) from nI_nlt (a := 2) (b := hv / 16) (by omega) (by omega)), if_neg (show ¬ nI (hv % 16) < (1 : Int32) from nI_nlt (b := 1) (by omega) (by omega)), if_pos (show nI (hv % 16) ≤ (2 : Int32) from nI_le (b := 2) (by omega) (by omega))] at e4
            have e5 : m_Parser_take n 0 3 (sG t 9 (nI (p0 + 3 * j + 2))) = _ := hA3.take 0 3 (by omega) (by omega)
            cases h3 : tk B sz ce lp (p0 + 3 * j + 2) 0 3 with
            | error e =>
              have hz := fO_z (t := sG t 9 (nI (p0 + 3 * j + 2))) (tk_er h3).1
              rw [h3] at e5
              refine ⟨fun e' he => ?_, fun he => (by cases he)⟩
              cases he
              obtain ⟨z, k, z1, z2, z3, z4⟩ := O_c70G (n := n) (x1 := nI v) (x3 := nI (hv / 16)) (x4 := nI (hv % 16)) (i := j) (t1 := fO (sG t 9 (nI (p0 + 3 * j + 2))) e) (v := mI) e5 hz h4 (by omega)
              exact eF _ ⟨z, k, e4.trans z1, z2, z3, z4⟩
            | ok tb =>
              obtain ⟨d1, d2, d3, d4, d5⟩ := tk_lt h3
              rw [h3] at e5
              have e5' : m_Parser_take n 0 3 (sG t 9 (nI (p0 + 3 * j + 2))) = some (nI tb, sG (sG t 9 (nI (p0 + 3 * j + 2))) 9 (nI (p0 + 3 * j + 2 + 1))) := e5
              rw [sG_sG] at e5'
              have e6 : m_Parser_readComponent n t = some (addC (sG t 9 (nI (p0 + 3 * j + 3))) j (nI v) (nI (hv / 16)) (nI (hv % 16)) (nI tb)) := by
                rw [e4]
                unfold m_Parser_readComponent_70
                rw [e5', Option.bind_some]
                dsimp only
                rw [O_addC (i := j) (t := sG t 9 (nI (p0 + 3 * j + 2 + 1))) h4 (by omega), Option.bind_some]
              have hA4 := (hA.step (q := p0 + 3 * j + 3) (by omega)).addC (i := j) (a := nI v) (b := nI (hv / 16)) (c := nI (hv % 16)) (d := nI tb)
              have hP4 := PC_add (t := sG t 9 (nI (p0 + 3 * j + 3))) hP a1 (show hv / 16 = _ by rw [b1]) (show hv % 16 = _ by rw [b1]) d1 (by omega) (by omega) (by omega)
              dsimp only
              rw [e1, e6, Option.bind_some]
              have := ih f (j + 1) (addC (sG t 9 (nI (p0 + 3 * j + 3))) j (nI v) (nI (hv / 16)) (nI (hv % 16)) (nI tb)) (by omega) (by omega) hA4 rfl hP4
              exact this

def eb {α β : Type} (s : Except Er α) (f : α → Except Er β) : Except Er β := match s with
  | .error e => .error e
  | .ok a => f a
/-- an end, by the spec's answer: its fault, or what P says -/
def Ev {α X : Type} (F : X → Er → Prop) (o : Option X) (s : Except Er α) (P : α → X → Prop) : Prop := ∃ z, o = some z ∧ match s with
  | .error e => F z e
  | .ok a => P a z
theorem Ev.bind {α β X Y : Type} {F : X → Er → Prop} {G : Y → Er → Prop} {o : Option X} {k : X → Option Y} {s : Except Er α} {f : α → Except Er β} {P : α → X → Prop} {Q : β → Y → Prop} (h : Ev F o s P) (hF : ∀ z e, o = some z → F z e → ∃ w, k z = some w ∧ G w e) (hP : ∀ z a, o = some z → s = .ok a → P a z → Ev G (k z) (f a) Q) : Ev G (o.bind k) (eb s f) Q := by
  obtain ⟨z, hz, h⟩ := h
  cases hs : s with
  | error e =>
    rw [hs] at h
    obtain ⟨w, hw, hg⟩ := hF z e hz h
    exact ⟨w, by rw [hz]; exact hw, hg⟩
  | ok a =>
    rw [hs] at h
    rw [hz]
    exact hP z a hz hs h
theorem Ev.er {α X : Type} {F : X → Er → Prop} {o : Option X} {e : Er} {P : α → X → Prop} (h : ∃ z, o = some z ∧ F z e) : Ev F o (.error e) P := h
theorem Ev.ok {α X : Type} {F : X → Er → Prop} {o : Option X} {a : α} {P : α → X → Prop} (h : ∃ z, o = some z ∧ P a z) : Ev F o (.ok a) P := h
theorem Ev.pair {α X : Type} {F : X → Er → Prop} {o : Option X} {s : Except Er α} {P : α → X → Prop} (h : (∀ e, s = .error e → ∃ z, o = some z ∧ F z e) ∧ ∀ a, s = .ok a → ∃ z, o = some z ∧ P a z) : Ev F o s P := by
  cases hs : s with
  | error e => exact h.1 e hs
  | ok a => exact h.2 a hs
theorem Ev.mono {α X : Type} {F : X → Er → Prop} {o : Option X} {s : Except Er α} {P Q : α → X → Prop} (h : Ev F o s P) (hq : ∀ z a, o = some z → s = .ok a → P a z → Q a z) : Ev F o s Q := by
  obtain ⟨z, hz, h⟩ := h
  refine ⟨z, hz, ?_⟩
  cases hs : s with
  | error e => rw [hs] at h; exact h
  | ok a => rw [hs] at h; exact hq z a hz hs h
theorem Ev.to {α X : Type} {F : X → Er → Prop} {o o' : Option X} {s : Except Er α} {P : α → X → Prop} (h : Ev F o s P) (e : o' = o) : Ev F o' s P := e ▸ h
abbrev FP (z : Int32 × St) (e : Er) : Prop := z.1 = mI ∧ Fz z.2 e
theorem At.tkE {n : Nat} {B : Nat → Nat} {sz ce lp p : Nat} {t : St} (h : At B sz ce lp p t) (lo hi : Nat) (hlo : lo < 256) (hhi : hi < 256) : Ev FP (m_Parser_take n (nI lo) (nI hi) t) (tk B sz ce lp p lo hi) (fun v z => z = (nI v, sG t 9 (nI (p + 1))) ∧ v = B p ∧ p < ce ∧ p < sz ∧ lo ≤ v ∧ v ≤ hi) := by
  rw [h.take (n := n) lo hi hlo hhi]
  cases h1 : tk B sz ce lp p lo hi with
  | error e => exact ⟨_, rfl, rfl, fO_z (t := t) (tk_er h1).1⟩
  | ok v => exact ⟨_, rfl, rfl, tk_lt h1⟩
theorem O_ofCT {n cnt : Nat} {x w : Int32} {t : St} (h4 : t.1 4 = nI cnt) (hc : cnt ≤ 4) : ∃ r, m_Picture_ofComponent n x w t = some (r, t) := by
  unfold m_Picture_ofComponent
  by_cases c1 : x < 0
  · rw [if_pos c1]; exact ⟨_, rfl⟩
  · rw [if_neg c1]
    by_cases c2 : t.1 4 ≤ x
    · rw [if_pos c2]; exact ⟨_, rfl⟩
    · rw [if_neg c2]
      by_cases c3 : w < 0
      · rw [if_pos c3]; exact ⟨_, rfl⟩
      · rw [if_neg c3]
        by_cases c4 : w < 4
        · rw [if_pos c4]
          obtain ⟨j, hj, rfl⟩ := nI_of c1
          obtain ⟨i, hi, rfl⟩ := nI_of c3
          have hj2 : j < cnt := by
            by_cases q : j < cnt
            · exact q
            · exact absurd (show t.1 4 ≤ nI j by rw [h4]; exact nI_le (by omega) (by omega)) c2
          have hi2 : i < 4 := (nI_ltI (a := i) (b := 4) hi (by omega)).mp c4
          have q : nI j * (4 : Int32) + nI i = nI (j * 4 + i) := by rw [show (4 : Int32) = nI 4 from rfl, pk_mul, nI_add]
          rw [q, if_neg (nI_in (N := 16) (by omega) (by omega))]
          exact ⟨_, rfl⟩
        · rw [if_neg c4]; exact ⟨_, rfl⟩
def lI (la : Nat) : Int32 := if la = 0 then mI else nI (la - 1)
theorem lI_lt {la c : Nat} (h1 : la < 100) (h2 : c < 100) : lI la < nI c ↔ ¬ c < la := by
  unfold lI
  by_cases q : la = 0
  · rw [if_pos q, mI_lt (by omega)]
    exact ⟨fun _ => (by omega), fun _ => trivial⟩
  · rw [if_neg q, nI_ltI (by omega) (by omega)]
    omega
theorem lI_m {la : Nat} (h1 : la < 100) : ¬ lI la < mI := by
  unfold lI
  by_cases q : la = 0
  · rw [if_pos q]; decide
  · rw [if_neg q, lt_mI (by omega)]; exact fun h => h
/-- one component of a scan: its place in the frame -/
def sk1 (B : Nat → Nat) (sz ce lp cnt : Nat) (nm hp : Nat → Nat) (p la sum : Nat) : Except Er Nat := eb (tk B sz ce lp p 0 255) (fun v => match fn nm v cnt 0 with
  | none => .error (7, p)
  | some c => if c < la then .error (7, p) else if 10 < sum + hp c then .error (6, p) else eb (tk B sz ce lp (p + 1) 0 51) (fun tb => if 3 < tb % 16 then .error (6, p + 1) else .ok c))
def sk (B : Nat → Nat) (sz ce lp cnt : Nat) (nm hp : Nat → Nat) : Nat → Nat → Nat → Nat → Nat → (Nat → Nat) → Except Er (Nat → Nat)
  | 0, _, _, _, _, cf => .ok cf
  | m + 1, p, k, la, sum, cf => eb (sk1 B sz ce lp cnt nm hp p la sum) (fun c => sk B sz ce lp cnt nm hp m (p + 2) (k + 1) (c + 1) (sum + hp c) (va_up cf k c))
theorem sk1_ok {B : Nat → Nat} {sz ce lp cnt : Nat} {nm hp : Nat → Nat} {p la sum c : Nat} (h : sk1 B sz ce lp cnt nm hp p la sum = .ok c) : p + 2 ≤ sz ∧ p + 2 ≤ ce ∧ c < cnt ∧ la ≤ c ∧ sum + hp c ≤ 10 ∧ fn nm (B p) cnt 0 = some c ∧ B (p + 1) / 16 < 4 ∧ B (p + 1) % 16 < 4 := by
  unfold sk1 eb at h
  cases h1 : tk B sz ce lp p 0 255 with
  | error e => rw [h1] at h; cases h
  | ok v =>
    rw [h1] at h
    dsimp only at h
    obtain ⟨a1, a2, a3, a4, a5⟩ := tk_lt h1
    cases h2 : fn nm v cnt 0 with
    | none => rw [h2] at h; cases h
    | some c' =>
      rw [h2] at h
      dsimp only at h
      by_cases c1 : c' < la
      · rw [if_pos c1] at h; cases h
      · rw [if_neg c1] at h
        by_cases c2 : 10 < sum + hp c'
        · rw [if_pos c2] at h; cases h
        · rw [if_neg c2] at h
          cases h3 : tk B sz ce lp (p + 1) 0 51 with
          | error e => rw [h3] at h; cases h
          | ok tb =>
            rw [h3] at h
            dsimp only at h
            obtain ⟨b1, b2, b3, b4, b5⟩ := tk_lt h3
            by_cases c3 : 3 < tb % 16
            · rw [if_pos c3] at h; cases h
            · rw [if_neg c3] at h
              cases h
              have := fn_lt h2
              rw [← a1, ← b1]
              exact ⟨by omega, by omega, by omega, by omega, by omega, h2, by omega, by omega⟩
theorem O_s92F {n k : Nat} {K : Int32 → Int32 → Int32 → St → Option St} {x2 x4 : Int32} {t : St} {e : Er} (hk : k < 4) (h : Fz t e) : ∃ w, m_Parser_takeScanComponents_92 n K x2 (nI k) x4 t = K x4 x2 (nI (k + 1)) w ∧ Fz w e ∧ w.1 = t.1 := by
  refine ⟨sH t 6 k x4, ?_, h, rfl⟩
  unfold m_Parser_takeScanComponents_92
  rw [if_neg (nI_in (N := 4) hk (by omega)), nI_clamp (by omega), O_takeF (t := sH t 6 k x4) h.ne, Option.bind_some]
  dsimp only
  rw [O_refF (t := sH t 6 k x4) h.ne, Option.bind_some, ← nI_1]
  exact ite_self _
theorem O_s58F {n k cnt : Nat} {K : Int32 → Int32 → Int32 → St → Option St} {x2 x4 : Int32} {t : St} {e : Er} (hk : k < 4) (h : Fz t e) (h4 : t.1 4 = nI cnt) (hc : cnt ≤ 4) : ∃ y w, m_Parser_takeScanComponents_58 n K x2 (nI k) x4 t = K x4 y (nI (k + 1)) w ∧ Fz w e ∧ w.1 = t.1 := by
  obtain ⟨r1, e1⟩ := O_ofCT (n := n) (x := x4) (w := 1) h4 hc
  obtain ⟨r2, e2⟩ := O_ofCT (n := n) (x := x4) (w := 2) h4 hc
  unfold m_Parser_takeScanComponents_58
  rw [e1, Option.bind_some]
  dsimp only
  rw [e2, Option.bind_some]
  dsimp only
  rw [O_refF h.ne, Option.bind_some]
  obtain ⟨w, hw, hw2⟩ := O_s92F (n := n) (K := K) (x2 := x2 + r1 * r2) (x4 := x4) hk h
  exact ⟨_, w, by rw [hw]; exact ite_self _, hw2⟩
theorem O_s6G {n k cnt f : Nat} {x1 x2 r : Int32} {t : St} {e : Er} (hk : k < 4) (h : Fz t e) (h4 : t.1 4 = nI cnt) (hc : cnt ≤ 4) (ih : ∀ (x1 x2 : Int32) (t : St), Fz t e → t.1 4 = nI cnt → ∃ z, m_Parser_takeScanComponents_6 n f x1 x2 (nI (k + 1)) t = some z ∧ Fz z e) : ∃ z, (if x1 < r then m_Parser_takeScanComponents_58 n (m_Parser_takeScanComponents_6 n f) x2 (nI k) r t else (m_Parser_fail n 7 (t.1 9 - 1) t).bind (fun z54 => m_Parser_takeScanComponents_58 n (m_Parser_takeScanComponents_6 n f) x2 (nI k) r z54.2)) = some z ∧ Fz z e := by
  rw [O_failF h.ne, Option.bind_some]
  obtain ⟨y, w, hw, hw2, hw3⟩ := O_s58F (n := n) (K := m_Parser_takeScanComponents_6 n f) (x2 := x2) (x4 := r) hk h h4 hc
  obtain ⟨z, hz, hz2⟩ := ih r y w hw2 (by rw [hw3]; exact h4)
  exact ⟨z, by dsimp only; rw [hw, hz]; exact ite_self _, hz2⟩
theorem O_s6F {n cnt : Nat} {e : Er} (hn : 20000 ≤ n) (hc : cnt ≤ 4) : ∀ (m f k : Nat) (x1 x2 : Int32) (t : St), k + m = 4 → m < f → Fz t e → t.1 4 = nI cnt → ∃ z, m_Parser_takeScanComponents_6 n f x1 x2 (nI k) t = some z ∧ Fz z e := by
  intro m
  induction m with
  | zero =>
    intro f k x1 x2 t hk hf h h4
    obtain ⟨f, rfl⟩ : ∃ g, f = g + 1 := ⟨f - 1, by omega⟩
    refine ⟨t, ?_, h⟩
    show m_Parser_takeScanComponents_6b n _ x1 x2 (nI k) t = _
    unfold m_Parser_takeScanComponents_6b
    rw [if_pos (show (4 : Int32) ≤ nI k from nI_le (a := 4) (by omega) (by omega))]
    exact ite_self _
  | succ m ih =>
    intro f k x1 x2 t hk hf h h4
    obtain ⟨f, rfl⟩ : ∃ g, f = g + 1 := ⟨f - 1, by omega⟩
    show ∃ z, m_Parser_takeScanComponents_6b n _ x1 x2 (nI k) t = some z ∧ _
    unfold m_Parser_takeScanComponents_6b
    by_cases c1 : t.1 16 ≤ nI k
    · rw [if_pos c1]; exact ⟨t, rfl, h⟩
    · rw [if_neg c1, if_neg (show ¬ (4 : Int32) ≤ nI k from nI_ge (b := 4) (by omega) (by omega)), O_takeF h.ne, Option.bind_some]
      dsimp only
      obtain ⟨r, hr⟩ := O_ponT (n := n) (x1 := mI) hn h4 hc
      rw [hr, Option.bind_some]
      exact O_s6G (by omega) h h4 hc (fun x1 x2 t h h4 => ih f (k + 1) x1 x2 t (by omega) (by omega) h h4)
/-- places of a scan's components -/
def PS (f : Nat → Int32) (cf : Nat → Nat) (cnt k : Nat) : Prop := ∀ j, j < k → f j = nI (cf j) ∧ cf j < cnt
theorem PS_up {f : Nat → Int32} {cf : Nat → Nat} {cnt k c : Nat} (h : PS f cf cnt k) (hc : c < cnt) : PS (upd f k (nI c)) (va_up cf k c) cnt (k + 1) := by
  intro j hj
  show (if j = k then nI c else f j) = nI (if j = k then c else cf j) ∧ (if j = k then c else cf j) < cnt
  by_cases q : j = k
  · rw [if_pos q, if_pos q]; exact ⟨rfl, hc⟩
  · rw [if_neg q, if_neg q]; exact h j (by omega)
/-- what is known of a frame's components -/
def FrO (B : Nat → Nat) (p0 cnt : Nat) (t : St) : Prop := t.1 4 = nI cnt ∧ cnt ≤ 4 ∧ PC B p0 (t.2.1 3) cnt
abbrev nmB (B : Nat → Nat) (p0 : Nat) (j : Nat) : Nat := B (p0 + 3 * j)
abbrev hpB (B : Nat → Nat) (p0 : Nat) (j : Nat) : Nat := B (p0 + 3 * j + 1) / 16 * (B (p0 + 3 * j + 1) % 16)
theorem O_sk1 {n f k cnt p0 la sum : Nat} {B : Nat → Nat} {sz ce lp p : Nat} {t : St} (hn : 20000 ≤ n) (hk : k < 4) (hf : 5 < f) (h16 : ¬ t.1 16 ≤ nI k) (hF : FrO B p0 cnt t) (hla : la < 100) (hs : sum < 1000) (hp : p < 900000) (hA : At B sz ce lp p t) : (∀ e, sk1 B sz ce lp cnt (nmB B p0) (hpB B p0) p la sum = .error e → ∃ z, m_Parser_takeScanComponents_6 n (f + 1) (lI la) (nI sum) (nI k) t = some z ∧ Fz z e) ∧ ∀ c, sk1 B sz ce lp cnt (nmB B p0) (hpB B p0) p la sum = .ok c → m_Parser_takeScanComponents_6 n (f + 1) (lI la) (nI sum) (nI k) t = m_Parser_takeScanComponents_6 n f (lI (c + 1)) (nI (sum + hpB B p0 c)) (nI (k + 1)) (sH (sG t 9 (nI (p + 2))) 6 k (nI c)) := by
  obtain ⟨h4, hc, hPC⟩ := hF
  have ihF : ∀ e, ∀ (x1 x2 : Int32) (t : St), Fz t e → t.1 4 = nI cnt → ∃ z, m_Parser_takeScanComponents_6 n f x1 x2 (nI (k + 1)) t = some z ∧ Fz z e := fun e x1 x2 t h h4 => O_s6F hn hc (3 - k) f (k + 1) x1 x2 t (by omega) (by omega) h h4
  have e0 : m_Parser_takeScanComponents_6 n (f + 1) (lI la) (nI sum) (nI k) t = (m_Parser_take n 0 255 t).bind (fun z31 => (m_Picture_placeOfName n z31.1 z31.2).bind (fun z34 => if lI la < z34.1 then m_Parser_takeScanComponents_58 n (m_Parser_takeScanComponents_6 n f) (nI sum) (nI k) z34.1 z34.2 else (m_Parser_fail n 7 (z34.2.1 9 - 1) z34.2).bind (fun z54 => m_Parser_takeScanComponents_58 n (m_Parser_takeScanComponents_6 n f) (nI sum) (nI k) z34.1 z54.2))) := by
    show m_Parser_takeScanComponents_6b n _ (lI la) (nI sum) (nI k) t = _
    unfold m_Parser_takeScanComponents_6b
    rw [if_neg h16, if_neg (show ¬ (4 : Int32) ≤ nI k from nI_ge (b := 4) (by omega) (by omega))]
  have e1 : m_Parser_take n 0 255 t = _ := hA.take 0 255 (by omega) (by omega)
  rw [e0, e1]
  unfold sk1 eb
  cases h1 : tk B sz ce lp p 0 255 with
  | error e =>
    have hz := fO_z (t := t) (tk_er h1).1
    refine ⟨fun e' he => ?_, fun c he => (by cases he)⟩
    cases he
    rw [Option.bind_some]
    obtain ⟨r, hr⟩ := O_ponT (n := n) (x1 := mI) (t := fO t e) hn h4 hc
    show ∃ z, (m_Picture_placeOfName n mI (fO t e)).bind _ = some z ∧ _
    rw [hr, Option.bind_some]
    exact O_s6G hk hz h4 hc (ihF e)
  | ok v =>
    obtain ⟨a1, a2, a3, a4, a5⟩ := tk_lt h1
    have hA2 := hA.step (q := p + 1) (by omega)
    have hpn := O_pon (n := n) (v := v) (nm := nmB B p0) (t := sG t 9 (nI (p + 1))) hn h4 hc (by omega) hPC.CN
    rw [Option.bind_some]
    show (∀ e, _ = _ → ∃ z, (m_Picture_placeOfName n (nI v) (sG t 9 (nI (p + 1)))).bind _ = some z ∧ _) ∧ ∀ c, _ = _ → (m_Picture_placeOfName n (nI v) (sG t 9 (nI (p + 1)))).bind _ = _
    rw [hpn, Option.bind_some]
    dsimp only
    have hz7 : Fz (fO (sG t 9 (nI (p + 1))) (7, p)) (7, p) := ⟨rfl, rfl, by omega, by omega⟩
    have e7 : m_Parser_fail n 7 ((sG t 9 (nI (p + 1))).1 9 - 1) (sG t 9 (nI (p + 1))) = some (mI, fO (sG t 9 (nI (p + 1))) (7, p)) := by
      rw [O_fail (t := sG t 9 (nI (p + 1))) hA.2.1, sG_at, nI_pred]; rfl
    cases h2 : fn (nmB B p0) v cnt 0 with
    | none =>
      refine ⟨fun e' he => ?_, fun c he => (by cases he)⟩
      cases he
      rw [if_neg (show ¬ lI la < oI none from lI_m hla), e7, Option.bind_some]
      obtain ⟨y, w, hw, hw2, hw3⟩ := O_s58F (n := n) (K := m_Parser_takeScanComponents_6 n f) (x2 := nI sum) (x4 := oI none) hk hz7 h4 hc
      obtain ⟨z, hz, hz2⟩ := ihF (7, p) (oI none) y w hw2 (by rw [hw3]; exact h4)
      exact ⟨z, hw.trans hz, hz2⟩
    | some c =>
      obtain ⟨-, b2, b3⟩ := fn_lt h2
      dsimp only
      by_cases c1 : c < la
      · rw [if_pos c1]
        refine ⟨fun e' he => ?_, fun c he => (by cases he)⟩
        cases he
        rw [if_neg (show ¬ lI la < oI (some c) from fun q => (lI_lt (by omega) (by omega)).mp q c1), e7, Option.bind_some]
        obtain ⟨y, w, hw, hw2, hw3⟩ := O_s58F (n := n) (K := m_Parser_takeScanComponents_6 n f) (x2 := nI sum) (x4 := oI (some c)) hk hz7 h4 hc
        obtain ⟨z, hz, hz2⟩ := ihF (7, p) (oI (some c)) y w hw2 (by rw [hw3]; exact h4)
        exact ⟨z, hw.trans hz, hz2⟩
      · rw [if_neg c1, if_pos (show lI la < oI (some c) from (lI_lt (by omega) (by omega)).mpr c1)]
        obtain ⟨g1, g2, g3, g4, g5, g6, g7⟩ := hPC c (by omega)
        have o1 : m_Picture_ofComponent n (nI c) 1 (sG t 9 (nI (p + 1))) = some (nI (B (p0 + 3 * c + 1) / 16), sG t 9 (nI (p + 1))) := by
          have := O_ofC (n := n) (c := c) (w := 1) (t := sG t 9 (nI (p + 1))) h4 hc (by omega) (by omega)
          rw [show (sG t 9 (nI (p + 1))).2.1 3 (c * 4 + 1) = _ from g2] at this
          exact this
        have o2 : m_Picture_ofComponent n (nI c) 2 (sG t 9 (nI (p + 1))) = some (nI (B (p0 + 3 * c + 1) % 16), sG t 9 (nI (p + 1))) := by
          have := O_ofC (n := n) (c := c) (w := 2) (t := sG t 9 (nI (p + 1))) h4 hc (by omega) (by omega)
          rw [show (sG t 9 (nI (p + 1))).2.1 3 (c * 4 + 2) = _ from g3] at this
          exact this
        have hb : hpB B p0 c ≤ 16 * 16 := Nat.mul_le_mul (by omega) (by omega)
        have e58 : m_Parser_takeScanComponents_58 n (m_Parser_takeScanComponents_6 n f) (nI sum) (nI k) (nI c) (sG t 9 (nI (p + 1))) = if nI (sum + hpB B p0 c) ≤ 10 then m_Parser_takeScanComponents_92 n (m_Parser_takeScanComponents_6 n f) (nI (sum + hpB B p0 c)) (nI k) (nI c) (sG t 9 (nI (p + 1))) else (m_Parser_refuseTaken n (sG t 9 (nI (p + 1)))).bind (fun z89 => m_Parser_takeScanComponents_92 n (m_Parser_takeScanComponents_6 n f) (nI (sum + hpB B p0 c)) (nI k) (nI c) z89) := by
          unfold m_Parser_takeScanComponents_58
          rw [o1, Option.bind_some]
          dsimp only
          rw [o2, Option.bind_some]
          dsimp only
          rw [pk_mul, nI_add]
        show (∀ e, _ = _ → ∃ z, m_Parser_takeScanComponents_58 n (m_Parser_takeScanComponents_6 n f) (nI sum) (nI k) (nI c) (sG t 9 (nI (p + 1))) = some z ∧ _) ∧ ∀ c', _ = _ → m_Parser_takeScanComponents_58 n (m_Parser_takeScanComponents_6 n f) (nI sum) (nI k) (nI c) (sG t 9 (nI (p + 1))) = _
        rw [e58]
        have hz6 : Fz (fO (sG t 9 (nI (p + 1))) (6, p)) (6, p) := ⟨rfl, rfl, by omega, by omega⟩
        by_cases c2 : 10 < sum + hpB B p0 c
        · rw [if_pos c2]
          refine ⟨fun e' he => ?_, fun c he => (by cases he)⟩
          cases he
          rw [if_neg (show ¬ nI (sum + hpB B p0 c) ≤ (10 : Int32) from nI_ge (a := 10) c2 (by omega)), O_ref (p := p) (t := sG t 9 (nI (p + 1))) hA.2.1 rfl, Option.bind_some]
          obtain ⟨w, hw, hw2, hw3⟩ := O_s92F (n := n) (K := m_Parser_takeScanComponents_6 n f) (x2 := nI (sum + hpB B p0 c)) (x4 := nI c) hk hz6
          obtain ⟨z, hz, hz2⟩ := ihF (6, p) (nI c) (nI (sum + hpB B p0 c)) w hw2 (by rw [hw3]; exact h4)
          exact ⟨z, hw.trans hz, hz2⟩
        · rw [if_neg c2, if_pos (show nI (sum + hpB B p0 c) ≤ (10 : Int32) from nI_le (b := 10) (by omega) (by omega))]
          have hA3 : At B sz ce lp (p + 1) (sH (sG t 9 (nI (p + 1))) 6 k (nI c)) := hA2
          have e3 : m_Parser_take n 0 51 (sH (sG t 9 (nI (p + 1))) 6 k (nI c)) = _ := hA3.take 0 51 (by omega) (by omega)
          have e92 : m_Parser_takeScanComponents_92 n (m_Parser_takeScanComponents_6 n f) (nI (sum + hpB B p0 c)) (nI k) (nI c) (sG t 9 (nI (p + 1))) = (m_Parser_take n 0 51 (sH (sG t 9 (nI (p + 1))) 6 k (nI c))).bind (fun z110 => if (z110.1 &&& (15 : Int32)) ≤ 3 then m_Parser_takeScanComponents_6 n f (nI c) (nI (sum + hpB B p0 c)) (nI (k + 1)) z110.2 else (m_Parser_refuseTaken n z110.2).bind (fun z125 => m_Parser_takeScanComponents_6 n f (nI c) (nI (sum + hpB B p0 c)) (nI (k + 1)) z125)) := by
            unfold m_Parser_takeScanComponents_92 m_Parser_takeScanComponents_128
            rw [if_neg (nI_in (N := 4) hk (by omega)), nI_clamp (by omega), nI_1]
          rw [e92, e3, Option.bind_some]
          cases h3 : tk B sz ce lp (p + 1) 0 51 with
          | error e =>
            have hz := fO_z (t := sH (sG t 9 (nI (p + 1))) 6 k (nI c)) (tk_er h3).1
            refine ⟨fun e' he => ?_, fun c he => (by cases he)⟩
            cases he
            obtain ⟨z, hz1, hz2⟩ := ihF e (nI c) (nI (sum + hpB B p0 c)) _ hz h4
            refine ⟨z, ?_, hz2⟩
            show (if mI &&& (15 : Int32) ≤ 3 then _ else (m_Parser_refuseTaken n (fO (sH (sG t 9 (nI (p + 1))) 6 k (nI c)) e)).bind _) = _
            rw [if_neg (by decide), O_refF hz.ne, Option.bind_some, hz1]
          | ok tb =>
            obtain ⟨d1, d2, d3, d4, d5⟩ := tk_lt h3
            have es : sG (sH (sG t 9 (nI (p + 1))) 6 k (nI c)) 9 (nI (p + 1 + 1)) = sH (sG t 9 (nI (p + 2))) 6 k (nI c) := by
              show sH (sG (sG t 9 (nI (p + 1))) 9 (nI (p + 1 + 1))) 6 k (nI c) = _
              rw [sG_sG]
            show (∀ e, _ = _ → ∃ z, (if nI tb &&& (15 : Int32) ≤ 3 then m_Parser_takeScanComponents_6 n f (nI c) (nI (sum + hpB B p0 c)) (nI (k + 1)) (sG (sH (sG t 9 (nI (p + 1))) 6 k (nI c)) 9 (nI (p + 1 + 1))) else (m_Parser_refuseTaken n (sG (sH (sG t 9 (nI (p + 1))) 6 k (nI c)) 9 (nI (p + 1 + 1)))).bind _) = some z ∧ _) ∧ ∀ c', _ = _ → (if nI tb &&& (15 : Int32) ≤ 3 then m_Parser_takeScanComponents_6 n f (nI c) (nI (sum + hpB B p0 c)) (nI (k + 1)) (sG (sH (sG t 9 (nI (p + 1))) 6 k (nI c)) 9 (nI (p + 1 + 1))) else (m_Parser_refuseTaken n (sG (sH (sG t 9 (nI (p + 1))) 6 k (nI c)) 9 (nI (p + 1 + 1)))).bind _) = _
            rw [es, b15 tb (by omega)]
            dsimp only
            by_cases c3 : 3 < tb % 16
            · rw [if_pos c3]
              refine ⟨fun e' he => ?_, fun c he => (by cases he)⟩
              cases he
              have hz : Fz (fO (sH (sG t 9 (nI (p + 2))) 6 k (nI c)) (6, p + 1)) (6, p + 1) := ⟨rfl, rfl, by omega, by omega⟩
              obtain ⟨z, hz1, hz2⟩ := ihF (6, p + 1) (nI c) (nI (sum + hpB B p0 c)) _ hz h4
              refine ⟨z, ?_, hz2⟩
              rw [if_neg (show ¬ nI (tb % 16) ≤ (3 : Int32) from nI_ge (a := 3) c3 (by omega)), O_ref (p := p + 1) (t := sH (sG t 9 (nI (p + 2))) 6 k (nI c)) hA.2.1 rfl, Option.bind_some]
              exact hz1
            · rw [if_neg c3]
              refine ⟨fun e' he => (by cases he), fun c' he => ?_⟩
              cases he
              rw [if_pos (show nI (tb % 16) ≤ (3 : Int32) from nI_le (b := 3) (by omega) (by omega))]; rfl
theorem O_sk {n cnt p0 c : Nat} {B : Nat → Nat} {sz ce lp : Nat} (hn : 20000 ≤ n) (hc : c ≤ 4) : ∀ (m f k p la sum : Nat) (cf : Nat → Nat) (t : St), k + m = c → m + 6 < f → p + 2 * m < 900000 → la < 50 → sum ≤ 10 → t.1 16 = nI c → FrO B p0 cnt t → PS (t.2.1 6) cf cnt k → At B sz ce lp p t → Ev Fz (m_Parser_takeScanComponents_6 n f (lI la) (nI sum) (nI k) t) (sk B sz ce lp cnt (nmB B p0) (hpB B p0) m p k la sum cf) (fun cf' z => At B sz ce lp (p + 2 * m) z ∧ PS (z.2.1 6) cf' cnt c ∧ (0 < m → p + 2 * m ≤ sz ∧ p + 2 * m ≤ ce)) := by
  intro m
  induction m with
  | zero =>
    intro f k p la sum cf t hk hf hp hla hs h16 hF hP hA
    obtain ⟨f, rfl⟩ : ∃ g, f = g + 1 := ⟨f - 1, by omega⟩
    obtain rfl : k = c := hk
    refine Ev.ok ⟨t, ?_, hA, hP, fun q => (by omega)⟩
    show m_Parser_takeScanComponents_6b n _ (lI la) (nI sum) (nI k) t = _
    unfold m_Parser_takeScanComponents_6b
    rw [if_pos (by rw [h16]; exact Int32.le_refl _)]
  | succ m ih =>
    intro f k p la sum cf t hk hf hp hla hs h16 hF hP hA
    obtain ⟨f, rfl⟩ : ∃ g, f = g + 1 := ⟨f - 1, by omega⟩
    have h1 := O_sk1 (n := n) (f := f) (k := k) (la := la) (sum := sum) hn (by omega) (by omega) (by rw [h16]; exact nI_ge (by omega) (by omega)) hF (by omega) (by omega) (by omega) hA
    show Ev Fz _ (eb (sk1 B sz ce lp cnt (nmB B p0) (hpB B p0) p la sum) _) _
    cases h2 : sk1 B sz ce lp cnt (nmB B p0) (hpB B p0) p la sum with
    | error e => exact Ev.er (h1.1 e h2)
    | ok c1 =>
      obtain ⟨g1, g2, g3, g4, g5, g6, -⟩ := sk1_ok h2
      have h3 := h1.2 c1 h2
      have hc4 := hF.2.1
      have := ih f (k + 1) (p + 2) (c1 + 1) (sum + hpB B p0 c1) (va_up cf k c1) (sH (sG t 9 (nI (p + 2))) 6 k (nI c1)) (by omega) (by omega) (by omega) (by omega) (by omega) h16 hF (PS_up hP g3) (hA.step (q := p + 2) (by omega))
      refine (this.mono ?_).to h3
      rintro z a - - ⟨q1, q2, q3⟩
      refine ⟨by rw [show p + 2 * (m + 1) = p + 2 + 2 * m by omega]; exact q1, q2, fun _ => ?_⟩
      by_cases q : 0 < m
      · have := q3 q; omega
      · omega

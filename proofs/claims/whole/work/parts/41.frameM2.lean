theorem tp_er {B : Nat → Nat} {sz ce lp p : Nat} (lo hi : Nat) {e : Er} (h : tp B sz ce lp p 0 65535 = .error e) : tp B sz ce lp p lo hi = .error e := by
  unfold tp at h ⊢
  cases h1 : tk B sz ce lp p 0 255 with
  | error e' => rw [h1] at h; exact h
  | ok a =>
    obtain ⟨a1, a2, a3, a4, a5⟩ := tk_lt h1
    rw [h1] at h
    dsimp only at h ⊢
    cases h2 : tk B sz ce lp (p + 1) 0 255 with
    | error e' => rw [h2] at h; exact h
    | ok b =>
      obtain ⟨b1, b2, b3, b4, b5⟩ := tk_lt h2
      rw [h2] at h
      dsimp only at h
      rw [if_neg (by omega)] at h; cases h
theorem tp_ok {B : Nat → Nat} {sz ce lp p v : Nat} {lo hi : Nat} (h : tp B sz ce lp p lo hi = .ok v) : p + 2 ≤ sz ∧ p + 2 ≤ ce ∧ v < 65536 ∧ v = 256 * B p + B (p + 1) ∧ lo ≤ v ∧ v ≤ hi := by
  unfold tp at h
  cases h1 : tk B sz ce lp p 0 255 with
  | error e' => rw [h1] at h; cases h
  | ok a =>
    obtain ⟨a1, a2, a3, a4, a5⟩ := tk_lt h1
    rw [h1] at h
    dsimp only at h
    cases h2 : tk B sz ce lp (p + 1) 0 255 with
    | error e' => rw [h2] at h; cases h
    | ok b =>
      obtain ⟨b1, b2, b3, b4, b5⟩ := tk_lt h2
      rw [h2] at h
      dsimp only at h
      by_cases c : 256 * a + b < lo ∨ hi < 256 * a + b
      · rw [if_pos c] at h; cases h
      · rw [if_neg c] at h; cases h
        exact ⟨by omega, by omega, by omega, by rw [a1, b1], by omega, by omega⟩
theorem tp_rg {B : Nat → Nat} {sz ce lp p v : Nat} (lo hi : Nat) (h : tp B sz ce lp p 0 65535 = .ok v) : tp B sz ce lp p lo hi = if v < lo ∨ hi < v then .error (6, p + 1) else .ok v := by
  unfold tp at h ⊢
  cases h1 : tk B sz ce lp p 0 255 with
  | error e' => rw [h1] at h; cases h
  | ok a =>
    obtain ⟨a1, a2, a3, a4, a5⟩ := tk_lt h1
    rw [h1] at h
    dsimp only at h ⊢
    cases h2 : tk B sz ce lp (p + 1) 0 255 with
    | error e' => rw [h2] at h; cases h
    | ok b =>
      obtain ⟨b1, b2, b3, b4, b5⟩ := tk_lt h2
      rw [h2] at h
      dsimp only at h ⊢
      rw [if_neg (by omega)] at h; cases h; rfl
def twE (n : Nat) (K : Int32 → Int32 → Int32 → St → Option St) (x1 x2 x3 x4 : Int32) (u : St) : Option St := if 0 < u.1 2 then m_Model_readFrame_211 n K x1 x2 x3 u else if x4 = 0 then m_Model_readFrame_211 n K x1 x2 x3 u else m_Model_readFrame_216 n K x1 x2 x3 0 u
/-- is a name there twice -/
theorem R_tw {n j v : Nat} {nm : Nat → Nat} {K : Int32 → Int32 → Int32 → St → Option St} {x1 x2 : Int32} {u : St} (hj : j < 4) (hN : ∀ i, i < j → u.2.1 2 i = nI (nm i) ∧ nm i < 256) (hv : u.2.1 2 j = nI v) (hv2 : v < 256) : ∀ (m f k : Nat) (x4 : Int32), k + m = j → m < f → m_Model_readFrame_158 n K f x1 x2 (nI j) x4 (nI k) u = twE n K x1 x2 (nI j) (if x4 = 0 then (if (fn nm v m k).isSome = true then 1 else 0) else if m = 0 then x4 else 1) u := by
  intro m
  induction m with
  | zero =>
    intro f k x4 hk hf
    obtain ⟨f, rfl⟩ : ∃ g, f = g + 1 := ⟨f - 1, by omega⟩
    obtain rfl : k = j := hk
    have e : (if x4 = 0 then (if (fn nm v 0 k).isSome = true then (1 : Int32) else 0) else if 0 = 0 then x4 else 1) = x4 := by
      by_cases c : x4 = 0
      · rw [if_pos c, c]; rfl
      · rw [if_neg c, if_pos rfl]
    rw [e]
    show m_Model_readFrame_158b n K _ x1 x2 (nI k) x4 (nI k) u = _
    unfold m_Model_readFrame_158b twE
    rw [if_pos (show nI k ≤ nI k from Int32.le_refl _)]
  | succ m ih =>
    intro f k x4 hk hf
    obtain ⟨f, rfl⟩ : ∃ g, f = g + 1 := ⟨f - 1, by omega⟩
    have hq := hN k (by omega)
    have e1 : m_Model_readFrame_158 n K (f + 1) x1 x2 (nI j) x4 (nI k) u = m_Model_readFrame_158 n K f x1 x2 (nI j) (if x4 = 0 then (if nm k = v then 1 else 0) else 1) (nI (k + 1)) u := by
      show m_Model_readFrame_158b n K _ x1 x2 (nI j) x4 (nI k) u = _
      unfold m_Model_readFrame_158b m_Model_readFrame_185 m_Model_readFrame_190
      rw [if_neg (nI_ge (by omega) (by omega)), nI_1]
      by_cases c : x4 = 0
      · rw [if_pos c, if_pos c, if_neg (nI_in (N := 4) (by omega) (by omega)), if_neg (nI_in (N := 4) (by omega) (by omega)), nI_clamp (by omega), nI_clamp (by omega)]
        by_cases d : nm k = v
        · rw [if_pos d, if_pos (by rw [hq.1, hv, d])]
        · rw [if_neg d, if_neg (by rw [hq.1, hv]; exact fun q => d ((nI_eq (by omega) (by omega)).mp q))]
      · rw [if_neg c, if_neg c]
    rw [e1, ih f (k + 1) _ (by omega) (by omega)]
    congr 1
    rw [show fn nm v (m + 1) k = if nm k = v then some k else fn nm v m (k + 1) from rfl]
    by_cases c : x4 = 0
    · rw [if_pos c, if_pos c]
      by_cases d : nm k = v
      · rw [if_pos d, if_pos d, if_neg (by decide)]
        by_cases hm : m = 0
        · rw [if_pos hm]; rfl
        · rw [if_neg hm]; rfl
      · rw [if_neg d, if_neg d, if_pos rfl]
    · rw [if_neg c, if_neg c, if_neg (by decide), if_neg (show ¬ m + 1 = 0 by omega)]
      by_cases hm : m = 0
      · rw [if_pos hm]
      · rw [if_neg hm]
theorem R_twT {n j : Nat} {K : Int32 → Int32 → Int32 → St → Option St} {x1 x2 : Int32} {u : St} (hj : j < 4) : ∀ (m f k : Nat) (x4 : Int32), k + m = j → m < f → ∃ y, m_Model_readFrame_158 n K f x1 x2 (nI j) x4 (nI k) u = twE n K x1 x2 (nI j) y u := by
  intro m
  induction m with
  | zero =>
    intro f k x4 hk hf
    obtain ⟨f, rfl⟩ : ∃ g, f = g + 1 := ⟨f - 1, by omega⟩
    obtain rfl : k = j := hk
    refine ⟨x4, ?_⟩
    show m_Model_readFrame_158b n K _ x1 x2 (nI k) x4 (nI k) u = _
    unfold m_Model_readFrame_158b twE
    rw [if_pos (show nI k ≤ nI k from Int32.le_refl _)]
  | succ m ih =>
    intro f k x4 hk hf
    obtain ⟨f, rfl⟩ : ∃ g, f = g + 1 := ⟨f - 1, by omega⟩
    have e1 : ∃ y, m_Model_readFrame_158 n K (f + 1) x1 x2 (nI j) x4 (nI k) u = m_Model_readFrame_158 n K f x1 x2 (nI j) y (nI (k + 1)) u := by
      show ∃ y, m_Model_readFrame_158b n K _ x1 x2 (nI j) x4 (nI k) u = _
      unfold m_Model_readFrame_158b m_Model_readFrame_185 m_Model_readFrame_190
      rw [if_neg (nI_ge (by omega) (by omega)), nI_1]
      by_cases c : x4 = 0
      · rw [if_pos c, if_neg (nI_in (N := 4) (by omega) (by omega)), if_neg (nI_in (N := 4) (by omega) (by omega))]
        by_cases d : u.2.1 2 (nI k).toNatClampNeg = u.2.1 2 (nI j).toNatClampNeg
        · rw [if_pos d]; exact ⟨_, rfl⟩
        · rw [if_neg d]; exact ⟨_, rfl⟩
      · rw [if_neg c]; exact ⟨_, rfl⟩
    obtain ⟨y, hy⟩ := e1
    obtain ⟨y2, hy2⟩ := ih f (k + 1) y (by omega) (by omega)
    exact ⟨y2, hy.trans hy2⟩
/-- the components as the reference has them -/
def PCM (B : Nat → Nat) (p0 : Nat) (nm ac dn tb : Nat → Int32) (i : Nat) : Prop := ∀ j, j < i → nm j = nI (B (p0 + 3 * j)) ∧ ac j = nI (B (p0 + 3 * j + 1) / 16) ∧ dn j = nI (B (p0 + 3 * j + 1) % 16) ∧ tb j = nI (B (p0 + 3 * j + 2)) ∧ B (p0 + 3 * j) < 256
theorem R_f130 {n c p0 : Nat} {x1 : Int32} {B : Nat → Nat} {sz ce lp : Nat} (hn : 20000 ≤ n) (hc : c ≤ 4) : ∀ (m f j : Nat) (u : St), j + m = c → m + 1 < f → AtM B sz ce lp (p0 + 3 * j) u → PCM B p0 (u.2.1 2) (u.2.1 3) (u.2.1 4) (u.2.1 5) j → (∀ e, fc B sz ce lp p0 m (p0 + 3 * j) j = .error e → ∃ w, m_Model_readFrame_130 n f x1 (nI c) (nI j) u = some w ∧ Gz w e) ∧ (fc B sz ce lp p0 m (p0 + 3 * j) j = .ok () → ∃ w, m_Model_readFrame_130 n f x1 (nI c) (nI j) u = some w ∧ AtM B sz ce lp (p0 + 3 * c) w ∧ w.1 9 = x1 ∧ w.1 12 = nI c ∧ PCM B p0 (w.2.1 2) (w.2.1 3) (w.2.1 4) (w.2.1 5) c ∧ w.1 10 = u.1 10 ∧ w.1 11 = u.1 11) := by
  intro m
  induction m with
  | zero =>
    intro f j u hj hf hA hP
    obtain ⟨f, rfl⟩ : ∃ g, f = g + 1 := ⟨f - 1, by omega⟩
    obtain rfl : j = c := hj
    refine ⟨fun e he => (by cases he), fun _ => ⟨sG (sG u 12 (nI j)) 9 x1, ?_, hA, rfl, rfl, hP, rfl, rfl⟩⟩
    show m_Model_readFrame_130b n _ x1 (nI j) (nI j) u = _
    unfold m_Model_readFrame_130b m_Model_readFrame_345
    rw [if_pos (show nI j ≤ nI j from Int32.le_refl _)]
  | succ m ih =>
    intro f j u hj hf hA hP
    obtain ⟨f, rfl⟩ : ∃ g, f = g + 1 + 1 := ⟨f - 2, by omega⟩
    have e1 : ∀ v u1, m_Model_next n u = some (v, u1) → m_Model_readFrame_130 n (f + 1 + 1) x1 (nI c) (nI j) u = m_Model_readFrame_158 n (m_Model_readFrame_130 n (f + 1)) n x1 (nI c) (nI j) 0 0 (sH u1 2 j v) := by
      intro v u1 hv
      show m_Model_readFrame_130b n _ x1 (nI c) (nI j) u = _
      unfold m_Model_readFrame_130b
      rw [if_neg (nI_ge (by omega) (by omega)), if_pos hA.2.1, hv, Option.bind_some, if_neg (nI_in (N := 4) (by omega) (by omega)), nI_clamp (by omega)]
    have eF : ∀ e, (∃ w, m_Model_readFrame_130 n (f + 1 + 1) x1 (nI c) (nI j) u = m_Model_readFrame_130 n (f + 1) x1 (nI c) (nI (j + 1)) w ∧ Gz w e) → ∃ w, m_Model_readFrame_130 n (f + 1 + 1) x1 (nI c) (nI j) u = some w ∧ Gz w e := by
      intro e ⟨w, w1, w2⟩
      exact ⟨_, w1.trans (R_f130F w2.ne), w2⟩
    have e0 := hA.next (n := n)
    unfold fc
    cases h1 : tk B sz ce lp (p0 + 3 * j) 0 255 with
    | error e =>
      have hz := fM_z (u := u) (tk_er h1).1
      rw [h1] at e0
      refine ⟨fun e' he => ?_, fun he => (by cases he)⟩
      cases he
      have hz2 : Gz (sH (fM u e) 2 j 0) e := hz
      obtain ⟨y, hy⟩ := R_twT (n := n) (K := m_Model_readFrame_130 n (f + 1)) (x1 := x1) (x2 := nI c) (u := sH (fM u e) 2 j 0) (show j < 4 by omega) j n 0 0 (by omega) (by omega)
      obtain ⟨w, w1, w2⟩ := R_f216F (n := n) (K := m_Model_readFrame_130 n (f + 1)) (x1 := x1) (x2 := nI c) (y := 1) (show j < 4 by omega) hz2
      refine eF e ⟨w, ?_, w2⟩
      rw [e1 0 (fM u e) e0]
      refine Eq.trans hy ?_
      unfold twE
      rw [if_pos hz2.pos]
      exact w1
    | ok v =>
      obtain ⟨a1, a2, a3, a4, a5⟩ := tk_lt h1
      rw [h1] at e0
      have hA2 : AtM B sz ce lp (p0 + 3 * j + 1) (sH (sG u 4 (nI (p0 + 3 * j + 1))) 2 j (nI v)) := (hA.step (by omega) (by omega)).h (by decide)
      have ht := R_tw (n := n) (j := j) (v := v) (nm := fun i => B (p0 + 3 * i)) (K := m_Model_readFrame_130 n (f + 1)) (x1 := x1) (x2 := nI c) (u := sH (sG u 4 (nI (p0 + 3 * j + 1))) 2 j (nI v)) (by omega) (fun i hi => by
        have q : (sH (sG u 4 (nI (p0 + 3 * j + 1))) 2 j (nI v)).2.1 2 i = u.2.1 2 i := if_neg (show ¬ i = j by omega)
        rw [q]; exact ⟨(hP i hi).1, (hP i hi).2.2.2.2⟩) (if_pos rfl) (by omega) j n 0 0 (by omega) (by omega)
      rw [if_pos rfl] at ht
      have e2 := (e1 (nI v) (sG u 4 (nI (p0 + 3 * j + 1))) e0).trans ht
      unfold twE at e2
      rw [if_neg (show ¬ 0 < (sH (sG u 4 (nI (p0 + 3 * j + 1))) 2 j (nI v)).1 2 by show ¬ 0 < u.1 2; rw [hA.2.1]; decide)] at e2
      dsimp only
      by_cases c1 : (fn (fun i => B (p0 + 3 * i)) v j 0).isSome = true
      · rw [if_pos c1]
        refine ⟨fun e' he => ?_, fun he => (by cases he)⟩
        cases he
        rw [if_pos c1, if_neg (by decide)] at e2
        have hz : Gz (fM (sH (sG u 4 (nI (p0 + 3 * j + 1))) 2 j (nI v)) (6, p0 + 3 * j)) (6, p0 + 3 * j) := fM_z (Or.inr (Or.inr rfl))
        obtain ⟨w, w1, w2⟩ := R_f216G (n := n) (K := m_Model_readFrame_130 n (f + 1)) (x1 := x1) (x2 := nI c) (show j < 4 by omega) (R_must0 (p := p0 + 3 * j) (u := sH (sG u 4 (nI (p0 + 3 * j + 1))) 2 j (nI v)) hA.2.1 rfl) (R_nextF hz) hz
        exact eF _ ⟨w, e2.trans w1, w2⟩
      · rw [if_neg c1]
        rw [if_neg c1, if_pos rfl] at e2
        have h216 := R_f216 (n := n) (K := m_Model_readFrame_130 n (f + 1)) (x1 := x1) (x2 := nI c) (show j < 4 by omega) hA2
        cases h2 : tk B sz ce lp (p0 + 3 * j + 1) 0 255 with
        | error e =>
          refine ⟨fun e' he => ?_, fun he => (by cases he)⟩
          cases he
          obtain ⟨w, w1, w2⟩ := h216.1 e h2
          exact eF _ ⟨w, e2.trans w1, w2⟩
        | ok hv =>
          obtain ⟨b1, b2, b3, b4', b5⟩ := tk_lt h2
          have h3 := h216.2 hv h2
          dsimp only
          by_cases c2 : hv / 16 < 1 ∨ 2 < hv / 16 ∨ hv % 16 < 1 ∨ 2 < hv % 16
          · rw [if_pos c2]
            refine ⟨fun e' he => ?_, fun he => (by cases he)⟩
            cases he
            obtain ⟨w, w1, w2⟩ := h3.1 c2
            exact eF _ ⟨w, e2.trans w1, w2⟩
          · rw [if_neg c2]
            have e3 := e2.trans (h3.2 c2)
            obtain ⟨S, hS⟩ : ∃ S, S = sH (sH (sG (sH (sG u 4 (nI (p0 + 3 * j + 1))) 2 j (nI v)) 4 (nI (p0 + 3 * j + 1 + 1))) 3 j (nI (hv / 16))) 4 j (nI (hv % 16)) := ⟨_, rfl⟩
            rw [← hS] at e3
            have hA3 : AtM B sz ce lp (p0 + 3 * j + 2) S := by
              rw [hS]
              exact ((hA2.step (q := p0 + 3 * j + 2) (by omega) (by omega)).h (by decide)).h (by decide)
            have h300 := R_f300 (n := n) (K := m_Model_readFrame_130 n (f + 1)) (x1 := x1) (x2 := nI c) (show j < 4 by omega) hA3
            cases h4 : tk B sz ce lp (p0 + 3 * j + 2) 0 3 with
            | error e =>
              refine ⟨fun e' he => ?_, fun he => (by cases he)⟩
              cases he
              obtain ⟨w, w1, w2⟩ := h300.1 e h4
              exact eF _ ⟨w, e3.trans w1, w2⟩
            | ok tb =>
              obtain ⟨d1, d2, d3, d4, d5⟩ := tk_lt h4
              have e4 := e3.trans (h300.2 tb h4)
              have hA4 : AtM B sz ce lp (p0 + 3 * (j + 1)) (sH (sG S 4 (nI (p0 + 3 * j + 2 + 1))) 5 j (nI tb)) := (hA3.step (q := p0 + 3 * j + 3) (by omega) (by omega)).h (by decide)
              have hP4 : PCM B p0 ((sH (sG S 4 (nI (p0 + 3 * j + 2 + 1))) 5 j (nI tb)).2.1 2) ((sH (sG S 4 (nI (p0 + 3 * j + 2 + 1))) 5 j (nI tb)).2.1 3) ((sH (sG S 4 (nI (p0 + 3 * j + 2 + 1))) 5 j (nI tb)).2.1 4) ((sH (sG S 4 (nI (p0 + 3 * j + 2 + 1))) 5 j (nI tb)).2.1 5) (j + 1) := by
                rw [hS]
                intro i hi
                show (if i = j then nI v else u.2.1 2 i) = _ ∧ (if i = j then nI (hv / 16) else u.2.1 3 i) = _ ∧ (if i = j then nI (hv % 16) else u.2.1 4 i) = _ ∧ (if i = j then nI tb else u.2.1 5 i) = _ ∧ _
                by_cases ci : i = j
                · rw [if_pos ci, if_pos ci, if_pos ci, if_pos ci, ci, a1, b1, d1]
                  exact ⟨rfl, rfl, rfl, rfl, by omega⟩
                · rw [if_neg ci, if_neg ci, if_neg ci, if_neg ci]
                  exact hP i (by omega)
              have := ih (f + 1) (j + 1) _ (by omega) (by omega) hA4 hP4
              dsimp only
              rw [e4]
              have g10 : (sH (sG S 4 (nI (p0 + 3 * j + 2 + 1))) 5 j (nI tb)).1 10 = u.1 10 := by rw [hS]; rfl
              have g11 : (sH (sG S 4 (nI (p0 + 3 * j + 2 + 1))) 5 j (nI tb)).1 11 = u.1 11 := by rw [hS]; rfl
              rw [g10, g11] at this
              exact this

theorem R_frame {n : Nat} {B : Nat → Nat} {sz ce lp p : Nat} {x1 : Int32} {u : St} (hn : 20000 ≤ n) (hA : AtM B sz ce lp p u) : (∀ e, fr B sz ce lp p = .error e → ∃ w, m_Model_readFrame n x1 u = some w ∧ Gz w e) ∧ ∀ H W c, fr B sz ce lp p = .ok (H, W, c) → ∃ w, m_Model_readFrame n x1 u = some w ∧ AtM B sz ce lp (p + 6 + 3 * c) w ∧ w.1 9 = x1 ∧ w.1 10 = nI W ∧ w.1 11 = nI H ∧ w.1 12 = nI c ∧ PCM B (p + 6) (w.2.1 2) (w.2.1 3) (w.2.1 4) (w.2.1 5) c := by
  obtain ⟨g, hg⟩ : ∃ g, n = g + 1 := ⟨n - 1, by omega⟩
  -- the ways on with a fault
  have F125 : ∀ (y x2 : Int32) (v v0 : St) (e : Er), m_Model_must n y v = some v0 → Gz v0 e → ∃ w, m_Model_readFrame_125 n x1 x2 y v = some w ∧ Gz w e := by
    intro y x2 v v0 e hm hz
    refine ⟨sG (sG v0 12 x2) 9 x1, ?_, hz⟩
    unfold m_Model_readFrame_125
    rw [hm, Option.bind_some]
    have := R_f130F (n := n) (f := g) (x1 := x1) (x2 := x2) (x3 := 0) hz.ne
    rw [← hg] at this
    exact this
  have F95 : ∀ (y : Int32) (v v0 v1 : St) (x : Int32) (e : Er), m_Model_must n y v = some v0 → m_Model_next n v0 = some (x, v1) → Gz v1 e → ∃ w, m_Model_readFrame_95 n x1 y v = some w ∧ Gz w e := by
    intro y v v0 v1 x e hm hv hz
    obtain ⟨w, w1, w2⟩ := F125 1 x v1 v1 e R_must1 hz
    refine ⟨w, ?_, w2⟩
    unfold m_Model_readFrame_95 m_Model_readFrame_120
    rw [hm, Option.bind_some, hv, Option.bind_some, if_pos hz.pos]
    exact w1
  have F95F : ∀ (y : Int32) (v v0 : St) (e : Er), m_Model_must n y v = some v0 → Gz v0 e → ∃ w, m_Model_readFrame_95 n x1 y v = some w ∧ Gz w e := fun y v v0 e hm hz => F95 y v v0 v0 0 e hm (R_nextF hz) hz
  have F55 : ∀ (y : Int32) (v v0 v1 : St) (x : Int32) (e : Er), m_Model_must n y v = some v0 → m_Model_two n v0 = some (x, v1) → Gz v1 e → ∃ w, m_Model_readFrame_55 n x1 y v = some w ∧ Gz w e := by
    intro y v v0 v1 x e hm hv hz
    have hz2 : Gz (sG v1 10 x) e := hz
    obtain ⟨w, w1, w2⟩ := F95F 1 (sG v1 10 x) (sG v1 10 x) e R_must1 hz2
    refine ⟨w, ?_, w2⟩
    unfold m_Model_readFrame_55 m_Model_readFrame_90
    rw [hm, Option.bind_some, hv, Option.bind_some, if_pos hz.pos]
    exact w1
  have F55F : ∀ (y : Int32) (v v0 : St) (e : Er), m_Model_must n y v = some v0 → Gz v0 e → ∃ w, m_Model_readFrame_55 n x1 y v = some w ∧ Gz w e := fun y v v0 e hm hz => F55 y v v0 v0 0 e hm (R_twoF hz) hz
  have F22 : ∀ (y : Int32) (v v0 v1 : St) (x : Int32) (e : Er), m_Model_must n y v = some v0 → m_Model_two n v0 = some (x, v1) → Gz v1 e → ∃ w, m_Model_readFrame_22 n x1 y v = some w ∧ Gz w e := by
    intro y v v0 v1 x e hm hv hz
    have hz2 : Gz (sG v1 11 x) e := hz
    obtain ⟨w, w1, w2⟩ := F55F 1 (sG v1 11 x) (sG v1 11 x) e R_must1 hz2
    refine ⟨w, ?_, w2⟩
    unfold m_Model_readFrame_22 m_Model_readFrame_50
    rw [hm, Option.bind_some, hv, Option.bind_some, if_pos hz.pos]
    exact w1
  have F22F : ∀ (y : Int32) (v v0 : St) (e : Er), m_Model_must n y v = some v0 → Gz v0 e → ∃ w, m_Model_readFrame_22 n x1 y v = some w ∧ Gz w e := fun y v v0 e hm hz => F22 y v v0 v0 0 e hm (R_twoF hz) hz
  have e0 := hA.next (n := n)
  unfold fr
  cases h1 : tk B sz ce lp p 0 255 with
  | error e =>
    have hz := fM_z (u := u) (tk_er h1).1
    rw [(tk_rg 8 8).1 e h1 hA.b]
    rw [h1] at e0
    have e0' : m_Model_next n u = some (0, fM u e) := e0
    refine ⟨fun e' he => ?_, fun H W c he => (by cases he)⟩
    cases he
    obtain ⟨w, w1, w2⟩ := F22F 1 (fM u e) (fM u e) e R_must1 hz
    refine ⟨w, ?_, w2⟩
    unfold m_Model_readFrame m_Model_readFrame_17
    rw [e0', Option.bind_some, if_neg (show ¬ (0 : Int32) = 8 by decide), if_neg hz.nle]
    exact w1
  | ok v =>
    obtain ⟨a1, a2, a3, a4, a5⟩ := tk_lt h1
    rw [(tk_rg 8 8).2 v h1]
    rw [h1] at e0
    have e0' : m_Model_next n u = some (nI v, sG u 4 (nI (p + 1))) := e0
    have hA1 := hA.step (q := p + 1) (by omega) (by omega)
    by_cases c : v < 8 ∨ 8 < v
    · rw [if_pos c]
      refine ⟨fun e' he => ?_, fun H W c he => (by cases he)⟩
      cases he
      have hz : Gz (fM (sG u 4 (nI (p + 1))) (6, p)) (6, p) := fM_z (Or.inr (Or.inr rfl))
      obtain ⟨w, w1, w2⟩ := F22F 0 (sG u 4 (nI (p + 1))) _ _ (R_must0 (p := p) (u := sG u 4 (nI (p + 1))) hA.2.1 rfl) hz
      refine ⟨w, ?_, w2⟩
      unfold m_Model_readFrame
      rw [e0', Option.bind_some, if_neg (show ¬ nI v = (8 : Int32) from fun q => by have := (nI_eq (a := v) (b := 8) (by omega) (by omega)).mp q; omega), if_pos (show (sG u 4 (nI (p + 1))).1 2 ≤ 0 by show u.1 2 ≤ 0; rw [hA.2.1]; decide)]
      exact w1
    · rw [if_neg c]
      have e1 : m_Model_readFrame n x1 u = m_Model_readFrame_22 n x1 1 (sG u 4 (nI (p + 1))) := by
        unfold m_Model_readFrame m_Model_readFrame_17
        rw [e0', Option.bind_some, if_pos (show nI v = (8 : Int32) by rw [show v = 8 by omega]; rfl)]
      dsimp only
      rw [e1]
      have hT := R_two (n := n) hA1.1 hA1.2.1 hA1.2.2.1 hA1.2.2.2.1 hA1.2.2.2.2.1 hA1.2.2.2.2.2.1 hA1.2.2.2.2.2.2.1 (by have := hA1.2.2.2.2.2.2.2; omega)
      cases h2 : tp B sz ce lp (p + 1) 0 65535 with
      | error e =>
        rw [show tp B sz ce lp (p + 1) 0 64 = .error e from tp_er 0 64 h2]
        obtain ⟨x, w0, w1, w2⟩ := hT.1 e h2
        refine ⟨fun e' he => ?_, fun H W c he => (by cases he)⟩
        cases he
        exact F22 1 _ _ w0 x e R_must1 w1 w2
      | ok H =>
        obtain ⟨p1, p2, p3, -, -, -⟩ := tp_ok h2
        rw [tp_rg 0 64 h2]
        have t2 : m_Model_two n (sG u 4 (nI (p + 1))) = some (nI H, sG (sG u 4 (nI (p + 1))) 4 (nI (p + 1 + 2))) := hT.2 H h2
        rw [sG_sG] at t2
        obtain ⟨S, hS⟩ : ∃ S, S = sG (sG u 4 (nI (p + 1 + 2))) 11 (nI H) := ⟨_, rfl⟩
        have hAS : AtM B sz ce lp (p + 3) S := by rw [hS]; exact hA.step (q := p + 3) (by omega) (by omega)
        have e2 : m_Model_readFrame_22 n x1 1 (sG u 4 (nI (p + 1))) = if (64 : Int32) < nI H then m_Model_readFrame_55 n x1 0 S else m_Model_readFrame_50 n x1 S := by
          unfold m_Model_readFrame_22
          rw [R_must1, Option.bind_some, t2, Option.bind_some, if_neg (show ¬ 0 < (sG u 4 (nI (p + 1 + 2))).1 2 by show ¬ 0 < u.1 2; rw [hA.2.1]; decide), ← hS]
        rw [e2]
        by_cases c2 : H < 0 ∨ 64 < H
        · rw [if_pos c2]
          refine ⟨fun e' he => ?_, fun H W c he => (by cases he)⟩
          cases he
          have hz : Gz (fM S (6, p + 2)) (6, p + 2) := fM_z (Or.inr (Or.inr rfl))
          rw [if_pos (show (64 : Int32) < nI H from nI_lt (a := 64) (by omega) (by omega))]
          exact F55F 0 S _ _ (R_must0 (p := p + 2) hAS.2.1 hAS.2.2.1) hz
        · rw [if_neg c2, if_neg (show ¬ (64 : Int32) < nI H from nI_nlt (a := 64) (b := H) (by omega) (by omega))]
          dsimp only
          have hT2 := R_two (n := n) hAS.1 hAS.2.1 hAS.2.2.1 hAS.2.2.2.1 hAS.2.2.2.2.1 hAS.2.2.2.2.2.1 hAS.2.2.2.2.2.2.1 (by have := hAS.2.2.2.2.2.2.2; omega)
          cases h3 : tp B sz ce lp (p + 3) 0 65535 with
          | error e =>
            rw [show tp B sz ce lp (p + 3) 1 64 = .error e from tp_er 1 64 h3]
            obtain ⟨x, w0, w1, w2⟩ := hT2.1 e h3
            refine ⟨fun e' he => ?_, fun H W c he => (by cases he)⟩
            cases he
            exact F55 1 _ _ w0 x e R_must1 w1 w2
          | ok W =>
            obtain ⟨r1, r2, r3, -, -, -⟩ := tp_ok h3
            rw [tp_rg 1 64 h3]
            have t3 : m_Model_two n S = some (nI W, sG S 4 (nI (p + 3 + 2))) := hT2.2 W h3
            obtain ⟨S2, hS2⟩ : ∃ S2, S2 = sG (sG S 4 (nI (p + 3 + 2))) 10 (nI W) := ⟨_, rfl⟩
            have hA5 : AtM B sz ce lp (p + 5) S2 := by rw [hS2]; exact hAS.step (q := p + 5) (by omega) (by omega)
            have e3 : m_Model_readFrame_50 n x1 S = if nI W ≤ 0 then m_Model_readFrame_94 n x1 S2 else if (64 : Int32) < nI W then m_Model_readFrame_94 n x1 S2 else m_Model_readFrame_90 n x1 S2 := by
              unfold m_Model_readFrame_50 m_Model_readFrame_55
              rw [R_must1, Option.bind_some, t3, Option.bind_some, if_neg (show ¬ 0 < (sG S 4 (nI (p + 3 + 2))).1 2 by show ¬ 0 < S.1 2; rw [hAS.2.1]; decide), ← hS2]
            rw [e3]
            by_cases c3 : W < 1 ∨ 64 < W
            · rw [if_pos c3]
              refine ⟨fun e' he => ?_, fun H W c he => (by cases he)⟩
              cases he
              have hz : Gz (fM S2 (6, p + 4)) (6, p + 4) := fM_z (Or.inr (Or.inr rfl))
              obtain ⟨w, w1, w2⟩ := F95F 0 S2 _ _ (R_must0 (p := p + 4) hA5.2.1 hA5.2.2.1) hz
              refine ⟨w, Eq.trans ?_ w1, w2⟩
              by_cases d : W < 1
              · rw [if_pos (show nI W ≤ 0 by rw [show W = 0 by omega]; decide)]; rfl
              · rw [if_neg (nI_nle (by omega) (by omega)), if_pos (show (64 : Int32) < nI W from nI_lt (a := 64) (by omega) (by omega))]; rfl
            · rw [if_neg c3, if_neg (nI_nle (by omega) (by omega)), if_neg (show ¬ (64 : Int32) < nI W from nI_nlt (a := 64) (b := W) (by omega) (by omega))]
              dsimp only
              have e5 := hA5.next (n := n)
              cases h4 : tk B sz ce lp (p + 5) 0 255 with
              | error e =>
                have hz := fM_z (u := S2) (tk_er h4).1
                rw [(tk_rg 1 4).1 e h4 hA5.b]
                rw [h4] at e5
                refine ⟨fun e' he => ?_, fun H W c he => (by cases he)⟩
                cases he
                exact F95 1 _ _ (fM S2 e) 0 e R_must1 e5 hz
              | ok cc =>
                obtain ⟨g1, g2, g3, g4, g5⟩ := tk_lt h4
                rw [(tk_rg 1 4).2 cc h4]
                rw [h4] at e5
                have e5' : m_Model_next n S2 = some (nI cc, sG S2 4 (nI (p + 5 + 1))) := e5
                have e6 : m_Model_readFrame_90 n x1 S2 = if nI cc ≤ 0 then m_Model_readFrame_124 n x1 (nI cc) (sG S2 4 (nI (p + 5 + 1))) else if (5 : Int32) ≤ nI cc then m_Model_readFrame_124 n x1 (nI cc) (sG S2 4 (nI (p + 5 + 1))) else m_Model_readFrame_120 n x1 (nI cc) (sG S2 4 (nI (p + 5 + 1))) := by
                  unfold m_Model_readFrame_90 m_Model_readFrame_95
                  rw [R_must1, Option.bind_some, e5', Option.bind_some, if_neg (show ¬ 0 < (sG S2 4 (nI (p + 5 + 1))).1 2 by show ¬ 0 < S2.1 2; rw [hA5.2.1]; decide)]
                have hA6 := hA5.step (q := p + 6) (by omega) (by omega)
                rw [e6]
                by_cases c4 : cc < 1 ∨ 4 < cc
                · rw [if_pos c4]
                  refine ⟨fun e' he => ?_, fun H W c he => (by cases he)⟩
                  cases he
                  have hz : Gz (fM (sG S2 4 (nI (p + 6))) (6, p + 5)) (6, p + 5) := fM_z (Or.inr (Or.inr rfl))
                  obtain ⟨w, w1, w2⟩ := F125 0 (nI cc) (sG S2 4 (nI (p + 6))) _ _ (R_must0 (p := p + 5) (u := sG S2 4 (nI (p + 6))) hA5.2.1 rfl) hz
                  refine ⟨w, Eq.trans ?_ w1, w2⟩
                  by_cases d : cc < 1
                  · rw [if_pos (show nI cc ≤ 0 by rw [show cc = 0 by omega]; decide)]; rfl
                  · rw [if_neg (nI_nle (by omega) (by omega)), if_pos (show (5 : Int32) ≤ nI cc from nI_le (a := 5) (by omega) (by omega))]; rfl
                · rw [if_neg c4, if_neg (nI_nle (by omega) (by omega)), if_neg (show ¬ (5 : Int32) ≤ nI cc from nI_ge (b := 5) (by omega) (by omega))]
                  dsimp only
                  have hf := R_f130 (n := n) (c := cc) (p0 := p + 6) (x1 := x1) hn (by omega) cc n 0 (sG S2 4 (nI (p + 6))) (by omega) (by omega) hA6 (fun j hj => absurd hj (Nat.not_lt_zero j))
                  have e7 : m_Model_readFrame_120 n x1 (nI cc) (sG S2 4 (nI (p + 5 + 1))) = m_Model_readFrame_130 n n x1 (nI cc) (nI 0) (sG S2 4 (nI (p + 6))) := by
                    unfold m_Model_readFrame_120 m_Model_readFrame_125
                    rw [R_must1, Option.bind_some]; rfl
                  rw [e7]
                  cases h5 : fc B sz ce lp (p + 6) cc (p + 6) 0 with
                  | error e =>
                    refine ⟨fun e' he => ?_, fun H W c he => (by cases he)⟩
                    cases he
                    exact hf.1 e h5
                  | ok _ =>
                    refine ⟨fun e' he => (by cases he), fun H' W' c' he => ?_⟩
                    cases he
                    obtain ⟨w, w1, w2, w3, w4, w5, w6, w7⟩ := hf.2 h5
                    refine ⟨w, w1, w2, w3, w6.trans ?_, w7.trans ?_, w4, w5⟩
                    · rw [hS2]; rfl
                    · rw [hS2, hS]; rfl

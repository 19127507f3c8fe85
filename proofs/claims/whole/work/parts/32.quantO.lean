/-- m bytes from p on, each lo .. hi -/
def chk (B : Nat → Nat) (sz ce lp lo hi : Nat) : Nat → Nat → Except Er Unit
  | 0, _ => .ok ()
  | m + 1, p => match tk B sz ce lp p lo hi with
    | .error e => .error e
    | .ok _ => chk B sz ce lp lo hi m (p + 1)
theorem chk_er {B : Nat → Nat} {sz ce lp lo hi : Nat} : ∀ {m p : Nat} {e : Er}, chk B sz ce lp lo hi m p = .error e → e.1 = 5 ∨ e.1 = 1 ∨ e.1 = 6
  | 0, p, e, h => by cases h
  | m + 1, p, e, h => by
    unfold chk at h
    cases h1 : tk B sz ce lp p lo hi with
    | error e' => rw [h1] at h; cases h; exact (tk_er h1).1
    | ok v => rw [h1] at h; exact chk_er (m := m) h
/-- tables of quantisers: where each table's first value stands -/
def qs (B : Nat → Nat) (sz ce lp : Nat) : Nat → Nat → (Nat → Option Nat) → Except Er (Nat × (Nat → Option Nat))
  | 0, p, qm => .ok (p, qm)
  | r + 1, p, qm => match tk B sz ce lp p 0 3 with
    | .error e => .error e
    | .ok tb => match chk B sz ce lp 1 255 64 (p + 1) with
      | .error e => .error e
      | .ok _ => if p + 65 < ce then qs B sz ce lp r (p + 65) (va_up qm tb (some (p + 1))) else .ok (p + 65, va_up qm tb (some (p + 1)))
def oI (o : Option Nat) : Int32 := match o with
  | none => mI
  | some q => nI q
def PQ (f : Nat → Int32) (qm : Nat → Option Nat) : Prop := ∀ j, j < 4 → f j = oI (qm j)
/-- where the class stands in contents: no fault, place p, their end ce, their length's place lp -/
def At (B : Nat → Nat) (sz ce lp p : Nat) (t : St) : Prop := InO B sz t ∧ t.1 13 = 0 ∧ t.1 9 = nI p ∧ t.1 11 = nI ce ∧ t.1 10 = nI lp ∧ p < 1000000 ∧ ce < 1000000
theorem At.take {n : Nat} {B : Nat → Nat} {sz ce lp p : Nat} {t : St} (h : At B sz ce lp p t) (lo hi : Nat) (hlo : lo < 256) (hhi : hi < 256) : m_Parser_take n (nI lo) (nI hi) t = some (tkO t p (tk B sz ce lp p lo hi)) := O_take h.1 h.2.1 h.2.2.1 h.2.2.2.1 h.2.2.2.2.1 (by have := h.2.2.2.2.2.1; omega) (by have := h.2.2.2.2.2.2; omega) hlo hhi
theorem At.step {B : Nat → Nat} {sz ce lp p : Nat} {t : St} (h : At B sz ce lp p t) {q : Nat} (hq : q < 1000000) : At B sz ce lp q (sG t 9 (nI q)) := ⟨h.1, h.2.1, rfl, h.2.2.2.1, h.2.2.2.2.1, hq, h.2.2.2.2.2.2⟩
def qE (n : Nat) (K4 : Int32 → Int32 → St → Option St) (x2 x3 x4 : Int32) (z : St) : Option St := (m_Picture_setQuantisers n x3 x4 z).bind (fun z60 => (m_Parser_moreContents n z60).bind (fun z64 => K4 z64.1 (x2 + 1) z64.2))
theorem O_valsF {n : Nat} {K4 : Int32 → Int32 → St → Option St} {x2 x3 x4 : Int32} {t : St} (h : t.1 13 ≠ 0) : ∀ (m f j : Nat), j + m = 64 → m < f → m_Parser_readQuantisers_31 n K4 f x2 x3 x4 (nI j) t = qE n K4 x2 x3 x4 t := by
  intro m
  induction m with
  | zero =>
    intro f j hj hf
    obtain ⟨f, rfl⟩ : ∃ g, f = g + 1 := ⟨f - 1, by omega⟩
    show m_Parser_readQuantisers_31b n K4 _ x2 x3 x4 (nI j) t = _
    unfold m_Parser_readQuantisers_31b
    rw [show j = 64 by omega, if_pos (show (64 : Int32) ≤ nI 64 by decide)]; rfl
  | succ m ih =>
    intro f j hj hf
    obtain ⟨f, rfl⟩ : ∃ g, f = g + 1 := ⟨f - 1, by omega⟩
    show m_Parser_readQuantisers_31b n K4 _ x2 x3 x4 (nI j) t = _
    unfold m_Parser_readQuantisers_31b
    rw [if_neg (show ¬ (64 : Int32) ≤ nI j from nI_ge (b := 64) (by omega) (by omega)), O_takeF h]
    simp only [Option.bind_some]
    rw [nI_1]
    exact ih f (j + 1) (by omega) (by omega)
theorem O_vals {n : Nat} {K4 : Int32 → Int32 → St → Option St} {x2 x3 x4 : Int32} {B : Nat → Nat} {sz ce lp : Nat} : ∀ (m f j p : Nat) (t : St), j + m = 64 → m < f → p + m < 1000000 → At B sz ce lp p t → (∀ e, chk B sz ce lp 1 255 m p = .error e → ∃ z, m_Parser_readQuantisers_31 n K4 f x2 x3 x4 (nI j) t = qE n K4 x2 x3 x4 z ∧ Fz z e) ∧ (chk B sz ce lp 1 255 m p = .ok () → m_Parser_readQuantisers_31 n K4 f x2 x3 x4 (nI j) t = qE n K4 x2 x3 x4 (sG t 9 (nI (p + m)))) := by
  intro m
  induction m with
  | zero =>
    intro f j p t hj hf hp hA
    obtain ⟨f, rfl⟩ : ∃ g, f = g + 1 := ⟨f - 1, by omega⟩
    refine ⟨fun e he => (by cases he), fun _ => ?_⟩
    show m_Parser_readQuantisers_31b n K4 _ x2 x3 x4 (nI j) t = _
    unfold m_Parser_readQuantisers_31b
    rw [show j = 64 by omega, if_pos (show (64 : Int32) ≤ nI 64 by decide)]
    have : sG t 9 (nI (p + 0)) = t := by
      unfold sG upd
      refine Prod.ext (funext fun i => ?_) rfl
      show (if i = 9 then nI (p + 0) else t.1 i) = t.1 i
      by_cases c : i = 9
      · rw [if_pos c, c, hA.2.2.1]; rfl
      · rw [if_neg c]
    rw [this]; rfl
  | succ m ih =>
    intro f j p t hj hf hp hA
    obtain ⟨f, rfl⟩ : ∃ g, f = g + 1 := ⟨f - 1, by omega⟩
    have e1 : m_Parser_readQuantisers_31 n K4 (f + 1) x2 x3 x4 (nI j) t = (some (tkO t p (tk B sz ce lp p 1 255))).bind (fun z43 => m_Parser_readQuantisers_31 n K4 f x2 x3 x4 (nI (j + 1)) z43.2) := by
      show m_Parser_readQuantisers_31b n K4 _ x2 x3 x4 (nI j) t = _
      unfold m_Parser_readQuantisers_31b
      rw [if_neg (show ¬ (64 : Int32) ≤ nI j from nI_ge (b := 64) (by omega) (by omega)), ← nI_1]
      exact congrArg (fun q : Option (Int32 × St) => q.bind _) (hA.take 1 255 (by omega) (by omega))
    rw [e1]
    unfold chk
    cases h1 : tk B sz ce lp p 1 255 with
    | error e =>
      have hz := fO_z (t := t) (tk_er h1).1
      refine ⟨fun e' he => ?_, fun he => (by cases he)⟩
      cases he
      exact ⟨fO t e, O_valsF hz.ne m f (j + 1) (by omega) (by omega), hz⟩
    | ok v =>
      have := ih f (j + 1) (p + 1) (sG t 9 (nI (p + 1))) (by omega) (by omega) (by omega) (hA.step (by omega))
      rw [sG_sG, show p + 1 + m = p + (m + 1) by omega] at this
      exact this
theorem O_setQ {n : Nat} {tb : Nat} {x : Int32} {t : St} (h : tb < 4) : m_Picture_setQuantisers n (nI tb) x t = some (sH t 4 tb x) := by
  unfold m_Picture_setQuantisers
  rw [if_neg (nI_pos (by omega)), if_neg (show ¬ Int32.ofNat 4 ≤ nI tb from nI_ge (b := 4) h (by omega)), if_neg (nI_in (N := 4) h (by omega)), nI_clamp (by omega)]
theorem O_setQm {n : Nat} {x : Int32} {t : St} : m_Picture_setQuantisers n mI x t = some t := by
  unfold m_Picture_setQuantisers
  rw [if_pos (show mI < 0 by decide)]
theorem O_moreF {n : Nat} {t : St} (h : t.1 13 ≠ 0) : m_Parser_moreContents n t = some (0, t) := by
  unfold m_Parser_moreContents m_Parser_moreContents_22
  rw [if_neg h]
theorem O_more {n : Nat} {B : Nat → Nat} {sz ce lp p : Nat} {t : St} (h : At B sz ce lp p t) : m_Parser_moreContents n t = some (if p < ce then 1 else 0, t) := by
  obtain ⟨h0, h1, h2, h3, h4, h5, h6⟩ := h
  unfold m_Parser_moreContents m_Parser_moreContents_22
  rw [if_pos h1, h2, h3]
  by_cases c : p < ce
  · rw [if_neg (nI_ge c (by omega)), if_pos c]
  · rw [if_pos (nI_le (by omega) (by omega)), if_neg c]
theorem O_qend {n f : Nat} {x2 : Int32} {t : St} : m_Parser_readQuantisers_4 n (f + 1) 0 x2 t = some t := by
  show m_Parser_readQuantisers_4b n _ 0 x2 t = _
  unfold m_Parser_readQuantisers_4b
  by_cases c : (16384 : Int32) ≤ x2
  · rw [if_pos c]
  · rw [if_neg c, if_pos rfl]
theorem oI_up {f : Nat → Int32} {qm : Nat → Option Nat} {tb q : Nat} (h : PQ f qm) : PQ (upd f tb (nI q)) (va_up qm tb (some q)) := by
  intro j hj
  show (if j = tb then nI q else f j) = oI (if j = tb then some q else qm j)
  by_cases c : j = tb
  · rw [if_pos c, if_pos c]; rfl
  · rw [if_neg c, if_neg c]; exact h j hj
theorem chk_1 {B : Nat → Nat} {sz ce lp lo hi m p : Nat} (h : chk B sz ce lp lo hi (m + 1) p = .ok ()) : p < sz := by
  unfold chk at h
  cases h1 : tk B sz ce lp p lo hi with
  | error e => rw [h1] at h; cases h
  | ok v => exact (tk_lt h1).2.2.1
theorem O_qs {n : Nat} {B : Nat → Nat} {sz ce lp : Nat} (hn : 20000 ≤ n) : ∀ (r f k p : Nat) (t : St) (qm : Nat → Option Nat), sz ≤ p + r → r + 1 < f → k + r < 16000 → (p ≤ 100000 ∧ ce ≤ 100000) → 0 < r → At B sz ce lp p t → PQ (t.2.1 4) qm → (∀ e, qs B sz ce lp r p qm = .error e → ∃ z, m_Parser_readQuantisers_4 n f 1 (nI k) t = some z ∧ Fz z e) ∧ ∀ p' qm', qs B sz ce lp r p qm = .ok (p', qm') → ∃ z, m_Parser_readQuantisers_4 n f 1 (nI k) t = some z ∧ At B sz ce lp p' z ∧ PQ (z.2.1 4) qm' := by
  intro r
  induction r with
  | zero => intro f k p t qm _ _ _ _ h; omega
  | succ r ih =>
    intro f k p t qm hr hf hk hp _ hA hQ
    obtain ⟨f, rfl⟩ : ∃ g, f = g + 1 := ⟨f - 1, by omega⟩
    have e1 : m_Parser_readQuantisers_4 n (f + 1) 1 (nI k) t = (some (tkO t p (tk B sz ce lp p 0 3))).bind (fun z18 => m_Parser_readQuantisers_31 n (m_Parser_readQuantisers_4 n f) n (nI k) z18.1 (z18.2.1 9) 0 z18.2) := by
      show m_Parser_readQuantisers_4b n _ 1 (nI k) t = _
      unfold m_Parser_readQuantisers_4b
      rw [if_neg (show ¬ (16384 : Int32) ≤ nI k from nI_ge (b := 16384) (by omega) (by omega)), if_neg (by decide)]
      exact congrArg (fun q : Option (Int32 × St) => q.bind _) (hA.take 0 3 (by omega) (by omega))
    rw [e1]
    unfold qs
    obtain ⟨f, rfl⟩ : ∃ g, f = g + 1 := ⟨f - 1, by omega⟩
    cases h1 : tk B sz ce lp p 0 3 with
    | error e =>
      have hz := fO_z (t := t) (tk_er h1).1
      refine ⟨fun e' he => ?_, fun p' qm' he => (by cases he)⟩
      cases he
      refine ⟨fO t e, ?_, hz⟩
      simp only [Option.bind_some, tkO]
      refine (O_valsF hz.ne 64 n 0 (by omega) (by omega)).trans ?_
      unfold qE
      rw [O_setQm]
      simp only [Option.bind_some]
      rw [O_moreF hz.ne]
      simp only [Option.bind_some]
      exact O_qend
    | ok tb =>
      obtain ⟨a1, a2, a3, a4, a5⟩ := tk_lt h1
      simp only [Option.bind_some, tkO]
      have hv := O_vals (n := n) (K4 := m_Parser_readQuantisers_4 n (f + 1)) (x2 := nI k) (x3 := nI tb) (x4 := nI (p + 1)) 64 n 0 (p + 1) (sG t 9 (nI (p + 1))) (by omega) (by omega) (by omega) (hA.step (q := p + 1) (by omega))
      cases h2 : chk B sz ce lp 1 255 64 (p + 1) with
      | error e =>
        refine ⟨fun e' he => ?_, fun p' qm' he => (by cases he)⟩
        cases he
        obtain ⟨z, hz1, hz2⟩ := hv.1 e h2
        refine ⟨sH z 4 tb (nI (p + 1)), hz1.trans ?_, hz2⟩
        unfold qE
        rw [O_setQ (by omega)]
        simp only [Option.bind_some]
        rw [O_moreF (t := sH z 4 tb (nI (p + 1))) hz2.ne]
        simp only [Option.bind_some]
        exact O_qend
      | ok _ =>
        have e2 : m_Parser_readQuantisers_31 n (m_Parser_readQuantisers_4 n (f + 1)) n (nI k) (nI tb) (nI (p + 1)) 0 (sG t 9 (nI (p + 1))) = _ := hv.2 h2
        have e3 : qE n (m_Parser_readQuantisers_4 n (f + 1)) (nI k) (nI tb) (nI (p + 1)) (sG (sG t 9 (nI (p + 1))) 9 (nI (p + 1 + 64))) = m_Parser_readQuantisers_4 n (f + 1) (if p + 65 < ce then 1 else 0) (nI (k + 1)) (sH (sG t 9 (nI (p + 65))) 4 tb (nI (p + 1))) := by
          unfold qE
          rw [O_setQ (by omega), sG_sG]
          simp only [Option.bind_some]
          rw [O_more (B := B) (sz := sz) (ce := ce) (lp := lp) (p := p + 65) (t := sH (sG t 9 (nI (p + 65))) 4 tb (nI (p + 1))) (hA.step (q := p + 65) (by omega)), ← nI_1 k]; rfl
        have hA2 : At B sz ce lp (p + 65) (sH (sG t 9 (nI (p + 65))) 4 tb (nI (p + 1))) := hA.step (q := p + 65) (by omega)
        have hQ2 : PQ ((sH (sG t 9 (nI (p + 65))) 4 tb (nI (p + 1))).2.1 4) (va_up qm tb (some (p + 1))) := oI_up hQ
        show (∀ e, (if p + 65 < ce then _ else _) = _ → ∃ z, m_Parser_readQuantisers_31 n (m_Parser_readQuantisers_4 n (f + 1)) n (nI k) (nI tb) (nI (p + 1)) 0 (sG t 9 (nI (p + 1))) = _ ∧ _) ∧ ∀ p' qm', (if p + 65 < ce then _ else _) = _ → ∃ z, m_Parser_readQuantisers_31 n (m_Parser_readQuantisers_4 n (f + 1)) n (nI k) (nI tb) (nI (p + 1)) 0 (sG t 9 (nI (p + 1))) = _ ∧ _
        rw [e2, e3]
        by_cases c : p + 65 < ce
        · rw [if_pos c, if_pos c]
          have hsz := chk_1 h2
          exact ih (f + 1) (k + 1) (p + 65) _ _ (by omega) (by omega) (by omega) ⟨by omega, hp.2⟩ (by omega) hA2 hQ2
        · rw [if_neg c, if_neg c]
          refine ⟨fun e' he => (by cases he), fun p' qm' he => ?_⟩
          cases he
          exact ⟨_, O_qend, hA2, hQ2⟩

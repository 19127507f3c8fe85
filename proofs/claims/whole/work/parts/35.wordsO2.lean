def SN (L : Nat → Int64) (sn : Nat → Bool) : Prop := ∀ s, s < 256 → (L (s / 64)).toBitVec.getLsbD (s % 64) = sn s
theorem bm : ∀ j, j < 64 → ((1 : Int64) <<< ((nI j).toInt64 &&& 63)).toBitVec = BitVec.twoPow 64 j := by decide +kernel
theorem b6 : ∀ s, s < 256 → (nI s >>> ((6 : Int32) &&& 31)) &&& (3 : Int32) = nI (s / 64) := by decide +kernel
theorem b63 : ∀ s, s < 256 → nI s &&& (63 : Int32) = nI (s % 64) := by decide +kernel
theorem cmp0 {x : Int64} : lg_cmp x 0 = 0 ↔ x = 0 := by
  unfold lg_cmp
  by_cases c : x > 0
  · rw [if_pos c]
    refine ⟨fun h => absurd h (by decide), fun h => ?_⟩
    rw [h] at c
    exact absurd c (by decide)
  · rw [if_neg c]
    by_cases d : x = 0
    · rw [if_pos d]; exact ⟨fun _ => d, fun _ => rfl⟩
    · rw [if_neg d]; exact ⟨fun h => absurd h (by decide), fun h => absurd h d⟩
theorem bz {w m : Int64} {j : Nat} (hj : j < 64) (hm : m.toBitVec = BitVec.twoPow 64 j) : w &&& m = 0 ↔ w.toBitVec.getLsbD j = false := by
  rw [← Int64.toBitVec_inj, Int64.toBitVec_and, hm, BitVec.and_twoPow]
  show (if w.toBitVec.getLsbD j = true then BitVec.twoPow 64 j else 0#64) = 0#64 ↔ _
  by_cases c : w.toBitVec.getLsbD j = true
  · rw [if_pos c, c]
    refine ⟨fun h => ?_, fun h => absurd h (by decide)⟩
    have : (BitVec.twoPow 64 j).getLsbD j = (0#64).getLsbD j := by rw [h]
    rw [BitVec.getLsbD_twoPow] at this
    simp [hj] at this
  · rw [if_neg c]
    exact ⟨fun _ => by simpa using c, fun _ => rfl⟩
theorem bo {w m : Int64} {j i : Nat} (hm : m.toBitVec = BitVec.twoPow 64 j) (hj : j < 64) : (w ||| m).toBitVec.getLsbD i = (w.toBitVec.getLsbD i || decide (j = i)) := by
  rw [Int64.toBitVec_or, BitVec.getLsbD_or, hm, BitVec.getLsbD_twoPow]
  simp [hj]
theorem SN_up {L : Nat → Int64} {sn : Nat → Bool} {s : Nat} {m : Int64} (h : SN L sn) (hs : s < 256) (hm : m.toBitVec = BitVec.twoPow 64 (s % 64)) : SN (vp_updL L (s / 64) (L (s / 64) ||| m)) (fun x => if x = s then true else sn x) := by
  intro x hx
  show (if x / 64 = s / 64 then L (s / 64) ||| m else L (x / 64)).toBitVec.getLsbD (x % 64) = if x = s then true else sn x
  by_cases c : x / 64 = s / 64
  · rw [if_pos c, bo hm (by omega), ← c, h x hx]
    by_cases d : x = s
    · rw [if_pos d, d]; simp
    · rw [if_neg d]
      have : ¬ s % 64 = x % 64 := by omega
      simp [this]
  · rw [if_neg c, h x hx, if_neg (fun e => c (by rw [e]))]
theorem O_symF {n f : Nat} {x1 x2 x3 : Int32} {t : St} (h : t.1 13 ≠ 0) : m_Parser_takeSymbols_10 n (f + 1) x1 x2 x3 t = some t := by
  show m_Parser_takeSymbols_10b n _ x1 x2 x3 t = _
  unfold m_Parser_takeSymbols_10b
  by_cases c : x1 ≤ x3
  · rw [if_pos c]
  · rw [if_neg c, if_neg h]
theorem O_sym1 {n f : Nat} {x1 x2 x3 v : Int32} {t t1 : St} (h13 : t.1 13 = 0) (hx : ¬ x1 ≤ x3) (ht : m_Parser_take n 0 x2 t = some (v, t1)) : m_Parser_takeSymbols_10 n (f + 1) x1 x2 x3 t = if v = -1 then some t1 else if ((v >>> ((6 : Int32) &&& 31)) &&& (3 : Int32)) < 0 ∨ 4 ≤ ((v >>> ((6 : Int32) &&& 31)) &&& (3 : Int32)).toNatClampNeg then none else if lg_cmp (t1.2.2.1 0 ((v >>> ((6 : Int32) &&& 31)) &&& (3 : Int32)).toNatClampNeg &&& ((1 : Int64) <<< ((v &&& (63 : Int32)).toInt64 &&& 63))) 0 = 0 then m_Parser_takeSymbols_74 n (m_Parser_takeSymbols_10 n f) x1 x2 x3 ((v >>> ((6 : Int32) &&& 31)) &&& (3 : Int32)) ((1 : Int64) <<< ((v &&& (63 : Int32)).toInt64 &&& 63)) t1 else (m_Parser_refuseTaken n t1).bind (fun z71 => m_Parser_takeSymbols_74 n (m_Parser_takeSymbols_10 n f) x1 x2 x3 ((v >>> ((6 : Int32) &&& 31)) &&& (3 : Int32)) ((1 : Int64) <<< ((v &&& (63 : Int32)).toInt64 &&& 63)) z71) := by
  show m_Parser_takeSymbols_10b n _ x1 x2 x3 t = _
  unfold m_Parser_takeSymbols_10b
  rw [if_neg hx, if_pos h13, ht, Option.bind_some]
theorem O_sym74 {n f r : Nat} {x1 x2 x3 : Int32} {m : Int64} {t : St} (hr : r < 4) : m_Parser_takeSymbols_74 n (m_Parser_takeSymbols_10 n f) x1 x2 x3 (nI r) m t = m_Parser_takeSymbols_10 n f x1 x2 (x3 + 1) (sL t 0 r (t.2.2.1 0 r ||| m)) := by
  unfold m_Parser_takeSymbols_74
  rw [if_neg (nI_in (N := 4) hr (by omega)), if_neg (nI_in (N := 4) hr (by omega)), nI_clamp (by omega)]
theorem O_syms {n : Nat} {B : Nat → Nat} {sz ce lp hi tot : Nat} (hhi : hi < 256) (htot : tot ≤ 256) : ∀ (m f i p : Nat) (t : St) (sn : Nat → Bool), i + m = tot → m + 1 < f → p + m < 1000000 → At B sz ce lp p t → SN (t.2.2.1 0) sn → (∀ e, ss B sz ce lp hi m p sn = .error e → ∃ z, m_Parser_takeSymbols_10 n f (nI tot) (nI hi) (nI i) t = some z ∧ Fz z e) ∧ (ss B sz ce lp hi m p sn = .ok () → ∃ z, m_Parser_takeSymbols_10 n f (nI tot) (nI hi) (nI i) t = some z ∧ At B sz ce lp (p + m) z ∧ z.2.1 5 = t.2.1 5) := by
  intro m
  induction m with
  | zero =>
    intro f i p t sn hi2 hf hp hA hS
    obtain ⟨f, rfl⟩ : ∃ g, f = g + 1 := ⟨f - 1, by omega⟩
    refine ⟨fun e he => (by cases he), fun _ => ⟨t, ?_, hA, rfl⟩⟩
    show m_Parser_takeSymbols_10b n _ _ _ _ t = _
    unfold m_Parser_takeSymbols_10b
    rw [if_pos (nI_le (by omega) (by omega))]
  | succ m ih =>
    intro f i p t sn hi2 hf hp hA hS
    obtain ⟨f, rfl⟩ : ∃ g, f = g + 1 + 1 := ⟨f - 2, by omega⟩
    have e0 : m_Parser_take n 0 (nI hi) t = _ := hA.take 0 hi (by omega) hhi
    have hx : ¬ nI tot ≤ nI i := nI_ge (by omega) (by omega)
    unfold ss
    cases h1 : tk B sz ce lp p 0 hi with
    | error e =>
      have hz := fO_z (t := t) (tk_er h1).1
      refine ⟨fun e' he => ?_, fun he => (by cases he)⟩
      cases he
      rw [h1] at e0
      refine ⟨fO t e, (O_sym1 (f := f + 1) hA.2.1 hx e0).trans ?_, hz⟩
      rw [if_pos (show mI = -1 from rfl)]; rfl
    | ok s =>
      obtain ⟨a1, a2, a3, a4, a5⟩ := tk_lt h1
      rw [h1] at e0
      have hs : s < 256 := by omega
      have e1 := O_sym1 (f := f + 1) hA.2.1 hx (show m_Parser_take n 0 (nI hi) t = some (nI s, sG t 9 (nI (p + 1))) from e0)
      have hm := bm (s % 64) (by omega)
      rw [b6 s hs, b63 s hs, if_neg (show ¬ nI s = -1 from fun q => (eq_mI (a := s) (by omega)).mp q), if_neg (nI_in (N := 4) (by omega) (by omega)), nI_clamp (by omega)] at e1
      have hsn := hS s hs
      have hA2 := hA.step (q := p + 1) (by omega)
      dsimp only
      by_cases c : sn s = true
      · rw [if_pos c]
        refine ⟨fun e' he => ?_, fun he => (by cases he)⟩
        cases he
        have hz : Fz (fO (sG t 9 (nI (p + 1))) (6, p)) (6, p) := fO_z (Or.inr (Or.inr rfl))
        rw [if_neg (fun q => by
          have := (bz (by omega) hm).mp (cmp0.mp q)
          have h2 : (t.2.2.1 0 (s / 64)).toBitVec.getLsbD (s % 64) = false := this
          rw [hsn, c] at h2; cases h2), O_ref (p := p) (t := sG t 9 (nI (p + 1))) hA.2.1 rfl, Option.bind_some, O_sym74 (by omega)] at e1
        exact ⟨_, e1.trans (O_symF hz.ne), hz⟩
      · have c' : sn s = false := by simpa using c
        rw [if_neg c]
        rw [if_pos (cmp0.mpr ((bz (by omega) hm).mpr (show ((sG t 9 (nI (p + 1))).2.2.1 0 (s / 64)).toBitVec.getLsbD (s % 64) = false from hsn.trans c'))), O_sym74 (by omega), nI_1] at e1
        have := ih (f + 1) (i + 1) (p + 1) (sL (sG t 9 (nI (p + 1))) 0 (s / 64) (t.2.2.1 0 (s / 64) ||| ((1 : Int64) <<< ((nI (s % 64)).toInt64 &&& 63)))) (fun x => if x = s then true else sn x) (by omega) (by omega) (by omega) hA2 (SN_up hS hs hm)
        rw [show p + 1 + m = p + (m + 1) by omega] at this
        refine ⟨fun e he => ?_, fun he => ?_⟩
        · obtain ⟨z, z1, z2⟩ := this.1 e he
          exact ⟨z, e1.trans z1, z2⟩
        · obtain ⟨z, z1, z2, z3⟩ := this.2 he
          exact ⟨z, e1.trans z1, z2, z3⟩
theorem O_fillJ {n : Nat} {t : St} : m_Arrays_fillJ_15 (n + 5) 0 t = some (sL (sL (sL (sL t 0 0 0) 0 1 0) 0 2 0) 0 3 0) := rfl
theorem SN_0 {L : Nat → Int64} (h : ∀ j, j < 4 → L j = 0) : SN L (fun _ => false) := by
  intro s hs
  rw [h _ (by omega)]
  show (0#64).getLsbD (s % 64) = false
  simp
theorem O_sym {n : Nat} {B : Nat → Nat} {sz ce lp hi tot p : Nat} {t : St} (hn : 20000 ≤ n) (hhi : hi < 256) (htot : tot ≤ 256) (hp : p + tot < 1000000) (hA : At B sz ce lp p t) : (∀ e, ss B sz ce lp hi tot p (fun _ => false) = .error e → ∃ z, m_Parser_takeSymbols n (nI tot) (nI hi) t = some z ∧ Fz z e) ∧ (ss B sz ce lp hi tot p (fun _ => false) = .ok () → ∃ z, m_Parser_takeSymbols n (nI tot) (nI hi) t = some z ∧ At B sz ce lp (p + tot) z ∧ z.2.1 5 = t.2.1 5) := by
  obtain ⟨k, rfl⟩ : ∃ k, n = k + 5 := ⟨n - 5, by omega⟩
  unfold m_Parser_takeSymbols
  rw [O_fillJ, Option.bind_some]
  exact O_syms hhi htot tot (k + 5) 0 p (sL (sL (sL (sL t 0 0 0) 0 1 0) 0 2 0) 0 3 0) (fun _ => false) (by omega) (by omega) hp hA (SN_0 (fun j hj => by
    match j, hj with
    | 0, _ => rfl
    | 1, _ => rfl
    | 2, _ => rfl
    | 3, _ => rfl
    | k + 4, h => omega))
theorem O_symsF {n : Nat} {x1 x2 : Int32} {t : St} (hn : 20000 ≤ n) (h : t.1 13 ≠ 0) : ∃ z, m_Parser_takeSymbols n x1 x2 t = some z := by
  obtain ⟨k, rfl⟩ : ∃ k, n = k + 5 := ⟨n - 5, by omega⟩
  unfold m_Parser_takeSymbols
  rw [O_fillJ, Option.bind_some]
  exact ⟨_, O_symF (t := sL (sL (sL (sL t 0 0 0) 0 1 0) 0 2 0) 0 3 0) h⟩

theorem O_row {n tb : Nat} {t : St} (h : tb < 20) (h2 : ¬ (3 < tb ∧ tb < 16)) : m_Picture_rowOfWords n (nI tb) t = some (nI (wrow tb), t) := by
  unfold m_Picture_rowOfWords m_Picture_rowOfWords_11 wrow
  rw [if_neg (nI_pos (by omega))]
  by_cases c : tb < 4
  · rw [if_neg (show ¬ (3 : Int32) < nI tb from nI_nlt (a := 3) (b := tb) (by omega) (by omega)), if_pos c]
  · rw [if_pos (show (3 : Int32) < nI tb from nI_lt (a := 3) (by omega) (by omega)), if_neg (show ¬ nI tb < (16 : Int32) from nI_nlt (b := 16) (by omega) (by omega)), if_neg (show ¬ (19 : Int32) < nI tb from nI_nlt (a := 19) (b := tb) (by omega) (by omega)), if_neg c, show (12 : Int32) = nI 12 from rfl, pk_sub (by omega)]
theorem wrow_lt {tb : Nat} (h : tb < 20) (h2 : ¬ (3 < tb ∧ tb < 16)) : wrow tb < 8 := by
  unfold wrow
  by_cases c : tb < 4
  · rw [if_pos c]; omega
  · rw [if_neg c]; omega
theorem O_setW {n tb : Nat} {x : Int32} {t : St} (h : tb < 20) (h2 : ¬ (3 < tb ∧ tb < 16)) : m_Picture_setWords n (nI tb) x t = some (sH t 5 (wrow tb) x) := by
  have hr := wrow_lt h h2
  unfold m_Picture_setWords
  rw [O_row h h2, Option.bind_some]
  rw [if_neg (nI_pos (by omega)), if_neg (show ¬ Int32.ofNat 8 ≤ nI (wrow tb) from nI_ge (b := 8) hr (by omega)), if_neg (nI_in (N := 8) hr (by omega)), nI_clamp (by omega)]
theorem O_rowT {n : Nat} {x : Int32} {t : St} : ∃ r, m_Picture_rowOfWords n x t = some (r, t) := by
  unfold m_Picture_rowOfWords m_Picture_rowOfWords_11 m_Picture_rowOfWords_30
  by_cases c1 : x < 0
  · rw [if_pos c1]
    by_cases c2 : x < (16 : Int32)
    · rw [if_pos c2]; exact ⟨_, rfl⟩
    · rw [if_neg c2]
      by_cases c3 : (19 : Int32) < x
      · rw [if_pos c3]; exact ⟨_, rfl⟩
      · rw [if_neg c3]; exact ⟨_, rfl⟩
  · rw [if_neg c1]
    by_cases c4 : (3 : Int32) < x
    · rw [if_pos c4]
      by_cases c2 : x < (16 : Int32)
      · rw [if_pos c2]; exact ⟨_, rfl⟩
      · rw [if_neg c2]
        by_cases c3 : (19 : Int32) < x
        · rw [if_pos c3]; exact ⟨_, rfl⟩
        · rw [if_neg c3]; exact ⟨_, rfl⟩
    · rw [if_neg c4]; exact ⟨_, rfl⟩
theorem O_setWT {n : Nat} {x y : Int32} {t : St} : ∃ z, m_Picture_setWords n x y t = some z := by
  obtain ⟨r, hr⟩ := O_rowT (n := n) (x := x) (t := t)
  unfold m_Picture_setWords
  rw [hr, Option.bind_some]
  by_cases c1 : r < 0
  · rw [if_pos c1]; exact ⟨_, rfl⟩
  · rw [if_neg c1]
    by_cases c2 : Int32.ofNat 8 ≤ r
    · rw [if_pos c2]; exact ⟨_, rfl⟩
    · rw [if_neg c2]
      rcases pk_ix r (n := 8) (by omega) with q | q | ⟨j, hj, rfl⟩
      · exact absurd q c1
      · exact absurd q c2
      · rw [if_neg (nI_in (N := 8) hj (by omega))]; exact ⟨_, rfl⟩
theorem O_wend {n f : Nat} {x2 : Int32} {t : St} : m_Parser_readWords_4 n (f + 1) 0 x2 t = some t := by
  show m_Parser_readWords_4b n _ 0 x2 t = _
  unfold m_Parser_readWords_4b
  by_cases c : (16384 : Int32) ≤ x2
  · rw [if_pos c]
  · rw [if_neg c, if_pos rfl]
theorem O_w67F {n f : Nat} {x2 x3 x4 y1 y2 : Int32} {t : St} {e : Er} (hn : 20000 ≤ n) (h : Fz t e) : ∃ z, m_Parser_readWords_67 n (m_Parser_readWords_4 n (f + 1)) x2 x3 x4 y1 y2 t = some z ∧ Fz z e := by
  obtain ⟨z1, h1⟩ := O_symsF (x1 := y1) (x2 := y2) hn h.ne
  have g1 : Fz z1 e := h.keep (f_Parser_takeSymbols h1 h.ne)
  obtain ⟨z2, h2⟩ := O_setWT (n := n) (x := x3) (y := x4) (t := z1)
  have g2 : Fz z2 e := g1.keep (Fk.x (x_Picture_setWords h2) (by decide) (by decide))
  refine ⟨z2, ?_, g2⟩
  unfold m_Parser_readWords_67
  rw [h1, Option.bind_some, h2, Option.bind_some, O_moreF g2.ne, Option.bind_some]
  exact O_wend
theorem O_w38F {n f : Nat} {x2 x3 : Int32} {t : St} {e : Er} (hn : 20000 ≤ n) (h : Fz t e) : ∃ z, m_Parser_readWords_38 n (m_Parser_readWords_4 n (f + 1)) x2 x3 t = some z ∧ Fz z e := by
  obtain ⟨r, hr⟩ := O_cntF (n := n) h.ne 16 n 1 0 0 (by omega) (by omega)
  have hr2 : m_Parser_takeCounts n t = some (r, t) := hr
  unfold m_Parser_readWords_38
  rw [hr2, Option.bind_some]
  by_cases c : (16 : Int32) ≤ x3
  · rw [if_pos c]; exact O_w67F hn h
  · rw [if_neg c]; exact O_w67F hn h
def PW (f : Nat → Int32) (wm : Nat → Option Nat) : Prop := ∀ j, j < 8 → f j = oI (wm j)
theorem PW_up {f : Nat → Int32} {qm : Nat → Option Nat} {tb q : Nat} (h : PW f qm) : PW (upd f tb (nI q)) (va_up qm tb (some q)) := by
  intro j hj
  show (if j = tb then nI q else f j) = oI (if j = tb then some q else qm j)
  by_cases c : j = tb
  · rw [if_pos c, if_pos c]; rfl
  · rw [if_neg c, if_neg c]; exact h j hj
theorem cs_ok {B : Nat → Nat} {sz ce lp : Nat} : ∀ {m p l tot bl T : Nat}, tot ≤ 256 → cs B sz ce lp m p l tot bl = .ok T → T ≤ 256 ∧ 0 < T ∧ (0 < m → p + m ≤ sz ∧ p + m ≤ ce)
  | 0, p, l, tot, bl, T, ht, h => by
    unfold cs at h
    by_cases c : tot = 0
    · rw [if_pos c] at h; cases h
    · rw [if_neg c] at h; cases h; exact ⟨ht, by omega, fun q => by omega⟩
  | m + 1, p, l, tot, bl, T, ht, h => by
    unfold cs at h
    cases h1 : tk B sz ce lp p 0 255 with
    | error e => rw [h1] at h; cases h
    | ok c =>
      obtain ⟨a1, a2, a3, a4, a5⟩ := tk_lt h1
      rw [h1] at h
      dsimp only at h
      by_cases cc : 256 < tot + c ∨ 2 ^ l ≤ 2 * bl + c
      · rw [if_pos cc] at h; cases h
      · rw [if_neg cc] at h
        obtain ⟨g1, g2, g3⟩ := cs_ok (m := m) (by omega) h
        refine ⟨g1, g2, fun _ => ?_⟩
        by_cases cm : 0 < m
        · have := g3 cm; omega
        · omega
theorem O_wd {n : Nat} {B : Nat → Nat} {sz ce lp : Nat} (hn : 20000 ≤ n) : ∀ (r f k p : Nat) (t : St) (wm : Nat → Option Nat), sz ≤ p + r → r + 1 < f → k + r < 16000 → (p ≤ 100000 ∧ ce ≤ 100000) → 0 < r → At B sz ce lp p t → PW (t.2.1 5) wm → (∀ e, wd B sz ce lp r p wm = .error e → ∃ z, m_Parser_readWords_4 n f 1 (nI k) t = some z ∧ Fz z e) ∧ ∀ p' wm', wd B sz ce lp r p wm = .ok (p', wm') → ∃ z, m_Parser_readWords_4 n f 1 (nI k) t = some z ∧ At B sz ce lp p' z ∧ PW (z.2.1 5) wm' := by
  intro r
  induction r with
  | zero => intro f k p t qm _ _ _ _ h; omega
  | succ r ih =>
    intro f k p t wm hr hf hk hp _ hA hQ
    obtain ⟨f, rfl⟩ : ∃ g, f = g + 1 + 1 := ⟨f - 2, by omega⟩
    have e0 : m_Parser_take n 0 19 t = _ := hA.take 0 19 (by omega) (by omega)
    have e1 : ∀ v t1, m_Parser_take n 0 19 t = some (v, t1) → m_Parser_readWords_4 n (f + 1 + 1) 1 (nI k) t = if v ≤ (3 : Int32) then m_Parser_readWords_38 n (m_Parser_readWords_4 n (f + 1)) (nI k) v t1 else if (16 : Int32) ≤ v then m_Parser_readWords_38 n (m_Parser_readWords_4 n (f + 1)) (nI k) v t1 else (m_Parser_refuseTaken n t1).bind (fun z35 => m_Parser_readWords_38 n (m_Parser_readWords_4 n (f + 1)) (nI k) v z35) := by
      intro v t1 hv
      show m_Parser_readWords_4b n _ 1 (nI k) t = _
      unfold m_Parser_readWords_4b
      rw [if_neg (show ¬ (16384 : Int32) ≤ nI k from nI_ge (b := 16384) (by omega) (by omega)), if_neg (by decide), hv, Option.bind_some]
    unfold wd
    cases h1 : tk B sz ce lp p 0 19 with
    | error e =>
      have hz := fO_z (t := t) (tk_er h1).1
      rw [h1] at e0
      refine ⟨fun e' he => ?_, fun p' qm' he => (by cases he)⟩
      cases he
      obtain ⟨z, z1, z2⟩ := O_w38F (f := f) (x2 := nI k) (x3 := mI) hn hz
      refine ⟨z, (e1 mI (fO t e) e0).trans ?_, z2⟩
      rw [if_pos (show mI ≤ (3 : Int32) by decide)]
      exact z1
    | ok tb =>
      obtain ⟨a1, a2, a3, a4, a5⟩ := tk_lt h1
      rw [h1] at e0
      have e2 := e1 (nI tb) (sG t 9 (nI (p + 1))) e0
      have hA2 := hA.step (q := p + 1) (by omega)
      dsimp only
      by_cases c : 3 < tb ∧ tb < 16
      · rw [if_pos c]
        refine ⟨fun e' he => ?_, fun p' qm' he => (by cases he)⟩
        cases he
        have hz : Fz (fO (sG t 9 (nI (p + 1))) (6, p)) (6, p) := fO_z (Or.inr (Or.inr rfl))
        rw [if_neg (show ¬ nI tb ≤ (3 : Int32) from nI_ge (a := 3) (by omega) (by omega)), if_neg (show ¬ (16 : Int32) ≤ nI tb from nI_ge (b := 16) (by omega) (by omega)), O_ref (p := p) (t := sG t 9 (nI (p + 1))) hA.2.1 rfl, Option.bind_some] at e2
        obtain ⟨z, z1, z2⟩ := O_w38F (f := f) (x2 := nI k) (x3 := nI tb) hn hz
        exact ⟨z, e2.trans z1, z2⟩
      · rw [if_neg c]
        have e3 : m_Parser_readWords_4 n (f + 1 + 1) 1 (nI k) t = m_Parser_readWords_38 n (m_Parser_readWords_4 n (f + 1)) (nI k) (nI tb) (sG t 9 (nI (p + 1))) := by
          rw [e2]
          by_cases c2 : tb ≤ 3
          · rw [if_pos (show nI tb ≤ (3 : Int32) from nI_le (b := 3) c2 (by omega))]
          · rw [if_neg (show ¬ nI tb ≤ (3 : Int32) from nI_ge (a := 3) (by omega) (by omega)), if_pos (show (16 : Int32) ≤ nI tb from nI_le (a := 16) (by omega) (by omega))]
        have hcn := O_cnt (n := n) 16 n 1 (p + 1) 0 0 (sG t 9 (nI (p + 1))) (by omega) (by omega) (by omega) (by omega) (by omega) (by omega) (by decide) hA2
        have e4 : ∀ T z, m_Parser_takeCounts n (sG t 9 (nI (p + 1))) = some (T, z) → m_Parser_readWords_4 n (f + 1 + 1) 1 (nI k) t = m_Parser_readWords_67 n (m_Parser_readWords_4 n (f + 1)) (nI k) (nI tb) (nI (p + 1)) T (nI (whi tb)) z := by
          intro T z hz
          rw [e3]
          unfold m_Parser_readWords_38 whi
          rw [hz, Option.bind_some]
          by_cases c2 : tb < 16
          · rw [if_neg (show ¬ (16 : Int32) ≤ nI tb from nI_ge (b := 16) c2 (by omega)), if_pos c2]; rfl
          · rw [if_pos (show (16 : Int32) ≤ nI tb from nI_le (a := 16) (by omega) (by omega)), if_neg c2]; rfl
        cases h2 : cs B sz ce lp 16 (p + 1) 1 0 0 with
        | error e =>
          refine ⟨fun e' he => ?_, fun p' qm' he => (by cases he)⟩
          cases he
          obtain ⟨T, z, z1, z2⟩ := hcn.1 e h2
          obtain ⟨z', w1, w2⟩ := O_w67F (f := f) (x2 := nI k) (x3 := nI tb) (x4 := nI (p + 1)) (y1 := T) (y2 := nI (whi tb)) hn z2
          exact ⟨z', (e4 T z z1).trans w1, w2⟩
        | ok T =>
          obtain ⟨t1, t2, t3⟩ := cs_ok (by omega) h2
          have hwh : whi tb < 256 := by unfold whi; by_cases c2 : tb < 16; · rw [if_pos c2]; omega
                                        · rw [if_neg c2]; omega
          have e5 := e4 _ _ (hcn.2 T h2)
          rw [sG_sG] at e5
          have hsy := O_sym (n := n) (hi := whi tb) (tot := T) (p := p + 17) (t := sG t 9 (nI (p + 1 + 16))) hn hwh t1 (by omega) (hA.step (q := p + 17) (by omega))
          dsimp only
          cases h3 : ss B sz ce lp (whi tb) T (p + 17) (fun _ => false) with
          | error e =>
            refine ⟨fun e' he => ?_, fun p' qm' he => (by cases he)⟩
            cases he
            obtain ⟨z, z1, z2⟩ := hsy.1 e h3
            obtain ⟨z', hz'⟩ := O_setWT (n := n) (x := nI tb) (y := nI (p + 1)) (t := z)
            have g2 : Fz z' e := z2.keep (Fk.x (x_Picture_setWords hz') (by decide) (by decide))
            refine ⟨z', e5.trans ?_, g2⟩
            unfold m_Parser_readWords_67
            rw [z1, Option.bind_some, hz', Option.bind_some, O_moreF g2.ne, Option.bind_some]
            exact O_wend
          | ok _ =>
            obtain ⟨z, z1, z2, z3⟩ := hsy.2 h3
            have hA3 : At B sz ce lp (p + 17 + T) (sH z 5 (wrow tb) (nI (p + 1))) := z2
            have hQ3 : PW ((sH z 5 (wrow tb) (nI (p + 1))).2.1 5) (va_up wm (wrow tb) (some (p + 1))) := by
              have q : PW (z.2.1 5) wm := by rw [z3]; exact hQ
              exact PW_up q
            have e6 : m_Parser_readWords_4 n (f + 1 + 1) 1 (nI k) t = m_Parser_readWords_4 n (f + 1) (if p + 17 + T < ce then 1 else 0) (nI (k + 1)) (sH z 5 (wrow tb) (nI (p + 1))) := by
              rw [e5]
              unfold m_Parser_readWords_67
              rw [z1, Option.bind_some, O_setW (by omega) c, Option.bind_some, O_more hA3, Option.bind_some, nI_1]
            dsimp only
            rw [e6]
            by_cases cc : p + 17 + T < ce
            · rw [if_pos cc, if_pos cc]
              exact ih (f + 1) (k + 1) (p + 17 + T) _ _ (by omega) (by omega) (by omega) ⟨by omega, hp.2⟩ (by omega) hA3 hQ3
            · rw [if_neg cc, if_neg cc]
              refine ⟨fun e' he => (by cases he), fun p' qm' he => ?_⟩
              cases he
              exact ⟨_, O_wend, hA3, hQ3⟩

/-- the sixteen counts: m of them are left, the next one is of words of l bits -/
def cs (B : Nat → Nat) (sz ce lp : Nat) : Nat → Nat → Nat → Nat → Nat → Except Er Nat
  | 0, p, _, tot, _ => if tot = 0 then .error (6, p - 1) else .ok tot
  | m + 1, p, l, tot, bl => match tk B sz ce lp p 0 255 with
    | .error e => .error e
    | .ok c => if 256 < tot + c ∨ 2 ^ l ≤ 2 * bl + c then .error (6, p) else cs B sz ce lp m (p + 1) (l + 1) (tot + c) (2 * bl + c)
/-- the symbols -/
def ss (B : Nat → Nat) (sz ce lp hi : Nat) : Nat → Nat → (Nat → Bool) → Except Er Unit
  | 0, _, _ => .ok ()
  | m + 1, p, sn => match tk B sz ce lp p 0 hi with
    | .error e => .error e
    | .ok s => if sn s = true then .error (6, p) else ss B sz ce lp hi m (p + 1) (fun x => if x = s then true else sn x)
def wrow (tb : Nat) : Nat := if tb < 4 then tb else tb - 12
def whi (tb : Nat) : Nat := if tb < 16 then 11 else 255
/-- tables of words: where each table's first count stands -/
def wd (B : Nat → Nat) (sz ce lp : Nat) : Nat → Nat → (Nat → Option Nat) → Except Er (Nat × (Nat → Option Nat))
  | 0, p, wm => .ok (p, wm)
  | r + 1, p, wm => match tk B sz ce lp p 0 19 with
    | .error e => .error e
    | .ok tb => if 3 < tb ∧ tb < 16 then .error (6, p) else match cs B sz ce lp 16 (p + 1) 1 0 0 with
      | .error e => .error e
      | .ok tot => match ss B sz ce lp (whi tb) tot (p + 17) (fun _ => false) with
        | .error e => .error e
        | .ok _ => if p + 17 + tot < ce then wd B sz ce lp r (p + 17 + tot) (va_up wm (wrow tb) (some (p + 1))) else .ok (p + 17 + tot, va_up wm (wrow tb) (some (p + 1)))
theorem pw2 {l : Nat} (h : l ≤ 16) : 2 ^ l ≤ 65536 := Nat.pow_le_pow_right (by omega) h
theorem sh1 : ∀ l, l < 17 → (1 : Int32) <<< (nI l &&& 31) = nI (2 ^ l) := by decide +kernel
theorem O_cnt1 {n f : Nat} {x1 x2 : Int32} {l : Nat} {t : St} (hl : l ≤ 16) : m_Parser_takeCounts_6 n (f + 1) x1 x2 (nI l) t = (m_Parser_take n 0 255 t).bind (fun z17 => if (256 : Int32) < x1 + z17.1 then m_Parser_takeCounts_48 n (m_Parser_takeCounts_6 n f) (x1 + z17.1) (2 * x2 + z17.1) (nI l) z17.2 else if 2 * x2 + z17.1 < nI (2 ^ l) then m_Parser_takeCounts_6 n f (x1 + z17.1) (2 * x2 + z17.1) (nI (l + 1)) z17.2 else m_Parser_takeCounts_48 n (m_Parser_takeCounts_6 n f) (x1 + z17.1) (2 * x2 + z17.1) (nI l) z17.2) := by
  show m_Parser_takeCounts_6b n _ x1 x2 (nI l) t = _
  unfold m_Parser_takeCounts_6b m_Parser_takeCounts_52
  rw [if_neg (show ¬ (16 : Int32) < nI l from nI_nlt (b := 16) (a := 16) (by omega) (by omega) |> fun _ => (fun q => by have := (nI_ltI (a := 16) (b := l) (by omega) (by omega)).mp q; omega)), sh1 l (by omega), nI_1]
theorem O_cnt48F {n f : Nat} {x1 x2 : Int32} {l : Nat} {t : St} (h : t.1 13 ≠ 0) : m_Parser_takeCounts_48 n (m_Parser_takeCounts_6 n f) x1 x2 (nI l) t = m_Parser_takeCounts_6 n f x1 x2 (nI (l + 1)) t := by
  unfold m_Parser_takeCounts_48 m_Parser_takeCounts_52
  rw [O_refF h, nI_1]; rfl
theorem O_cntE {n f : Nat} {x1 x2 : Int32} {t : St} : m_Parser_takeCounts_6 n (f + 1) x1 x2 (nI 17) t = if x1 = 0 then (m_Parser_refuseTaken n t).bind (fun z63 => some (x1, z63)) else some (x1, t) := by
  show m_Parser_takeCounts_6b n _ x1 x2 (nI 17) t = _
  unfold m_Parser_takeCounts_6b
  rw [if_pos (show (16 : Int32) < nI 17 by decide)]
theorem it2 {α : Type} {c d : Prop} [Decidable c] [Decidable d] {a : α} : (if c then a else if d then a else a) = a := by
  by_cases h : c
  · rw [if_pos h]
  · rw [if_neg h]
    by_cases g : d
    · rw [if_pos g]
    · rw [if_neg g]
theorem O_cnt1F {n f l : Nat} {x1 x2 : Int32} {t : St} (h : t.1 13 ≠ 0) (hl : l ≤ 16) : m_Parser_takeCounts_6 n (f + 1) x1 x2 (nI l) t = m_Parser_takeCounts_6 n f (x1 + mI) (2 * x2 + mI) (nI (l + 1)) t := by
  rw [O_cnt1 hl, O_takeF h]
  have e := O_cnt48F (n := n) (f := f) (x1 := x1 + mI) (x2 := 2 * x2 + mI) (l := l) h
  rw [Option.bind_some]
  dsimp only
  rw [e]
  exact it2
theorem O_cntF {n : Nat} {t : St} (h : t.1 13 ≠ 0) : ∀ (m f l : Nat) (x1 x2 : Int32), l + m = 17 → m < f → ∃ r, m_Parser_takeCounts_6 n f x1 x2 (nI l) t = some (r, t) := by
  intro m
  induction m with
  | zero =>
    intro f l x1 x2 hl hf
    obtain ⟨f, rfl⟩ : ∃ g, f = g + 1 := ⟨f - 1, by omega⟩
    obtain rfl : l = 17 := hl
    have e := O_cntE (n := n) (f := f) (x1 := x1) (x2 := x2) (t := t)
    rw [O_refF h] at e
    by_cases c : x1 = 0
    · rw [if_pos c] at e; exact ⟨_, e⟩
    · rw [if_neg c] at e; exact ⟨_, e⟩
  | succ m ih =>
    intro f l x1 x2 hl hf
    obtain ⟨f, rfl⟩ : ∃ g, f = g + 1 := ⟨f - 1, by omega⟩
    obtain ⟨r, hr⟩ := ih f (l + 1) (x1 + mI) (2 * x2 + mI) (by omega) (by omega)
    exact ⟨r, (O_cnt1F h (by omega)).trans hr⟩
theorem sG_self {t : St} {k : Nat} {a : Int32} (h : t.1 k = a) : sG t k a = t := by
  unfold sG upd
  refine Prod.ext (funext fun i => ?_) rfl
  show (if i = k then a else t.1 i) = t.1 i
  by_cases c : i = k
  · rw [if_pos c, c, h]
  · rw [if_neg c]
theorem O_cnt {n : Nat} {B : Nat → Nat} {sz ce lp : Nat} : ∀ (m f l p tot bl : Nat) (t : St), l + m = 17 → 1 ≤ l → m < f → 1 ≤ p → p + m < 1000000 → tot ≤ 256 → bl < 2 ^ (l - 1) → At B sz ce lp p t → (∀ e, cs B sz ce lp m p l tot bl = .error e → ∃ r z, m_Parser_takeCounts_6 n f (nI tot) (nI bl) (nI l) t = some (r, z) ∧ Fz z e) ∧ ∀ T, cs B sz ce lp m p l tot bl = .ok T → m_Parser_takeCounts_6 n f (nI tot) (nI bl) (nI l) t = some (nI T, sG t 9 (nI (p + m))) := by
  intro m
  induction m with
  | zero =>
    intro f l p tot bl t hl hl1 hf hp1 hp htot hbl hA
    obtain ⟨f, rfl⟩ : ∃ g, f = g + 1 := ⟨f - 1, by omega⟩
    obtain rfl : l = 17 := hl
    have e0 := O_cntE (n := n) (f := f) (x1 := nI tot) (x2 := nI bl) (t := t)
    rw [e0]
    unfold cs
    by_cases c : tot = 0
    · rw [if_pos c, if_pos (show nI tot = 0 by rw [c]; rfl), O_ref (p := p - 1) hA.2.1 (by rw [show p - 1 + 1 = p by omega]; exact hA.2.2.1)]
      refine ⟨fun e he => ?_, fun T he => (by cases he)⟩
      cases he
      exact ⟨_, _, rfl, fO_z (t := t) (e := (6, p - 1)) (Or.inr (Or.inr rfl))⟩
    · rw [if_neg c, if_neg (show ¬ nI tot = 0 from nI_ne0 (by omega) (by omega))]
      refine ⟨fun e he => (by cases he), fun T he => ?_⟩
      cases he
      rw [Nat.add_zero, sG_self hA.2.2.1]
  | succ m ih =>
    intro f l p tot bl t hl hl1 hf hp1 hp htot hbl hA
    obtain ⟨f, rfl⟩ : ∃ g, f = g + 1 := ⟨f - 1, by omega⟩
    have hp2 : 2 ^ l ≤ 65536 := pw2 (by omega)
    have hp3 : 2 ^ l = 2 * 2 ^ (l - 1) := by rw [← Nat.pow_succ']; congr 1; omega
    have e0 : m_Parser_take n 0 255 t = _ := hA.take 0 255 (by omega) (by omega)
    rw [O_cnt1 (by omega), e0]
    unfold cs
    cases h1 : tk B sz ce lp p 0 255 with
    | error e =>
      have hz := fO_z (t := t) (tk_er h1).1
      refine ⟨fun e' he => ?_, fun T he => (by cases he)⟩
      cases he
      obtain ⟨r, hr⟩ := O_cntF (n := n) hz.ne m f (l + 1) (nI tot + mI) (2 * nI bl + mI) (by omega) (by omega)
      refine ⟨r, fO t e, Eq.trans ?_ hr, hz⟩
      have e4 := O_cnt48F (n := n) (f := f) (x1 := nI tot + mI) (x2 := 2 * nI bl + mI) (l := l) hz.ne
      rw [Option.bind_some]
      dsimp only [tkO]
      change (if (256 : Int32) < nI tot + mI then m_Parser_takeCounts_48 n (m_Parser_takeCounts_6 n f) (nI tot + mI) (2 * nI bl + mI) (nI l) (fO t e) else if 2 * nI bl + mI < nI (2 ^ l) then m_Parser_takeCounts_6 n f (nI tot + mI) (2 * nI bl + mI) (nI (l + 1)) (fO t e) else m_Parser_takeCounts_48 n (m_Parser_takeCounts_6 n f) (nI tot + mI) (2 * nI bl + mI) (nI l) (fO t e)) = _
      rw [e4]
      exact it2
    | ok c =>
      obtain ⟨a1, a2, a3, a4, a5⟩ := tk_lt h1
      have e2 : (2 : Int32) * nI bl + nI c = nI (2 * bl + c) := by rw [show (2 : Int32) = nI 2 from rfl, pk_mul, nI_add]
      have hA2 := hA.step (q := p + 1) (by omega)
      have e3 : ∀ x1 x2, ∃ r, m_Parser_takeCounts_48 n (m_Parser_takeCounts_6 n f) x1 x2 (nI l) (sG t 9 (nI (p + 1))) = some (r, fO (sG t 9 (nI (p + 1))) (6, p)) := by
        intro x1 x2
        unfold m_Parser_takeCounts_48 m_Parser_takeCounts_52
        rw [O_ref (p := p) (t := sG t 9 (nI (p + 1))) hA.2.1 rfl, nI_1]
        exact O_cntF (n := n) (t := fO (sG t 9 (nI (p + 1))) (6, p)) (fO_z (Or.inr (Or.inr rfl))).ne m f (l + 1) x1 x2 (by omega) (by omega)
      obtain ⟨r, hr⟩ := e3 (nI tot + nI c) (2 * nI bl + nI c)
      simp only [Option.bind_some, tkO]
      by_cases cc : 256 < tot + c ∨ 2 ^ l ≤ 2 * bl + c
      · rw [if_pos cc]
        refine ⟨fun e' he => ?_, fun T he => (by cases he)⟩
        cases he
        refine ⟨r, _, ?_, fO_z (t := sG t 9 (nI (p + 1))) (e := (6, p)) (Or.inr (Or.inr rfl))⟩
        by_cases c3 : 256 < tot + c
        · rw [if_pos (show (256 : Int32) < nI tot + nI c by rw [nI_add]; exact nI_lt (a := 256) c3 (by omega))]
          exact hr
        · rw [if_neg (show ¬ (256 : Int32) < nI tot + nI c by rw [nI_add]; exact nI_nlt (b := tot + c) (a := 256) (by omega) (by omega)), if_neg (show ¬ 2 * nI bl + nI c < nI (2 ^ l) by rw [e2]; exact nI_nlt (by omega) (by omega))]
          exact hr
      · rw [if_neg cc, if_neg (show ¬ (256 : Int32) < nI tot + nI c by rw [nI_add]; exact nI_nlt (b := tot + c) (a := 256) (by omega) (by omega)), if_pos (show 2 * nI bl + nI c < nI (2 ^ l) by rw [e2]; exact nI_lt (by omega) (by omega)), e2, nI_add tot c]
        have := ih f (l + 1) (p + 1) (tot + c) (2 * bl + c) (sG t 9 (nI (p + 1))) (by omega) (by omega) (by omega) (by omega) (by omega) (by omega) (by rw [show l + 1 - 1 = l by omega]; omega) hA2
        rw [sG_sG, show p + 1 + m = p + (m + 1) by omega] at this
        exact this

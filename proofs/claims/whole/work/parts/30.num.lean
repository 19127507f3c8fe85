theorem li_0 : (0 : Int32) = nI 0 := rfl
theorem li_1 : (1 : Int32) = nI 1 := rfl
theorem li_2 : (2 : Int32) = nI 2 := rfl
theorem li_3 : (3 : Int32) = nI 3 := rfl
theorem li_4 : (4 : Int32) = nI 4 := rfl
theorem li_5 : (5 : Int32) = nI 5 := rfl
theorem li_6 : (6 : Int32) = nI 6 := rfl
theorem li_7 : (7 : Int32) = nI 7 := rfl
theorem li_8 : (8 : Int32) = nI 8 := rfl
theorem li_9 : (9 : Int32) = nI 9 := rfl
theorem li_10 : (10 : Int32) = nI 10 := rfl
theorem li_11 : (11 : Int32) = nI 11 := rfl
theorem li_12 : (12 : Int32) = nI 12 := rfl
theorem li_13 : (13 : Int32) = nI 13 := rfl
theorem li_14 : (14 : Int32) = nI 14 := rfl
theorem li_15 : (15 : Int32) = nI 15 := rfl
theorem li_16 : (16 : Int32) = nI 16 := rfl
theorem li_17 : (17 : Int32) = nI 17 := rfl
theorem li_19 : (19 : Int32) = nI 19 := rfl
theorem li_20 : (20 : Int32) = nI 20 := rfl
theorem li_24 : (24 : Int32) = nI 24 := rfl
theorem li_25 : (25 : Int32) = nI 25 := rfl
theorem li_30 : (30 : Int32) = nI 30 := rfl
theorem li_31 : (31 : Int32) = nI 31 := rfl
theorem li_51 : (51 : Int32) = nI 51 := rfl
theorem li_63 : (63 : Int32) = nI 63 := rfl
theorem li_64 : (64 : Int32) = nI 64 := rfl
theorem li_128 : (128 : Int32) = nI 128 := rfl
theorem li_192 : (192 : Int32) = nI 192 := rfl
theorem li_194 : (194 : Int32) = nI 194 := rfl
theorem li_196 : (196 : Int32) = nI 196 := rfl
theorem li_208 : (208 : Int32) = nI 208 := rfl
theorem li_215 : (215 : Int32) = nI 215 := rfl
theorem li_216 : (216 : Int32) = nI 216 := rfl
theorem li_217 : (217 : Int32) = nI 217 := rfl
theorem li_218 : (218 : Int32) = nI 218 := rfl
theorem li_219 : (219 : Int32) = nI 219 := rfl
theorem li_220 : (220 : Int32) = nI 220 := rfl
theorem li_221 : (221 : Int32) = nI 221 := rfl
theorem li_224 : (224 : Int32) = nI 224 := rfl
theorem li_239 : (239 : Int32) = nI 239 := rfl
theorem li_254 : (254 : Int32) = nI 254 := rfl
theorem li_255 : (255 : Int32) = nI 255 := rfl
theorem li_256 : (256 : Int32) = nI 256 := rfl
theorem li_16384 : (16384 : Int32) = nI 16384 := rfl
theorem li_61440 : (61440 : Int32) = nI 61440 := rfl
theorem li_65535 : (65535 : Int32) = nI 65535 := rfl
def mI : Int32 := -1
theorem mI_e : -nI 1 = mI := rfl
theorem ofN (k : Nat) : Int32.ofNat k = nI k := rfl
theorem mI_toInt : mI.toInt = -1 := rfl
theorem mI_eq {a : Nat} (h : a < 2 ^ 31) : (mI = nI a) = False := by
  refine propext ⟨fun e => ?_, fun e => e.elim⟩
  have := congrArg Int32.toInt e
  rw [mI_toInt, nI_toInt h] at this
  omega
theorem eq_mI {a : Nat} (h : a < 2 ^ 31) : (nI a = mI) = False := by
  refine propext ⟨fun e => ?_, fun e => e.elim⟩
  have := congrArg Int32.toInt e
  rw [mI_toInt, nI_toInt h] at this
  omega
theorem mI_lt {a : Nat} (h : a < 2 ^ 31) : (mI < nI a) = True := by
  refine propext ⟨fun _ => trivial, fun _ => Int32.lt_iff_toInt_lt.mpr ?_⟩
  rw [mI_toInt, nI_toInt h]
  omega
theorem lt_mI {a : Nat} (h : a < 2 ^ 31) : (nI a < mI) = False := by
  refine propext ⟨fun e => ?_, fun e => e.elim⟩
  have := Int32.lt_iff_toInt_lt.mp e
  rw [mI_toInt, nI_toInt h] at this
  omega
theorem mI_le {a : Nat} (h : a < 2 ^ 31) : (mI ≤ nI a) = True := by
  refine propext ⟨fun _ => trivial, fun _ => Int32.le_iff_toInt_le.mpr ?_⟩
  rw [mI_toInt, nI_toInt h]
  omega
theorem le_mI {a : Nat} (h : a < 2 ^ 31) : (nI a ≤ mI) = False := by
  refine propext ⟨fun e => ?_, fun e => e.elim⟩
  have := Int32.le_iff_toInt_le.mp e
  rw [mI_toInt, nI_toInt h] at this
  omega
/-- sz bytes, those of B -/
def Inp (B : Nat → Nat) (sz : Nat) (g0 : Int32) (f : Nat → Int32) (cap : Nat) : Prop := g0 = nI sz ∧ sz ≤ 4096 ∧ sz ≤ cap ∧ cap ≤ 1048576 ∧ ∀ j, j < sz → (f j &&& 255) = nI (B j) ∧ B j < 256
abbrev InO (B : Nat → Nat) (sz : Nat) (t : St) : Prop := Inp B sz (t.1 0) (t.2.1 0) (t.2.2.2 0)
abbrev InM (B : Nat → Nat) (sz : Nat) (u : St) : Prop := Inp B sz (u.1 1) (u.2.1 0) 16384
/-- the byte at p, or none -/
def bt (B : Nat → Nat) (sz p : Nat) : Int32 := if p < sz then nI (B p) else mI
theorem O_at {n : Nat} {B : Nat → Nat} {sz p : Nat} {t : St} (h : InO B sz t) (hp : p < 2 ^ 31) : m_Bytes_at n (nI p) t = some (bt B sz p, t) := by
  obtain ⟨h0, h1, h2, h3, h4⟩ := h
  unfold m_Bytes_at m_Bytes_at_25 bt
  rw [h0, if_neg (nI_pos hp)]
  by_cases c : p < sz
  · rw [if_neg (nI_ge c (by omega)), if_neg (nI_in (N := t.2.2.2 0) (by omega) (by omega)), if_pos c, nI_clamp hp, (h4 p c).1]
  · rw [if_pos (nI_le (by omega) hp), if_neg c]; rfl
theorem O_fail {n : Nat} {a b : Int32} {t : St} (h : t.1 13 = 0) : m_Parser_fail n a b t = some (mI, sG (sG t 13 a) 14 b) := by
  unfold m_Parser_fail
  rw [if_pos h]; rfl
theorem O_failF {n : Nat} {a b : Int32} {t : St} (h : t.1 13 ≠ 0) : m_Parser_fail n a b t = some (mI, t) := by
  unfold m_Parser_fail
  rw [if_neg h]; rfl
theorem bt_in {B : Nat → Nat} {sz p : Nat} (h : p < sz) : bt B sz p = nI (B p) := if_pos h
theorem bt_out {B : Nat → Nat} {sz p : Nat} (h : ¬ p < sz) : bt B sz p = mI := if_neg h
abbrev Er : Type := Nat × Nat
/-- a byte of the contents: by its end ce, its length's place lp -/
def tk (B : Nat → Nat) (sz ce lp p lo hi : Nat) : Except Er Nat := if ce ≤ p then .error (5, lp) else if sz ≤ p then .error (1, sz) else if B p < lo ∨ hi < B p then .error (6, p) else .ok (B p)
theorem O_takeF {n : Nat} {a b : Int32} {t : St} (h : t.1 13 ≠ 0) : m_Parser_take n a b t = some (mI, t) := by
  unfold m_Parser_take
  rw [if_neg h]; rfl
/-- what a take comes to -/
def tkO (t : St) (p : Nat) : Except Er Nat → Int32 × St
  | .error e => (mI, sG (sG t 13 (nI e.1)) 14 (nI e.2))
  | .ok v => (nI v, sG t 9 (nI (p + 1)))
theorem O_take {n : Nat} {B : Nat → Nat} {sz ce lp p lo hi : Nat} {t : St} (h : InO B sz t) (h13 : t.1 13 = 0) (h9 : t.1 9 = nI p) (h11 : t.1 11 = nI ce) (h10 : t.1 10 = nI lp) (hp : p < 1048576) (hc : ce < 1048576) (hlo : lo < 256) (hhi : hi < 256) : m_Parser_take n (nI lo) (nI hi) t = some (tkO t p (tk B sz ce lp p lo hi)) := by
  have hI := h
  obtain ⟨h0, h1, h2, h3, h4⟩ := h
  unfold m_Parser_take
  rw [if_pos h13, h9, h11, h10]
  unfold tk
  by_cases c1 : ce ≤ p
  · rw [if_neg (nI_nlt (a := p) (b := ce) (by omega) (by omega)), if_pos c1, O_fail h13]; rfl
  · rw [if_pos (nI_lt (a := p) (b := ce) (by omega) (by omega)), if_neg c1, O_at hI (by omega)]
    simp only [Option.bind_some]
    by_cases c2 : sz ≤ p
    · rw [bt_out (by omega), if_pos (show mI = -1 from rfl), if_pos c2, O_fail h13, h0]; rfl
    · have h5 := h4 p (by omega)
      rw [bt_in (by omega), if_neg (show ¬ nI (B p) = -1 from fun e => (eq_mI (a := B p) (by omega)).mp e), if_neg c2]
      by_cases c3 : B p < lo
      · rw [if_pos (nI_lt c3 (by omega)), if_pos (Or.inl c3)]
        unfold m_Parser_take_70
        rw [O_fail h13, h9]; rfl
      · rw [if_neg (nI_nlt (by omega) (by omega))]
        by_cases c4 : hi < B p
        · rw [if_neg (nI_ge c4 (by omega)), if_pos (Or.inr c4)]
          unfold m_Parser_take_70
          rw [O_fail h13, h9]; rfl
        · rw [if_pos (nI_le (by omega) (by omega)), if_neg (by omega), h9, nI_1]; rfl
theorem O_refF {n : Nat} {t : St} (h : t.1 13 ≠ 0) : m_Parser_refuseTaken n t = some t := by
  unfold m_Parser_refuseTaken
  rw [O_failF h]; rfl
theorem O_ref {n : Nat} {t : St} {p : Nat} (h : t.1 13 = 0) (h9 : t.1 9 = nI (p + 1)) : m_Parser_refuseTaken n t = some (sG (sG t 13 6) 14 (nI p)) := by
  unfold m_Parser_refuseTaken
  rw [O_fail h, h9, nI_pred]; rfl
/-- two bytes -/
def tp (B : Nat → Nat) (sz ce lp p lo hi : Nat) : Except Er Nat := match tk B sz ce lp p 0 255 with
  | .error e => .error e
  | .ok a => match tk B sz ce lp (p + 1) 0 255 with
    | .error e => .error e
    | .ok b => if 256 * a + b < lo ∨ hi < 256 * a + b then .error (6, p + 1) else .ok (256 * a + b)
theorem tk_lt {B : Nat → Nat} {sz ce lp p lo hi v : Nat} (h : tk B sz ce lp p lo hi = .ok v) : v = B p ∧ p < ce ∧ p < sz ∧ lo ≤ v ∧ v ≤ hi := by
  unfold tk at h
  by_cases c1 : ce ≤ p
  · rw [if_pos c1] at h; cases h
  · rw [if_neg c1] at h
    by_cases c2 : sz ≤ p
    · rw [if_pos c2] at h; cases h
    · rw [if_neg c2] at h
      by_cases c3 : B p < lo ∨ hi < B p
      · rw [if_pos c3] at h; cases h
      · rw [if_neg c3] at h
        cases h
        exact ⟨rfl, by omega, by omega, by omega, by omega⟩
theorem tk_er {B : Nat → Nat} {sz ce lp p lo hi : Nat} {e : Er} (h : tk B sz ce lp p lo hi = .error e) : (e.1 = 5 ∨ e.1 = 1 ∨ e.1 = 6) ∧ (e.2 = lp ∨ e.2 = sz ∨ e.2 = p) := by
  unfold tk at h
  by_cases c1 : ce ≤ p
  · rw [if_pos c1] at h; cases h; exact ⟨Or.inl rfl, Or.inl rfl⟩
  · rw [if_neg c1] at h
    by_cases c2 : sz ≤ p
    · rw [if_pos c2] at h; cases h; exact ⟨Or.inr (Or.inl rfl), Or.inr (Or.inl rfl)⟩
    · rw [if_neg c2] at h
      by_cases c3 : B p < lo ∨ hi < B p
      · rw [if_pos c3] at h; cases h; exact ⟨Or.inr (Or.inr rfl), Or.inr (Or.inr rfl)⟩
      · rw [if_neg c3] at h; cases h
/-- the class's state with a fault -/
def fO (t : St) (e : Er) : St := sG (sG t 13 (nI e.1)) 14 (nI e.2)
theorem fO_ne {t : St} {e : Er} (h : e.1 = 5 ∨ e.1 = 1 ∨ e.1 = 6) : (fO t e).1 13 ≠ 0 := by
  show nI e.1 ≠ 0
  rcases h with h | h | h <;> rw [h] <;> decide
/-- a fault stands -/
def FO (t : St) : Prop := ∃ f : Nat, 1 ≤ f ∧ f ≤ 8 ∧ t.1 13 = nI f
theorem FO.ne {t : St} (h : FO t) : t.1 13 ≠ 0 := by
  obtain ⟨f, h1, h2, h3⟩ := h
  rw [h3]
  exact nI_ne0 (by omega) (by omega)
/-- the class's state has the fault e -/
def Fz (z : St) (e : Er) : Prop := z.1 13 = nI e.1 ∧ z.1 14 = nI e.2 ∧ 1 ≤ e.1 ∧ e.1 ≤ 8
theorem Fz.FO {z : St} {e : Er} (h : Fz z e) : FO z := ⟨e.1, h.2.2.1, h.2.2.2, h.1⟩
theorem Fz.ne {z : St} {e : Er} (h : Fz z e) : z.1 13 ≠ 0 := h.FO.ne
theorem Fz.keep {t z : St} {e : Er} (h : Fz t e) (k : Fk 13 14 t z) : Fz z e := ⟨k.1.trans h.1, k.2.trans h.2.1, h.2.2⟩
theorem fO_z {t : St} {e : Er} (h : e.1 = 5 ∨ e.1 = 1 ∨ e.1 = 6) : Fz (fO t e) e := ⟨rfl, rfl, by omega, by omega⟩
theorem sG_sG {t : St} {k : Nat} {a b : Int32} : sG (sG t k a) k b = sG t k b := by
  unfold sG upd
  refine Prod.ext (funext fun j => ?_) rfl
  show (if j = k then b else if j = k then a else t.1 j) = if j = k then b else t.1 j
  by_cases h : j = k
  · rw [if_pos h, if_pos h]
  · rw [if_neg h, if_neg h, if_neg h]
theorem sG_at {t : St} {k : Nat} {a : Int32} : (sG t k a).1 k = a := if_pos rfl
theorem sG_ne {t : St} {k j : Nat} {a : Int32} (h : j ≠ k) : (sG t k a).1 j = t.1 j := if_neg h
theorem O_takePairF {n : Nat} {a b : Int32} {t : St} (h : t.1 13 ≠ 0) : m_Parser_takePair n a b t = some (mI, t) := by
  unfold m_Parser_takePair m_Parser_takePair_41 m_Parser_takePair_45
  simp only [O_takeF h, Option.bind_some, O_refF h, if_neg h]
  by_cases c1 : 256 * mI + mI < a
  · rw [if_pos c1]; rfl
  · rw [if_neg c1]
    by_cases c2 : 256 * mI + mI ≤ b
    · rw [if_pos c2]; rfl
    · rw [if_neg c2]; rfl
theorem O_takePair {n : Nat} {B : Nat → Nat} {sz ce lp p lo hi : Nat} {t : St} (h : InO B sz t) (h13 : t.1 13 = 0) (h9 : t.1 9 = nI p) (h11 : t.1 11 = nI ce) (h10 : t.1 10 = nI lp) (hp : p + 1 < 1048576) (hc : ce < 1048576) (hlo : lo < 65536) (hhi : hi < 65536) : (∀ e, tp B sz ce lp p lo hi = .error e → ∃ z, m_Parser_takePair n (nI lo) (nI hi) t = some (mI, z) ∧ Fz z e) ∧ ∀ v, tp B sz ce lp p lo hi = .ok v → m_Parser_takePair n (nI lo) (nI hi) t = some (nI v, sG t 9 (nI (p + 2))) := by
  have e1 : m_Parser_take n 0 255 t = some (tkO t p (tk B sz ce lp p 0 255)) := O_take (lo := 0) (hi := 255) h h13 h9 h11 h10 (by omega) hc (by omega) (by omega)
  unfold tp m_Parser_takePair
  rw [e1]
  cases h1 : tk B sz ce lp p 0 255 with
  | error e =>
    have hz := fO_z (t := t) (tk_er h1).1
    refine ⟨fun e' he => ?_, fun v hv => by cases hv⟩
    cases he
    refine ⟨fO t e, ?_, hz⟩
    simp only [Option.bind_some, tkO]
    have := O_takePairF (n := n) (a := nI lo) (b := nI hi) (t := fO t e) hz.ne
    unfold m_Parser_takePair at this
    rw [O_takeF hz.ne] at this
    exact this
  | ok a =>
    obtain ⟨a1, a2, a3, a4, a5⟩ := tk_lt h1
    have e2 : m_Parser_take n 0 255 (sG t 9 (nI (p + 1))) = some (tkO (sG t 9 (nI (p + 1))) (p + 1) (tk B sz ce lp (p + 1) 0 255)) := O_take (lo := 0) (hi := 255) (t := sG t 9 (nI (p + 1))) h h13 rfl h11 h10 (by omega) hc (by omega) (by omega)
    simp only [Option.bind_some, tkO]
    rw [e2]
    cases h2 : tk B sz ce lp (p + 1) 0 255 with
    | error e =>
      have hz := fO_z (t := sG t 9 (nI (p + 1))) (tk_er h2).1
      refine ⟨fun e' he => ?_, fun v hv => by cases hv⟩
      cases he
      refine ⟨fO (sG t 9 (nI (p + 1))) e, ?_, hz⟩
      simp only [Option.bind_some, tkO]
      show (if 256 * nI a + mI < nI lo then m_Parser_takePair_41 n (256 * nI a + mI) (fO (sG t 9 (nI (p + 1))) e) else if 256 * nI a + mI ≤ nI hi then m_Parser_takePair_45 n (256 * nI a + mI) (fO (sG t 9 (nI (p + 1))) e) else m_Parser_takePair_41 n (256 * nI a + mI) (fO (sG t 9 (nI (p + 1))) e)) = _
      have q1 : m_Parser_takePair_45 n (256 * nI a + mI) (fO (sG t 9 (nI (p + 1))) e) = some (mI, fO (sG t 9 (nI (p + 1))) e) := by unfold m_Parser_takePair_45; rw [if_neg hz.ne]; rfl
      have q2 : m_Parser_takePair_41 n (256 * nI a + mI) (fO (sG t 9 (nI (p + 1))) e) = some (mI, fO (sG t 9 (nI (p + 1))) e) := by unfold m_Parser_takePair_41; rw [O_refF hz.ne]; exact q1
      rw [q1, q2]
      by_cases c1 : 256 * nI a + mI < nI lo
      · rw [if_pos c1]
      · rw [if_neg c1]
        by_cases c2 : 256 * nI a + mI ≤ nI hi
        · rw [if_pos c2]
        · rw [if_neg c2]
    | ok b =>
      obtain ⟨b1, b2, b3, b4, b5⟩ := tk_lt h2
      have e3 : (256 : Int32) * nI a + nI b = nI (256 * a + b) := by rw [show (256 : Int32) = nI 256 from rfl, pk_mul, nI_add]
      simp only [Option.bind_some, tkO, e3, sG_sG]
      have q1 : m_Parser_takePair_45 n (nI (256 * a + b)) (sG t 9 (nI (p + 1 + 1))) = some (nI (256 * a + b), sG t 9 (nI (p + 2))) := by exact if_pos h13
      have q2 : m_Parser_takePair_41 n (nI (256 * a + b)) (sG t 9 (nI (p + 1 + 1))) = some (mI, fO (sG t 9 (nI (p + 2))) (6, p + 1)) := by
        unfold m_Parser_takePair_41
        rw [O_ref (p := p + 1) (t := sG t 9 (nI (p + 1 + 1))) h13 rfl]
        rfl
      rw [q1, q2]
      by_cases c : 256 * a + b < lo ∨ hi < 256 * a + b
      · rw [if_pos c]
        refine ⟨fun e' he => ?_, fun v hv => by cases hv⟩
        cases he
        refine ⟨_, ?_, fO_z (t := sG t 9 (nI (p + 2))) (Or.inr (Or.inr rfl))⟩
        by_cases c1 : 256 * a + b < lo
        · rw [if_pos (nI_lt c1 (by omega))]
        · rw [if_neg (nI_nlt (by omega) (by omega)), if_neg (nI_ge (by omega) (by omega))]
      · rw [if_neg c]
        refine ⟨fun e' he => (by cases he), fun v hv => ?_⟩
        cases hv
        rw [if_neg (nI_nlt (by omega) (by omega)), if_pos (nI_le (by omega) (by omega))]

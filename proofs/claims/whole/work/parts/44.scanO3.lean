/-- a fault, if there is none yet -/
def fS (t : St) (e : Er) : St := if t.1 13 = 0 then fO t e else t
theorem fS_0 {t : St} {e : Er} (h : t.1 13 = 0) : fS t e = fO t e := if_pos h
theorem fS_1 {t : St} {e : Er} (h : t.1 13 ≠ 0) : fS t e = t := if_neg h
theorem O_failS {n a b : Nat} {t : St} : m_Parser_fail n (nI a) (nI b) t = some (mI, fS t (a, b)) := by
  by_cases h : t.1 13 = 0
  · rw [O_fail h, fS_0 h]; rfl
  · rw [O_failF h, fS_1 h]
theorem fS_2 {t : St} {e : Er} (he : e.1 ≠ 0 ∧ e.1 < 100) : fS (fS t e) e = fS t e := by
  by_cases h : t.1 13 = 0
  · rw [fS_0 h, fS_1 (show (fO t e).1 13 ≠ 0 from nI_ne0 (by omega) (by omega))]
  · rw [fS_1 h, fS_1 h]
theorem fS_k {t : St} {e : Er} {k : Nat} (h : k ≠ 13) (h2 : k ≠ 14) : (fS t e).1 k = t.1 k := by
  unfold fS
  by_cases c : t.1 13 = 0
  · rw [if_pos c]
    show (if k = 14 then _ else if k = 13 then _ else t.1 k) = _
    rw [if_neg h2, if_neg h]
  · rw [if_neg c]
theorem fS_h {t : St} {e : Er} : (fS t e).2 = t.2 := by
  unfold fS
  by_cases c : t.1 13 = 0
  · rw [if_pos c]; rfl
  · rw [if_neg c]
theorem O_pow {n tb : Nat} {t : St} (h : tb < 20) (h2 : ¬ (3 < tb ∧ tb < 16)) : m_Picture_placeOfWords n (nI tb) t = some (t.2.1 5 (wrow tb), t) := by
  have hw := wrow_lt h h2
  unfold m_Picture_placeOfWords
  rw [O_row h h2, Option.bind_some]
  dsimp only
  rw [if_neg (nI_pos (by omega)), if_neg (show ¬ Int32.ofNat 8 ≤ nI (wrow tb) from nI_ge (b := 8) hw (by omega)), if_neg (nI_in (N := 8) hw (by omega)), nI_clamp (by omega)]
/-- tables of words that a component wants and has not -/
def ndW (fi la bf : Nat) (wm : Nat → Option Nat) (tv : Nat) : Bool := decide (fi = 0 ∧ bf = 0 ∧ wm (tv / 16) = none) || decide (0 < la ∧ wm (4 + tv % 16) = none)
def nd1 (B : Nat → Nat) (c0 fi la bf : Nat) (tq : Nat → Nat) (qm wm : Nat → Option Nat) (cf : Nat → Nat) (k : Nat) : Except Er Unit := if qm (tq (cf k)) = none then .error (8, c0 + 1 + 2 * k) else if ndW fi la bf wm (B (c0 + 2 + 2 * k)) = true then .error (8, c0 + 2 + 2 * k) else .ok ()
def nd (B : Nat → Nat) (c0 fi la bf : Nat) (tq : Nat → Nat) (qm wm : Nat → Option Nat) (cf : Nat → Nat) : Nat → Nat → Except Er Unit
  | 0, _ => .ok ()
  | m + 1, k => eb (nd1 B c0 fi la bf tq qm wm cf k) (fun _ => nd B c0 fi la bf tq qm wm cf m (k + 1))
def bdd (qm : Nat → Option Nat) : Prop := ∀ j q, qm j = some q → q < 100000
theorem O_ct130 {n k la nmp tv : Nat} {K2 : Int32 → St → Option St} {wm : Nat → Option Nat} {t : St} (h18 : t.1 18 = nI la) (hla : la < 64) (hW : PW (t.2.1 5) wm) (hb : bdd wm) (htv : tv < 256) (ht2 : tv % 16 < 4) : m_Parser_checkTables_130 n K2 (nI k) (nI nmp) (nI tv) t = K2 (nI (k + 1)) (if 0 < la ∧ wm (4 + tv % 16) = none then fS t (8, nmp + 1) else t) := by
  unfold m_Parser_checkTables_130 m_Parser_checkTables_168
  rw [h18, b15 tv htv, show (16 : Int32) + nI (tv % 16) = nI (16 + tv % 16) from nI_add 16 _, O_pow (tb := 16 + tv % 16) (by omega) (by omega), Option.bind_some]
  dsimp only
  have ew : wrow (16 + tv % 16) = 4 + tv % 16 := by unfold wrow; rw [if_neg (by omega)]; omega
  rw [ew, hW (4 + tv % 16) (by omega), show (8 : Int32) = nI 8 from rfl, nI_1 k, nI_1 nmp, O_failS, Option.bind_some]
  dsimp only
  have hm := oI_m1 (a := wm (4 + tv % 16)) (fun q hq => by have := hb _ q hq; omega)
  by_cases c1 : 0 < la
  · rw [if_neg (nI_nle c1 (by omega))]
    by_cases c2 : wm (4 + tv % 16) = none
    · rw [if_pos (hm.mpr c2), if_pos ⟨c1, c2⟩]
    · rw [if_neg (fun x => c2 (hm.mp x)), if_neg (fun x => c2 x.2)]
  · rw [if_pos (show nI la ≤ 0 from nI_le (a := la) (b := 0) (by omega) (by omega)), if_neg (fun x => c1 x.1)]
theorem O_ct74 {n k fi la bf nmp tv : Nat} {K2 : Int32 → St → Option St} {wm : Nat → Option Nat} {t : St} (h17 : t.1 17 = nI fi) (h18 : t.1 18 = nI la) (h19 : t.1 19 = nI bf) (hfi : fi < 64) (hbf : bf < 16) (hla : la < 64) (hW : PW (t.2.1 5) wm) (hb : bdd wm) (htv : tv < 256) (ht1 : tv / 16 < 4) (ht2 : tv % 16 < 4) : m_Parser_checkTables_74 n K2 (nI k) (nI nmp) (nI tv) t = K2 (nI (k + 1)) (if ndW fi la bf wm tv = true then fS t (8, nmp + 1) else t) := by
  have e98 : m_Parser_checkTables_98 n K2 (nI k) (nI nmp) (nI tv) t = K2 (nI (k + 1)) (if 0 < la ∧ wm (4 + tv % 16) = none then fS t (8, nmp + 1) else t) := by
    unfold m_Parser_checkTables_98 m_Parser_checkTables_99
    rw [if_pos rfl]
    exact O_ct130 h18 hla hW hb htv ht2
  have hm := oI_m1 (a := wm (tv / 16)) (fun q hq => by have := hb _ q hq; omega)
  have e99 : m_Parser_checkTables_99 n K2 (nI k) (nI nmp) (nI tv) 1 t = K2 (nI (k + 1)) (if wm (tv / 16) = none ∨ (0 < la ∧ wm (4 + tv % 16) = none) then fS t (8, nmp + 1) else t) := by
    unfold m_Parser_checkTables_99
    rw [if_neg (by decide), b4 tv htv, O_pow (tb := tv / 16) (by omega) (by omega), Option.bind_some]
    dsimp only
    have ew : wrow (tv / 16) = tv / 16 := by unfold wrow; rw [if_pos (by omega)]
    rw [ew, hW (tv / 16) (by omega), show (8 : Int32) = nI 8 from rfl, nI_1, O_failS, Option.bind_some]
    dsimp only
    by_cases c2 : wm (tv / 16) = none
    · rw [if_pos (hm.mpr c2), O_ct130 (t := fS t (8, nmp + 1)) (by rw [fS_k (by omega) (by omega)]; exact h18) hla (by rw [fS_h]; exact hW) hb htv ht2, fS_2 ⟨by simp, by simp⟩, if_pos (Or.inl c2)]
      exact congrArg _ (ite_self _)
    · rw [if_neg (fun x => c2 (hm.mp x)), O_ct130 h18 hla hW hb htv ht2]
      by_cases c3 : 0 < la ∧ wm (4 + tv % 16) = none
      · rw [if_pos c3, if_pos (Or.inr c3)]
      · rw [if_neg c3, if_neg (fun x => x.elim c2 c3)]
  unfold m_Parser_checkTables_74 ndW
  rw [h17, h19]
  by_cases c1 : fi = 0
  · rw [if_pos (show nI fi = 0 by rw [c1]; rfl)]
    by_cases c2 : bf = 0
    · rw [if_pos (show nI bf = 0 by rw [c2]; rfl), e99]
      by_cases c3 : wm (tv / 16) = none ∨ (0 < la ∧ wm (4 + tv % 16) = none)
      · rw [if_pos c3, if_pos (by simpa [c1, c2] using c3)]
      · rw [if_neg c3, if_neg (by simpa [c1, c2] using c3)]
    · rw [if_neg (nI_ne0 (by omega) (by omega)), e98]
      by_cases c3 : 0 < la ∧ wm (4 + tv % 16) = none
      · rw [if_pos c3, if_pos (by simpa [c1, c2] using c3)]
      · rw [if_neg c3, if_neg (by simpa [c1, c2] using c3)]
  · rw [if_neg (nI_ne0 (by omega) (by omega)), e98]
    by_cases c3 : 0 < la ∧ wm (4 + tv % 16) = none
    · rw [if_pos c3, if_pos (by simpa [c1] using c3)]
    · rw [if_neg c3, if_neg (by simpa [c1] using c3)]
theorem O_hasQ {n tb : Nat} {qm : Nat → Option Nat} {t : St} (h : tb < 4) (hQ : PQ (t.2.1 4) qm) (hb : bdd qm) : m_Picture_hasQuantisers n (nI tb) t = some (if qm tb = none then 0 else 1, t) := by
  have hm := oI_m1 (a := qm tb) (fun q hq => by have := hb _ q hq; omega)
  unfold m_Picture_hasQuantisers m_Picture_hasQuantisers_27
  rw [if_neg (nI_pos (by omega)), if_neg (show ¬ Int32.ofNat 4 ≤ nI tb from nI_ge (b := 4) h (by omega)), if_neg (nI_in (N := 4) h (by omega)), nI_clamp (by omega), hQ tb h]
  by_cases c : qm tb = none
  · rw [if_pos (hm.mpr c), if_pos c]
  · rw [if_neg (fun x => c (hm.mp x)), if_neg c]
theorem O_ct2F {n f : Nat} {x : Int32} {t : St} (h : t.1 13 ≠ 0) : m_Parser_checkTables_2 n (f + 1) x t = some t := by
  show m_Parser_checkTables_2b n _ x t = _
  unfold m_Parser_checkTables_2b
  rw [if_neg h]
  exact ite_self _
abbrev tqB (B : Nat → Nat) (p0 : Nat) (j : Nat) : Nat := B (p0 + 3 * j + 2)
theorem O_nd {n c0 c fi la bf bi cnt p0 sz : Nat} {B : Nat → Nat} {cf : Nat → Nat} {qm wm : Nat → Option Nat} {t : St} (hn : 20000 ≤ n) (hI : InO B sz t) (hS : ScO c0 c fi la bf bi cnt cf t) (hF : FrO B p0 cnt t) (h13 : t.1 13 = 0) (hQ : PQ (t.2.1 4) qm) (hbq : bdd qm) (hW : PW (t.2.1 5) wm) (hbw : bdd wm) (hsz : c0 + 1 + 2 * c ≤ sz) (htb : ∀ k, k < c → B (c0 + 2 + 2 * k) / 16 < 4 ∧ B (c0 + 2 + 2 * k) % 16 < 4) (htq : ∀ j, j < cnt → tqB B p0 j < 4) : ∀ (m f k : Nat), k + m = c → m + 1 < f → Ev Fz (m_Parser_checkTables_2 n f (nI k) t) (nd B c0 fi la bf (tqB B p0) qm wm cf m k) (fun _ z => z = t) := by
  obtain ⟨s15, s16, s17, s18, s19, s20, sP, sc, scn, sfl, sla, sbf, sbi, sc0⟩ := hS
  intro m
  induction m with
  | zero =>
    intro f k hk hf
    obtain ⟨f, rfl⟩ : ∃ g, f = g + 1 := ⟨f - 1, by omega⟩
    refine Ev.ok ⟨t, ?_, rfl⟩
    show m_Parser_checkTables_2b n _ (nI k) t = _
    unfold m_Parser_checkTables_2b
    rw [if_pos (by rw [s16]; exact nI_le (by omega) (by omega))]
  | succ m ih =>
    intro f k hk hf
    obtain ⟨f, rfl⟩ : ∃ g, f = g + 1 := ⟨f - 1, by omega⟩
    obtain ⟨f, rfl⟩ : ∃ g, f = g + 1 := ⟨f - 1, by omega⟩
    obtain ⟨p1, p2⟩ := sP k (by omega)
    obtain ⟨u1, u2⟩ := htb k (by omega)
    obtain ⟨h4, hc4, hPC⟩ := hF
    obtain ⟨-, -, -, g4, -, -, -⟩ := hPC (cf k) p2
    have e0 : m_Parser_checkTables_2 n (f + 1 + 1) (nI k) t = if (if qm (tqB B p0 (cf k)) = none then (0 : Int32) else 1) = 0 then m_Parser_checkTables_74 n (m_Parser_checkTables_2 n (f + 1)) (nI k) (nI (c0 + 1 + 2 * k)) (nI (B (c0 + 2 + 2 * k))) (fS t (8, c0 + 1 + 2 * k)) else m_Parser_checkTables_74 n (m_Parser_checkTables_2 n (f + 1)) (nI k) (nI (c0 + 1 + 2 * k)) (nI (B (c0 + 2 + 2 * k))) t := by
      show m_Parser_checkTables_2b n _ (nI k) t = _
      unfold m_Parser_checkTables_2b
      rw [if_neg (by rw [s16]; exact nI_ge (by omega) (by omega)), if_pos h13, O_nmAt s15, Option.bind_some]
      dsimp only
      rw [nI_1, O_at hI (by omega), Option.bind_some]
      dsimp only
      rw [O_plAt (by omega), Option.bind_some]
      dsimp only
      have oc := O_ofC (n := n) (c := cf k) (w := 3) h4 hc4 p2 (by omega)
      rw [g4] at oc
      rw [p1, show (3 : Int32) = nI 3 from rfl, oc, Option.bind_some]
      dsimp only
      rw [O_hasQ (htq _ p2) hQ hbq, Option.bind_some]
      dsimp only
      rw [show (8 : Int32) = nI 8 from rfl, O_failS, Option.bind_some, bt_in (by omega), show c0 + 1 + 2 * k + 1 = c0 + 2 + 2 * k by omega]
    have hB : B (c0 + 2 + 2 * k) < 256 := (hI.2.2.2.2 _ (by omega)).2
    have e74 := O_ct74 (n := n) (k := k) (nmp := c0 + 1 + 2 * k) (K2 := m_Parser_checkTables_2 n (f + 1)) s17 s18 s19 (by omega) sbf sla hW hbw hB u1 u2
    have hz8 : Fz (fO t (8, c0 + 1 + 2 * k)) (8, c0 + 1 + 2 * k) := ⟨rfl, rfl, by omega, by omega⟩
    have e74F := O_ct74 (n := n) (k := k) (nmp := c0 + 1 + 2 * k) (K2 := m_Parser_checkTables_2 n (f + 1)) (t := fO t (8, c0 + 1 + 2 * k)) (tv := B (c0 + 2 + 2 * k)) s17 s18 s19 (by omega) sbf sla hW hbw hB u1 u2
    rw [fS_1 hz8.ne, ite_self, O_ct2F hz8.ne] at e74F
    rw [e0, fS_0 h13, e74F, e74]
    show Ev Fz _ (eb (nd1 B c0 fi la bf (tqB B p0) qm wm cf k) _) _
    unfold nd1
    by_cases c1 : qm (tqB B p0 (cf k)) = none
    · rw [if_pos c1, if_pos c1, if_pos rfl]
      exact Ev.er ⟨_, rfl, hz8⟩
    · rw [if_neg c1, if_neg c1, if_neg (by decide)]
      by_cases c2 : ndW fi la bf wm (B (c0 + 2 + 2 * k)) = true
      · rw [if_pos c2, if_pos c2, fS_0 h13]
        have hz : Fz (fO t (8, c0 + 2 + 2 * k)) (8, c0 + 2 + 2 * k) := ⟨rfl, rfl, by omega, by omega⟩
        rw [show c0 + 1 + 2 * k + 1 = c0 + 2 + 2 * k by omega]
        exact Ev.er ⟨_, O_ct2F hz.ne, hz⟩
      · rw [if_neg c2, if_neg c2]
        exact ih (f + 1) (k + 1) (by omega) (by omega)
/-- the latest BITS with those of a scan -/
def nti (b base : Nat) : Nat → Nat → (Nat → Option Nat) → (Nat → Option Nat)
  | 0, _, lt => lt
  | m + 1, i, lt => nti b base m (i + 1) (va_up lt (base + i) (some b))
def nt (b fi la : Nat) (cf : Nat → Nat) : Nat → Nat → (Nat → Option Nat) → (Nat → Option Nat)
  | 0, _, lt => lt
  | m + 1, k, lt => nt b fi la cf m (k + 1) (nti b (64 * cf k) (la + 1 - fi) fi lt)
theorem PL_up {f : Nat → Int32} {lt : Nat → Option Nat} {i b : Nat} (h : PL f lt) (hb : b < 16) : PL (upd f i (nI b)) (va_up lt i (some b)) := by
  intro j hj
  show (if j = i then nI b else f j) = oI (if j = i then some b else lt j) ∧ ∀ q, (if j = i then some b else lt j) = some q → q < 16
  by_cases c : j = i
  · rw [if_pos c, if_pos c]; exact ⟨rfl, fun q hq => by cases hq; exact hb⟩
  · rw [if_neg c, if_neg c]; exact h j hj
/-- as t, but for the array 7 -/
def Eq7 (t z : St) : Prop := z.1 = t.1 ∧ z.2.2 = t.2.2 ∧ ∀ j, j ≠ 7 → z.2.1 j = t.2.1 j
theorem O_n40 {n k la b base : Nat} {K2 : Int32 → St → Option St} (hla : la < 64) (hb : b < 16) (hbase : base + 64 ≤ 256) : ∀ (m f i : Nat) (t : St) (lt : Nat → Option Nat), i + m = la + 1 → m < f → t.1 18 = nI la → t.1 20 = nI b → PL (t.2.1 7) lt → ∃ z, m_Parser_noteSent_40 n K2 f (nI k) (nI base) (nI i) t = K2 (nI (k + 1)) z ∧ Eq7 t z ∧ PL (z.2.1 7) (nti b base m i lt) := by
  intro m
  induction m with
  | zero =>
    intro f i t lt hi hf h18 h20 hL
    obtain ⟨f, rfl⟩ : ∃ g, f = g + 1 := ⟨f - 1, by omega⟩
    refine ⟨t, ?_, ⟨rfl, rfl, fun _ _ => rfl⟩, hL⟩
    show m_Parser_noteSent_40b n K2 _ (nI k) (nI base) (nI i) t = _
    unfold m_Parser_noteSent_40b
    rw [if_pos (by rw [h18]; exact nI_lt (by omega) (by omega)), nI_1]
  | succ m ih =>
    intro f i t lt hi hf h18 h20 hL
    obtain ⟨f, rfl⟩ : ∃ g, f = g + 1 := ⟨f - 1, by omega⟩
    obtain ⟨z, z1, ⟨z2, z3, z4⟩, z5⟩ := ih f (i + 1) (sH t 7 (base + i) (nI b)) (va_up lt (base + i) (some b)) (by omega) (by omega) h18 h20 (PL_up hL hb)
    refine ⟨z, ?_, ⟨z2, z3, fun j hj => (z4 j hj).trans (sH_ne hj)⟩, z5⟩
    show m_Parser_noteSent_40b n K2 _ (nI k) (nI base) (nI i) t = _
    unfold m_Parser_noteSent_40b m_Parser_noteSent_85
    rw [if_neg (by rw [h18]; exact nI_nlt (by omega) (by omega)), nI_add, if_neg (nI_pos (by omega)), if_neg (show ¬ Int32.ofNat 256 ≤ nI (base + i) from nI_ge (b := 256) (by omega) (by omega)), if_neg (nI_in (N := 256) (by omega) (by omega)), nI_clamp (by omega), h20, nI_1, z1]
theorem O_nt {n c0 c fi la bf b cnt : Nat} {cf : Nat → Nat} (hn : 20000 ≤ n) : ∀ (m f k : Nat) (t : St) (lt : Nat → Option Nat), k + m = c → m < f → ScO c0 c fi la bf b cnt cf t → t.1 13 = 0 → PL (t.2.1 7) lt → ∃ z, m_Parser_noteSent_2 n f (nI k) t = some z ∧ Eq7 t z ∧ PL (z.2.1 7) (nt b fi la cf m k lt) := by
  intro m
  induction m with
  | zero =>
    intro f k t lt hk hf hS h13 hL
    obtain ⟨s15, s16, s17, s18, s19, s20, sP, sc, scn, sfl, sla, sbf, sbi, sc0⟩ := hS
    obtain ⟨f, rfl⟩ : ∃ g, f = g + 1 := ⟨f - 1, by omega⟩
    refine ⟨t, ?_, ⟨rfl, rfl, fun _ _ => rfl⟩, hL⟩
    show m_Parser_noteSent_2b n _ (nI k) t = _
    unfold m_Parser_noteSent_2b
    rw [if_pos (by rw [s16]; exact nI_le (by omega) (by omega))]
  | succ m ih =>
    intro f k t lt hk hf hS h13 hL
    have hS0 := hS
    obtain ⟨s15, s16, s17, s18, s19, s20, sP, sc, scn, sfl, sla, sbf, sbi, sc0⟩ := hS
    obtain ⟨f, rfl⟩ : ∃ g, f = g + 1 := ⟨f - 1, by omega⟩
    obtain ⟨p1, p2⟩ := sP k (by omega)
    obtain ⟨z, z1, ⟨z2, z3, z4⟩, z5⟩ := O_n40 (n := n) (k := k) (K2 := m_Parser_noteSent_2 n f) (base := 64 * cf k) sla sbi (by omega) (la + 1 - fi) n fi t lt (by omega) (by omega) s18 s20 hL
    obtain ⟨w, w1, ⟨w2, w3, w4⟩, w5⟩ := ih f (k + 1) z (nti b (64 * cf k) (la + 1 - fi) fi lt) (by omega) (by omega) (by unfold ScO; rw [z2, z4 6 (by omega)]; exact hS0) (by rw [z2]; exact h13) z5
    refine ⟨w, ?_, ⟨w2.trans z2, w3.trans z3, fun j hj => (w4 j hj).trans (z4 j hj)⟩, w5⟩
    show m_Parser_noteSent_2b n _ (nI k) t = _
    unfold m_Parser_noteSent_2b
    rw [if_neg (by rw [s16]; exact nI_ge (by omega) (by omega)), if_pos h13, O_plAt (by omega), Option.bind_some]
    dsimp only
    rw [p1, show (64 : Int32) = nI 64 from rfl, pk_mul, Nat.mul_comm (cf k) 64, s17, z1, w1]
theorem O_nt2F {n f : Nat} {x : Int32} {t : St} (h : t.1 13 ≠ 0) : m_Parser_noteSent_2 n (f + 1) x t = some t := by
  show m_Parser_noteSent_2b n _ x t = _
  unfold m_Parser_noteSent_2b
  rw [if_neg h]
  exact ite_self _
theorem O_147F {n : Nat} {t : St} {e : Er} (hn : 20000 ≤ n) (h : Fz t e) : ∃ z, m_Parser_readScan_147 n t = some z ∧ Fz z e := by
  obtain ⟨f, rfl⟩ : ∃ g, n = g + 1 := ⟨n - 1, by omega⟩
  refine ⟨t, ?_, h⟩
  unfold m_Parser_readScan_147 m_Parser_checkSent m_Parser_checkTables m_Parser_noteSent
  rw [O_cs2F h.ne, Option.bind_some, O_ct2F h.ne, Option.bind_some, O_nt2F h.ne, Option.bind_some]

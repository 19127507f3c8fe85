/-- what the byte of BITS is to be -/
def tbs (B : Nat → Nat) (sz ce lp q hi : Nat) : Except Er Nat := eb (tk B sz ce lp q 0 hi) (fun bb => if 13 < bb % 16 ∨ (bb / 16 ≠ 0 ∧ bb / 16 ≠ bb % 16 + 1) then .error (6, q) else .ok bb)
theorem O_bitsF {n : Nat} {x : Int32} {t : St} {e : Er} (h : Fz t e) : ∃ z, m_Parser_takeBits n x t = some z ∧ Fz z e := by
  unfold m_Parser_takeBits
  rw [O_takeF h.ne, Option.bind_some]
  dsimp only
  rw [if_pos (show (13 : Int32) < mI &&& 15 by decide)]
  unfold m_Parser_takeBits_69
  refine ⟨sG (sG t 19 (mI >>> ((4 : Int32) &&& 31))) 20 (mI &&& 15), ?_, h⟩
  rw [O_refF (t := sG (sG t 19 (mI >>> ((4 : Int32) &&& 31))) 20 (mI &&& 15)) h.ne]; rfl
theorem O_bits {n : Nat} {B : Nat → Nat} {sz ce lp q hi : Nat} {t : St} (hhi : hi < 256) (hA : At B sz ce lp q t) : Ev Fz (m_Parser_takeBits n (nI hi) t) (tbs B sz ce lp q hi) (fun bb z => z = sG (sG (sG t 9 (nI (q + 1))) 19 (nI (bb / 16))) 20 (nI (bb % 16)) ∧ bb = B q ∧ q + 1 ≤ sz ∧ q + 1 ≤ ce ∧ bb ≤ hi ∧ bb % 16 ≤ 13 ∧ (bb / 16 = 0 ∨ bb / 16 = bb % 16 + 1)) := by
  unfold m_Parser_takeBits tbs
  refine Ev.bind (hA.tkE (n := n) 0 hi (by omega) hhi) ?_ ?_
  · intro z e hz ⟨h1, h2⟩
    rw [h1]
    rw [if_pos (show (13 : Int32) < mI &&& 15 by decide)]
    unfold m_Parser_takeBits_69
    refine ⟨sG (sG z.2 19 (mI >>> ((4 : Int32) &&& 31))) 20 (mI &&& 15), ?_, h2⟩
    rw [O_refF (t := sG (sG z.2 19 (mI >>> ((4 : Int32) &&& 31))) 20 (mI &&& 15)) h2.ne]; rfl
  · rintro z bb - - ⟨rfl, h1, h2, h3, h4, h5⟩
    dsimp only
    rw [b4 bb (by omega), b15 bb (by omega)]
    have e69 : m_Parser_takeBits_69 n (sG (sG (sG t 9 (nI (q + 1))) 19 (nI (bb / 16))) 20 (nI (bb % 16))) = some (fO (sG (sG (sG t 9 (nI (q + 1))) 19 (nI (bb / 16))) 20 (nI (bb % 16))) (6, q)) := by
      unfold m_Parser_takeBits_69
      rw [O_ref (p := q) (t := sG (sG (sG t 9 (nI (q + 1))) 19 (nI (bb / 16))) 20 (nI (bb % 16))) hA.2.1 rfl]; rfl
    rw [e69]
    by_cases c : 13 < bb % 16 ∨ (bb / 16 ≠ 0 ∧ bb / 16 ≠ bb % 16 + 1)
    · rw [if_pos c]
      refine Ev.er ⟨fO (sG (sG (sG t 9 (nI (q + 1))) 19 (nI (bb / 16))) 20 (nI (bb % 16))) (6, q), ?_, fO_z (Or.inr (Or.inr rfl))⟩
      by_cases d1 : 13 < bb % 16
      · rw [if_pos (show (13 : Int32) < nI (bb % 16) from nI_lt (a := 13) d1 (by omega))]
      · rw [if_neg (show ¬ (13 : Int32) < nI (bb % 16) from nI_nlt (b := bb % 16) (a := 13) (by omega) (by omega)), if_neg (nI_ne0 (n := bb / 16) (by omega) (by omega)), nI_1, if_neg (show ¬ nI (bb / 16) = nI (bb % 16 + 1) from fun x => by have := (nI_eq (by omega) (by omega)).mp x; omega)]
    · rw [if_neg c]
      refine Ev.ok ⟨_, ?_, rfl, h1, by omega, by omega, h5, by omega, by omega⟩
      rw [if_neg (show ¬ (13 : Int32) < nI (bb % 16) from nI_nlt (b := bb % 16) (a := 13) (by omega) (by omega))]
      by_cases d1 : bb / 16 = 0
      · rw [if_pos (show nI (bb / 16) = 0 by rw [d1]; rfl)]
      · rw [if_neg (nI_ne0 (n := bb / 16) (by omega) (by omega)), nI_1, if_pos (show nI (bb / 16) = nI (bb % 16 + 1) by rw [show bb / 16 = bb % 16 + 1 by omega])]
/-- the latest BITS of each coefficient -/
def PL (f : Nat → Int32) (lt : Nat → Option Nat) : Prop := ∀ j, j < 256 → f j = oI (lt j) ∧ ∀ b, lt j = some b → b < 16
theorem oI_eq {a b : Option Nat} (ha : ∀ q, a = some q → q < 2 ^ 31) (hb : ∀ q, b = some q → q < 2 ^ 31) : oI a = oI b ↔ a = b := by
  cases a with
  | none => cases b with
    | none => exact ⟨fun _ => rfl, fun _ => rfl⟩
    | some y => exact ⟨fun h => ((mI_eq (hb y rfl)).mp h).elim, fun h => (by cases h)⟩
  | some x => cases b with
    | none => exact ⟨fun h => ((eq_mI (ha x rfl)).mp h).elim, fun h => (by cases h)⟩
    | some y => exact ⟨fun h => congrArg some ((nI_eq (ha x rfl) (hb y rfl)).mp h), fun h => by rw [h]⟩
theorem oI_m1 {a : Option Nat} (ha : ∀ q, a = some q → q < 2 ^ 31) : oI a = -1 ↔ a = none := oI_eq (b := none) ha (fun q h => by cases h)
def allD (lt : Nat → Option Nat) (due : Option Nat) (base : Nat) : Nat → Nat → Bool
  | 0, _ => true
  | m + 1, i => decide (lt (base + i) = due) && allD lt due base m (i + 1)
theorem O_lat {n c i : Nat} {t : St} (hc : c < 4) (hi : i < 64) : m_Parser_latestOf n (nI c) (nI i) t = some (t.2.1 7 (64 * c + i), t) := by
  have q : nI c * (64 : Int32) + nI i = nI (64 * c + i) := by rw [show (64 : Int32) = nI 64 from rfl, pk_mul, nI_add, Nat.mul_comm]
  unfold m_Parser_latestOf
  rw [q, if_neg (nI_pos (by omega)), if_neg (show ¬ Int32.ofNat 256 ≤ nI (64 * c + i) from nI_ge (b := 256) (by omega) (by omega)), if_neg (nI_in (N := 256) (by omega) (by omega)), nI_clamp (by omega)]
theorem O_c135F {n c k la : Nat} {K2 : Int32 → St → Option St} {x5 : Int32} {t : St} (hc : c < 4) (hla : la < 64) (h18 : t.1 18 = nI la) (h : t.1 13 ≠ 0) : ∀ (m f i : Nat), i + m = la + 1 → m < f → m_Parser_checkSent_135 n K2 f (nI k) (nI c) x5 (nI i) t = K2 (nI (k + 1)) t := by
  intro m
  induction m with
  | zero =>
    intro f i hi hf
    obtain ⟨f, rfl⟩ : ∃ g, f = g + 1 := ⟨f - 1, by omega⟩
    show m_Parser_checkSent_135b n K2 _ (nI k) (nI c) x5 (nI i) t = _
    unfold m_Parser_checkSent_135b
    rw [if_pos (by rw [h18]; exact nI_lt (by omega) (by omega)), nI_1]
  | succ m ih =>
    intro f i hi hf
    obtain ⟨f, rfl⟩ : ∃ g, f = g + 1 := ⟨f - 1, by omega⟩
    show m_Parser_checkSent_135b n K2 _ (nI k) (nI c) x5 (nI i) t = _
    unfold m_Parser_checkSent_135b m_Parser_checkSent_163
    rw [if_neg (by rw [h18]; exact nI_nlt (by omega) (by omega)), O_lat hc (by omega), Option.bind_some]
    dsimp only
    rw [O_refF h, Option.bind_some, nI_1, ih f (i + 1) (by omega) (by omega)]
    exact ite_self _
theorem O_c135 {n c k la q : Nat} {K2 : Int32 → St → Option St} {lt : Nat → Option Nat} {due : Option Nat} {t : St} (hc : c < 4) (hla : la < 64) (h18 : t.1 18 = nI la) (h13 : t.1 13 = 0) (h9 : t.1 9 = nI (q + 1)) (hL : PL (t.2.1 7) lt) (hd : ∀ b, due = some b → b < 100) : ∀ (m f i : Nat), i + m = la + 1 → m < f → m_Parser_checkSent_135 n K2 f (nI k) (nI c) (oI due) (nI i) t = K2 (nI (k + 1)) (if allD lt due (64 * c) m i = true then t else fO t (6, q)) := by
  intro m
  induction m with
  | zero =>
    intro f i hi hf
    obtain ⟨f, rfl⟩ : ∃ g, f = g + 1 := ⟨f - 1, by omega⟩
    show m_Parser_checkSent_135b n K2 _ (nI k) (nI c) (oI due) (nI i) t = _
    unfold m_Parser_checkSent_135b
    rw [if_pos (by rw [h18]; exact nI_lt (by omega) (by omega)), nI_1]; rfl
  | succ m ih =>
    intro f i hi hf
    obtain ⟨f, rfl⟩ : ∃ g, f = g + 1 := ⟨f - 1, by omega⟩
    obtain ⟨l1, l2⟩ := hL (64 * c + i) (by omega)
    have hiff := oI_eq (a := lt (64 * c + i)) (b := due) (fun q hq => by have := l2 q hq; omega) (fun q hq => by have := hd q hq; omega)
    show m_Parser_checkSent_135b n K2 _ (nI k) (nI c) (oI due) (nI i) t = _
    unfold m_Parser_checkSent_135b m_Parser_checkSent_163
    rw [if_neg (by rw [h18]; exact nI_nlt (by omega) (by omega)), O_lat hc (by omega), Option.bind_some]
    dsimp only
    rw [l1]
    by_cases e : lt (64 * c + i) = due
    · rw [if_pos (hiff.mpr e), nI_1, ih f (i + 1) (by omega) (by omega)]
      show _ = K2 _ (if (decide (lt (64 * c + i) = due) && allD lt due (64 * c) m (i + 1)) = true then _ else _)
      rw [decide_eq_true e, Bool.true_and]
    · rw [if_neg (fun x => e (hiff.mp x)), O_ref (p := q) h13 h9, Option.bind_some, nI_1]
      have hz : Fz (fO t (6, q)) (6, q) := ⟨rfl, rfl, by omega, by omega⟩
      show m_Parser_checkSent_135 n K2 f (nI k) (nI c) (oI due) (nI (i + 1)) (fO t (6, q)) = K2 _ (if (decide (lt (64 * c + i) = due) && allD lt due (64 * c) m (i + 1)) = true then _ else _)
      rw [O_c135F (t := fO t (6, q)) hc hla h18 hz.ne m f (i + 1) (by omega) (by omega), decide_eq_false e, Bool.false_and, if_neg (by decide)]
def dueOf (bf : Nat) : Option Nat := if bf = 0 then none else some bf
/-- the order of one component of a scan -/
def od1 (seq : Bool) (c0 q fi la bf : Nat) (lt : Nat → Option Nat) (cf : Nat → Nat) (k : Nat) : Except Er Unit := if ((lt (64 * cf k)).isSome && seq || decide (0 < fi) && !(lt (64 * cf k)).isSome) = true then .error (7, c0 + 1 + 2 * k) else if allD lt (dueOf bf) (64 * cf k) (la + 1 - fi) fi = true then .ok () else .error (6, q)
def od (seq : Bool) (c0 q fi la bf : Nat) (lt : Nat → Option Nat) (cf : Nat → Nat) : Nat → Nat → Except Er Unit
  | 0, _ => .ok ()
  | m + 1, k => eb (od1 seq c0 q fi la bf lt cf k) (fun _ => od seq c0 q fi la bf lt cf m (k + 1))
/-- a scan as the class holds it -/
def ScO (c0 c fi la bf bi cnt : Nat) (cf : Nat → Nat) (t : St) : Prop := t.1 15 = nI c0 ∧ t.1 16 = nI c ∧ t.1 17 = nI fi ∧ t.1 18 = nI la ∧ t.1 19 = nI bf ∧ t.1 20 = nI bi ∧ PS (t.2.1 6) cf cnt c ∧ c ≤ 4 ∧ cnt ≤ 4 ∧ fi ≤ la ∧ la < 64 ∧ bf < 16 ∧ bi < 16 ∧ c0 < 100000
theorem O_cs2F {n f : Nat} {x : Int32} {t : St} (h : t.1 13 ≠ 0) : m_Parser_checkSent_2 n (f + 1) x t = some t := by
  show m_Parser_checkSent_2b n _ x t = _
  unfold m_Parser_checkSent_2b
  rw [if_neg h]
  exact ite_self _
theorem O_plAt {n k : Nat} {t : St} (hk : k < 4) : m_Scan_placeAt n (nI k) t = some (t.2.1 6 k, t) := by
  unfold m_Scan_placeAt
  rw [if_neg (nI_pos (by omega)), if_neg (show ¬ Int32.ofNat 4 ≤ nI k from nI_ge (b := 4) hk (by omega)), if_neg (nI_in (N := 4) hk (by omega)), nI_clamp (by omega)]
theorem O_nmAt {n k c0 : Nat} {t : St} (h : t.1 15 = nI c0) : m_Scan_nameAt n (nI k) t = some (nI (c0 + 1 + 2 * k), t) := by
  unfold m_Scan_nameAt
  rw [h, show (1 : Int32) = nI 1 from rfl, show (2 : Int32) = nI 2 from rfl, nI_add, pk_mul, nI_add]
theorem O_cs103 {n c k q fi la bf : Nat} {K2 : Int32 → St → Option St} {lt : Nat → Option Nat} {t : St} (hn : 20000 ≤ n) (hc : c < 4) (h17 : t.1 17 = nI fi) (h18 : t.1 18 = nI la) (h19 : t.1 19 = nI bf) (hfl : fi ≤ la) (hla : la < 64) (hbf : bf < 16) (h13 : t.1 13 = 0) (h9 : t.1 9 = nI (q + 1)) (hL : PL (t.2.1 7) lt) : m_Parser_checkSent_103 n K2 (nI k) (nI c) t = K2 (nI (k + 1)) (if allD lt (dueOf bf) (64 * c) (la + 1 - fi) fi = true then t else fO t (6, q)) := by
  have hh := O_c135 (n := n) (c := c) (k := k) (K2 := K2) (due := dueOf bf) hc hla h18 h13 h9 hL (fun b hb => by unfold dueOf at hb; by_cases z : bf = 0; rw [if_pos z] at hb; cases hb; rw [if_neg z] at hb; cases hb; omega) (la + 1 - fi) n fi (by omega) (by omega)
  unfold m_Parser_checkSent_103 m_Parser_checkSent_124
  rw [h17, h19]
  by_cases z : bf = 0
  · rw [if_pos (show nI bf = 0 by rw [z]; rfl)]
    unfold dueOf at hh ⊢
    rw [if_pos z] at hh ⊢
    exact hh
  · rw [if_neg (nI_ne0 (by omega) (by omega))]
    unfold dueOf at hh ⊢
    rw [if_neg z] at hh ⊢
    exact hh
theorem O_cs103F {n c k fi la : Nat} {K2 : Int32 → St → Option St} {t : St} (hn : 20000 ≤ n) (hc : c < 4) (h17 : t.1 17 = nI fi) (h18 : t.1 18 = nI la) (hfl : fi ≤ la) (hla : la < 64) (h13 : t.1 13 ≠ 0) : m_Parser_checkSent_103 n K2 (nI k) (nI c) t = K2 (nI (k + 1)) t := by
  unfold m_Parser_checkSent_103 m_Parser_checkSent_124
  rw [h17, O_c135F hc hla h18 h13 (la + 1 - fi) n fi (by omega) (by omega), O_c135F hc hla h18 h13 (la + 1 - fi) n fi (by omega) (by omega)]
  exact ite_self _
theorem O_od {n c0 c fi la bf bi cnt q : Nat} {cf : Nat → Nat} {lt : Nat → Option Nat} {seq : Bool} {t : St} (hn : 20000 ≤ n) (hS : ScO c0 c fi la bf bi cnt cf t) (h13 : t.1 13 = 0) (h9 : t.1 9 = nI (q + 1)) (hq : q < 100000) (hL : PL (t.2.1 7) lt) (h1 : (t.1 1 = 192) ↔ seq = true) : ∀ (m f k : Nat), k + m = c → m + 1 < f → Ev Fz (m_Parser_checkSent_2 n f (nI k) t) (od seq c0 q fi la bf lt cf m k) (fun _ z => z = t) := by
  obtain ⟨s15, s16, s17, s18, s19, s20, sP, sc, scn, sfl, sla, sbf, sbi, sc0⟩ := hS
  intro m
  induction m with
  | zero =>
    intro f k hk hf
    obtain ⟨f, rfl⟩ : ∃ g, f = g + 1 := ⟨f - 1, by omega⟩
    refine Ev.ok ⟨t, ?_, rfl⟩
    show m_Parser_checkSent_2b n _ (nI k) t = _
    unfold m_Parser_checkSent_2b
    rw [if_pos (by rw [s16]; exact nI_le (by omega) (by omega))]
  | succ m ih =>
    intro f k hk hf
    obtain ⟨f, rfl⟩ : ∃ g, f = g + 1 := ⟨f - 1, by omega⟩
    obtain ⟨f, rfl⟩ : ∃ g, f = g + 1 := ⟨f - 1, by omega⟩
    obtain ⟨p1, p2⟩ := sP k (by omega)
    obtain ⟨l1, l2⟩ := hL (64 * cf k + 0) (by omega)
    have hb := oI_m1 (a := lt (64 * cf k + 0)) (fun q hq => by have := l2 q hq; omega)
    have e0 : m_Parser_checkSent_2 n (f + 1 + 1) (nI k) t = if oI (lt (64 * cf k + 0)) = -1 then m_Parser_checkSent_44 n (m_Parser_checkSent_2 n (f + 1)) (nI k) (nI (cf k)) 0 t else m_Parser_checkSent_44 n (m_Parser_checkSent_2 n (f + 1)) (nI k) (nI (cf k)) 1 t := by
      show m_Parser_checkSent_2b n _ (nI k) t = _
      unfold m_Parser_checkSent_2b
      rw [if_neg (by rw [s16]; exact nI_ge (by omega) (by omega)), if_pos h13, O_plAt (by omega), Option.bind_some]
      dsimp only
      rw [p1, show (0 : Int32) = nI 0 from rfl, O_lat (by omega) (by omega), Option.bind_some]
      dsimp only
      rw [l1]
    have e103 := O_cs103 (n := n) (c := cf k) (k := k) (K2 := m_Parser_checkSent_2 n (f + 1)) (q := q) hn (by omega) s17 s18 s19 sfl sla sbf h13 h9 hL
    have hz7 : Fz (fO t (7, c0 + 1 + 2 * k)) (7, c0 + 1 + 2 * k) := ⟨rfl, rfl, by omega, by omega⟩
    have e88 : m_Parser_checkSent_88 n (m_Parser_checkSent_2 n (f + 1)) (nI k) (nI (cf k)) t = some (fO t (7, c0 + 1 + 2 * k)) := by
      unfold m_Parser_checkSent_88
      rw [O_nmAt s15, Option.bind_some]
      dsimp only
      rw [O_fail h13, Option.bind_some]
      show m_Parser_checkSent_103 n (m_Parser_checkSent_2 n (f + 1)) (nI k) (nI (cf k)) (fO t (7, c0 + 1 + 2 * k)) = _
      rw [O_cs103F (t := fO t (7, c0 + 1 + 2 * k)) hn (by omega) s17 s18 sfl sla hz7.ne]
      exact O_cs2F hz7.ne
    have e1 : m_Parser_checkSent_2 n (f + 1 + 1) (nI k) t = if ((lt (64 * cf k)).isSome && seq || decide (0 < fi) && !(lt (64 * cf k)).isSome) = true then some (fO t (7, c0 + 1 + 2 * k)) else m_Parser_checkSent_103 n (m_Parser_checkSent_2 n (f + 1)) (nI k) (nI (cf k)) t := by
      rw [e0]
      cases hl : lt (64 * cf k) with
      | none =>
        rw [if_pos (show oI none = -1 from rfl)]
        unfold m_Parser_checkSent_44 m_Parser_checkSent_66 m_Parser_checkSent_67
        rw [if_pos rfl, if_pos rfl, s17]
        by_cases z : fi = 0
        · rw [if_pos (show nI fi ≤ 0 by rw [z]; decide), if_neg (by rw [z]; simp)]
        · rw [if_neg (nI_nle (by omega) (by omega)), if_pos rfl, e88, if_pos (by rw [decide_eq_true (by omega : 0 < fi)]; simp)]
      | some b =>
        rw [if_neg (show ¬ oI (some b) = -1 from fun x => (eq_mI (a := b) (by have := l2 b hl; omega)).mp x)]
        unfold m_Parser_checkSent_44 m_Parser_checkSent_66 m_Parser_checkSent_67
        rw [if_neg (by decide)]
        by_cases z : t.1 1 = 192
        · rw [if_pos z, if_neg (by decide), e88, if_pos (by rw [h1.mp z]; simp)]
        · rw [if_neg z, if_pos rfl, if_neg (show ¬ (1 : Int32) = 0 by decide), if_neg (show ¬ ((some b).isSome && seq || decide (0 < fi) && !(some b).isSome) = true from fun x => z (h1.mpr (by simpa using x)))]
          exact ite_self _
    rw [e1]
    show Ev Fz _ (eb (od1 seq c0 q fi la bf lt cf k) _) _
    unfold od1
    by_cases c1 : ((lt (64 * cf k)).isSome && seq || decide (0 < fi) && !(lt (64 * cf k)).isSome) = true
    · rw [if_pos c1, if_pos c1]
      exact Ev.er ⟨_, rfl, hz7⟩
    · rw [if_neg c1, if_neg c1, e103]
      by_cases c2 : allD lt (dueOf bf) (64 * cf k) (la + 1 - fi) fi = true
      · rw [if_pos c2, if_pos c2]
        exact ih (f + 1) (k + 1) (by omega) (by omega)
      · rw [if_neg c2, if_neg c2]
        have hz6 : Fz (fO t (6, q)) (6, q) := ⟨rfl, rfl, by omega, by omega⟩
        exact Ev.er ⟨_, O_cs2F hz6.ne, hz6⟩

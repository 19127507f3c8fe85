def mrk0 (B : Nat → Nat) (sz : Nat) (p : Nat) : Except Er (Nat × Nat) := if p < sz ∧ B p ≠ 255 then .error (3, p) else eb (mk B sz (sz - p) p) (fun x => if x.1 = 0 then .error (4, x.2) else .ok (x.1, x.2 + 1))
theorem cst0 {ln hasF all : Bool} : cst ln hasF all 0 = false := by cases ln <;> cases hasF <;> cases all <;> rfl
theorem mrk_0 {B : Nat → Nat} {sz : Nat} {ln hasF all : Bool} {p : Nat} : mrk B sz ln hasF all p = eb (mrk0 B sz p) (fun x => if cst ln hasF all x.1 = true then .ok x else .error (4, x.2 - 1)) := by
  unfold mrk mrk0
  by_cases c : p < sz ∧ B p ≠ 255
  · rw [if_pos c, if_pos c]; rfl
  · rw [if_neg c, if_neg c]
    cases mk B sz (sz - p) p with
    | error e => rfl
    | ok x =>
      show (if cst ln hasF all x.1 = true then .ok (x.1, x.2 + 1) else .error (4, x.2)) = eb (if x.1 = 0 then .error (4, x.2) else .ok (x.1, x.2 + 1)) _
      by_cases z : x.1 = 0
      · rw [if_pos z, z, cst0]; rfl
      · rw [if_neg z]; rfl
theorem R_m61F {n : Nat} {x : Int32} {u : St} {e : Er} (h : Gz u e) : m_Model_marker_61 n x u = some (x, u) := by
  unfold m_Model_marker_61
  rw [if_neg h.ne]
theorem R_m39F {n f : Nat} {x : Int32} {u : St} {e : Er} (h : Gz u e) : m_Model_marker_39 n (f + 1) x u = some (x, u) := by
  show m_Model_marker_39b n _ x u = _
  unfold m_Model_marker_39b
  rw [if_neg h.ne, R_m61F h]
theorem R_m39 {n : Nat} {B : Nat → Nat} {sz : Nat} {u : St} (hI : InM B sz u) (h2 : u.1 2 = 0) (h5 : u.1 5 = mI) : ∀ (m f p : Nat), p + m = sz → m + 2 < f → Ev GP (m_Model_marker_39 n f 255 (sG u 4 (nI p))) (eb (mk B sz m p) (fun x => if x.1 = 0 then .error (4, x.2) else .ok (x.1, x.2 + 1))) (fun x z => z = (nI x.1, sG u 4 (nI x.2))) := by
  have hs := hI.2.1
  intro m
  induction m with
  | zero =>
    intro f p hp hf
    obtain ⟨f, rfl⟩ : ∃ g, f = g + 1 := ⟨f - 1, by omega⟩
    obtain ⟨f, rfl⟩ : ∃ g, f = g + 1 := ⟨f - 1, by omega⟩
    have hz : Gz (fM (sG u 4 (nI p)) (1, sz)) (1, sz) := fM_z (Or.inr (Or.inl rfl))
    refine Ev.er ⟨(0, fM (sG u 4 (nI p)) (1, sz)), ?_, rfl, hz⟩
    have e1 : m_Model_next n (sG u 4 (nI p)) = some (0, fM (sG u 4 (nI p)) (1, sz)) := by
      rw [R_nextN (B := B) (sz := sz) (p := p) (u := sG u 4 (nI p)) hI h2 rfl h5 (by omega)]
      unfold nx
      rw [if_pos (by omega)]; rfl
    show m_Model_marker_39b n _ 255 (sG u 4 (nI p)) = _
    unfold m_Model_marker_39b
    rw [if_pos (show (sG u 4 (nI p)).1 2 = 0 from h2), if_pos rfl, e1, Option.bind_some]
    exact R_m39F hz
  | succ m ih =>
    intro f p hp hf
    obtain ⟨f, rfl⟩ : ∃ g, f = g + 1 := ⟨f - 1, by omega⟩
    have hB := (hI.2.2.2.2 p (by omega)).2
    have e1 : m_Model_next n (sG u 4 (nI p)) = some (nI (B p), sG u 4 (nI (p + 1))) := by
      rw [R_nextN (B := B) (sz := sz) (p := p) (u := sG u 4 (nI p)) hI h2 rfl h5 (by omega)]
      unfold nx
      rw [if_neg (by omega)]
      show some (nI (B p), sG (sG u 4 (nI p)) 4 (nI (p + 1))) = _
      rw [sG_sG]
    have e2 : m_Model_marker_39 n (f + 1) 255 (sG u 4 (nI p)) = m_Model_marker_39 n f (nI (B p)) (sG u 4 (nI (p + 1))) := by
      show m_Model_marker_39b n _ 255 (sG u 4 (nI p)) = _
      unfold m_Model_marker_39b
      rw [if_pos (show (sG u 4 (nI p)).1 2 = 0 from h2), if_pos rfl, e1, Option.bind_some]
    rw [e2]
    show Ev GP _ (eb (if B p = 255 then mk B sz m (p + 1) else .ok (B p, p)) _) _
    by_cases c : B p = 255
    · rw [if_pos c, c]
      exact ih f (p + 1) (by omega) (by omega)
    · rw [if_neg c]
      obtain ⟨f, rfl⟩ : ∃ g, f = g + 1 := ⟨f - 1, by omega⟩
      have e3 : m_Model_marker_39 n (f + 1) (nI (B p)) (sG u 4 (nI (p + 1))) = m_Model_marker_61 n (nI (B p)) (sG u 4 (nI (p + 1))) := by
        show m_Model_marker_39b n _ (nI (B p)) (sG u 4 (nI (p + 1))) = _
        unfold m_Model_marker_39b
        rw [if_neg (show ¬ nI (B p) = 255 from nI_ne (b := 255) (by omega) (by omega) c)]
        exact ite_self _
      rw [e3]
      unfold m_Model_marker_61
      rw [if_pos (show (sG u 4 (nI (p + 1))).1 2 = 0 from h2)]
      show Ev GP _ (if B p = 0 then .error (4, p) else .ok (B p, p + 1)) _
      by_cases z : B p = 0
      · rw [if_pos z, if_pos (show nI (B p) = 0 by rw [z]; rfl), R_wrong (u := sG u 4 (nI (p + 1))) h2, Option.bind_some, sG_at, nI_pred]
        exact Ev.er ⟨_, rfl, rfl, rfl, rfl, by simp, by simp⟩
      · rw [if_neg z, if_neg (nI_ne0 (by omega) (by omega))]
        exact Ev.ok ⟨_, rfl, rfl⟩
theorem R_marker {n : Nat} {B : Nat → Nat} {sz p : Nat} {u : St} (hn : 20000 ≤ n) (hI : InM B sz u) (h2 : u.1 2 = 0) (h4 : u.1 4 = nI p) (h5 : u.1 5 = mI) (hp : p ≤ sz) : Ev GP (m_Model_marker n u) (mrk0 B sz p) (fun x z => z = (nI x.1, sG (sG u 6 (nI p)) 4 (nI x.2))) := by
  have hs := hI.2.1
  unfold m_Model_marker mrk0
  rw [h4, R_nextN (B := B) (sz := sz) (p := p) (u := sG u 6 (nI p)) hI h2 h4 h5 hp, Option.bind_some]
  unfold nx
  by_cases c : sz ≤ p
  · rw [if_pos c, if_neg (show ¬ (p < sz ∧ B p ≠ 255) from fun x => by omega), show sz - p = 0 by omega]
    have hz : Gz (fM (sG u 6 (nI p)) (1, sz)) (1, sz) := fM_z (Or.inr (Or.inl rfl))
    refine Ev.er ⟨(0, fM (sG u 6 (nI p)) (1, sz)), ?_, rfl, hz⟩
    show (if (fM (sG u 6 (nI p)) (1, sz)).1 2 = 0 then _ else m_Model_marker_39 n n 0 (fM (sG u 6 (nI p)) (1, sz))) = _
    obtain ⟨g, rfl⟩ : ∃ g, n = g + 1 := ⟨n - 1, by omega⟩
    rw [if_neg hz.ne, R_m39F hz]
  · have hB := (hI.2.2.2.2 p (by omega)).2
    rw [if_neg c]
    show Ev GP (if (sG (sG u 6 (nI p)) 4 (nI (p + 1))).1 2 = 0 then (if nI (B p) = 255 then m_Model_marker_39 n n (nI (B p)) (sG (sG u 6 (nI p)) 4 (nI (p + 1))) else (m_Model_wrong n 3 ((sG (sG u 6 (nI p)) 4 (nI (p + 1))).1 4 - 1) (sG (sG u 6 (nI p)) 4 (nI (p + 1)))).bind _) else _) _ _
    rw [if_pos (show (sG (sG u 6 (nI p)) 4 (nI (p + 1))).1 2 = 0 from h2)]
    by_cases c2 : B p = 255
    · rw [if_pos (show nI (B p) = 255 by rw [c2]; rfl), if_neg (fun x => x.2 c2), c2]
      have := R_m39 (n := n) (u := sG u 6 (nI p)) hI h2 h5 (sz - (p + 1)) n (p + 1) (by omega) (by omega)
      have e : mk B sz (sz - p) p = mk B sz (sz - (p + 1)) (p + 1) := by
        rw [show sz - p = (sz - (p + 1)) + 1 by omega]
        show (if B p = 255 then _ else _) = _
        rw [if_pos c2]
      rw [e]
      exact this
    · rw [if_neg (show ¬ nI (B p) = 255 from nI_ne (b := 255) (by omega) (by omega) c2), if_pos ⟨by omega, c2⟩, R_wrong (u := sG (sG u 6 (nI p)) 4 (nI (p + 1))) h2, Option.bind_some, sG_at, nI_pred]
      exact Ev.er ⟨_, rfl, rfl, rfl, rfl, by simp, by simp⟩
theorem R_is15 {n cnt : Nat} {lt : Nat → Option Nat} {u : St} (h12 : u.1 12 = nI cnt) (hc : cnt ≤ 4) (hL : PL (u.2.1 13) lt) : ∀ (m f c : Nat) (x : Bool), c + m = cnt → m < f → m_Model_isSent_15 n f (bI x) (nI c) u = some (bI (x && allB lt m c), u) := by
  intro m
  induction m with
  | zero =>
    intro f c x hk hf
    obtain ⟨f, rfl⟩ : ∃ g, f = g + 1 := ⟨f - 1, by omega⟩
    show m_Model_isSent_15b n _ (bI x) (nI c) u = _
    unfold m_Model_isSent_15b
    rw [if_pos (by rw [h12]; exact nI_le (by omega) (by omega)), if_neg (by cases x <;> decide)]
    show some (bI x, u) = some (bI (x && true), u)
    rw [Bool.and_true]
  | succ m ih =>
    intro f c x hk hf
    obtain ⟨f, rfl⟩ : ∃ g, f = g + 1 := ⟨f - 1, by omega⟩
    have hin := nI_in (c := 64 * c) (N := 256) (by omega) (by omega)
    have e0 : m_Model_isSent_43 n (m_Model_isSent_15 n f) (nI c) u = some (bI false, u) := by
      unfold m_Model_isSent_43 m_Model_isSent_44
      rw [nI_1]
      exact (ih f (c + 1) false (by omega) (by omega)).trans rfl
    have e1 : m_Model_isSent_44 n (m_Model_isSent_15 n f) (nI c) 1 u = some (bI (allB lt m (c + 1)), u) := by
      unfold m_Model_isSent_44
      rw [nI_1]
      exact (ih f (c + 1) true (by omega) (by omega)).trans rfl
    obtain ⟨n1, n2⟩ := PL_neg hL (i := 64 * c) (by omega)
    show m_Model_isSent_15b n _ (bI x) (nI c) u = _
    unfold m_Model_isSent_15b
    rw [if_neg (by rw [h12]; exact nI_ge (by omega) (by omega)), show (64 : Int32) * nI c = nI (64 * c) by rw [show (64 : Int32) = nI 64 from rfl, pk_mul], if_neg hin, nI_clamp (by omega), e0, e1]
    show _ = some (bI (x && ((lt (64 * c)).isSome && allB lt m (c + 1))), u)
    cases x with
    | false => rw [if_pos (show bI false = 0 from rfl)]; rfl
    | true =>
      rw [if_neg (show ¬ bI true = 0 by decide)]
      cases hl : lt (64 * c) with
      | none => rw [if_pos (n1.mpr hl)]; rfl
      | some b => rw [if_neg (fun x => by have := n1.mp x; rw [hl] at this; cases this)]; rfl
theorem R_isSent {n cnt : Nat} {lt : Nat → Option Nat} {u : St} (hn : 20000 ≤ n) (h12 : u.1 12 = nI cnt) (hc : cnt ≤ 4) (hL : PL (u.2.1 13) lt) : m_Model_isSent n u = some (bI (decide (0 < cnt) && allB lt cnt 0), u) := by
  unfold m_Model_isSent m_Model_isSent_12
  rw [h12]
  by_cases c : 0 < cnt
  · rw [if_neg (nI_nle c (by omega)), decide_eq_true c]
    exact R_is15 (n := n) h12 hc hL cnt n 0 true (by omega) (by omega)
  · rw [if_pos (show nI cnt ≤ 0 from nI_le (b := 0) (by omega) (by omega)), decide_eq_false c]
    exact R_is15 (n := n) h12 hc hL cnt n 0 false (by omega) (by omega)
def kn (hasF : Bool) (c : Nat) : Bool := decide (c = 254 ∨ (224 ≤ c ∧ c ≤ 239) ∨ c = 219 ∨ c = 196 ∨ c = 221) || (decide (c = 192 ∨ c = 194) && !hasF) || (decide (c = 218) && hasF)
theorem R_101 {n c : Nat} {hasF : Bool} {K : Int32 → Int32 → St → Option St} {x2 x3 x5 x6 : Int32} {z : St} (hc : c < 256) (h9 : z.1 9 = 0 ↔ hasF = false) (h9' : z.1 9 ≤ 0 ↔ hasF = false) : m_Model_readFile_101 n K x2 x3 (nI c) x5 x6 z = m_Model_readFile_192 n K x2 x3 (nI c) x5 x6 (bI (kn hasF c)) z := by
  have ne : ∀ a, a < 300 → c ≠ a → ¬ nI c = nI a := fun a ha h => nI_ne (by omega) (by omega) h
  have k1 : (c = 254 ∨ (224 ≤ c ∧ c ≤ 239) ∨ c = 219 ∨ c = 196 ∨ c = 221) → bI (kn hasF c) = 1 := by
    intro h
    unfold kn
    rw [decide_eq_true h]
    cases hasF <;> rfl
  unfold m_Model_readFile_101
  have e117 : ¬ (224 ≤ c ∧ c ≤ 239) → m_Model_readFile_117 n K x2 x3 (nI c) x5 x6 z = m_Model_readFile_192 n K x2 x3 (nI c) x5 x6 (bI (kn hasF c)) z := by
    intro hr
    unfold m_Model_readFile_117 m_Model_readFile_187
    by_cases q1 : c = 254
    · rw [if_pos (show nI c = 254 by rw [q1]; rfl), k1 (by omega)]
    · rw [if_neg (show ¬ nI c = 254 from ne 254 (by omega) q1)]
      by_cases q2 : c = 219
      · rw [if_pos (show nI c = 219 by rw [q2]; rfl), k1 (by omega)]
      · rw [if_neg (show ¬ nI c = 219 from ne 219 (by omega) q2)]
        by_cases q3 : c = 196
        · rw [if_pos (show nI c = 196 by rw [q3]; rfl), k1 (by omega)]
        · rw [if_neg (show ¬ nI c = 196 from ne 196 (by omega) q3)]
          by_cases q4 : c = 221
          · rw [if_pos (show nI c = 221 by rw [q4]; rfl), k1 (by omega)]
          · rw [if_neg (show ¬ nI c = 221 from ne 221 (by omega) q4)]
            have k2 : kn hasF c = ((decide (c = 192 ∨ c = 194) && !hasF) || (decide (c = 218) && hasF)) := by
              unfold kn
              rw [decide_eq_false (show ¬ (c = 254 ∨ (224 ≤ c ∧ c ≤ 239) ∨ c = 219 ∨ c = 196 ∨ c = 221) by omega), Bool.false_or]
            have e172 : m_Model_readFile_172 n K x2 x3 (nI c) x5 x6 z = m_Model_readFile_192 n K x2 x3 (nI c) x5 x6 (bI (decide (c = 218) && hasF)) z := by
              unfold m_Model_readFile_172 m_Model_readFile_187 m_Model_readFile_191
              by_cases q5 : c = 218
              · rw [if_pos (show nI c = 218 by rw [q5]; rfl), decide_eq_true q5]
                cases hasF with
                | false => rw [if_pos (h9'.mpr rfl)]; rfl
                | true => rw [if_neg (fun x => by have := h9'.mp x; cases this)]; rfl
              · rw [if_neg (show ¬ nI c = 218 from ne 218 (by omega) q5), decide_eq_false q5]; rfl
            have e165 : (c = 192 ∨ c = 194) → m_Model_readFile_165 n K x2 x3 (nI c) x5 x6 z = m_Model_readFile_192 n K x2 x3 (nI c) x5 x6 (bI (kn hasF c)) z := by
              intro q
              unfold m_Model_readFile_165 m_Model_readFile_187
              rw [e172, k2, decide_eq_true q, decide_eq_false (show ¬ c = 218 by omega)]
              cases hasF with
              | false => rw [if_pos (h9.mpr rfl)]; rfl
              | true => rw [if_neg (fun x => by have := h9.mp x; cases this)]; rfl
            by_cases q6 : c = 192
            · rw [if_pos (show nI c = 192 by rw [q6]; rfl)]; exact e165 (Or.inl q6)
            · rw [if_neg (show ¬ nI c = 192 from ne 192 (by omega) q6)]
              by_cases q7 : c = 194
              · rw [if_pos (show nI c = 194 by rw [q7]; rfl)]; exact e165 (Or.inr q7)
              · rw [if_neg (show ¬ nI c = 194 from ne 194 (by omega) q7), e172, k2, decide_eq_false (show ¬ (c = 192 ∨ c = 194) by omega), Bool.false_and, Bool.false_or]
  by_cases q0 : c < 224
  · rw [if_pos (show nI c < 224 from nI_lt (b := 224) q0 (by omega))]; exact e117 (by omega)
  · rw [if_neg (show ¬ nI c < 224 from nI_nlt (b := 224) (by omega) (by omega))]
    by_cases q1 : c ≤ 239
    · rw [if_pos (show nI c ≤ 239 from nI_le (b := 239) q1 (by omega)), k1 (by omega)]; rfl
    · rw [if_neg (show ¬ nI c ≤ 239 from nI_ge (a := 239) (by omega) (by omega))]; exact e117 (by omega)
theorem cst_kn {hasF all : Bool} {c : Nat} : cst false hasF all c = (kn hasF c || (decide (c = 217) && (hasF && all))) := by
  unfold cst kn
  rw [if_neg (show ¬ false = true by decide)]
  by_cases q1 : c = 192 ∨ c = 194
  · rw [if_pos q1, decide_eq_true q1, decide_eq_false (show ¬ (c = 254 ∨ (224 ≤ c ∧ c ≤ 239) ∨ c = 219 ∨ c = 196 ∨ c = 221) by omega), decide_eq_false (show ¬ c = 218 by omega), decide_eq_false (show ¬ c = 217 by omega)]
    cases hasF <;> cases all <;> rfl
  · rw [if_neg q1, decide_eq_false q1]
    by_cases q2 : c = 196 ∨ c = 219 ∨ c = 221
    · rw [if_pos q2, decide_eq_true (show (c = 254 ∨ (224 ≤ c ∧ c ≤ 239) ∨ c = 219 ∨ c = 196 ∨ c = 221) by omega)]
      cases hasF <;> cases all <;> simp
    · rw [if_neg q2]
      by_cases q3 : c = 218
      · rw [if_pos q3, decide_eq_true q3, decide_eq_false (show ¬ (c = 254 ∨ (224 ≤ c ∧ c ≤ 239) ∨ c = 219 ∨ c = 196 ∨ c = 221) by omega), decide_eq_false (show ¬ c = 217 by omega)]
        cases hasF <;> cases all <;> rfl
      · rw [if_neg q3, decide_eq_false q3]
        by_cases q4 : c = 217
        · rw [if_pos q4, decide_eq_true q4, decide_eq_false (show ¬ (c = 254 ∨ (224 ≤ c ∧ c ≤ 239) ∨ c = 219 ∨ c = 196 ∨ c = 221) by omega)]
          cases hasF <;> cases all <;> rfl
        · rw [if_neg q4, decide_eq_false q4]
          by_cases q5 : c = 254 ∨ (224 ≤ c ∧ c ≤ 239)
          · rw [decide_eq_true q5, decide_eq_true (show (c = 254 ∨ (224 ≤ c ∧ c ≤ 239) ∨ c = 219 ∨ c = 196 ∨ c = 221) by omega)]
            cases hasF <;> cases all <;> rfl
          · rw [decide_eq_false q5, decide_eq_false (show ¬ (c = 254 ∨ (224 ≤ c ∧ c ≤ 239) ∨ c = 219 ∨ c = 196 ∨ c = 221) by omega)]
            cases hasF <;> cases all <;> rfl
theorem R_231F {n : Nat} {K : Int32 → Int32 → St → Option St} {x2 x3 x4 : Int32} {u : St} {e : Er} (h : Gz u e) : m_Model_readFile_231 n K x2 x3 x4 u = K x2 x3 u := by
  unfold m_Model_readFile_231 m_Model_readFile_259 m_Model_readFile_273
  rw [if_neg h.ne, if_neg h.ne]
theorem R_192 {n c k : Nat} {ln hasF all : Bool} {y : Bool} {K : Int32 → Int32 → St → Option St} {x2 x3 : Int32} {z : St} (hc : c < 256) (h2 : z.1 2 = 0) (hy : cst ln hasF all c = if ln = true then decide (c = 220) else y) : (cst ln hasF all c = true → m_Model_readFile_192 n K x2 x3 (nI c) (nI k) (bI ln) (bI y) z = m_Model_readFile_231 n K x2 x3 (nI c) z) ∧ (¬ cst ln hasF all c = true → m_Model_readFile_192 n K x2 x3 (nI c) (nI k) (bI ln) (bI y) z = K x2 x3 (fM z (4, k))) := by
  have hz : Gz (fM z (4, k)) (4, k) := ⟨rfl, rfl, by simp, by simp⟩
  have e222 : m_Model_readFile_222 n K x2 x3 (nI c) (nI k) z = K x2 x3 (fM z (4, k)) := by
    unfold m_Model_readFile_222
    rw [R_wrong h2, Option.bind_some]
    exact R_231F hz
  unfold m_Model_readFile_192
  rw [if_pos h2, e222, hy]
  cases ln with
  | false =>
    rw [if_pos (show bI false = 0 from rfl), if_neg (show ¬ false = true by decide)]
    cases y with
    | false => rw [if_pos (show bI false = 0 from rfl)]; exact ⟨fun q => absurd q (by decide), fun _ => rfl⟩
    | true => rw [if_neg (show ¬ bI true = 0 by decide)]; exact ⟨fun _ => rfl, fun q => absurd rfl q⟩
  | true =>
    rw [if_neg (show ¬ bI true = 0 by decide), if_pos rfl]
    by_cases q : c = 220
    · rw [if_pos (show nI c = 220 by rw [q]; rfl), decide_eq_true q]; exact ⟨fun _ => rfl, fun q => absurd rfl q⟩
    · rw [if_neg (show ¬ nI c = 220 from nI_ne (b := 220) (by omega) (by omega) q), decide_eq_false q]; exact ⟨fun q => absurd q (by decide), fun _ => rfl⟩
theorem R_turn0 {n f : Nat} {B : Nat → Nat} {sz p : Nat} {ln : Bool} {F : Option (Nat × Nat × Nat)} {lt : Nat → Option Nat} {u : St} (hn : 20000 ≤ n) (hI : InM B sz u) (h2 : u.1 2 = 0) (h4 : u.1 4 = nI p) (h5 : u.1 5 = mI) (hp : p ≤ sz) (hF : FM1 B F u) (hL : PL (u.2.1 13) lt) : (∀ e, mrk B sz ln F.isSome (allB lt (Fcnt F) 0) p = .error e → ∃ w, m_Model_readFile_56 n (f + 1) (bI ln) 1 u = m_Model_readFile_56 n f 0 1 w ∧ Gz w e) ∧ ∀ x, mrk B sz ln F.isSome (allB lt (Fcnt F) 0) p = .ok x → m_Model_readFile_56 n (f + 1) (bI ln) 1 u = m_Model_readFile_231 n (m_Model_readFile_56 n f) 0 1 (nI x.1) (sG (sG u 6 (nI p)) 4 (nI x.2)) := by
  have e0 : m_Model_readFile_56 n (f + 1) (bI ln) 1 u = (m_Model_marker n u).bind (fun z68 => if z68.1 = 217 then (m_Model_isSent n z68.2).bind (fun z95 => if z95.1 = 0 then m_Model_readFile_101 n (m_Model_readFile_56 n f) 0 1 z68.1 (z68.2.1 4 - 1) (bI ln) z95.2 else m_Model_readFile_187 n (m_Model_readFile_56 n f) 0 1 z68.1 (z68.2.1 4 - 1) (bI ln) z95.2) else m_Model_readFile_101 n (m_Model_readFile_56 n f) 0 1 z68.1 (z68.2.1 4 - 1) (bI ln) z68.2) := by
    show m_Model_readFile_56b n _ (bI ln) 1 u = _
    unfold m_Model_readFile_56b
    rw [if_neg (by decide), if_pos h2]
  have hcnt : u.1 12 = nI (Fcnt F) ∧ Fcnt F ≤ 4 ∧ (decide (0 < Fcnt F)) = F.isSome := by
    cases F with
    | none => exact ⟨hF.2, by show 0 ≤ 4; omega, rfl⟩
    | some x => exact ⟨hF.2.1.1, hF.2.1.2.1, decide_eq_true hF.2.2.2.2⟩
  have h9 : (u.1 9 = 0 ↔ F.isSome = false) ∧ (u.1 9 ≤ 0 ↔ F.isSome = false) := by
    cases F with
    | none => exact ⟨⟨fun _ => rfl, fun _ => hF.1⟩, ⟨fun _ => rfl, fun _ => by rw [hF.1]; decide⟩⟩
    | some x =>
      obtain ⟨cd, p0, cnt⟩ := x
      obtain ⟨f1, -, -, f4, -⟩ := hF
      rw [f1]
      exact ⟨⟨fun q => absurd q (nI_ne0 (by omega) (by omega)), fun q => (by cases q)⟩, ⟨fun q => absurd q (nI_nle (by omega) (by omega)), fun q => (by cases q)⟩⟩
  obtain ⟨z, hz, hm⟩ := R_marker (n := n) hn hI h2 h4 h5 hp
  rw [e0, hz, Option.bind_some, mrk_0]
  cases h0 : mrk0 B sz p with
  | error e =>
    rw [h0] at hm
    refine ⟨fun e' he => ?_, fun x he => (by cases he)⟩
    cases he
    obtain ⟨m1, m2⟩ := hm
    refine ⟨z.2, ?_, m2⟩
    rw [m1, if_neg (by decide)]
    unfold m_Model_readFile_101
    rw [if_pos (show (0 : Int32) < 224 by decide)]
    unfold m_Model_readFile_117 m_Model_readFile_172 m_Model_readFile_191 m_Model_readFile_192
    rw [if_neg (show ¬ (0 : Int32) = 254 by decide), if_neg (show ¬ (0 : Int32) = 219 by decide), if_neg (show ¬ (0 : Int32) = 196 by decide), if_neg (show ¬ (0 : Int32) = 221 by decide), if_neg (show ¬ (0 : Int32) = 192 by decide), if_neg (show ¬ (0 : Int32) = 194 by decide), if_neg (show ¬ (0 : Int32) = 218 by decide), if_neg m2.ne]
    exact R_231F m2
  | ok x =>
    rw [h0] at hm
    change z = (nI x.1, sG (sG u 6 (nI p)) 4 (nI x.2)) at hm
    subst hm
    dsimp only
    have hx : x.1 < 256 ∧ 1 ≤ x.2 ∧ x.2 ≤ sz := by
      unfold mrk0 at h0
      by_cases c : p < sz ∧ B p ≠ 255
      · rw [if_pos c] at h0; cases h0
      · rw [if_neg c] at h0
        cases h1 : mk B sz (sz - p) p with
        | error e => rw [h1] at h0; cases h0
        | ok y =>
          rw [h1] at h0
          change (if y.1 = 0 then .error (4, y.2) else .ok (y.1, y.2 + 1)) = Except.ok x at h0
          obtain ⟨a, b, d, e⟩ := mk_ok _ _ _ h1
          by_cases q : y.1 = 0
          · rw [if_pos q] at h0; cases h0
          · rw [if_neg q] at h0
            cases h0
            refine ⟨?_, by show 1 ≤ y.2 + 1; omega, by show y.2 + 1 ≤ sz; omega⟩
            show y.1 < 256
            rw [a]
            exact (hI.2.2.2.2 _ (by omega)).2
    obtain ⟨hx1, hx2, hx3⟩ := hx
    have hs := hI.2.1
    have h4' : (sG (sG u 6 (nI p)) 4 (nI x.2)).1 4 - 1 = nI (x.2 - 1) := by
      rw [sG_at]
      obtain ⟨g, hg⟩ : ∃ g, x.2 = g + 1 := ⟨x.2 - 1, by omega⟩
      rw [hg, nI_pred]; rfl
    rw [h4', R_isSent (n := n) (u := sG (sG u 6 (nI p)) 4 (nI x.2)) hn hcnt.1 hcnt.2.1 hL, Option.bind_some, R_101 (n := n) (hasF := F.isSome) (z := sG (sG u 6 (nI p)) 4 (nI x.2)) hx1 h9.1 h9.2, hcnt.2.2]
    dsimp only
    show (∀ e, (if cst ln F.isSome (allB lt (Fcnt F) 0) x.1 = true then .ok x else .error (4, x.2 - 1)) = Except.error e → _) ∧ ∀ x', (if cst ln F.isSome (allB lt (Fcnt F) 0) x.1 = true then .ok x else .error (4, x.2 - 1)) = Except.ok x' → _
    have fin : ∀ y : Bool, cst ln F.isSome (allB lt (Fcnt F) 0) x.1 = (if ln = true then decide (x.1 = 220) else y) → (∀ e, (if cst ln F.isSome (allB lt (Fcnt F) 0) x.1 = true then .ok x else .error (4, x.2 - 1)) = Except.error e → ∃ w, m_Model_readFile_192 n (m_Model_readFile_56 n f) 0 1 (nI x.1) (nI (x.2 - 1)) (bI ln) (bI y) (sG (sG u 6 (nI p)) 4 (nI x.2)) = m_Model_readFile_56 n f 0 1 w ∧ Gz w e) ∧ ∀ x', (if cst ln F.isSome (allB lt (Fcnt F) 0) x.1 = true then .ok x else .error (4, x.2 - 1)) = Except.ok x' → m_Model_readFile_192 n (m_Model_readFile_56 n f) 0 1 (nI x.1) (nI (x.2 - 1)) (bI ln) (bI y) (sG (sG u 6 (nI p)) 4 (nI x.2)) = m_Model_readFile_231 n (m_Model_readFile_56 n f) 0 1 (nI x'.1) (sG (sG u 6 (nI p)) 4 (nI x'.2)) := by
      intro y hy
      obtain ⟨r1, r2⟩ := R_192 (n := n) (k := x.2 - 1) (K := m_Model_readFile_56 n f) (x2 := 0) (x3 := 1) (z := sG (sG u 6 (nI p)) 4 (nI x.2)) hx1 h2 hy
      by_cases q : cst ln F.isSome (allB lt (Fcnt F) 0) x.1 = true
      · rw [if_pos q, r1 q]
        exact ⟨fun e he => (by cases he), fun x' he => (by cases he; rfl)⟩
      · rw [if_neg q, r2 q]
        refine ⟨fun e he => ?_, fun x' he => (by cases he)⟩
        cases he
        exact ⟨_, rfl, rfl, rfl, by simp, by simp⟩
    by_cases q7 : x.1 = 217
    · rw [if_pos (show nI x.1 = 217 by rw [q7]; rfl)]
      have hk : kn F.isSome x.1 = false := by rw [q7]; cases F.isSome <;> rfl
      cases hb : (F.isSome && allB lt (Fcnt F) 0) with
      | false =>
        rw [if_pos (show bI false = 0 from rfl)]
        refine fin (kn F.isSome x.1) ?_
        cases ln with
        | true => rw [if_pos rfl]; rfl
        | false => rw [if_neg (by decide), cst_kn, hb, Bool.and_false, Bool.or_false]
      | true =>
        rw [if_neg (show ¬ bI true = 0 by decide)]
        unfold m_Model_readFile_187
        refine fin true ?_
        cases ln with
        | true => rw [if_pos rfl]; rfl
        | false => rw [if_neg (by decide), cst_kn, hb, decide_eq_true q7]; cases kn F.isSome x.1 <;> rfl
    · rw [if_neg (show ¬ nI x.1 = 217 from nI_ne (b := 217) (by omega) (by omega) q7)]
      refine fin (kn F.isSome x.1) ?_
      cases ln with
      | true => rw [if_pos rfl]; rfl
      | false => rw [if_neg (by decide), cst_kn, decide_eq_false q7, Bool.false_and, Bool.or_false]

def bI (b : Bool) : Int32 := if b = true then 1 else 0
/-- may the marker stand here? -/
def cst (ln hasF all : Bool) (c : Nat) : Bool := if ln = true then decide (c = 220) else if c = 192 ∨ c = 194 then !hasF else if c = 196 ∨ c = 219 ∨ c = 221 then true else if c = 218 then hasF else if c = 217 then hasF && all else decide (c = 254 ∨ (224 ≤ c ∧ c ≤ 239))
def mk (B : Nat → Nat) (sz : Nat) : Nat → Nat → Except Er (Nat × Nat)
  | 0, _ => .error (1, sz)
  | m + 1, p => if B p = 255 then mk B sz m (p + 1) else .ok (B p, p)
/-- a marker: its code, and the place behind it -/
def mrk (B : Nat → Nat) (sz : Nat) (ln hasF all : Bool) (p : Nat) : Except Er (Nat × Nat) := if p < sz ∧ B p ≠ 255 then .error (3, p) else eb (mk B sz (sz - p) p) (fun x => if cst ln hasF all x.1 = true then .ok (x.1, x.2 + 1) else .error (4, x.2))
theorem mk_ok {B : Nat → Nat} {sz : Nat} : ∀ (m p : Nat) (x : Nat × Nat), mk B sz m p = .ok x → x.1 = B x.2 ∧ x.1 ≠ 255 ∧ p ≤ x.2 ∧ x.2 < p + m := by
  intro m
  induction m with
  | zero => intro p x h; cases h
  | succ m ih =>
    intro p x h
    change (if B p = 255 then mk B sz m (p + 1) else .ok (B p, p)) = _ at h
    by_cases c : B p = 255
    · rw [if_pos c] at h
      obtain ⟨a, b, d, e⟩ := ih (p + 1) x h
      exact ⟨a, b, by omega, by omega⟩
    · rw [if_neg c] at h
      cases h
      exact ⟨rfl, c, by omega, by omega⟩
theorem mk_er {B : Nat → Nat} {sz : Nat} : ∀ (m p : Nat) (e : Er), mk B sz m p = .error e → e = (1, sz) := by
  intro m
  induction m with
  | zero => intro p e h; cases h; rfl
  | succ m ih =>
    intro p e h
    change (if B p = 255 then mk B sz m (p + 1) else .ok (B p, p)) = _ at h
    by_cases c : B p = 255
    · rw [if_pos c] at h; exact ih (p + 1) e h
    · rw [if_neg c] at h; cases h
theorem mrk_ok {B : Nat → Nat} {sz : Nat} {ln hasF all : Bool} {p : Nat} {x : Nat × Nat} (h : mrk B sz ln hasF all p = .ok x) : cst ln hasF all x.1 = true ∧ x.1 = B (x.2 - 1) ∧ x.1 ≠ 255 ∧ p + 2 ≤ x.2 ∧ x.2 ≤ sz ∧ B p = 255 := by
  unfold mrk at h
  by_cases c : p < sz ∧ B p ≠ 255
  · rw [if_pos c] at h; cases h
  · rw [if_neg c] at h
    cases h1 : mk B sz (sz - p) p with
    | error e => rw [h1] at h; cases h
    | ok y =>
      rw [h1] at h
      change (if cst ln hasF all y.1 = true then .ok (y.1, y.2 + 1) else .error (4, y.2)) = Except.ok x at h
      obtain ⟨a, b, d, e⟩ := mk_ok _ _ _ h1
      by_cases c2 : cst ln hasF all y.1 = true
      · rw [if_pos c2] at h
        cases h
        have hp : p < sz := by omega
        have hp2 : B p = 255 := by
          by_cases q : B p = 255
          · exact q
          · exact absurd ⟨hp, q⟩ c
        have hne : y.2 ≠ p := fun q => b (by rw [a, q]; exact hp2)
        exact ⟨c2, a, b, by show p + 2 ≤ y.2 + 1; omega, by show y.2 + 1 ≤ sz; omega, hp2⟩
      · rw [if_neg c2] at h; cases h
theorem nI_ne {a b : Nat} (ha : a < 2 ^ 31) (hb : b < 2 ^ 31) (h : a ≠ b) : ¬ nI a = nI b := fun q => h ((nI_eq ha hb).mp q)
theorem O_tm34 {n : Nat} {B : Nat → Nat} {sz : Nat} {cs : Nat → Bool} {t : St} (hI : InO B sz t) (h13 : t.1 13 = 0) (hcs : ∀ c q, c < 256 → c ≠ 255 → m_Parser_canStand n (nI c) (sG t 9 q) = some (bI (cs c), sG t 9 q)) : ∀ (m f p : Nat), p + m = sz ∨ (m = 0 ∧ sz ≤ p ∧ p < 100000) → m < f → Ev FP (m_Parser_takeMarker_34 n f (sG t 9 (nI p))) (eb (mk B sz m p) (fun x => if cs x.1 = true then .ok (x.1, x.2 + 1) else .error (4, x.2))) (fun x z => z = (nI x.1, sG t 9 (nI x.2))) := by
  have hs := hI.2.1
  have h0 : t.1 0 = nI sz := hI.1
  intro m
  induction m with
  | zero =>
    intro f p hp hf
    obtain ⟨f, rfl⟩ : ∃ g, f = g + 1 := ⟨f - 1, by omega⟩
    refine Ev.er ⟨(mI, fO (sG t 9 (nI p)) (1, sz)), ?_, rfl, fO_z (Or.inr (Or.inl rfl))⟩
    show m_Parser_takeMarker_34b n _ (sG t 9 (nI p)) = _
    unfold m_Parser_takeMarker_34b
    rw [if_pos (show (sG t 9 (nI p)).1 0 ≤ (sG t 9 (nI p)).1 9 by show t.1 0 ≤ nI p; rw [h0]; exact nI_le (by omega) (by omega)), O_fail (t := sG t 9 (nI p)) h13, Option.bind_some, show (sG t 9 (nI p)).1 0 = nI sz from h0]; rfl
  | succ m ih =>
    intro f p hp hf
    obtain ⟨f, rfl⟩ : ∃ g, f = g + 1 := ⟨f - 1, by omega⟩
    have hB := (hI.2.2.2.2 p (by omega)).2
    have e1 : m_Parser_takeMarker_34 n (f + 1) (sG t 9 (nI p)) = if nI (B p) = 255 then m_Parser_takeMarker_34 n f (sG t 9 (nI (p + 1))) else (m_Parser_canStand n (nI (B p)) (sG t 9 (nI p))).bind (fun z69 => if z69.1 = 0 then (m_Parser_fail n 4 (z69.2.1 9) z69.2).bind (fun z81 => some (z81.1, z81.2)) else some (nI (B p), sG z69.2 9 (z69.2.1 9 + 1))) := by
      show m_Parser_takeMarker_34b n _ (sG t 9 (nI p)) = _
      unfold m_Parser_takeMarker_34b
      rw [if_neg (show ¬ (sG t 9 (nI p)).1 0 ≤ (sG t 9 (nI p)).1 9 by show ¬ t.1 0 ≤ nI p; rw [h0]; exact nI_ge (by omega) (by omega)), sG_at, O_at (t := sG t 9 (nI p)) hI (by omega), Option.bind_some]
      dsimp only
      rw [bt_in (by omega), sG_at, sG_sG, nI_1]
    rw [e1]
    show Ev FP _ (eb (if B p = 255 then mk B sz m (p + 1) else .ok (B p, p)) _) _
    by_cases c : B p = 255
    · rw [if_pos (show nI (B p) = 255 by rw [c]; rfl), if_pos c]
      exact ih f (p + 1) (by omega) (by omega)
    · rw [if_neg (show ¬ nI (B p) = 255 from nI_ne (b := 255) (by omega) (by omega) c), if_neg c, hcs _ _ hB c, Option.bind_some]
      show Ev FP (if bI (cs (B p)) = 0 then _ else _) (if cs (B p) = true then .ok (B p, p + 1) else .error (4, p)) _
      unfold bI
      by_cases c2 : cs (B p) = true
      · rw [if_pos c2, if_pos c2, if_neg (by decide)]
        refine Ev.ok ⟨_, rfl, ?_⟩
        show (nI (B p), sG (sG t 9 (nI p)) 9 ((sG t 9 (nI p)).1 9 + 1)) = (nI (B p), sG t 9 (nI (p + 1)))
        rw [sG_at, sG_sG, nI_1]
      · rw [if_neg c2, if_neg c2, if_pos rfl]
        refine Ev.er ⟨(mI, fO (sG t 9 (nI p)) (4, p)), ?_, rfl, rfl, rfl, by simp, by simp⟩
        show (m_Parser_fail n 4 ((sG t 9 (nI p)).1 9) (sG t 9 (nI p))).bind _ = _
        rw [O_fail (t := sG t 9 (nI p)) h13, Option.bind_some, sG_at]; rfl
theorem O_takeMarker {n : Nat} {B : Nat → Nat} {sz p : Nat} {ln hasF all : Bool} {t : St} (hn : 20000 ≤ n) (hI : InO B sz t) (h13 : t.1 13 = 0) (h9 : t.1 9 = nI p) (hp : p ≤ sz) (hcs : ∀ c q, c < 256 → c ≠ 255 → m_Parser_canStand n (nI c) (sG t 9 q) = some (bI (cst ln hasF all c), sG t 9 q)) : Ev FP (m_Parser_takeMarker n t) (mrk B sz ln hasF all p) (fun x z => z = (nI x.1, sG t 9 (nI x.2))) := by
  have hs := hI.2.1
  have h34 := O_tm34 (n := n) (cs := cst ln hasF all) hI h13 hcs (sz - p) n p (by omega) (by omega)
  rw [sG_self h9] at h34
  unfold m_Parser_takeMarker mrk
  rw [h9, O_at hI (by omega), Option.bind_some]
  dsimp only
  by_cases c : p < sz
  · have hB := (hI.2.2.2.2 p c).2
    rw [bt_in c, if_neg (show ¬ nI (B p) = -1 from fun x => (eq_mI (a := B p) (by omega)).mp x)]
    by_cases c2 : B p = 255
    · rw [if_pos (show nI (B p) = 255 by rw [c2]; rfl), if_neg (fun x => x.2 c2)]
      exact h34
    · rw [if_neg (show ¬ nI (B p) = 255 from nI_ne (b := 255) (by omega) (by omega) c2), if_pos ⟨c, c2⟩, O_fail h13, Option.bind_some, h9]
      exact Ev.er ⟨_, rfl, rfl, rfl, rfl, by simp, by simp⟩
  · rw [bt_out c, if_pos (show mI = -1 from rfl), if_neg (fun x => c x.1)]
    exact h34
def allB (lt : Nat → Option Nat) : Nat → Nat → Bool
  | 0, _ => true
  | m + 1, c => (lt (64 * c)).isSome && allB lt m (c + 1)
theorem O_allB {n cnt : Nat} {lt : Nat → Option Nat} {t : St} (h4 : t.1 4 = nI cnt) (hc : cnt ≤ 4) (hL : PL (t.2.1 7) lt) : ∀ (m f c : Nat), c + m = cnt → m < f → m_Parser_allBegun_2 n f (nI c) t = some (bI (allB lt m c), t) := by
  intro m
  induction m with
  | zero =>
    intro f c hk hf
    obtain ⟨f, rfl⟩ : ∃ g, f = g + 1 := ⟨f - 1, by omega⟩
    show m_Parser_allBegun_2b n _ (nI c) t = _
    unfold m_Parser_allBegun_2b
    rw [if_pos (by rw [h4]; exact nI_le (by omega) (by omega))]; rfl
  | succ m ih =>
    intro f c hk hf
    obtain ⟨f, rfl⟩ : ∃ g, f = g + 1 := ⟨f - 1, by omega⟩
    obtain ⟨l1, l2⟩ := hL (64 * c + 0) (by omega)
    show m_Parser_allBegun_2b n _ (nI c) t = _
    unfold m_Parser_allBegun_2b
    rw [if_neg (by rw [h4]; exact nI_ge (by omega) (by omega)), show (0 : Int32) = nI 0 from rfl, O_lat (by omega) (by omega), Option.bind_some]
    dsimp only
    rw [l1, nI_1, ih f (c + 1) (by omega) (by omega)]
    show _ = some (bI ((lt (64 * c)).isSome && allB lt m (c + 1)), t)
    show (if oI (lt (64 * c)) = -1 then _ else _) = _
    cases hl : lt (64 * c) with
    | none => rw [if_pos (show oI none = -1 from rfl)]; rfl
    | some b => rw [if_neg (show ¬ oI (some b) = -1 from fun x => (eq_mI (a := b) (by have := l2 b hl; omega)).mp x)]; rfl
/-- the frame as both sides have it -/
def FO1 (B : Nat → Nat) (F : Option (Nat × Nat × Nat)) (t : St) : Prop := match F with
  | none => t.1 1 = mI ∧ t.1 4 = nI 0
  | some (cd, p0, cnt) => t.1 1 = nI cd ∧ FrO B p0 cnt t ∧ (cd = 192 ∨ cd = 194) ∧ 1 ≤ cnt
def FM1 (B : Nat → Nat) (F : Option (Nat × Nat × Nat)) (u : St) : Prop := match F with
  | none => u.1 9 = nI 0 ∧ u.1 12 = nI 0
  | some (cd, p0, cnt) => u.1 9 = nI cd ∧ FrM B p0 cnt u ∧ FrB B p0 cnt ∧ (cd = 192 ∨ cd = 194) ∧ 1 ≤ cnt
def Fcnt (F : Option (Nat × Nat × Nat)) : Nat := match F with
  | none => 0
  | some x => x.2.2
theorem O_canStand {n c : Nat} {B : Nat → Nat} {ln : Bool} {F : Option (Nat × Nat × Nat)} {lt : Nat → Option Nat} {t : St} (hn : 20000 ≤ n) (h12 : t.1 12 = bI ln) (hF : FO1 B F t) (hL : PL (t.2.1 7) lt) (hc : c < 256) (hc2 : c ≠ 255) : m_Parser_canStand n (nI c) t = some (bI (cst ln F.isSome (allB lt (Fcnt F) 0) c), t) := by
  have ne : ∀ a, a < 300 → c ≠ a → ¬ nI c = nI a := fun a ha h => nI_ne (by omega) (by omega) h
  have hfr : t.1 1 = -1 ↔ F.isSome = false := by
    cases F with
    | none => exact ⟨fun _ => rfl, fun _ => hF.1⟩
    | some x =>
      obtain ⟨cd, p0, cnt⟩ := x
      obtain ⟨f1, -, f3, -⟩ := hF
      refine ⟨fun q => ?_, fun q => (by cases q)⟩
      rw [f1] at q
      exact ((eq_mI (a := cd) (by omega)).mp q).elim
  have hcnt : t.1 4 = nI (Fcnt F) ∧ Fcnt F ≤ 4 := by
    cases F with
    | none => exact ⟨hF.2, by show 0 ≤ 4; omega⟩
    | some x => exact ⟨hF.2.1.1, hF.2.1.2.1⟩
  have hall : m_Parser_allBegun n t = some (bI (allB lt (Fcnt F) 0), t) := O_allB hcnt.1 hcnt.2 hL (Fcnt F) n 0 (by omega) (by have := hcnt.2; omega)
  have e14 : m_Parser_canStand_14 n (nI c) t = some (bI (ln && decide (c = 220)), t) := by
    unfold m_Parser_canStand_14 m_Parser_canStand_32
    rw [h12]
    cases ln with
    | false => rw [if_pos (show bI false = 0 from rfl)]; rfl
    | true =>
      rw [if_neg (show ¬ bI true = 0 by decide)]
      by_cases q : c = 220
      · rw [if_pos (show nI c = 220 by rw [q]; rfl), decide_eq_true q]; rfl
      · rw [if_neg (show ¬ nI c = 220 from ne 220 (by omega) q), decide_eq_false q]; rfl
  unfold m_Parser_canStand
  rw [h12, e14, hall, Option.bind_some]
  unfold cst
  cases ln with
  | true => rw [if_neg (show ¬ bI true = 0 by decide), if_pos rfl]; rfl
  | false =>
    rw [if_pos (show bI false = 0 from rfl), if_neg (show ¬ false = true by decide)]
    by_cases q0 : c = 220
    · rw [if_pos (show nI c = 220 by rw [q0]; rfl), if_neg (show ¬ (c = 192 ∨ c = 194) by omega), if_neg (show ¬ (c = 196 ∨ c = 219 ∨ c = 221) by omega), if_neg (show ¬ c = 218 by omega), if_neg (show ¬ c = 217 by omega), decide_eq_false (show ¬ (c = 254 ∨ (224 ≤ c ∧ c ≤ 239)) by omega)]; rfl
    · rw [if_neg (show ¬ nI c = 220 from ne 220 (by omega) q0)]
      by_cases q1 : c = 192
      · rw [if_pos (show nI c = 192 by rw [q1]; rfl), if_pos (Or.inl q1)]
        cases hq : F.isSome with
        | false => rw [if_pos (hfr.mpr hq)]; rfl
        | true => rw [if_neg (fun x => by have := hfr.mp x; rw [hq] at this; cases this)]; rfl
      · rw [if_neg (show ¬ nI c = 192 from ne 192 (by omega) q1)]
        by_cases q2 : c = 194
        · rw [if_pos (show nI c = 194 by rw [q2]; rfl), if_pos (Or.inr q2)]
          cases hq : F.isSome with
          | false => rw [if_pos (hfr.mpr hq)]; rfl
          | true => rw [if_neg (fun x => by have := hfr.mp x; rw [hq] at this; cases this)]; rfl
        · rw [if_neg (show ¬ nI c = 194 from ne 194 (by omega) q2), if_neg (show ¬ (c = 192 ∨ c = 194) by omega)]
          by_cases q3 : c = 196
          · rw [if_pos (show nI c = 196 by rw [q3]; rfl), if_pos (Or.inl q3)]; rfl
          · rw [if_neg (show ¬ nI c = 196 from ne 196 (by omega) q3)]
            by_cases q4 : c = 217
            · rw [if_pos (show nI c = 217 by rw [q4]; rfl), if_neg (show ¬ (c = 196 ∨ c = 219 ∨ c = 221) by omega), if_neg (show ¬ c = 218 by omega), if_pos q4]
              unfold m_Parser_canStand_158
              cases hq : F.isSome with
              | false => rw [if_pos (hfr.mpr hq)]; rfl
              | true =>
                rw [if_neg (fun x => by have := hfr.mp x; rw [hq] at this; cases this)]
                cases hal : allB lt (Fcnt F) 0 with
                | false => rfl
                | true => rfl
            · rw [if_neg (show ¬ nI c = 217 from ne 217 (by omega) q4)]
              by_cases q5 : c = 218
              · rw [if_pos (show nI c = 218 by rw [q5]; rfl), if_neg (show ¬ (c = 196 ∨ c = 219 ∨ c = 221) by omega), if_pos q5]
                cases hq : F.isSome with
                | false => rw [if_pos (hfr.mpr hq)]; rfl
                | true => rw [if_neg (fun x => by have := hfr.mp x; rw [hq] at this; cases this)]; rfl
              · rw [if_neg (show ¬ nI c = 218 from ne 218 (by omega) q5)]
                by_cases q6 : c = 219
                · rw [if_pos (show nI c = 219 by rw [q6]; rfl), if_pos (show (c = 196 ∨ c = 219 ∨ c = 221) by omega)]; rfl
                · rw [if_neg (show ¬ nI c = 219 from ne 219 (by omega) q6)]
                  by_cases q7 : c = 221
                  · rw [if_pos (show nI c = 221 by rw [q7]; rfl), if_pos (show (c = 196 ∨ c = 219 ∨ c = 221) by omega)]; rfl
                  · rw [if_neg (show ¬ nI c = 221 from ne 221 (by omega) q7), if_neg (show ¬ (c = 196 ∨ c = 219 ∨ c = 221) by omega), if_neg q5, if_neg q4]
                    have efr : m_Parser_isFree n (nI c) t = some (bI (decide (c = 254 ∨ (224 ≤ c ∧ c ≤ 239))), t) := by
                      unfold m_Parser_isFree m_Parser_isFree_21 m_Parser_isFree_25
                      by_cases r1 : c = 254
                      · rw [if_pos (show nI c = 254 by rw [r1]; rfl), decide_eq_true (show (c = 254 ∨ (224 ≤ c ∧ c ≤ 239)) from Or.inl r1)]; rfl
                      · rw [if_neg (show ¬ nI c = 254 from ne 254 (by omega) r1)]
                        by_cases r2 : c < 224
                        · rw [if_pos (show nI c < 224 from nI_lt (b := 224) r2 (by omega)), decide_eq_false (show ¬ (c = 254 ∨ (224 ≤ c ∧ c ≤ 239)) by omega)]; rfl
                        · rw [if_neg (show ¬ nI c < 224 from nI_nlt (b := 224) (by omega) (by omega))]
                          by_cases r3 : 239 < c
                          · rw [if_pos (show (239 : Int32) < nI c from nI_lt (a := 239) r3 (by omega)), decide_eq_false (show ¬ (c = 254 ∨ (224 ≤ c ∧ c ≤ 239)) by omega)]; rfl
                          · rw [if_neg (show ¬ (239 : Int32) < nI c from nI_nlt (a := 239) (by omega) (by omega)), decide_eq_true (show (c = 254 ∨ (224 ≤ c ∧ c ≤ 239)) by omega)]; rfl
                    rw [efr, Option.bind_some]
                    show (if ¬ (bI _ = 0 ∨ bI _ = 1) then none else some (bI _, t)) = _
                    rw [if_neg (by unfold bI; by_cases z : decide (c = 254 ∨ (224 ≤ c ∧ c ≤ 239)) = true; rw [if_pos z]; simp; rw [if_neg z]; simp)]

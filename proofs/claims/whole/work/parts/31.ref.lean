def fM (u : St) (e : Er) : St := sG (sG u 2 (nI e.1)) 3 (nI e.2)
/-- the reference's state has the fault e -/
def Gz (z : St) (e : Er) : Prop := z.1 2 = nI e.1 ∧ z.1 3 = nI e.2 ∧ 1 ≤ e.1 ∧ e.1 ≤ 8
theorem Gz.ne {z : St} {e : Er} (h : Gz z e) : z.1 2 ≠ 0 := by
  obtain ⟨h1, -, h2, h3⟩ := h
  rw [h1]
  exact nI_ne0 (by omega) (by omega)
theorem Gz.nle {z : St} {e : Er} (h : Gz z e) : ¬ z.1 2 ≤ 0 := by
  obtain ⟨h1, -, h2, h3⟩ := h
  rw [h1]
  exact nI_nle (by omega) (by omega)
theorem Gz.pos {z : St} {e : Er} (h : Gz z e) : 0 < z.1 2 := by
  obtain ⟨h1, -, h2, h3⟩ := h
  rw [h1]
  exact nI_lt (a := 0) (by omega) (by omega)
theorem Gz.keep {t z : St} {e : Er} (h : Gz t e) (k : Fk 2 3 t z) : Gz z e := ⟨k.1.trans h.1, k.2.trans h.2.1, h.2.2⟩
theorem fM_z {u : St} {e : Er} (h : e.1 = 5 ∨ e.1 = 1 ∨ e.1 = 6) : Gz (fM u e) e := ⟨rfl, rfl, by omega, by omega⟩
theorem R_wrong {n : Nat} {a b : Int32} {u : St} (h : u.1 2 = 0) : m_Model_wrong n a b u = some (0, sG (sG u 2 a) 3 b) := by
  unfold m_Model_wrong
  rw [if_pos h]
theorem R_wrongF {n : Nat} {a b : Int32} {u : St} (h : u.1 2 ≠ 0) : m_Model_wrong n a b u = some (0, u) := by
  unfold m_Model_wrong
  rw [if_neg h]
theorem R_byteAt {n : Nat} {B : Nat → Nat} {sz p : Nat} {u : St} (h : InM B sz u) (hp : p < sz) : m_Model_byteAt n (nI p) u = some (nI (B p), u) := by
  obtain ⟨h0, h1, h2, h3, h4⟩ := h
  unfold m_Model_byteAt
  rw [if_neg (nI_in (N := 16384) (by omega) (by omega)), nI_clamp (by omega), (h4 p hp).1]
def nx (B : Nat → Nat) (sz p : Nat) : Except Er Nat := if sz ≤ p then .error (1, sz) else .ok (B p)
def nxM (u : St) (p : Nat) : Except Er Nat → Int32 × St
  | .error e => (0, fM u e)
  | .ok v => (nI v, sG u 4 (nI (p + 1)))
theorem R_nextF {n : Nat} {u : St} {e : Er} (h : Gz u e) : m_Model_next n u = some (0, u) := by
  unfold m_Model_next
  rw [if_neg h.nle]
theorem R_next37 {n : Nat} {B : Nat → Nat} {sz p : Nat} {u : St} (h : InM B sz u) (h2 : u.1 2 = 0) (h4 : u.1 4 = nI p) (hp : p ≤ sz) : m_Model_next_37 n u = some (nxM u p (nx B sz p)) := by
  have hI := h
  obtain ⟨h0, h1, h5, h6, h7⟩ := h
  unfold m_Model_next_37 nx
  rw [h4, h0]
  by_cases c : sz ≤ p
  · rw [if_pos (by rw [show p = sz by omega]), if_pos c, R_wrong h2]; rfl
  · rw [if_neg (show ¬ nI p = nI sz from fun q => c (Nat.le_of_eq ((nI_eq (by omega) (by omega)).mp q).symm)), if_neg c]
    rw [nI_1, nI_pred, R_byteAt (u := sG u 4 (nI (p + 1))) (B := B) (sz := sz) hI (by omega)]; rfl
theorem R_next {n : Nat} {B : Nat → Nat} {sz ce lp p : Nat} {u : St} (h : InM B sz u) (h2 : u.1 2 = 0) (h4 : u.1 4 = nI p) (h5 : u.1 5 = nI ce) (h16 : u.1 16 = nI lp) (hp : p ≤ sz) (hc : p ≤ ce) (hce : ce < 1048576) : m_Model_next n u = some (nxM u p (tk B sz ce lp p 0 255)) := by
  have hB : ¬ sz ≤ p → B p < 256 := fun q => (h.2.2.2.2 p (by omega)).2
  have hs := h.2.1
  unfold m_Model_next tk
  rw [if_pos (by rw [h2]; decide), h5, if_neg (nI_pos (by omega)), h4]
  by_cases c : ce ≤ p
  · rw [if_pos (by rw [show p = ce by omega]), if_pos c]
    unfold m_Model_lengthAt
    rw [h16]
    show (m_Model_wrong n 5 (nI lp) u).bind _ = _
    rw [R_wrong h2]; rfl
  · rw [if_neg (show ¬ nI p = nI ce from fun q => c (Nat.le_of_eq ((nI_eq (by omega) (by omega)).mp q).symm)), if_neg c, R_next37 h h2 h4 hp]
    unfold nx
    by_cases c2 : sz ≤ p
    · rw [if_pos c2, if_pos c2]
    · rw [if_neg c2, if_neg c2, if_neg (by have := hB c2; omega)]
theorem R_nextN {n : Nat} {B : Nat → Nat} {sz p : Nat} {u : St} (h : InM B sz u) (h2 : u.1 2 = 0) (h4 : u.1 4 = nI p) (h5 : u.1 5 = mI) (hp : p ≤ sz) : m_Model_next n u = some (nxM u p (nx B sz p)) := by
  unfold m_Model_next
  rw [if_pos (by rw [h2]; decide), h5, if_pos (show mI < 0 by decide), R_next37 h h2 h4 hp]
theorem nx_er {B : Nat → Nat} {sz p : Nat} {e : Er} (h : nx B sz p = .error e) : e = (1, sz) ∧ sz ≤ p := by
  unfold nx at h
  by_cases c : sz ≤ p
  · rw [if_pos c] at h; cases h; exact ⟨rfl, c⟩
  · rw [if_neg c] at h; cases h
theorem nx_ok {B : Nat → Nat} {sz p v : Nat} (h : nx B sz p = .ok v) : v = B p ∧ p < sz := by
  unfold nx at h
  by_cases c : sz ≤ p
  · rw [if_pos c] at h; cases h
  · rw [if_neg c] at h; cases h; exact ⟨rfl, by omega⟩
theorem R_must1 {n : Nat} {u : St} : m_Model_must n 1 u = some u := by
  unfold m_Model_must
  rw [if_neg (by decide)]
theorem R_must0 {n p : Nat} {u : St} (h2 : u.1 2 = 0) (h4 : u.1 4 = nI (p + 1)) : m_Model_must n 0 u = some (fM u (6, p)) := by
  unfold m_Model_must
  rw [if_pos rfl, R_wrong h2, h4, nI_pred]; rfl
theorem R_mustF {n : Nat} {x : Int32} {u : St} (h : u.1 2 ≠ 0) : m_Model_must n x u = some u := by
  unfold m_Model_must
  by_cases c : x = 0
  · rw [if_pos c, R_wrongF h]; rfl
  · rw [if_neg c]
theorem R_twoF {n : Nat} {u : St} {e : Er} (h : Gz u e) : m_Model_two n u = some (0, u) := by
  unfold m_Model_two
  rw [R_nextF h]
  simp only [Option.bind_some]
  rw [R_nextF h]; rfl
/-- two bytes in the contents: the value, or the fault, 0 or 256 times the first -/
theorem R_two {n : Nat} {B : Nat → Nat} {sz ce lp p : Nat} {u : St} (h : InM B sz u) (h2 : u.1 2 = 0) (h4 : u.1 4 = nI p) (h5 : u.1 5 = nI ce) (h16 : u.1 16 = nI lp) (hp : p ≤ sz) (hc : p ≤ ce) (hce : ce < 1048576) : (∀ e, tp B sz ce lp p 0 65535 = .error e → ∃ v w, m_Model_two n u = some (v, w) ∧ Gz w e) ∧ ∀ v, tp B sz ce lp p 0 65535 = .ok v → m_Model_two n u = some (nI v, sG u 4 (nI (p + 2))) := by
  have e1 := R_next (n := n) h h2 h4 h5 h16 hp hc hce
  unfold tp m_Model_two
  rw [e1]
  cases h1 : tk B sz ce lp p 0 255 with
  | error e =>
    have hz := fM_z (u := u) (tk_er h1).1
    refine ⟨fun e' he => ?_, fun v hv => (by cases hv)⟩
    cases he
    refine ⟨(256 : Int32) * 0 + 0, fM u e, ?_, hz⟩
    simp only [Option.bind_some, nxM]
    rw [R_nextF hz]; rfl
  | ok a =>
    obtain ⟨a1, a2, a3, a4, a5⟩ := tk_lt h1
    have e2 := R_next (n := n) (ce := ce) (lp := lp) (p := p + 1) (u := sG u 4 (nI (p + 1))) h h2 rfl h5 h16 (by omega) (by omega) hce
    simp only [Option.bind_some, nxM]
    rw [e2]
    cases h3 : tk B sz ce lp (p + 1) 0 255 with
    | error e =>
      have hz := fM_z (u := sG u 4 (nI (p + 1))) (tk_er h3).1
      refine ⟨fun e' he => ?_, fun v hv => (by cases hv)⟩
      cases he
      exact ⟨_, _, rfl, hz⟩
    | ok b =>
      obtain ⟨b1, b2, b3, b4, b5⟩ := tk_lt h3
      refine ⟨fun e' he => ?_, fun v hv => ?_⟩
      · dsimp only at he
        rw [if_neg (by omega)] at he; cases he
      · dsimp only at hv
        rw [if_neg (by omega)] at hv; cases hv
        simp only [Option.bind_some, nxM, sG_sG]
        rw [show (256 : Int32) = nI 256 from rfl, pk_mul, nI_add]

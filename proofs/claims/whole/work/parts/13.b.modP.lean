def tP0 : St := (fun _ => 0, fun _ _ => 0, fun _ _ => 0, fun _ => 16)
def tO0 (z : St) : St := (fun k => match k with | 1 => z.1 1 | 2 => z.1 2 | 3 => z.1 3 | 4 => z.1 4 | 5 => z.1 5 | 6 => z.1 6 | 7 => z.1 7 | 8 => z.1 8 | 14 => -1 | _ => 0, fun k => match k with | 1 => z.2.1 1 | 2 => z.2.1 2 | 3 => z.2.1 3 | 4 => z.2.1 4 | 5 => z.2.1 5 | _ => fun _ => 0, fun _ _ => 0, fun k => match k with | 0 => 64 | _ => 16)
def tM0 : St := (fun k => match k with | 3 => -1 | _ => 0, fun _ _ => 0, fun _ _ => 0, fun _ => 0)
def wP (cI cB cJ cZ : ClassId) (a : Nat → Nat) (t : St) : va_W := [(a 0, .inr (3, [.ref (a 8), .ref (a 1), .ref (a 3), .ref (a 5), .ref (a 6), .ref (a 7), .int (t.1 1), .int (t.1 2), .int (t.1 3), .int (t.1 4), .int (t.1 5), .int (t.1 6)])),
  (a 1, .inr (1, [.ref (a 2), .int (t.1 7)])),
  (a 2, .inl (cI, 16, .inl (t.2.1 1))),
  (a 3, .inr (1, [.ref (a 4), .int (t.1 8)])),
  (a 4, .inl (cI, 16, .inl (t.2.1 2))),
  (a 5, .inl (cI, 16, .inl (t.2.1 3))),
  (a 6, .inl (cI, 4, .inl (t.2.1 4))),
  (a 7, .inl (cI, 8, .inl (t.2.1 5)))]
def isP : List Nat := [0, 1, 2, 3, 4, 5, 6, 7]
theorem hCP (cI cB cJ cZ : ClassId) (a : Nat → Nat) (t : St) : isP.map (fun i => (wP cI cB cJ cZ a t)[i]?) = (wP cI cB cJ cZ a t).map some := rfl
theorem hDP (cI cB cJ cZ : ClassId) (a : Nat → Nat) (t : St) : isP.filterMap (fun i => (wP cI cB cJ cZ a t)[i]?) = wP cI cB cJ cZ a t := rfl
def m_Arrays_fillI_6P_5b (n : Nat)  (K5 : Int32 → Int32 → Int32 → St → Option (St)) (x1 : Int32) (x2 : Int32) (x3 : Int32) (t : St) : Option (St) :=
 if x3 ≤ x2 then
  some t
 else
  if (x2) < 0 ∨ 4 ≤ (x2).toNatClampNeg then none else
  K5 x1 (x2 + 1) x3 (sH t 4 (x2).toNatClampNeg x1)
def m_Arrays_fillI_6P_5 (n : Nat)  : Nat → Int32 → Int32 → Int32 → St → Option (St)
  | 0 => fun _ _ _ _ => none
  | k + 1 => m_Arrays_fillI_6P_5b n  (m_Arrays_fillI_6P_5 n  k)
def m_Arrays_fillI_6P (n : Nat) (x1 : Int32) (t : St) : Option (St) :=
 m_Arrays_fillI_6P_5 n  n x1 (0 : Int32) (Int32.ofNat 4) t
def m_Arrays_fillI_7P_5b (n : Nat)  (K5 : Int32 → Int32 → Int32 → St → Option (St)) (x1 : Int32) (x2 : Int32) (x3 : Int32) (t : St) : Option (St) :=
 if x3 ≤ x2 then
  some t
 else
  if (x2) < 0 ∨ 8 ≤ (x2).toNatClampNeg then none else
  K5 x1 (x2 + 1) x3 (sH t 5 (x2).toNatClampNeg x1)
def m_Arrays_fillI_7P_5 (n : Nat)  : Nat → Int32 → Int32 → Int32 → St → Option (St)
  | 0 => fun _ _ _ _ => none
  | k + 1 => m_Arrays_fillI_7P_5b n  (m_Arrays_fillI_7P_5 n  k)
def m_Arrays_fillI_7P (n : Nat) (x1 : Int32) (t : St) : Option (St) :=
 m_Arrays_fillI_7P_5 n  n x1 (0 : Int32) (Int32.ofNat 8) t
def m_Picture_clearP (n : Nat)  (t : St) : Option (St) :=
 (m_Arrays_fillI_6P n (-1 : Int32) (sG (sG t 7 (0 : Int32)) 8 (0 : Int32))).bind (fun z21 =>
  (m_Arrays_fillI_7P n (-1 : Int32) z21).bind (fun z29 =>
   some (sG (sG (sG (sG (sG (sG z29 1 (-1 : Int32)) 2 (0 : Int32)) 3 (0 : Int32)) 4 (0 : Int32)) 5 (0 : Int32)) 6 (-1 : Int32))))

def m_Model_forget_83b (n : Nat)  (K83 : Int32 → St → Option (St)) (x1 : Int32) (t : St) : Option (St) :=
 if (256 : Int32) ≤ x1 then
  some t
 else
  if (x1) < 0 ∨ 256 ≤ (x1).toNatClampNeg then none else
  K83 (x1 + 1) (sH t 13 (x1).toNatClampNeg (-1 : Int32))
def m_Model_forget_83 (n : Nat)  : Nat → Int32 → St → Option (St)
  | 0 => fun _ _ => none
  | k + 1 => m_Model_forget_83b n  (m_Model_forget_83 n  k)
def m_Model_forget_62b (n : Nat)  (K62 : Int32 → St → Option (St)) (x1 : Int32) (t : St) : Option (St) :=
 if (8 : Int32) ≤ x1 then
  m_Model_forget_83 n  n (0 : Int32) t
 else
  if (x1) < 0 ∨ 8 ≤ (x1).toNatClampNeg then none else
  K62 (x1 + 1) (sH t 8 (x1).toNatClampNeg (vp_nar .boolean (0 : Int32)))
def m_Model_forget_62 (n : Nat)  : Nat → Int32 → St → Option (St)
  | 0 => fun _ _ => none
  | k + 1 => m_Model_forget_62b n  (m_Model_forget_62 n  k)
def m_Model_forget_42b (n : Nat)  (K42 : Int32 → St → Option (St)) (x1 : Int32) (t : St) : Option (St) :=
 if (4 : Int32) ≤ x1 then
  m_Model_forget_62 n  n (0 : Int32) t
 else
  if (x1) < 0 ∨ 4 ≤ (x1).toNatClampNeg then none else
  K42 (x1 + 1) (sH t 6 (x1).toNatClampNeg (vp_nar .boolean (0 : Int32)))
def m_Model_forget_42 (n : Nat)  : Nat → Int32 → St → Option (St)
  | 0 => fun _ _ => none
  | k + 1 => m_Model_forget_42b n  (m_Model_forget_42 n  k)
def m_Model_forget (n : Nat)  (t : St) : Option (St) :=
 m_Model_forget_42 n  n (0 : Int32) (sG (sG (sG (sG (sG (sG (sG (sG t 7 (-1 : Int32)) 8 (0 : Int32)) 9 (0 : Int32)) 10 (0 : Int32)) 11 (0 : Int32)) 12 (0 : Int32)) 13 (0 : Int32)) 14 (0 : Int32))
def m_Model_give_35b (n : Nat)  (K35 : Int64 → Int32 → St → Option (Int32 × St)) (x1 : Int64) (x4 : Int32) (t : St) : Option (Int32 × St) :=
 if x4 < 0 then
  (m_Model_forget n (sG (sG t 2 (0 : Int32)) 3 (-1 : Int32))).bind (fun z85 =>
   some ((1 : Int32), z85))
 else
  if ((t.1 1)) < 0 ∨ 16384 ≤ ((t.1 1)).toNatClampNeg then none else
  K35 x1 (x4 + (-1)) (sG (sH t 0 ((t.1 1)).toNatClampNeg (vp_nar .byte (((x1 >>> ((((8 : Int32) * x4)).toInt64 &&& 63))).toInt32).toInt8.toInt32)) 1 ((t.1 1) + (1 : Int32)))
def m_Model_give_35 (n : Nat)  : Nat → Int64 → Int32 → St → Option (Int32 × St)
  | 0 => fun _ _ _ => none
  | k + 1 => m_Model_give_35b n  (m_Model_give_35 n  k)
def m_Model_give (n : Nat) (x1 : Int64) (x3 : Int32) (t : St) : Option (Int32 × St) :=
 if x3 < (1 : Int32) then
  some ((0 : Int32), (sG t 0 (0 : Int32)))
 else
  if (8 : Int32) < x3 then
   some ((0 : Int32), (sG t 0 (0 : Int32)))
  else
   if ((t.1 1) + x3) ≤ (16384 : Int32) then
    m_Model_give_35 n  n x1 (x3 - (1 : Int32)) (sG t 0 (0 : Int32))
   else
    some ((0 : Int32), (sG t 0 (0 : Int32)))
def m_Model_wipe (n : Nat)  (t : St) : Option (St) :=
 (m_Model_forget n (sG (sG (sG (sG t 0 (0 : Int32)) 1 (0 : Int32)) 2 (0 : Int32)) 3 (-1 : Int32))).bind (fun z21 =>
  some z21)
def m_Model_lengthAt (n : Nat)  (t : St) : Option (Int32 × St) :=
 some ((t.1 16), t)
def m_Model_wrong (n : Nat) (x1 : Int32) (x2 : Int32) (t : St) : Option (Int32 × St) :=
 if (t.1 2) = 0 then
  some ((0 : Int32), (sG (sG t 2 x1) 3 x2))
 else
  some ((0 : Int32), t)
def m_Model_byteAt (n : Nat) (x1 : Int32) (t : St) : Option (Int32 × St) :=
 if (x1) < 0 ∨ 16384 ≤ (x1).toNatClampNeg then none else
 some ((((t.2.1 0) (x1).toNatClampNeg) &&& (255 : Int32)), t)
def m_Model_next_37 (n : Nat)   (t : St) : Option (Int32 × St) :=
 if (t.1 4) = (t.1 1) then
  (m_Model_wrong n (1 : Int32) (t.1 1) t).bind (fun z54 =>
   some (z54.1, z54.2))
 else
  (m_Model_byteAt n (((t.1 4) + (1 : Int32)) - (1 : Int32)) (sG t 4 ((t.1 4) + (1 : Int32)))).bind (fun z75 =>
   some (z75.1, z75.2))
def m_Model_next (n : Nat)  (t : St) : Option (Int32 × St) :=
 if (t.1 2) ≤ 0 then
  if (t.1 5) < 0 then
   m_Model_next_37 n  t
  else
   if (t.1 4) = (t.1 5) then
    (m_Model_lengthAt n t).bind (fun z30 =>
     (m_Model_wrong n (5 : Int32) z30.1 z30.2).bind (fun z33 =>
      some (z33.1, z33.2)))
   else
    m_Model_next_37 n  t
 else
  some ((0 : Int32), t)
def m_Model_marker_61 (n : Nat)  (x1 : Int32) (t : St) : Option (Int32 × St) :=
 if (t.1 2) = 0 then
  if x1 = 0 then
   (m_Model_wrong n (4 : Int32) ((t.1 4) - (1 : Int32)) t).bind (fun z80 =>
    some (z80.1, z80.2))
  else
   some (x1, t)
 else
  some (x1, t)
def m_Model_marker_39b (n : Nat)  (K39 : Int32 → St → Option (Int32 × St)) (x1 : Int32) (t : St) : Option (Int32 × St) :=
 if (t.1 2) = 0 then
  if x1 = (255 : Int32) then
   (m_Model_next n t).bind (fun z54 =>
    K39 z54.1 z54.2)
  else
   m_Model_marker_61 n  x1 t
 else
  m_Model_marker_61 n  x1 t
def m_Model_marker_39 (n : Nat)  : Nat → Int32 → St → Option (Int32 × St)
  | 0 => fun _ _ => none
  | k + 1 => m_Model_marker_39b n  (m_Model_marker_39 n  k)
def m_Model_marker (n : Nat)  (t : St) : Option (Int32 × St) :=
 (m_Model_next n (sG t 6 (t.1 4))).bind (fun z9 =>
  if (z9.2.1 2) = 0 then
   if z9.1 = (255 : Int32) then
    m_Model_marker_39 n  n z9.1 z9.2
   else
    (m_Model_wrong n (3 : Int32) ((z9.2.1 4) - (1 : Int32)) z9.2).bind (fun z35 =>
     some (z35.1, z35.2))
  else
   m_Model_marker_39 n  n z9.1 z9.2)
def m_Model_isSent_44 (n : Nat) (K15 : Int32 → Int32 → St → Option (Int32 × St)) (x2 : Int32) (y0 : Int32) (t : St) : Option (Int32 × St) :=
 K15 y0 (x2 + 1) t
def m_Model_isSent_43 (n : Nat) (K15 : Int32 → Int32 → St → Option (Int32 × St)) (x2 : Int32) (t : St) : Option (Int32 × St) :=
 m_Model_isSent_44 n K15 x2 (0 : Int32) t
def m_Model_isSent_15b (n : Nat)  (K15 : Int32 → Int32 → St → Option (Int32 × St)) (x1 : Int32) (x2 : Int32) (t : St) : Option (Int32 × St) :=
 if (t.1 12) ≤ x2 then
  if ¬ (x1 = 0 ∨ x1 = 1) then none else
  some (x1, t)
 else
  if x1 = 0 then
   m_Model_isSent_43 n K15 x2 t
  else
   if (((64 : Int32) * x2)) < 0 ∨ 256 ≤ (((64 : Int32) * x2)).toNatClampNeg then none else
   if ((t.2.1 13) (((64 : Int32) * x2)).toNatClampNeg) < 0 then
    m_Model_isSent_43 n K15 x2 t
   else
    m_Model_isSent_44 n K15 x2 (1 : Int32) t
def m_Model_isSent_15 (n : Nat)  : Nat → Int32 → Int32 → St → Option (Int32 × St)
  | 0 => fun _ _ _ => none
  | k + 1 => m_Model_isSent_15b n  (m_Model_isSent_15 n  k)
def m_Model_isSent_12 (n : Nat)  (y0 : Int32) (t : St) : Option (Int32 × St) :=
 m_Model_isSent_15 n  n y0 (0 : Int32) t
def m_Model_isSent (n : Nat)  (t : St) : Option (Int32 × St) :=
 if (t.1 12) ≤ 0 then
  m_Model_isSent_12 n  (0 : Int32) t
 else
  m_Model_isSent_12 n  (1 : Int32) t
def m_Model_two (n : Nat)  (t : St) : Option (Int32 × St) :=
 (m_Model_next n t).bind (fun z1 =>
  (m_Model_next n z1.2).bind (fun z11 =>
   some ((((256 : Int32) * z1.1) + z11.1), z11.2)))
def m_Model_open_35 (n : Nat)  (x1 : Int32) (t : St) : Option (St) :=
 some (sG t 5 ((t.1 16) + x1))
def m_Model_open (n : Nat)  (t : St) : Option (St) :=
 (m_Model_two n (sG t 16 (t.1 4))).bind (fun z9 =>
  if (z9.2.1 2) = 0 then
   if (2 : Int32) ≤ z9.1 then
    m_Model_open_35 n  z9.1 z9.2
   else
    (m_Model_wrong n (5 : Int32) (z9.2.1 16) z9.2).bind (fun z31 =>
     m_Model_open_35 n  z9.1 z31.2)
  else
   m_Model_open_35 n  z9.1 z9.2)
def m_Model_must (n : Nat) (x1 : Int32) (t : St) : Option (St) :=
 if x1 = 0 then
  (m_Model_wrong n (6 : Int32) ((t.1 4) - (1 : Int32)) t).bind (fun z13 =>
   some z13.2)
 else
  some t
def m_Model_readQuantisers_130 (n : Nat) (K2 : Int32 → St → Option (St)) (y0 : Int32) (t : St) : Option (St) :=
 K2 y0 t
def m_Model_readQuantisers_114 (n : Nat) (K2 : Int32 → St → Option (St))  (t : St) : Option (St) :=
 if (t.1 5) ≤ (t.1 4) then
  m_Model_readQuantisers_130 n K2 (0 : Int32) t
 else
  m_Model_readQuantisers_130 n K2 (1 : Int32) t
def m_Model_readQuantisers_100 (n : Nat) (K2 : Int32 → St → Option (St)) (x2 : Int32) (t : St) : Option (St) :=
 if (t.1 2) = 0 then
  if (x2) < 0 ∨ 4 ≤ (x2).toNatClampNeg then none else
  m_Model_readQuantisers_114 n K2 (sH t 6 (x2).toNatClampNeg (vp_nar .boolean (1 : Int32)))
 else
  m_Model_readQuantisers_114 n K2 t
def m_Model_readQuantisers_78 (n : Nat) (K2 : Int32 → St → Option (St)) (K41 : Int32 → Int32 → St → Option (St)) (x2 : Int32) (x3 : Int32) (x4 : Int32) (y1 : Int32) (t : St) : Option (St) :=
 (m_Model_must n y1 t).bind (fun z78 =>
  if ((((64 : Int32) * x2) + x3)) < 0 ∨ 256 ≤ ((((64 : Int32) * x2) + x3)).toNatClampNeg then none else
  K41 x2 (x3 + 1) (sH z78 7 ((((64 : Int32) * x2) + x3)).toNatClampNeg x4))
def m_Model_readQuantisers_73 (n : Nat) (K2 : Int32 → St → Option (St)) (K41 : Int32 → Int32 → St → Option (St)) (x2 : Int32) (x3 : Int32) (x4 : Int32) (t : St) : Option (St) :=
 m_Model_readQuantisers_78 n K2 K41 x2 x3 x4 (1 : Int32) t
def m_Model_readQuantisers_41b (n : Nat) (K2 : Int32 → St → Option (St)) (K41 : Int32 → Int32 → St → Option (St)) (x2 : Int32) (x3 : Int32) (t : St) : Option (St) :=
 if (64 : Int32) ≤ x3 then
  m_Model_readQuantisers_100 n K2 x2 t
 else
  if (t.1 2) = 0 then
   (m_Model_next n t).bind (fun z55 =>
    if 0 < (z55.2.1 2) then
     m_Model_readQuantisers_73 n K2 K41 x2 x3 z55.1 z55.2
    else
     if z55.1 ≤ 0 then
      m_Model_readQuantisers_78 n K2 K41 x2 x3 z55.1 (0 : Int32) z55.2
     else
      m_Model_readQuantisers_73 n K2 K41 x2 x3 z55.1 z55.2)
  else
   m_Model_readQuantisers_100 n K2 x2 t
def m_Model_readQuantisers_41 (n : Nat) (K2 : Int32 → St → Option (St)) : Nat → Int32 → Int32 → St → Option (St)
  | 0 => fun _ _ _ => none
  | k + 1 => m_Model_readQuantisers_41b n K2 (m_Model_readQuantisers_41 n K2 k)
def m_Model_readQuantisers_36 (n : Nat) (K2 : Int32 → St → Option (St)) (x2 : Int32) (y1 : Int32) (t : St) : Option (St) :=
 (m_Model_must n y1 t).bind (fun z36 =>
  m_Model_readQuantisers_41 n K2 n x2 (0 : Int32) z36)
def m_Model_readQuantisers_31 (n : Nat) (K2 : Int32 → St → Option (St)) (x2 : Int32) (t : St) : Option (St) :=
 m_Model_readQuantisers_36 n K2 x2 (1 : Int32) t
def m_Model_readQuantisers_2b (n : Nat)  (K2 : Int32 → St → Option (St)) (x1 : Int32) (t : St) : Option (St) :=
 if x1 = 0 then
  some t
 else
  if (t.1 2) = 0 then
   (m_Model_next n t).bind (fun z14 =>
    if 0 < (z14.2.1 2) then
     m_Model_readQuantisers_31 n K2 z14.1 z14.2
    else
     if (4 : Int32) ≤ z14.1 then
      m_Model_readQuantisers_36 n K2 z14.1 (0 : Int32) z14.2
     else
      m_Model_readQuantisers_31 n K2 z14.1 z14.2)
  else
   some t
def m_Model_readQuantisers_2 (n : Nat)  : Nat → Int32 → St → Option (St)
  | 0 => fun _ _ => none
  | k + 1 => m_Model_readQuantisers_2b n  (m_Model_readQuantisers_2 n  k)
def m_Model_readQuantisers (n : Nat)  (t : St) : Option (St) :=
 m_Model_readQuantisers_2 n  n (1 : Int32) t
def m_Model_readTable_242 (n : Nat)  (x1 : Int32) (x2 : Int32) (t : St) : Option (St) :=
 if (x1) < 0 ∨ 8 ≤ (x1).toNatClampNeg then none else
 if (t.1 2) = 0 then
  (some (sH t 11 (x1).toNatClampNeg x2)).bind (fun w262 =>
   if (x1) < 0 ∨ 8 ≤ (x1).toNatClampNeg then none else
   some (sH w262 8 (x1).toNatClampNeg (vp_nar .boolean (1 : Int32))))
 else
  some (sH t 11 (x1).toNatClampNeg x2)
def m_Model_readTable_210 (n : Nat) (K156 : Int32 → Int32 → Int32 → St → Option (St)) (x1 : Int32) (x2 : Int32) (x5 : Int32) (x6 : Int32) (y1 : Int32) (t : St) : Option (St) :=
 (m_Model_must n y1 t).bind (fun z210 =>
  if (x6) < 0 ∨ 256 ≤ (x6).toNatClampNeg then none else
  (some (sH z210 18 (x6).toNatClampNeg (vp_nar .boolean (1 : Int32)))).bind (fun w235 =>
   if ((((256 : Int32) * x1) + x5)) < 0 ∨ 2048 ≤ ((((256 : Int32) * x1) + x5)).toNatClampNeg then none else
   K156 x1 x2 (x5 + 1) (sH w235 10 ((((256 : Int32) * x1) + x5)).toNatClampNeg x6)))
def m_Model_readTable_205 (n : Nat) (K156 : Int32 → Int32 → Int32 → St → Option (St)) (x1 : Int32) (x2 : Int32) (x5 : Int32) (x6 : Int32) (t : St) : Option (St) :=
 m_Model_readTable_210 n K156 x1 x2 x5 x6 (1 : Int32) t
def m_Model_readTable_209 (n : Nat) (K156 : Int32 → Int32 → Int32 → St → Option (St)) (x1 : Int32) (x2 : Int32) (x5 : Int32) (x6 : Int32) (t : St) : Option (St) :=
 m_Model_readTable_210 n K156 x1 x2 x5 x6 (0 : Int32) t
def m_Model_readTable_156b (n : Nat)  (K156 : Int32 → Int32 → Int32 → St → Option (St)) (x1 : Int32) (x2 : Int32) (x5 : Int32) (t : St) : Option (St) :=
 if x2 ≤ x5 then
  m_Model_readTable_242 n  x1 x2 t
 else
  if (t.1 2) = 0 then
   (m_Model_next n t).bind (fun z170 =>
    if 0 < (z170.2.1 2) then
     m_Model_readTable_205 n K156 x1 x2 x5 z170.1 z170.2
    else
     if (z170.1) < 0 ∨ 256 ≤ (z170.1).toNatClampNeg then none else
     if ((z170.2.2.1 18) (z170.1).toNatClampNeg) = 0 then
      if (3 : Int32) < x1 then
       m_Model_readTable_205 n K156 x1 x2 x5 z170.1 z170.2
      else
       if (12 : Int32) ≤ z170.1 then
        m_Model_readTable_209 n K156 x1 x2 x5 z170.1 z170.2
       else
        m_Model_readTable_205 n K156 x1 x2 x5 z170.1 z170.2
     else
      m_Model_readTable_209 n K156 x1 x2 x5 z170.1 z170.2)
  else
   m_Model_readTable_242 n  x1 x2 t
def m_Model_readTable_156 (n : Nat)  : Nat → Int32 → Int32 → Int32 → St → Option (St)
  | 0 => fun _ _ _ _ => none
  | k + 1 => m_Model_readTable_156b n  (m_Model_readTable_156 n  k)
def m_Model_readTable_131b (n : Nat)  (K131 : Int32 → Int32 → Int32 → St → Option (St)) (x1 : Int32) (x2 : Int32) (x5 : Int32) (t : St) : Option (St) :=
 if (256 : Int32) ≤ x5 then
  m_Model_readTable_156 n  n x1 x2 (0 : Int32) t
 else
  if (x5) < 0 ∨ 256 ≤ (x5).toNatClampNeg then none else
  K131 x1 x2 (x5 + 1) (sH t 18 (x5).toNatClampNeg (vp_nar .boolean (0 : Int32)))
def m_Model_readTable_131 (n : Nat)  : Nat → Int32 → Int32 → Int32 → St → Option (St)
  | 0 => fun _ _ _ _ => none
  | k + 1 => m_Model_readTable_131b n  (m_Model_readTable_131 n  k)
def m_Model_readTable_128 (n : Nat)  (x1 : Int32) (x2 : Int32) (t : St) : Option (St) :=
 m_Model_readTable_131 n  n x1 x2 (0 : Int32) t
def m_Model_readTable_119 (n : Nat) (K7 : Int32 → Int32 → Int64 → Int32 → St → Option (St)) (x1 : Int32) (x2 : Int32) (x3 : Int64) (x5 : Int32) (y1 : Int32) (t : St) : Option (St) :=
 (m_Model_must n y1 t).bind (fun z119 =>
  K7 x1 x2 x3 (x5 + 1) z119)
def m_Model_readTable_114 (n : Nat) (K7 : Int32 → Int32 → Int64 → Int32 → St → Option (St)) (x1 : Int32) (x2 : Int32) (x3 : Int64) (x5 : Int32) (t : St) : Option (St) :=
 m_Model_readTable_119 n K7 x1 x2 x3 x5 (1 : Int32) t
def m_Model_readTable_92 (n : Nat) (K7 : Int32 → Int32 → Int64 → Int32 → St → Option (St)) (x1 : Int32) (x2 : Int32) (x3 : Int64) (x5 : Int32) (y1 : Int32) (t : St) : Option (St) :=
 (m_Model_must n y1 t).bind (fun z92 =>
  if 0 < (z92.1 2) then
   m_Model_readTable_114 n K7 x1 x2 x3 x5 z92
  else
   if x5 < (16 : Int32) then
    m_Model_readTable_114 n K7 x1 x2 x3 x5 z92
   else
    if x2 ≤ 0 then
     m_Model_readTable_119 n K7 x1 x2 x3 x5 (0 : Int32) z92
    else
     m_Model_readTable_114 n K7 x1 x2 x3 x5 z92)
def m_Model_readTable_87 (n : Nat) (K7 : Int32 → Int32 → Int64 → Int32 → St → Option (St)) (x1 : Int32) (x2 : Int32) (x3 : Int64) (x5 : Int32) (t : St) : Option (St) :=
 m_Model_readTable_92 n K7 x1 x2 x3 x5 (1 : Int32) t
def m_Model_readTable_91 (n : Nat) (K7 : Int32 → Int32 → Int64 → Int32 → St → Option (St)) (x1 : Int32) (x2 : Int32) (x3 : Int64) (x5 : Int32) (t : St) : Option (St) :=
 m_Model_readTable_92 n K7 x1 x2 x3 x5 (0 : Int32) t
def m_Model_readTable_7b (n : Nat)  (K7 : Int32 → Int32 → Int64 → Int32 → St → Option (St)) (x1 : Int32) (x2 : Int32) (x3 : Int64) (x5 : Int32) (t : St) : Option (St) :=
 if (16 : Int32) < x5 then
  m_Model_readTable_128 n  x1 x2 t
 else
  if (t.1 2) = 0 then
   (m_Model_next n t).bind (fun z22 =>
    if ((((17 : Int32) * x1) + x5)) < 0 ∨ 136 ≤ ((((17 : Int32) * x1) + x5)).toNatClampNeg then none else
    if 0 < (z22.2.1 2) then
     m_Model_readTable_87 n K7 x1 (x2 + z22.1) (((2 : Int64) * x3) + (z22.1).toInt64) x5 (sH z22.2 9 ((((17 : Int32) * x1) + x5)).toNatClampNeg z22.1)
    else
     if (256 : Int32) < (x2 + z22.1) then
      m_Model_readTable_91 n K7 x1 (x2 + z22.1) (((2 : Int64) * x3) + (z22.1).toInt64) x5 (sH z22.2 9 ((((17 : Int32) * x1) + x5)).toNatClampNeg z22.1)
     else
      if z22.1 = 0 then
       m_Model_readTable_87 n K7 x1 (x2 + z22.1) (((2 : Int64) * x3) + (z22.1).toInt64) x5 (sH z22.2 9 ((((17 : Int32) * x1) + x5)).toNatClampNeg z22.1)
      else
       if 0 < (lg_cmp (((2 : Int64) * x3) + (z22.1).toInt64) (((1 : Int64) <<< ((x5).toInt64 &&& 63)) - (1 : Int64))) then
        m_Model_readTable_91 n K7 x1 (x2 + z22.1) (((2 : Int64) * x3) + (z22.1).toInt64) x5 (sH z22.2 9 ((((17 : Int32) * x1) + x5)).toNatClampNeg z22.1)
       else
        m_Model_readTable_87 n K7 x1 (x2 + z22.1) (((2 : Int64) * x3) + (z22.1).toInt64) x5 (sH z22.2 9 ((((17 : Int32) * x1) + x5)).toNatClampNeg z22.1))
  else
   m_Model_readTable_128 n  x1 x2 t
def m_Model_readTable_7 (n : Nat)  : Nat → Int32 → Int32 → Int64 → Int32 → St → Option (St)
  | 0 => fun _ _ _ _ _ => none
  | k + 1 => m_Model_readTable_7b n  (m_Model_readTable_7 n  k)
def m_Model_readTable (n : Nat) (x1 : Int32) (t : St) : Option (St) :=
 m_Model_readTable_7 n  n x1 (0 : Int32) (0 : Int64) (1 : Int32) t
def m_Model_readWords_93 (n : Nat) (K2 : Int32 → St → Option (St)) (y0 : Int32) (t : St) : Option (St) :=
 K2 y0 t
def m_Model_readWords_77 (n : Nat) (K2 : Int32 → St → Option (St))  (t : St) : Option (St) :=
 if (t.1 5) ≤ (t.1 4) then
  m_Model_readWords_93 n K2 (0 : Int32) t
 else
  m_Model_readWords_93 n K2 (1 : Int32) t
def m_Model_readWords_64 (n : Nat) (K2 : Int32 → St → Option (St)) (y0 : Int32) (t : St) : Option (St) :=
 if (t.1 2) = 0 then
  (m_Model_readTable n y0 t).bind (fun z74 =>
   m_Model_readWords_77 n K2 z74)
 else
  m_Model_readWords_77 n K2 t
def m_Model_readWords_48 (n : Nat) (K2 : Int32 → St → Option (St)) (x2 : Int32) (y1 : Int32) (t : St) : Option (St) :=
 (m_Model_must n y1 t).bind (fun z48 =>
  if (4 : Int32) ≤ x2 then
   m_Model_readWords_64 n K2 (x2 - (12 : Int32)) z48
  else
   m_Model_readWords_64 n K2 x2 z48)
def m_Model_readWords_43 (n : Nat) (K2 : Int32 → St → Option (St)) (x2 : Int32) (t : St) : Option (St) :=
 m_Model_readWords_48 n K2 x2 (1 : Int32) t
def m_Model_readWords_47 (n : Nat) (K2 : Int32 → St → Option (St)) (x2 : Int32) (t : St) : Option (St) :=
 m_Model_readWords_48 n K2 x2 (0 : Int32) t
def m_Model_readWords_2b (n : Nat)  (K2 : Int32 → St → Option (St)) (x1 : Int32) (t : St) : Option (St) :=
 if x1 = 0 then
  some t
 else
  if (t.1 2) = 0 then
   (m_Model_next n t).bind (fun z14 =>
    if 0 < (z14.2.1 2) then
     m_Model_readWords_43 n K2 z14.1 z14.2
    else
     if z14.1 < (4 : Int32) then
      m_Model_readWords_43 n K2 z14.1 z14.2
     else
      if z14.1 < (16 : Int32) then
       m_Model_readWords_47 n K2 z14.1 z14.2
      else
       if (20 : Int32) ≤ z14.1 then
        m_Model_readWords_47 n K2 z14.1 z14.2
       else
        m_Model_readWords_43 n K2 z14.1 z14.2)
  else
   some t
def m_Model_readWords_2 (n : Nat)  : Nat → Int32 → St → Option (St)
  | 0 => fun _ _ => none
  | k + 1 => m_Model_readWords_2b n  (m_Model_readWords_2 n  k)
def m_Model_readWords (n : Nat)  (t : St) : Option (St) :=
 m_Model_readWords_2 n  n (1 : Int32) t
def m_Model_readFrame_345 (n : Nat)  (x1 : Int32) (x2 : Int32) (t : St) : Option (St) :=
 some (sG (sG t 12 x2) 9 x1)
def m_Model_readFrame_336 (n : Nat) (K130 : Int32 → Int32 → Int32 → St → Option (St)) (x1 : Int32) (x2 : Int32) (x3 : Int32) (y1 : Int32) (t : St) : Option (St) :=
 (m_Model_must n y1 t).bind (fun z336 =>
  K130 x1 x2 (x3 + 1) z336)
def m_Model_readFrame_331 (n : Nat) (K130 : Int32 → Int32 → Int32 → St → Option (St)) (x1 : Int32) (x2 : Int32) (x3 : Int32) (t : St) : Option (St) :=
 m_Model_readFrame_336 n K130 x1 x2 x3 (1 : Int32) t
def m_Model_readFrame_300 (n : Nat) (K130 : Int32 → Int32 → Int32 → St → Option (St)) (x1 : Int32) (x2 : Int32) (x3 : Int32) (y1 : Int32) (t : St) : Option (St) :=
 (m_Model_must n y1 t).bind (fun z300 =>
  (m_Model_next n z300).bind (fun z309 =>
   if (x3) < 0 ∨ 4 ≤ (x3).toNatClampNeg then none else
   if 0 < (z309.2.1 2) then
    m_Model_readFrame_331 n K130 x1 x2 x3 (sH z309.2 5 (x3).toNatClampNeg z309.1)
   else
    if (x3) < 0 ∨ 4 ≤ (x3).toNatClampNeg then none else
    if (4 : Int32) ≤ (((sH z309.2 5 (x3).toNatClampNeg z309.1).2.1 5) (x3).toNatClampNeg) then
     m_Model_readFrame_336 n K130 x1 x2 x3 (0 : Int32) (sH z309.2 5 (x3).toNatClampNeg z309.1)
    else
     m_Model_readFrame_331 n K130 x1 x2 x3 (sH z309.2 5 (x3).toNatClampNeg z309.1)))
def m_Model_readFrame_295 (n : Nat) (K130 : Int32 → Int32 → Int32 → St → Option (St)) (x1 : Int32) (x2 : Int32) (x3 : Int32) (t : St) : Option (St) :=
 m_Model_readFrame_300 n K130 x1 x2 x3 (1 : Int32) t
def m_Model_readFrame_299 (n : Nat) (K130 : Int32 → Int32 → Int32 → St → Option (St)) (x1 : Int32) (x2 : Int32) (x3 : Int32) (t : St) : Option (St) :=
 m_Model_readFrame_300 n K130 x1 x2 x3 (0 : Int32) t
def m_Model_readFrame_216 (n : Nat) (K130 : Int32 → Int32 → Int32 → St → Option (St)) (x1 : Int32) (x2 : Int32) (x3 : Int32) (y1 : Int32) (t : St) : Option (St) :=
 (m_Model_must n y1 t).bind (fun z216 =>
  (m_Model_next n z216).bind (fun z220 =>
   if (x3) < 0 ∨ 4 ≤ (x3).toNatClampNeg then none else
   (some (sH z220.2 3 (x3).toNatClampNeg (z220.1 / (16 : Int32)))).bind (fun w246 =>
    if (x3) < 0 ∨ 4 ≤ (x3).toNatClampNeg then none else
    if 0 < (w246.1 2) then
     m_Model_readFrame_295 n K130 x1 x2 x3 (sH w246 4 (x3).toNatClampNeg (z220.1 - z220.1 / (16 : Int32) * (16 : Int32)))
    else
     if (x3) < 0 ∨ 4 ≤ (x3).toNatClampNeg then none else
     if ((w246.2.1 3) (x3).toNatClampNeg) < (1 : Int32) then
      m_Model_readFrame_299 n K130 x1 x2 x3 (sH w246 4 (x3).toNatClampNeg (z220.1 - z220.1 / (16 : Int32) * (16 : Int32)))
     else
      if (x3) < 0 ∨ 4 ≤ (x3).toNatClampNeg then none else
      if (2 : Int32) < ((w246.2.1 3) (x3).toNatClampNeg) then
       m_Model_readFrame_299 n K130 x1 x2 x3 (sH w246 4 (x3).toNatClampNeg (z220.1 - z220.1 / (16 : Int32) * (16 : Int32)))
      else
       if (x3) < 0 ∨ 4 ≤ (x3).toNatClampNeg then none else
       if (((sH w246 4 (x3).toNatClampNeg (z220.1 - z220.1 / (16 : Int32) * (16 : Int32))).2.1 4) (x3).toNatClampNeg) < (1 : Int32) then
        m_Model_readFrame_299 n K130 x1 x2 x3 (sH w246 4 (x3).toNatClampNeg (z220.1 - z220.1 / (16 : Int32) * (16 : Int32)))
       else
        if (x3) < 0 ∨ 4 ≤ (x3).toNatClampNeg then none else
        if (2 : Int32) < (((sH w246 4 (x3).toNatClampNeg (z220.1 - z220.1 / (16 : Int32) * (16 : Int32))).2.1 4) (x3).toNatClampNeg) then
         m_Model_readFrame_299 n K130 x1 x2 x3 (sH w246 4 (x3).toNatClampNeg (z220.1 - z220.1 / (16 : Int32) * (16 : Int32)))
        else
         m_Model_readFrame_295 n K130 x1 x2 x3 (sH w246 4 (x3).toNatClampNeg (z220.1 - z220.1 / (16 : Int32) * (16 : Int32))))))
def m_Model_readFrame_211 (n : Nat) (K130 : Int32 → Int32 → Int32 → St → Option (St)) (x1 : Int32) (x2 : Int32) (x3 : Int32) (t : St) : Option (St) :=
 m_Model_readFrame_216 n K130 x1 x2 x3 (1 : Int32) t
def m_Model_readFrame_190 (n : Nat) (K130 : Int32 → Int32 → Int32 → St → Option (St)) (K158 : Int32 → Int32 → Int32 → Int32 → Int32 → St → Option (St)) (x1 : Int32) (x2 : Int32) (x3 : Int32) (x5 : Int32) (y0 : Int32) (t : St) : Option (St) :=
 K158 x1 x2 x3 y0 (x5 + 1) t
def m_Model_readFrame_185 (n : Nat) (K130 : Int32 → Int32 → Int32 → St → Option (St)) (K158 : Int32 → Int32 → Int32 → Int32 → Int32 → St → Option (St)) (x1 : Int32) (x2 : Int32) (x3 : Int32) (x5 : Int32) (t : St) : Option (St) :=
 m_Model_readFrame_190 n K130 K158 x1 x2 x3 x5 (1 : Int32) t
def m_Model_readFrame_158b (n : Nat) (K130 : Int32 → Int32 → Int32 → St → Option (St)) (K158 : Int32 → Int32 → Int32 → Int32 → Int32 → St → Option (St)) (x1 : Int32) (x2 : Int32) (x3 : Int32) (x4 : Int32) (x5 : Int32) (t : St) : Option (St) :=
 if x3 ≤ x5 then
  if 0 < (t.1 2) then
   m_Model_readFrame_211 n K130 x1 x2 x3 t
  else
   if x4 = 0 then
    m_Model_readFrame_211 n K130 x1 x2 x3 t
   else
    m_Model_readFrame_216 n K130 x1 x2 x3 (0 : Int32) t
 else
  if x4 = 0 then
   if (x5) < 0 ∨ 4 ≤ (x5).toNatClampNeg then none else
   if (x3) < 0 ∨ 4 ≤ (x3).toNatClampNeg then none else
   if ((t.2.1 2) (x5).toNatClampNeg) = ((t.2.1 2) (x3).toNatClampNeg) then
    m_Model_readFrame_185 n K130 K158 x1 x2 x3 x5 t
   else
    m_Model_readFrame_190 n K130 K158 x1 x2 x3 x5 (0 : Int32) t
  else
   m_Model_readFrame_185 n K130 K158 x1 x2 x3 x5 t
def m_Model_readFrame_158 (n : Nat) (K130 : Int32 → Int32 → Int32 → St → Option (St)) : Nat → Int32 → Int32 → Int32 → Int32 → Int32 → St → Option (St)
  | 0 => fun _ _ _ _ _ _ => none
  | k + 1 => m_Model_readFrame_158b n K130 (m_Model_readFrame_158 n K130 k)
def m_Model_readFrame_130b (n : Nat)  (K130 : Int32 → Int32 → Int32 → St → Option (St)) (x1 : Int32) (x2 : Int32) (x3 : Int32) (t : St) : Option (St) :=
 if x2 ≤ x3 then
  m_Model_readFrame_345 n  x1 x2 t
 else
  if (t.1 2) = 0 then
   (m_Model_next n t).bind (fun z148 =>
    if (x3) < 0 ∨ 4 ≤ (x3).toNatClampNeg then none else
    m_Model_readFrame_158 n K130 n x1 x2 x3 (0 : Int32) (0 : Int32) (sH z148.2 2 (x3).toNatClampNeg z148.1))
  else
   m_Model_readFrame_345 n  x1 x2 t
def m_Model_readFrame_130 (n : Nat)  : Nat → Int32 → Int32 → Int32 → St → Option (St)
  | 0 => fun _ _ _ _ => none
  | k + 1 => m_Model_readFrame_130b n  (m_Model_readFrame_130 n  k)
def m_Model_readFrame_125 (n : Nat)  (x1 : Int32) (x2 : Int32) (y1 : Int32) (t : St) : Option (St) :=
 (m_Model_must n y1 t).bind (fun z125 =>
  m_Model_readFrame_130 n  n x1 x2 (0 : Int32) z125)
def m_Model_readFrame_120 (n : Nat)  (x1 : Int32) (x2 : Int32) (t : St) : Option (St) :=
 m_Model_readFrame_125 n  x1 x2 (1 : Int32) t
def m_Model_readFrame_124 (n : Nat)  (x1 : Int32) (x2 : Int32) (t : St) : Option (St) :=
 m_Model_readFrame_125 n  x1 x2 (0 : Int32) t
def m_Model_readFrame_95 (n : Nat)  (x1 : Int32) (y1 : Int32) (t : St) : Option (St) :=
 (m_Model_must n y1 t).bind (fun z95 =>
  (m_Model_next n z95).bind (fun z99 =>
   if 0 < (z99.2.1 2) then
    m_Model_readFrame_120 n  x1 z99.1 z99.2
   else
    if z99.1 ≤ 0 then
     m_Model_readFrame_124 n  x1 z99.1 z99.2
    else
     if (5 : Int32) ≤ z99.1 then
      m_Model_readFrame_124 n  x1 z99.1 z99.2
     else
      m_Model_readFrame_120 n  x1 z99.1 z99.2))
def m_Model_readFrame_90 (n : Nat)  (x1 : Int32) (t : St) : Option (St) :=
 m_Model_readFrame_95 n  x1 (1 : Int32) t
def m_Model_readFrame_94 (n : Nat)  (x1 : Int32) (t : St) : Option (St) :=
 m_Model_readFrame_95 n  x1 (0 : Int32) t
def m_Model_readFrame_55 (n : Nat)  (x1 : Int32) (y1 : Int32) (t : St) : Option (St) :=
 (m_Model_must n y1 t).bind (fun z55 =>
  (m_Model_two n z55).bind (fun z60 =>
   if 0 < (z60.2.1 2) then
    m_Model_readFrame_90 n  x1 (sG z60.2 10 z60.1)
   else
    if z60.1 ≤ 0 then
     m_Model_readFrame_94 n  x1 (sG z60.2 10 z60.1)
    else
     if (64 : Int32) < z60.1 then
      m_Model_readFrame_94 n  x1 (sG z60.2 10 z60.1)
     else
      m_Model_readFrame_90 n  x1 (sG z60.2 10 z60.1)))
def m_Model_readFrame_50 (n : Nat)  (x1 : Int32) (t : St) : Option (St) :=
 m_Model_readFrame_55 n  x1 (1 : Int32) t
def m_Model_readFrame_22 (n : Nat)  (x1 : Int32) (y1 : Int32) (t : St) : Option (St) :=
 (m_Model_must n y1 t).bind (fun z22 =>
  (m_Model_two n z22).bind (fun z27 =>
   if 0 < (z27.2.1 2) then
    m_Model_readFrame_50 n  x1 (sG z27.2 11 z27.1)
   else
    if (64 : Int32) < z27.1 then
     m_Model_readFrame_55 n  x1 (0 : Int32) (sG z27.2 11 z27.1)
    else
     m_Model_readFrame_50 n  x1 (sG z27.2 11 z27.1)))
def m_Model_readFrame_17 (n : Nat)  (x1 : Int32) (t : St) : Option (St) :=
 m_Model_readFrame_22 n  x1 (1 : Int32) t
def m_Model_readFrame (n : Nat) (x1 : Int32) (t : St) : Option (St) :=
 (m_Model_next n t).bind (fun z2 =>
  if z2.1 = (8 : Int32) then
   m_Model_readFrame_17 n  x1 z2.2
  else
   if (z2.2.1 2) ≤ 0 then
    m_Model_readFrame_22 n  x1 (0 : Int32) z2.2
   else
    m_Model_readFrame_17 n  x1 z2.2)
def m_Model_named_27 (n : Nat) (K4 : Int32 → Int32 → Int32 → St → Option (Int32 × St)) (x1 : Int32) (x3 : Int32) (y0 : Int32) (t : St) : Option (Int32 × St) :=
 K4 x1 y0 (x3 + 1) t
def m_Model_named_4b (n : Nat)  (K4 : Int32 → Int32 → Int32 → St → Option (Int32 × St)) (x1 : Int32) (x2 : Int32) (x3 : Int32) (t : St) : Option (Int32 × St) :=
 if (t.1 12) ≤ x3 then
  some (x2, t)
 else
  if (x3) < 0 ∨ 4 ≤ (x3).toNatClampNeg then none else
  if ((t.2.1 2) (x3).toNatClampNeg) = x1 then
   m_Model_named_27 n K4 x1 x3 x3 t
  else
   m_Model_named_27 n K4 x1 x3 x2 t
def m_Model_named_4 (n : Nat)  : Nat → Int32 → Int32 → Int32 → St → Option (Int32 × St)
  | 0 => fun _ _ _ _ => none
  | k + 1 => m_Model_named_4b n  (m_Model_named_4 n  k)
def m_Model_named (n : Nat) (x1 : Int32) (t : St) : Option (Int32 × St) :=
 m_Model_named_4 n  n x1 (-1 : Int32) (0 : Int32) t
def m_Model_order_157 (n : Nat) (K62 : Int32 → Int32 → Int32 → St → Option (St)) (x2 : Int32) (x3 : Int32) (x4 : Int32) (t : St) : Option (St) :=
 K62 x2 x3 (x4 + 1) t
def m_Model_order_136 (n : Nat) (K62 : Int32 → Int32 → Int32 → St → Option (St)) (x2 : Int32) (x3 : Int32) (x4 : Int32) (y0 : Int32) (t : St) : Option (St) :=
 if y0 = 0 then
  (m_Model_wrong n (6 : Int32) ((t.1 4) - (1 : Int32)) t).bind (fun z152 =>
   m_Model_order_157 n K62 x2 x3 x4 z152.2)
 else
  m_Model_order_157 n K62 x2 x3 x4 t
def m_Model_order_135 (n : Nat) (K62 : Int32 → Int32 → Int32 → St → Option (St)) (x2 : Int32) (x3 : Int32) (x4 : Int32) (t : St) : Option (St) :=
 m_Model_order_136 n K62 x2 x3 x4 (0 : Int32) t
def m_Model_order_62b (n : Nat)  (K62 : Int32 → Int32 → Int32 → St → Option (St)) (x2 : Int32) (x3 : Int32) (x4 : Int32) (t : St) : Option (St) :=
 if (t.1 18) < x4 then
  some t
 else
  if x2 = 0 then
   some t
  else
   if ((x3 + x4)) < 0 ∨ 256 ≤ ((x3 + x4)).toNatClampNeg then none else
   if 0 ≤ ((t.2.1 13) ((x3 + x4)).toNatClampNeg) then
    if (t.1 19) = ((t.1 20) + (1 : Int32)) then
     if ((x3 + x4)) < 0 ∨ 256 ≤ ((x3 + x4)).toNatClampNeg then none else
     if ((t.2.1 13) ((x3 + x4)).toNatClampNeg) = (t.1 19) then
      m_Model_order_136 n K62 x2 x3 x4 (1 : Int32) t
     else
      m_Model_order_135 n K62 x2 x3 x4 t
    else
     m_Model_order_135 n K62 x2 x3 x4 t
   else
    if (t.1 19) = 0 then
     m_Model_order_136 n K62 x2 x3 x4 (1 : Int32) t
    else
     m_Model_order_136 n K62 x2 x3 x4 (0 : Int32) t
def m_Model_order_62 (n : Nat)  : Nat → Int32 → Int32 → Int32 → St → Option (St)
  | 0 => fun _ _ _ _ => none
  | k + 1 => m_Model_order_62b n  (m_Model_order_62 n  k)
def m_Model_order_56 (n : Nat)  (x2 : Int32) (x3 : Int32) (t : St) : Option (St) :=
 m_Model_order_62 n  n x2 x3 (t.1 17) t
def m_Model_order_42 (n : Nat)  (x1 : Int32) (x2 : Int32) (x3 : Int32) (t : St) : Option (St) :=
 if (x1) < 0 ∨ 4 ≤ (x1).toNatClampNeg then none else
 (m_Model_wrong n (7 : Int32) ((t.2.1 17) (x1).toNatClampNeg) t).bind (fun z51 =>
  m_Model_order_56 n  x2 x3 z51.2)
def m_Model_order (n : Nat) (x1 : Int32) (x2 : Int32) (t : St) : Option (St) :=
 if (x1) < 0 ∨ 4 ≤ (x1).toNatClampNeg then none else
 if x2 = 0 then
  if (((64 : Int32) * ((t.2.1 14) (x1).toNatClampNeg))) < 0 ∨ 256 ≤ (((64 : Int32) * ((t.2.1 14) (x1).toNatClampNeg))).toNatClampNeg then none else
  if ((t.2.1 13) (((64 : Int32) * ((t.2.1 14) (x1).toNatClampNeg))).toNatClampNeg) < 0 then
   m_Model_order_56 n  x2 ((64 : Int32) * ((t.2.1 14) (x1).toNatClampNeg)) t
  else
   m_Model_order_42 n  x1 x2 ((64 : Int32) * ((t.2.1 14) (x1).toNatClampNeg)) t
 else
  if (t.1 17) ≤ 0 then
   m_Model_order_56 n  x2 ((64 : Int32) * ((t.2.1 14) (x1).toNatClampNeg)) t
  else
   if (((64 : Int32) * ((t.2.1 14) (x1).toNatClampNeg))) < 0 ∨ 256 ≤ (((64 : Int32) * ((t.2.1 14) (x1).toNatClampNeg))).toNatClampNeg then none else
   if 0 ≤ ((t.2.1 13) (((64 : Int32) * ((t.2.1 14) (x1).toNatClampNeg))).toNatClampNeg) then
    m_Model_order_56 n  x2 ((64 : Int32) * ((t.2.1 14) (x1).toNatClampNeg)) t
   else
    m_Model_order_42 n  x1 x2 ((64 : Int32) * ((t.2.1 14) (x1).toNatClampNeg)) t
def m_Model_needs_93 (n : Nat)  (x1 : Int32) (t : St) : Option (St) :=
 if (x1) < 0 ∨ 4 ≤ (x1).toNatClampNeg then none else
 (m_Model_wrong n (8 : Int32) (((t.2.1 17) (x1).toNatClampNeg) + (1 : Int32)) t).bind (fun z104 =>
  some z104.2)
def m_Model_needs_70 (n : Nat)  (x1 : Int32) (t : St) : Option (St) :=
 if (t.1 18) ≤ 0 then
  some t
 else
  if (x1) < 0 ∨ 4 ≤ (x1).toNatClampNeg then none else
  if (((4 : Int32) + ((t.2.1 16) (x1).toNatClampNeg))) < 0 ∨ 8 ≤ (((4 : Int32) + ((t.2.1 16) (x1).toNatClampNeg))).toNatClampNeg then none else
  if ((t.2.1 8) (((4 : Int32) + ((t.2.1 16) (x1).toNatClampNeg))).toNatClampNeg) = 0 then
   m_Model_needs_93 n  x1 t
  else
   some t
def m_Model_needs_51 (n : Nat)  (x1 : Int32) (y0 : Int32) (t : St) : Option (St) :=
 if y0 = 0 then
  m_Model_needs_70 n  x1 t
 else
  if (x1) < 0 ∨ 4 ≤ (x1).toNatClampNeg then none else
  if (((t.2.1 15) (x1).toNatClampNeg)) < 0 ∨ 8 ≤ (((t.2.1 15) (x1).toNatClampNeg)).toNatClampNeg then none else
  if ((t.2.1 8) (((t.2.1 15) (x1).toNatClampNeg)).toNatClampNeg) = 0 then
   m_Model_needs_93 n  x1 t
  else
   m_Model_needs_70 n  x1 t
def m_Model_needs_50 (n : Nat)  (x1 : Int32) (t : St) : Option (St) :=
 m_Model_needs_51 n  x1 (0 : Int32) t
def m_Model_needs_32 (n : Nat)  (x1 : Int32) (t : St) : Option (St) :=
 if (t.1 17) = 0 then
  if (t.1 19) = 0 then
   m_Model_needs_51 n  x1 (1 : Int32) t
  else
   m_Model_needs_50 n  x1 t
 else
  m_Model_needs_50 n  x1 t
def m_Model_needs (n : Nat) (x1 : Int32) (t : St) : Option (St) :=
 if (x1) < 0 ∨ 4 ≤ (x1).toNatClampNeg then none else
 if (((t.2.1 14) (x1).toNatClampNeg)) < 0 ∨ 4 ≤ (((t.2.1 14) (x1).toNatClampNeg)).toNatClampNeg then none else
 if (((t.2.1 5) (((t.2.1 14) (x1).toNatClampNeg)).toNatClampNeg)) < 0 ∨ 4 ≤ (((t.2.1 5) (((t.2.1 14) (x1).toNatClampNeg)).toNatClampNeg)).toNatClampNeg then none else
 if ((t.2.1 6) (((t.2.1 5) (((t.2.1 14) (x1).toNatClampNeg)).toNatClampNeg)).toNatClampNeg) = 0 then
  if (x1) < 0 ∨ 4 ≤ (x1).toNatClampNeg then none else
  (m_Model_wrong n (8 : Int32) ((t.2.1 17) (x1).toNatClampNeg) t).bind (fun z28 =>
   m_Model_needs_32 n  x1 z28.2)
 else
  m_Model_needs_32 n  x1 t
def m_Model_readScan_507b (n : Nat)  (K507 : Int32 → St → Option (St)) (x5 : Int32) (t : St) : Option (St) :=
 if (t.1 15) ≤ x5 then
  some t
 else
  if (t.1 2) = 0 then
   (m_Model_needs n x5 t).bind (fun z526 =>
    K507 (x5 + 1) z526)
  else
   some t
def m_Model_readScan_507 (n : Nat)  : Nat → Int32 → St → Option (St)
  | 0 => fun _ _ => none
  | k + 1 => m_Model_readScan_507b n  (m_Model_readScan_507 n  k)
def m_Model_readScan_504 (n : Nat)   (t : St) : Option (St) :=
 m_Model_readScan_507 n  n (0 : Int32) t
def m_Model_readScan_475b (n : Nat)  (K475 : Int32 → Int32 → St → Option (St)) (x3 : Int32) (x5 : Int32) (t : St) : Option (St) :=
 if (t.1 15) ≤ x5 then
  m_Model_readScan_504 n  t
 else
  if (t.1 2) = 0 then
   (m_Model_order n x5 x3 t).bind (fun z495 =>
    K475 x3 (x5 + 1) z495)
  else
   m_Model_readScan_504 n  t
def m_Model_readScan_475 (n : Nat)  : Nat → Int32 → Int32 → St → Option (St)
  | 0 => fun _ _ _ => none
  | k + 1 => m_Model_readScan_475b n  (m_Model_readScan_475 n  k)
def m_Model_readScan_469 (n : Nat)  (x3 : Int32) (y1 : Int32) (t : St) : Option (St) :=
 (m_Model_must n y1 t).bind (fun z469 =>
  m_Model_readScan_475 n  n x3 (0 : Int32) z469)
def m_Model_readScan_464 (n : Nat)  (x3 : Int32) (t : St) : Option (St) :=
 m_Model_readScan_469 n  x3 (1 : Int32) t
def m_Model_readScan_468 (n : Nat)  (x3 : Int32) (t : St) : Option (St) :=
 m_Model_readScan_469 n  x3 (0 : Int32) t
def m_Model_readScan_388 (n : Nat)  (x3 : Int32) (y1 : Int32) (t : St) : Option (St) :=
 (m_Model_must n y1 t).bind (fun z388 =>
  (m_Model_next n z388).bind (fun z392 =>
   if 0 < (z392.2.1 2) then
    m_Model_readScan_464 n  x3 (sG (sG z392.2 19 (z392.1 / (16 : Int32))) 20 (z392.1 - z392.1 / (16 : Int32) * (16 : Int32)))
   else
    if x3 = 0 then
     if z392.1 = 0 then
      m_Model_readScan_464 n  x3 (sG (sG z392.2 19 (z392.1 / (16 : Int32))) 20 (z392.1 - z392.1 / (16 : Int32) * (16 : Int32)))
     else
      m_Model_readScan_468 n  x3 (sG (sG z392.2 19 (z392.1 / (16 : Int32))) 20 (z392.1 - z392.1 / (16 : Int32) * (16 : Int32)))
    else
     if (13 : Int32) < (z392.1 - z392.1 / (16 : Int32) * (16 : Int32)) then
      m_Model_readScan_468 n  x3 (sG (sG z392.2 19 (z392.1 / (16 : Int32))) 20 (z392.1 - z392.1 / (16 : Int32) * (16 : Int32)))
     else
      if (z392.1 / (16 : Int32)) = 0 then
       m_Model_readScan_464 n  x3 (sG (sG z392.2 19 (z392.1 / (16 : Int32))) 20 (z392.1 - z392.1 / (16 : Int32) * (16 : Int32)))
      else
       if (z392.1 / (16 : Int32)) = ((z392.1 - z392.1 / (16 : Int32) * (16 : Int32)) + (1 : Int32)) then
        m_Model_readScan_464 n  x3 (sG (sG z392.2 19 (z392.1 / (16 : Int32))) 20 (z392.1 - z392.1 / (16 : Int32) * (16 : Int32)))
       else
        m_Model_readScan_468 n  x3 (sG (sG z392.2 19 (z392.1 / (16 : Int32))) 20 (z392.1 - z392.1 / (16 : Int32) * (16 : Int32)))))
def m_Model_readScan_383 (n : Nat)  (x3 : Int32) (t : St) : Option (St) :=
 m_Model_readScan_388 n  x3 (1 : Int32) t
def m_Model_readScan_387 (n : Nat)  (x3 : Int32) (t : St) : Option (St) :=
 m_Model_readScan_388 n  x3 (0 : Int32) t
def m_Model_readScan_311 (n : Nat)  (x3 : Int32) (y1 : Int32) (t : St) : Option (St) :=
 (m_Model_must n y1 t).bind (fun z311 =>
  (m_Model_next n z311).bind (fun z316 =>
   if 0 < (z316.2.1 2) then
    m_Model_readScan_383 n  x3 (sG z316.2 18 z316.1)
   else
    if x3 = 0 then
     if z316.1 = (63 : Int32) then
      m_Model_readScan_383 n  x3 (sG z316.2 18 z316.1)
     else
      m_Model_readScan_387 n  x3 (sG z316.2 18 z316.1)
    else
     if (z316.2.1 17) = 0 then
      if z316.1 = 0 then
       m_Model_readScan_383 n  x3 (sG z316.2 18 z316.1)
      else
       m_Model_readScan_387 n  x3 (sG z316.2 18 z316.1)
     else
      if z316.1 < (z316.2.1 17) then
       m_Model_readScan_387 n  x3 (sG z316.2 18 z316.1)
      else
       if (64 : Int32) ≤ z316.1 then
        m_Model_readScan_387 n  x3 (sG z316.2 18 z316.1)
       else
        m_Model_readScan_383 n  x3 (sG z316.2 18 z316.1)))
def m_Model_readScan_306 (n : Nat)  (x3 : Int32) (t : St) : Option (St) :=
 m_Model_readScan_311 n  x3 (1 : Int32) t
def m_Model_readScan_310 (n : Nat)  (x3 : Int32) (t : St) : Option (St) :=
 m_Model_readScan_311 n  x3 (0 : Int32) t
def m_Model_readScan_251 (n : Nat)  (y0 : Int32) (t : St) : Option (St) :=
 (m_Model_next n t).bind (fun z254 =>
  if 0 < (z254.2.1 2) then
   m_Model_readScan_306 n  y0 (sG z254.2 17 z254.1)
  else
   if y0 = 0 then
    if z254.1 = 0 then
     m_Model_readScan_306 n  y0 (sG z254.2 17 z254.1)
    else
     m_Model_readScan_310 n  y0 (sG z254.2 17 z254.1)
   else
    if (64 : Int32) ≤ z254.1 then
     m_Model_readScan_310 n  y0 (sG z254.2 17 z254.1)
    else
     if z254.1 = 0 then
      m_Model_readScan_306 n  y0 (sG z254.2 17 z254.1)
     else
      if (z254.2.1 15) = (1 : Int32) then
       m_Model_readScan_306 n  y0 (sG z254.2 17 z254.1)
      else
       m_Model_readScan_310 n  y0 (sG z254.2 17 z254.1))
def m_Model_readScan_236 (n : Nat)   (t : St) : Option (St) :=
 if (t.1 9) = (194 : Int32) then
  m_Model_readScan_251 n  (1 : Int32) t
 else
  m_Model_readScan_251 n  (0 : Int32) t
def m_Model_readScan_227 (n : Nat) (K45 : Int32 → Int32 → Int32 → St → Option (St)) (x1 : Int32) (x2 : Int32) (x3 : Int32) (y1 : Int32) (t : St) : Option (St) :=
 (m_Model_must n y1 t).bind (fun z227 =>
  K45 x1 x2 (x3 + 1) z227)
def m_Model_readScan_222 (n : Nat) (K45 : Int32 → Int32 → Int32 → St → Option (St)) (x1 : Int32) (x2 : Int32) (x3 : Int32) (t : St) : Option (St) :=
 m_Model_readScan_227 n K45 x1 x2 x3 (1 : Int32) t
def m_Model_readScan_226 (n : Nat) (K45 : Int32 → Int32 → Int32 → St → Option (St)) (x1 : Int32) (x2 : Int32) (x3 : Int32) (t : St) : Option (St) :=
 m_Model_readScan_227 n K45 x1 x2 x3 (0 : Int32) t
def m_Model_readScan_166 (n : Nat) (K45 : Int32 → Int32 → Int32 → St → Option (St)) (x1 : Int32) (x2 : Int32) (x3 : Int32) (t : St) : Option (St) :=
 (m_Model_next n t).bind (fun z167 =>
  if (x3) < 0 ∨ 4 ≤ (x3).toNatClampNeg then none else
  (some (sH z167.2 15 (x3).toNatClampNeg (z167.1 / (16 : Int32)))).bind (fun w193 =>
   if (x3) < 0 ∨ 4 ≤ (x3).toNatClampNeg then none else
   if 0 < (w193.1 2) then
    m_Model_readScan_222 n K45 x1 x2 x3 (sH w193 16 (x3).toNatClampNeg (z167.1 - z167.1 / (16 : Int32) * (16 : Int32)))
   else
    if (x3) < 0 ∨ 4 ≤ (x3).toNatClampNeg then none else
    if (4 : Int32) ≤ ((w193.2.1 15) (x3).toNatClampNeg) then
     m_Model_readScan_226 n K45 x1 x2 x3 (sH w193 16 (x3).toNatClampNeg (z167.1 - z167.1 / (16 : Int32) * (16 : Int32)))
    else
     if (x3) < 0 ∨ 4 ≤ (x3).toNatClampNeg then none else
     if (4 : Int32) ≤ (((sH w193 16 (x3).toNatClampNeg (z167.1 - z167.1 / (16 : Int32) * (16 : Int32))).2.1 16) (x3).toNatClampNeg) then
      m_Model_readScan_226 n K45 x1 x2 x3 (sH w193 16 (x3).toNatClampNeg (z167.1 - z167.1 / (16 : Int32) * (16 : Int32)))
     else
      m_Model_readScan_222 n K45 x1 x2 x3 (sH w193 16 (x3).toNatClampNeg (z167.1 - z167.1 / (16 : Int32) * (16 : Int32)))))
def m_Model_readScan_163 (n : Nat) (K45 : Int32 → Int32 → Int32 → St → Option (St)) (x1 : Int32) (x2 : Int32) (x3 : Int32) (y1 : Int32) (t : St) : Option (St) :=
 (m_Model_must n y1 t).bind (fun z163 =>
  m_Model_readScan_166 n K45 x1 x2 x3 z163)
def m_Model_readScan_158 (n : Nat) (K45 : Int32 → Int32 → Int32 → St → Option (St)) (x1 : Int32) (x2 : Int32) (x3 : Int32) (t : St) : Option (St) :=
 m_Model_readScan_163 n K45 x1 x2 x3 (1 : Int32) t
def m_Model_readScan_107 (n : Nat) (K45 : Int32 → Int32 → Int32 → St → Option (St)) (x1 : Int32) (x2 : Int32) (x3 : Int32) (x4 : Int32) (t : St) : Option (St) :=
 if (t.1 2) = 0 then
  if (x3) < 0 ∨ 4 ≤ (x3).toNatClampNeg then none else
  if (x4) < 0 ∨ 4 ≤ (x4).toNatClampNeg then none else
  if (x4) < 0 ∨ 4 ≤ (x4).toNatClampNeg then none else
  if (t.1 15) = (1 : Int32) then
   m_Model_readScan_158 n K45 (x1 + (((t.2.1 3) (x4).toNatClampNeg) * ((t.2.1 4) (x4).toNatClampNeg))) x4 x3 (sH t 14 (x3).toNatClampNeg x4)
  else
   if (10 : Int32) < (x1 + (((t.2.1 3) (x4).toNatClampNeg) * ((t.2.1 4) (x4).toNatClampNeg))) then
    m_Model_readScan_163 n K45 (x1 + (((t.2.1 3) (x4).toNatClampNeg) * ((t.2.1 4) (x4).toNatClampNeg))) x4 x3 (0 : Int32) (sH t 14 (x3).toNatClampNeg x4)
   else
    m_Model_readScan_158 n K45 (x1 + (((t.2.1 3) (x4).toNatClampNeg) * ((t.2.1 4) (x4).toNatClampNeg))) x4 x3 (sH t 14 (x3).toNatClampNeg x4)
 else
  m_Model_readScan_166 n K45 x1 x2 x3 t
def m_Model_readScan_45b (n : Nat)  (K45 : Int32 → Int32 → Int32 → St → Option (St)) (x1 : Int32) (x2 : Int32) (x3 : Int32) (t : St) : Option (St) :=
 if (t.1 15) ≤ x3 then
  m_Model_readScan_236 n  t
 else
  if (t.1 2) = 0 then
   if (x3) < 0 ∨ 4 ≤ (x3).toNatClampNeg then none else
   (m_Model_next n (sH t 17 (x3).toNatClampNeg (t.1 4))).bind (fun z72 =>
    (m_Model_named n z72.1 z72.2).bind (fun z75 =>
     if (z75.2.1 2) = 0 then
      if x2 < z75.1 then
       m_Model_readScan_107 n K45 x1 x2 x3 z75.1 z75.2
      else
       if (x3) < 0 ∨ 4 ≤ (x3).toNatClampNeg then none else
       (m_Model_wrong n (7 : Int32) ((z75.2.2.1 17) (x3).toNatClampNeg) z75.2).bind (fun z102 =>
        m_Model_readScan_107 n K45 x1 x2 x3 z75.1 z102.2)
     else
      m_Model_readScan_107 n K45 x1 x2 x3 z75.1 z75.2))
  else
   m_Model_readScan_236 n  t
def m_Model_readScan_45 (n : Nat)  : Nat → Int32 → Int32 → Int32 → St → Option (St)
  | 0 => fun _ _ _ _ => none
  | k + 1 => m_Model_readScan_45b n  (m_Model_readScan_45 n  k)
def m_Model_readScan_36 (n : Nat)  (y1 : Int32) (t : St) : Option (St) :=
 (m_Model_must n y1 t).bind (fun z36 =>
  m_Model_readScan_45 n  n (0 : Int32) (-1 : Int32) (0 : Int32) z36)
def m_Model_readScan_31 (n : Nat)   (t : St) : Option (St) :=
 m_Model_readScan_36 n  (1 : Int32) t
def m_Model_readScan_35 (n : Nat)   (t : St) : Option (St) :=
 m_Model_readScan_36 n  (0 : Int32) t
def m_Model_readScan (n : Nat)  (t : St) : Option (St) :=
 (m_Model_next n t).bind (fun z2 =>
  if 0 < (z2.2.1 2) then
   m_Model_readScan_31 n  (sG z2.2 15 z2.1)
  else
   if z2.1 ≤ 0 then
    m_Model_readScan_35 n  (sG z2.2 15 z2.1)
   else
    if (5 : Int32) ≤ z2.1 then
     m_Model_readScan_35 n  (sG z2.2 15 z2.1)
    else
     m_Model_readScan_31 n  (sG z2.2 15 z2.1))
def m_Model_any_0b (n : Nat)  (K0 : St → Option (St))  (t : St) : Option (St) :=
 if (t.1 2) = 0 then
  if (t.1 5) ≤ (t.1 4) then
   some t
  else
   (m_Model_next n t).bind (fun z19 =>
    K0 z19.2)
 else
  some t
def m_Model_any_0 (n : Nat)  : Nat → St → Option (St)
  | 0 => fun _ => none
  | k + 1 => m_Model_any_0b n  (m_Model_any_0 n  k)
def m_Model_any (n : Nat)  (t : St) : Option (St) :=
 if (t.1 2) = 0 then
  if (t.1 5) ≤ (t.1 4) then
   some t
  else
   (m_Model_next n t).bind (fun z19 =>
    m_Model_any_0 n  n z19.2)
 else
  some t
def m_Model_close_28 (n : Nat)  (x1 : Int32) (t : St) : Option (St) :=
 if (t.1 2) = 0 then
  if (((4 : Int32) * (t.1 8))) < 0 ∨ 16384 ≤ (((4 : Int32) * (t.1 8))).toNatClampNeg then none else
  (some (sH t 1 (((4 : Int32) * (t.1 8))).toNatClampNeg x1)).bind (fun w60 =>
   if ((((4 : Int32) * (t.1 8)) + (1 : Int32))) < 0 ∨ 16384 ≤ ((((4 : Int32) * (t.1 8)) + (1 : Int32))).toNatClampNeg then none else
   (some (sH w60 1 ((((4 : Int32) * (t.1 8)) + (1 : Int32))).toNatClampNeg (t.1 6))).bind (fun w74 =>
    if ((((4 : Int32) * (t.1 8)) + (2 : Int32))) < 0 ∨ 16384 ≤ ((((4 : Int32) * (t.1 8)) + (2 : Int32))).toNatClampNeg then none else
    (some (sH w74 1 ((((4 : Int32) * (t.1 8)) + (2 : Int32))).toNatClampNeg ((w60.1 16) + (2 : Int32)))).bind (fun w93 =>
     if ((((4 : Int32) * (t.1 8)) + (3 : Int32))) < 0 ∨ 16384 ≤ ((((4 : Int32) * (t.1 8)) + (3 : Int32))).toNatClampNeg then none else
     some (sG (sG (sH w93 1 ((((4 : Int32) * (t.1 8)) + (3 : Int32))).toNatClampNeg (((w74.1 5) - (w74.1 16)) - (2 : Int32))) 8 ((w93.1 8) + (1 : Int32))) 5 (-1 : Int32)))))
 else
  some (sG t 5 (-1 : Int32))
def m_Model_close (n : Nat) (x1 : Int32) (t : St) : Option (St) :=
 if (t.1 2) = 0 then
  if (t.1 4) = (t.1 5) then
   m_Model_close_28 n  x1 t
  else
   (m_Model_wrong n (5 : Int32) (t.1 16) t).bind (fun z24 =>
    m_Model_close_28 n  x1 z24.2)
 else
  m_Model_close_28 n  x1 t
def m_Model_readData_163 (n : Nat)  (x1 : Int32) (x2 : Int32) (y1 : Int32) (t : St) : Option (St) :=
 if ((x1 + (5 : Int32))) < 0 ∨ 61440 ≤ ((x1 + (5 : Int32))).toNatClampNeg then none else
 if ((x1 + (6 : Int32))) < 0 ∨ 61440 ≤ ((x1 + (6 : Int32))).toNatClampNeg then none else
 (some (sH (sG t 4 y1) 12 ((x1 + (6 : Int32))).toNatClampNeg (y1 - ((t.2.1 12) ((x1 + (5 : Int32))).toNatClampNeg)))).bind (fun w197 =>
  if ((x1 + (7 : Int32))) < 0 ∨ 61440 ≤ ((x1 + (7 : Int32))).toNatClampNeg then none else
  some (sG (sH w197 12 ((x1 + (7 : Int32))).toNatClampNeg x2) 14 ((w197.1 14) + (1 : Int32))))
def m_Model_readData_142 (n : Nat)  (x1 : Int32) (x2 : Int32) (t : St) : Option (St) :=
 if (t.1 2) = 0 then
  m_Model_readData_163 n  x1 x2 ((t.1 4) - (2 : Int32)) t
 else
  m_Model_readData_163 n  x1 x2 (t.1 4) t
def m_Model_readData_139 (n : Nat) (K4 : Int32 → Int32 → Int32 → St → Option (St)) (x1 : Int32) (x2 : Int32) (x3 : Int32) (t : St) : Option (St) :=
 K4 x1 x2 x3 t
def m_Model_readData_138 (n : Nat) (K4 : Int32 → Int32 → Int32 → St → Option (St)) (x1 : Int32) (x2 : Int32) (y0 : Int32) (t : St) : Option (St) :=
 m_Model_readData_139 n K4 x1 x2 y0 t
def m_Model_readData_133 (n : Nat) (K4 : Int32 → Int32 → Int32 → St → Option (St)) (x1 : Int32) (x2 : Int32) (t : St) : Option (St) :=
 m_Model_readData_138 n K4 x1 x2 (1 : Int32) t
def m_Model_readData_121 (n : Nat) (K4 : Int32 → Int32 → Int32 → St → Option (St)) (x1 : Int32) (x5 : Int32) (x6 : Int32) (y0 : Int32) (y1 : Int32) (t : St) : Option (St) :=
 if x5 = 0 then
  m_Model_readData_133 n K4 x1 (y0 + y1) t
 else
  if x6 = 0 then
   m_Model_readData_138 n K4 x1 (y0 + y1) (0 : Int32) t
  else
   m_Model_readData_133 n K4 x1 (y0 + y1) t
def m_Model_readData_110 (n : Nat) (K4 : Int32 → Int32 → Int32 → St → Option (St)) (x1 : Int32) (x2 : Int32) (x5 : Int32) (x6 : Int32) (t : St) : Option (St) :=
 if x6 = 0 then
  m_Model_readData_121 n K4 x1 x5 x6 x2 (0 : Int32) t
 else
  m_Model_readData_121 n K4 x1 x5 x6 x2 (1 : Int32) t
def m_Model_readData_97 (n : Nat) (K4 : Int32 → Int32 → Int32 → St → Option (St)) (x1 : Int32) (x2 : Int32) (x5 : Int32) (x6 : Int32) (t : St) : Option (St) :=
 (m_Model_wrong n (4 : Int32) ((t.1 4) - (1 : Int32)) t).bind (fun z105 =>
  m_Model_readData_110 n K4 x1 x2 x5 x6 z105.2)
def m_Model_readData_63 (n : Nat) (K4 : Int32 → Int32 → Int32 → St → Option (St)) (x1 : Int32) (x2 : Int32) (x5 : Int32) (y0 : Int32) (t : St) : Option (St) :=
 if (t.1 2) = 0 then
  if y0 = 0 then
   m_Model_readData_110 n K4 x1 x2 x5 y0 t
  else
   if (t.1 13) = 0 then
    m_Model_readData_97 n K4 x1 x2 x5 y0 t
   else
    if x5 = ((208 : Int32) + (x2 - x2 / (8 : Int32) * (8 : Int32))) then
     m_Model_readData_110 n K4 x1 x2 x5 y0 t
    else
     m_Model_readData_97 n K4 x1 x2 x5 y0 t
 else
  m_Model_readData_110 n K4 x1 x2 x5 y0 t
def m_Model_readData_62 (n : Nat) (K4 : Int32 → Int32 → Int32 → St → Option (St)) (x1 : Int32) (x2 : Int32) (x5 : Int32) (t : St) : Option (St) :=
 m_Model_readData_63 n K4 x1 x2 x5 (0 : Int32) t
def m_Model_readData_4b (n : Nat)  (K4 : Int32 → Int32 → Int32 → St → Option (St)) (x1 : Int32) (x2 : Int32) (x3 : Int32) (t : St) : Option (St) :=
 if x3 = 0 then
  m_Model_readData_142 n  x1 x2 t
 else
  if (t.1 2) = 0 then
   (m_Model_next n t).bind (fun z16 =>
    if (z16.2.1 2) = 0 then
     if z16.1 = (255 : Int32) then
      (m_Model_next n z16.2).bind (fun z37 =>
       if z37.1 < (208 : Int32) then
        m_Model_readData_62 n K4 x1 x2 z37.1 z37.2
       else
        if (215 : Int32) < z37.1 then
         m_Model_readData_62 n K4 x1 x2 z37.1 z37.2
        else
         m_Model_readData_63 n K4 x1 x2 z37.1 (1 : Int32) z37.2)
     else
      m_Model_readData_139 n K4 x1 x2 x3 z16.2
    else
     m_Model_readData_139 n K4 x1 x2 x3 z16.2)
  else
   m_Model_readData_142 n  x1 x2 t
def m_Model_readData_4 (n : Nat)  : Nat → Int32 → Int32 → Int32 → St → Option (St)
  | 0 => fun _ _ _ _ => none
  | k + 1 => m_Model_readData_4b n  (m_Model_readData_4 n  k)
def m_Model_readData (n : Nat) (x1 : Int32) (t : St) : Option (St) :=
 m_Model_readData_4 n  n x1 (0 : Int32) (1 : Int32) t
def m_Model_keepScan_163b (n : Nat) (K93 : Int32 → Int32 → St → Option (St)) (K163 : Int32 → Int32 → Int32 → St → Option (St)) (x1 : Int32) (x2 : Int32) (x3 : Int32) (t : St) : Option (St) :=
 if (t.1 18) < x3 then
  K93 x1 (x2 + 1) t
 else
  if (x2) < 0 ∨ 4 ≤ (x2).toNatClampNeg then none else
  if ((((64 : Int32) * ((t.2.1 14) (x2).toNatClampNeg)) + x3)) < 0 ∨ 256 ≤ ((((64 : Int32) * ((t.2.1 14) (x2).toNatClampNeg)) + x3)).toNatClampNeg then none else
  K163 x1 x2 (x3 + 1) (sH t 13 ((((64 : Int32) * ((t.2.1 14) (x2).toNatClampNeg)) + x3)).toNatClampNeg (t.1 20))
def m_Model_keepScan_163 (n : Nat) (K93 : Int32 → Int32 → St → Option (St)) : Nat → Int32 → Int32 → Int32 → St → Option (St)
  | 0 => fun _ _ _ _ => none
  | k + 1 => m_Model_keepScan_163b n K93 (m_Model_keepScan_163 n K93 k)
def m_Model_keepScan_93b (n : Nat)  (K93 : Int32 → Int32 → St → Option (St)) (x1 : Int32) (x2 : Int32) (t : St) : Option (St) :=
 if (t.1 15) ≤ x2 then
  (m_Model_readData n x1 t).bind (fun z205 =>
   some z205)
 else
  if (x2) < 0 ∨ 4 ≤ (x2).toNatClampNeg then none else
  if (((x1 + (10 : Int32)) + ((4 : Int32) * x2))) < 0 ∨ 61440 ≤ (((x1 + (10 : Int32)) + ((4 : Int32) * x2))).toNatClampNeg then none else
  if (x2) < 0 ∨ 4 ≤ (x2).toNatClampNeg then none else
  (some (sH t 12 (((x1 + (10 : Int32)) + ((4 : Int32) * x2))).toNatClampNeg ((t.2.1 14) (x2).toNatClampNeg))).bind (fun w138 =>
   if (((x1 + (11 : Int32)) + ((4 : Int32) * x2))) < 0 ∨ 61440 ≤ (((x1 + (11 : Int32)) + ((4 : Int32) * x2))).toNatClampNeg then none else
   if (x2) < 0 ∨ 4 ≤ (x2).toNatClampNeg then none else
   (some (sH w138 12 (((x1 + (11 : Int32)) + ((4 : Int32) * x2))).toNatClampNeg ((t.2.1 15) (x2).toNatClampNeg))).bind (fun w157 =>
    if (((x1 + (12 : Int32)) + ((4 : Int32) * x2))) < 0 ∨ 61440 ≤ (((x1 + (12 : Int32)) + ((4 : Int32) * x2))).toNatClampNeg then none else
    m_Model_keepScan_163 n K93 n x1 x2 (w157.1 17) (sH w157 12 (((x1 + (12 : Int32)) + ((4 : Int32) * x2))).toNatClampNeg ((w138.2.1 16) (x2).toNatClampNeg))))
def m_Model_keepScan_93 (n : Nat)  : Nat → Int32 → Int32 → St → Option (St)
  | 0 => fun _ _ _ => none
  | k + 1 => m_Model_keepScan_93b n  (m_Model_keepScan_93 n  k)
def m_Model_keepScan (n : Nat)  (t : St) : Option (St) :=
 if (((30 : Int32) * (t.1 14))) < 0 ∨ 61440 ≤ (((30 : Int32) * (t.1 14))).toNatClampNeg then none else
 (some (sH t 12 (((30 : Int32) * (t.1 14))).toNatClampNeg (t.1 15))).bind (fun w29 =>
  if ((((30 : Int32) * (t.1 14)) + (1 : Int32))) < 0 ∨ 61440 ≤ ((((30 : Int32) * (t.1 14)) + (1 : Int32))).toNatClampNeg then none else
  (some (sH w29 12 ((((30 : Int32) * (t.1 14)) + (1 : Int32))).toNatClampNeg (t.1 17))).bind (fun w41 =>
   if ((((30 : Int32) * (t.1 14)) + (2 : Int32))) < 0 ∨ 61440 ≤ ((((30 : Int32) * (t.1 14)) + (2 : Int32))).toNatClampNeg then none else
   (some (sH w41 12 ((((30 : Int32) * (t.1 14)) + (2 : Int32))).toNatClampNeg (w29.1 18))).bind (fun w53 =>
    if ((((30 : Int32) * (t.1 14)) + (3 : Int32))) < 0 ∨ 61440 ≤ ((((30 : Int32) * (t.1 14)) + (3 : Int32))).toNatClampNeg then none else
    (some (sH w53 12 ((((30 : Int32) * (t.1 14)) + (3 : Int32))).toNatClampNeg (w41.1 19))).bind (fun w65 =>
     if ((((30 : Int32) * (t.1 14)) + (4 : Int32))) < 0 ∨ 61440 ≤ ((((30 : Int32) * (t.1 14)) + (4 : Int32))).toNatClampNeg then none else
     (some (sH w65 12 ((((30 : Int32) * (t.1 14)) + (4 : Int32))).toNatClampNeg (w53.1 20))).bind (fun w77 =>
      if ((((30 : Int32) * (t.1 14)) + (5 : Int32))) < 0 ∨ 61440 ≤ ((((30 : Int32) * (t.1 14)) + (5 : Int32))).toNatClampNeg then none else
      (some (sH w77 12 ((((30 : Int32) * (t.1 14)) + (5 : Int32))).toNatClampNeg (w65.1 4))).bind (fun w90 =>
       if ((((30 : Int32) * (t.1 14)) + (8 : Int32))) < 0 ∨ 61440 ≤ ((((30 : Int32) * (t.1 14)) + (8 : Int32))).toNatClampNeg then none else
       m_Model_keepScan_93 n  n ((30 : Int32) * (t.1 14)) (0 : Int32) (sH w90 12 ((((30 : Int32) * (t.1 14)) + (8 : Int32))).toNatClampNeg (w77.1 13))))))))
def m_Model_segment1_203 (n : Nat)   (t : St) : Option (Int32 × St) :=
 some ((0 : Int32), t)
def m_Model_segment1_161 (n : Nat)  (x1 : Int32) (t : St) : Option (Int32 × St) :=
 (m_Model_close n x1 t).bind (fun z163 =>
  if x1 = (218 : Int32) then
   if (z163.1 2) = 0 then
    (m_Model_keepScan n z163).bind (fun z181 =>
     if (z181.1 11) = 0 then
      if (z181.1 14) = (1 : Int32) then
       some ((1 : Int32), z181)
      else
       m_Model_segment1_203 n  z181
     else
      m_Model_segment1_203 n  z181)
   else
    some ((0 : Int32), z163)
  else
   some ((0 : Int32), z163))
def m_Model_segment1_89 (n : Nat)  (x1 : Int32) (t : St) : Option (Int32 × St) :=
 (m_Model_readFrame n x1 t).bind (fun z91 =>
  m_Model_segment1_161 n  x1 z91)
def m_Model_segment1_146 (n : Nat)  (x1 : Int32) (x2 : Int32) (y1 : Int32) (t : St) : Option (Int32 × St) :=
 (m_Model_must n y1 t).bind (fun z146 =>
  m_Model_segment1_161 n  x1 (sG z146 11 x2))
def m_Model_segment1_141 (n : Nat)  (x1 : Int32) (x2 : Int32) (t : St) : Option (Int32 × St) :=
 m_Model_segment1_146 n  x1 x2 (1 : Int32) t
def m_Model_segment1_145 (n : Nat)  (x1 : Int32) (x2 : Int32) (t : St) : Option (Int32 × St) :=
 m_Model_segment1_146 n  x1 x2 (0 : Int32) t
def m_Model_segment1_69 (n : Nat)  (x1 : Int32) (y1 : Int32) (t : St) : Option (Int32 × St) :=
 m_Model_segment1_161 n  x1 (sG t 13 y1)
def m_Model_segment1 (n : Nat) (x1 : Int32) (t : St) : Option (Int32 × St) :=
 (m_Model_open n t).bind (fun z1 =>
  if (z1.1 2) ≤ 0 then
   if x1 = (219 : Int32) then
    (m_Model_readQuantisers n z1).bind (fun z21 =>
     m_Model_segment1_161 n  x1 z21)
   else
    if x1 = (196 : Int32) then
     (m_Model_readWords n z1).bind (fun z35 =>
      m_Model_segment1_161 n  x1 z35)
    else
     if x1 = (221 : Int32) then
      (m_Model_two n z1).bind (fun z49 =>
       if (z49.2.1 2) = 0 then
        m_Model_segment1_69 n  x1 z49.1 z49.2
       else
        m_Model_segment1_69 n  x1 (z49.2.1 13) z49.2)
     else
      if x1 = (192 : Int32) then
       m_Model_segment1_89 n  x1 z1
      else
       if x1 = (194 : Int32) then
        m_Model_segment1_89 n  x1 z1
       else
        if x1 = (218 : Int32) then
         (m_Model_readScan n z1).bind (fun z105 =>
          m_Model_segment1_161 n  x1 z105)
        else
         if x1 = (220 : Int32) then
          (m_Model_two n z1).bind (fun z119 =>
           if 0 < (z119.2.1 2) then
            m_Model_segment1_141 n  x1 z119.1 z119.2
           else
            if z119.1 ≤ 0 then
             m_Model_segment1_145 n  x1 z119.1 z119.2
            else
             if (64 : Int32) < z119.1 then
              m_Model_segment1_145 n  x1 z119.1 z119.2
             else
              m_Model_segment1_141 n  x1 z119.1 z119.2)
         else
          (m_Model_any n z1).bind (fun z158 =>
           m_Model_segment1_161 n  x1 z158)
  else
   some ((0 : Int32), z1))
def m_Model_readFile_273 (n : Nat) (K56 : Int32 → Int32 → St → Option (St)) (x2 : Int32) (x3 : Int32) (t : St) : Option (St) :=
 K56 x2 x3 t
def m_Model_readFile_259 (n : Nat) (K56 : Int32 → Int32 → St → Option (St)) (x2 : Int32) (x3 : Int32) (x4 : Int32) (t : St) : Option (St) :=
 if (t.1 2) = 0 then
  (m_Model_segment1 n x4 t).bind (fun z269 =>
   m_Model_readFile_273 n K56 z269.1 x3 z269.2)
 else
  m_Model_readFile_273 n K56 x2 x3 t
def m_Model_readFile_231 (n : Nat) (K56 : Int32 → Int32 → St → Option (St)) (x2 : Int32) (x3 : Int32) (x4 : Int32) (t : St) : Option (St) :=
 if (t.1 2) = 0 then
  if x4 = (217 : Int32) then
   m_Model_readFile_273 n K56 x2 (0 : Int32) (sG t 7 (t.1 4))
  else
   m_Model_readFile_259 n K56 x2 x3 x4 t
 else
  m_Model_readFile_259 n K56 x2 x3 x4 t
def m_Model_readFile_222 (n : Nat) (K56 : Int32 → Int32 → St → Option (St)) (x2 : Int32) (x3 : Int32) (x4 : Int32) (x5 : Int32) (t : St) : Option (St) :=
 (m_Model_wrong n (4 : Int32) x5 t).bind (fun z226 =>
  m_Model_readFile_231 n K56 x2 x3 x4 z226.2)
def m_Model_readFile_192 (n : Nat) (K56 : Int32 → Int32 → St → Option (St)) (x2 : Int32) (x3 : Int32) (x4 : Int32) (x5 : Int32) (x6 : Int32) (y0 : Int32) (t : St) : Option (St) :=
 if (t.1 2) = 0 then
  if x6 = 0 then
   if y0 = 0 then
    m_Model_readFile_222 n K56 x2 x3 x4 x5 t
   else
    m_Model_readFile_231 n K56 x2 x3 x4 t
  else
   if x4 = (220 : Int32) then
    m_Model_readFile_231 n K56 x2 x3 x4 t
   else
    m_Model_readFile_222 n K56 x2 x3 x4 x5 t
 else
  m_Model_readFile_231 n K56 x2 x3 x4 t
def m_Model_readFile_187 (n : Nat) (K56 : Int32 → Int32 → St → Option (St)) (x2 : Int32) (x3 : Int32) (x4 : Int32) (x5 : Int32) (x6 : Int32) (t : St) : Option (St) :=
 m_Model_readFile_192 n K56 x2 x3 x4 x5 x6 (1 : Int32) t
def m_Model_readFile_191 (n : Nat) (K56 : Int32 → Int32 → St → Option (St)) (x2 : Int32) (x3 : Int32) (x4 : Int32) (x5 : Int32) (x6 : Int32) (t : St) : Option (St) :=
 m_Model_readFile_192 n K56 x2 x3 x4 x5 x6 (0 : Int32) t
def m_Model_readFile_172 (n : Nat) (K56 : Int32 → Int32 → St → Option (St)) (x2 : Int32) (x3 : Int32) (x4 : Int32) (x5 : Int32) (x6 : Int32) (t : St) : Option (St) :=
 if x4 = (218 : Int32) then
  if (t.1 9) ≤ 0 then
   m_Model_readFile_191 n K56 x2 x3 x4 x5 x6 t
  else
   m_Model_readFile_187 n K56 x2 x3 x4 x5 x6 t
 else
  m_Model_readFile_191 n K56 x2 x3 x4 x5 x6 t
def m_Model_readFile_165 (n : Nat) (K56 : Int32 → Int32 → St → Option (St)) (x2 : Int32) (x3 : Int32) (x4 : Int32) (x5 : Int32) (x6 : Int32) (t : St) : Option (St) :=
 if (t.1 9) = 0 then
  m_Model_readFile_187 n K56 x2 x3 x4 x5 x6 t
 else
  m_Model_readFile_172 n K56 x2 x3 x4 x5 x6 t
def m_Model_readFile_117 (n : Nat) (K56 : Int32 → Int32 → St → Option (St)) (x2 : Int32) (x3 : Int32) (x4 : Int32) (x5 : Int32) (x6 : Int32) (t : St) : Option (St) :=
 if x4 = (254 : Int32) then
  m_Model_readFile_187 n K56 x2 x3 x4 x5 x6 t
 else
  if x4 = (219 : Int32) then
   m_Model_readFile_187 n K56 x2 x3 x4 x5 x6 t
  else
   if x4 = (196 : Int32) then
    m_Model_readFile_187 n K56 x2 x3 x4 x5 x6 t
   else
    if x4 = (221 : Int32) then
     m_Model_readFile_187 n K56 x2 x3 x4 x5 x6 t
    else
     if x4 = (192 : Int32) then
      m_Model_readFile_165 n K56 x2 x3 x4 x5 x6 t
     else
      if x4 = (194 : Int32) then
       m_Model_readFile_165 n K56 x2 x3 x4 x5 x6 t
      else
       m_Model_readFile_172 n K56 x2 x3 x4 x5 x6 t
def m_Model_readFile_101 (n : Nat) (K56 : Int32 → Int32 → St → Option (St)) (x2 : Int32) (x3 : Int32) (x4 : Int32) (x5 : Int32) (x6 : Int32) (t : St) : Option (St) :=
 if x4 < (224 : Int32) then
  m_Model_readFile_117 n K56 x2 x3 x4 x5 x6 t
 else
  if x4 ≤ (239 : Int32) then
   m_Model_readFile_187 n K56 x2 x3 x4 x5 x6 t
  else
   m_Model_readFile_117 n K56 x2 x3 x4 x5 x6 t
def m_Model_readFile_56b (n : Nat)  (K56 : Int32 → Int32 → St → Option (St)) (x2 : Int32) (x3 : Int32) (t : St) : Option (St) :=
 if x3 = 0 then
  some t
 else
  if (t.1 2) = 0 then
   (m_Model_marker n t).bind (fun z68 =>
    if z68.1 = (217 : Int32) then
     (m_Model_isSent n z68.2).bind (fun z95 =>
      if z95.1 = 0 then
       m_Model_readFile_101 n K56 (0 : Int32) x3 z68.1 ((z68.2.1 4) - (1 : Int32)) x2 z95.2
      else
       m_Model_readFile_187 n K56 (0 : Int32) x3 z68.1 ((z68.2.1 4) - (1 : Int32)) x2 z95.2)
    else
     m_Model_readFile_101 n K56 (0 : Int32) x3 z68.1 ((z68.2.1 4) - (1 : Int32)) x2 z68.2)
  else
   some t
def m_Model_readFile_56 (n : Nat)  : Nat → Int32 → Int32 → St → Option (St)
  | 0 => fun _ _ _ => none
  | k + 1 => m_Model_readFile_56b n  (m_Model_readFile_56 n  k)
def m_Model_readFile_52 (n : Nat)   (t : St) : Option (St) :=
 m_Model_readFile_56 n  n (0 : Int32) (1 : Int32) t
def m_Model_readFile_26 (n : Nat)   (t : St) : Option (St) :=
 (m_Model_next n t).bind (fun z27 =>
  if (z27.2.1 2) = 0 then
   if z27.1 = (216 : Int32) then
    m_Model_readFile_52 n  z27.2
   else
    (m_Model_wrong n (2 : Int32) (0 : Int32) z27.2).bind (fun z48 =>
     m_Model_readFile_52 n  z48.2)
  else
   m_Model_readFile_52 n  z27.2)
def m_Model_readFile (n : Nat)  (t : St) : Option (St) :=
 (m_Model_next n t).bind (fun z1 =>
  if (z1.2.1 2) = 0 then
   if z1.1 = (255 : Int32) then
    m_Model_readFile_26 n  z1.2
   else
    (m_Model_wrong n (2 : Int32) (0 : Int32) z1.2).bind (fun z22 =>
     m_Model_readFile_26 n  z22.2)
  else
   m_Model_readFile_26 n  z1.2)
def m_Model_read (n : Nat)  (t : St) : Option (Int32 × St) :=
 (m_Model_forget n (sG (sG (sG t 0 (0 : Int32)) 2 (0 : Int32)) 3 (-1 : Int32))).bind (fun z16 =>
  (m_Model_readFile n (sG (sG z16 4 (0 : Int32)) 5 (-1 : Int32))).bind (fun z30 =>
   if (z30.1 2) ≤ 0 then
    some ((z30.1 2), z30)
   else
    (m_Model_forget n z30).bind (fun z41 =>
     some ((z41.1 2), z41))))
def m_Model_segment_26 (n : Nat)   (t : St) : Option (Int32 × St) :=
 some ((-1 : Int32), t)
def m_Model_segment (n : Nat) (x1 : Int32) (x2 : Int32) (t : St) : Option (Int32 × St) :=
 if x1 < 0 then
  m_Model_segment_26 n  (sG t 0 (0 : Int32))
 else
  if (t.1 8) ≤ x1 then
   m_Model_segment_26 n  (sG t 0 (0 : Int32))
  else
   if x2 < 0 then
    m_Model_segment_26 n  (sG t 0 (0 : Int32))
   else
    if x2 ≤ (3 : Int32) then
     if ((((4 : Int32) * x1) + x2)) < 0 ∨ 16384 ≤ ((((4 : Int32) * x1) + x2)).toNatClampNeg then none else
     some (((t.2.1 1) ((((4 : Int32) * x1) + x2)).toNatClampNeg), (sG t 0 (0 : Int32)))
    else
     m_Model_segment_26 n  (sG t 0 (0 : Int32))
def m_Model_frame_75 (n : Nat) (K21 : Int32 → Int32 → Int32 → Int32 → St → Option (Int32 × St)) (x1 : Int32) (x2 : Int32) (x4 : Int32) (y0 : Int32) (t : St) : Option (Int32 × St) :=
 K21 x1 x2 y0 (x4 + 1) t
def m_Model_frame_52 (n : Nat) (K21 : Int32 → Int32 → Int32 → Int32 → St → Option (Int32 × St)) (x1 : Int32) (x3 : Int32) (x4 : Int32) (y0 : Int32) (t : St) : Option (Int32 × St) :=
 if (x4) < 0 ∨ 4 ≤ (x4).toNatClampNeg then none else
 if ((t.2.1 4) (x4).toNatClampNeg) ≤ x3 then
  m_Model_frame_75 n K21 x1 y0 x4 x3 t
 else
  if (x4) < 0 ∨ 4 ≤ (x4).toNatClampNeg then none else
  m_Model_frame_75 n K21 x1 y0 x4 ((t.2.1 4) (x4).toNatClampNeg) t
def m_Model_frame_21b (n : Nat)  (K21 : Int32 → Int32 → Int32 → Int32 → St → Option (Int32 × St)) (x1 : Int32) (x2 : Int32) (x3 : Int32) (x4 : Int32) (t : St) : Option (Int32 × St) :=
 if (t.1 12) ≤ x4 then
  if x1 = 0 then
   some ((t.1 9), t)
  else
   if x1 = (1 : Int32) then
    some ((t.1 10), t)
   else
    if x1 = (2 : Int32) then
     some ((t.1 11), t)
    else
     if x1 = (3 : Int32) then
      some ((t.1 12), t)
     else
      if x1 = (4 : Int32) then
       some (x2, t)
      else
       if x1 = (5 : Int32) then
        some (x3, t)
       else
        some ((-1 : Int32), t)
 else
  if (x4) < 0 ∨ 4 ≤ (x4).toNatClampNeg then none else
  if ((t.2.1 3) (x4).toNatClampNeg) ≤ x2 then
   m_Model_frame_52 n K21 x1 x3 x4 x2 t
  else
   if (x4) < 0 ∨ 4 ≤ (x4).toNatClampNeg then none else
   m_Model_frame_52 n K21 x1 x3 x4 ((t.2.1 3) (x4).toNatClampNeg) t
def m_Model_frame_21 (n : Nat)  : Nat → Int32 → Int32 → Int32 → Int32 → St → Option (Int32 × St)
  | 0 => fun _ _ _ _ _ => none
  | k + 1 => m_Model_frame_21b n  (m_Model_frame_21 n  k)
def m_Model_frame (n : Nat) (x1 : Int32) (t : St) : Option (Int32 × St) :=
 if (t.1 9) = 0 then
  some ((-1 : Int32), (sG t 0 (0 : Int32)))
 else
  m_Model_frame_21 n  n x1 (0 : Int32) (0 : Int32) (0 : Int32) (sG t 0 (0 : Int32))
def m_Model_component (n : Nat) (x1 : Int32) (x2 : Int32) (t : St) : Option (Int32 × St) :=
 if x1 < 0 then
  some ((-1 : Int32), (sG t 0 (0 : Int32)))
 else
  if x1 < (t.1 12) then
   if x2 = 0 then
    if (x1) < 0 ∨ 4 ≤ (x1).toNatClampNeg then none else
    some (((t.2.1 2) (x1).toNatClampNeg), (sG t 0 (0 : Int32)))
   else
    if x2 = (1 : Int32) then
     if (x1) < 0 ∨ 4 ≤ (x1).toNatClampNeg then none else
     some (((t.2.1 3) (x1).toNatClampNeg), (sG t 0 (0 : Int32)))
    else
     if x2 = (2 : Int32) then
      if (x1) < 0 ∨ 4 ≤ (x1).toNatClampNeg then none else
      some (((t.2.1 4) (x1).toNatClampNeg), (sG t 0 (0 : Int32)))
     else
      if x2 = (3 : Int32) then
       if (x1) < 0 ∨ 4 ≤ (x1).toNatClampNeg then none else
       some (((t.2.1 5) (x1).toNatClampNeg), (sG t 0 (0 : Int32)))
      else
       some ((-1 : Int32), (sG t 0 (0 : Int32)))
  else
   some ((-1 : Int32), (sG t 0 (0 : Int32)))
def m_Model_scan_77 (n : Nat)  (x1 : Int32) (x2 : Int32) (y0 : Int32) (t : St) : Option (Int32 × St) :=
 if y0 = 0 then
  some ((-1 : Int32), t)
 else
  if ((((((30 : Int32) * x1) + (10 : Int32)) + x2) - (16 : Int32))) < 0 ∨ 61440 ≤ ((((((30 : Int32) * x1) + (10 : Int32)) + x2) - (16 : Int32))).toNatClampNeg then none else
  some (((t.2.1 12) ((((((30 : Int32) * x1) + (10 : Int32)) + x2) - (16 : Int32))).toNatClampNeg), t)
def m_Model_scan_76 (n : Nat)  (x1 : Int32) (x2 : Int32) (t : St) : Option (Int32 × St) :=
 m_Model_scan_77 n  x1 x2 (0 : Int32) t
def m_Model_scan (n : Nat) (x1 : Int32) (x2 : Int32) (t : St) : Option (Int32 × St) :=
 if x1 < 0 then
  some ((-1 : Int32), (sG t 0 (0 : Int32)))
 else
  if (t.1 14) ≤ x1 then
   some ((-1 : Int32), (sG t 0 (0 : Int32)))
  else
   if 0 ≤ x2 then
    if (9 : Int32) ≤ x2 then
     if x2 < (16 : Int32) then
      m_Model_scan_76 n  x1 x2 (sG t 0 (0 : Int32))
     else
      if (((30 : Int32) * x1)) < 0 ∨ 61440 ≤ (((30 : Int32) * x1)).toNatClampNeg then none else
      if ((t.2.1 12) (((30 : Int32) * x1)).toNatClampNeg) ≤ ((x2 - (16 : Int32)) / (4 : Int32)) then
       m_Model_scan_76 n  x1 x2 (sG t 0 (0 : Int32))
      else
       if (3 : Int32) ≤ (x2 - x2 / (4 : Int32) * (4 : Int32)) then
        m_Model_scan_76 n  x1 x2 (sG t 0 (0 : Int32))
       else
        m_Model_scan_77 n  x1 x2 (1 : Int32) (sG t 0 (0 : Int32))
    else
     if ((((30 : Int32) * x1) + x2)) < 0 ∨ 61440 ≤ ((((30 : Int32) * x1) + x2)).toNatClampNeg then none else
     some (((t.2.1 12) ((((30 : Int32) * x1) + x2)).toNatClampNeg), (sG t 0 (0 : Int32)))
   else
    some ((-1 : Int32), (sG t 0 (0 : Int32)))
def m_Model_data_130 (n : Nat) (K54 : Int32 → Int32 → Int32 → St → Option (Int32 × St)) (x4 : Int32) (x5 : Int32) (y0 : Int32) (y1 : Int32) (t : St) : Option (Int32 × St) :=
 K54 (y0 + y1) x4 x5 t
def m_Model_data_119 (n : Nat) (K54 : Int32 → Int32 → Int32 → St → Option (Int32 × St)) (x3 : Int32) (x4 : Int32) (x5 : Int32) (x6 : Int32) (t : St) : Option (Int32 × St) :=
 if x6 = 0 then
  m_Model_data_130 n K54 x4 x5 x3 (1 : Int32) t
 else
  m_Model_data_130 n K54 x4 x5 x3 (2 : Int32) t
def m_Model_data_98 (n : Nat) (K54 : Int32 → Int32 → Int32 → St → Option (Int32 × St)) (x3 : Int32) (x4 : Int32) (x5 : Int32) (x6 : Int32) (y0 : Int32) (t : St) : Option (Int32 × St) :=
 if y0 = 0 then
  if x5 = 0 then
   (m_Model_byteAt n x3 t).bind (fun z112 =>
    some (z112.1, z112.2))
  else
   m_Model_data_119 n K54 x3 x4 (x5 + (-1)) x6 t
 else
  m_Model_data_119 n K54 x3 x4 x5 x6 t
def m_Model_data_97 (n : Nat) (K54 : Int32 → Int32 → Int32 → St → Option (Int32 × St)) (x3 : Int32) (x4 : Int32) (x5 : Int32) (x6 : Int32) (t : St) : Option (Int32 × St) :=
 m_Model_data_98 n K54 x3 x4 x5 x6 (0 : Int32) t
def m_Model_data_76 (n : Nat) (K54 : Int32 → Int32 → Int32 → St → Option (Int32 × St)) (x3 : Int32) (x4 : Int32) (x5 : Int32) (y0 : Int32) (t : St) : Option (Int32 × St) :=
 if y0 = 0 then
  m_Model_data_97 n K54 x3 x4 x5 y0 t
 else
  (m_Model_byteAt n (x3 + (1 : Int32)) t).bind (fun z87 =>
   if z87.1 ≤ 0 then
    m_Model_data_97 n K54 x3 x4 x5 y0 z87.2
   else
    m_Model_data_98 n K54 x3 x4 x5 y0 (1 : Int32) z87.2)
def m_Model_data_54b (n : Nat)  (K54 : Int32 → Int32 → Int32 → St → Option (Int32 × St)) (x3 : Int32) (x4 : Int32) (x5 : Int32) (t : St) : Option (Int32 × St) :=
 if x4 ≤ x3 then
  some ((-1 : Int32), t)
 else
  (m_Model_byteAt n x3 t).bind (fun z62 =>
   if z62.1 = (255 : Int32) then
    m_Model_data_76 n K54 x3 x4 x5 (1 : Int32) z62.2
   else
    m_Model_data_76 n K54 x3 x4 x5 (0 : Int32) z62.2)
def m_Model_data_54 (n : Nat)  : Nat → Int32 → Int32 → Int32 → St → Option (Int32 × St)
  | 0 => fun _ _ _ _ => none
  | k + 1 => m_Model_data_54b n  (m_Model_data_54 n  k)
def m_Model_data (n : Nat) (x1 : Int32) (x2 : Int32) (t : St) : Option (Int32 × St) :=
 if x1 < 0 then
  some ((-1 : Int32), (sG t 0 (0 : Int32)))
 else
  if (t.1 14) ≤ x1 then
   some ((-1 : Int32), (sG t 0 (0 : Int32)))
  else
   if 0 ≤ x2 then
    if ((((30 : Int32) * x1) + (5 : Int32))) < 0 ∨ 61440 ≤ ((((30 : Int32) * x1) + (5 : Int32))).toNatClampNeg then none else
    if ((((30 : Int32) * x1) + (6 : Int32))) < 0 ∨ 61440 ≤ ((((30 : Int32) * x1) + (6 : Int32))).toNatClampNeg then none else
    m_Model_data_54 n  n ((t.2.1 12) ((((30 : Int32) * x1) + (5 : Int32))).toNatClampNeg) (((t.2.1 12) ((((30 : Int32) * x1) + (5 : Int32))).toNatClampNeg) + ((t.2.1 12) ((((30 : Int32) * x1) + (6 : Int32))).toNatClampNeg)) x2 (sG t 0 (0 : Int32))
   else
    some ((-1 : Int32), (sG t 0 (0 : Int32)))
def m_Model_quantiser_40 (n : Nat)  (x1 : Int32) (x2 : Int32) (y0 : Int32) (t : St) : Option (Int32 × St) :=
 if y0 = 0 then
  some ((-1 : Int32), t)
 else
  if ((((64 : Int32) * x1) + x2)) < 0 ∨ 256 ≤ ((((64 : Int32) * x1) + x2)).toNatClampNeg then none else
  some (((t.2.1 7) ((((64 : Int32) * x1) + x2)).toNatClampNeg), t)
def m_Model_quantiser_39 (n : Nat)  (x1 : Int32) (x2 : Int32) (t : St) : Option (Int32 × St) :=
 m_Model_quantiser_40 n  x1 x2 (0 : Int32) t
def m_Model_quantiser (n : Nat) (x1 : Int32) (x2 : Int32) (t : St) : Option (Int32 × St) :=
 if x1 < 0 then
  m_Model_quantiser_39 n  x1 x2 (sG t 0 (0 : Int32))
 else
  if (4 : Int32) ≤ x1 then
   m_Model_quantiser_39 n  x1 x2 (sG t 0 (0 : Int32))
  else
   if x2 < 0 then
    m_Model_quantiser_39 n  x1 x2 (sG t 0 (0 : Int32))
   else
    if (64 : Int32) ≤ x2 then
     m_Model_quantiser_39 n  x1 x2 (sG t 0 (0 : Int32))
    else
     if ((x1 &&& (3 : Int32))) < 0 ∨ 4 ≤ ((x1 &&& (3 : Int32))).toNatClampNeg then none else
     if ((t.2.1 6) ((x1 &&& (3 : Int32))).toNatClampNeg) = 0 then
      m_Model_quantiser_39 n  x1 x2 (sG t 0 (0 : Int32))
     else
      m_Model_quantiser_40 n  x1 x2 (1 : Int32) (sG t 0 (0 : Int32))
def m_Model_word_142 (n : Nat)   (t : St) : Option (Int32 × St) :=
 some ((-1 : Int32), t)
def m_Model_word_104 (n : Nat)   (t : St) : Option (Int32 × St) :=
 some ((-1 : Int32), t)
def m_Model_word_55 (n : Nat)  (x2 : Int32) (x3 : Int32) (x4 : Int32) (y0 : Int32) (t : St) : Option (Int32 × St) :=
 if x4 = 0 then
  some ((-1 : Int32), t)
 else
  if (y0) < 0 ∨ 8 ≤ (y0).toNatClampNeg then none else
  if ((t.2.1 8) (y0).toNatClampNeg) = 0 then
   some ((-1 : Int32), t)
  else
   if x2 = 0 then
    if x3 < (1 : Int32) then
     m_Model_word_104 n  t
    else
     if (16 : Int32) < x3 then
      m_Model_word_104 n  t
     else
      if ((((17 : Int32) * y0) + x3)) < 0 ∨ 136 ≤ ((((17 : Int32) * y0) + x3)).toNatClampNeg then none else
      some (((t.2.1 9) ((((17 : Int32) * y0) + x3)).toNatClampNeg), t)
   else
    if x2 = (1 : Int32) then
     if x3 < 0 then
      m_Model_word_142 n  t
     else
      if (y0) < 0 ∨ 8 ≤ (y0).toNatClampNeg then none else
      if ((t.2.1 11) (y0).toNatClampNeg) ≤ x3 then
       m_Model_word_142 n  t
      else
       if ((((256 : Int32) * y0) + x3)) < 0 ∨ 2048 ≤ ((((256 : Int32) * y0) + x3)).toNatClampNeg then none else
       some (((t.2.1 10) ((((256 : Int32) * y0) + x3)).toNatClampNeg), t)
    else
     m_Model_word_142 n  t
def m_Model_word_31 (n : Nat)  (x1 : Int32) (x2 : Int32) (x3 : Int32) (y0 : Int32) (t : St) : Option (Int32 × St) :=
 if y0 = 0 then
  m_Model_word_55 n  x2 x3 y0 (0 : Int32) t
 else
  if (4 : Int32) ≤ x1 then
   m_Model_word_55 n  x2 x3 y0 (x1 - (12 : Int32)) t
  else
   m_Model_word_55 n  x2 x3 y0 x1 t
def m_Model_word_30 (n : Nat)  (x1 : Int32) (x2 : Int32) (x3 : Int32) (t : St) : Option (Int32 × St) :=
 m_Model_word_31 n  x1 x2 x3 (0 : Int32) t
def m_Model_word_26 (n : Nat)  (x1 : Int32) (x2 : Int32) (x3 : Int32) (t : St) : Option (Int32 × St) :=
 m_Model_word_31 n  x1 x2 x3 (1 : Int32) t
def m_Model_word_14 (n : Nat)  (x1 : Int32) (x2 : Int32) (x3 : Int32) (t : St) : Option (Int32 × St) :=
 if x1 < (16 : Int32) then
  m_Model_word_30 n  x1 x2 x3 t
 else
  if (20 : Int32) ≤ x1 then
   m_Model_word_30 n  x1 x2 x3 t
  else
   m_Model_word_26 n  x1 x2 x3 t
def m_Model_word (n : Nat) (x1 : Int32) (x2 : Int32) (x3 : Int32) (t : St) : Option (Int32 × St) :=
 if x1 < 0 then
  m_Model_word_14 n  x1 x2 x3 (sG t 0 (0 : Int32))
 else
  if x1 < (4 : Int32) then
   m_Model_word_26 n  x1 x2 x3 (sG t 0 (0 : Int32))
  else
   m_Model_word_14 n  x1 x2 x3 (sG t 0 (0 : Int32))
def m_Model_look (n : Nat) (x1 : Int32) (t : St) : Option (Int32 × St) :=
 if x1 = (0 : Int32) then
  some ((t.1 1), (sG t 0 (0 : Int32)))
 else
 if x1 = (1 : Int32) then
  some ((t.1 2), (sG t 0 (0 : Int32)))
 else
 if x1 = (2 : Int32) then
  some ((t.1 3), (sG t 0 (0 : Int32)))
 else
 if x1 = (3 : Int32) then
  some ((t.1 8), (sG t 0 (0 : Int32)))
 else
 if x1 = (4 : Int32) then
  some ((t.1 14), (sG t 0 (0 : Int32)))
 else
 if x1 = (5 : Int32) then
  some ((t.1 13), (sG t 0 (0 : Int32)))
 else
 if x1 = (6 : Int32) then
  some ((t.1 7), (sG t 0 (0 : Int32)))
 else
 some ((-1 : Int32), (sG t 0 (0 : Int32)))

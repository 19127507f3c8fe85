def m_Arrays_fillI_9_5b (n : Nat)  (K5 : Int32 → Int32 → Int32 → St → Option (St)) (x1 : Int32) (x2 : Int32) (x3 : Int32) (t : St) : Option (St) :=
 if x3 ≤ x2 then
  some t
 else
  if (x2) < 0 ∨ 4 ≤ (x2).toNatClampNeg then none else
  K5 x1 (x2 + 1) x3 (sH t 4 (x2).toNatClampNeg x1)
def m_Arrays_fillI_9_5 (n : Nat)  : Nat → Int32 → Int32 → Int32 → St → Option (St)
  | 0 => fun _ _ _ _ => none
  | k + 1 => m_Arrays_fillI_9_5b n  (m_Arrays_fillI_9_5 n  k)
def m_Arrays_fillI_9 (n : Nat) (x1 : Int32) (t : St) : Option (St) :=
 m_Arrays_fillI_9_5 n  n x1 (0 : Int32) (Int32.ofNat 4) t
def m_Arrays_fillI_10_5b (n : Nat)  (K5 : Int32 → Int32 → Int32 → St → Option (St)) (x1 : Int32) (x2 : Int32) (x3 : Int32) (t : St) : Option (St) :=
 if x3 ≤ x2 then
  some t
 else
  if (x2) < 0 ∨ 8 ≤ (x2).toNatClampNeg then none else
  K5 x1 (x2 + 1) x3 (sH t 5 (x2).toNatClampNeg x1)
def m_Arrays_fillI_10_5 (n : Nat)  : Nat → Int32 → Int32 → Int32 → St → Option (St)
  | 0 => fun _ _ _ _ => none
  | k + 1 => m_Arrays_fillI_10_5b n  (m_Arrays_fillI_10_5 n  k)
def m_Arrays_fillI_10 (n : Nat) (x1 : Int32) (t : St) : Option (St) :=
 m_Arrays_fillI_10_5 n  n x1 (0 : Int32) (Int32.ofNat 8) t
def m_Arrays_fillI_14_5b (n : Nat)  (K5 : Int32 → Int32 → Int32 → St → Option (St)) (x1 : Int32) (x2 : Int32) (x3 : Int32) (t : St) : Option (St) :=
 if x3 ≤ x2 then
  some t
 else
  if (x2) < 0 ∨ 256 ≤ (x2).toNatClampNeg then none else
  K5 x1 (x2 + 1) x3 (sH t 7 (x2).toNatClampNeg x1)
def m_Arrays_fillI_14_5 (n : Nat)  : Nat → Int32 → Int32 → Int32 → St → Option (St)
  | 0 => fun _ _ _ _ => none
  | k + 1 => m_Arrays_fillI_14_5b n  (m_Arrays_fillI_14_5 n  k)
def m_Arrays_fillI_14 (n : Nat) (x1 : Int32) (t : St) : Option (St) :=
 m_Arrays_fillI_14_5 n  n x1 (0 : Int32) (Int32.ofNat 256) t
def m_Picture_clear (n : Nat)  (t : St) : Option (St) :=
 (m_Arrays_fillI_9 n (-1 : Int32) (sG (sG t 7 (0 : Int32)) 8 (0 : Int32))).bind (fun z21 =>
  (m_Arrays_fillI_10 n (-1 : Int32) z21).bind (fun z29 =>
   some (sG (sG (sG (sG (sG (sG z29 1 (-1 : Int32)) 2 (0 : Int32)) 3 (0 : Int32)) 4 (0 : Int32)) 5 (0 : Int32)) 6 (-1 : Int32))))
def m_Parser_forget (n : Nat)  (t : St) : Option (St) :=
 (m_Picture_clear n (sG (sG t 13 (0 : Int32)) 14 (-1 : Int32))).bind (fun z14 =>
  some z14)
def m_Reader_wipe (n : Nat)  (t : St) : Option (St) :=
 (m_Parser_forget n (sG t 0 (0 : Int32))).bind (fun z12 =>
  some z12)
def m_Bytes_at_25 (n : Nat)   (t : St) : Option (Int32 × St) :=
 some ((-1 : Int32), t)
def m_Bytes_at (n : Nat) (x1 : Int32) (t : St) : Option (Int32 × St) :=
 if x1 < 0 then
  m_Bytes_at_25 n  t
 else
  if (t.1 0) ≤ x1 then
   m_Bytes_at_25 n  t
  else
   if (x1) < 0 ∨ (t.2.2.2 0) ≤ (x1).toNatClampNeg then none else
   some ((((t.2.1 0) (x1).toNatClampNeg) &&& (255 : Int32)), t)
def m_Parser_fail (n : Nat) (x1 : Int32) (x2 : Int32) (t : St) : Option (Int32 × St) :=
 if (t.1 13) = 0 then
  some ((-1 : Int32), (sG (sG t 13 x1) 14 x2))
 else
  some ((-1 : Int32), t)
def m_Parser_begin_51 (n : Nat)   (t : St) : Option (St) :=
 if (2 : Int32) ≤ (t.1 0) then
  (m_Bytes_at n (1 : Int32) t).bind (fun z83 =>
   if z83.1 = (216 : Int32) then
    some (sG z83.2 9 (2 : Int32))
   else
    (m_Parser_fail n (2 : Int32) (0 : Int32) z83.2).bind (fun z95 =>
     some (sG z95.2 9 (2 : Int32))))
 else
  (m_Parser_fail n (1 : Int32) (t.1 0) t).bind (fun z71 =>
   some (sG z71.2 9 (2 : Int32)))
def m_Parser_begin (n : Nat)  (t : St) : Option (St) :=
 (m_Parser_forget n t).bind (fun z1 =>
  (m_Arrays_fillI_14 n (-1 : Int32) z1).bind (fun z9 =>
   if (z9.1 0) ≤ 0 then
    m_Parser_begin_51 n  (sG z9 12 (0 : Int32))
   else
    (m_Bytes_at n (0 : Int32) (sG z9 12 (0 : Int32))).bind (fun z32 =>
     if z32.1 = (255 : Int32) then
      m_Parser_begin_51 n  z32.2
     else
      (m_Parser_fail n (2 : Int32) (0 : Int32) z32.2).bind (fun z44 =>
       some (sG z44.2 9 (2 : Int32))))))
def m_Parser_goesOn_22 (n : Nat)   (t : St) : Option (Int32 × St) :=
 some ((0 : Int32), t)
def m_Parser_goesOn (n : Nat)  (t : St) : Option (Int32 × St) :=
 if (t.1 13) = 0 then
  if (t.1 6) = (-1 : Int32) then
   some ((1 : Int32), t)
  else
   m_Parser_goesOn_22 n  t
 else
  m_Parser_goesOn_22 n  t
def m_Parser_latestOf_29 (n : Nat)   (t : St) : Option (Int32 × St) :=
 some ((-1 : Int32), t)
def m_Parser_latestOf (n : Nat) (x1 : Int32) (x2 : Int32) (t : St) : Option (Int32 × St) :=
 if ((x1 * (64 : Int32)) + x2) < 0 then
  m_Parser_latestOf_29 n  t
 else
  if (Int32.ofNat 256) ≤ ((x1 * (64 : Int32)) + x2) then
   m_Parser_latestOf_29 n  t
  else
   if (((x1 * (64 : Int32)) + x2)) < 0 ∨ 256 ≤ (((x1 * (64 : Int32)) + x2)).toNatClampNeg then none else
   some (((t.2.1 7) (((x1 * (64 : Int32)) + x2)).toNatClampNeg), t)
def m_Parser_allBegun_2b (n : Nat)  (K2 : Int32 → St → Option (Int32 × St)) (x1 : Int32) (t : St) : Option (Int32 × St) :=
 if (t.1 4) ≤ x1 then
  some ((1 : Int32), t)
 else
  (m_Parser_latestOf n x1 (0 : Int32) t).bind (fun z16 =>
   if z16.1 = (-1 : Int32) then
    some ((0 : Int32), z16.2)
   else
    K2 (x1 + 1) z16.2)
def m_Parser_allBegun_2 (n : Nat)  : Nat → Int32 → St → Option (Int32 × St)
  | 0 => fun _ _ => none
  | k + 1 => m_Parser_allBegun_2b n  (m_Parser_allBegun_2 n  k)
def m_Parser_allBegun (n : Nat)  (t : St) : Option (Int32 × St) :=
 m_Parser_allBegun_2 n  n (0 : Int32) t
def m_Parser_isFree_21 (n : Nat)   (t : St) : Option (Int32 × St) :=
 some ((1 : Int32), t)
def m_Parser_isFree_25 (n : Nat)   (t : St) : Option (Int32 × St) :=
 some ((0 : Int32), t)
def m_Parser_isFree (n : Nat) (x1 : Int32) (t : St) : Option (Int32 × St) :=
 if x1 = (254 : Int32) then
  m_Parser_isFree_21 n  t
 else
  if x1 < (224 : Int32) then
   m_Parser_isFree_25 n  t
  else
   if (239 : Int32) < x1 then
    m_Parser_isFree_25 n  t
   else
    m_Parser_isFree_21 n  t
def m_Parser_canStand_32 (n : Nat)   (t : St) : Option (Int32 × St) :=
 some ((0 : Int32), t)
def m_Parser_canStand_14 (n : Nat)  (x1 : Int32) (t : St) : Option (Int32 × St) :=
 if (t.1 12) = 0 then
  m_Parser_canStand_32 n  t
 else
  if x1 = (220 : Int32) then
   some ((1 : Int32), t)
  else
   m_Parser_canStand_32 n  t
def m_Parser_canStand_158 (n : Nat)   (t : St) : Option (Int32 × St) :=
 some ((0 : Int32), t)
def m_Parser_canStand (n : Nat) (x1 : Int32) (t : St) : Option (Int32 × St) :=
 if (t.1 12) = 0 then
  if x1 = (220 : Int32) then
   m_Parser_canStand_14 n  x1 t
  else
   if x1 = (192 : Int32) then
    if (t.1 1) = (-1 : Int32) then
     some ((1 : Int32), t)
    else
     some ((0 : Int32), t)
   else
   if x1 = (194 : Int32) then
    if (t.1 1) = (-1 : Int32) then
     some ((1 : Int32), t)
    else
     some ((0 : Int32), t)
   else
   if x1 = (196 : Int32) then
    some ((1 : Int32), t)
   else
   if x1 = (217 : Int32) then
    if (t.1 1) = (-1 : Int32) then
     m_Parser_canStand_158 n  t
    else
     (m_Parser_allBegun n t).bind (fun z148 =>
      if z148.1 = 0 then
       m_Parser_canStand_158 n  z148.2
      else
       some ((1 : Int32), z148.2))
   else
   if x1 = (218 : Int32) then
    if (t.1 1) = (-1 : Int32) then
     some ((0 : Int32), t)
    else
     some ((1 : Int32), t)
   else
   if x1 = (219 : Int32) then
    some ((1 : Int32), t)
   else
   if x1 = (221 : Int32) then
    some ((1 : Int32), t)
   else
   (m_Parser_isFree n x1 t).bind (fun z162 =>
    if ¬ (z162.1 = 0 ∨ z162.1 = 1) then none else
    some (z162.1, z162.2))
 else
  m_Parser_canStand_14 n  x1 t
def m_Parser_takeMarker_34b (n : Nat)  (K34 : St → Option (Int32 × St))  (t : St) : Option (Int32 × St) :=
 if (t.1 0) ≤ (t.1 9) then
  (m_Parser_fail n (1 : Int32) (t.1 0) t).bind (fun z119 =>
   some (z119.1, z119.2))
 else
  (m_Bytes_at n (t.1 9) t).bind (fun z56 =>
   if z56.1 = (255 : Int32) then
    K34 (sG z56.2 9 ((z56.2.1 9) + (1 : Int32)))
   else
    (m_Parser_canStand n z56.1 z56.2).bind (fun z69 =>
     if z69.1 = 0 then
      (m_Parser_fail n (4 : Int32) (z69.2.1 9) z69.2).bind (fun z81 =>
       some (z81.1, z81.2))
     else
      some (z56.1, (sG z69.2 9 ((z69.2.1 9) + (1 : Int32))))))
def m_Parser_takeMarker_34 (n : Nat)  : Nat → St → Option (Int32 × St)
  | 0 => fun _ => none
  | k + 1 => m_Parser_takeMarker_34b n  (m_Parser_takeMarker_34 n  k)
def m_Parser_takeMarker (n : Nat)  (t : St) : Option (Int32 × St) :=
 (m_Bytes_at n (t.1 9) t).bind (fun z8 =>
  if z8.1 = (-1 : Int32) then
   m_Parser_takeMarker_34 n  n z8.2
  else
   if z8.1 = (255 : Int32) then
    m_Parser_takeMarker_34 n  n z8.2
   else
    (m_Parser_fail n (3 : Int32) (z8.2.1 9) z8.2).bind (fun z30 =>
     some (z30.1, z30.2)))
def m_Parser_take_70 (n : Nat)   (t : St) : Option (Int32 × St) :=
 (m_Parser_fail n (6 : Int32) (t.1 9) t).bind (fun z77 =>
  some (z77.1, z77.2))
def m_Parser_take (n : Nat) (x1 : Int32) (x2 : Int32) (t : St) : Option (Int32 × St) :=
 if (t.1 13) = 0 then
  if (t.1 9) < (t.1 11) then
   (m_Bytes_at n (t.1 9) t).bind (fun z38 =>
    if z38.1 = (-1 : Int32) then
     (m_Parser_fail n (1 : Int32) (z38.2.1 0) z38.2).bind (fun z56 =>
      some (z56.1, z56.2))
    else
     if z38.1 < x1 then
      m_Parser_take_70 n  z38.2
     else
      if z38.1 ≤ x2 then
       some (z38.1, (sG z38.2 9 ((z38.2.1 9) + (1 : Int32))))
      else
       m_Parser_take_70 n  z38.2)
  else
   (m_Parser_fail n (5 : Int32) (t.1 10) t).bind (fun z26 =>
    some (z26.1, z26.2))
 else
  some ((-1 : Int32), t)
def m_Parser_refuseTaken (n : Nat)  (t : St) : Option (St) :=
 (m_Parser_fail n (6 : Int32) ((t.1 9) - (1 : Int32)) t).bind (fun z9 =>
  some z9.2)
def m_Parser_takePair_45 (n : Nat)  (x5 : Int32) (t : St) : Option (Int32 × St) :=
 if (t.1 13) = 0 then
  some (x5, t)
 else
  some ((-1 : Int32), t)
def m_Parser_takePair_41 (n : Nat)  (x5 : Int32) (t : St) : Option (Int32 × St) :=
 (m_Parser_refuseTaken n t).bind (fun z42 =>
  m_Parser_takePair_45 n  x5 z42)
def m_Parser_takePair (n : Nat) (x1 : Int32) (x2 : Int32) (t : St) : Option (Int32 × St) :=
 (m_Parser_take n (0 : Int32) (255 : Int32) t).bind (fun z5 =>
  (m_Parser_take n (0 : Int32) (255 : Int32) z5.2).bind (fun z14 =>
   if (((256 : Int32) * z5.1) + z14.1) < x1 then
    m_Parser_takePair_41 n  (((256 : Int32) * z5.1) + z14.1) z14.2
   else
    if (((256 : Int32) * z5.1) + z14.1) ≤ x2 then
     m_Parser_takePair_45 n  (((256 : Int32) * z5.1) + z14.1) z14.2
    else
     m_Parser_takePair_41 n  (((256 : Int32) * z5.1) + z14.1) z14.2))
def m_Parser_takeLength_41 (n : Nat)  (x1 : Int32) (t : St) : Option (St) :=
 some (sG t 11 ((t.1 10) + x1))
def m_Parser_takeLength (n : Nat)  (t : St) : Option (St) :=
 (m_Parser_takePair n (0 : Int32) (65535 : Int32) (sG (sG t 10 (t.1 9)) 11 ((t.1 9) + (2 : Int32)))).bind (fun z22 =>
  if (2 : Int32) ≤ z22.1 then
   m_Parser_takeLength_41 n  z22.1 z22.2
  else
   (m_Parser_fail n (5 : Int32) (z22.2.1 10) z22.2).bind (fun z37 =>
    m_Parser_takeLength_41 n  z22.1 z37.2))
def m_Picture_setQuantisers (n : Nat) (x1 : Int32) (x2 : Int32) (t : St) : Option (St) :=
 if x1 < 0 then
  some t
 else
  if (Int32.ofNat 4) ≤ x1 then
   some t
  else
   if (x1) < 0 ∨ 4 ≤ (x1).toNatClampNeg then none else
   some (sH t 4 (x1).toNatClampNeg x2)
def m_Parser_moreContents_22 (n : Nat)   (t : St) : Option (Int32 × St) :=
 some ((0 : Int32), t)
def m_Parser_moreContents (n : Nat)  (t : St) : Option (Int32 × St) :=
 if (t.1 13) = 0 then
  if (t.1 11) ≤ (t.1 9) then
   m_Parser_moreContents_22 n  t
  else
   some ((1 : Int32), t)
 else
  m_Parser_moreContents_22 n  t
def m_Parser_readQuantisers_31b (n : Nat) (K4 : Int32 → Int32 → St → Option (St)) (K31 : Int32 → Int32 → Int32 → Int32 → St → Option (St)) (x2 : Int32) (x3 : Int32) (x4 : Int32) (x5 : Int32) (t : St) : Option (St) :=
 if (64 : Int32) ≤ x5 then
  (m_Picture_setQuantisers n x3 x4 t).bind (fun z60 =>
   (m_Parser_moreContents n z60).bind (fun z64 =>
    K4 z64.1 (x2 + 1) z64.2))
 else
  (m_Parser_take n (1 : Int32) (255 : Int32) t).bind (fun z43 =>
   K31 x2 x3 x4 (x5 + 1) z43.2)
def m_Parser_readQuantisers_31 (n : Nat) (K4 : Int32 → Int32 → St → Option (St)) : Nat → Int32 → Int32 → Int32 → Int32 → St → Option (St)
  | 0 => fun _ _ _ _ _ => none
  | k + 1 => m_Parser_readQuantisers_31b n K4 (m_Parser_readQuantisers_31 n K4 k)
def m_Parser_readQuantisers_4b (n : Nat)  (K4 : Int32 → Int32 → St → Option (St)) (x1 : Int32) (x2 : Int32) (t : St) : Option (St) :=
 if (16384 : Int32) ≤ x2 then
  some t
 else
  if x1 = 0 then
   some t
  else
   (m_Parser_take n (0 : Int32) (3 : Int32) t).bind (fun z18 =>
    m_Parser_readQuantisers_31 n K4 n x2 z18.1 (z18.2.1 9) (0 : Int32) z18.2)
def m_Parser_readQuantisers_4 (n : Nat)  : Nat → Int32 → Int32 → St → Option (St)
  | 0 => fun _ _ _ => none
  | k + 1 => m_Parser_readQuantisers_4b n  (m_Parser_readQuantisers_4 n  k)
def m_Parser_readQuantisers (n : Nat)  (t : St) : Option (St) :=
 m_Parser_readQuantisers_4 n  n (1 : Int32) (0 : Int32) t
def m_Parser_takeCounts_52 (n : Nat) (K6 : Int32 → Int32 → Int32 → St → Option (Int32 × St)) (x1 : Int32) (x2 : Int32) (x3 : Int32) (t : St) : Option (Int32 × St) :=
 K6 x1 x2 (x3 + 1) t
def m_Parser_takeCounts_48 (n : Nat) (K6 : Int32 → Int32 → Int32 → St → Option (Int32 × St)) (x1 : Int32) (x2 : Int32) (x3 : Int32) (t : St) : Option (Int32 × St) :=
 (m_Parser_refuseTaken n t).bind (fun z49 =>
  m_Parser_takeCounts_52 n K6 x1 x2 x3 z49)
def m_Parser_takeCounts_6b (n : Nat)  (K6 : Int32 → Int32 → Int32 → St → Option (Int32 × St)) (x1 : Int32) (x2 : Int32) (x3 : Int32) (t : St) : Option (Int32 × St) :=
 if (16 : Int32) < x3 then
  if x1 = 0 then
   (m_Parser_refuseTaken n t).bind (fun z63 =>
    some (x1, z63))
  else
   some (x1, t)
 else
  (m_Parser_take n (0 : Int32) (255 : Int32) t).bind (fun z17 =>
   if (256 : Int32) < (x1 + z17.1) then
    m_Parser_takeCounts_48 n K6 (x1 + z17.1) (((2 : Int32) * x2) + z17.1) x3 z17.2
   else
    if (((2 : Int32) * x2) + z17.1) < ((1 : Int32) <<< (x3 &&& 31)) then
     m_Parser_takeCounts_52 n K6 (x1 + z17.1) (((2 : Int32) * x2) + z17.1) x3 z17.2
    else
     m_Parser_takeCounts_48 n K6 (x1 + z17.1) (((2 : Int32) * x2) + z17.1) x3 z17.2)
def m_Parser_takeCounts_6 (n : Nat)  : Nat → Int32 → Int32 → Int32 → St → Option (Int32 × St)
  | 0 => fun _ _ _ _ => none
  | k + 1 => m_Parser_takeCounts_6b n  (m_Parser_takeCounts_6 n  k)
def m_Parser_takeCounts (n : Nat)  (t : St) : Option (Int32 × St) :=
 m_Parser_takeCounts_6 n  n (0 : Int32) (0 : Int32) (1 : Int32) t
def m_Arrays_fillJ_15_6b (n : Nat)  (K6 : Int64 → Int32 → Int32 → St → Option (St)) (x1 : Int64) (x3 : Int32) (x4 : Int32) (t : St) : Option (St) :=
 if x4 ≤ x3 then
  some t
 else
  if (x3) < 0 ∨ 4 ≤ (x3).toNatClampNeg then none else
  K6 x1 (x3 + 1) x4 (sL t 0 (x3).toNatClampNeg x1)
def m_Arrays_fillJ_15_6 (n : Nat)  : Nat → Int64 → Int32 → Int32 → St → Option (St)
  | 0 => fun _ _ _ _ => none
  | k + 1 => m_Arrays_fillJ_15_6b n  (m_Arrays_fillJ_15_6 n  k)
def m_Arrays_fillJ_15 (n : Nat) (x1 : Int64) (t : St) : Option (St) :=
 m_Arrays_fillJ_15_6 n  n x1 (0 : Int32) (Int32.ofNat 4) t
def m_Parser_takeSymbols_74 (n : Nat) (K10 : Int32 → Int32 → Int32 → St → Option (St)) (x1 : Int32) (x2 : Int32) (x3 : Int32) (x5 : Int32) (x6 : Int64) (t : St) : Option (St) :=
 if (x5) < 0 ∨ 4 ≤ (x5).toNatClampNeg then none else
 if (x5) < 0 ∨ 4 ≤ (x5).toNatClampNeg then none else
 K10 x1 x2 (x3 + 1) (sL t 0 (x5).toNatClampNeg (((t.2.2.1 0) (x5).toNatClampNeg) ||| x6))
def m_Parser_takeSymbols_10b (n : Nat)  (K10 : Int32 → Int32 → Int32 → St → Option (St)) (x1 : Int32) (x2 : Int32) (x3 : Int32) (t : St) : Option (St) :=
 if x1 ≤ x3 then
  some t
 else
  if (t.1 13) = 0 then
   (m_Parser_take n (0 : Int32) x2 t).bind (fun z25 =>
    if z25.1 = (-1 : Int32) then
     some z25.2
    else
     if (((z25.1 >>> ((6 : Int32) &&& 31)) &&& (3 : Int32))) < 0 ∨ 4 ≤ (((z25.1 >>> ((6 : Int32) &&& 31)) &&& (3 : Int32))).toNatClampNeg then none else
     if (lg_cmp (((z25.2.2.2.1 0) (((z25.1 >>> ((6 : Int32) &&& 31)) &&& (3 : Int32))).toNatClampNeg) &&& ((1 : Int64) <<< (((z25.1 &&& (63 : Int32))).toInt64 &&& 63))) (0 : Int64)) = 0 then
      m_Parser_takeSymbols_74 n K10 x1 x2 x3 ((z25.1 >>> ((6 : Int32) &&& 31)) &&& (3 : Int32)) ((1 : Int64) <<< (((z25.1 &&& (63 : Int32))).toInt64 &&& 63)) z25.2
     else
      (m_Parser_refuseTaken n z25.2).bind (fun z71 =>
       m_Parser_takeSymbols_74 n K10 x1 x2 x3 ((z25.1 >>> ((6 : Int32) &&& 31)) &&& (3 : Int32)) ((1 : Int64) <<< (((z25.1 &&& (63 : Int32))).toInt64 &&& 63)) z71))
  else
   some t
def m_Parser_takeSymbols_10 (n : Nat)  : Nat → Int32 → Int32 → Int32 → St → Option (St)
  | 0 => fun _ _ _ _ => none
  | k + 1 => m_Parser_takeSymbols_10b n  (m_Parser_takeSymbols_10 n  k)
def m_Parser_takeSymbols (n : Nat) (x1 : Int32) (x2 : Int32) (t : St) : Option (St) :=
 (m_Arrays_fillJ_15 n (0 : Int64) t).bind (fun z5 =>
  m_Parser_takeSymbols_10 n  n x1 x2 (0 : Int32) z5)
def m_Picture_rowOfWords_30 (n : Nat)   (t : St) : Option (Int32 × St) :=
 some ((-1 : Int32), t)
def m_Picture_rowOfWords_11 (n : Nat)  (x1 : Int32) (t : St) : Option (Int32 × St) :=
 if x1 < (16 : Int32) then
  m_Picture_rowOfWords_30 n  t
 else
  if (19 : Int32) < x1 then
   m_Picture_rowOfWords_30 n  t
  else
   some ((x1 - (12 : Int32)), t)
def m_Picture_rowOfWords (n : Nat) (x1 : Int32) (t : St) : Option (Int32 × St) :=
 if x1 < 0 then
  m_Picture_rowOfWords_11 n  x1 t
 else
  if (3 : Int32) < x1 then
   m_Picture_rowOfWords_11 n  x1 t
  else
   some (x1, t)
def m_Picture_setWords (n : Nat) (x1 : Int32) (x2 : Int32) (t : St) : Option (St) :=
 (m_Picture_rowOfWords n x1 t).bind (fun z2 =>
  if z2.1 < 0 then
   some z2.2
  else
   if (Int32.ofNat 8) ≤ z2.1 then
    some z2.2
   else
    if (z2.1) < 0 ∨ 8 ≤ (z2.1).toNatClampNeg then none else
    some (sH z2.2 5 (z2.1).toNatClampNeg x2))
def m_Parser_readWords_67 (n : Nat) (K4 : Int32 → Int32 → St → Option (St)) (x2 : Int32) (x3 : Int32) (x4 : Int32) (y1 : Int32) (y2 : Int32) (t : St) : Option (St) :=
 (m_Parser_takeSymbols n y1 y2 t).bind (fun z67 =>
  (m_Picture_setWords n x3 x4 z67).bind (fun z77 =>
   (m_Parser_moreContents n z77).bind (fun z81 =>
    K4 z81.1 (x2 + 1) z81.2)))
def m_Parser_readWords_38 (n : Nat) (K4 : Int32 → Int32 → St → Option (St)) (x2 : Int32) (x3 : Int32) (t : St) : Option (St) :=
 (m_Parser_takeCounts n t).bind (fun z45 =>
  if (16 : Int32) ≤ x3 then
   m_Parser_readWords_67 n K4 x2 x3 (t.1 9) z45.1 (255 : Int32) z45.2
  else
   m_Parser_readWords_67 n K4 x2 x3 (t.1 9) z45.1 (11 : Int32) z45.2)
def m_Parser_readWords_4b (n : Nat)  (K4 : Int32 → Int32 → St → Option (St)) (x1 : Int32) (x2 : Int32) (t : St) : Option (St) :=
 if (16384 : Int32) ≤ x2 then
  some t
 else
  if x1 = 0 then
   some t
  else
   (m_Parser_take n (0 : Int32) (19 : Int32) t).bind (fun z19 =>
    if z19.1 ≤ (3 : Int32) then
     m_Parser_readWords_38 n K4 x2 z19.1 z19.2
    else
     if (16 : Int32) ≤ z19.1 then
      m_Parser_readWords_38 n K4 x2 z19.1 z19.2
     else
      (m_Parser_refuseTaken n z19.2).bind (fun z35 =>
       m_Parser_readWords_38 n K4 x2 z19.1 z35))
def m_Parser_readWords_4 (n : Nat)  : Nat → Int32 → Int32 → St → Option (St)
  | 0 => fun _ _ _ => none
  | k + 1 => m_Parser_readWords_4b n  (m_Parser_readWords_4 n  k)
def m_Parser_readWords (n : Nat)  (t : St) : Option (St) :=
 m_Parser_readWords_4 n  n (1 : Int32) (0 : Int32) t
def m_Picture_ofComponent (n : Nat) (x1 : Int32) (x2 : Int32) (t : St) : Option (Int32 × St) :=
 if x1 < 0 then
  some ((-1 : Int32), t)
 else
  if (t.1 4) ≤ x1 then
   some ((-1 : Int32), t)
  else
   if x2 < 0 then
    some ((-1 : Int32), t)
   else
    if x2 < (4 : Int32) then
     if (((x1 * (4 : Int32)) + x2)) < 0 ∨ 16 ≤ (((x1 * (4 : Int32)) + x2)).toNatClampNeg then none else
     some (((t.2.1 3) (((x1 * (4 : Int32)) + x2)).toNatClampNeg), t)
    else
     some ((-1 : Int32), t)
def m_Picture_placeOfName_2b (n : Nat)  (K2 : Int32 → Int32 → St → Option (Int32 × St)) (x1 : Int32) (x2 : Int32) (t : St) : Option (Int32 × St) :=
 if (t.1 4) ≤ x2 then
  some ((-1 : Int32), t)
 else
  (m_Picture_ofComponent n x2 (0 : Int32) t).bind (fun z13 =>
   if z13.1 = x1 then
    some (x2, z13.2)
   else
    K2 x1 (x2 + 1) z13.2)
def m_Picture_placeOfName_2 (n : Nat)  : Nat → Int32 → Int32 → St → Option (Int32 × St)
  | 0 => fun _ _ _ => none
  | k + 1 => m_Picture_placeOfName_2b n  (m_Picture_placeOfName_2 n  k)
def m_Picture_placeOfName (n : Nat) (x1 : Int32) (t : St) : Option (Int32 × St) :=
 m_Picture_placeOfName_2 n  n x1 (0 : Int32) t
def m_Picture_addComponent (n : Nat) (x1 : Int32) (x2 : Int32) (x3 : Int32) (x4 : Int32) (t : St) : Option (St) :=
 if (t.1 4) < (4 : Int32) then
  if (((t.1 4) * (4 : Int32))) < 0 ∨ 16 ≤ (((t.1 4) * (4 : Int32))).toNatClampNeg then none else
  (some (sH t 3 (((t.1 4) * (4 : Int32))).toNatClampNeg x1)).bind (fun w34 =>
   if ((((t.1 4) * (4 : Int32)) + (1 : Int32))) < 0 ∨ 16 ≤ ((((t.1 4) * (4 : Int32)) + (1 : Int32))).toNatClampNeg then none else
   (some (sH w34 3 ((((t.1 4) * (4 : Int32)) + (1 : Int32))).toNatClampNeg x2)).bind (fun w44 =>
    if ((((t.1 4) * (4 : Int32)) + (2 : Int32))) < 0 ∨ 16 ≤ ((((t.1 4) * (4 : Int32)) + (2 : Int32))).toNatClampNeg then none else
    (some (sH w44 3 ((((t.1 4) * (4 : Int32)) + (2 : Int32))).toNatClampNeg x3)).bind (fun w55 =>
     if ((((t.1 4) * (4 : Int32)) + (3 : Int32))) < 0 ∨ 16 ≤ ((((t.1 4) * (4 : Int32)) + (3 : Int32))).toNatClampNeg then none else
     some (sG (sH w55 3 ((((t.1 4) * (4 : Int32)) + (3 : Int32))).toNatClampNeg x4) 4 ((w55.1 4) + (1 : Int32))))))
 else
  some t
def m_Parser_readComponent_70 (n : Nat)  (x1 : Int32) (x3 : Int32) (x4 : Int32) (t : St) : Option (St) :=
 (m_Parser_take n (0 : Int32) (3 : Int32) t).bind (fun z81 =>
  (m_Picture_addComponent n x1 x3 x4 z81.1 z81.2).bind (fun z84 =>
   some z84))
def m_Parser_readComponent_66 (n : Nat)  (x1 : Int32) (x3 : Int32) (x4 : Int32) (t : St) : Option (St) :=
 (m_Parser_refuseTaken n t).bind (fun z67 =>
  m_Parser_readComponent_70 n  x1 x3 x4 z67)
def m_Parser_readComponent_25 (n : Nat)  (x1 : Int32) (t : St) : Option (St) :=
 (m_Parser_take n (0 : Int32) (255 : Int32) t).bind (fun z30 =>
  if (z30.1 >>> ((4 : Int32) &&& 31)) < (1 : Int32) then
   m_Parser_readComponent_66 n  x1 (z30.1 >>> ((4 : Int32) &&& 31)) (z30.1 &&& (15 : Int32)) z30.2
  else
   if (2 : Int32) < (z30.1 >>> ((4 : Int32) &&& 31)) then
    m_Parser_readComponent_66 n  x1 (z30.1 >>> ((4 : Int32) &&& 31)) (z30.1 &&& (15 : Int32)) z30.2
   else
    if (z30.1 &&& (15 : Int32)) < (1 : Int32) then
     m_Parser_readComponent_66 n  x1 (z30.1 >>> ((4 : Int32) &&& 31)) (z30.1 &&& (15 : Int32)) z30.2
    else
     if (z30.1 &&& (15 : Int32)) ≤ (2 : Int32) then
      m_Parser_readComponent_70 n  x1 (z30.1 >>> ((4 : Int32) &&& 31)) (z30.1 &&& (15 : Int32)) z30.2
     else
      m_Parser_readComponent_66 n  x1 (z30.1 >>> ((4 : Int32) &&& 31)) (z30.1 &&& (15 : Int32)) z30.2)
def m_Parser_readComponent (n : Nat)  (t : St) : Option (St) :=
 (m_Parser_take n (0 : Int32) (255 : Int32) t).bind (fun z5 =>
  (m_Picture_placeOfName n z5.1 z5.2).bind (fun z14 =>
   if z14.1 = (-1 : Int32) then
    m_Parser_readComponent_25 n  z5.1 z14.2
   else
    (m_Parser_refuseTaken n z14.2).bind (fun z22 =>
     m_Parser_readComponent_25 n  z5.1 z22)))
def m_Parser_readFrame_46b (n : Nat)  (K46 : Int32 → Int32 → Int32 → St → Option (St)) (x1 : Int32) (x2 : Int32) (x3 : Int32) (t : St) : Option (St) :=
 if x2 ≤ x3 then
  some (sG t 1 x1)
 else
  (m_Parser_readComponent n t).bind (fun z52 =>
   K46 x1 x2 (x3 + 1) z52)
def m_Parser_readFrame_46 (n : Nat)  : Nat → Int32 → Int32 → Int32 → St → Option (St)
  | 0 => fun _ _ _ _ => none
  | k + 1 => m_Parser_readFrame_46b n  (m_Parser_readFrame_46 n  k)
def m_Parser_readFrame (n : Nat) (x1 : Int32) (t : St) : Option (St) :=
 (m_Parser_take n (8 : Int32) (8 : Int32) t).bind (fun z5 =>
  (m_Parser_takePair n (0 : Int32) (64 : Int32) z5.2).bind (fun z17 =>
   (m_Parser_takePair n (1 : Int32) (64 : Int32) (sG z17.2 3 z17.1)).bind (fun z31 =>
    (m_Parser_take n (1 : Int32) (4 : Int32) (sG z31.2 2 z31.1)).bind (fun z40 =>
     m_Parser_readFrame_46 n  n x1 z40.1 (0 : Int32) z40.2))))
def m_Parser_takeScanComponents_128 (n : Nat) (K6 : Int32 → Int32 → Int32 → St → Option (St)) (x1 : Int32) (x2 : Int32) (x3 : Int32) (t : St) : Option (St) :=
 K6 x1 x2 (x3 + 1) t
def m_Parser_takeScanComponents_92 (n : Nat) (K6 : Int32 → Int32 → Int32 → St → Option (St)) (x2 : Int32) (x3 : Int32) (x4 : Int32) (t : St) : Option (St) :=
 if (x3) < 0 ∨ 4 ≤ (x3).toNatClampNeg then none else
 (m_Parser_take n (0 : Int32) (51 : Int32) (sH t 6 (x3).toNatClampNeg x4)).bind (fun z110 =>
  if (z110.1 &&& (15 : Int32)) ≤ (3 : Int32) then
   m_Parser_takeScanComponents_128 n K6 x4 x2 x3 z110.2
  else
   (m_Parser_refuseTaken n z110.2).bind (fun z125 =>
    m_Parser_takeScanComponents_128 n K6 x4 x2 x3 z125))
def m_Parser_takeScanComponents_58 (n : Nat) (K6 : Int32 → Int32 → Int32 → St → Option (St)) (x2 : Int32) (x3 : Int32) (x4 : Int32) (t : St) : Option (St) :=
 (m_Picture_ofComponent n x4 (1 : Int32) t).bind (fun z66 =>
  (m_Picture_ofComponent n x4 (2 : Int32) z66.2).bind (fun z76 =>
   if (x2 + (z66.1 * z76.1)) ≤ (10 : Int32) then
    m_Parser_takeScanComponents_92 n K6 (x2 + (z66.1 * z76.1)) x3 x4 z76.2
   else
    (m_Parser_refuseTaken n z76.2).bind (fun z89 =>
     m_Parser_takeScanComponents_92 n K6 (x2 + (z66.1 * z76.1)) x3 x4 z89)))
def m_Parser_takeScanComponents_6b (n : Nat)  (K6 : Int32 → Int32 → Int32 → St → Option (St)) (x1 : Int32) (x2 : Int32) (x3 : Int32) (t : St) : Option (St) :=
 if (t.1 16) ≤ x3 then
  some t
 else
  if (4 : Int32) ≤ x3 then
   some t
  else
   (m_Parser_take n (0 : Int32) (255 : Int32) t).bind (fun z31 =>
    (m_Picture_placeOfName n z31.1 z31.2).bind (fun z34 =>
     if x1 < z34.1 then
      m_Parser_takeScanComponents_58 n K6 x2 x3 z34.1 z34.2
     else
      (m_Parser_fail n (7 : Int32) ((z34.2.1 9) - (1 : Int32)) z34.2).bind (fun z54 =>
       m_Parser_takeScanComponents_58 n K6 x2 x3 z34.1 z54.2)))
def m_Parser_takeScanComponents_6 (n : Nat)  : Nat → Int32 → Int32 → Int32 → St → Option (St)
  | 0 => fun _ _ _ _ => none
  | k + 1 => m_Parser_takeScanComponents_6b n  (m_Parser_takeScanComponents_6 n  k)
def m_Parser_takeScanComponents (n : Nat)  (t : St) : Option (St) :=
 m_Parser_takeScanComponents_6 n  n (-1 : Int32) (0 : Int32) (0 : Int32) t
def m_Parser_takeBits_69 (n : Nat)   (t : St) : Option (St) :=
 (m_Parser_refuseTaken n t).bind (fun z70 =>
  some z70)
def m_Parser_takeBits (n : Nat) (x1 : Int32) (t : St) : Option (St) :=
 (m_Parser_take n (0 : Int32) x1 t).bind (fun z3 =>
  if (13 : Int32) < (z3.1 &&& (15 : Int32)) then
   m_Parser_takeBits_69 n  (sG (sG z3.2 19 (z3.1 >>> ((4 : Int32) &&& 31))) 20 (z3.1 &&& (15 : Int32)))
  else
   if (z3.1 >>> ((4 : Int32) &&& 31)) = 0 then
    some (sG (sG z3.2 19 (z3.1 >>> ((4 : Int32) &&& 31))) 20 (z3.1 &&& (15 : Int32)))
   else
    if (z3.1 >>> ((4 : Int32) &&& 31)) = ((z3.1 &&& (15 : Int32)) + (1 : Int32)) then
     some (sG (sG z3.2 19 (z3.1 >>> ((4 : Int32) &&& 31))) 20 (z3.1 &&& (15 : Int32)))
    else
     m_Parser_takeBits_69 n  (sG (sG z3.2 19 (z3.1 >>> ((4 : Int32) &&& 31))) 20 (z3.1 &&& (15 : Int32))))
def m_Scan_placeAt_22 (n : Nat)   (t : St) : Option (Int32 × St) :=
 some ((-1 : Int32), t)
def m_Scan_placeAt (n : Nat) (x1 : Int32) (t : St) : Option (Int32 × St) :=
 if x1 < 0 then
  m_Scan_placeAt_22 n  t
 else
  if (Int32.ofNat 4) ≤ x1 then
   m_Scan_placeAt_22 n  t
  else
   if (x1) < 0 ∨ 4 ≤ (x1).toNatClampNeg then none else
   some (((t.2.1 6) (x1).toNatClampNeg), t)
def m_Scan_nameAt (n : Nat) (x1 : Int32) (t : St) : Option (Int32 × St) :=
 some ((((t.1 15) + (1 : Int32)) + ((2 : Int32) * x1)), t)
def m_Parser_checkSent_163 (n : Nat) (K2 : Int32 → St → Option (St)) (K135 : Int32 → Int32 → Int32 → Int32 → St → Option (St)) (x1 : Int32) (x2 : Int32) (x5 : Int32) (x6 : Int32) (t : St) : Option (St) :=
 K135 x1 x2 x5 (x6 + 1) t
def m_Parser_checkSent_135b (n : Nat) (K2 : Int32 → St → Option (St)) (K135 : Int32 → Int32 → Int32 → Int32 → St → Option (St)) (x1 : Int32) (x2 : Int32) (x5 : Int32) (x6 : Int32) (t : St) : Option (St) :=
 if (t.1 18) < x6 then
  K2 (x1 + 1) t
 else
  (m_Parser_latestOf n x2 x6 t).bind (fun z151 =>
   if z151.1 = x5 then
    m_Parser_checkSent_163 n K2 K135 x1 x2 x5 x6 z151.2
   else
    (m_Parser_refuseTaken n z151.2).bind (fun z160 =>
     m_Parser_checkSent_163 n K2 K135 x1 x2 x5 x6 z160))
def m_Parser_checkSent_135 (n : Nat) (K2 : Int32 → St → Option (St)) : Nat → Int32 → Int32 → Int32 → Int32 → St → Option (St)
  | 0 => fun _ _ _ _ _ => none
  | k + 1 => m_Parser_checkSent_135b n K2 (m_Parser_checkSent_135 n K2 k)
def m_Parser_checkSent_124 (n : Nat) (K2 : Int32 → St → Option (St)) (x1 : Int32) (x2 : Int32) (y0 : Int32) (t : St) : Option (St) :=
 m_Parser_checkSent_135 n K2 n x1 x2 y0 (t.1 17) t
def m_Parser_checkSent_103 (n : Nat) (K2 : Int32 → St → Option (St)) (x1 : Int32) (x2 : Int32) (t : St) : Option (St) :=
 if (t.1 19) = 0 then
  m_Parser_checkSent_124 n K2 x1 x2 (-1 : Int32) t
 else
  m_Parser_checkSent_124 n K2 x1 x2 (t.1 19) t
def m_Parser_checkSent_88 (n : Nat) (K2 : Int32 → St → Option (St)) (x1 : Int32) (x2 : Int32) (t : St) : Option (St) :=
 (m_Scan_nameAt n x1 t).bind (fun z96 =>
  (m_Parser_fail n (7 : Int32) z96.1 z96.2).bind (fun z99 =>
   m_Parser_checkSent_103 n K2 x1 x2 z99.2))
def m_Parser_checkSent_67 (n : Nat) (K2 : Int32 → St → Option (St)) (x1 : Int32) (x2 : Int32) (x3 : Int32) (y0 : Int32) (t : St) : Option (St) :=
 if y0 = 0 then
  if (t.1 17) ≤ 0 then
   m_Parser_checkSent_103 n K2 x1 x2 t
  else
   if x3 = 0 then
    m_Parser_checkSent_88 n K2 x1 x2 t
   else
    m_Parser_checkSent_103 n K2 x1 x2 t
 else
  m_Parser_checkSent_88 n K2 x1 x2 t
def m_Parser_checkSent_66 (n : Nat) (K2 : Int32 → St → Option (St)) (x1 : Int32) (x2 : Int32) (x3 : Int32) (t : St) : Option (St) :=
 m_Parser_checkSent_67 n K2 x1 x2 x3 (0 : Int32) t
def m_Parser_checkSent_44 (n : Nat) (K2 : Int32 → St → Option (St)) (x1 : Int32) (x2 : Int32) (y0 : Int32) (t : St) : Option (St) :=
 if y0 = 0 then
  m_Parser_checkSent_66 n K2 x1 x2 y0 t
 else
  if (t.1 1) = (192 : Int32) then
   m_Parser_checkSent_67 n K2 x1 x2 y0 (1 : Int32) t
  else
   m_Parser_checkSent_66 n K2 x1 x2 y0 t
def m_Parser_checkSent_2b (n : Nat)  (K2 : Int32 → St → Option (St)) (x1 : Int32) (t : St) : Option (St) :=
 if (t.1 16) ≤ x1 then
  some t
 else
  if (t.1 13) = 0 then
   (m_Scan_placeAt n x1 t).bind (fun z25 =>
    (m_Parser_latestOf n z25.1 (0 : Int32) z25.2).bind (fun z32 =>
     if z32.1 = (-1 : Int32) then
      m_Parser_checkSent_44 n K2 x1 z25.1 (0 : Int32) z32.2
     else
      m_Parser_checkSent_44 n K2 x1 z25.1 (1 : Int32) z32.2))
  else
   some t
def m_Parser_checkSent_2 (n : Nat)  : Nat → Int32 → St → Option (St)
  | 0 => fun _ _ => none
  | k + 1 => m_Parser_checkSent_2b n  (m_Parser_checkSent_2 n  k)
def m_Parser_checkSent (n : Nat)  (t : St) : Option (St) :=
 m_Parser_checkSent_2 n  n (0 : Int32) t
def m_Picture_hasQuantisers_27 (n : Nat)   (t : St) : Option (Int32 × St) :=
 some ((0 : Int32), t)
def m_Picture_hasQuantisers (n : Nat) (x1 : Int32) (t : St) : Option (Int32 × St) :=
 if x1 < 0 then
  m_Picture_hasQuantisers_27 n  t
 else
  if (Int32.ofNat 4) ≤ x1 then
   m_Picture_hasQuantisers_27 n  t
  else
   if (x1) < 0 ∨ 4 ≤ (x1).toNatClampNeg then none else
   if ((t.2.1 4) (x1).toNatClampNeg) = (-1 : Int32) then
    m_Picture_hasQuantisers_27 n  t
   else
    some ((1 : Int32), t)
def m_Picture_placeOfWords_28 (n : Nat)   (t : St) : Option (Int32 × St) :=
 some ((-1 : Int32), t)
def m_Picture_placeOfWords (n : Nat) (x1 : Int32) (t : St) : Option (Int32 × St) :=
 (m_Picture_rowOfWords n x1 t).bind (fun z2 =>
  if z2.1 < 0 then
   m_Picture_placeOfWords_28 n  z2.2
  else
   if (Int32.ofNat 8) ≤ z2.1 then
    m_Picture_placeOfWords_28 n  z2.2
   else
    if (z2.1) < 0 ∨ 8 ≤ (z2.1).toNatClampNeg then none else
    some (((z2.2.2.1 5) (z2.1).toNatClampNeg), z2.2))
def m_Parser_checkTables_168 (n : Nat) (K2 : Int32 → St → Option (St)) (x1 : Int32) (t : St) : Option (St) :=
 K2 (x1 + 1) t
def m_Parser_checkTables_130 (n : Nat) (K2 : Int32 → St → Option (St)) (x1 : Int32) (x2 : Int32) (x3 : Int32) (t : St) : Option (St) :=
 if (t.1 18) ≤ 0 then
  m_Parser_checkTables_168 n K2 x1 t
 else
  (m_Picture_placeOfWords n ((16 : Int32) + (x3 &&& (15 : Int32))) t).bind (fun z151 =>
   if z151.1 = (-1 : Int32) then
    (m_Parser_fail n (8 : Int32) (x2 + (1 : Int32)) z151.2).bind (fun z164 =>
     m_Parser_checkTables_168 n K2 x1 z164.2)
   else
    m_Parser_checkTables_168 n K2 x1 z151.2)
def m_Parser_checkTables_99 (n : Nat) (K2 : Int32 → St → Option (St)) (x1 : Int32) (x2 : Int32) (x3 : Int32) (y0 : Int32) (t : St) : Option (St) :=
 if y0 = 0 then
  m_Parser_checkTables_130 n K2 x1 x2 x3 t
 else
  (m_Picture_placeOfWords n (x3 >>> ((4 : Int32) &&& 31)) t).bind (fun z113 =>
   if z113.1 = (-1 : Int32) then
    (m_Parser_fail n (8 : Int32) (x2 + (1 : Int32)) z113.2).bind (fun z126 =>
     m_Parser_checkTables_130 n K2 x1 x2 x3 z126.2)
   else
    m_Parser_checkTables_130 n K2 x1 x2 x3 z113.2)
def m_Parser_checkTables_98 (n : Nat) (K2 : Int32 → St → Option (St)) (x1 : Int32) (x2 : Int32) (x3 : Int32) (t : St) : Option (St) :=
 m_Parser_checkTables_99 n K2 x1 x2 x3 (0 : Int32) t
def m_Parser_checkTables_74 (n : Nat) (K2 : Int32 → St → Option (St)) (x1 : Int32) (x2 : Int32) (x3 : Int32) (t : St) : Option (St) :=
 if (t.1 17) = 0 then
  if (t.1 19) = 0 then
   m_Parser_checkTables_99 n K2 x1 x2 x3 (1 : Int32) t
  else
   m_Parser_checkTables_98 n K2 x1 x2 x3 t
 else
  m_Parser_checkTables_98 n K2 x1 x2 x3 t
def m_Parser_checkTables_2b (n : Nat)  (K2 : Int32 → St → Option (St)) (x1 : Int32) (t : St) : Option (St) :=
 if (t.1 16) ≤ x1 then
  some t
 else
  if (t.1 13) = 0 then
   (m_Scan_nameAt n x1 t).bind (fun z25 =>
    (m_Bytes_at n (z25.1 + (1 : Int32)) z25.2).bind (fun z36 =>
     (m_Scan_placeAt n x1 z36.2).bind (fun z53 =>
      (m_Picture_ofComponent n z53.1 (3 : Int32) z53.2).bind (fun z57 =>
       (m_Picture_hasQuantisers n z57.1 z57.2).bind (fun z60 =>
        if z60.1 = 0 then
         (m_Parser_fail n (8 : Int32) z25.1 z60.2).bind (fun z70 =>
          m_Parser_checkTables_74 n K2 x1 z25.1 z36.1 z70.2)
        else
         m_Parser_checkTables_74 n K2 x1 z25.1 z36.1 z60.2)))))
  else
   some t
def m_Parser_checkTables_2 (n : Nat)  : Nat → Int32 → St → Option (St)
  | 0 => fun _ _ => none
  | k + 1 => m_Parser_checkTables_2b n  (m_Parser_checkTables_2 n  k)
def m_Parser_checkTables (n : Nat)  (t : St) : Option (St) :=
 m_Parser_checkTables_2 n  n (0 : Int32) t
def m_Parser_noteSent_85 (n : Nat) (K2 : Int32 → St → Option (St)) (K40 : Int32 → Int32 → Int32 → St → Option (St)) (x1 : Int32) (x2 : Int32) (x3 : Int32) (t : St) : Option (St) :=
 K40 x1 x2 (x3 + 1) t
def m_Parser_noteSent_40b (n : Nat) (K2 : Int32 → St → Option (St)) (K40 : Int32 → Int32 → Int32 → St → Option (St)) (x1 : Int32) (x2 : Int32) (x3 : Int32) (t : St) : Option (St) :=
 if (t.1 18) < x3 then
  K2 (x1 + 1) t
 else
  if (x2 + x3) < 0 then
   m_Parser_noteSent_85 n K2 K40 x1 x2 x3 t
  else
   if (Int32.ofNat 256) ≤ (x2 + x3) then
    m_Parser_noteSent_85 n K2 K40 x1 x2 x3 t
   else
    if ((x2 + x3)) < 0 ∨ 256 ≤ ((x2 + x3)).toNatClampNeg then none else
    m_Parser_noteSent_85 n K2 K40 x1 x2 x3 (sH t 7 ((x2 + x3)).toNatClampNeg (t.1 20))
def m_Parser_noteSent_40 (n : Nat) (K2 : Int32 → St → Option (St)) : Nat → Int32 → Int32 → Int32 → St → Option (St)
  | 0 => fun _ _ _ _ => none
  | k + 1 => m_Parser_noteSent_40b n K2 (m_Parser_noteSent_40 n K2 k)
def m_Parser_noteSent_2b (n : Nat)  (K2 : Int32 → St → Option (St)) (x1 : Int32) (t : St) : Option (St) :=
 if (t.1 16) ≤ x1 then
  some t
 else
  if (t.1 13) = 0 then
   (m_Scan_placeAt n x1 t).bind (fun z25 =>
    m_Parser_noteSent_40 n K2 n x1 (z25.1 * (64 : Int32)) (z25.2.1 17) z25.2)
  else
   some t
def m_Parser_noteSent_2 (n : Nat)  : Nat → Int32 → St → Option (St)
  | 0 => fun _ _ => none
  | k + 1 => m_Parser_noteSent_2b n  (m_Parser_noteSent_2 n  k)
def m_Parser_noteSent (n : Nat)  (t : St) : Option (St) :=
 m_Parser_noteSent_2 n  n (0 : Int32) t
def m_Parser_readScan_147 (n : Nat)   (t : St) : Option (St) :=
 (m_Parser_checkSent n t).bind (fun z148 =>
  (m_Parser_checkTables n z148).bind (fun z152 =>
   (m_Parser_noteSent n z152).bind (fun z156 =>
    some z156)))
def m_Parser_readScan_134 (n : Nat)  (y2 : Int32) (y3 : Int32) (t : St) : Option (St) :=
 (m_Parser_take n y2 y3 t).bind (fun z134 =>
  (m_Parser_takeBits n (255 : Int32) (sG z134.2 18 z134.1)).bind (fun z144 =>
   m_Parser_readScan_147 n  z144))
def m_Parser_readScan_100 (n : Nat)  (y2 : Int32) (y3 : Int32) (t : St) : Option (St) :=
 (m_Parser_take n y2 y3 t).bind (fun z100 =>
  if z100.1 = 0 then
   m_Parser_readScan_134 n  z100.1 (0 : Int32) (sG z100.2 17 z100.1)
  else
   m_Parser_readScan_134 n  z100.1 (63 : Int32) (sG z100.2 17 z100.1))
def m_Parser_readScan (n : Nat)  (t : St) : Option (St) :=
 (m_Parser_take n (1 : Int32) (4 : Int32) (sG t 15 (t.1 9))).bind (fun z18 =>
  (m_Parser_takeScanComponents n (sG z18.2 16 z18.1)).bind (fun z25 =>
   if (z25.1 1) = (192 : Int32) then
    (m_Parser_take n (0 : Int32) (0 : Int32) z25).bind (fun z48 =>
     (m_Parser_take n (63 : Int32) (63 : Int32) (sG z48.2 17 z48.1)).bind (fun z63 =>
      (m_Parser_takeBits n (0 : Int32) (sG z63.2 18 z63.1)).bind (fun z71 =>
       m_Parser_readScan_147 n  z71)))
   else
    if (z25.1 16) = (1 : Int32) then
     m_Parser_readScan_100 n  (0 : Int32) (63 : Int32) z25
    else
     m_Parser_readScan_100 n  (0 : Int32) (0 : Int32) z25))
def m_Parser_skipContents_27 (n : Nat)   (t : St) : Option (St) :=
 some (sG t 9 (t.1 11))
def m_Parser_skipContents (n : Nat)  (t : St) : Option (St) :=
 if (t.1 11) ≤ (t.1 0) then
  m_Parser_skipContents_27 n  t
 else
  (m_Parser_fail n (1 : Int32) (t.1 0) t).bind (fun z23 =>
   m_Parser_skipContents_27 n  z23.2)
def m_Parser_readContents_140 (n : Nat)   (t : St) : Option (St) :=
 if (t.1 9) = (t.1 11) then
  some t
 else
  (m_Parser_fail n (5 : Int32) (t.1 10) t).bind (fun z157 =>
   some z157.2)
def m_Parser_readContents (n : Nat) (x1 : Int32) (t : St) : Option (St) :=
 if x1 = (192 : Int32) then
  (m_Parser_readFrame n x1 t).bind (fun z101 =>
   m_Parser_readContents_140 n  z101)
 else
 if x1 = (194 : Int32) then
  (m_Parser_readFrame n x1 t).bind (fun z101 =>
   m_Parser_readContents_140 n  z101)
 else
 if x1 = (196 : Int32) then
  (m_Parser_readWords n t).bind (fun z76 =>
   m_Parser_readContents_140 n  z76)
 else
 if x1 = (218 : Int32) then
  (m_Parser_readScan n t).bind (fun z108 =>
   m_Parser_readContents_140 n  z108)
 else
 if x1 = (219 : Int32) then
  (m_Parser_readQuantisers n t).bind (fun z69 =>
   m_Parser_readContents_140 n  z69)
 else
 if x1 = (220 : Int32) then
  (m_Parser_takePair n (1 : Int32) (64 : Int32) t).bind (fun z122 =>
   m_Parser_readContents_140 n  (sG (sG z122.2 3 z122.1) 12 (0 : Int32)))
 else
 if x1 = (221 : Int32) then
  (m_Parser_takePair n (0 : Int32) (65535 : Int32) t).bind (fun z90 =>
   m_Parser_readContents_140 n  (sG z90.2 5 z90.1))
 else
 (m_Parser_skipContents n t).bind (fun z137 =>
  m_Parser_readContents_140 n  z137)
def m_Picture_scanCount (n : Nat)  (t : St) : Option (Int32 × St) :=
 some (((t.1 8) / (5 : Int32)), t)
def m_Parser_finish (n : Nat)  (t : St) : Option (Int32 × St) :=
 if (t.1 13) = 0 then
  some ((t.1 13), t)
 else
  (m_Picture_clear n t).bind (fun z11 =>
   some ((z11.1 13), z11))
def m_Picture_segmentCount (n : Nat)  (t : St) : Option (Int32 × St) :=
 some (((t.1 7) / (2 : Int32)), t)
def m_Numbers_at_4_21 (n : Nat)   (t : St) : Option (Int32 × St) :=
 some ((-1 : Int32), t)
def m_Numbers_at_4 (n : Nat) (x1 : Int32) (t : St) : Option (Int32 × St) :=
 if x1 < 0 then
  m_Numbers_at_4_21 n  t
 else
  if (t.1 7) ≤ x1 then
   m_Numbers_at_4_21 n  t
  else
   if (x1) < 0 ∨ (t.2.2.2 1) ≤ (x1).toNatClampNeg then none else
   some (((t.2.1 1) (x1).toNatClampNeg), t)
def m_Numbers_at_6_21 (n : Nat)   (t : St) : Option (Int32 × St) :=
 some ((-1 : Int32), t)
def m_Numbers_at_6 (n : Nat) (x1 : Int32) (t : St) : Option (Int32 × St) :=
 if x1 < 0 then
  m_Numbers_at_6_21 n  t
 else
  if (t.1 8) ≤ x1 then
   m_Numbers_at_6_21 n  t
  else
   if (x1) < 0 ∨ (t.2.2.2 2) ≤ (x1).toNatClampNeg then none else
   some (((t.2.1 2) (x1).toNatClampNeg), t)
def m_Picture_ofSegment (n : Nat) (x1 : Int32) (x2 : Int32) (t : St) : Option (Int32 × St) :=
 if x1 < 0 then
  some ((-1 : Int32), t)
 else
  (m_Picture_segmentCount n t).bind (fun z6 =>
   if x1 < z6.1 then
    (m_Numbers_at_4 n ((x1 * (2 : Int32)) + (1 : Int32)) z6.2).bind (fun z23 =>
     if x2 = (0 : Int32) then
      (m_Bytes_at n (z23.1 - (3 : Int32)) z23.2).bind (fun z67 =>
       some (z67.1, z67.2))
     else
     if x2 = (1 : Int32) then
      (m_Numbers_at_4 n (x1 * (2 : Int32)) z23.2).bind (fun z78 =>
       some (z78.1, z78.2))
     else
     if x2 = (2 : Int32) then
      some (z23.1, z23.2)
     else
     if x2 = (3 : Int32) then
      (m_Bytes_at n (z23.1 - (2 : Int32)) z23.2).bind (fun z94 =>
       (m_Bytes_at n (z23.1 - (1 : Int32)) z94.2).bind (fun z105 =>
        some (((((256 : Int32) * z94.1) + z105.1) - (2 : Int32)), z105.2)))
     else
     some ((-1 : Int32), z23.2))
   else
    some ((-1 : Int32), z6.2))
def m_Reader_segment (n : Nat) (x1 : Int32) (x2 : Int32) (t : St) : Option (Int32 × St) :=
 (m_Picture_ofSegment n x1 x2 t).bind (fun z6 =>
  some (z6.1, z6.2))
def m_Picture_greatest_4b (n : Nat)  (K4 : Int32 → Int32 → Int32 → St → Option (Int32 × St)) (x1 : Int32) (x2 : Int32) (x3 : Int32) (t : St) : Option (Int32 × St) :=
 if (t.1 4) ≤ x3 then
  some (x2, t)
 else
  (m_Picture_ofComponent n x3 x1 t).bind (fun z16 =>
   K4 x1 (if x2 < z16.1 then z16.1 else x2) (x3 + 1) z16.2)
def m_Picture_greatest_4 (n : Nat)  : Nat → Int32 → Int32 → Int32 → St → Option (Int32 × St)
  | 0 => fun _ _ _ _ => none
  | k + 1 => m_Picture_greatest_4b n  (m_Picture_greatest_4 n  k)
def m_Picture_greatest (n : Nat) (x1 : Int32) (t : St) : Option (Int32 × St) :=
 m_Picture_greatest_4 n  n x1 (0 : Int32) (0 : Int32) t
def m_Picture_ofFrame (n : Nat) (x1 : Int32) (t : St) : Option (Int32 × St) :=
 if (t.1 1) = (-1 : Int32) then
  some ((-1 : Int32), t)
 else
  if x1 = (0 : Int32) then
   some ((t.1 1), t)
  else
  if x1 = (1 : Int32) then
   some ((t.1 2), t)
  else
  if x1 = (2 : Int32) then
   some ((t.1 3), t)
  else
  if x1 = (3 : Int32) then
   some ((t.1 4), t)
  else
  if x1 = (4 : Int32) then
   (m_Picture_greatest n (1 : Int32) t).bind (fun z70 =>
    some (z70.1, z70.2))
  else
  if x1 = (5 : Int32) then
   (m_Picture_greatest n (2 : Int32) t).bind (fun z76 =>
    some (z76.1, z76.2))
  else
  some ((-1 : Int32), t)
def m_Reader_frame (n : Nat) (x1 : Int32) (t : St) : Option (Int32 × St) :=
 (m_Picture_ofFrame n x1 t).bind (fun z5 =>
  some (z5.1, z5.2))
def m_Reader_component (n : Nat) (x1 : Int32) (x2 : Int32) (t : St) : Option (Int32 × St) :=
 (m_Picture_ofComponent n x1 x2 t).bind (fun z6 =>
  some (z6.1, z6.2))
def m_Picture_ofScanComponent (n : Nat) (x1 : Int32) (x2 : Int32) (x3 : Int32) (t : St) : Option (Int32 × St) :=
 if (x3 / (4 : Int32)) < x2 then
  if (x3 - x3 / (4 : Int32) * (4 : Int32)) = (0 : Int32) then
   (m_Bytes_at n ((x1 + (1 : Int32)) + ((2 : Int32) * (x3 / (4 : Int32)))) t).bind (fun z59 =>
    (m_Picture_placeOfName n z59.1 z59.2).bind (fun z62 =>
     some (z62.1, z62.2)))
  else
  if (x3 - x3 / (4 : Int32) * (4 : Int32)) = (1 : Int32) then
   (m_Bytes_at n (((x1 + (1 : Int32)) + ((2 : Int32) * (x3 / (4 : Int32)))) + (1 : Int32)) t).bind (fun z74 =>
    some ((z74.1 >>> ((4 : Int32) &&& 31)), z74.2))
  else
  if (x3 - x3 / (4 : Int32) * (4 : Int32)) = (2 : Int32) then
   (m_Bytes_at n (((x1 + (1 : Int32)) + ((2 : Int32) * (x3 / (4 : Int32)))) + (1 : Int32)) t).bind (fun z88 =>
    some ((z88.1 &&& (15 : Int32)), z88.2))
  else
  some ((-1 : Int32), t)
 else
  some ((-1 : Int32), t)
def m_Picture_ofScan (n : Nat) (x1 : Int32) (x2 : Int32) (t : St) : Option (Int32 × St) :=
 if x1 < 0 then
  some ((-1 : Int32), t)
 else
  (m_Picture_scanCount n t).bind (fun z6 =>
   if x1 < z6.1 then
    (m_Numbers_at_6 n (x1 * (5 : Int32)) z6.2).bind (fun z23 =>
     (m_Bytes_at n z23.1 z23.2).bind (fun z34 =>
      if x2 = (0 : Int32) then
       some (z34.1, z34.2)
      else
      if x2 = (1 : Int32) then
       (m_Bytes_at n ((z23.1 + (1 : Int32)) + ((2 : Int32) * z34.1)) z34.2).bind (fun z109 =>
        some (z109.1, z109.2))
      else
      if x2 = (2 : Int32) then
       (m_Bytes_at n (((z23.1 + (1 : Int32)) + ((2 : Int32) * z34.1)) + (1 : Int32)) z34.2).bind (fun z121 =>
        some (z121.1, z121.2))
      else
      if x2 = (3 : Int32) then
       (m_Bytes_at n (((z23.1 + (1 : Int32)) + ((2 : Int32) * z34.1)) + (2 : Int32)) z34.2).bind (fun z133 =>
        some ((z133.1 >>> ((4 : Int32) &&& 31)), z133.2))
      else
      if x2 = (4 : Int32) then
       (m_Bytes_at n (((z23.1 + (1 : Int32)) + ((2 : Int32) * z34.1)) + (2 : Int32)) z34.2).bind (fun z147 =>
        some ((z147.1 &&& (15 : Int32)), z147.2))
      else
      if x2 = (5 : Int32) then
       (m_Numbers_at_6 n ((x1 * (5 : Int32)) + (1 : Int32)) z34.2).bind (fun z161 =>
        some (z161.1, z161.2))
      else
      if x2 = (6 : Int32) then
       (m_Numbers_at_6 n ((x1 * (5 : Int32)) + (2 : Int32)) z34.2).bind (fun z172 =>
        some (z172.1, z172.2))
      else
      if x2 = (7 : Int32) then
       (m_Numbers_at_6 n ((x1 * (5 : Int32)) + (3 : Int32)) z34.2).bind (fun z183 =>
        some (z183.1, z183.2))
      else
      if x2 = (8 : Int32) then
       (m_Numbers_at_6 n ((x1 * (5 : Int32)) + (4 : Int32)) z34.2).bind (fun z194 =>
        some (z194.1, z194.2))
      else
      if (16 : Int32) ≤ x2 then
       (m_Picture_ofScanComponent n z23.1 z34.1 (x2 - (16 : Int32)) z34.2).bind (fun z217 =>
        some (z217.1, z217.2))
      else
       some ((-1 : Int32), z34.2)))
   else
    some ((-1 : Int32), z6.2))
def m_Reader_scan (n : Nat) (x1 : Int32) (x2 : Int32) (t : St) : Option (Int32 × St) :=
 (m_Picture_ofScan n x1 x2 t).bind (fun z6 =>
  some (z6.1, z6.2))
def m_Picture_dataByte_136 (n : Nat) (K50 : Int32 → Int32 → Int32 → St → Option (Int32 × St)) (x4 : Int32) (x5 : Int32) (y0 : Int32) (y1 : Int32) (t : St) : Option (Int32 × St) :=
 K50 (y0 + y1) x4 x5 t
def m_Picture_dataByte_119 (n : Nat) (K50 : Int32 → Int32 → Int32 → St → Option (Int32 × St)) (x3 : Int32) (x4 : Int32) (x6 : Int32) (y0 : Int32) (y1 : Int32) (t : St) : Option (Int32 × St) :=
 if x6 = (255 : Int32) then
  m_Picture_dataByte_136 n K50 x4 (y0 - y1) x3 (2 : Int32) t
 else
  m_Picture_dataByte_136 n K50 x4 (y0 - y1) x3 (1 : Int32) t
def m_Picture_dataByte_107 (n : Nat) (K50 : Int32 → Int32 → Int32 → St → Option (Int32 × St)) (x3 : Int32) (x4 : Int32) (x5 : Int32) (x6 : Int32) (x7 : Int32) (t : St) : Option (Int32 × St) :=
 if x7 = 0 then
  m_Picture_dataByte_119 n K50 x3 x4 x6 x5 (1 : Int32) t
 else
  m_Picture_dataByte_119 n K50 x3 x4 x6 x5 (0 : Int32) t
def m_Picture_dataByte_92 (n : Nat) (K50 : Int32 → Int32 → Int32 → St → Option (Int32 × St)) (x3 : Int32) (x4 : Int32) (x5 : Int32) (x6 : Int32) (y0 : Int32) (t : St) : Option (Int32 × St) :=
 if y0 = 0 then
  if x5 = 0 then
   some (x6, t)
  else
   m_Picture_dataByte_107 n K50 x3 x4 x5 x6 y0 t
 else
  m_Picture_dataByte_107 n K50 x3 x4 x5 x6 y0 t
def m_Picture_dataByte_91 (n : Nat) (K50 : Int32 → Int32 → Int32 → St → Option (Int32 × St)) (x3 : Int32) (x4 : Int32) (x5 : Int32) (x6 : Int32) (t : St) : Option (Int32 × St) :=
 m_Picture_dataByte_92 n K50 x3 x4 x5 x6 (0 : Int32) t
def m_Picture_dataByte_50b (n : Nat)  (K50 : Int32 → Int32 → Int32 → St → Option (Int32 × St)) (x3 : Int32) (x4 : Int32) (x5 : Int32) (t : St) : Option (Int32 × St) :=
 if x4 ≤ x3 then
  some ((-1 : Int32), t)
 else
  (m_Bytes_at n x3 t).bind (fun z61 =>
   if z61.1 = (255 : Int32) then
    (m_Bytes_at n (x3 + (1 : Int32)) z61.2).bind (fun z81 =>
     if z81.1 = 0 then
      m_Picture_dataByte_91 n K50 x3 x4 x5 z61.1 z81.2
     else
      m_Picture_dataByte_92 n K50 x3 x4 x5 z61.1 (1 : Int32) z81.2)
   else
    m_Picture_dataByte_91 n K50 x3 x4 x5 z61.1 z61.2)
def m_Picture_dataByte_50 (n : Nat)  : Nat → Int32 → Int32 → Int32 → St → Option (Int32 × St)
  | 0 => fun _ _ _ _ => none
  | k + 1 => m_Picture_dataByte_50b n  (m_Picture_dataByte_50 n  k)
def m_Picture_dataByte (n : Nat) (x1 : Int32) (x2 : Int32) (t : St) : Option (Int32 × St) :=
 if x1 < 0 then
  some ((-1 : Int32), t)
 else
  (m_Picture_scanCount n t).bind (fun z6 =>
   if z6.1 ≤ x1 then
    some ((-1 : Int32), z6.2)
   else
    if 0 ≤ x2 then
     (m_Numbers_at_6 n ((x1 * (5 : Int32)) + (1 : Int32)) z6.2).bind (fun z27 =>
      (m_Numbers_at_6 n ((x1 * (5 : Int32)) + (2 : Int32)) z27.2).bind (fun z41 =>
       m_Picture_dataByte_50 n  n z27.1 (z27.1 + z41.1) x2 z41.2))
    else
     some ((-1 : Int32), z6.2))
def m_Reader_data (n : Nat) (x1 : Int32) (x2 : Int32) (t : St) : Option (Int32 × St) :=
 (m_Picture_dataByte n x1 x2 t).bind (fun z6 =>
  some (z6.1, z6.2))
def m_Picture_quantiserValue (n : Nat) (x1 : Int32) (x2 : Int32) (t : St) : Option (Int32 × St) :=
 (m_Picture_hasQuantisers n x1 t).bind (fun z2 =>
  if z2.1 = 0 then
   some ((-1 : Int32), z2.2)
  else
   if x2 < 0 then
    some ((-1 : Int32), z2.2)
   else
    if x2 < (64 : Int32) then
     if (x1) < 0 ∨ 4 ≤ (x1).toNatClampNeg then none else
     (m_Bytes_at n (((z2.2.2.1 4) (x1).toNatClampNeg) + x2) z2.2).bind (fun z32 =>
      some (z32.1, z32.2))
    else
     some ((-1 : Int32), z2.2))
def m_Reader_quantiser (n : Nat) (x1 : Int32) (x2 : Int32) (t : St) : Option (Int32 × St) :=
 (m_Picture_quantiserValue n x1 x2 t).bind (fun z6 =>
  some (z6.1, z6.2))
def m_Picture_wordCount_4b (n : Nat)  (K4 : Int32 → Int32 → Int32 → St → Option (Int32 × St)) (x1 : Int32) (x2 : Int32) (x3 : Int32) (t : St) : Option (Int32 × St) :=
 if (16 : Int32) < x3 then
  some (x2, t)
 else
  (m_Bytes_at n ((x1 + x3) - (1 : Int32)) t).bind (fun z20 =>
   K4 x1 (x2 + z20.1) (x3 + 1) z20.2)
def m_Picture_wordCount_4 (n : Nat)  : Nat → Int32 → Int32 → Int32 → St → Option (Int32 × St)
  | 0 => fun _ _ _ _ => none
  | k + 1 => m_Picture_wordCount_4b n  (m_Picture_wordCount_4 n  k)
def m_Picture_wordCount (n : Nat) (x1 : Int32) (t : St) : Option (Int32 × St) :=
 m_Picture_wordCount_4 n  n x1 (0 : Int32) (1 : Int32) t
def m_Picture_ofWords_44 (n : Nat)  (x2 : Int32) (x3 : Int32) (x4 : Int32) (t : St) : Option (Int32 × St) :=
 if x2 = (1 : Int32) then
  if x3 < 0 then
   some ((-1 : Int32), t)
  else
   (m_Picture_wordCount n x4 t).bind (fun z57 =>
    if z57.1 ≤ x3 then
     some ((-1 : Int32), z57.2)
    else
     (m_Bytes_at n ((x4 + (16 : Int32)) + x3) z57.2).bind (fun z74 =>
      some (z74.1, z74.2)))
 else
  some ((-1 : Int32), t)
def m_Picture_ofWords (n : Nat) (x1 : Int32) (x2 : Int32) (x3 : Int32) (t : St) : Option (Int32 × St) :=
 (m_Picture_placeOfWords n x1 t).bind (fun z2 =>
  if z2.1 = (-1 : Int32) then
   some ((-1 : Int32), z2.2)
  else
   if x2 = 0 then
    if x3 < (1 : Int32) then
     m_Picture_ofWords_44 n  x2 x3 z2.1 z2.2
    else
     if (16 : Int32) < x3 then
      m_Picture_ofWords_44 n  x2 x3 z2.1 z2.2
     else
      (m_Bytes_at n ((z2.1 + x3) - (1 : Int32)) z2.2).bind (fun z40 =>
       some (z40.1, z40.2))
   else
    m_Picture_ofWords_44 n  x2 x3 z2.1 z2.2)
def m_Reader_word (n : Nat) (x1 : Int32) (x2 : Int32) (x3 : Int32) (t : St) : Option (Int32 × St) :=
 (m_Picture_ofWords n x1 x2 x3 t).bind (fun z7 =>
  some (z7.1, z7.2))
def m_Reader_look (n : Nat) (x1 : Int32) (t : St) : Option (Int32 × St) :=
 if x1 = (0 : Int32) then
  some ((t.1 0), t)
 else
 if x1 = (1 : Int32) then
  some ((t.1 13), t)
 else
 if x1 = (2 : Int32) then
  some ((t.1 14), t)
 else
 if x1 = (3 : Int32) then
  (m_Picture_segmentCount n t).bind (fun z72 =>
   some (z72.1, z72.2))
 else
 if x1 = (4 : Int32) then
  (m_Picture_scanCount n t).bind (fun z80 =>
   some (z80.1, z80.2))
 else
 if x1 = (5 : Int32) then
  some ((t.1 5), t)
 else
 if x1 = (6 : Int32) then
  some ((t.1 6), t)
 else
 some ((-1 : Int32), t)

def Co_forget (c g : Nat) (h : zH) : Option (zH) :=
  zlet (upd2 h c 2 0) fun h_1 =>
  zlet (upd2 h_1 c 3 0) fun h_2 =>
  zlet (upd2 h_2 c 4 0) fun h_3 =>
  some h_3

def Gr_isDark (g : Nat) (x1 : Int32) (h : zH) : Option (Int32) :=
  gd (zr x1 6) (
   if (h (g + 3) x1.toNatClampNeg) = 0 then (
    some 1)
   else (
    some 0))

def SS_has (x0 : Int32) (x1 : Int32) : Option (Int32) :=
  if ((zshr x0 x1) &&& 1) = 1 then (
   some 1)
  else (
   some 0)

def Gr_loadOf_L4 (g : Nat) (x1 : Int32) (h : zH) (k62 : Int32 → Option (Int32)) : Nat → Int32 → Int32 → Option (Int32)
  | 0, _, _ => none
  | n + 1, x2, x3 =>
    if (h 17 3) ≤ x3 then (
     k62 x2)
    else (
     (SS_has (h g 7) x3).bind fun r =>
     if r = 0 then (
      Gr_loadOf_L4 g x1 h k62 n x2 (x3 + 1))
     else (
      gd (zr x3 9) (
       gd (zr (h 24 x3.toNatClampNeg) 6) (
        if (h (g + 1) (h 24 x3.toNatClampNeg).toNatClampNeg) = x1 then (
         gd (zr x3 9) (
          zlet (x2 + (h 25 x3.toNatClampNeg)) fun x2_1 =>
          Gr_loadOf_L4 g x1 h k62 n x2_1 (x3 + 1)))
        else (
         Gr_loadOf_L4 g x1 h k62 n x2 (x3 + 1))))))
def Gr_loadOf (g : Nat) (x1 : Int32) (h : zH) : Option (Int32) :=
  Gr_loadOf_L4 g x1 h (fun x2_2 =>
   some x2_2) 1000 0 0

def Gr_aimOf (g : Nat) (x1 : Int32) (h : zH) : Option (Int32) :=
  (Gr_loadOf g x1 h).bind fun r =>
  gd (zr x1 6) (
   some (r + ((5000 - (h (g + 3) x1.toNatClampNeg)) / 20)))

def Gr_sumOfPlants_L5 (g : Nat) (a : Nat) (x2 : Int32) (h : zH) (k49 : Int32 → Option (Int32)) : Nat → Int32 → Int32 → Option (Int32)
  | 0, _, _ => none
  | n + 1, x3, x4 =>
    if (h 17 2) ≤ x4 then (
     k49 x3)
    else (
     gd (zr x4 6) (
      gd (zr (h 20 x4.toNatClampNeg) 6) (
       if (h (g + 1) (h 20 x4.toNatClampNeg).toNatClampNeg) = x2 then (
        gd (zr x4 6) (
         zlet (x3 + (h a x4.toNatClampNeg)) fun x3_1 =>
         Gr_sumOfPlants_L5 g a x2 h k49 n x3_1 (x4 + 1)))
       else (
        Gr_sumOfPlants_L5 g a x2 h k49 n x3 (x4 + 1)))))
def Gr_sumOfPlants (g : Nat) (a : Nat) (x2 : Int32) (h : zH) : Option (Int32) :=
  Gr_sumOfPlants_L5 g a x2 h (fun x3_2 =>
   some x3_2) 1000 0 0

def Gr_givenOf (g : Nat) (x1 : Int32) (h : zH) : Option (Int32) :=
  (Gr_sumOfPlants g (g + 5) x1 h).bind fun r =>
  some r

def Co_follow_L20 (g : Nat) (x1 : Int32) (k144 : zH → Option (zH)) : Nat → Int32 → Int32 → zH → Option (zH)
  | 0, _, _, _ => none
  | n + 1, x2_1, x3, h_1 =>
    if (h_1 17 2) ≤ x3 then (
     k144 h_1)
    else (
     gd (zr x3 6) (
      gd (zr (h_1 20 x3.toNatClampNeg) 6) (
       if (h_1 (g + 1) (h_1 20 x3.toNatClampNeg).toNatClampNeg) = x1 then (
        gd (zr x3 6) (
         zlet (h_1 (g + 5) x3.toNatClampNeg) fun x4 =>
         gd (zr x3 6) (
          gd (zr x3 6) (
           zlet (zmin (h_1 22 x3.toNatClampNeg) ((h_1 21 x3.toNatClampNeg) - x4)) fun x5 =>
           gd (zr x3 6) (
            zlet (-(zmin (h_1 22 x3.toNatClampNeg) x4)) fun x6 =>
            zlet (zmax x6 (zmin x5 x2_1)) fun x7 =>
            gd (zr x3 6) (zlet (upd2 h_1 (g + 5) x3.toNatClampNeg (x4 + x7)) fun h_2 =>
             zlet (x2_1 - x7) fun x2_2 =>
             Co_follow_L20 g x1 k144 n x2_2 (x3 + 1) h_2))))))
       else (
        Co_follow_L20 g x1 k144 n x2_1 (x3 + 1) h_1))))
def Co_follow (c g : Nat) (x1 : Int32) (h : zH) : Option (zH) :=
  (Gr_aimOf g x1 h).bind fun r =>
  (Gr_givenOf g x1 h).bind fun r_1 =>
  zlet (r - r_1) fun x2 =>
  Co_follow_L20 g x1 (fun h_3 =>
   some h_3) 1000 x2 0 h

def Gr_heavyOf (g : Nat) (x1 : Int32) (h : zH) : Option (Int32) :=
  (Gr_sumOfPlants g 23 x1 h).bind fun r =>
  some r

def Gr_feederBits_L5 (g : Nat) (x1 : Int32) (x2 : Int32) (h : zH) (k62 : Int32 → Option (Int32)) : Nat → Int32 → Int32 → Option (Int32)
  | 0, _, _ => none
  | n + 1, x3, x4 =>
    if (h 17 3) ≤ x4 then (
     k62 x3)
    else (
     (SS_has (h g 7) x4).bind fun r =>
     if r = x2 then (
      gd (zr x4 9) (
       gd (zr (h 24 x4.toNatClampNeg) 6) (
        if (h (g + 1) (h 24 x4.toNatClampNeg).toNatClampNeg) = x1 then (
         zlet (x3 ||| (zshl 1 x4)) fun x3_1 =>
         Gr_feederBits_L5 g x1 x2 h k62 n x3_1 (x4 + 1))
        else (
         Gr_feederBits_L5 g x1 x2 h k62 n x3 (x4 + 1)))))
     else (
      Gr_feederBits_L5 g x1 x2 h k62 n x3 (x4 + 1)))
def Gr_feederBits (g : Nat) (x1 : Int32) (x2 : Int32) (h : zH) : Option (Int32) :=
  Gr_feederBits_L5 g x1 x2 h (fun x3_2 =>
   some x3_2) 1000 0 0

def Gr_drop (g : Nat) (x1 : Int32) (h : zH) : Option (zH) :=
  (SS_has (h g 7) x1).bind fun r =>
  if r = 0 then (
   some h)
  else (
   if 9 ≤ (h g 9) then (
    some h)
   else (
    zlet (upd2 h g 7 ((h g 7) &&& ((zshl 1 x1) ^^^ (-1)))) fun h_1 =>
    gd (zr (h_1 g 9) 9) (zlet (upd2 h_1 (g + 6) (h_1 g 9).toNatClampNeg x1) fun h_2 =>
     zlet (upd2 h_2 g 9 ((h_2 g 9) + 1)) fun h_3 =>
     some h_3)))

def Co_dropSet_L2 (c : Nat) (g : Nat) (x1 : Int32) (k63 : zH → Option (zH)) : Nat → Int32 → zH → Option (zH)
  | 0, _, _ => none
  | n + 1, x2, h_1 =>
    if (h_1 17 3) ≤ x2 then (
     k63 h_1)
    else (
     (SS_has x1 x2).bind fun r =>
     if r = 0 then (
      Co_dropSet_L2 c g x1 k63 n (x2 + 1) h_1)
     else (
      (Gr_drop g x2 h_1).bind fun h_2 =>
      zlet (upd2 h_2 c 2 ((h_2 c 2) + 1)) fun h_3 =>
      gd (zr x2 9) (
       zlet (upd2 h_3 c 3 ((h_3 c 3) + (h_3 25 x2.toNatClampNeg))) fun h_4 =>
       Co_dropSet_L2 c g x1 k63 n (x2 + 1) h_4)))
def Co_dropSet (c g : Nat) (x1 : Int32) (h : zH) : Option (zH) :=
  Co_dropSet_L2 c g x1 (fun h_5 =>
   some h_5) 1000 0 h

def Co_darken_L25 (g : Nat) (x1 : Int32) (k73 : zH → Option (zH)) : Nat → Int32 → zH → Option (zH)
  | 0, _, _ => none
  | n + 1, x2, h_3 =>
    if (h_3 17 2) ≤ x2 then (
     k73 h_3)
    else (
     gd (zr x2 6) (
      gd (zr (h_3 20 x2.toNatClampNeg) 6) (
       if (h_3 (g + 1) (h_3 20 x2.toNatClampNeg).toNatClampNeg) = x1 then (
        gd (zr x2 6) (zlet (upd2 h_3 (g + 5) x2.toNatClampNeg 0) fun h_4 =>
         Co_darken_L25 g x1 k73 n (x2 + 1) h_4))
       else (
        Co_darken_L25 g x1 k73 n (x2 + 1) h_3))))
def Co_darken (c g : Nat) (x1 : Int32) (h : zH) : Option (zH) :=
  gd (zr x1 6) (zlet (upd2 h (g + 3) x1.toNatClampNeg 0) fun h_1 =>
   (Gr_feederBits g x1 1 h_1).bind fun r =>
   (Co_dropSet c g r h_1).bind fun h_2 =>
   Co_darken_L25 g x1 (fun h_5 =>
    some h_5) 1000 0 h_2)

def Co_onOfStage_L13 (x2 : Int32) (h : zH) (k54 : Int32 → Option (Int32)) : Nat → Int32 → Int32 → Option (Int32)
  | 0, _, _ => none
  | n + 1, x3, x4 =>
    if (h 17 3) ≤ x4 then (
     k54 x3)
    else (
     gd (zr x4 9) (
      if (h 26 x4.toNatClampNeg) = x2 then (
       Co_onOfStage_L13 x2 h k54 n x3 (x4 + 1))
      else (
       zlet (x3 &&& ((zshl 1 x4) ^^^ (-1))) fun x3_1 =>
       Co_onOfStage_L13 x2 h k54 n x3_1 (x4 + 1))))
def Co_onOfStage (c g : Nat) (x1 : Int32) (x2 : Int32) (h : zH) : Option (Int32) :=
  (Gr_feederBits g x1 1 h).bind fun r =>
  Co_onOfStage_L13 x2 h (fun x3_2 =>
   some x3_2) 1000 r 0

def Co_passStage (c g : Nat) (x1 : Int32) (x2 : Int32) (h : zH) : Option (zH) :=
  zlet ((x1 * 6) + x2) fun x3 =>
  gd (zr x1 6) (
   gd (zr x2 6) (
    zlet (fun (v51 : Int32) =>
      gd (zr x3 36) (zlet (upd2 h (g + 4) x3.toNatClampNeg v51) fun h_1 =>
       gd (zr x3 36) (
        gd (zr x2 6) (
         if (h_1 (g + 4) x3.toNatClampNeg) < (h_1 28 x2.toNatClampNeg) then (
          some h_1)
         else (
          (Co_onOfStage c g x1 x2 h_1).bind fun r =>
          if r = 0 then (
           some h_1)
          else (
           (Co_dropSet c g r h_1).bind fun h_2 =>
           gd (zr x3 36) (zlet (upd2 h_2 (g + 4) x3.toNatClampNeg 0) fun h_3 =>
            some h_3))))))) fun j51 =>
    if (h (g + 7) x2.toNatClampNeg) ≤ (h (g + 3) x1.toNatClampNeg) then (
     j51 0)
    else (
     gd (zr x3 36) (
      j51 ((h (g + 4) x3.toNatClampNeg) + 1)))))

def Gr_capOf (g : Nat) (x1 : Int32) (h : zH) : Option (Int32) :=
  (Gr_sumOfPlants g 21 x1 h).bind fun r =>
  some r

def Co_nextBack_L28 (g : Nat) (x1 : Int32) (h : zH) (x2 : Int32) (k79 : Int32 → Option (Int32)) (k88 : Option (Int32)) : Nat → Int32 → Option (Int32)
  | 0, _ => none
  | n + 1, x3_1 =>
    if x3_1 < 0 then (
     k88)
    else (
     gd (zr x3_1 9) (
      zlet (h (g + 6) x3_1.toNatClampNeg) fun x4 =>
      gd (zr x4 9) (
       gd (zr (h 24 x4.toNatClampNeg) 6) (
        if (h (g + 1) (h 24 x4.toNatClampNeg).toNatClampNeg) = x1 then (
         gd (zr x4 9) (
          if x2 < (h 25 x4.toNatClampNeg) then (
           Co_nextBack_L28 g x1 h x2 k79 k88 n (x3_1 + (-1)))
          else (
           k79 x4)))
        else (
         Co_nextBack_L28 g x1 h x2 k79 k88 n (x3_1 + (-1)))))))
def Co_nextBack (c g : Nat) (x1 : Int32) (h : zH) : Option (Int32) :=
  (Gr_capOf g x1 h).bind fun r =>
  (Gr_loadOf g x1 h).bind fun r_1 =>
  zlet (r - r_1) fun x2 =>
  zlet ((h g 9) - 1) fun x3 =>
  Co_nextBack_L28 g x1 h x2 (fun x4_1 =>
   some x4_1) (some (-1)) 1000 x3

def Gr_putOn_L16 (g : Nat) (x1 : Int32) (k55 : Int32 → zH → Option (zH)) : Nat → Int32 → Int32 → zH → Option (zH)
  | 0, _, _, _ => none
  | n + 1, x2, x3, h_2 =>
    if (h_2 g 9) ≤ x3 then (
     k55 x2 h_2)
    else (
     gd (zr x3 9) (
      if (h_2 (g + 6) x3.toNatClampNeg) = x1 then (
       Gr_putOn_L16 g x1 k55 n x2 (x3 + 1) h_2)
      else (
       gd (zr x3 9) (
        gd (zr x2 9) (zlet (upd2 h_2 (g + 6) x2.toNatClampNeg (h_2 (g + 6) x3.toNatClampNeg)) fun h_3 =>
         Gr_putOn_L16 g x1 k55 n (x2 + 1) (x3 + 1) h_3)))))
def Gr_putOn (g : Nat) (x1 : Int32) (h : zH) : Option (zH) :=
  zlet (upd2 h g 7 ((h g 7) ||| (zshl 1 x1))) fun h_1 =>
  Gr_putOn_L16 g x1 (fun x2_1 h_4 =>
   zlet (upd2 h_4 g 9 x2_1) fun h_5 =>
   some h_5) 1000 0 0 h_1

def Co_passBack (c g : Nat) (x1 : Int32) (h : zH) : Option (zH) :=
  zlet ((x1 * 6) + 0) fun x2 =>
  gd (zr x1 6) (
   zlet (fun (v51 : Int32) =>
     gd (zr x2 36) (zlet (upd2 h (g + 4) x2.toNatClampNeg v51) fun h_1 =>
      gd (zr x2 36) (
       if (h_1 (g + 4) x2.toNatClampNeg) < (h_1 28 0) then (
        some h_1)
       else (
        (Co_nextBack c g x1 h_1).bind fun r =>
        if r < 0 then (
         some h_1)
        else (
         (Gr_putOn g r h_1).bind fun h_2 =>
         zlet (upd2 h_2 c 4 ((h_2 c 4) + 1)) fun h_3 =>
         gd (zr x2 36) (zlet (upd2 h_3 (g + 4) x2.toNatClampNeg 0) fun h_4 =>
          some h_4)))))) fun j51 =>
   if (h (g + 3) x1.toNatClampNeg) < (h (g + 7) 0) then (
    j51 0)
   else (
    gd (zr x2 36) (
     j51 ((h (g + 4) x2.toNatClampNeg) + 1))))

def Co_passIsland_L106 (c : Nat) (g : Nat) (x1 : Int32) (k131 : zH → Option (zH)) : Nat → Int32 → zH → Option (zH)
  | 0, _, _ => none
  | n + 1, x5, h_3 =>
    if (h_3 17 4) < x5 then (
     k131 h_3)
    else (
     (Co_passStage c g x1 x5 h_3).bind fun h_4 =>
     Co_passIsland_L106 c g x1 k131 n (x5 + 1) h_4)
def Co_passIsland (c g : Nat) (x1 : Int32) (h : zH) : Option (zH) :=
  (Gr_isDark g x1 h).bind fun r =>
  if r = 0 then (
   (Co_follow c g x1 h).bind fun h_1 =>
   (Gr_heavyOf g x1 h_1).bind fun r_1 =>
   if r_1 = 0 then (
    (Co_darken c g x1 h_1).bind fun h_8 =>
    some h_8)
   else (
    (Gr_givenOf g x1 h_1).bind fun r_2 =>
    (Gr_loadOf g x1 h_1).bind fun r_3 =>
    zlet (r_2 - r_3) fun x3 =>
    gd (zr x1 6) (
     gd (decide (¬ r_1 = 0)) (
      zlet (zmin 5200 ((h_1 (g + 3) x1.toNatClampNeg) + ((10 * x3) / r_1))) fun x4 =>
      if 4700 ≤ x4 then (
       gd (zr x1 6) (zlet (upd2 h_1 (g + 3) x1.toNatClampNeg x4) fun h_2 =>
        Co_passIsland_L106 c g x1 (fun h_5 =>
         (Co_passBack c g x1 h_5).bind fun h_6 =>
         some h_6) 1000 1 h_2))
      else (
       (Co_darken c g x1 h_1).bind fun h_7 =>
       some h_7)))))
  else (
   some h)

def Co_pass_L15 (c : Nat) (g : Nat) (k50 : zH → Option (zH)) : Nat → Int32 → zH → Option (zH)
  | 0, _, _ => none
  | n + 1, x1, h_2 =>
    if (h_2 17 0) ≤ x1 then (
     k50 h_2)
    else (
     gd (zr x1 6) (
      if (h_2 (g + 1) x1.toNatClampNeg) = x1 then (
       (Co_passIsland c g x1 h_2).bind fun h_3 =>
       Co_pass_L15 c g k50 n (x1 + 1) h_3)
      else (
       Co_pass_L15 c g k50 n (x1 + 1) h_2)))
def Co_pass (c g : Nat) (h : zH) : Option (zH) :=
  zlet (upd2 h g 11 ((h g 11) + 1)) fun h_1 =>
  Co_pass_L15 c g (fun h_4 =>
   some h_4) 1000 0 h_1

def Gr_copy (g : Nat) (o : Nat) (h : zH) : Option (zH) :=
  zlet (cpy2 h (o + 1) (g + 1) 6) fun h_1 =>
  zlet (cpy2 h_1 (o + 3) (g + 3) 6) fun h_2 =>
  zlet (cpy2 h_2 (o + 4) (g + 4) 36) fun h_3 =>
  zlet (cpy2 h_3 (o + 5) (g + 5) 6) fun h_4 =>
  zlet (cpy2 h_4 (o + 6) (g + 6) 9) fun h_5 =>
  zlet (cpy2 h_5 (o + 7) (g + 7) 6) fun h_6 =>
  zlet (upd2 h_6 g 1 (h_6 o 1)) fun h_7 =>
  zlet (upd2 h_7 g 7 (h_7 o 7)) fun h_8 =>
  zlet (upd2 h_8 g 9 (h_8 o 9)) fun h_9 =>
  zlet (upd2 h_9 g 11 (h_9 o 11)) fun h_10 =>
  some h_10

def Gr_findRoots_L2 (g : Nat) (k21 : zH → Option (zH)) : Nat → Int32 → zH → Option (zH)
  | 0, _, _ => none
  | n + 1, x1, h_1 =>
    if 6 ≤ x1 then (
     k21 h_1)
    else (
     gd (zr x1 6) (zlet (upd2 h_1 (g + 1) x1.toNatClampNeg x1) fun h_2 =>
      Gr_findRoots_L2 g k21 n (x1 + 1) h_2))
def Gr_findRoots_L36 (g : Nat) (k120 : zH → Option (zH)) : Nat → Int32 → zH → Option (zH)
  | 0, _, _ => none
  | n_2 + 1, x2, h_5 =>
    if (h_5 17 1) ≤ x2 then (
     k120 h_5)
    else (
     (SS_has (h_5 g 1) x2).bind fun r =>
     if r = 0 then (
      Gr_findRoots_L36 g k120 n_2 (x2 + 1) h_5)
     else (
      gd (zr x2 9) (
       zlet (h_5 18 x2.toNatClampNeg) fun x3 =>
       gd (zr x2 9) (
        zlet (h_5 19 x2.toNatClampNeg) fun x4 =>
        gd (zr x3 6) (
         gd (zr x4 6) (
          zlet (zmin (h_5 (g + 1) x3.toNatClampNeg) (h_5 (g + 1) x4.toNatClampNeg)) fun x5 =>
          gd (zr x3 6) (zlet (upd2 h_5 (g + 1) x3.toNatClampNeg x5) fun h_6 =>
           gd (zr x4 6) (zlet (upd2 h_6 (g + 1) x4.toNatClampNeg x5) fun h_7 =>
            Gr_findRoots_L36 g k120 n_2 (x2 + 1) h_7))))))))
def Gr_findRoots_L23 (g : Nat) (k126 : zH → Option (zH)) : Nat → Int32 → zH → Option (zH)
  | 0, _, _ => none
  | n_1 + 1, x1_1, h_4 =>
    if (h_4 17 0) ≤ x1_1 then (
     k126 h_4)
    else (
     Gr_findRoots_L36 g (fun h_8 =>
      Gr_findRoots_L23 g k126 n_1 (x1_1 + 1) h_8) 1000 0 h_4)
def Gr_findRoots (g : Nat) (h : zH) : Option (zH) :=
  Gr_findRoots_L2 g (fun h_3 =>
   Gr_findRoots_L23 g (fun h_9 =>
    some h_9) 1000 0 h_3) 1000 0 h

def Gr_clearCounts_L2 (g : Nat) (x1 : Int32) (k26 : zH → Option (zH)) : Nat → Int32 → zH → Option (zH)
  | 0, _, _ => none
  | n + 1, x2, h_1 =>
    if 6 ≤ x2 then (
     k26 h_1)
    else (
     gd (zr ((x1 * 6) + x2) 36) (zlet (upd2 h_1 (g + 4) ((x1 * 6) + x2).toNatClampNeg 0) fun h_2 =>
      Gr_clearCounts_L2 g x1 k26 n (x2 + 1) h_2))
def Gr_clearCounts (g : Nat) (x1 : Int32) (h : zH) : Option (zH) :=
  Gr_clearCounts_L2 g x1 (fun h_3 =>
   some h_3) 1000 0 h

def Gr_giveLoad_L2 (g : Nat) (k21 : zH → Option (zH)) : Nat → Int32 → zH → Option (zH)
  | 0, _, _ => none
  | n + 1, x1, h_1 =>
    if 6 ≤ x1 then (
     k21 h_1)
    else (
     gd (zr x1 6) (zlet (upd2 h_1 (g + 5) x1.toNatClampNeg 0) fun h_2 =>
      Gr_giveLoad_L2 g k21 n (x1 + 1) h_2))
def Gr_giveLoad_L23 (g : Nat) (k84 : zH → Option (zH)) : Nat → Int32 → zH → Option (zH)
  | 0, _, _ => none
  | n_1 + 1, x1_1, h_4 =>
    if (h_4 17 2) ≤ x1_1 then (
     k84 h_4)
    else (
     gd (zr x1_1 6) (
      gd (zr (h_4 20 x1_1.toNatClampNeg) 6) (
       zlet (h_4 (g + 1) (h_4 20 x1_1.toNatClampNeg).toNatClampNeg) fun x2 =>
       gd (zr x1_1 6) (
        (Gr_loadOf g x2 h_4).bind fun r =>
        (Gr_givenOf g x2 h_4).bind fun r_1 =>
        gd (zr x1_1 6) (zlet (upd2 h_4 (g + 5) x1_1.toNatClampNeg (zmin (h_4 21 x1_1.toNatClampNeg) (r - r_1))) fun h_5 =>
         Gr_giveLoad_L23 g k84 n_1 (x1_1 + 1) h_5)))))
def Gr_giveLoad (g : Nat) (h : zH) : Option (zH) :=
  Gr_giveLoad_L2 g (fun h_3 =>
   Gr_giveLoad_L23 g (fun h_6 =>
    some h_6) 1000 0 h_3) 1000 0 h

def Gr_layOut_L64 (g : Nat) (k90 : zH → Option (zH)) : Nat → Int32 → zH → Option (zH)
  | 0, _, _ => none
  | n + 1, x1, h_7 =>
    if 6 ≤ x1 then (
     k90 h_7)
    else (
     gd (zr x1 6) (zlet (upd2 h_7 (g + 3) x1.toNatClampNeg 5000) fun h_8 =>
      (Gr_clearCounts g x1 h_8).bind fun h_9 =>
      Gr_layOut_L64 g k90 n (x1 + 1) h_9))
def Gr_layOut (g : Nat) (h : zH) : Option (zH) :=
  zlet (upd2 h g 1 ((zshl 1 (h 17 1)) - 1)) fun h_1 =>
  zlet (upd2 h_1 g 7 ((zshl 1 (h_1 17 3)) - 1)) fun h_2 =>
  zlet (upd2 h_2 g 9 0) fun h_3 =>
  zlet (upd2 h_3 g 11 0) fun h_4 =>
  zlet (cpy2 h_4 27 (g + 7) 6) fun h_5 =>
  (Gr_findRoots g h_5).bind fun h_6 =>
  Gr_layOut_L64 g (fun h_10 =>
   (Gr_giveLoad g h_10).bind fun h_11 =>
   some h_11) 1000 0 h_6

def Gr_copyCounts_L2 (g : Nat) (x1 : Int32) (x2 : Int32) (k36 : zH → Option (zH)) : Nat → Int32 → zH → Option (zH)
  | 0, _, _ => none
  | n + 1, x3, h_1 =>
    if 6 ≤ x3 then (
     k36 h_1)
    else (
     gd (zr ((x1 * 6) + x3) 36) (
      gd (zr ((x2 * 6) + x3) 36) (zlet (upd2 h_1 (g + 4) ((x2 * 6) + x3).toNatClampNeg (h_1 (g + 4) ((x1 * 6) + x3).toNatClampNeg)) fun h_2 =>
       Gr_copyCounts_L2 g x1 x2 k36 n (x3 + 1) h_2)))
def Gr_copyCounts (g : Nat) (x1 : Int32) (x2 : Int32) (h : zH) : Option (zH) :=
  Gr_copyCounts_L2 g x1 x2 (fun h_3 =>
   some h_3) 1000 0 h

def Gr_islands_L4 (g : Nat) (h : zH) (k34 : Int32 → Option (Int32)) : Nat → Int32 → Int32 → Option (Int32)
  | 0, _, _ => none
  | n + 1, x1, x2 =>
    if (h 17 0) ≤ x2 then (
     k34 x1)
    else (
     gd (zr x2 6) (
      if (h (g + 1) x2.toNatClampNeg) = x2 then (
       Gr_islands_L4 g h k34 n (x1 + 1) (x2 + 1))
      else (
       Gr_islands_L4 g h k34 n x1 (x2 + 1))))
def Gr_islands (g : Nat) (h : zH) : Option (Int32) :=
  Gr_islands_L4 g h (fun x1_1 =>
   some x1_1) 1000 0 0

def Gr_darkIslands_L4 (g : Nat) (h : zH) (k42 : Int32 → Option (Int32)) : Nat → Int32 → Int32 → Option (Int32)
  | 0, _, _ => none
  | n + 1, x1, x2 =>
    if (h 17 0) ≤ x2 then (
     k42 x1)
    else (
     gd (zr x2 6) (
      if (h (g + 1) x2.toNatClampNeg) = x2 then (
       (Gr_isDark g x2 h).bind fun r =>
       if r = 0 then (
        Gr_darkIslands_L4 g h k42 n x1 (x2 + 1))
       else (
        Gr_darkIslands_L4 g h k42 n (x1 + 1) (x2 + 1)))
      else (
       Gr_darkIslands_L4 g h k42 n x1 (x2 + 1))))
def Gr_darkIslands (g : Nat) (h : zH) : Option (Int32) :=
  Gr_darkIslands_L4 g h (fun x1_1 =>
   some x1_1) 1000 0 0

def Gr_rootOf_L4 (g : Nat) (x1 : Int32) (h : zH) (k30 : Int32 → Option (Int32)) (k41 : Option (Int32)) : Nat → Int32 → Int32 → Option (Int32)
  | 0, _, _ => none
  | n + 1, x2, x3 =>
    if (h 17 0) ≤ x3 then (
     k41)
    else (
     gd (zr x3 6) (
      if (h (g + 1) x3.toNatClampNeg) = x3 then (
       if x2 = x1 then (
        k30 x3)
       else (
        Gr_rootOf_L4 g x1 h k30 k41 n (x2 + 1) (x3 + 1)))
      else (
       Gr_rootOf_L4 g x1 h k30 k41 n x2 (x3 + 1))))
def Gr_rootOf (g : Nat) (x1 : Int32) (h : zH) : Option (Int32) :=
  Gr_rootOf_L4 g x1 h (fun x3_1 =>
   some x3_1) (some (-1)) 1000 0 0

def Gr_numberOf_L4 (g : Nat) (x1 : Int32) (h : zH) (k28 : Int32 → Option (Int32)) : Nat → Int32 → Int32 → Option (Int32)
  | 0, _, _ => none
  | n + 1, x2, x3 =>
    if x1 ≤ x3 then (
     k28 x2)
    else (
     gd (zr x3 6) (
      if (h (g + 1) x3.toNatClampNeg) = x3 then (
       Gr_numberOf_L4 g x1 h k28 n (x2 + 1) (x3 + 1))
      else (
       Gr_numberOf_L4 g x1 h k28 n x2 (x3 + 1))))
def Gr_numberOf (g : Nat) (x1 : Int32) (h : zH) : Option (Int32) :=
  Gr_numberOf_L4 g x1 h (fun x2_1 =>
   some x2_1) 1000 0 0

def Gr_busBits_L4 (g : Nat) (x1 : Int32) (h : zH) (k37 : Int32 → Option (Int32)) : Nat → Int32 → Int32 → Option (Int32)
  | 0, _, _ => none
  | n + 1, x2, x3 =>
    if (h 17 0) ≤ x3 then (
     k37 x2)
    else (
     gd (zr x3 6) (
      if (h (g + 1) x3.toNatClampNeg) = x1 then (
       zlet (x2 ||| (zshl 1 x3)) fun x2_1 =>
       Gr_busBits_L4 g x1 h k37 n x2_1 (x3 + 1))
      else (
       Gr_busBits_L4 g x1 h k37 n x2 (x3 + 1))))
def Gr_busBits (g : Nat) (x1 : Int32) (h : zH) : Option (Int32) :=
  Gr_busBits_L4 g x1 h (fun x2_2 =>
   some x2_2) 1000 0 0

def Pl_loadOfSet_L4 (p : Nat) (x1 : Int32) (h : zH) (k35 : Int32 → Option (Int32)) : Nat → Int32 → Int32 → Option (Int32)
  | 0, _, _ => none
  | n + 1, x2, x3 =>
    if (h p 3) ≤ x3 then (
     k35 x2)
    else (
     (SS_has x1 x3).bind fun r =>
     if r = 0 then (
      Pl_loadOfSet_L4 p x1 h k35 n x2 (x3 + 1))
     else (
      gd (zr x3 9) (
       zlet (x2 + (h (p + 8) x3.toNatClampNeg)) fun x2_1 =>
       Pl_loadOfSet_L4 p x1 h k35 n x2_1 (x3 + 1))))
def Pl_loadOfSet (p : Nat) (x1 : Int32) (h : zH) : Option (Int32) :=
  Pl_loadOfSet_L4 p x1 h (fun x2_2 =>
   some x2_2) 1000 0 0

def Gr_loadOfAll (g : Nat) (h : zH) : Option (Int32) :=
  (Pl_loadOfSet 17 (h g 7) h).bind fun r =>
  some r

def Gr_open_L35 (g : Nat) (k100 : zH → Option (zH)) : Nat → Int32 → zH → Option (zH)
  | 0, _, _ => none
  | n + 1, x2, h_4 =>
    if (h_4 17 0) ≤ x2 then (
     k100 h_4)
    else (
     gd (zr x2 6) (
      if (h_4 (g + 1) x2.toNatClampNeg) = x2 then (
       gd (zr x2 6) (
        if (h_4 (g + 2) x2.toNatClampNeg) = x2 then (
         Gr_open_L35 g k100 n (x2 + 1) h_4)
        else (
         gd (zr x2 6) (
          gd (zr (h_4 (g + 2) x2.toNatClampNeg) 6) (
           gd (zr x2 6) (zlet (upd2 h_4 (g + 3) x2.toNatClampNeg (h_4 (g + 3) (h_4 (g + 2) x2.toNatClampNeg).toNatClampNeg)) fun h_5 =>
            gd (zr x2 6) (
             (Gr_copyCounts g (h_5 (g + 2) x2.toNatClampNeg) x2 h_5).bind fun h_6 =>
             Gr_open_L35 g k100 n (x2 + 1) h_6)))))))
      else (
       Gr_open_L35 g k100 n (x2 + 1) h_4)))
def Gr_open (g : Nat) (x1 : Int32) (h : zH) : Option (zH) :=
  zlet (upd2 h g 1 ((h g 1) &&& ((zshl 1 x1) ^^^ (-1)))) fun h_1 =>
  zlet (cpy2 h_1 (g + 1) (g + 2) 6) fun h_2 =>
  (Gr_findRoots g h_2).bind fun h_3 =>
  Gr_open_L35 g (fun h_7 =>
   some h_7) 1000 0 h_3

def Gr_canClose (g : Nat) (x1 : Int32) (h : zH) : Option (Int32) :=
  gd (zr x1 9) (
   gd (zr (h 18 x1.toNatClampNeg) 6) (
    zlet (h (g + 1) (h 18 x1.toNatClampNeg).toNatClampNeg) fun x2 =>
    gd (zr x1 9) (
     gd (zr (h 19 x1.toNatClampNeg) 6) (
      zlet (h (g + 1) (h 19 x1.toNatClampNeg).toNatClampNeg) fun x3 =>
      if x2 = x3 then (
       some 1)
      else (
       (Gr_isDark g x2 h).bind fun r =>
       if r = 0 then (
        (Gr_isDark g x3 h).bind fun r_1 =>
        if r_1 = 0 then (
         gd (zr x2 6) (
          gd (zr x3 6) (
           if 20 < (zabs ((h (g + 3) x2.toNatClampNeg) - (h (g + 3) x3.toNatClampNeg))) then (
            some 0)
           else (
            some 1))))
        else (
         some 1))
       else (
        some 1))))))

def Gr_joinedFrequency (g : Nat) (x1 : Int32) (x2 : Int32) (h : zH) : Option (Int32) :=
  (Gr_heavyOf g x1 h).bind fun r =>
  (Gr_heavyOf g x2 h).bind fun r_1 =>
  zlet (r + r_1) fun x5 =>
  if x5 = 0 then (
   gd (zr x1 6) (
    gd (zr x2 6) (
     some (zmin (h (g + 3) x1.toNatClampNeg) (h (g + 3) x2.toNatClampNeg)))))
  else (
   gd (zr x1 6) (
    gd (zr x2 6) (
     gd (decide (¬ x5 = 0)) (
      some ((((h (g + 3) x1.toNatClampNeg) * r) + ((h (g + 3) x2.toNatClampNeg) * r_1)) / x5)))))

def Gr_join (g : Nat) (x1 : Int32) (x2 : Int32) (h : zH) : Option (zH) :=
  (Gr_isDark g x1 h).bind fun r =>
  if r = 0 then (
   (Gr_isDark g x2 h).bind fun r_1 =>
   if r_1 = 0 then (
    (Gr_clearCounts g x1 h).bind fun h_1 =>
    (Gr_joinedFrequency g x1 x2 h_1).bind fun r_2 =>
    gd (zr x1 6) (zlet (upd2 h_1 (g + 3) x1.toNatClampNeg r_2) fun h_2 =>
     some h_2))
   else (
    some h))
  else (
   (Gr_isDark g x2 h).bind fun r_3 =>
   zlet (fun (h_3 : zH) =>
     gd (zr x2 6) (
      gd (zr x1 6) (zlet (upd2 h_3 (g + 3) x1.toNatClampNeg (h_3 (g + 3) x2.toNatClampNeg)) fun h_4 =>
       some h_4))) fun j30 =>
   if r_3 = 0 then (
    (Gr_copyCounts g x2 x1 h).bind fun h_5 =>
    j30 h_5)
   else (
    (Gr_clearCounts g x1 h).bind fun h_6 =>
    j30 h_6))

def Gr_close (g : Nat) (x1 : Int32) (h : zH) : Option (zH) :=
  gd (zr x1 9) (
   gd (zr (h 18 x1.toNatClampNeg) 6) (
    zlet (h (g + 1) (h 18 x1.toNatClampNeg).toNatClampNeg) fun x2 =>
    gd (zr x1 9) (
     gd (zr (h 19 x1.toNatClampNeg) 6) (
      zlet (h (g + 1) (h 19 x1.toNatClampNeg).toNatClampNeg) fun x3 =>
      zlet (fun (h_1 : zH) =>
        zlet (upd2 h_1 g 1 ((h_1 g 1) ||| (zshl 1 x1))) fun h_2 =>
        (Gr_findRoots g h_2).bind fun h_3 =>
        some h_3) fun j49 =>
      if x2 = x3 then (
       j49 h)
      else (
       (Gr_join g (zmin x2 x3) (zmax x2 x3) h).bind fun h_4 =>
       j49 h_4)))))

def Le_add (x1 : Int32) (h : zH) : Option (Int32 × zH) :=
  if (h 1 1) < 200 then (
   gd (zr (h 1 1) 200) (zlet (upd2 h 2 (h 1 1).toNatClampNeg x1) fun h_1 =>
    zlet (upd2 h_1 1 1 ((h_1 1 1) + 1)) fun h_2 =>
    some (1, h_2)))
  else (
   some (0, h))

def Le_clear (h : zH) : Option (zH) :=
  zlet (upd2 h 1 1 0) fun h_1 =>
  some h_1

def Pa_clear (h : zH) : Option (zH) :=
  zlet (upd2 h 47 2 0) fun h_1 =>
  some h_1

def Pa_keep (o : Nat) (h : zH) : Option (zH) :=
  gd (zr (h 47 1) 4) (
   (Gr_copy ([49, 57, 65, 73].getD (h 47 1).toNatClampNeg 0) o h).bind fun h_1 =>
   zlet (upd2 h_1 47 1 (zrem ((h_1 47 1) + 1) 4)) fun h_2 =>
   zlet (upd2 h_2 47 2 (zmin ((h_2 47 2) + 1) 4)) fun h_3 =>
   some h_3)

def Pa_giveBack (o : Nat) (h : zH) : Option (zH) :=
  zlet (upd2 h 47 1 (zrem (((h 47 1) + 4) - 1) 4)) fun h_1 =>
  zlet (upd2 h_1 47 2 ((h_1 47 2) - 1)) fun h_2 =>
  gd (zr (h_2 47 1) 4) (
   (Gr_copy o ([49, 57, 65, 73].getD (h_2 47 1).toNatClampNeg 0) h_2).bind fun h_3 =>
   some h_3)

def Pl_clear (p : Nat) (h : zH) : Option (zH) :=
  zlet (upd2 h p 0 0) fun h_1 =>
  zlet (upd2 h_1 p 1 0) fun h_2 =>
  zlet (upd2 h_2 p 2 0) fun h_3 =>
  zlet (upd2 h_3 p 3 0) fun h_4 =>
  zlet (upd2 h_4 p 4 0) fun h_5 =>
  zlet (upd2 h_5 (p + 10) 0 4980) fun h_6 =>
  zlet (upd2 h_6 (p + 11) 0 4) fun h_7 =>
  some h_7

def Pl_isBus (p : Nat) (x1 : Int32) (h : zH) : Option (Int32) :=
  if x1 < 0 then (
   some 0)
  else (
   if (h p 0) ≤ x1 then (
    some 0)
   else (
    some 1))

def Pl_isRow (p : Nat) (x1 : Int32) (h : zH) : Option (Int32) :=
  if x1 < 0 then (
   some 0)
  else (
   if (h p 4) < x1 then (
    some 0)
   else (
    some 1))

def Pl_isFrom (x0 : Int32) (x1 : Int32) (x2 : Int32) : Option (Int32) :=
  if x0 < x1 then (
   some 0)
  else (
   if x2 < x0 then (
    some 0)
   else (
    some 1))

def Pl_isMark (x0 : Int32) (x1 : Int32) : Option (Int32) :=
  if x0 = 0 then (
   (Pl_isFrom x1 4900 5000).bind fun r_1 =>
   gd (zb r_1) (some r_1))
  else (
   (Pl_isFrom x1 4700 4999).bind fun r =>
   gd (zb r) (some r))

def Pl_addBuses (p : Nat) (x1 : Int32) (h : zH) : Option (Int32 × zH) :=
  if 0 < (h p 0) then (
   some (0, h))
  else (
   (Pl_isFrom x1 1 6).bind fun r =>
   if r = 0 then (
    some (0, h))
   else (
    zlet (upd2 h p 0 x1) fun h_1 =>
    some (1, h_1)))

def Pl_addLink (p : Nat) (x1 : Int32) (x2 : Int32) (h : zH) : Option (Int32 × zH) :=
  if 9 ≤ (h p 1) then (
   some (0, h))
  else (
   (Pl_isBus p x1 h).bind fun r =>
   if r = 0 then (
    some (0, h))
   else (
    (Pl_isBus p x2 h).bind fun r_1 =>
    if r_1 = 0 then (
     some (0, h))
    else (
     if x1 = x2 then (
      some (0, h))
     else (
      gd (zr (h p 1) 9) (zlet (upd2 h (p + 1) (h p 1).toNatClampNeg x1) fun h_1 =>
       gd (zr (h_1 p 1) 9) (zlet (upd2 h_1 (p + 2) (h_1 p 1).toNatClampNeg x2) fun h_2 =>
        zlet (upd2 h_2 p 1 ((h_2 p 1) + 1)) fun h_3 =>
        some (1, h_3)))))))

def Pl_addPlant (p : Nat) (x1 : Int32) (x2 : Int32) (x3 : Int32) (x4 : Int32) (h : zH) : Option (Int32 × zH) :=
  if 6 ≤ (h p 2) then (
   some (0, h))
  else (
   (Pl_isBus p x1 h).bind fun r =>
   if r = 0 then (
    some (0, h))
   else (
    (Pl_isFrom x2 1 99).bind fun r_1 =>
    if r_1 = 0 then (
     some (0, h))
    else (
     (Pl_isFrom x3 1 9).bind fun r_2 =>
     if r_2 = 0 then (
      some (0, h))
     else (
      (Pl_isFrom x4 1 9).bind fun r_3 =>
      if r_3 = 0 then (
       some (0, h))
      else (
       gd (zr (h p 2) 6) (zlet (upd2 h (p + 3) (h p 2).toNatClampNeg x1) fun h_1 =>
        gd (zr (h_1 p 2) 6) (zlet (upd2 h_1 (p + 4) (h_1 p 2).toNatClampNeg x2) fun h_2 =>
         gd (zr (h_2 p 2) 6) (zlet (upd2 h_2 (p + 5) (h_2 p 2).toNatClampNeg x3) fun h_3 =>
          gd (zr (h_3 p 2) 6) (zlet (upd2 h_3 (p + 6) (h_3 p 2).toNatClampNeg x4) fun h_4 =>
           zlet (upd2 h_4 p 2 ((h_4 p 2) + 1)) fun h_5 =>
           some (1, h_5))))))))))

def Pl_addFeeder (p : Nat) (x1 : Int32) (x2 : Int32) (x3 : Int32) (h : zH) : Option (Int32 × zH) :=
  if 9 ≤ (h p 3) then (
   some (0, h))
  else (
   (Pl_isBus p x1 h).bind fun r =>
   if r = 0 then (
    some (0, h))
   else (
    (Pl_isFrom x2 1 50).bind fun r_1 =>
    if r_1 = 0 then (
     some (0, h))
    else (
     (Pl_isFrom x3 0 5).bind fun r_2 =>
     if r_2 = 0 then (
      some (0, h))
     else (
      gd (zr (h p 3) 9) (zlet (upd2 h (p + 7) (h p 3).toNatClampNeg x1) fun h_1 =>
       gd (zr (h_1 p 3) 9) (zlet (upd2 h_1 (p + 8) (h_1 p 3).toNatClampNeg x2) fun h_2 =>
        gd (zr (h_2 p 3) 9) (zlet (upd2 h_2 (p + 9) (h_2 p 3).toNatClampNeg x3) fun h_3 =>
         zlet (upd2 h_3 p 3 ((h_3 p 3) + 1)) fun h_4 =>
         some (1, h_4))))))))

def Pl_setRow (p : Nat) (x1 : Int32) (x2 : Int32) (x3 : Int32) (h : zH) : Option (Int32 × zH) :=
  if (h p 0) = 0 then (
   some (0, h))
  else (
   (Pl_isMark x1 x2).bind fun r =>
   if r = 0 then (
    some (0, h))
   else (
    (Pl_isFrom x3 1 9).bind fun r_1 =>
    if r_1 = 0 then (
     some (0, h))
    else (
     gd (zr x1 6) (zlet (upd2 h (p + 10) x1.toNatClampNeg x2) fun h_1 =>
      gd (zr x1 6) (zlet (upd2 h_1 (p + 11) x1.toNatClampNeg x3) fun h_2 =>
       some (1, h_2))))))

def Pl_addStage (p : Nat) (x1 : Int32) (x2 : Int32) (h : zH) : Option (Int32 × zH) :=
  if 5 ≤ (h p 4) then (
   some (0, h))
  else (
   (Pl_setRow p ((h p 4) + 1) x1 x2 h).bind fun r =>
   if r.1 = 0 then (
    some (0, r.2))
   else (
    zlet (upd2 r.2 p 4 ((r.2 p 4) + 1)) fun h_1 =>
    some (1, h_1)))

def Pl_setBack (p : Nat) (x1 : Int32) (x2 : Int32) (h : zH) : Option (Int32 × zH) :=
  (Pl_setRow p 0 x1 x2 h).bind fun r =>
  gd (zb r.1) (some (r.1, r.2))

def Re_readNumbers_L12 (x3 : Int32) (k56 : zH → Option (Int32 × zH)) (k118 : zH → Option (Int32 × zH)) (k126 : Int32 → zH → Option (Int32 × zH)) : Nat → Int32 → Int32 → Int32 → Int32 → zH → Option (Int32 × zH)
  | 0, _, _, _, _, _ => none
  | n + 1, x4, x5, x6, x7, h_1 =>
    if x3 < x7 then (
     k126 x4 h_1)
    else (
     zlet (fun (v36 : Int32) =>
       if v36 = 44 then (
        if x5 = 0 then (
         k56 h_1)
        else (
         if x4 < 4 then (
          gd (zr x4 4) (zlet (upd2 h_1 4 x4.toNatClampNeg x6) fun h_2 =>
           Re_readNumbers_L12 x3 k56 k118 k126 n (x4 + 1) 0 0 (x7 + 1) h_2))
         else (
          k56 h_1)))
       else (
        if v36 < 48 then (
         k118 h_1)
        else (
         if 57 < v36 then (
          k118 h_1)
         else (
          if 4 ≤ x5 then (
           k118 h_1)
          else (
           zlet (((x6 * 10) + v36) - 48) fun x6_1 =>
           Re_readNumbers_L12 x3 k56 k118 k126 n x4 (x5 + 1) x6_1 (x7 + 1) h_1))))) fun j36 =>
     if x3 ≤ x7 then (
      j36 44)
     else (
      gd (zr x7 200) (
       j36 (h_1 2 x7.toNatClampNeg))))
def Re_readNumbers (x2 : Int32) (x3 : Int32) (h : zH) : Option (Int32 × zH) :=
  Re_readNumbers_L12 x3 (fun h_3 =>
   some ((-1), h_3)) (fun h_4 =>
   some ((-1), h_4)) (fun x4_1 h_5 =>
   some (x4_1, h_5)) 1000 0 0 0 x2 h

def Re_takeItem (x2 : Int32) (x3 : Int32) (p : Nat) (h : zH) : Option (Int32 × zH) :=
  (Re_readNumbers (x2 + 1) x3 h).bind fun r =>
  gd (zr x2 200) (
   if (r.2 2 x2.toNatClampNeg) = 98 then (
    if r.1 = 1 then (
     (Pl_addBuses p (r.2 4 0) r.2).bind fun r_1 =>
     if r_1.1 = 0 then (
      some (0, r_1.2))
     else (
      some (1, r_1.2)))
    else (
     some (0, r.2)))
   else if (r.2 2 x2.toNatClampNeg) = 102 then (
    if r.1 = 3 then (
     (Pl_addFeeder p (r.2 4 0) (r.2 4 1) (r.2 4 2) r.2).bind fun r_2 =>
     if r_2.1 = 0 then (
      some (0, r_2.2))
     else (
      some (1, r_2.2)))
    else (
     some (0, r.2)))
   else if (r.2 2 x2.toNatClampNeg) = 108 then (
    if r.1 = 2 then (
     (Pl_addLink p (r.2 4 0) (r.2 4 1) r.2).bind fun r_3 =>
     if r_3.1 = 0 then (
      some (0, r_3.2))
     else (
      some (1, r_3.2)))
    else (
     some (0, r.2)))
   else if (r.2 2 x2.toNatClampNeg) = 112 then (
    if r.1 = 4 then (
     (Pl_addPlant p (r.2 4 0) (r.2 4 1) (r.2 4 2) (r.2 4 3) r.2).bind fun r_4 =>
     if r_4.1 = 0 then (
      some (0, r_4.2))
     else (
      some (1, r_4.2)))
    else (
     some (0, r.2)))
   else if (r.2 2 x2.toNatClampNeg) = 114 then (
    if r.1 = 2 then (
     (Pl_setBack p (r.2 4 0) (r.2 4 1) r.2).bind fun r_5 =>
     if r_5.1 = 0 then (
      some (0, r_5.2))
     else (
      some (1, r_5.2)))
    else (
     some (0, r.2)))
   else if (r.2 2 x2.toNatClampNeg) = 115 then (
    if r.1 = 2 then (
     (Pl_addStage p (r.2 4 0) (r.2 4 1) r.2).bind fun r_6 =>
     if r_6.1 = 0 then (
      some (0, r_6.2))
     else (
      some (1, r_6.2)))
    else (
     some (0, r.2)))
   else (
    some (0, r.2)))

def Re_read_L9 (p : Nat) (k42 : Int32 → zH → Option (Int32 × zH)) (k55 : Int32 → zH → Option (Int32 × zH)) : Nat → Int32 → Int32 → zH → Option (Int32 × zH)
  | 0, _, _, _ => none
  | n + 1, x3, x4, h_2 =>
    if (h_2 1 1) ≤ x4 then (
     k55 x3 h_2)
    else (
     gd (zr x4 200) (
      if (h_2 2 x4.toNatClampNeg) = 59 then (
       (Re_takeItem x3 x4 p h_2).bind fun r =>
       if r.1 = 0 then (
        k42 x3 r.2)
       else (
        zlet (x4 + 1) fun x3_1 =>
        Re_read_L9 p k42 k55 n x3_1 (x4 + 1) r.2))
      else (
       Re_read_L9 p k42 k55 n x3 (x4 + 1) h_2)))
def Re_read (p : Nat) (h : zH) : Option (Int32 × zH) :=
  (Pl_clear p h).bind fun h_1 =>
  Re_read_L9 p (fun x3_2 h_3 =>
   some (x3_2, h_3)) (fun x3_3 h_4 =>
   if (h_4 1 1) ≤ x3_3 then (
    some ((-4), h_4))
   else (
    some (x3_3, h_4))) 1000 0 0 h_1

def SS_write (x1 : Int32) (h : zH) : Option (Int32 × zH) :=
  if x1 < 32 then (
   some ((-1), h))
  else (
   if x1 ≤ 126 then (
    (Le_add x1 h).bind fun r =>
    if r.1 = 0 then (
     some ((-3), r.2))
    else (
     some ((r.2 1 1), r.2)))
   else (
    some ((-1), h)))

def SS_wipe (h : zH) : Option (Int32 × zH) :=
  zlet (h 1 1) fun x1 =>
  (Le_clear h).bind fun h_1 =>
  some (x1, h_1)

def SS_fault (h : zH) : Option (Int32 × zH) :=
  (Re_read 5 h).bind fun r =>
  some (r.1, r.2)

def SS_lay (h : zH) : Option (Int32 × zH) :=
  (Re_read 5 h).bind fun r =>
  if r.1 = (-4) then (
   if (r.2 5 0) = 0 then (
    some ((-2), r.2))
   else (
    (Re_read 17 r.2).bind fun r_1 =>
    (Gr_layOut 29 r_1.2).bind fun h_1 =>
    (Pa_clear h_1).bind fun h_2 =>
    (Gr_islands 29 h_2).bind fun r_2 =>
    some (r_2, h_2)))
  else (
   some ((-2), r.2))

def SS_tick_L51 (x1 : Int32) (k69 : zH → Option (Int32 × zH)) : Nat → Int32 → zH → Option (Int32 × zH)
  | 0, _, _ => none
  | n + 1, x2, h_3 =>
    if x1 ≤ x2 then (
     k69 h_3)
    else (
     (Co_pass 45 29 h_3).bind fun h_4 =>
     SS_tick_L51 x1 k69 n (x2 + 1) h_4)
def SS_tick (x1 : Int32) (h : zH) : Option (Int32 × zH) :=
  if x1 < 1 then (
   some ((-1), h))
  else (
   if x1 ≤ 60 then (
    if ((h 29 11) + x1) ≤ 9999 then (
     (Pa_keep 29 h).bind fun h_1 =>
     (Co_forget 45 29 h_1).bind fun h_2 =>
     SS_tick_L51 x1 (fun h_5 =>
      some ((h_5 45 2), h_5)) 1000 0 h_2)
    else (
     some ((-2), h)))
   else (
    some ((-1), h)))

def SS_isSwitch (x0 : Int32) : Option (Int32) :=
  if x0 = 0 then (
   some 1)
  else (
   if x0 = 1 then (
    some 1)
   else (
    some 0))

def SS_link (x1 : Int32) (x2 : Int32) (h : zH) : Option (Int32 × zH) :=
  if x1 < 0 then (
   some ((-1), h))
  else (
   if (h 17 1) ≤ x1 then (
    some ((-1), h))
   else (
    (SS_isSwitch x2).bind fun r =>
    if r = 0 then (
     some ((-1), h))
    else (
     zlet (fun (v34 : Int32) =>
       (SS_has (h 29 1) x1).bind fun r_1 =>
       if r_1 = v34 then (
        some ((-2), h))
       else (
        zlet (
          (Pa_keep 29 h).bind fun h_1 =>
          if v34 = 0 then (
           (Gr_open 29 x1 h_1).bind fun h_2 =>
           (Gr_islands 29 h_2).bind fun r_2 =>
           some (r_2, h_2))
          else (
           (Gr_close 29 x1 h_1).bind fun h_3 =>
           (Gr_islands 29 h_3).bind fun r_3 =>
           some (r_3, h_3))) fun j68 =>
        if v34 = 0 then (
         j68)
        else (
         (Gr_canClose 29 x1 h).bind fun r_4 =>
         if r_4 = 0 then (
          some ((-2), h))
         else (
          j68)))) fun j34 =>
     if x2 = 1 then (
      j34 1)
     else (
      j34 0))))

def SS_feeder (x1 : Int32) (x2 : Int32) (h : zH) : Option (Int32 × zH) :=
  if x1 < 0 then (
   some ((-1), h))
  else (
   if (h 17 3) ≤ x1 then (
    some ((-1), h))
   else (
    (SS_isSwitch x2).bind fun r =>
    if r = 0 then (
     some ((-1), h))
    else (
     gd (zr x1 9) (
      gd (zr (h 24 x1.toNatClampNeg) 6) (
       zlet (h 30 (h 24 x1.toNatClampNeg).toNatClampNeg) fun x3 =>
       zlet (fun (v52 : Int32) =>
         (SS_has (h 29 7) x1).bind fun r_1 =>
         if r_1 = v52 then (
          some ((-2), h))
         else (
          zlet (
            (Pa_keep 29 h).bind fun h_1 =>
            if v52 = 0 then (
             (Gr_drop 29 x1 h_1).bind fun h_2 =>
             (Gr_loadOf 29 x3 h_2).bind fun r_2 =>
             some (r_2, h_2))
            else (
             (Gr_putOn 29 x1 h_1).bind fun h_3 =>
             (Gr_loadOf 29 x3 h_3).bind fun r_3 =>
             some (r_3, h_3))) fun j89 =>
          if v52 = 0 then (
           j89)
          else (
           (Gr_isDark 29 x3 h).bind fun r_4 =>
           if r_4 = 0 then (
            j89)
           else (
            some ((-2), h))))) fun j52 =>
       if x2 = 1 then (
        j52 1)
       else (
        j52 0))))))

def SS_begin (x1 : Int32) (h : zH) : Option (Int32 × zH) :=
  (Pl_isBus 17 x1 h).bind fun r =>
  if r = 0 then (
   some ((-1), h))
  else (
   gd (zr x1 6) (
    zlet (h 30 x1.toNatClampNeg) fun x2 =>
    (Gr_isDark 29 x2 h).bind fun r_1 =>
    if r_1 = 0 then (
     some ((-2), h))
    else (
     (Gr_heavyOf 29 x2 h).bind fun r_2 =>
     if r_2 = 0 then (
      some ((-2), h))
     else (
      (Pa_keep 29 h).bind fun h_1 =>
      gd (zr x2 6) (zlet (upd2 h_1 32 x2.toNatClampNeg 5000) fun h_2 =>
       (Gr_clearCounts 29 x2 h_2).bind fun h_3 =>
       (Gr_heavyOf 29 x2 h_3).bind fun r_3 =>
       some (r_3, h_3))))))

def SS_mark (x1 : Int32) (x2 : Int32) (h : zH) : Option (Int32 × zH) :=
  (Pl_isRow 17 x1 h).bind fun r =>
  if r = 0 then (
   some ((-1), h))
  else (
   (Pl_isMark x1 x2).bind fun r_1 =>
   if r_1 = 0 then (
    some ((-1), h))
   else (
    gd (zr x1 6) (
     zlet (h 36 x1.toNatClampNeg) fun x3 =>
     if x3 = x2 then (
      some ((-2), h))
     else (
      (Pa_keep 29 h).bind fun h_1 =>
      gd (zr x1 6) (zlet (upd2 h_1 36 x1.toNatClampNeg x2) fun h_2 =>
       some (x3, h_2))))))

def SS_undo (h : zH) : Option (Int32 × zH) :=
  if (h 47 2) = 0 then (
   some ((-2), h))
  else (
   (Pa_giveBack 29 h).bind fun h_1 =>
   some ((h_1 47 2), h_1))

def In_bitCount (x0 : Int32) : Option (Int32) :=
  zlet (x0 - ((zushr x0 1) &&& 1431655765)) fun x0_1 =>
  zlet ((x0_1 &&& 858993459) + ((zushr x0_1 2) &&& 858993459)) fun x0_2 =>
  zlet ((x0_2 + (zushr x0_2 4)) &&& 252645135) fun x0_3 =>
  zlet (x0_3 + (zushr x0_3 8)) fun x0_4 =>
  zlet (x0_4 + (zushr x0_4 16)) fun x0_5 =>
  some (x0_5 &&& 63)

def SS_island (x1 : Int32) (x2 : Int32) (h : zH) : Option (Int32) :=
  (Gr_rootOf 29 x1 h).bind fun r =>
  if 0 ≤ r then (
   if x2 = 0 then (
    (Gr_busBits 29 r h).bind fun r_1 =>
    some r_1)
   else if x2 = 1 then (
    gd (zr r 6) (
     some (h 32 r.toNatClampNeg)))
   else if x2 = 2 then (
    (Gr_loadOf 29 r h).bind fun r_2 =>
    some r_2)
   else if x2 = 3 then (
    (Gr_givenOf 29 r h).bind fun r_3 =>
    some r_3)
   else if x2 = 4 then (
    (Gr_capOf 29 r h).bind fun r_4 =>
    some r_4)
   else if x2 = 5 then (
    (Gr_heavyOf 29 r h).bind fun r_5 =>
    some r_5)
   else if x2 = 6 then (
    (Gr_feederBits 29 r 1 h).bind fun r_6 =>
    (In_bitCount r_6).bind fun r_7 =>
    some r_7)
   else if x2 = 7 then (
    (Gr_feederBits 29 r 0 h).bind fun r_8 =>
    (In_bitCount r_8).bind fun r_9 =>
    some r_9)
   else if x2 = 8 then (
    (Gr_isDark 29 r h).bind fun r_10 =>
    if r_10 = 0 then (
     (Gr_aimOf 29 r h).bind fun r_11 =>
     some r_11)
    else (
     some 0))
   else (
    some (-1)))
  else (
   some (-1))

def SS_counted (x1 : Int32) (x2 : Int32) (h : zH) : Option (Int32) :=
  (Gr_rootOf 29 x1 h).bind fun r =>
  if r < 0 then (
   some (-1))
  else (
   (Pl_isRow 17 x2 h).bind fun r_1 =>
   if r_1 = 0 then (
    some (-1))
   else (
    gd (zr ((r * 6) + x2) 36) (
     some (h 33 ((r * 6) + x2).toNatClampNeg))))

def SS_at (x1 : Int32) (h : zH) : Option (Int32) :=
  (Pl_isBus 17 x1 h).bind fun r =>
  if r = 0 then (
   some (-1))
  else (
   gd (zr x1 6) (
    (Gr_numberOf 29 (h 30 x1.toNatClampNeg) h).bind fun r_1 =>
    some r_1))

def SS_plant (x1 : Int32) (h : zH) : Option (Int32) :=
  if x1 < 0 then (
   some (-1))
  else (
   if x1 < (h 17 2) then (
    gd (zr x1 6) (
     some (h 34 x1.toNatClampNeg)))
   else (
    some (-1)))

def SS_isOn (x1 : Int32) (h : zH) : Option (Int32) :=
  if x1 < 0 then (
   some (-1))
  else (
   if x1 < (h 17 3) then (
    (SS_has (h 29 7) x1).bind fun r =>
    if r = 0 then (
     some 0)
    else (
     some 1))
   else (
    some (-1)))

def SS_isClosed (x1 : Int32) (h : zH) : Option (Int32) :=
  if x1 < 0 then (
   some (-1))
  else (
   if x1 < (h 17 1) then (
    (SS_has (h 29 1) x1).bind fun r =>
    if r = 0 then (
     some 0)
    else (
     some 1))
   else (
    some (-1)))

def SS_dropped (x1 : Int32) (h : zH) : Option (Int32) :=
  if 0 ≤ x1 then (
   if (h 29 9) ≤ x1 then (
    some (-4))
   else (
    gd (zr (((h 29 9) - 1) - x1) 9) (
     some (h 35 (((h 29 9) - 1) - x1).toNatClampNeg))))
  else (
   some (-1))

def SS_ahead_L70 (x1 : Int32) (x4 : Int32) (k106 : Int32 → zH → Option (Int32 × zH)) : Nat → Int32 → Int32 → zH → Option (Int32 × zH)
  | 0, _, _, _ => none
  | n + 1, x5, x6, h_3 =>
    if x1 ≤ x6 then (
     k106 x5 h_3)
    else (
     (Co_pass 46 37 h_3).bind fun h_4 =>
     gd (zr x4 6) (
      zlet (zmin x5 (h_4 40 x4.toNatClampNeg)) fun x5_1 =>
      SS_ahead_L70 x1 x4 k106 n x5_1 (x6 + 1) h_4))
def SS_ahead (x1 : Int32) (x2 : Int32) (x3 : Int32) (h : zH) : Option (Int32 × zH) :=
  if x1 < 1 then (
   some ((-1), h))
  else (
   if 60 < x1 then (
    some ((-1), h))
   else (
    (Pl_isBus 17 x2 h).bind fun r =>
    if r = 0 then (
     some ((-1), h))
    else (
     if x3 < 0 then (
      some ((-1), h))
     else (
      if x3 ≤ 4 then (
       (Gr_copy 37 29 h).bind fun h_1 =>
       (Co_forget 46 37 h_1).bind fun h_2 =>
       gd (zr x2 6) (
        zlet (h_2 38 x2.toNatClampNeg) fun x4 =>
        SS_ahead_L70 x1 x4 (fun x5_2 h_5 =>
         if x3 = 0 then (
          gd (zr x4 6) (
           some ((h_5 40 x4.toNatClampNeg), h_5)))
         else if x3 = 1 then (
          some (x5_2, h_5))
         else if x3 = 2 then (
          some ((h_5 46 2), h_5))
         else if x3 = 3 then (
          some ((h_5 46 3), h_5))
         else (
          some ((h_5 46 4), h_5))) 1000 5200 0 h_2))
      else (
       some ((-1), h))))))

def In_compare (x0 : Int32) (x1 : Int32) : Option (Int32) :=
  if x1 ≤ x0 then (
   if x0 = x1 then (
    some 0)
   else (
    some 1))
  else (
   some (-1))

def SS_isLess (x1 : Int32) (x2 : Int32) (h : zH) : Option (Int32) :=
  (Pl_loadOfSet 17 x1 h).bind fun r =>
  (Pl_loadOfSet 17 x2 h).bind fun r_1 =>
  (In_compare r r_1).bind fun r_2 =>
  if r_2 < 0 then (
   some 1)
  else (
   if r_2 = 0 then (
    (In_bitCount x1).bind fun r_3 =>
    (In_bitCount x2).bind fun r_4 =>
    if r_4 ≤ r_3 then (
     some 0)
    else (
     some 1))
   else (
    some 0))

def SS_holds_L14 (x2 : Int32) (k50 : zH → Option (Int32 × zH)) : Nat → Int32 → zH → Option (Int32 × zH)
  | 0, _, _ => none
  | n + 1, x4, h_2 =>
    if (h_2 17 3) ≤ x4 then (
     k50 h_2)
    else (
     (SS_has x2 x4).bind fun r =>
     if r = 0 then (
      SS_holds_L14 x2 k50 n (x4 + 1) h_2)
     else (
      (Gr_drop 37 x4 h_2).bind fun h_3 =>
      SS_holds_L14 x2 k50 n (x4 + 1) h_3))
def SS_holds_L60 (x1 : Int32) (x3 : Int32) (k95 : zH → Option (Int32 × zH)) (k103 : zH → Option (Int32 × zH)) : Nat → Int32 → zH → Option (Int32 × zH)
  | 0, _, _ => none
  | n_1 + 1, x4_1, h_6 =>
    if x3 ≤ x4_1 then (
     k103 h_6)
    else (
     (Co_passIsland 46 37 x1 h_6).bind fun h_7 =>
     if 0 < (h_7 46 2) then (
      k95 h_7)
     else (
      (Gr_isDark 37 x1 h_7).bind fun r_1 =>
      if r_1 = 0 then (
       SS_holds_L60 x1 x3 k95 k103 n_1 (x4_1 + 1) h_7)
      else (
       k95 h_7)))
def SS_holds (x1 : Int32) (x2 : Int32) (x3 : Int32) (h : zH) : Option (Int32 × zH) :=
  (Gr_copy 37 29 h).bind fun h_1 =>
  SS_holds_L14 x2 (fun h_4 =>
   (Co_forget 46 37 h_4).bind fun h_5 =>
   SS_holds_L60 x1 x3 (fun h_8 =>
    some (0, h_8)) (fun h_9 =>
    some (1, h_9)) 1000 0 h_5) 1000 0 h_1

def SS_leastSet_L31 (x1 : Int32) (x2 : Int32) (r_1 : Int32) (k95 : Int32 → zH → Option (Int32 × zH)) : Nat → Int32 → Int32 → zH → Option (Int32 × zH)
  | 0, _, _, _ => none
  | n + 1, x4, x5, h_1 =>
    if r_1 < x5 then (
     k95 x4 h_1)
    else (
     zlet (fun (v51 : Int32) =>
       if v51 = 0 then (
        SS_leastSet_L31 x1 x2 r_1 k95 n x4 (x5 + 1) h_1)
       else (
        zlet (
          (SS_holds x1 x5 x2 h_1).bind fun r_2 =>
          if r_2.1 = 0 then (
           SS_leastSet_L31 x1 x2 r_1 k95 n x4 (x5 + 1) r_2.2)
          else (
           SS_leastSet_L31 x1 x2 r_1 k95 n x5 (x5 + 1) r_2.2)) fun j74 =>
        if x4 < 0 then (
         j74)
        else (
         (SS_isLess x5 x4 h_1).bind fun r_3 =>
         if r_3 = 0 then (
          SS_leastSet_L31 x1 x2 r_1 k95 n x4 (x5 + 1) h_1)
         else (
          j74)))) fun j51 =>
     if (x5 &&& (r_1 ^^^ (-1))) = 0 then (
      j51 1)
     else (
      j51 0))
def SS_leastSet (x1 : Int32) (x2 : Int32) (h : zH) : Option (Int32 × zH) :=
  (Gr_isDark 29 x1 h).bind fun r =>
  if r = 0 then (
   (Gr_feederBits 29 x1 1 h).bind fun r_1 =>
   SS_leastSet_L31 x1 x2 r_1 (fun x4_1 h_2 =>
    some (x4_1, h_2)) 1000 (-4) 0 h)
  else (
   some ((-4), h))

def SS_least (x1 : Int32) (x2 : Int32) (x3 : Int32) (h : zH) : Option (Int32 × zH) :=
  (Gr_rootOf 29 x1 h).bind fun r =>
  if r < 0 then (
   some ((-1), h))
  else (
   if x2 < 1 then (
    some ((-1), h))
   else (
    if 30 < x2 then (
     some ((-1), h))
    else (
     if x3 < 0 then (
      some ((-1), h))
     else (
      if x3 ≤ 1 then (
       (SS_leastSet r x2 h).bind fun r_1 =>
       if 0 ≤ r_1.1 then (
        if x3 = 0 then (
         some (r_1.1, r_1.2))
        else (
         (Pl_loadOfSet 17 r_1.1 r_1.2).bind fun r_2 =>
         some (r_2, r_1.2)))
       else (
        some ((-4), r_1.2)))
      else (
       some ((-1), h))))))

def SS_dark_L50 (x2 : Int32) (k75 : Int32 → zH → Option (Int32 × zH)) (k83 : zH → Option (Int32 × zH)) : Nat → Int32 → zH → Option (Int32 × zH)
  | 0, _, _ => none
  | n + 1, x3, h_2 =>
    if 60 < x3 then (
     k83 h_2)
    else (
     (Co_passIsland 46 37 x2 h_2).bind fun h_3 =>
     (Gr_isDark 37 x2 h_3).bind fun r_2 =>
     if r_2 = 0 then (
      SS_dark_L50 x2 k75 k83 n (x3 + 1) h_3)
     else (
      k75 x3 h_3))
def SS_dark (x1 : Int32) (h : zH) : Option (Int32 × zH) :=
  (Pl_isBus 17 x1 h).bind fun r =>
  if r = 0 then (
   some ((-1), h))
  else (
   gd (zr x1 6) (
    zlet (h 30 x1.toNatClampNeg) fun x2 =>
    (Gr_isDark 29 x2 h).bind fun r_1 =>
    if r_1 = 0 then (
     (Gr_copy 37 29 h).bind fun h_1 =>
     SS_dark_L50 x2 (fun x3_1 h_4 =>
      some (x3_1, h_4)) (fun h_5 =>
      some ((-4), h_5)) 1000 1 h_1)
    else (
     some ((-2), h))))

def SS_count (x1 : Int32) (h : zH) : Option (Int32) :=
  if x1 = 0 then (
   some (h 17 0))
  else if x1 = 1 then (
   some (h 17 1))
  else if x1 = 2 then (
   some (h 17 2))
  else if x1 = 3 then (
   some (h 17 3))
  else if x1 = 4 then (
   some (h 17 4))
  else if x1 = 5 then (
   (Gr_islands 29 h).bind fun r =>
   some r)
  else if x1 = 6 then (
   (Gr_darkIslands 29 h).bind fun r_1 =>
   some r_1)
  else if x1 = 7 then (
   some (h 29 11))
  else if x1 = 8 then (
   some ((h 17 3) - (h 29 9)))
  else if x1 = 9 then (
   (Gr_loadOfAll 29 h).bind fun r_2 =>
   some r_2)
  else if x1 = 10 then (
   some (h 47 2))
  else if x1 = 11 then (
   some (h 1 1))
  else (
   some (-1))

def Mo_isIn (x0 : Int32) (x1 : Int32) (x2 : Int32) : Option (Int32) :=
  if x0 < x1 then (
   some 0)
  else (
   if x2 < x0 then (
    some 0)
   else (
    some 1))

def Mo_has (x0 : Int32) (x1 : Int32) : Option (Int32) :=
  if ((zshr x0 x1) &&& 1) = 1 then (
   some 1)
  else (
   some 0)

def Mo_clears_L2 (k21 : zH → Option (zH)) : Nat → Int32 → zH → Option (zH)
  | 0, _, _ => none
  | n + 1, x1, h_1 =>
    if 10 ≤ x1 then (
     k21 h_1)
    else (
     gd (zr x1 10) (zlet (upd2 h_1 2 x1.toNatClampNeg 0) fun h_2 =>
      Mo_clears_L2 k21 n (x1 + 1) h_2))
def Mo_clears (h : zH) : Option (zH) :=
  Mo_clears_L2 (fun h_3 =>
   zlet (upd2 h_3 6 12 4980) fun h_4 =>
   zlet (upd2 h_4 6 13 4) fun h_5 =>
   some h_5) 1000 5 h

def Mo_adds (x1 : Int32) (x2 : Int32) (x3 : Int32) (x4 : Int32) (x5 : Int32) (h : zH) : Option (zH) :=
  gd (zr (5 + x1) 10) (
   zlet (h 2 (5 + x1).toNatClampNeg) fun x6 =>
   gd (zr (5 + x1) 10) (
    gd (zr (5 + x1) 10) (zlet (upd2 h 2 (5 + x1).toNatClampNeg ((h 2 (5 + x1).toNatClampNeg) + 1)) fun h_1 =>
     if x1 = 1 then (
      gd (zr (18 + (2 * x6)) 36) (zlet (upd2 h_1 3 (18 + (2 * x6)).toNatClampNeg x2) fun h_11 =>
       gd (zr (19 + (2 * x6)) 36) (zlet (upd2 h_11 3 (19 + (2 * x6)).toNatClampNeg x3) fun h_12 =>
        some h_12)))
     else (
      if x1 = 2 then (
       gd (zr (24 + (4 * x6)) 48) (zlet (upd2 h_1 4 (24 + (4 * x6)).toNatClampNeg x2) fun h_7 =>
        gd (zr (25 + (4 * x6)) 48) (zlet (upd2 h_7 4 (25 + (4 * x6)).toNatClampNeg x3) fun h_8 =>
         gd (zr (26 + (4 * x6)) 48) (zlet (upd2 h_8 4 (26 + (4 * x6)).toNatClampNeg x4) fun h_9 =>
          gd (zr (27 + (4 * x6)) 48) (zlet (upd2 h_9 4 (27 + (4 * x6)).toNatClampNeg x5) fun h_10 =>
           some h_10)))))
      else (
       if x1 = 3 then (
        gd (zr (27 + (3 * x6)) 54) (zlet (upd2 h_1 5 (27 + (3 * x6)).toNatClampNeg x2) fun h_4 =>
         gd (zr (28 + (3 * x6)) 54) (zlet (upd2 h_4 5 (28 + (3 * x6)).toNatClampNeg x3) fun h_5 =>
          gd (zr (29 + (3 * x6)) 54) (zlet (upd2 h_5 5 (29 + (3 * x6)).toNatClampNeg x4) fun h_6 =>
           some h_6))))
       else (
        gd (zr (14 + (2 * x6)) 24) (zlet (upd2 h_1 6 (14 + (2 * x6)).toNatClampNeg x2) fun h_2 =>
         gd (zr (15 + (2 * x6)) 24) (zlet (upd2 h_2 6 (15 + (2 * x6)).toNatClampNeg x3) fun h_3 =>
          some h_3))))))))

def Mo_busesOf_L16 (h : zH) (k91 : Int32 → Option (Int32)) : Nat → Int32 → Int32 → Option (Int32)
  | 0, _, _ => none
  | n_1 + 1, x2_2, x4 =>
    if (h 2 1) ≤ x4 then (
     k91 x2_2)
    else (
     gd (zr (2 * x4) 36) (
      gd (zr ((2 * x4) + 1) 36) (
       zlet ((zshl 1 (h 3 (2 * x4).toNatClampNeg)) ||| (zshl 1 (h 3 ((2 * x4) + 1).toNatClampNeg))) fun x5 =>
       (Mo_has (h 7 43) x4).bind fun r =>
       if r = 0 then (
        zlet (x2_2 ||| 0) fun x2_3 =>
        Mo_busesOf_L16 h k91 n_1 x2_3 (x4 + 1))
       else (
        if (x2_2 &&& x5) = 0 then (
         zlet (x2_2 ||| 0) fun x2_4 =>
         Mo_busesOf_L16 h k91 n_1 x2_4 (x4 + 1))
        else (
         zlet (x2_2 ||| x5) fun x2_5 =>
         Mo_busesOf_L16 h k91 n_1 x2_5 (x4 + 1))))))
def Mo_busesOf_L6 (h : zH) (k94 : Int32 → Option (Int32)) : Nat → Int32 → Int32 → Option (Int32)
  | 0, _, _ => none
  | n + 1, x2_1, x3 =>
    if x3 = x2_1 then (
     k94 x2_1)
    else (
     Mo_busesOf_L16 h (fun x2_6 =>
      Mo_busesOf_L6 h k94 n x2_6 x2_1) 1000 x2_1 0)
def Mo_busesOf (x1 : Int32) (h : zH) : Option (Int32) :=
  zlet (zshl 1 x1) fun x2 =>
  Mo_busesOf_L6 h (fun x2_7 =>
   some x2_7) 1000 x2 0

def Mo_isLowest (x1 : Int32) (h : zH) : Option (Int32) :=
  (Mo_busesOf x1 h).bind fun r =>
  if (r &&& ((zshl 1 x1) - 1)) = 0 then (
   some 1)
  else (
   some 0)

def Mo_load_L4 (x1 : Int32) (h : zH) (k66 : Int32 → Option (Int32)) : Nat → Int32 → Int32 → Option (Int32)
  | 0, _, _ => none
  | n + 1, x2, x3 =>
    if (h 2 3) ≤ x3 then (
     k66 x2)
    else (
     gd (zr (3 * x3) 54) (
      (Mo_has x1 (h 5 (3 * x3).toNatClampNeg)).bind fun r =>
      if r = 0 then (
       zlet (x2 + 0) fun x2_1 =>
       Mo_load_L4 x1 h k66 n x2_1 (x3 + 1))
      else (
       (Mo_has (h 7 42) x3).bind fun r_1 =>
       if r_1 = 0 then (
        zlet (x2 + 0) fun x2_2 =>
        Mo_load_L4 x1 h k66 n x2_2 (x3 + 1))
       else (
        gd (zr ((3 * x3) + 1) 54) (
         zlet (x2 + (h 5 ((3 * x3) + 1).toNatClampNeg)) fun x2_3 =>
         Mo_load_L4 x1 h k66 n x2_3 (x3 + 1))))))
def Mo_load (x1 : Int32) (h : zH) : Option (Int32) :=
  Mo_load_L4 x1 h (fun x2_4 =>
   some x2_4) 1000 0 0

def Mo_begins_L8 (x1 : Int32) (k84 : zH → Option (zH)) : Nat → Int32 → Int32 → zH → Option (zH)
  | 0, _, _, _ => none
  | n + 1, x2, x3, h_1 =>
    if (h_1 2 2) ≤ x3 then (
     k84 h_1)
    else (
     gd (zr (4 * x3) 48) (
      (Mo_has x1 (h_1 4 (4 * x3).toNatClampNeg)).bind fun r_1 =>
      if r_1 = 0 then (
       Mo_begins_L8 x1 k84 n x2 (x3 + 1) h_1)
      else (
       gd (zr ((4 * x3) + 1) 48) (
        zlet (h_1 4 ((4 * x3) + 1).toNatClampNeg) fun x4 =>
        zlet (fun (v65 : Int32) =>
          gd (zr (44 + x3) 67) (zlet (upd2 h_1 7 (44 + x3).toNatClampNeg v65) fun h_2 =>
           gd (zr (44 + x3) 67) (
            zlet (x2 - (h_2 7 (44 + x3).toNatClampNeg)) fun x2_1 =>
            Mo_begins_L8 x1 k84 n x2_1 (x3 + 1) h_2))) fun j65 =>
        if x4 ≤ x2 then (
         j65 x4)
        else (
         j65 x2)))))
def Mo_begins (x1 : Int32) (h : zH) : Option (zH) :=
  (Mo_load x1 h).bind fun r =>
  Mo_begins_L8 x1 (fun h_3 =>
   some h_3) 1000 r 0 h

def Mo_takes_L2 (k27 : zH → Option (zH)) : Nat → Int32 → zH → Option (zH)
  | 0, _, _ => none
  | n + 1, x1, h_1 =>
    if 5 ≤ x1 then (
     k27 h_1)
    else (
     gd (zr (5 + x1) 10) (
      gd (zr x1 10) (zlet (upd2 h_1 2 x1.toNatClampNeg (h_1 2 (5 + x1).toNatClampNeg)) fun h_2 =>
       Mo_takes_L2 k27 n (x1 + 1) h_2)))
def Mo_takes_L29 (k119 : zH → Option (zH)) : Nat → Int32 → zH → Option (zH)
  | 0, _, _ => none
  | n_1 + 1, x1_1, h_4 =>
    if 27 ≤ x1_1 then (
     k119 h_4)
    else (
     zlet (fun (h_5 : zH) =>
       zlet (fun (h_6 : zH) =>
         gd (zr (27 + x1_1) 54) (
          gd (zr x1_1 54) (zlet (upd2 h_6 5 x1_1.toNatClampNeg (h_6 5 (27 + x1_1).toNatClampNeg)) fun h_7 =>
           if 12 ≤ x1_1 then (
            Mo_takes_L29 k119 n_1 (x1_1 + 1) h_7)
           else (
            gd (zr (12 + x1_1) 24) (
             gd (zr x1_1 24) (zlet (upd2 h_7 6 x1_1.toNatClampNeg (h_7 6 (12 + x1_1).toNatClampNeg)) fun h_8 =>
              Mo_takes_L29 k119 n_1 (x1_1 + 1) h_8)))))) fun j77 =>
       if 24 ≤ x1_1 then (
        j77 h_5)
       else (
        gd (zr (24 + x1_1) 48) (
         gd (zr x1_1 48) (zlet (upd2 h_5 4 x1_1.toNatClampNeg (h_5 4 (24 + x1_1).toNatClampNeg)) fun h_9 =>
          j77 h_9)))) fun j56 =>
     if 18 ≤ x1_1 then (
      j56 h_4)
     else (
      gd (zr (18 + x1_1) 36) (
       gd (zr x1_1 36) (zlet (upd2 h_4 3 x1_1.toNatClampNeg (h_4 3 (18 + x1_1).toNatClampNeg)) fun h_10 =>
        j56 h_10))))
def Mo_takes_L121 (k140 : zH → Option (zH)) : Nat → Int32 → zH → Option (zH)
  | 0, _, _ => none
  | n_2 + 1, x1_2, h_12 =>
    if 67 ≤ x1_2 then (
     k140 h_12)
    else (
     gd (zr x1_2 67) (zlet (upd2 h_12 7 x1_2.toNatClampNeg 0) fun h_13 =>
      Mo_takes_L121 k140 n_2 (x1_2 + 1) h_13))
def Mo_takes_L142 (k167 : zH → Option (zH)) : Nat → Int32 → zH → Option (zH)
  | 0, _, _ => none
  | n_3 + 1, x1_3, h_15 =>
    if (h_15 2 0) ≤ x1_3 then (
     k167 h_15)
    else (
     gd (zr x1_3 67) (zlet (upd2 h_15 7 x1_3.toNatClampNeg 5000) fun h_16 =>
      Mo_takes_L142 k167 n_3 (x1_3 + 1) h_16))
def Mo_takes_L203 (k236 : zH → Option (zH)) : Nat → Int32 → zH → Option (zH)
  | 0, _, _ => none
  | n_4 + 1, x1_4, h_20 =>
    if (h_20 2 4) < x1_4 then (
     k236 h_20)
    else (
     gd (zr (2 * x1_4) 24) (
      gd (zr (60 + x1_4) 67) (zlet (upd2 h_20 7 (60 + x1_4).toNatClampNeg (h_20 6 (2 * x1_4).toNatClampNeg)) fun h_21 =>
       Mo_takes_L203 k236 n_4 (x1_4 + 1) h_21)))
def Mo_takes_L238 (k271 : zH → Option (zH)) : Nat → Int32 → zH → Option (zH)
  | 0, _, _ => none
  | n_5 + 1, x1_5, h_23 =>
    if (h_23 2 0) ≤ x1_5 then (
     k271 h_23)
    else (
     (Mo_isLowest x1_5 h_23).bind fun r =>
     if r = 0 then (
      Mo_takes_L238 k271 n_5 (x1_5 + 1) h_23)
     else (
      (Mo_busesOf x1_5 h_23).bind fun r_1 =>
      (Mo_begins r_1 h_23).bind fun h_24 =>
      Mo_takes_L238 k271 n_5 (x1_5 + 1) h_24))
def Mo_takes (h : zH) : Option (zH) :=
  Mo_takes_L2 (fun h_3 =>
   Mo_takes_L29 (fun h_11 =>
    Mo_takes_L121 (fun h_14 =>
     Mo_takes_L142 (fun h_17 =>
      zlet (upd2 h_17 7 42 ((zshl 1 (h_17 2 3)) - 1)) fun h_18 =>
      zlet (upd2 h_18 7 43 ((zshl 1 (h_18 2 1)) - 1)) fun h_19 =>
      Mo_takes_L203 (fun h_22 =>
       Mo_takes_L238 (fun h_25 =>
        zlet (upd2 h_25 0 10 0) fun h_26 =>
        some h_26) 1000 0 h_22) 1000 0 h_19) 1000 0 h_14) 1000 0 h_11) 1000 0 h_3) 1000 0 h

def Mo_letterAt (x1 : Int32) (h : zH) : Option (Int32) :=
  if (h 0 0) ≤ x1 then (
   some 0)
  else (
   gd (zr x1 200) (
    some (h 1 x1.toNatClampNeg)))

def Mo_number_L10 (x1 : Int32) (k83 : zH → Option (Int32 × zH)) : Nat → zH → Option (Int32 × zH)
  | 0, _ => none
  | n + 1, h_3 =>
    if (x1 + 4) ≤ (h_3 0 12) then (
     k83 h_3)
    else (
     (Mo_letterAt (h_3 0 12) h_3).bind fun r =>
     if r < 48 then (
      k83 h_3)
     else (
      (Mo_letterAt (h_3 0 12) h_3).bind fun r_1 =>
      if 57 < r_1 then (
       k83 h_3)
      else (
       gd (zr (h_3 0 12) 200) (
        zlet (upd2 h_3 0 11 (((10 * (h_3 0 11)) + (h_3 1 (h_3 0 12).toNatClampNeg)) - 48)) fun h_4 =>
        zlet (upd2 h_4 0 12 ((h_4 0 12) + 1)) fun h_5 =>
        Mo_number_L10 x1 k83 n h_5))))
def Mo_number (x1 : Int32) (x2 : Int32) (x3 : Int32) (h : zH) : Option (Int32 × zH) :=
  zlet (upd2 h 0 11 0) fun h_1 =>
  zlet (upd2 h_1 0 12 x1) fun h_2 =>
  Mo_number_L10 x1 (fun h_6 =>
   if (h_6 0 12) ≤ x1 then (
    some (0, h_6))
   else (
    (Mo_isIn (h_6 0 11) x2 x3).bind fun r_2 =>
    if r_2 = 0 then (
     some (0, h_6))
    else (
     some (1, h_6)))) 1000 h_2

def Mo_more (x1 : Int32) (x2 : Int32) (h : zH) : Option (Int32 × zH) :=
  (Mo_letterAt (h 0 12) h).bind fun r =>
  if r = 44 then (
   (Mo_number ((h 0 12) + 1) x1 x2 h).bind fun r_1 =>
   if r_1.1 = 0 then (
    some (0, r_1.2))
   else (
    some (1, r_1.2)))
  else (
   some (0, h))

def Mo_readsLink (x1 : Int32) (h : zH) : Option (Int32 × zH) :=
  if (h 2 6) = 9 then (
   some (0, h))
  else (
   (Mo_number x1 0 ((h 2 5) - 1) h).bind fun r =>
   if r.1 = 0 then (
    some (0, r.2))
   else (
    zlet (r.2 0 11) fun x2 =>
    (Mo_more 0 ((r.2 2 5) - 1) r.2).bind fun r_1 =>
    zlet (fun (v65 : Int32) =>
      if v65 = 0 then (
       gd (zb v65) (some (v65, r_1.2)))
      else (
       (Mo_adds 1 x2 (r_1.2 0 11) 0 0 r_1.2).bind fun h_1 =>
       gd (zb v65) (some (v65, h_1)))) fun j65 =>
    if r_1.1 = 0 then (
     j65 0)
    else (
     if (r_1.2 0 11) = x2 then (
      j65 0)
     else (
      j65 1))))

def Mo_readsPlant (x1 : Int32) (h : zH) : Option (Int32 × zH) :=
  if (h 2 7) = 6 then (
   some (0, h))
  else (
   (Mo_number x1 0 ((h 2 5) - 1) h).bind fun r =>
   if r.1 = 0 then (
    some (0, r.2))
   else (
    zlet (r.2 0 11) fun x2 =>
    (Mo_more 1 99 r.2).bind fun r_1 =>
    if r_1.1 = 0 then (
     some (0, r_1.2))
    else (
     zlet (r_1.2 0 11) fun x3 =>
     (Mo_more 1 9 r_1.2).bind fun r_2 =>
     if r_2.1 = 0 then (
      some (0, r_2.2))
     else (
      zlet (r_2.2 0 11) fun x4 =>
      (Mo_more 1 9 r_2.2).bind fun r_3 =>
      if r_3.1 = 0 then (
       gd (zb r_3.1) (some (r_3.1, r_3.2)))
      else (
       (Mo_adds 2 x2 x3 x4 (r_3.2 0 11) r_3.2).bind fun h_1 =>
       gd (zb r_3.1) (some (r_3.1, h_1)))))))

def Mo_readsFeeder (x1 : Int32) (h : zH) : Option (Int32 × zH) :=
  if (h 2 8) = 9 then (
   some (0, h))
  else (
   (Mo_number x1 0 ((h 2 5) - 1) h).bind fun r =>
   if r.1 = 0 then (
    some (0, r.2))
   else (
    zlet (r.2 0 11) fun x2 =>
    (Mo_more 1 50 r.2).bind fun r_1 =>
    if r_1.1 = 0 then (
     some (0, r_1.2))
    else (
     zlet (r_1.2 0 11) fun x3 =>
     (Mo_more 0 5 r_1.2).bind fun r_2 =>
     if r_2.1 = 0 then (
      gd (zb r_2.1) (some (r_2.1, r_2.2)))
     else (
      (Mo_adds 3 x2 x3 (r_2.2 0 11) 0 r_2.2).bind fun h_1 =>
      gd (zb r_2.1) (some (r_2.1, h_1))))))

def Mo_readsStage (x1 : Int32) (h : zH) : Option (Int32 × zH) :=
  if (h 2 9) = 5 then (
   some (0, h))
  else (
   (Mo_number x1 4700 4999 h).bind fun r =>
   if r.1 = 0 then (
    some (0, r.2))
   else (
    zlet (r.2 0 11) fun x2 =>
    (Mo_more 1 9 r.2).bind fun r_1 =>
    if r_1.1 = 0 then (
     gd (zb r_1.1) (some (r_1.1, r_1.2)))
    else (
     (Mo_adds 4 x2 (r_1.2 0 11) 0 0 r_1.2).bind fun h_1 =>
     gd (zb r_1.1) (some (r_1.1, h_1)))))

def Mo_readsBack (x1 : Int32) (h : zH) : Option (Int32 × zH) :=
  (Mo_number x1 4900 5000 h).bind fun r =>
  if r.1 = 0 then (
   some (0, r.2))
  else (
   zlet (upd2 r.2 6 12 (r.2 0 11)) fun h_1 =>
   (Mo_more 1 9 h_1).bind fun r_1 =>
   zlet (upd2 r_1.2 6 13 (r_1.2 0 11)) fun h_2 =>
   gd (zb r_1.1) (some (r_1.1, h_2)))

def Mo_readsItem (x1 : Int32) (x2 : Int32) (x3 : Int32) (h : zH) : Option (Int32 × zH) :=
  zlet (fun (v12 : Int32) =>
    if x3 = v12 then (
     if x1 = 98 then (
      (Mo_number x2 1 6 h).bind fun r =>
      if r.1 = 0 then (
       zlet (upd2 r.2 2 5 0) fun h_1 =>
       gd (zb r.1) (some (r.1, h_1)))
      else (
       zlet (upd2 r.2 2 5 (r.2 0 11)) fun h_2 =>
       gd (zb r.1) (some (r.1, h_2))))
     else if x1 = 102 then (
      (Mo_readsFeeder x2 h).bind fun r_1 =>
      gd (zb r_1.1) (some (r_1.1, r_1.2)))
     else if x1 = 108 then (
      (Mo_readsLink x2 h).bind fun r_2 =>
      gd (zb r_2.1) (some (r_2.1, r_2.2)))
     else if x1 = 112 then (
      (Mo_readsPlant x2 h).bind fun r_3 =>
      gd (zb r_3.1) (some (r_3.1, r_3.2)))
     else if x1 = 114 then (
      (Mo_readsBack x2 h).bind fun r_4 =>
      gd (zb r_4.1) (some (r_4.1, r_4.2)))
     else if x1 = 115 then (
      (Mo_readsStage x2 h).bind fun r_5 =>
      gd (zb r_5.1) (some (r_5.1, r_5.2)))
     else (
      some (0, h)))
    else (
     some (0, h))) fun j12 =>
  if x1 = 98 then (
   j12 1)
  else (
   j12 0)

def Mo_reads_L6 (k52 : Int32 → zH → Option (Int32 × zH)) (k64 : zH → Option (Int32 × zH)) : Nat → Int32 → zH → Option (Int32 × zH)
  | 0, _, _ => none
  | n + 1, x1, h_2 =>
    if (h_2 0 0) ≤ x1 then (
     k64 h_2)
    else (
     gd (zr x1 200) (
      zlet (fun (v33 : Int32) =>
        (Mo_readsItem (h_2 1 x1.toNatClampNeg) (x1 + 1) v33 h_2).bind fun r =>
        if r.1 = 0 then (
         k52 x1 r.2)
        else (
         (Mo_letterAt (r.2 0 12) r.2).bind fun r_1 =>
         if r_1 = 59 then (
          zlet ((r.2 0 12) + 1) fun x1_1 =>
          Mo_reads_L6 k52 k64 n x1_1 r.2)
         else (
          k52 x1 r.2))) fun j33 =>
      if x1 = 0 then (
       j33 1)
      else (
       j33 0)))
def Mo_reads (h : zH) : Option (Int32 × zH) :=
  (Mo_clears h).bind fun h_1 =>
  Mo_reads_L6 (fun x1_2 h_3 =>
   some (x1_2, h_3)) (fun h_4 =>
   some ((-4), h_4)) 1000 0 h_1

def Mo_write (x1 : Int32) (h : zH) : Option (Int32 × zH) :=
  if x1 < 32 then (
   some ((-1), h))
  else (
   if x1 ≤ 126 then (
    if (h 0 0) = 200 then (
     some ((-3), h))
    else (
     gd (zr (h 0 0) 200) (zlet (upd2 h 1 (h 0 0).toNatClampNeg x1) fun h_1 =>
      zlet (upd2 h_1 0 0 ((h_1 0 0) + 1)) fun h_2 =>
      some ((h_2 0 0), h_2))))
   else (
    some ((-1), h)))

def Mo_wipe (h : zH) : Option (Int32 × zH) :=
  zlet (h 0 0) fun x1 =>
  zlet (upd2 h 0 0 0) fun h_1 =>
  some (x1, h_1)

def Mo_fault (h : zH) : Option (Int32 × zH) :=
  (Mo_reads h).bind fun r =>
  some (r.1, r.2)

def Mo_islands_L4 (h : zH) (k36 : Int32 → Option (Int32)) : Nat → Int32 → Int32 → Option (Int32)
  | 0, _, _ => none
  | n + 1, x1, x2 =>
    if (h 2 0) ≤ x2 then (
     k36 x1)
    else (
     (Mo_isLowest x2 h).bind fun r =>
     if r = 0 then (
      zlet (x1 + 0) fun x1_1 =>
      Mo_islands_L4 h k36 n x1_1 (x2 + 1))
     else (
      zlet (x1 + 1) fun x1_2 =>
      Mo_islands_L4 h k36 n x1_2 (x2 + 1)))
def Mo_islands (h : zH) : Option (Int32) :=
  Mo_islands_L4 h (fun x1_3 =>
   some x1_3) 1000 0 0

def Mo_lay (h : zH) : Option (Int32 × zH) :=
  (Mo_reads h).bind fun r =>
  if r.1 = (-4) then (
   if (r.2 2 5) = 0 then (
    some ((-2), r.2))
   else (
    (Mo_takes r.2).bind fun h_1 =>
    (Mo_islands h_1).bind fun r_1 =>
    some (r_1, h_1)))
  else (
   some ((-2), r.2))

def Mo_busOf_L4 (x1 : Int32) (h : zH) (k27 : Int32 → Option (Int32)) (k38 : Option (Int32)) : Nat → Int32 → Int32 → Option (Int32)
  | 0, _, _ => none
  | n + 1, x2, x3 =>
    if (h 2 0) ≤ x3 then (
     k38)
    else (
     (Mo_isLowest x3 h).bind fun r =>
     if r = 0 then (
      Mo_busOf_L4 x1 h k27 k38 n x2 (x3 + 1))
     else (
      if x2 = x1 then (
       k27 x3)
      else (
       Mo_busOf_L4 x1 h k27 k38 n (x2 + 1) (x3 + 1))))
def Mo_busOf (x1 : Int32) (h : zH) : Option (Int32) :=
  Mo_busOf_L4 x1 h (fun x3_1 =>
   some x3_1) (some (-4)) 1000 0 0

def Mo_plants_L5 (x1 : Int32) (x2 : Int32) (h : zH) (k78 : Int32 → Option (Int32)) : Nat → Int32 → Int32 → Option (Int32)
  | 0, _, _ => none
  | n + 1, x3, x4 =>
    if (h 2 2) ≤ x4 then (
     k78 x3)
    else (
     gd (zr (4 * x4) 48) (
      (Mo_has x1 (h 4 (4 * x4).toNatClampNeg)).bind fun r =>
      if r = 0 then (
       Mo_plants_L5 x1 x2 h k78 n x3 (x4 + 1))
      else (
       if x2 = 0 then (
        gd (zr (44 + x4) 67) (
         zlet (x3 + (h 7 (44 + x4).toNatClampNeg)) fun x3_3 =>
         Mo_plants_L5 x1 x2 h k78 n x3_3 (x4 + 1)))
       else (
        if x2 = 4 then (
         zlet (x3 + 1) fun x3_2 =>
         Mo_plants_L5 x1 x2 h k78 n x3_2 (x4 + 1))
        else (
         gd (zr ((4 * x4) + x2) 48) (
          zlet (x3 + (h 4 ((4 * x4) + x2).toNatClampNeg)) fun x3_1 =>
          Mo_plants_L5 x1 x2 h k78 n x3_1 (x4 + 1)))))))
def Mo_plants (x1 : Int32) (x2 : Int32) (h : zH) : Option (Int32) :=
  Mo_plants_L5 x1 x2 h (fun x3_4 =>
   some x3_4) 1000 0 0

def Mo_aim (x1 : Int32) (x2 : Int32) (h : zH) : Option (Int32) :=
  (Mo_load x1 h).bind fun r =>
  some (r + ((5000 - x2) / 20))

def Mo_frequency_L2 (x1 : Int32) (x2 : Int32) (k42 : zH → Option (zH)) : Nat → Int32 → zH → Option (zH)
  | 0, _, _ => none
  | n + 1, x3, h_1 =>
    if (h_1 2 0) ≤ x3 then (
     k42 h_1)
    else (
     (Mo_has x1 x3).bind fun r =>
     if r = 0 then (
      gd (zr x3 67) (
       gd (zr x3 67) (zlet (upd2 h_1 7 x3.toNatClampNeg (h_1 7 x3.toNatClampNeg)) fun h_2 =>
        Mo_frequency_L2 x1 x2 k42 n (x3 + 1) h_2)))
     else (
      gd (zr x3 67) (zlet (upd2 h_1 7 x3.toNatClampNeg x2) fun h_3 =>
       Mo_frequency_L2 x1 x2 k42 n (x3 + 1) h_3)))
def Mo_frequency (x1 : Int32) (x2 : Int32) (h : zH) : Option (zH) :=
  Mo_frequency_L2 x1 x2 (fun h_4 =>
   some h_4) 1000 0 h

def Mo_counts_L3 (x1 : Int32) (x2 : Int32) (x3 : Int32) (k59 : zH → Option (zH)) : Nat → Int32 → zH → Option (zH)
  | 0, _, _ => none
  | n + 1, x4, h_1 =>
    if (h_1 2 0) ≤ x4 then (
     k59 h_1)
    else (
     zlet ((6 + (6 * x4)) + x2) fun x5 =>
     (Mo_has x1 x4).bind fun r =>
     if r = 0 then (
      gd (zr x5 67) (
       gd (zr x5 67) (zlet (upd2 h_1 7 x5.toNatClampNeg (h_1 7 x5.toNatClampNeg)) fun h_2 =>
        Mo_counts_L3 x1 x2 x3 k59 n (x4 + 1) h_2)))
     else (
      gd (zr x5 67) (zlet (upd2 h_1 7 x5.toNatClampNeg x3) fun h_3 =>
       Mo_counts_L3 x1 x2 x3 k59 n (x4 + 1) h_3)))
def Mo_counts (x1 : Int32) (x2 : Int32) (x3 : Int32) (h : zH) : Option (zH) :=
  Mo_counts_L3 x1 x2 x3 (fun h_4 =>
   some h_4) 1000 0 h

def Mo_drop (x1 : Int32) (h : zH) : Option (zH) :=
  zlet (upd2 h 7 42 ((h 7 42) &&& ((zshl 1 x1) ^^^ (-1)))) fun h_1 =>
  gd (zr (51 + (h_1 7 50)) 67) (zlet (upd2 h_1 7 (51 + (h_1 7 50)).toNatClampNeg x1) fun h_2 =>
   zlet (upd2 h_2 7 50 ((h_2 7 50) + 1)) fun h_3 =>
   zlet (upd2 h_3 0 13 ((h_3 0 13) + 1)) fun h_4 =>
   gd (zr ((3 * x1) + 1) 54) (
    zlet (upd2 h_4 0 14 ((h_4 0 14) + (h_4 5 ((3 * x1) + 1).toNatClampNeg))) fun h_5 =>
    zlet (upd2 h_5 0 16 ((h_5 0 16) ||| (zshl 1 x1))) fun h_6 =>
    some h_6))

def Mo_on_L2 (x1 : Int32) (h : zH) (k21 : Int32 → Option (zH)) : Nat → Int32 → Option (zH)
  | 0, _ => none
  | n + 1, x2 =>
    gd (zr (51 + x2) 67) (
     if (h 7 (51 + x2).toNatClampNeg) = x1 then (
      k21 x2)
     else (
      Mo_on_L2 x1 h k21 n (x2 + 1)))
def Mo_on_L34 (k71 : zH → Option (zH)) : Nat → Int32 → zH → Option (zH)
  | 0, _, _ => none
  | n_1 + 1, x3, h_2 =>
    if (h_2 7 50) ≤ x3 then (
     k71 h_2)
    else (
     gd (zr ((51 + x3) + 1) 67) (
      gd (zr (51 + x3) 67) (zlet (upd2 h_2 7 (51 + x3).toNatClampNeg (h_2 7 ((51 + x3) + 1).toNatClampNeg)) fun h_3 =>
       Mo_on_L34 k71 n_1 (x3 + 1) h_3)))
def Mo_on (x1 : Int32) (h : zH) : Option (zH) :=
  Mo_on_L2 x1 h (fun x2_1 =>
   zlet (upd2 h 7 50 ((h 7 50) - 1)) fun h_1 =>
   Mo_on_L34 (fun h_4 =>
    zlet (upd2 h_4 7 42 ((h_4 7 42) ||| (zshl 1 x1))) fun h_5 =>
    some h_5) 1000 x2_1 h_1) 1000 0

def Mo_dropAll_L5 (x1 : Int32) (x2 : Int32) (k80 : Int32 → zH → Option (Int32 × zH)) : Nat → Int32 → Int32 → zH → Option (Int32 × zH)
  | 0, _, _, _ => none
  | n + 1, x3, x4, h_1 =>
    if (h_1 2 3) ≤ x4 then (
     k80 x3 h_1)
    else (
     gd (zr (3 * x4) 54) (
      (Mo_has x1 (h_1 5 (3 * x4).toNatClampNeg)).bind fun r =>
      if r = 0 then (
       Mo_dropAll_L5 x1 x2 k80 n x3 (x4 + 1) h_1)
      else (
       (Mo_has (h_1 7 42) x4).bind fun r_1 =>
       if r_1 = 0 then (
        Mo_dropAll_L5 x1 x2 k80 n x3 (x4 + 1) h_1)
       else (
        zlet (
          (Mo_drop x4 h_1).bind fun h_2 =>
          Mo_dropAll_L5 x1 x2 k80 n 1 (x4 + 1) h_2) fun j66 =>
        if x2 < 0 then (
         j66)
        else (
         gd (zr ((3 * x4) + 2) 54) (
          if (h_1 5 ((3 * x4) + 2).toNatClampNeg) = x2 then (
           j66)
          else (
           Mo_dropAll_L5 x1 x2 k80 n x3 (x4 + 1) h_1)))))))
def Mo_dropAll (x1 : Int32) (x2 : Int32) (h : zH) : Option (Int32 × zH) :=
  Mo_dropAll_L5 x1 x2 (fun x3_1 h_3 =>
   gd (zb x3_1) (some (x3_1, h_3))) 1000 0 0 h

def Mo_follow_L2 (x1 : Int32) (x2 : Int32) (k147 : zH → Option (zH)) : Nat → Int32 → zH → Option (zH)
  | 0, _, _ => none
  | n + 1, x3, h_1 =>
    if (h_1 2 2) ≤ x3 then (
     k147 h_1)
    else (
     gd (zr (4 * x3) 48) (
      (Mo_has x1 (h_1 4 (4 * x3).toNatClampNeg)).bind fun r =>
      if r = 0 then (
       Mo_follow_L2 x1 x2 k147 n (x3 + 1) h_1)
      else (
       (Mo_plants x1 0 h_1).bind fun r_1 =>
       zlet (x2 - r_1) fun x4 =>
       gd (zr ((4 * x3) + 2) 48) (
        zlet (h_1 4 ((4 * x3) + 2).toNatClampNeg) fun x5 =>
        zlet (fun (v77 : Int32) =>
          gd (zr (44 + x3) 67) (
           zlet ((h_1 7 (44 + x3).toNatClampNeg) + v77) fun x7 =>
           if 0 ≤ x7 then (
            gd (zr ((4 * x3) + 1) 48) (
             if x7 ≤ (h_1 4 ((4 * x3) + 1).toNatClampNeg) then (
              gd (zr (44 + x3) 67) (zlet (upd2 h_1 7 (44 + x3).toNatClampNeg x7) fun h_2 =>
               Mo_follow_L2 x1 x2 k147 n (x3 + 1) h_2))
             else (
              gd (zr ((4 * x3) + 1) 48) (
               gd (zr (44 + x3) 67) (zlet (upd2 h_1 7 (44 + x3).toNatClampNeg (h_1 4 ((4 * x3) + 1).toNatClampNeg)) fun h_3 =>
                Mo_follow_L2 x1 x2 k147 n (x3 + 1) h_3)))))
           else (
            gd (zr (44 + x3) 67) (zlet (upd2 h_1 7 (44 + x3).toNatClampNeg 0) fun h_4 =>
             Mo_follow_L2 x1 x2 k147 n (x3 + 1) h_4)))) fun j77 =>
        if x4 ≤ x5 then (
         if (-x5) ≤ x4 then (
          j77 x4)
         else (
          j77 (-x5)))
        else (
         j77 x5)))))
def Mo_follow (x1 : Int32) (x2 : Int32) (h : zH) : Option (zH) :=
  Mo_follow_L2 x1 x2 (fun h_5 =>
   some h_5) 1000 0 h

def Mo_goesDark_L15 (x1 : Int32) (k68 : zH → Option (zH)) : Nat → Int32 → zH → Option (zH)
  | 0, _, _ => none
  | n + 1, x2, h_2 =>
    if (h_2 2 2) ≤ x2 then (
     k68 h_2)
    else (
     gd (zr (4 * x2) 48) (
      (Mo_has x1 (h_2 4 (4 * x2).toNatClampNeg)).bind fun r_1 =>
      if r_1 = 0 then (
       gd (zr (44 + x2) 67) (
        gd (zr (44 + x2) 67) (zlet (upd2 h_2 7 (44 + x2).toNatClampNeg (h_2 7 (44 + x2).toNatClampNeg)) fun h_3 =>
         Mo_goesDark_L15 x1 k68 n (x2 + 1) h_3)))
      else (
       gd (zr (44 + x2) 67) (zlet (upd2 h_2 7 (44 + x2).toNatClampNeg 0) fun h_4 =>
        Mo_goesDark_L15 x1 k68 n (x2 + 1) h_4))))
def Mo_goesDark (x1 : Int32) (h : zH) : Option (zH) :=
  (Mo_frequency x1 0 h).bind fun h_1 =>
  (Mo_dropAll x1 (-1) h_1).bind fun r =>
  Mo_goesDark_L15 x1 (fun h_5 =>
   some h_5) 1000 0 r.2

def Mo_fitting_L23 (x1 : Int32) (h : zH) (x2 : Int32) (k69 : Int32 → Option (Int32)) (k78 : Option (Int32)) : Nat → Int32 → Option (Int32)
  | 0, _ => none
  | n + 1, x3_1 =>
    if x3_1 < 0 then (
     k78)
    else (
     gd (zr (51 + x3_1) 67) (
      zlet (h 7 (51 + x3_1).toNatClampNeg) fun x4 =>
      gd (zr (3 * x4) 54) (
       (Mo_has x1 (h 5 (3 * x4).toNatClampNeg)).bind fun r_2 =>
       if r_2 = 0 then (
        Mo_fitting_L23 x1 h x2 k69 k78 n (x3_1 + (-1)))
       else (
        gd (zr ((3 * x4) + 1) 54) (
         if x2 < (h 5 ((3 * x4) + 1).toNatClampNeg) then (
          Mo_fitting_L23 x1 h x2 k69 k78 n (x3_1 + (-1)))
         else (
          k69 x4))))))
def Mo_fitting (x1 : Int32) (h : zH) : Option (Int32) :=
  (Mo_plants x1 1 h).bind fun r =>
  (Mo_load x1 h).bind fun r_1 =>
  zlet (r - r_1) fun x2 =>
  zlet ((h 7 50) - 1) fun x3 =>
  Mo_fitting_L23 x1 h x2 (fun x4_1 =>
   some x4_1) (some (-4)) 1000 x3

def Mo_goes_L100 (x1 : Int32) (r : Int32) (x3_1 : Int32) (k197 : zH → Option (zH)) : Nat → Int32 → zH → Option (zH)
  | 0, _, _ => none
  | n + 1, x5, h_4 =>
    if (h_4 2 4) < x5 then (
     k197 h_4)
    else (
     gd (zr (60 + x5) 67) (
      zlet (fun (v146 : Int32) =>
        (Mo_counts r x5 v146 h_4).bind fun h_5 =>
        gd (zr ((2 * x5) + 1) 24) (
         if v146 < (h_5 6 ((2 * x5) + 1).toNatClampNeg) then (
          Mo_goes_L100 x1 r x3_1 k197 n (x5 + 1) h_5)
         else (
          (Mo_dropAll r x5 h_5).bind fun r_3 =>
          if r_3.1 = 0 then (
           Mo_goes_L100 x1 r x3_1 k197 n (x5 + 1) r_3.2)
          else (
           (Mo_counts r x5 0 r_3.2).bind fun h_6 =>
           Mo_goes_L100 x1 r x3_1 k197 n (x5 + 1) h_6)))) fun j146 =>
      if (h_4 7 (60 + x5).toNatClampNeg) ≤ x3_1 then (
       j146 0)
      else (
       gd (zr ((6 + (6 * x1)) + x5) 67) (
        j146 ((h_4 7 ((6 + (6 * x1)) + x5).toNatClampNeg) + 1)))))
def Mo_goes (x1 : Int32) (h : zH) : Option (zH) :=
  (Mo_busesOf x1 h).bind fun r =>
  gd (zr x1 67) (
   zlet (h 7 x1.toNatClampNeg) fun x3 =>
   (Mo_aim r x3 h).bind fun r_1 =>
   (Mo_follow r r_1 h).bind fun h_1 =>
   (Mo_plants r 3 h_1).bind fun r_2 =>
   zlet (fun (x3_1 : Int32) =>
     if r_2 = 0 then (
      (Mo_goesDark r h_1).bind fun h_2 =>
      some h_2)
     else (
      if 4700 ≤ x3_1 then (
       (Mo_frequency r x3_1 h_1).bind fun h_3 =>
       Mo_goes_L100 x1 r x3_1 (fun h_7 =>
        zlet (fun (v226 : Int32) =>
          zlet (fun (v249 : Int32) =>
            zlet (fun (v267 : Int32) =>
              (Mo_counts r 0 v267 h_7).bind fun h_8 =>
              if v249 = (-4) then (
               some h_8)
              else (
               (Mo_on v249 h_8).bind fun h_9 =>
               zlet (upd2 h_9 0 15 ((h_9 0 15) + 1)) fun h_10 =>
               some h_10)) fun j267 =>
            if v249 = (-4) then (
             j267 v226)
            else (
             j267 0)) fun j249 =>
          if v226 < (h_7 6 1) then (
           j249 (-4))
          else (
           (Mo_fitting r h_7).bind fun r_4 =>
           j249 r_4)) fun j226 =>
        if x3_1 < (h_7 7 60) then (
         j226 0)
        else (
         gd (zr (6 + (6 * x1)) 67) (
          j226 ((h_7 7 (6 + (6 * x1)).toNatClampNeg) + 1)))) 1000 1 h_3)
      else (
       (Mo_goesDark r h_1).bind fun h_11 =>
       some h_11))) fun j73 =>
   if r_2 ≤ 0 then (
    j73 x3)
   else (
    (Mo_plants r 0 h_1).bind fun r_5 =>
    (Mo_load r h_1).bind fun r_6 =>
    gd (decide (¬ r_2 = 0)) (
     zlet (x3 + ((10 * (r_5 - r_6)) / r_2)) fun x3_2 =>
     if x3_2 ≤ 5200 then (
      j73 x3_2)
     else (
      j73 5200))))

def Mo_ticks_L2 (k40 : zH → Option (zH)) : Nat → Int32 → zH → Option (zH)
  | 0, _, _ => none
  | n + 1, x1, h_1 =>
    if (h_1 2 0) ≤ x1 then (
     k40 h_1)
    else (
     (Mo_isLowest x1 h_1).bind fun r =>
     if r = 0 then (
      Mo_ticks_L2 k40 n (x1 + 1) h_1)
     else (
      gd (zr x1 67) (
       if (h_1 7 x1.toNatClampNeg) ≤ 0 then (
        Mo_ticks_L2 k40 n (x1 + 1) h_1)
       else (
        (Mo_goes x1 h_1).bind fun h_2 =>
        Mo_ticks_L2 k40 n (x1 + 1) h_2))))
def Mo_ticks (h : zH) : Option (zH) :=
  Mo_ticks_L2 (fun h_3 =>
   zlet (upd2 h_3 7 66 ((h_3 7 66) + 1)) fun h_4 =>
   some h_4) 1000 0 h

def Mo_fresh (h : zH) : Option (zH) :=
  zlet (upd2 h 0 13 0) fun h_1 =>
  zlet (upd2 h_1 0 14 0) fun h_2 =>
  zlet (upd2 h_2 0 15 0) fun h_3 =>
  zlet (upd2 h_3 0 16 0) fun h_4 =>
  some h_4

def Mo_keeps_L50 (k82 : zH → Option (zH)) : Nat → Int32 → zH → Option (zH)
  | 0, _, _ => none
  | n + 1, x1, h_2 =>
    if 67 ≤ x1 then (
     k82 h_2)
    else (
     gd (zr x1 67) (
      gd (zr ((67 * (h_2 0 10)) + x1) 268) (zlet (upd2 h_2 8 ((67 * (h_2 0 10)) + x1).toNatClampNeg (h_2 7 x1.toNatClampNeg)) fun h_3 =>
       Mo_keeps_L50 k82 n (x1 + 1) h_3)))
def Mo_keeps_L10 (k38 : zH → Option (zH)) : Nat → Int32 → zH → Option (zH)
  | 0, _, _ => none
  | n_1 + 1, x1_1, h_6 =>
    if 201 ≤ x1_1 then (
     k38 h_6)
    else (
     gd (zr (x1_1 + 67) 268) (
      gd (zr x1_1 268) (zlet (upd2 h_6 8 x1_1.toNatClampNeg (h_6 8 (x1_1 + 67).toNatClampNeg)) fun h_7 =>
       Mo_keeps_L10 k38 n_1 (x1_1 + 1) h_7)))
def Mo_keeps (h : zH) : Option (zH) :=
  zlet (fun (h_1 : zH) =>
    Mo_keeps_L50 (fun h_4 =>
     zlet (upd2 h_4 0 10 ((h_4 0 10) + 1)) fun h_5 =>
     some h_5) 1000 0 h_1) fun j48 =>
  if (h 0 10) = 4 then (
   Mo_keeps_L10 (fun h_8 =>
    zlet (upd2 h_8 0 10 ((h_8 0 10) - 1)) fun h_9 =>
    j48 h_9) 1000 0 h)
  else (
   j48 h)

def Mo_undo_L22 (k54 : zH → Option (Int32 × zH)) : Nat → Int32 → zH → Option (Int32 × zH)
  | 0, _, _ => none
  | n + 1, x1, h_2 =>
    if 67 ≤ x1 then (
     k54 h_2)
    else (
     gd (zr ((67 * (h_2 0 10)) + x1) 268) (
      gd (zr x1 67) (zlet (upd2 h_2 7 x1.toNatClampNeg (h_2 8 ((67 * (h_2 0 10)) + x1).toNatClampNeg)) fun h_3 =>
       Mo_undo_L22 k54 n (x1 + 1) h_3)))
def Mo_undo (h : zH) : Option (Int32 × zH) :=
  if (h 0 10) = 0 then (
   some ((-2), h))
  else (
   zlet (upd2 h 0 10 ((h 0 10) - 1)) fun h_1 =>
   Mo_undo_L22 (fun h_4 =>
    some ((h_4 0 10), h_4)) 1000 0 h_1)

def Mo_tick_L40 (x1 : Int32) (k55 : zH → Option (Int32 × zH)) : Nat → Int32 → zH → Option (Int32 × zH)
  | 0, _, _ => none
  | n + 1, x2, h_3 =>
    if x1 ≤ x2 then (
     k55 h_3)
    else (
     (Mo_ticks h_3).bind fun h_4 =>
     Mo_tick_L40 x1 k55 n (x2 + 1) h_4)
def Mo_tick (x1 : Int32) (h : zH) : Option (Int32 × zH) :=
  (Mo_isIn x1 1 60).bind fun r =>
  if r = 0 then (
   some ((-1), h))
  else (
   if ((h 7 66) + x1) ≤ 9999 then (
    (Mo_keeps h).bind fun h_1 =>
    (Mo_fresh h_1).bind fun h_2 =>
    Mo_tick_L40 x1 (fun h_5 =>
     some ((h_5 0 13), h_5)) 1000 0 h_2)
   else (
    some ((-2), h)))

def Mo_canClose (x1 : Int32) (x2 : Int32) (h : zH) : Option (Int32) :=
  gd (zr x1 67) (
   gd (zr x2 67) (
    zlet ((h 7 x1.toNatClampNeg) - (h 7 x2.toNatClampNeg)) fun x3 =>
    (Mo_busesOf x1 h).bind fun r =>
    (Mo_has r x2).bind fun r_1 =>
    if r_1 = 0 then (
     gd (zr x1 67) (
      if (h 7 x1.toNatClampNeg) = 0 then (
       some 1)
      else (
       gd (zr x2 67) (
        if (h 7 x2.toNatClampNeg) = 0 then (
         some 1)
        else (
         (Mo_isIn x3 (-20) 20).bind fun r_2 =>
         if r_2 = 0 then (
          some 0)
         else (
          some 1))))))
    else (
     some 1)))

def Mo_bothF (x1 : Int32) (x2 : Int32) (x3 : Int32) (x4 : Int32) (h : zH) : Option (Int32) :=
  gd (zr x3 67) (
   zlet (
     gd (zr x3 67) (
      gd (zr x4 67) (
       some ((h 7 x3.toNatClampNeg) + (h 7 x4.toNatClampNeg))))) fun j19 =>
   if (h 7 x3.toNatClampNeg) = 0 then (
    j19)
   else (
    gd (zr x4 67) (
     if (h 7 x4.toNatClampNeg) = 0 then (
      j19)
     else (
      (Mo_plants x1 3 h).bind fun r =>
      (Mo_plants x2 3 h).bind fun r_1 =>
      if (r + r_1) = 0 then (
       gd (zr x3 67) (
        gd (zr x4 67) (
         if (h 7 x4.toNatClampNeg) ≤ (h 7 x3.toNatClampNeg) then (
          gd (zr x4 67) (
           some (h 7 x4.toNatClampNeg)))
         else (
          gd (zr x3 67) (
           some (h 7 x3.toNatClampNeg))))))
      else (
       gd (zr x3 67) (
        gd (zr x4 67) (
         gd (decide (¬ (r + r_1) = 0)) (
          some ((((h 7 x3.toNatClampNeg) * r) + ((h 7 x4.toNatClampNeg) * r_1)) / (r + r_1))))))))))

def Mo_joins_L34 (x1 : Int32) (x2 : Int32) (r : Int32) (r_1 : Int32) (k129 : zH → Option (zH)) : Nat → Int32 → zH → Option (zH)
  | 0, _, _ => none
  | n + 1, x6, h_1 =>
    if 6 ≤ x6 then (
     k129 h_1)
    else (
     gd (zr x1 67) (
      zlet (fun (v109 : Int32) =>
        (Mo_counts (r ||| r_1) x6 v109 h_1).bind fun h_2 =>
        Mo_joins_L34 x1 x2 r r_1 k129 n (x6 + 1) h_2) fun j109 =>
      if (h_1 7 x1.toNatClampNeg) = 0 then (
       gd (zr x2 67) (
        if (h_1 7 x2.toNatClampNeg) = 0 then (
         j109 0)
        else (
         gd (zr ((6 + (6 * x2)) + x6) 67) (
          j109 (h_1 7 ((6 + (6 * x2)) + x6).toNatClampNeg)))))
      else (
       gd (zr x2 67) (
        if (h_1 7 x2.toNatClampNeg) = 0 then (
         gd (zr ((6 + (6 * x1)) + x6) 67) (
          j109 (h_1 7 ((6 + (6 * x1)) + x6).toNatClampNeg)))
        else (
         j109 0)))))
def Mo_joins (x1 : Int32) (x2 : Int32) (h : zH) : Option (zH) :=
  (Mo_busesOf x1 h).bind fun r =>
  (Mo_busesOf x2 h).bind fun r_1 =>
  if r = r_1 then (
   some h)
  else (
   (Mo_bothF r r_1 x1 x2 h).bind fun r_2 =>
   Mo_joins_L34 x1 x2 r r_1 (fun h_3 =>
    (Mo_frequency (r ||| r_1) r_2 h_3).bind fun h_4 =>
    some h_4) 1000 0 h)

def Mo_link (x1 : Int32) (x2 : Int32) (h : zH) : Option (Int32 × zH) :=
  (Mo_isIn x1 0 ((h 2 1) - 1)).bind fun r =>
  if r = 0 then (
   some ((-1), h))
  else (
   (Mo_isIn x2 0 1).bind fun r_1 =>
   if r_1 = 0 then (
    some ((-1), h))
   else (
    gd (zr (2 * x1) 36) (
     zlet (h 3 (2 * x1).toNatClampNeg) fun x3 =>
     gd (zr ((2 * x1) + 1) 36) (
      zlet (h 3 ((2 * x1) + 1).toNatClampNeg) fun x4 =>
      (Mo_has (h 7 43) x1).bind fun r_2 =>
      zlet (fun (v69 : Int32) =>
        if r_2 = v69 then (
         some ((-2), h))
        else (
         zlet (
           (Mo_keeps h).bind fun h_1 =>
           zlet (fun (h_2 : zH) =>
             zlet (upd2 h_2 7 43 ((h_2 7 43) ^^^ (zshl 1 x1))) fun h_3 =>
             (Mo_islands h_3).bind fun r_3 =>
             some (r_3, h_3)) fun j106 =>
           if x2 = 1 then (
            (Mo_joins x3 x4 h_1).bind fun h_4 =>
            j106 h_4)
           else (
            j106 h_1)) fun j90 =>
         if x2 = 1 then (
          (Mo_canClose x3 x4 h).bind fun r_4 =>
          if r_4 = 0 then (
           some ((-2), h))
          else (
           j90))
         else (
          j90))) fun j69 =>
      if x2 = 1 then (
       j69 1)
      else (
       j69 0)))))

def Mo_feeder (x1 : Int32) (x2 : Int32) (h : zH) : Option (Int32 × zH) :=
  (Mo_isIn x1 0 ((h 2 3) - 1)).bind fun r =>
  if r = 0 then (
   some ((-1), h))
  else (
   (Mo_isIn x2 0 1).bind fun r_1 =>
   if r_1 = 0 then (
    some ((-1), h))
   else (
    gd (zr (3 * x1) 54) (
     zlet (h 5 (3 * x1).toNatClampNeg) fun x3 =>
     (Mo_has (h 7 42) x1).bind fun r_2 =>
     zlet (fun (v57 : Int32) =>
       if r_2 = v57 then (
        some ((-2), h))
       else (
        zlet (
          (Mo_keeps h).bind fun h_1 =>
          zlet (fun (h_2 : zH) =>
            (Mo_busesOf x3 h_2).bind fun r_3 =>
            (Mo_load r_3 h_2).bind fun r_4 =>
            some (r_4, h_2)) fun j99 =>
          if x2 = 1 then (
           (Mo_on x1 h_1).bind fun h_4 =>
           j99 h_4)
          else (
           (Mo_drop x1 h_1).bind fun h_3 =>
           j99 h_3)) fun j77 =>
        if x2 = 1 then (
         gd (zr x3 67) (
          if (h 7 x3.toNatClampNeg) = 0 then (
           some ((-2), h))
          else (
           j77)))
        else (
         j77))) fun j57 =>
     if x2 = 1 then (
      j57 1)
     else (
      j57 0))))

def Mo_isBus (x1 : Int32) (h : zH) : Option (Int32) :=
  (Mo_isIn x1 0 ((h 2 0) - 1)).bind fun r =>
  gd (zb r) (some r)

def Mo_begin_L51 (r_1 : Int32) (k70 : zH → Option (Int32 × zH)) : Nat → Int32 → zH → Option (Int32 × zH)
  | 0, _, _ => none
  | n + 1, x3, h_3 =>
    if 6 ≤ x3 then (
     k70 h_3)
    else (
     (Mo_counts r_1 x3 0 h_3).bind fun h_4 =>
     Mo_begin_L51 r_1 k70 n (x3 + 1) h_4)
def Mo_begin (x1 : Int32) (h : zH) : Option (Int32 × zH) :=
  (Mo_isBus x1 h).bind fun r =>
  if r = 0 then (
   some ((-1), h))
  else (
   (Mo_busesOf x1 h).bind fun r_1 =>
   gd (zr x1 67) (
    if 0 < (h 7 x1.toNatClampNeg) then (
     some ((-2), h))
    else (
     (Mo_plants r_1 4 h).bind fun r_2 =>
     if r_2 = 0 then (
      some ((-2), h))
     else (
      (Mo_keeps h).bind fun h_1 =>
      (Mo_frequency r_1 5000 h_1).bind fun h_2 =>
      Mo_begin_L51 r_1 (fun h_5 =>
       (Mo_plants r_1 3 h_5).bind fun r_3 =>
       some (r_3, h_5)) 1000 0 h_2))))

def Mo_mark (x1 : Int32) (x2 : Int32) (h : zH) : Option (Int32 × zH) :=
  (Mo_isIn x1 0 (h 2 4)).bind fun r =>
  if r = 0 then (
   some ((-1), h))
  else (
   if x1 = 0 then (
    zlet (fun (v41_1 : Int32) =>
      (Mo_isIn x2 4900 v41_1).bind fun r_2 =>
      if r_2 = 0 then (
       some ((-1), h))
      else (
       gd (zr (60 + x1) 67) (
        zlet (h 7 (60 + x1).toNatClampNeg) fun x3_1 =>
        if x3_1 = x2 then (
         some ((-2), h))
        else (
         (Mo_keeps h).bind fun h_3 =>
         gd (zr (60 + x1) 67) (zlet (upd2 h_3 7 (60 + x1).toNatClampNeg x2) fun h_4 =>
          some (x3_1, h_4)))))) fun j41 =>
    if x1 = 0 then (
     j41 5000)
    else (
     j41 4999))
   else (
    zlet (fun (v41 : Int32) =>
      (Mo_isIn x2 4700 v41).bind fun r_1 =>
      if r_1 = 0 then (
       some ((-1), h))
      else (
       gd (zr (60 + x1) 67) (
        zlet (h 7 (60 + x1).toNatClampNeg) fun x3 =>
        if x3 = x2 then (
         some ((-2), h))
        else (
         (Mo_keeps h).bind fun h_1 =>
         gd (zr (60 + x1) 67) (zlet (upd2 h_1 7 (60 + x1).toNatClampNeg x2) fun h_2 =>
          some (x3, h_2)))))) fun j41 =>
    if x1 = 0 then (
     j41 5000)
    else (
     j41 4999)))

def Mo_bits_L4 (x1 : Int32) (k24 : Int32 → Option (Int32)) : Nat → Int32 → Int32 → Option (Int32)
  | 0, _, _ => none
  | n + 1, x2, x3 =>
    if 9 ≤ x3 then (
     k24 x2)
    else (
     zlet (x2 + ((zshr x1 x3) &&& 1)) fun x2_1 =>
     Mo_bits_L4 x1 k24 n x2_1 (x3 + 1))
def Mo_bits (x1 : Int32) : Option (Int32) :=
  Mo_bits_L4 x1 (fun x2_2 =>
   some x2_2) 1000 0 0

def Mo_feedersOf_L4 (x1 : Int32) (h : zH) (k45 : Int32 → Option (Int32)) : Nat → Int32 → Int32 → Option (Int32)
  | 0, _, _ => none
  | n + 1, x2, x3 =>
    if (h 2 3) ≤ x3 then (
     k45 x2)
    else (
     gd (zr (3 * x3) 54) (
      (Mo_has x1 (h 5 (3 * x3).toNatClampNeg)).bind fun r =>
      if r = 0 then (
       zlet (x2 ||| 0) fun x2_1 =>
       Mo_feedersOf_L4 x1 h k45 n x2_1 (x3 + 1))
      else (
       zlet (x2 ||| (zshl 1 x3)) fun x2_2 =>
       Mo_feedersOf_L4 x1 h k45 n x2_2 (x3 + 1))))
def Mo_feedersOf (x1 : Int32) (h : zH) : Option (Int32) :=
  Mo_feedersOf_L4 x1 h (fun x2_3 =>
   some x2_3) 1000 0 0

def Mo_island (x1 : Int32) (x2 : Int32) (h : zH) : Option (Int32) :=
  (Mo_islands h).bind fun r =>
  (Mo_isIn x1 0 (r - 1)).bind fun r_1 =>
  if r_1 = 0 then (
   some (-1))
  else (
   (Mo_isIn x2 0 8).bind fun r_2 =>
   if r_2 = 0 then (
    some (-1))
   else (
    (Mo_busOf x1 h).bind fun r_3 =>
    (Mo_busesOf r_3 h).bind fun r_4 =>
    (Mo_feedersOf r_4 h).bind fun r_5 =>
    if x2 = 0 then (
     some r_4)
    else if x2 = 1 then (
     gd (zr r_3 67) (
      some (h 7 r_3.toNatClampNeg)))
    else if x2 = 2 then (
     (Mo_load r_4 h).bind fun r_6 =>
     some r_6)
    else if x2 = 3 then (
     (Mo_plants r_4 0 h).bind fun r_7 =>
     some r_7)
    else if x2 = 4 then (
     (Mo_plants r_4 1 h).bind fun r_8 =>
     some r_8)
    else if x2 = 5 then (
     (Mo_plants r_4 3 h).bind fun r_9 =>
     some r_9)
    else if x2 = 6 then (
     (Mo_bits (r_5 &&& (h 7 42))).bind fun r_10 =>
     some r_10)
    else if x2 = 7 then (
     (Mo_bits (r_5 &&& ((h 7 42) ^^^ (-1)))).bind fun r_11 =>
     some r_11)
    else (
     gd (zr r_3 67) (
      if (h 7 r_3.toNatClampNeg) = 0 then (
       some 0)
      else (
       gd (zr r_3 67) (
        (Mo_aim r_4 (h 7 r_3.toNatClampNeg) h).bind fun r_12 =>
        some r_12))))))

def Mo_counted (x1 : Int32) (x2 : Int32) (h : zH) : Option (Int32) :=
  (Mo_islands h).bind fun r =>
  (Mo_isIn x1 0 (r - 1)).bind fun r_1 =>
  if r_1 = 0 then (
   some (-1))
  else (
   (Mo_isIn x2 0 (h 2 4)).bind fun r_2 =>
   if r_2 = 0 then (
    some (-1))
   else (
    (Mo_busOf x1 h).bind fun r_3 =>
    gd (zr ((6 + (6 * r_3)) + x2) 67) (
     some (h 7 ((6 + (6 * r_3)) + x2).toNatClampNeg))))

def Mo_at_L21 (h : zH) (r_1 : Int32) (k53 : Int32 → Option (Int32)) : Nat → Int32 → Int32 → Option (Int32)
  | 0, _, _ => none
  | n + 1, x3, x4 =>
    (Mo_has r_1 x4).bind fun r_2 =>
    if r_2 = 0 then (
     (Mo_isLowest x4 h).bind fun r_3 =>
     if r_3 = 0 then (
      zlet (x3 + 0) fun x3_1 =>
      Mo_at_L21 h r_1 k53 n x3_1 (x4 + 1))
     else (
      zlet (x3 + 1) fun x3_2 =>
      Mo_at_L21 h r_1 k53 n x3_2 (x4 + 1)))
    else (
     k53 x3)
def Mo_at (x1 : Int32) (h : zH) : Option (Int32) :=
  (Mo_isBus x1 h).bind fun r =>
  if r = 0 then (
   some (-1))
  else (
   (Mo_busesOf x1 h).bind fun r_1 =>
   Mo_at_L21 h r_1 (fun x3_3 =>
    some x3_3) 1000 0 0)

def Mo_plant (x1 : Int32) (h : zH) : Option (Int32) :=
  (Mo_isIn x1 0 ((h 2 2) - 1)).bind fun r =>
  if r = 0 then (
   some (-1))
  else (
   gd (zr (44 + x1) 67) (
    some (h 7 (44 + x1).toNatClampNeg)))

def Mo_isOn (x1 : Int32) (h : zH) : Option (Int32) :=
  (Mo_isIn x1 0 ((h 2 3) - 1)).bind fun r =>
  if r = 0 then (
   some (-1))
  else (
   some ((zshr (h 7 42) x1) &&& 1))

def Mo_isClosed (x1 : Int32) (h : zH) : Option (Int32) :=
  (Mo_isIn x1 0 ((h 2 1) - 1)).bind fun r =>
  if r = 0 then (
   some (-1))
  else (
   some ((zshr (h 7 43) x1) &&& 1))

def Mo_dropped (x1 : Int32) (h : zH) : Option (Int32) :=
  if 0 ≤ x1 then (
   if (h 7 50) ≤ x1 then (
    some (-4))
   else (
    gd (zr (((51 + (h 7 50)) - 1) - x1) 67) (
     some (h 7 (((51 + (h 7 50)) - 1) - x1).toNatClampNeg))))
  else (
   some (-1))

def Mo_saves_L2 (k26 : zH → Option (zH)) : Nat → Int32 → zH → Option (zH)
  | 0, _, _ => none
  | n + 1, x1, h_1 =>
    if 67 ≤ x1 then (
     k26 h_1)
    else (
     gd (zr x1 67) (
      gd (zr x1 67) (zlet (upd2 h_1 9 x1.toNatClampNeg (h_1 7 x1.toNatClampNeg)) fun h_2 =>
       Mo_saves_L2 k26 n (x1 + 1) h_2)))
def Mo_saves (h : zH) : Option (zH) :=
  Mo_saves_L2 (fun h_3 =>
   some h_3) 1000 0 h

def Mo_restores_L2 (k26 : zH → Option (zH)) : Nat → Int32 → zH → Option (zH)
  | 0, _, _ => none
  | n + 1, x1, h_1 =>
    if 67 ≤ x1 then (
     k26 h_1)
    else (
     gd (zr x1 67) (
      gd (zr x1 67) (zlet (upd2 h_1 7 x1.toNatClampNeg (h_1 9 x1.toNatClampNeg)) fun h_2 =>
       Mo_restores_L2 k26 n (x1 + 1) h_2)))
def Mo_restores (h : zH) : Option (zH) :=
  Mo_restores_L2 (fun h_3 =>
   some h_3) 1000 0 h

def Mo_ahead_L45 (x1 : Int32) (x2 : Int32) (k85 : Int32 → zH → Option (Int32 × zH)) : Nat → Int32 → Int32 → zH → Option (Int32 × zH)
  | 0, _, _, _ => none
  | n + 1, x4, x5, h_3 =>
    if x1 ≤ x5 then (
     k85 x4 h_3)
    else (
     (Mo_ticks h_3).bind fun h_4 =>
     gd (zr x2 67) (
      if x4 ≤ (h_4 7 x2.toNatClampNeg) then (
       Mo_ahead_L45 x1 x2 k85 n x4 (x5 + 1) h_4)
      else (
       gd (zr x2 67) (
        zlet (h_4 7 x2.toNatClampNeg) fun x4_1 =>
        Mo_ahead_L45 x1 x2 k85 n x4_1 (x5 + 1) h_4))))
def Mo_ahead (x1 : Int32) (x2 : Int32) (x3 : Int32) (h : zH) : Option (Int32 × zH) :=
  (Mo_isIn x1 1 60).bind fun r =>
  if r = 0 then (
   some ((-1), h))
  else (
   (Mo_isBus x2 h).bind fun r_1 =>
   if r_1 = 0 then (
    some ((-1), h))
   else (
    (Mo_isIn x3 0 4).bind fun r_2 =>
    if r_2 = 0 then (
     some ((-1), h))
    else (
     (Mo_saves h).bind fun h_1 =>
     (Mo_fresh h_1).bind fun h_2 =>
     Mo_ahead_L45 x1 x2 (fun x4_2 h_5 =>
      gd (zr x2 67) (
       zlet (h_5 7 x2.toNatClampNeg) fun x5_1 =>
       (Mo_restores h_5).bind fun h_6 =>
       if x3 = 0 then (
        some (x5_1, h_6))
       else (
        if x3 = 1 then (
         some (x4_2, h_6))
        else (
         if x3 = 2 then (
          some ((h_6 0 13), h_6))
         else (
          if x3 = 3 then (
           some ((h_6 0 14), h_6))
          else (
           some ((h_6 0 15), h_6))))))) 1000 9999 0 h_2)))

def Mo_isBorne_L14 (x2 : Int32) (k46 : zH → Option (Int32 × zH)) : Nat → Int32 → zH → Option (Int32 × zH)
  | 0, _, _ => none
  | n + 1, x5, h_1 =>
    if (h_1 2 3) ≤ x5 then (
     k46 h_1)
    else (
     (Mo_has x2 x5).bind fun r_2 =>
     if r_2 = 0 then (
      Mo_isBorne_L14 x2 k46 n (x5 + 1) h_1)
     else (
      (Mo_drop x5 h_1).bind fun h_2 =>
      Mo_isBorne_L14 x2 k46 n (x5 + 1) h_2))
def Mo_isBorne_L56 (x1 : Int32) (x3 : Int32) (r_1 : Int32) (k103 : Int32 → zH → Option (Int32 × zH)) : Nat → Int32 → Int32 → zH → Option (Int32 × zH)
  | 0, _, _, _ => none
  | n_1 + 1, x5_1, x6, h_5 =>
    if x3 ≤ x6 then (
     k103 x5_1 h_5)
    else (
     if x5_1 = 0 then (
      k103 x5_1 h_5)
     else (
      (Mo_ticks h_5).bind fun h_6 =>
      gd (zr x1 67) (
       if (h_6 7 x1.toNatClampNeg) ≤ 0 then (
        Mo_isBorne_L56 x1 x3 r_1 k103 n_1 0 (x6 + 1) h_6)
       else (
        if ((h_6 0 16) &&& r_1) = 0 then (
         Mo_isBorne_L56 x1 x3 r_1 k103 n_1 1 (x6 + 1) h_6)
        else (
         Mo_isBorne_L56 x1 x3 r_1 k103 n_1 0 (x6 + 1) h_6)))))
def Mo_isBorne (x1 : Int32) (x2 : Int32) (x3 : Int32) (h : zH) : Option (Int32 × zH) :=
  (Mo_busesOf x1 h).bind fun r =>
  (Mo_feedersOf r h).bind fun r_1 =>
  Mo_isBorne_L14 x2 (fun h_3 =>
   (Mo_fresh h_3).bind fun h_4 =>
   Mo_isBorne_L56 x1 x3 r_1 (fun x5_2 h_7 =>
    gd (zb x5_2) (some (x5_2, h_7))) 1000 1 0 h_4) 1000 0 h

def Mo_loadOf_L4 (x1 : Int32) (h : zH) (k45 : Int32 → Option (Int32)) : Nat → Int32 → Int32 → Option (Int32)
  | 0, _, _ => none
  | n + 1, x2, x3 =>
    if (h 2 3) ≤ x3 then (
     k45 x2)
    else (
     (Mo_has x1 x3).bind fun r =>
     if r = 0 then (
      zlet (x2 + 0) fun x2_1 =>
      Mo_loadOf_L4 x1 h k45 n x2_1 (x3 + 1))
     else (
      gd (zr ((3 * x3) + 1) 54) (
       zlet (x2 + (h 5 ((3 * x3) + 1).toNatClampNeg)) fun x2_2 =>
       Mo_loadOf_L4 x1 h k45 n x2_2 (x3 + 1))))
def Mo_loadOf (x1 : Int32) (h : zH) : Option (Int32) :=
  Mo_loadOf_L4 x1 h (fun x2_3 =>
   some x2_3) 1000 0 0

def Mo_least_L73 (x2 : Int32) (r_4 : Int32) (x5 : Int32) (k207 : Int32 → zH → Option (Int32 × zH)) : Nat → Int32 → Int32 → zH → Option (Int32 × zH)
  | 0, _, _, _ => none
  | n + 1, x6, x7, h_2 =>
    if x5 < x7 then (
     k207 x6 h_2)
    else (
     gd (zr r_4 67) (
      if (h_2 9 r_4.toNatClampNeg) ≤ 0 then (
       k207 x6 h_2)
      else (
       zlet (fun (v105 : Int32) =>
         (Mo_loadOf x7 h_2).bind fun r_7 =>
         zlet (fun (v169 : Int32) =>
           if v169 = 0 then (
            Mo_least_L73 x2 r_4 x5 k207 n x6 (x7 + 1) h_2)
           else (
            (Mo_isBorne r_4 x7 x2 h_2).bind fun r_8 =>
            zlet (fun (v195 : Int32) =>
              (Mo_restores r_8.2).bind fun h_3 =>
              Mo_least_L73 x2 r_4 x5 k207 n v195 (x7 + 1) h_3) fun j195 =>
            if r_8.1 = 0 then (
             j195 x6)
            else (
             j195 x7))) fun j169 =>
         if v105 = 0 then (
          j169 0)
         else (
          if x6 = (-4) then (
           j169 1)
          else (
           (Mo_loadOf x6 h_2).bind fun r_9 =>
           if r_7 < r_9 then (
            j169 1)
           else (
            (Mo_loadOf x6 h_2).bind fun r_10 =>
            if r_7 = r_10 then (
             (Mo_bits x7).bind fun r_11 =>
             (Mo_bits x6).bind fun r_12 =>
             if r_12 ≤ r_11 then (
              j169 0)
             else (
              j169 1))
            else (
             j169 0))))) fun j105 =>
       if (x7 &&& (x5 ^^^ (-1))) = 0 then (
        j105 1)
       else (
        j105 0))))
def Mo_least (x1 : Int32) (x2 : Int32) (x3 : Int32) (h : zH) : Option (Int32 × zH) :=
  (Mo_islands h).bind fun r =>
  (Mo_isIn x1 0 (r - 1)).bind fun r_1 =>
  if r_1 = 0 then (
   some ((-1), h))
  else (
   (Mo_isIn x2 1 30).bind fun r_2 =>
   if r_2 = 0 then (
    some ((-1), h))
   else (
    (Mo_isIn x3 0 1).bind fun r_3 =>
    if r_3 = 0 then (
     some ((-1), h))
    else (
     (Mo_busOf x1 h).bind fun r_4 =>
     (Mo_busesOf r_4 h).bind fun r_5 =>
     (Mo_feedersOf r_5 h).bind fun r_6 =>
     zlet (r_6 &&& (h 7 42)) fun x5 =>
     (Mo_saves h).bind fun h_1 =>
     Mo_least_L73 x2 r_4 x5 (fun x6_1 h_4 =>
      if x6_1 = (-4) then (
       some (x6_1, h_4))
      else (
       if x3 = 0 then (
        some (x6_1, h_4))
       else (
        (Mo_loadOf x6_1 h_4).bind fun r_13 =>
        some (r_13, h_4)))) 1000 (-4) 0 h_1)))

def Mo_dark_L31 (x1 : Int32) (k69 : Int32 → zH → Option (Int32 × zH)) : Nat → Int32 → Int32 → zH → Option (Int32 × zH)
  | 0, _, _, _ => none
  | n + 1, x2, x3, h_2 =>
    if 60 < x3 then (
     k69 x2 h_2)
    else (
     if x2 = (-4) then (
      (Mo_ticks h_2).bind fun h_3 =>
      gd (zr x1 67) (
       if (h_3 7 x1.toNatClampNeg) = 0 then (
        Mo_dark_L31 x1 k69 n x3 (x3 + 1) h_3)
       else (
        Mo_dark_L31 x1 k69 n (-4) (x3 + 1) h_3)))
     else (
      k69 x2 h_2))
def Mo_dark (x1 : Int32) (h : zH) : Option (Int32 × zH) :=
  (Mo_isBus x1 h).bind fun r =>
  if r = 0 then (
   some ((-1), h))
  else (
   gd (zr x1 67) (
    if (h 7 x1.toNatClampNeg) = 0 then (
     some ((-2), h))
    else (
     (Mo_saves h).bind fun h_1 =>
     Mo_dark_L31 x1 (fun x2_1 h_4 =>
      (Mo_restores h_4).bind fun h_5 =>
      some (x2_1, h_5)) 1000 (-4) 1 h_1)))

def Mo_count_L4 (h : zH) (k45 : Int32 → Option (Int32)) : Nat → Int32 → Int32 → Option (Int32)
  | 0, _, _ => none
  | n + 1, x2, x3 =>
    if (h 2 0) ≤ x3 then (
     k45 x2)
    else (
     (Mo_isLowest x3 h).bind fun r =>
     if r = 0 then (
      zlet (x2 + 0) fun x2_1 =>
      Mo_count_L4 h k45 n x2_1 (x3 + 1))
     else (
      gd (zr x3 67) (
       if (h 7 x3.toNatClampNeg) = 0 then (
        zlet (x2 + 1) fun x2_3 =>
        Mo_count_L4 h k45 n x2_3 (x3 + 1))
       else (
        zlet (x2 + 0) fun x2_2 =>
        Mo_count_L4 h k45 n x2_2 (x3 + 1)))))
def Mo_count (x1 : Int32) (h : zH) : Option (Int32) :=
  Mo_count_L4 h (fun x2_4 =>
   if x1 = 0 then (
    some (h 2 0))
   else if x1 = 1 then (
    some (h 2 1))
   else if x1 = 2 then (
    some (h 2 2))
   else if x1 = 3 then (
    some (h 2 3))
   else if x1 = 4 then (
    some (h 2 4))
   else if x1 = 5 then (
    (Mo_islands h).bind fun r_1 =>
    some r_1)
   else if x1 = 6 then (
    some x2_4)
   else if x1 = 7 then (
    some (h 7 66))
   else if x1 = 8 then (
    (Mo_bits (h 7 42)).bind fun r_2 =>
    some r_2)
   else if x1 = 9 then (
    (Mo_load 63 h).bind fun r_3 =>
    some r_3)
   else if x1 = 10 then (
    some (h 0 10))
   else if x1 = 11 then (
    some (h 0 0))
   else (
    some (-1))) 1000 0 0

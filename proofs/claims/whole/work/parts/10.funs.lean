def xX9_isRoom (a0 : Int32) (w : gT) : Option (Int32 × gT) :=
(if a0 < (nI 0) then
  some ((nI 0), w)
else
  (if (nI 12) ≤ a0 then
    some ((nI 0), w)
  else
    some ((nI 1), w)))
def rmX9_isRoom : Room := { frames := 0, cells := 0, slots := 0, locals := 0 }
def xX9_isDigit (a0 : Int32) (w : gT) : Option (Int32 × gT) :=
(if a0 < (nI 0) then
  some ((nI 0), w)
else
  (if (nI 9) < a0 then
    some ((nI 0), w)
  else
    some ((nI 1), w)))
def rmX9_isDigit : Room := { frames := 0, cells := 0, slots := 0, locals := 0 }
def xX9_cats (a1 : Int32) (a2 : Int32) (w : gT) : Option (Int32 × gT) :=
gBi (xX9_isRoom a1 w) fun (v1 : Int32) (w2 : gT) =>
(if v1 = (nI 0) then
  some ((nI 0), w2)
else
  gBi (xX9_isDigit a2 w2) fun (v3 : Int32) (w4 : gT) =>
  (if v3 = (nI 0) then
    some ((nI 0), w4)
  else
    gG a1 12 <|
    gLet (gU w4 2 a1.toNatClampNeg a2) fun (w5 : gT) =>
    some ((nI 1), w5)))
def rmX9_cats : Room := { frames := 1, cells := 0, slots := 0, locals := 20 }
def xX9_isNight (a0 : Int32) (w : gT) : Option (Int32 × gT) :=
(if a0 < (nI 0) then
  some ((nI 0), w)
else
  (if (nI 7) ≤ a0 then
    some ((nI 0), w)
  else
    some ((nI 1), w)))
def rmX9_isNight : Room := { frames := 0, cells := 0, slots := 0, locals := 0 }
def xX9_allSouls (a1 : Int32) (w : gT) : Option (Int32 × gT) :=
gLet (fun (w2 : gT) =>
gLet (gU w2 1 11 a1) fun (w3 : gT) =>
some ((nI 1), w3)) fun k1 =>
(if a1 = (-1) then
  k1 w
else
  gBi (xX9_isNight a1 w) fun (v4 : Int32) (w5 : gT) =>
  (if v4 = (nI 0) then
    some ((nI 0), w5)
  else
    k1 w5))
def rmX9_allSouls : Room := { frames := 1, cells := 0, slots := 0, locals := 20 }
def xX9_chains (a1 : Int32) (w : gT) : Option (Int32 × gT) :=
gBi (xX9_isDigit a1 w) fun (v1 : Int32) (w2 : gT) =>
(if v1 = (nI 0) then
  some ((nI 0), w2)
else
  gLet (gU w2 1 10 a1) fun (w3 : gT) =>
  some ((nI 1), w3))
def rmX9_chains : Room := { frames := 1, cells := 0, slots := 0, locals := 20 }
def xX2_tellSleeper_b31 (a1 : Int32) (go4 : Int32 → gT → Option (gT)) (v5 : Int32) (w6 : gT) : Option (gT) :=
(if (nI 7) ≤ v5 then
  some w6
else
  gG ((v5 * (nI 10)) + a1) 70 <|
  gLet (gU w6 3 ((v5 * (nI 10)) + a1).toNatClampNeg (nI 255)) fun (w7 : gT) =>
  go4 (v5 + (nI 1)) w7)
def xX2_tellSleeper (N : Nat) (a1 : Int32) (a2 : Int32) (w : gT) : Option (gT) :=
gLet (gU w 1 9 ((w.1 1 9) ||| (gShl (nI 1) a1))) fun (w1 : gT) =>
gG a1 10 <|
gLet (gU w1 4 a1.toNatClampNeg a2) fun (w2 : gT) =>
gG ((nI 10) + a1) 40 <|
gLet (gU w2 9 ((nI 10) + a1).toNatClampNeg (nI 0)) fun (w3 : gT) =>
gW1 (xX2_tellSleeper_b31 a1) N (nI 0) w3
def rmX2_tellSleeper : Room := { frames := 0, cells := 0, slots := 0, locals := 0 }
def xX9_sleeper (N : Nat) (a1 : Int32) (a2 : Int32) (w : gT) : Option (Int32 × gT) :=
(if a1 < (nI 0) then
  some ((nI 0), w)
else
  (if (nI 10) ≤ a1 then
    some ((nI 0), w)
  else
    gBi (xX9_isDigit a2 w) fun (v1 : Int32) (w2 : gT) =>
    (if v1 = (nI 0) then
      some ((nI 0), w2)
    else
      gBv (xX2_tellSleeper N a1 a2 w2) fun (w3 : gT) =>
      some ((nI 1), w3))))
def rmX9_sleeper : Room := { frames := 1, cells := 0, slots := 0, locals := 23 }
def xX2_hasSleeper (a1 : Int32) (w : gT) : Option (Int32 × gT) :=
(if a1 < (nI 0) then
  some ((nI 0), w)
else
  (if (nI 10) ≤ a1 then
    some ((nI 0), w)
  else
    (if ((gShr (w.1 1 9) a1) &&& (nI 1)) = (nI 1) then
      some ((nI 1), w)
    else
      some ((nI 0), w))))
def rmX2_hasSleeper : Room := { frames := 0, cells := 0, slots := 0, locals := 0 }
def xX9_sleeps_b47 (a1 : Int32) (a3 : Int32) (a4 : Int32) (go5 : Int32 → gT → Option (Int32 × gT)) (v6 : Int32) (w7 : gT) : Option (Int32 × gT) :=
(if a3 ≤ v6 then
  some ((nI 1), w7)
else
  gLet (fun (v9 : Int32) (v10 : Int32) (w11 : gT) =>
  gG v9 70 <|
  gLet (gU w11 3 v9.toNatClampNeg v10) fun (w12 : gT) =>
  go5 (v6 + (nI 1)) w12) fun k8 =>
  (if a4 = (-1) then
    k8 ((v6 * (nI 10)) + a1) (nI 255) w7
  else
    k8 ((v6 * (nI 10)) + a1) a4 w7))
def xX9_sleeps (N : Nat) (a1 : Int32) (a2 : Int32) (a3 : Int32) (a4 : Int32) (w : gT) : Option (Int32 × gT) :=
gBi (xX2_hasSleeper a1 w) fun (v1 : Int32) (w2 : gT) =>
(if v1 = (nI 0) then
  some ((nI 0), w2)
else
  (if a2 < (nI 0) then
    some ((nI 0), w2)
  else
    (if (nI 7) < a3 then
      some ((nI 0), w2)
    else
      (if a2 < a3 then
        gLet (fun (w4 : gT) =>
        gW1 (xX9_sleeps_b47 a1 a3 a4) N a2 w4) fun k3 =>
        (if a4 = (-1) then
          k3 w2
        else
          gBi (xX9_isRoom a4 w2) fun (v13 : Int32) (w14 : gT) =>
          (if v13 = (nI 0) then
            some ((nI 0), w14)
          else
            k3 w14))
      else
        some ((nI 0), w2)))))
def rmX9_sleeps : Room := { frames := 1, cells := 0, slots := 0, locals := 21 }
def xX2_tellGhost (a1 : Int32) (a2 : Int32) (a3 : Int32) (a4 : Int32) (a5 : Int32) (w : gT) : Option (gT) :=
gLet (gU w 1 8 ((w.1 1 8) ||| (gShl (nI 1) a1))) fun (w1 : gT) =>
gG a1 10 <|
gLet (gU w1 5 a1.toNatClampNeg a2) fun (w2 : gT) =>
gG a1 10 <|
gLet (gU w2 6 a1.toNatClampNeg a3) fun (w3 : gT) =>
gG a1 10 <|
gLet (gU w3 7 a1.toNatClampNeg a4) fun (w4 : gT) =>
gG a1 10 <|
gLet (gU w4 8 a1.toNatClampNeg a5) fun (w5 : gT) =>
gG ((nI 20) + a1) 40 <|
gLet (gU w5 9 ((nI 20) + a1).toNatClampNeg (nI 0)) fun (w6 : gT) =>
gG ((nI 30) + a1) 40 <|
gLet (gU w6 9 ((nI 30) + a1).toNatClampNeg (nI 0)) fun (w7 : gT) =>
some w7
def rmX2_tellGhost : Room := { frames := 0, cells := 0, slots := 0, locals := 0 }
def xX9_ghost (a1 : Int32) (a2 : Int32) (a3 : Int32) (a4 : Int32) (a5 : Int32) (w : gT) : Option (Int32 × gT) :=
(if a1 < (nI 0) then
  some ((nI 0), w)
else
  (if (nI 10) ≤ a1 then
    some ((nI 0), w)
  else
    (if a2 < (nI 0) then
      some ((nI 0), w)
    else
      (if a2 ≤ (nI 4) then
        gBi (xX9_isDigit a3 w) fun (v1 : Int32) (w2 : gT) =>
        (if v1 = (nI 0) then
          some ((nI 0), w2)
        else
          gBi (xX9_isDigit a4 w2) fun (v3 : Int32) (w4 : gT) =>
          (if v3 = (nI 0) then
            some ((nI 0), w4)
          else
            (if a5 < (nI 0) then
              some ((nI 0), w4)
            else
              (if a5 ≤ (nI 999) then
                gBv (xX2_tellGhost a1 a2 a3 a4 a5 w4) fun (w5 : gT) =>
                some ((nI 1), w5)
              else
                some ((nI 0), w4)))))
      else
        some ((nI 0), w)))))
def rmX9_ghost : Room := { frames := 1, cells := 0, slots := 0, locals := 25 }
def xX6_hasSpace (w : gT) : Option (Int32 × gT) :=
(if (nI 220) < ((w.1 19 1) + (nI 20)) then
  some ((nI 0), w)
else
  some ((nI 1), w))
def rmX6_hasSpace : Room := { frames := 0, cells := 0, slots := 0, locals := 0 }
def xX6_push_b3 (a1 : Int32) (go1 : Int32 → gT → Option (gT)) (v2 : Int32) (w3 : gT) : Option (gT) :=
(if v2 < (nI 0) then
  some w3
else
  (if (nI 220) ≤ (w3.1 19 1) then
    some w3
  else
    gG (w3.1 19 1) 220 <|
    gLet (gU w3 20 (w3.1 19 1).toNatClampNeg ((gShr a1 v2) &&& (nI 255))) fun (w4 : gT) =>
    gLet (gU w4 19 1 ((w4.1 19 1) + (nI 1))) fun (w5 : gT) =>
    go1 (v2 + (-8)) w5))
def xX6_push (N : Nat) (a1 : Int32) (w : gT) : Option (gT) :=
gW1 (xX6_push_b3 a1) N (nI 24) w
def rmX6_push : Room := { frames := 0, cells := 0, slots := 0, locals := 0 }
def xX9_feed (N : Nat) (a1 : Int32) (a2 : Int32) (a3 : Int32) (a4 : Int32) (a5 : Int32) (w : gT) : Option (Int32 × gT) :=
gBi (xX6_hasSpace w) fun (v1 : Int32) (w2 : gT) =>
(if v1 = (nI 0) then
  some ((-1), w2)
else
  gBv (xX6_push N a1 w2) fun (w3 : gT) =>
  gBv (xX6_push N a2 w3) fun (w4 : gT) =>
  gBv (xX6_push N a3 w4) fun (w5 : gT) =>
  gBv (xX6_push N a4 w5) fun (w6 : gT) =>
  gBv (xX6_push N a5 w6) fun (w7 : gT) =>
  some ((w7.1 19 1), w7))
def rmX9_feed : Room := { frames := 1, cells := 0, slots := 0, locals := 22 }
def xX6_open (a1 : Int32) (w : gT) : Option (gT) :=
gLet (gU w 19 2 a1) fun (w1 : gT) =>
gLet (gU w1 19 1 (nI 0)) fun (w2 : gT) =>
gLet (gU w2 19 3 (nI 0)) fun (w3 : gT) =>
gLet (gU w3 19 4 (nI 0)) fun (w4 : gT) =>
some w4
def rmX6_open : Room := { frames := 0, cells := 0, slots := 0, locals := 0 }
def xX7_add_b72 (a1 : Int32) (a2 : Int32) (go7 : Int32 → gT → Option (gT)) (v8 : Int32) (w9 : gT) : Option (gT) :=
(if (w9.1 27 5) ≤ v8 then
  gLet (gU w9 27 5 ((w9.1 27 5) + (nI 1))) fun (w10 : gT) =>
  some w10
else
  gLet (fun (w12 : gT) =>
  go7 (v8 + (nI 1)) w12) fun k11 =>
  gG v8 16 <|
  (if (w9.1 28 v8.toNatClampNeg) = a1 then
    gG v8 16 <|
    (if (w9.1 29 v8.toNatClampNeg) = a2 then
      gG (w9.1 27 5) 16 <|
      gLet (gU w9 32 (w9.1 27 5).toNatClampNeg (nI 0)) fun (w13 : gT) =>
      k11 w13
    else
      k11 w9)
  else
    k11 w9))
def xX7_add (N : Nat) (a1 : Int32) (a2 : Int32) (a3 : Int32) (a4 : Int32) (w : gT) : Option (gT) :=
(if (w.1 27 5) < (nI 16) then
  gLet (fun (v2 : Int32) (v3 : Int32) (w4 : gT) =>
  gG v2 16 <|
  gLet (gU w4 31 v2.toNatClampNeg v3) fun (w5 : gT) =>
  gG (w5.1 27 5) 16 <|
  gLet (gU w5 32 (w5.1 27 5).toNatClampNeg (nI 1)) fun (w6 : gT) =>
  gW1 (xX7_add_b72 a1 a2) N (nI 0) w6) fun k1 =>
  gG (w.1 27 5) 16 <|
  gLet (gU w 28 (w.1 27 5).toNatClampNeg a1) fun (w14 : gT) =>
  gG (w14.1 27 5) 16 <|
  gLet (gU w14 29 (w14.1 27 5).toNatClampNeg a2) fun (w15 : gT) =>
  gG (w15.1 27 5) 16 <|
  gLet (gU w15 30 (w15.1 27 5).toNatClampNeg a3) fun (w16 : gT) =>
  (if a4 = (nI 0) then
    k1 (w16.1 27 5) (nI 0) w16
  else
    k1 (w16.1 27 5) (nI 1) w16)
else
  some w)
def rmX7_add : Room := { frames := 0, cells := 0, slots := 0, locals := 0 }
def xX6_peek (w : gT) : Option (Int32 × gT) :=
(if (w.1 19 4) = (nI 0) then
  (if (w.1 19 3) < (nI 0) then
    some ((-1), w)
  else
    (if (w.1 19 2) ≤ (w.1 19 3) then
      some ((-1), w)
    else
      (if (nI 220) ≤ (w.1 19 3) then
        some ((-1), w)
      else
        gG (w.1 19 3) 220 <|
        some ((w.1 20 (w.1 19 3).toNatClampNeg), w))))
else
  some ((-1), w))
def rmX6_peek : Room := { frames := 0, cells := 0, slots := 0, locals := 0 }
def xX6_failAt (a1 : Int32) (a2 : Int32) (w : gT) : Option (gT) :=
(if (w.1 19 4) = (nI 0) then
  gLet (gU w 19 4 (((-1000) * a1) - a2)) fun (w1 : gT) =>
  some w1
else
  some w)
def rmX6_failAt : Room := { frames := 0, cells := 0, slots := 0, locals := 0 }
def xX6_fail (a1 : Int32) (w : gT) : Option (gT) :=
gBv (xX6_failAt a1 (w.1 19 3) w) fun (w1 : gT) =>
some w1
def rmX6_fail : Room := { frames := 1, cells := 0, slots := 0, locals := 22 }
def xX6_takeSign (a1 : Int32) (w : gT) : Option (gT) :=
gBi (xX6_peek w) fun (v1 : Int32) (w2 : gT) =>
(if v1 = a1 then
  gLet (gU w2 19 3 ((w2.1 19 3) + (nI 1))) fun (w4 : gT) =>
  some w4
else
  gBv (xX6_fail (nI 1) w2) fun (w3 : gT) =>
  some w3)
def rmX6_takeSign : Room := { frames := 2, cells := 0, slots := 0, locals := 43 }
def xX6_takeDigit (a1 : Int32) (w : gT) : Option (Int32 × gT) :=
gLet (fun (w2 : gT) =>
gBv (xX6_fail (nI 1) w2) fun (w3 : gT) =>
some ((nI 0), w3)) fun k1 =>
gBi (xX6_peek w) fun (v4 : Int32) (w5 : gT) =>
gLet (v4 - (nI 48)) fun (v6 : Int32) =>
(if v6 < (nI 0) then
  k1 w5
else
  (if v6 ≤ a1 then
    gLet (gU w5 19 3 ((w5.1 19 3) + (nI 1))) fun (w7 : gT) =>
    some (v6, w7)
  else
    k1 w5))
def rmX6_takeDigit : Room := { frames := 2, cells := 0, slots := 0, locals := 43 }
def xX6_isAtDigit (w : gT) : Option (Int32 × gT) :=
gBi (xX6_peek w) fun (v1 : Int32) (w2 : gT) =>
(if v1 < (nI 48) then
  some ((nI 0), w2)
else
  gBi (xX6_peek w2) fun (v3 : Int32) (w4 : gT) =>
  (if (nI 57) < v3 then
    some ((nI 0), w4)
  else
    some ((nI 1), w4)))
def rmX6_isAtDigit : Room := { frames := 1, cells := 0, slots := 0, locals := 20 }
def xX7_readRoom (w : gT) : Option (Int32 × gT) :=
gLet (fun (v2 : Int32) (v3 : Int32) (w4 : gT) =>
(if v3 < (nI 12) then
  some (v3, w4)
else
  gBv (xX6_failAt (nI 3) v2 w4) fun (w5 : gT) =>
  some (v3, w5))) fun k1 =>
gLet (w.1 19 3) fun (v6 : Int32) =>
gBi (xX6_takeDigit (nI 9) w) fun (v7 : Int32) (w8 : gT) =>
gBi (xX6_isAtDigit w8) fun (v9 : Int32) (w10 : gT) =>
(if v9 = (nI 0) then
  k1 v6 v7 w10
else
  gBi (xX6_takeDigit (nI 9) w10) fun (v11 : Int32) (w12 : gT) =>
  gLet (((nI 10) * v7) + v11) fun (v13 : Int32) =>
  k1 v6 v13 w12)
def rmX7_readRoom : Room := { frames := 3, cells := 0, slots := 0, locals := 65 }
def xX7_readWalk (N : Nat) (w : gT) : Option (gT) :=
gLet (fun (w2 : gT) =>
gLet (fun (v4 : Int32) (v5 : Int32) (v6 : Int32) (v7 : Int32) (w8 : gT) =>
gLet (fun (v10 : Int32) (w11 : gT) =>
(if (w11.1 19 4) = (nI 0) then
  gBv (xX7_add N v4 v5 v6 v10 w11) fun (w12 : gT) =>
  some w12
else
  some w11)) fun k9 =>
(if v7 = (nI 0) then
  k9 v7 w8
else
  gBv (xX6_takeSign (nI 43) w8) fun (w13 : gT) =>
  k9 v7 w13)) fun k3 =>
gBi (xX6_takeDigit (nI 9) w2) fun (v14 : Int32) (w15 : gT) =>
gBv (xX6_takeSign (nI 64) w15) fun (w16 : gT) =>
gBi (xX6_takeDigit (nI 6) w16) fun (v17 : Int32) (w18 : gT) =>
gBv (xX6_takeSign (nI 45) w18) fun (w19 : gT) =>
gBi (xX7_readRoom w19) fun (v20 : Int32) (w21 : gT) =>
gBi (xX6_peek w21) fun (v22 : Int32) (w23 : gT) =>
(if v22 = (nI 43) then
  k3 v14 v17 v20 (nI 1) w23
else
  k3 v14 v17 v20 (nI 0) w23)) fun k1 =>
(if (w.1 27 5) = (nI 16) then
  gBi (xX6_isAtDigit w) fun (v24 : Int32) (w25 : gT) =>
  (if v24 = (nI 0) then
    k1 w25
  else
    gBv (xX6_fail (nI 4) w25) fun (w26 : gT) =>
    k1 w26)
else
  k1 w)
def rmX7_readWalk : Room := { frames := 4, cells := 0, slots := 0, locals := 87 }
def xX6_takeEnd (w : gT) : Option (gT) :=
gBi (xX6_peek w) fun (v1 : Int32) (w2 : gT) =>
(if v1 = (-1) then
  some w2
else
  gBv (xX6_fail (nI 1) w2) fun (w3 : gT) =>
  some w3)
def rmX6_takeEnd : Room := { frames := 2, cells := 0, slots := 0, locals := 43 }
def xX7_readFrom_b12 (N : Nat) (k3 : gT → Option (gT)) (go6 : Int32 → gT → Option (gT)) (v7 : Int32) (w8 : gT) : Option (gT) :=
(if (nI 160) ≤ v7 then
  k3 w8
else
  gBi (xX6_peek w8) fun (v9 : Int32) (w10 : gT) =>
  (if v9 = (nI 59) then
    gBv (xX6_takeSign (nI 59) w10) fun (w11 : gT) =>
    gBv (xX7_readWalk N w11) fun (w12 : gT) =>
    go6 (v7 + (nI 1)) w12
  else
    k3 w10))
def xX7_readFrom (N : Nat) (w : gT) : Option (gT) :=
gLet (gU w 27 5 (nI 0)) fun (w1 : gT) =>
gBv (xX7_readWalk N w1) fun (w2 : gT) =>
gLet (fun (w4 : gT) =>
gBv (xX6_takeEnd w4) fun (w5 : gT) =>
some w5) fun k3 =>
gW1 (xX7_readFrom_b12 N k3) N (nI 0) w2
def rmX7_readFrom : Room := { frames := 5, cells := 0, slots := 0, locals := 112 }
def xX7_copy (w : gT) : Option (gT) :=
gLet (gCpy w 28 22 16) fun (w1 : gT) =>
gLet (gCpy w1 29 23 16) fun (w2 : gT) =>
gLet (gCpy w2 30 24 16) fun (w3 : gT) =>
gLet (gCpy w3 31 25 16) fun (w4 : gT) =>
gLet (gCpy w4 32 26 16) fun (w5 : gT) =>
gLet (gU w5 21 5 (w5.1 27 5)) fun (w6 : gT) =>
some w6
def rmX7_copy : Room := { frames := 1, cells := 0, slots := 0, locals := 80 }
def xX9_rota (N : Nat) (a1 : Int32) (w : gT) : Option (Int32 × gT) :=
(if a1 < (nI 1) then
  some ((-1), w)
else
  (if (nI 160) < a1 then
    some ((-1), w)
  else
    (if a1 ≤ (w.1 19 1) then
      gBv (xX6_open a1 w) fun (w1 : gT) =>
      gBv (xX7_readFrom N w1) fun (w2 : gT) =>
      (if (w2.1 19 4) = (nI 0) then
        gBv (xX7_copy w2) fun (w3 : gT) =>
        some ((w3.1 21 5), w3)
      else
        some ((w2.1 19 4), w2))
    else
      some ((-1), w))))
def rmX9_rota : Room := { frames := 6, cells := 0, slots := 0, locals := 134 }
def xX3_clear (w : gT) : Option (gT) :=
gLet (gU w 40 3 (nI 0)) fun (w1 : gT) =>
gLet (gU w1 40 6 (nI 0)) fun (w2 : gT) =>
some w2
def rmX3_clear : Room := { frames := 0, cells := 0, slots := 0, locals := 0 }
def xX3_aim (a1 : Int32) (a2 : Int32) (w : gT) : Option (gT) :=
(if a1 < (nI 0) then
  some w
else
  (if (w.1 40 6) ≤ a1 then
    some w
  else
    gG a1 256 <|
    gLet (gU w 45 a1.toNatClampNeg a2) fun (w1 : gT) =>
    some w1))
def rmX3_aim : Room := { frames := 0, cells := 0, slots := 0, locals := 0 }
def xX3_addStep (a1 : Int32) (a2 : Int32) (w : gT) : Option (gT) :=
(if (nI 256) ≤ (w.1 40 6) then
  some w
else
  gG (w.1 40 6) 256 <|
  gLet (gU w 44 (w.1 40 6).toNatClampNeg a1) fun (w1 : gT) =>
  gG (w1.1 40 6) 256 <|
  gLet (gU w1 45 (w1.1 40 6).toNatClampNeg a2) fun (w2 : gT) =>
  gLet (gU w2 40 6 ((w2.1 40 6) + (nI 1))) fun (w3 : gT) =>
  some w3)
def rmX3_addStep : Room := { frames := 0, cells := 0, slots := 0, locals := 0 }
def xX4_addJump (a1 : Int32) (a2 : Int32) (a3 : Int32) (w : gT) : Option (Int32 × gT) :=
gBv (xX6_takeSign a2 w) fun (w1 : gT) =>
gLet (w1.1 40 6) fun (v2 : Int32) =>
gBv (xX3_aim a3 v2 w1) fun (w3 : gT) =>
gBv (xX3_addStep a1 (v2 + (nI 1)) w3) fun (w4 : gT) =>
some (v2, w4)
def rmX4_addJump : Room := { frames := 3, cells := 0, slots := 0, locals := 64 }
def xX4_readPieces_b9 (N : Nat) (a1 : Int32) (k2 : Int32 → gT → Option (gT)) (rc : Int32 → gT → Option gT) (go6 : Int32 → Int32 → gT → Option (gT)) (v7 : Int32) (v8 : Int32) (w9 : gT) : Option (gT) :=
(if (nI 200) ≤ v8 then
  k2 v7 w9
else
  gBi (xX6_peek w9) fun (v10 : Int32) (w11 : gT) =>
  (if v10 = (nI 38) then
    gBi (xX4_addJump (nI 4) (nI 38) v7 w11) fun (v12 : Int32) (w13 : gT) =>
    gBv (rc a1 w13) fun (w14 : gT) =>
    go6 v12 (v8 + (nI 1)) w14
  else
    k2 v7 w11))
def xX4_readPieces (N : Nat) (rc : Int32 → gT → Option gT) (a1 : Int32) (w : gT) : Option (gT) :=
gBv (rc a1 w) fun (w1 : gT) =>
gLet (fun (v3 : Int32) (w4 : gT) =>
gBv (xX3_aim v3 (w4.1 40 6) w4) fun (w5 : gT) =>
some w5) fun k2 =>
gW2 (xX4_readPieces_b9 N a1 k2 rc) N ((-1) : Int32) (nI 0) w1
def rmX4_readPieces (d : Nat) : Room := { frames := 4 + 82 * d, cells := 0, slots := 0, locals := 88 + 2408 * d }
def xX4_readParts_b9 (N : Nat) (a1 : Int32) (k2 : Int32 → gT → Option (gT)) (rc : Int32 → gT → Option gT) (go6 : Int32 → Int32 → gT → Option (gT)) (v7 : Int32) (v8 : Int32) (w9 : gT) : Option (gT) :=
(if (nI 200) ≤ v8 then
  k2 v7 w9
else
  gBi (xX6_peek w9) fun (v10 : Int32) (w11 : gT) =>
  (if v10 = (nI 124) then
    gBi (xX4_addJump (nI 5) (nI 124) v7 w11) fun (v12 : Int32) (w13 : gT) =>
    gBv (xX4_readPieces N rc a1 w13) fun (w14 : gT) =>
    go6 v12 (v8 + (nI 1)) w14
  else
    k2 v7 w11))
def xX4_readParts (N : Nat) (rc : Int32 → gT → Option gT) (a1 : Int32) (w : gT) : Option (gT) :=
gBv (xX4_readPieces N rc a1 w) fun (w1 : gT) =>
gLet (fun (v3 : Int32) (w4 : gT) =>
gBv (xX3_aim v3 (w4.1 40 6) w4) fun (w5 : gT) =>
some w5) fun k2 =>
gW2 (xX4_readParts_b9 N a1 k2 rc) N ((-1) : Int32) (nI 0) w1
def rmX4_readParts (d : Nat) : Room := { frames := 5 + 82 * d, cells := 0, slots := 0, locals := 111 + 2408 * d }
/-- isLetter(sign): a to z, and one of the twelve -/
def xX4_isLetter (a0 : Int32) (w : gT) : Option (Int32 × gT) :=
  some (if a0 = nI 114 ∨ a0 = nI 110 ∨ a0 = nI 116 ∨ a0 = nI 103 ∨ a0 = nI 109 ∨ a0 = nI 99 ∨ a0 = nI 121 ∨ a0 = nI 104 ∨ a0 = nI 112 ∨ a0 = nI 118 ∨ a0 = nI 111 ∨ a0 = nI 108 then nI 1 else nI 0, w)
def rmX4_isLetter : Room := { frames := 6, cells := 0, slots := 0, locals := 200 }
def xX4_readNumber_b4 (N : Nat) (k1 : Int32 → gT → Option (gT)) (go10 : Int32 → Int32 → gT → Option (gT)) (v11 : Int32) (v12 : Int32) (w13 : gT) : Option (gT) :=
(if (nI 5) ≤ v12 then
  k1 v11 w13
else
  gBi (xX6_isAtDigit w13) fun (v14 : Int32) (w15 : gT) =>
  (if v14 = (nI 0) then
    k1 v11 w15
  else
    gBi (xX6_peek w15) fun (v16 : Int32) (w17 : gT) =>
    gLet ((((nI 10) * v11) + v16) - (nI 48)) fun (v18 : Int32) =>
    gLet (gU w17 19 3 ((w17.1 19 3) + (nI 1))) fun (w19 : gT) =>
    go10 v18 (v12 + (nI 1)) w19))
def xX4_readNumber (N : Nat) (w : gT) : Option (gT) :=
gLet (fun (v2 : Int32) (w3 : gT) =>
gLet (fun (w5 : gT) =>
gBv (xX3_addStep (nI 0) v2 w5) fun (w6 : gT) =>
some w6) fun k4 =>
gBi (xX6_isAtDigit w3) fun (v7 : Int32) (w8 : gT) =>
(if v7 = (nI 0) then
  k4 w8
else
  gBv (xX6_fail (nI 2) w8) fun (w9 : gT) =>
  k4 w9)) fun k1 =>
gW2 (xX4_readNumber_b4 N k1) N (nI 0) (nI 0) w
def rmX4_readNumber : Room := { frames := 2, cells := 0, slots := 0, locals := 43 }
def xX4_goesDeeper (a1 : Int32) (w : gT) : Option (Int32 × gT) :=
(if a1 < (nI 6) then
  gLet (gU w 19 3 ((w.1 19 3) + (nI 1))) fun (w1 : gT) =>
  some ((nI 1), w1)
else
  gBv (xX6_fail (nI 5) w) fun (w2 : gT) =>
  some ((nI 0), w2))
def rmX4_goesDeeper : Room := { frames := 2, cells := 0, slots := 0, locals := 43 }
def xX4_readFactor (N : Nat) (rc : Int32 → gT → Option gT) (a1 : Int32) (w : gT) : Option (gT) :=
gBi (xX6_peek w) fun (v1 : Int32) (w2 : gT) =>
(if v1 = (nI 91) then
  gBi (xX4_goesDeeper a1 w2) fun (v11 : Int32) (w12 : gT) =>
  (if v11 = (nI 0) then
    some w12
  else
    gBv (rc (a1 + (nI 1)) w12) fun (w13 : gT) =>
    gBv (xX6_takeSign (nI 93) w13) fun (w14 : gT) =>
    some w14)
else
  gBi (xX6_isAtDigit w2) fun (v3 : Int32) (w4 : gT) =>
  (if v3 = (nI 0) then
    gBi (xX4_isLetter v1 w4) fun (v5 : Int32) (w6 : gT) =>
    (if v5 = (nI 0) then
      gBv (xX6_fail (nI 1) w6) fun (w7 : gT) =>
      some w7
    else
      gLet (gU w6 19 3 ((w6.1 19 3) + (nI 1))) fun (w8 : gT) =>
      gBv (xX3_addStep (nI 1) (v1 - (nI 97)) w8) fun (w9 : gT) =>
      some w9)
  else
    gBv (xX4_readNumber N w4) fun (w10 : gT) =>
    some w10))
def rmX4_readFactor (d : Nat) : Room := { frames := 7 + 9 * d, cells := 0, slots := 0, locals := 220 + 265 * d }
def xX4_timesAt (a0 : Int32) (w : gT) : Option (Int32 × gT) :=
(if a0 = (nI 42) then
  some ((nI 8), w)
else
  (if a0 = (nI 47) then
    some ((nI 9), w)
  else
    (if a0 = (nI 37) then
      some ((nI 10), w)
    else
      some ((-1), w))))
def rmX4_timesAt : Room := { frames := 0, cells := 0, slots := 0, locals := 0 }
def xX4_readProduct_b7 (N : Nat) (a1 : Int32) (rc : Int32 → gT → Option gT) (go2 : Int32 → gT → Option (gT)) (v3 : Int32) (w4 : gT) : Option (gT) :=
(if (nI 200) ≤ v3 then
  some w4
else
  gBi (xX6_peek w4) fun (v5 : Int32) (w6 : gT) =>
  gBi (xX4_timesAt v5 w6) fun (v7 : Int32) (w8 : gT) =>
  (if v7 = (-1) then
    some w8
  else
    gBi (xX6_peek w8) fun (v9 : Int32) (w10 : gT) =>
    gBi (xX4_timesAt v9 w10) fun (v11 : Int32) (w12 : gT) =>
    gLet (gU w12 19 3 ((w12.1 19 3) + (nI 1))) fun (w13 : gT) =>
    gBv (xX4_readFactor N rc a1 w13) fun (w14 : gT) =>
    gBv (xX3_addStep v11 (nI 0) w14) fun (w15 : gT) =>
    go2 (v3 + (nI 1)) w15))
def xX4_readProduct (N : Nat) (rc : Int32 → gT → Option gT) (a1 : Int32) (w : gT) : Option (gT) :=
gBv (xX4_readFactor N rc a1 w) fun (w1 : gT) =>
gW1 (xX4_readProduct_b7 N a1 rc) N (nI 0) w1
def rmX4_readProduct (d : Nat) : Room := { frames := 8 + 9 * d, cells := 0, slots := 0, locals := 242 + 265 * d }
def xX4_readSum_b7 (N : Nat) (a1 : Int32) (rc : Int32 → gT → Option gT) (go2 : Int32 → gT → Option (gT)) (v3 : Int32) (w4 : gT) : Option (gT) :=
(if (nI 200) ≤ v3 then
  some w4
else
  gLet (fun (w6 : gT) =>
  gLet (fun (v8 : Int32) (w9 : gT) =>
  gLet (gU w9 19 3 ((w9.1 19 3) + (nI 1))) fun (w10 : gT) =>
  gBv (xX4_readProduct N rc a1 w10) fun (w11 : gT) =>
  gBv (xX3_addStep v8 (nI 0) w11) fun (w12 : gT) =>
  go2 (v3 + (nI 1)) w12) fun k7 =>
  gBi (xX6_peek w6) fun (v13 : Int32) (w14 : gT) =>
  (if v13 = (nI 43) then
    k7 (nI 6) w14
  else
    k7 (nI 7) w14)) fun k5 =>
  gBi (xX6_peek w4) fun (v15 : Int32) (w16 : gT) =>
  (if v15 = (nI 43) then
    k5 w16
  else
    gBi (xX6_peek w16) fun (v17 : Int32) (w18 : gT) =>
    (if v17 = (nI 45) then
      k5 w18
    else
      some w18)))
def xX4_readSumB (N : Nat) (rc : Int32 → gT → Option gT) (a1 : Int32) (w : gT) : Option (gT) :=
gBv (xX4_readProduct N rc a1 w) fun (w1 : gT) =>
gW1 (xX4_readSum_b7 N a1 rc) N (nI 0) w1
def xX4_readSum (N : Nat) : Nat → Int32 → gT → Option gT
  | 0, _, _ => none
  | d + 1, a, w => xX4_readSumB N (xX4_readSum N d) a w
def rmX4_readSum (d : Nat) : Room := { frames := 9 * d, cells := 0, slots := 0, locals := 265 * d }
def xX4_comparisonAt (a1 : Int32) (w : gT) : Option (Int32 × gT) :=
gLet (fun (w2 : gT) =>
(if a1 = (nI 60) then
  some ((nI 11), w2)
else
  (if a1 = (nI 62) then
    some ((nI 12), w2)
  else
    some ((nI 13), w2)))) fun k1 =>
(if a1 = (nI 60) then
  k1 w
else
  (if a1 = (nI 62) then
    k1 w
  else
    (if a1 = (nI 61) then
      k1 w
    else
      gBv (xX6_fail (nI 1) w) fun (w3 : gT) =>
      k1 w3)))
def rmX4_comparisonAt : Room := { frames := 2, cells := 0, slots := 0, locals := 43 }
def xX4_readPieceB (N : Nat) (rc : Int32 → gT → Option gT) (a1 : Int32) (w : gT) : Option (gT) :=
gBi (xX6_peek w) fun (v1 : Int32) (w2 : gT) =>
(if v1 = (nI 33) then
  gBi (xX4_goesDeeper a1 w2) fun (v17 : Int32) (w18 : gT) =>
  (if v17 = (nI 0) then
    some w18
  else
    gBv (rc (a1 + (nI 1)) w18) fun (w19 : gT) =>
    gBv (xX3_addStep (nI 3) (nI 0) w19) fun (w20 : gT) =>
    some w20)
else
  gBi (xX6_peek w2) fun (v3 : Int32) (w4 : gT) =>
  (if v3 = (nI 40) then
    gBi (xX4_goesDeeper a1 w4) fun (v13 : Int32) (w14 : gT) =>
    (if v13 = (nI 0) then
      some w14
    else
      gBv (xX4_readParts N rc (a1 + (nI 1)) w14) fun (w15 : gT) =>
      gBv (xX6_takeSign (nI 41) w15) fun (w16 : gT) =>
      some w16)
  else
    gBv (xX4_readSum N 9 a1 w4) fun (w5 : gT) =>
    gBi (xX6_peek w5) fun (v6 : Int32) (w7 : gT) =>
    gBi (xX4_comparisonAt v6 w7) fun (v8 : Int32) (w9 : gT) =>
    gLet (gU w9 19 3 ((w9.1 19 3) + (nI 1))) fun (w10 : gT) =>
    gBv (xX4_readSum N 9 a1 w10) fun (w11 : gT) =>
    gBv (xX3_addStep v8 (nI 0) w11) fun (w12 : gT) =>
    some w12))
def xX4_readPiece (N : Nat) : Nat → Int32 → gT → Option gT
  | 0, _, _ => none
  | d + 1, a, w => xX4_readPieceB N (xX4_readPiece N d) a w
def rmX4_readPiece (d : Nat) : Room := { frames := 82 * d, cells := 0, slots := 0, locals := 2408 * d }
def xX3_addClause (a1 : Int32) (a2 : Int32) (a3 : Int32) (w : gT) : Option (gT) :=
(if (nI 14) ≤ (w.1 40 3) then
  some w
else
  gG (w.1 40 3) 14 <|
  gLet (gU w 41 (w.1 40 3).toNatClampNeg a1) fun (w1 : gT) =>
  gG (w1.1 40 3) 14 <|
  gLet (gU w1 42 (w1.1 40 3).toNatClampNeg a2) fun (w2 : gT) =>
  gG (w2.1 40 3) 14 <|
  gLet (gU w2 43 (w2.1 40 3).toNatClampNeg a3) fun (w3 : gT) =>
  gLet (gU w3 40 3 ((w3.1 40 3) + (nI 1))) fun (w4 : gT) =>
  some w4)
def rmX3_addClause : Room := { frames := 0, cells := 0, slots := 0, locals := 0 }
def xX4_readClause (N : Nat) (w : gT) : Option (gT) :=
gLet (fun (v2 : Int32) (w3 : gT) =>
(if (w3.1 19 4) = (nI 0) then
  gLet (fun (v5 : Int32) (w6 : gT) =>
  gBv (xX6_takeSign (nI 40) w6) fun (w7 : gT) =>
  gLet (w7.1 40 6) fun (v8 : Int32) =>
  gBv (xX4_readParts N (xX4_readPiece N 9) (nI 1) w7) fun (w9 : gT) =>
  gBv (xX3_addStep (nI 2) (nI 0) w9) fun (w10 : gT) =>
  gBv (xX6_takeSign (nI 41) w10) fun (w11 : gT) =>
  gBv (xX3_addClause v2 v5 v8 w11) fun (w12 : gT) =>
  some w12) fun k4 =>
  gLet (gU w3 19 3 ((w3.1 19 3) + (nI 1))) fun (w13 : gT) =>
  gLet (w13.1 40 6) fun (v14 : Int32) =>
  (if v2 = (nI 107) then
    k4 v14 w13
  else
    gBv (xX4_readSum N 9 (nI 0) w13) fun (w15 : gT) =>
    gBv (xX3_addStep (nI 2) (nI 0) w15) fun (w16 : gT) =>
    k4 v14 w16)
else
  some w3)) fun k1 =>
gLet (fun (v18 : Int32) (w19 : gT) =>
(if (w19.1 40 3) = (nI 14) then
  gBv (xX6_fail (nI 4) w19) fun (w20 : gT) =>
  k1 v18 w20
else
  k1 v18 w19)) fun k17 =>
gBi (xX6_peek w) fun (v21 : Int32) (w22 : gT) =>
(if v21 = (nI 107) then
  k17 v21 w22
else
  (if v21 = (nI 102) then
    k17 v21 w22
  else
    (if v21 = (nI 119) then
      k17 v21 w22
    else
      (if v21 = (nI 122) then
        k17 v21 w22
      else
        (if v21 = (nI 113) then
          k17 v21 w22
        else
          gBv (xX6_fail (nI 1) w22) fun (w23 : gT) =>
          k1 v21 w23)))))
def rmX4_readClause : Room := { frames := 744, cells := 0, slots := 0, locals := 21806 }
def xX4_readLaw_b13 (N : Nat) (k3 : gT → Option (gT)) (go6 : Int32 → gT → Option (gT)) (v7 : Int32) (w8 : gT) : Option (gT) :=
(if (nI 200) ≤ v7 then
  k3 w8
else
  gBi (xX6_peek w8) fun (v9 : Int32) (w10 : gT) =>
  (if v9 = (nI 59) then
    gBv (xX6_takeSign (nI 59) w10) fun (w11 : gT) =>
    gBv (xX4_readClause N w11) fun (w12 : gT) =>
    go6 (v7 + (nI 1)) w12
  else
    k3 w10))
def xX4_readLaw (N : Nat) (w : gT) : Option (gT) :=
gBv (xX3_clear w) fun (w1 : gT) =>
gBv (xX4_readClause N w1) fun (w2 : gT) =>
gLet (fun (w4 : gT) =>
gBv (xX6_takeEnd w4) fun (w5 : gT) =>
some w5) fun k3 =>
gW1 (xX4_readLaw_b13 N k3) N (nI 0) w2
def rmX4_readLaw : Room := { frames := 745, cells := 0, slots := 0, locals := 21829 }
def xX3_copy (w : gT) : Option (gT) :=
gLet (gCpy w 41 34 14) fun (w1 : gT) =>
gLet (gCpy w1 42 35 14) fun (w2 : gT) =>
gLet (gCpy w2 43 36 14) fun (w3 : gT) =>
gLet (gCpy w3 44 37 256) fun (w4 : gT) =>
gLet (gCpy w4 45 38 256) fun (w5 : gT) =>
gLet (gU w5 33 3 (w5.1 40 3)) fun (w6 : gT) =>
gLet (gU w6 33 6 (w6.1 40 6)) fun (w7 : gT) =>
some w7
def rmX3_copy : Room := { frames := 1, cells := 0, slots := 0, locals := 80 }
def xX9_law (N : Nat) (a1 : Int32) (w : gT) : Option (Int32 × gT) :=
(if a1 < (nI 1) then
  some ((-1), w)
else
  (if (nI 200) < a1 then
    some ((-1), w)
  else
    (if a1 ≤ (w.1 19 1) then
      gBv (xX6_open a1 w) fun (w1 : gT) =>
      gBv (xX4_readLaw N w1) fun (w2 : gT) =>
      (if (w2.1 19 4) = (nI 0) then
        gBv (xX3_copy w2) fun (w3 : gT) =>
        some ((w3.1 33 3), w3)
      else
        some ((w2.1 19 4), w2))
    else
      some ((-1), w))))
def rmX9_law : Room := { frames := 746, cells := 0, slots := 0, locals := 21850 }
def xX2_hasGhost (a1 : Int32) (w : gT) : Option (Int32 × gT) :=
(if a1 < (nI 0) then
  some ((nI 0), w)
else
  (if (nI 10) ≤ a1 then
    some ((nI 0), w)
  else
    (if ((gShr (w.1 1 8) a1) &&& (nI 1)) = (nI 1) then
      some ((nI 1), w)
    else
      some ((nI 0), w))))
def rmX2_hasGhost : Room := { frames := 0, cells := 0, slots := 0, locals := 0 }
def xX7_isGone (a1 : Int32) (w : gT) : Option (Int32 × gT) :=
gG a1 16 <|
(if (w.1 26 a1.toNatClampNeg) = (nI 1) then
  gG a1 16 <|
  gBi (xX2_hasGhost (w.1 22 a1.toNatClampNeg) w) fun (v1 : Int32) (w2 : gT) =>
  (if v1 = (nI 0) then
    some ((nI 0), w2)
  else
    some ((nI 1), w2))
else
  some ((nI 0), w))
def rmX7_isGone : Room := { frames := 1, cells := 0, slots := 0, locals := 21 }
def xX9_walk (a1 : Int32) (a2 : Int32) (w : gT) : Option (Int32 × gT) :=
(if a1 < (nI 0) then
  some ((-1), w)
else
  (if a1 < (w.1 21 5) then
    (if a2 = (nI 0) then
      gG a1 16 <|
      some ((w.1 22 a1.toNatClampNeg), w)
    else
      (if a2 = (nI 1) then
        gG a1 16 <|
        some ((w.1 23 a1.toNatClampNeg), w)
      else
        (if a2 = (nI 2) then
          gG a1 16 <|
          some ((w.1 24 a1.toNatClampNeg), w)
        else
          (if a2 = (nI 3) then
            gG a1 16 <|
            some ((w.1 25 a1.toNatClampNeg), w)
          else
            (if a2 = (nI 4) then
              gBi (xX7_isGone a1 w) fun (v1 : Int32) (w2 : gT) =>
              (if v1 = (nI 0) then
                some ((nI 0), w2)
              else
                some ((nI 1), w2))
            else
              some ((-1), w))))))
  else
    some ((-1), w)))
def rmX9_walk : Room := { frames := 2, cells := 0, slots := 0, locals := 43 }
def xX1_isNear (a1 : Int32) (a2 : Int32) (a3 : Int32) (a4 : Int32) (w : gT) : Option (Int32 × gT) :=
gG ((a3 * (nI 10)) + a2) 70 <|
gLet (w.1 3 ((a3 * (nI 10)) + a2).toNatClampNeg) fun (v1 : Int32) =>
(if a4 = v1 then
  some ((nI 1), w)
else
  gG a1 10 <|
  (if (w.1 5 a1.toNatClampNeg) = (nI 2) then
    (if a4 = (v1 - (nI 1)) then
      some ((nI 1), w)
    else
      (if a4 = (v1 + (nI 1)) then
        some ((nI 1), w)
      else
        some ((nI 0), w)))
  else
    some ((nI 0), w)))
def rmX1_isNear : Room := { frames := 0, cells := 0, slots := 0, locals := 0 }
def xX2_companyOf_b18 (N : Nat) (a2 : Int32) (v1 : Int32) (go2 : Int32 → Int32 → gT → Option (Int32 × gT)) (v3 : Int32) (v4 : Int32) (w5 : gT) : Option (Int32 × gT) :=
(if (nI 10) ≤ v4 then
  some (v3, w5)
else
  gLet (fun (v7 : Int32) (w8 : gT) =>
  go2 v7 (v4 + (nI 1)) w8) fun k6 =>
  gBi (xX2_hasSleeper v4 w5) fun (v9 : Int32) (w10 : gT) =>
  (if v9 = (nI 0) then
    k6 v3 w10
  else
    gG ((a2 * (nI 10)) + v4) 70 <|
    (if (w10.1 3 ((a2 * (nI 10)) + v4).toNatClampNeg) = v1 then
      k6 (v3 + (nI 1)) w10
    else
      k6 v3 w10)))
def xX2_companyOf (N : Nat) (a1 : Int32) (a2 : Int32) (w : gT) : Option (Int32 × gT) :=
gG ((a2 * (nI 10)) + a1) 70 <|
gLet (w.1 3 ((a2 * (nI 10)) + a1).toNatClampNeg) fun (v1 : Int32) =>
gW2 (xX2_companyOf_b18 N a2 v1) N (nI 0) (nI 0) w
def rmX2_companyOf : Room := { frames := 1, cells := 0, slots := 0, locals := 21 }
def xX1_isLet (a0 : Int32) (a1 : Int32) (a2 : Int32) (w : gT) : Option (Int32 × gT) :=
(if a0 = (nI 3) then
  some ((nI 0), w)
else
  gLet (fun (w2 : gT) =>
  (if a0 = (nI 4) then
    (if a2 = (nI 1) then
      some ((nI 1), w2)
    else
      some ((nI 0), w2))
  else
    some ((nI 1), w2))) fun k1 =>
  (if a0 = (nI 1) then
    (if a1 = (nI 1) then
      k1 w
    else
      some ((nI 0), w))
  else
    k1 w))
def rmX1_isLet : Room := { frames := 0, cells := 0, slots := 0, locals := 0 }
def xJ7_fill_53178_49_b5 (a1 : Int32) (go1 : Int32 → gT → Option (gT)) (v2 : Int32) (w3 : gT) : Option (gT) :=
(if (nI 26) ≤ v2 then
  some w3
else
  gG v2 26 <|
  gLet (gU w3 49 v2.toNatClampNeg a1) fun (w4 : gT) =>
  go1 (v2 + (nI 1)) w4)
def xJ7_fill_53178_49 (N : Nat) (a1 : Int32) (w : gT) : Option (gT) :=
gW1 (xJ7_fill_53178_49_b5 a1) N (nI 0) w
def rmJ7_fill_53178_49 : Room := { frames := 0, cells := 0, slots := 0, locals := 0 }
def xX1_tellLetter (a1 : Int32) (a2 : Int32) (w : gT) : Option (gT) :=
gG (a1 - (nI 97)) 26 <|
gLet (gU w 49 (a1 - (nI 97)).toNatClampNeg a2) fun (w1 : gT) =>
some w1
def rmX1_tellLetter : Room := { frames := 0, cells := 0, slots := 0, locals := 0 }
def xX1_tellWalk (N : Nat) (a1 : Int32) (a2 : Int32) (a3 : Int32) (a4 : Int32) (w : gT) : Option (gT) :=
gBv (xJ7_fill_53178_49 N (nI 0) w) fun (w1 : gT) =>
gBv (xX1_tellLetter (nI 114) a3 w1) fun (w2 : gT) =>
gBv (xX1_tellLetter (nI 110) a2 w2) fun (w3 : gT) =>
gG a3 12 <|
gBv (xX1_tellLetter (nI 116) (w3.1 2 a3.toNatClampNeg) w3) fun (w4 : gT) =>
gBv (xX1_tellLetter (nI 103) a1 w4) fun (w5 : gT) =>
gG a1 10 <|
gBv (xX1_tellLetter (nI 109) (w5.1 6 a1.toNatClampNeg) w5) fun (w6 : gT) =>
gG a1 10 <|
gBv (xX1_tellLetter (nI 99) (w6.1 7 a1.toNatClampNeg) w6) fun (w7 : gT) =>
gG a1 10 <|
gBv (xX1_tellLetter (nI 121) (w7.1 8 a1.toNatClampNeg) w7) fun (w8 : gT) =>
gBv (xX1_tellLetter (nI 104) a4 w8) fun (w9 : gT) =>
some w9
def rmX1_tellWalk : Room := { frames := 1, cells := 0, slots := 0, locals := 23 }
def xX3_letterAt (a0 : Int32) (w : gT) : Option (Int32 × gT) :=
(if a0 < (nI 0) then
  some ((nI 0), w)
else
  (if (nI 26) ≤ a0 then
    some ((nI 0), w)
  else
    gG a0 26 <|
    some ((w.1 49 a0.toNatClampNeg), w)))
def rmX3_letterAt : Room := { frames := 0, cells := 0, slots := 0, locals := 0 }
def xX3_joined (a0 : Int32) (a1 : Int32) (a2 : Int32) (w : gT) : Option (Int32 × gT) :=
(if a0 = (nI 6) then
  some ((a1 + a2), w)
else
  (if a0 = (nI 7) then
    some ((a1 - a2), w)
  else
    (if a0 = (nI 8) then
      some ((a1 * a2), w)
    else
      (if a0 = (nI 9) then
        (if a2 = (nI 0) then
          some ((nI 0), w)
        else
          gZ a2 <|
          some ((a1 / a2), w))
      else
        (if a0 = (nI 10) then
          (if a2 = (nI 0) then
            some ((nI 0), w)
          else
            gZ a2 <|
            some ((gRem a1 a2), w))
        else
          (if a0 = (nI 11) then
            (if a2 ≤ a1 then
              some ((nI 0), w)
            else
              some ((nI 1), w))
          else
            (if a0 = (nI 12) then
              (if a1 ≤ a2 then
                some ((nI 0), w)
              else
                some ((nI 1), w))
            else
              (if a1 = a2 then
                some ((nI 1), w)
              else
                some ((nI 0), w)))))))))
def rmX3_joined : Room := { frames := 0, cells := 0, slots := 0, locals := 0 }
def xX3_reckon_b5 (N : Nat) (go1 : Int32 → Int32 → gT → Option (Int32 × gT)) (v2 : Int32) (v3 : Int32) (w4 : gT) : Option (Int32 × gT) :=
(if v3 < (nI 0) then
  some ((nI 0), w4)
else
  (if (w4.1 33 6) ≤ v3 then
    some ((nI 0), w4)
  else
    gLet (fun (v6 : Int32) (v7 : Int32) (w8 : gT) =>
    go1 v6 (v7 + (nI 1)) w8) fun k5 =>
    gLet (fun (v10 : Int32) (w11 : gT) =>
    (if (v2 + (nI 1)) < (nI 32) then
      gLet (fun (v13 : Int32) (v14 : Int32) (v15 : Int32) (w16 : gT) =>
      gG v14 32 <|
      gLet (gU w16 39 v14.toNatClampNeg v15) fun (w17 : gT) =>
      k5 v13 v3 w17) fun k12 =>
      (if v10 = (nI 0) then
        gG v3 256 <|
        k12 (v2 + (nI 1)) (v2 + (nI 1)) (w11.1 38 v3.toNatClampNeg) w11
      else
        gG v3 256 <|
        gBi (xX3_letterAt (w11.1 38 v3.toNatClampNeg) w11) fun (v18 : Int32) (w19 : gT) =>
        k12 (v2 + (nI 1)) (v2 + (nI 1)) v18 w19)
    else
      some ((nI 0), w11))) fun k9 =>
    gG v3 256 <|
    gLet (w4.1 37 v3.toNatClampNeg) fun (v20 : Int32) =>
    (if v20 = (nI 0) then
      k9 v20 w4
    else
      (if v20 = (nI 1) then
        k9 v20 w4
      else
        (if (nI 0) ≤ v2 then
          (if v20 = (nI 2) then
            gG v2 32 <|
            some ((w4.1 39 v2.toNatClampNeg), w4)
          else
            (if v20 = (nI 3) then
              gG v2 32 <|
              gG v2 32 <|
              gLet (gU w4 39 v2.toNatClampNeg ((nI 1) - (w4.1 39 v2.toNatClampNeg))) fun (w37 : gT) =>
              k5 v2 v3 w37
            else
              gLet (fun (w22 : gT) =>
              gLet (fun (v24 : Int32) (w25 : gT) =>
              gLet (fun (v27 : Int32) (v28 : Int32) (w29 : gT) =>
              (if v27 = v28 then
                gG v3 256 <|
                gLet (gMax v3 ((w29.1 38 v3.toNatClampNeg) - (nI 1))) fun (v30 : Int32) =>
                k5 v2 v30 w29
              else
                k5 (v2 + (-1)) v3 w29)) fun k26 =>
              (if v20 = (nI 5) then
                k26 v24 (nI 1) w25
              else
                k26 v24 (nI 0) w25)) fun k23 =>
              gG v2 32 <|
              (if (w22.1 39 v2.toNatClampNeg) = (nI 0) then
                k23 (nI 0) w22
              else
                k23 (nI 1) w22)) fun k21 =>
              (if v20 = (nI 4) then
                k21 w4
              else
                (if v20 = (nI 5) then
                  k21 w4
                else
                  gG v2 32 <|
                  gLet (w4.1 39 v2.toNatClampNeg) fun (v31 : Int32) =>
                  (if (v2 + (-1)) < (nI 0) then
                    some ((nI 0), w4)
                  else
                    gLet (fun (w33 : gT) =>
                    gG (v2 + (-1)) 32 <|
                    gBi (xX3_joined v20 (w33.1 39 (v2 + (-1)).toNatClampNeg) v31 w33) fun (v34 : Int32) (w35 : gT) =>
                    gG (v2 + (-1)) 32 <|
                    gLet (gU w35 39 (v2 + (-1)).toNatClampNeg v34) fun (w36 : gT) =>
                    k5 (v2 + (-1)) v3 w36) fun k32 =>
                    (if v31 = (nI 0) then
                      (if v20 = (nI 9) then
                        some ((nI 0), w4)
                      else
                        (if v20 = (nI 10) then
                          some ((nI 0), w4)
                        else
                          k32 w4))
                    else
                      k32 w4))))))
        else
          some ((nI 0), w4))))))
def xX3_reckon (N : Nat) (a1 : Int32) (w : gT) : Option (Int32 × gT) :=
gW2 (xX3_reckon_b5 N) N ((-1) : Int32) a1 w
def rmX3_reckon : Room := { frames := 1, cells := 0, slots := 0, locals := 22 }
def xX3_holds_b2 (N : Nat) (a1 : Int32) (go1 : Int32 → gT → Option (Int32 × gT)) (v2 : Int32) (w3 : gT) : Option (Int32 × gT) :=
(if (w3.1 33 3) ≤ v2 then
  some ((nI 0), w3)
else
  gLet (fun (w5 : gT) =>
  go1 (v2 + (nI 1)) w5) fun k4 =>
  gG v2 14 <|
  (if (w3.1 34 v2.toNatClampNeg) = a1 then
    gG v2 14 <|
    gBi (xX3_reckon N (w3.1 36 v2.toNatClampNeg) w3) fun (v6 : Int32) (w7 : gT) =>
    (if v6 = (nI 0) then
      k4 w7
    else
      some ((nI 1), w7))
  else
    k4 w3))
def xX3_holds (N : Nat) (a1 : Int32) (w : gT) : Option (Int32 × gT) :=
gW1 (xX3_holds_b2 N a1) N (nI 0) w
def rmX3_holds : Room := { frames := 2, cells := 0, slots := 0, locals := 48 }
def xX3_amountOf_b3 (N : Nat) (a1 : Int32) (k1 : Int32 → gT → Option (Int32 × gT)) (go6 : Int32 → gT → Option (Int32 × gT)) (v7 : Int32) (w8 : gT) : Option (Int32 × gT) :=
(if (w8.1 33 3) ≤ v7 then
  some ((nI 0), w8)
else
  gLet (fun (w10 : gT) =>
  go6 (v7 + (nI 1)) w10) fun k9 =>
  gG v7 14 <|
  (if (w8.1 34 v7.toNatClampNeg) = a1 then
    gG v7 14 <|
    gBi (xX3_reckon N (w8.1 36 v7.toNatClampNeg) w8) fun (v11 : Int32) (w12 : gT) =>
    (if v11 = (nI 0) then
      k9 w12
    else
      k1 v7 w12)
  else
    k9 w8))
def xX3_amountOf (N : Nat) (a1 : Int32) (a2 : Int32) (w : gT) : Option (Int32 × gT) :=
gLet (fun (v2 : Int32) (w3 : gT) =>
gG v2 14 <|
gBi (xX3_reckon N (w3.1 35 v2.toNatClampNeg) w3) fun (v4 : Int32) (w5 : gT) =>
some ((gMax (nI 0) (gMin a2 v4)), w5)) fun k1 =>
gW1 (xX3_amountOf_b3 N a1 k1) N (nI 0) w
def rmX3_amountOf : Room := { frames := 2, cells := 0, slots := 0, locals := 48 }
def xX1_frightOf (N : Nat) (a1 : Int32) (a2 : Int32) (a3 : Int32) (a4 : Int32) (a5 : Int32) (w : gT) : Option (Int32 × gT) :=
gBi (xX1_isNear a1 a2 a3 a4 w) fun (v1 : Int32) (w2 : gT) =>
(if v1 = (nI 0) then
  some ((-2), w2)
else
  gBi (xX2_companyOf N a2 a3 w2) fun (v3 : Int32) (w4 : gT) =>
  gG a1 10 <|
  gBi (xX1_isLet (w4.1 5 a1.toNatClampNeg) v3 a5 w4) fun (v5 : Int32) (w6 : gT) =>
  (if v5 = (nI 0) then
    some ((-2), w6)
  else
    gG ((a3 * (nI 10)) + a2) 70 <|
    gBv (xX1_tellWalk N a1 a3 (w6.1 3 ((a3 * (nI 10)) + a2).toNatClampNeg) a5 w6) fun (w7 : gT) =>
    gBv (xX1_tellLetter (nI 112) a2 w7) fun (w8 : gT) =>
    gG a2 10 <|
    gBv (xX1_tellLetter (nI 118) (w8.1 4 a2.toNatClampNeg) w8) fun (w9 : gT) =>
    gBv (xX1_tellLetter (nI 111) v3 w9) fun (w10 : gT) =>
    gBi (xX3_holds N (nI 107) w10) fun (v11 : Int32) (w12 : gT) =>
    (if v11 = (nI 0) then
      some ((-2), w12)
    else
      gBi (xX3_amountOf N (nI 102) (nI 99) w12) fun (v13 : Int32) (w14 : gT) =>
      some (v13, w14))))
def rmX1_frightOf : Room := { frames := 3, cells := 0, slots := 0, locals := 72 }
def xX9_fright (N : Nat) (a1 : Int32) (a2 : Int32) (a3 : Int32) (a4 : Int32) (a5 : Int32) (w : gT) : Option (Int32 × gT) :=
gBi (xX2_hasGhost a1 w) fun (v1 : Int32) (w2 : gT) =>
(if v1 = (nI 0) then
  some ((-1), w2)
else
  gBi (xX2_hasSleeper a2 w2) fun (v3 : Int32) (w4 : gT) =>
  (if v3 = (nI 0) then
    some ((-1), w4)
  else
    gBi (xX9_isNight a3 w4) fun (v5 : Int32) (w6 : gT) =>
    (if v5 = (nI 0) then
      some ((-1), w6)
    else
      gBi (xX9_isRoom a4 w6) fun (v7 : Int32) (w8 : gT) =>
      (if v7 = (nI 0) then
        some ((-1), w8)
      else
        gLet (fun (w10 : gT) =>
        gBi (xX1_frightOf N a1 a2 a3 a4 a5 w10) fun (v11 : Int32) (w12 : gT) =>
        some (v11, w12)) fun k9 =>
        (if a5 = (nI 0) then
          k9 w8
        else
          (if a5 = (nI 1) then
            k9 w8
          else
            some ((-1), w8)))))))
def rmX9_fright : Room := { frames := 4, cells := 0, slots := 0, locals := 98 }
def xX9_isSum (a2 : Int32) (w : gT) : Option (Int32 × gT) :=
(if a2 < (nI 0) then
  some ((nI 0), w)
else
  (if a2 < (nI 47) then
    (if (nI 10) ≤ a2 then
      (if (nI 20) ≤ a2 then
        (if (nI 40) ≤ a2 then
          some ((nI 1), w)
        else
          gBi (xX2_hasGhost (gRem a2 (nI 10)) w) fun (v1 : Int32) (w2 : gT) =>
          (if v1 = (nI 0) then
            some ((nI 0), w2)
          else
            some ((nI 1), w2)))
      else
        gBi (xX2_hasSleeper (a2 - (nI 10)) w) fun (v3 : Int32) (w4 : gT) =>
        if v3 = nI 0 ∨ v3 = nI 1 then some (v3, w4) else none)
    else
      (if (nI 4) < a2 then
        some ((nI 0), w)
      else
        some ((nI 1), w)))
  else
    some ((nI 0), w)))
def rmX9_isSum : Room := { frames := 1, cells := 0, slots := 0, locals := 21 }
def xJ7_fill_53178_51_b5 (a1 : Int32) (go1 : Int32 → gT → Option (gT)) (v2 : Int32) (w3 : gT) : Option (gT) :=
(if (nI 47) ≤ v2 then
  some w3
else
  gG v2 47 <|
  gLet (gU w3 51 v2.toNatClampNeg a1) fun (w4 : gT) =>
  go1 (v2 + (nI 1)) w4)
def xJ7_fill_53178_51 (N : Nat) (a1 : Int32) (w : gT) : Option (gT) :=
gW1 (xJ7_fill_53178_51_b5 a1) N (nI 0) w
def rmJ7_fill_53178_51 : Room := { frames := 0, cells := 0, slots := 0, locals := 0 }
def xX8_chainFor (a1 : Int32) (w : gT) : Option (Int32 × gT) :=
gG a1 16 <|
(if (w.1 25 a1.toNatClampNeg) = (nI 0) then
  some ((nI 0), w)
else
  (if (w.1 50 5) = (nI 0) then
    some ((nI 0), w)
  else
    gLet (gU w 50 5 ((w.1 50 5) - (nI 1))) fun (w1 : gT) =>
    some ((nI 1), w1)))
def rmX8_chainFor : Room := { frames := 0, cells := 0, slots := 0, locals := 0 }
def xX7_isElder (a0 : Int32) (a1 : Int32) (w : gT) : Option (Int32 × gT) :=
gG a0 10 <|
gG a1 10 <|
(if (w.1 8 a1.toNatClampNeg) < (w.1 8 a0.toNatClampNeg) then
  some ((nI 1), w)
else
  gG a0 10 <|
  gG a1 10 <|
  (if (w.1 8 a0.toNatClampNeg) = (w.1 8 a1.toNatClampNeg) then
    (if a1 ≤ a0 then
      some ((nI 0), w)
    else
      some ((nI 1), w))
  else
    some ((nI 0), w)))
def rmX7_isElder : Room := { frames := 0, cells := 0, slots := 0, locals := 0 }
def xX7_isClaimed_b10 (N : Nat) (a1 : Int32) (v1 : Int32) (go2 : Int32 → gT → Option (Int32 × gT)) (v3 : Int32) (w4 : gT) : Option (Int32 × gT) :=
(if (w4.1 21 5) ≤ v3 then
  some ((nI 0), w4)
else
  gLet (fun (v6 : Int32) (w7 : gT) =>
  gLet (fun (w9 : gT) =>
  go2 (v3 + (nI 1)) w9) fun k8 =>
  (if v6 = (nI 0) then
    k8 w7
  else
    gG v3 16 <|
    gBi (xX7_isElder (w7.1 22 v3.toNatClampNeg) v1 w7) fun (v10 : Int32) (w11 : gT) =>
    (if v10 = (nI 0) then
      k8 w11
    else
      some ((nI 1), w11)))) fun k5 =>
  gLet (fun (w13 : gT) =>
  k5 (nI 0) w13) fun k12 =>
  gG v3 16 <|
  gG a1 16 <|
  (if (w4.1 23 v3.toNatClampNeg) = (w4.1 23 a1.toNatClampNeg) then
    gG v3 16 <|
    gG a1 16 <|
    (if (w4.1 24 v3.toNatClampNeg) = (w4.1 24 a1.toNatClampNeg) then
      gG v3 16 <|
      (if (w4.1 22 v3.toNatClampNeg) = v1 then
        k12 w4
      else
        gBi (xX7_isGone v3 w4) fun (v14 : Int32) (w15 : gT) =>
        (if v14 = (nI 0) then
          k12 w15
        else
          k5 (nI 1) w15))
    else
      k12 w4)
  else
    k12 w4))
def xX7_isClaimed (N : Nat) (a1 : Int32) (w : gT) : Option (Int32 × gT) :=
gG a1 16 <|
gLet (w.1 22 a1.toNatClampNeg) fun (v1 : Int32) =>
gW1 (xX7_isClaimed_b10 N a1 v1) N (nI 0) w
def rmX7_isClaimed : Room := { frames := 2, cells := 0, slots := 0, locals := 43 }
def xX1_tenthsOf (N : Nat) (a1 : Int32) (a2 : Int32) (a3 : Int32) (a4 : Int32) (w : gT) : Option (Int32 × gT) :=
gBv (xX1_tellWalk N a1 a2 a3 a4 w) fun (w1 : gT) =>
gBi (xX3_amountOf N (nI 122) (nI 10) w1) fun (v2 : Int32) (w3 : gT) =>
some (v2, w3)
def rmX1_tenthsOf : Room := { frames := 3, cells := 0, slots := 0, locals := 72 }
def xX1_wageOf (N : Nat) (a1 : Int32) (a2 : Int32) (a3 : Int32) (a4 : Int32) (w : gT) : Option (Int32 × gT) :=
gBv (xX1_tellWalk N a1 a2 a3 a4 w) fun (w1 : gT) =>
gBi (xX3_amountOf N (nI 119) (nI 999) w1) fun (v2 : Int32) (w3 : gT) =>
some (v2, w3)
def rmX1_wageOf : Room := { frames := 3, cells := 0, slots := 0, locals := 72 }
def xX8_goOut_b120 (N : Nat) (k11 : gT → Option (gT)) (v1 : Int32) (v5 : Int32) (v6 : Int32) (v7 : Int32) (go23 : Int32 → gT → Option (gT)) (v24 : Int32) (w25 : gT) : Option (gT) :=
(if (nI 10) ≤ v24 then
  k11 w25
else
  gLet (fun (v27 : Int32) (w28 : gT) =>
  gLet (fun (w30 : gT) =>
  go23 (v24 + (nI 1)) w30) fun k29 =>
  (if v27 = (-2) then
    k29 w28
  else
    gLet (gU w28 51 0 ((w28.1 51 0) + v27)) fun (w31 : gT) =>
    gLet ((nI 10) + v24) fun (v32 : Int32) =>
    gG v32 47 <|
    gG v32 47 <|
    gLet (gU w31 51 v32.toNatClampNeg ((w31.1 51 v32.toNatClampNeg) + v27)) fun (w33 : gT) =>
    gLet ((nI 40) + v6) fun (v34 : Int32) =>
    gG v34 47 <|
    gG v34 47 <|
    gLet (gU w33 51 v34.toNatClampNeg ((w33.1 51 v34.toNatClampNeg) + v27)) fun (w35 : gT) =>
    gLet (gU w35 51 2 ((w35.1 51 2) + (nI 1))) fun (w36 : gT) =>
    gLet ((nI 20) + v5) fun (v37 : Int32) =>
    gG v37 47 <|
    gG v37 47 <|
    gLet (gU w36 51 v37.toNatClampNeg ((w36.1 51 v37.toNatClampNeg) + (nI 1))) fun (w38 : gT) =>
    k29 w38)) fun k26 =>
  gBi (xX2_hasSleeper v24 w25) fun (v39 : Int32) (w40 : gT) =>
  (if v39 = (nI 0) then
    k26 ((-2) : Int32) w40
  else
    gBi (xX1_frightOf N v5 v24 v6 v7 v1 w40) fun (v41 : Int32) (w42 : gT) =>
    k26 v41 w42))
def xX8_goOut (N : Nat) (a1 : Int32) (w : gT) : Option (gT) :=
gBi (xX8_chainFor a1 w) fun (v1 : Int32) (w2 : gT) =>
gBi (xX7_isClaimed N a1 w2) fun (v3 : Int32) (w4 : gT) =>
(if v3 = (nI 0) then
  gG a1 16 <|
  gLet (w4.1 22 a1.toNatClampNeg) fun (v5 : Int32) =>
  gG a1 16 <|
  gLet (w4.1 23 a1.toNatClampNeg) fun (v6 : Int32) =>
  gG a1 16 <|
  gLet (w4.1 24 a1.toNatClampNeg) fun (v7 : Int32) =>
  gLet (gU w4 50 4 (gRem (((nI 25173) * (w4.1 50 4)) + (nI 13849)) (nI 65536))) fun (w8 : gT) =>
  gBi (xX1_tenthsOf N v5 v6 v7 v1 w8) fun (v9 : Int32) (w10 : gT) =>
  (if v9 ≤ (gRem (w8.1 50 4) (nI 10)) then
    gLet (fun (w12 : gT) =>
    gLet (fun (v14 : Int32) (v15 : Int32) (w16 : gT) =>
    gLet (v14 * v15) fun (v17 : Int32) =>
    gLet (gU w16 51 1 ((w16.1 51 1) + v17)) fun (w18 : gT) =>
    gLet ((nI 30) + v5) fun (v19 : Int32) =>
    gG v19 47 <|
    gG v19 47 <|
    gLet (gU w18 51 v19.toNatClampNeg ((w18.1 51 v19.toNatClampNeg) + v17)) fun (w20 : gT) =>
    some w20) fun k13 =>
    gBi (xX1_wageOf N v5 v6 v7 v1 w12) fun (v21 : Int32) (w22 : gT) =>
    (if v6 = (w22.1 1 11) then
      k13 v21 (nI 2) w22
    else
      k13 v21 (nI 1) w22)) fun k11 =>
    gW1 (xX8_goOut_b120 N k11 v1 v5 v6 v7) N (nI 0) w10
  else
    gLet (gU w10 51 3 ((w10.1 51 3) + (nI 1))) fun (w43 : gT) =>
    some w43)
else
  gLet (gU w4 51 4 ((w4.1 51 4) + (nI 1))) fun (w44 : gT) =>
  some w44)
def rmX8_goOut : Room := { frames := 4, cells := 0, slots := 0, locals := 98 }
def xX8_pass_b40 (N : Nat) (k7 : gT → Option (gT)) (v4 : Int32) (go9 : Int32 → gT → Option (gT)) (v10 : Int32) (w11 : gT) : Option (gT) :=
(if (w11.1 21 5) ≤ v10 then
  k7 w11
else
  gLet (fun (w13 : gT) =>
  go9 (v10 + (nI 1)) w13) fun k12 =>
  gG v10 16 <|
  (if (w11.1 23 v10.toNatClampNeg) = v4 then
    gBi (xX7_isGone v10 w11) fun (v14 : Int32) (w15 : gT) =>
    (if v14 = (nI 0) then
      k12 w15
    else
      gBv (xX8_goOut N v10 w15) fun (w16 : gT) =>
      k12 w16)
  else
    k12 w11))
def xX8_pass_b21 (N : Nat) (go3 : Int32 → gT → Option (gT)) (v4 : Int32) (w5 : gT) : Option (gT) :=
(if (nI 7) ≤ v4 then
  some w5
else
  gLet (gU w5 50 5 (w5.1 1 10)) fun (w6 : gT) =>
  gLet (fun (w8 : gT) =>
  go3 (v4 + (nI 1)) w8) fun k7 =>
  gW1 (xX8_pass_b40 N k7 v4) N (nI 0) w6)
def xX8_pass (N : Nat) (w : gT) : Option (gT) :=
gBv (xJ7_fill_53178_51 N (nI 0) w) fun (w1 : gT) =>
gLet (gU w1 50 4 (w1.1 1 13)) fun (w2 : gT) =>
gW1 (xX8_pass_b21 N) N (nI 0) w2
def rmX8_pass : Room := { frames := 5, cells := 0, slots := 0, locals := 125 }
def xX9_week (N : Nat) (a1 : Int32) (w : gT) : Option (Int32 × gT) :=
gBi (xX9_isSum a1 w) fun (v1 : Int32) (w2 : gT) =>
(if v1 = (nI 0) then
  some ((-1), w2)
else
  gBv (xX8_pass N w2) fun (w3 : gT) =>
  gG a1 47 <|
  some ((w3.1 51 a1.toNatClampNeg), w3))
def rmX9_week : Room := { frames := 6, cells := 0, slots := 0, locals := 147 }
def xX9_live_b9 (k2 : gT → Option (Int32 × gT)) (go6 : Int32 → gT → Option (Int32 × gT)) (v7 : Int32) (w8 : gT) : Option (Int32 × gT) :=
(if (nI 40) ≤ v7 then
  k2 w8
else
  gG v7 40 <|
  gG v7 47 <|
  gG v7 40 <|
  gLet (gU w8 9 v7.toNatClampNeg ((w8.1 9 v7.toNatClampNeg) + (w8.1 51 v7.toNatClampNeg))) fun (w9 : gT) =>
  go6 (v7 + (nI 1)) w9)
def xX9_live (N : Nat) (w : gT) : Option (Int32 × gT) :=
gBv (xX8_pass N w) fun (w1 : gT) =>
gLet (fun (w3 : gT) =>
gLet (gU w3 1 12 ((w3.1 1 12) + (nI 1))) fun (w4 : gT) =>
gLet (gU w4 1 13 (w4.1 50 4)) fun (w5 : gT) =>
some ((w5.1 51 0), w5)) fun k2 =>
gW1 (xX9_live_b9 k2) N (nI 0) w1
def rmX9_live : Room := { frames := 6, cells := 0, slots := 0, locals := 147 }
def xX9_isSum_0_9 (a2 : Int32) (w : gT) : Option (Int32 × gT) :=
(if a2 < (nI 0) then
  some ((nI 0), w)
else
  (if a2 < (nI 40) then
    (if (nI 10) ≤ a2 then
      (if (nI 20) ≤ a2 then
        (if (nI 40) ≤ a2 then
          some ((nI 1), w)
        else
          gBi (xX2_hasGhost (gRem a2 (nI 10)) w) fun (v1 : Int32) (w2 : gT) =>
          (if v1 = (nI 0) then
            some ((nI 0), w2)
          else
            some ((nI 1), w2)))
      else
        gBi (xX2_hasSleeper (a2 - (nI 10)) w) fun (v3 : Int32) (w4 : gT) =>
        if v3 = nI 0 ∨ v3 = nI 1 then some (v3, w4) else none)
    else
      (if (nI 4) < a2 then
        some ((nI 0), w)
      else
        some ((nI 1), w)))
  else
    some ((nI 0), w)))
def rmX9_isSum_0_9 : Room := { frames := 1, cells := 0, slots := 0, locals := 21 }
def xX9_soFar (a1 : Int32) (w : gT) : Option (Int32 × gT) :=
(if a1 = (nI 5) then
  some ((w.1 1 12), w)
else
  gBi (xX9_isSum_0_9 a1 w) fun (v1 : Int32) (w2 : gT) =>
  (if v1 = (nI 0) then
    some ((-1), w2)
  else
    gG a1 40 <|
    some ((w2.1 9 a1.toNatClampNeg), w2)))
def rmX9_soFar : Room := { frames := 2, cells := 0, slots := 0, locals := 43 }
def xX9_areSleepers (a1 : Int32) (w : gT) : Option (Int32 × gT) :=
(if a1 = (nI 0) then
  some ((nI 0), w)
else
  (if (a1 &&& ((w.1 1 9) ^^^ (-1))) = (nI 0) then
    some ((nI 1), w)
  else
    some ((nI 0), w)))
def rmX9_areSleepers : Room := { frames := 0, cells := 0, slots := 0, locals := 0 }
def xX1_frightenedBy_b6 (N : Nat) (a1 : Int32) (a2 : Int32) (a3 : Int32) (go1 : Int32 → Int32 → gT → Option (Int32 × gT)) (v2 : Int32) (v3 : Int32) (w4 : gT) : Option (Int32 × gT) :=
(if (nI 10) ≤ v3 then
  some (v2, w4)
else
  gLet (fun (v6 : Int32) (v7 : Int32) (w8 : gT) =>
  gLet (fun (v10 : Int32) (w11 : gT) =>
  go1 v10 (v3 + (nI 1)) w11) fun k9 =>
  (if v7 = (nI 0) then
    k9 v2 w8
  else
    gBi (xX1_frightOf N a1 v3 a2 v6 (nI 0) w8) fun (v12 : Int32) (w13 : gT) =>
    (if v12 = (-2) then
      k9 v2 w13
    else
      gLet (v2 ||| (gShl (nI 1) v3)) fun (v14 : Int32) =>
      k9 v14 w13))) fun k5 =>
  gLet (fun (v16 : Int32) (w17 : gT) =>
  k5 v16 (nI 0) w17) fun k15 =>
  gG ((a2 * (nI 10)) + v3) 70 <|
  gLet (w4.1 3 ((a2 * (nI 10)) + v3).toNatClampNeg) fun (v18 : Int32) =>
  (if ((gShr a3 v3) &&& (nI 1)) = (nI 1) then
    (if v18 = (nI 255) then
      k15 v18 w4
    else
      k5 v18 (nI 1) w4)
  else
    k15 v18 w4))
def xX1_frightenedBy (N : Nat) (a1 : Int32) (a2 : Int32) (a3 : Int32) (w : gT) : Option (Int32 × gT) :=
gW2 (xX1_frightenedBy_b6 N a1 a2 a3) N (nI 0) (nI 0) w
def rmX1_frightenedBy : Room := { frames := 4, cells := 0, slots := 0, locals := 98 }
def xX1_within_b6 (N : Nat) (a1 : Int32) (a2 : Int32) (a3 : Int32) (a4 : Int32) (go1 : Int32 → Int32 → gT → Option (Int32 × gT)) (v2 : Int32) (v3 : Int32) (w4 : gT) : Option (Int32 × gT) :=
(if (nI 10) ≤ v3 then
  some (v2, w4)
else
  (if (gShr a4 v3) = (nI 0) then
    some (v2, w4)
  else
    gLet (fun (v6 : Int32) (w7 : gT) =>
    go1 v6 (v3 + (nI 1)) w7) fun k5 =>
    (if ((gShr a4 v3) &&& (nI 1)) = (nI 1) then
      gBi (xX1_isNear a1 v3 a2 a3 w4) fun (v8 : Int32) (w9 : gT) =>
      (if v8 = (nI 0) then
        k5 v2 w9
      else
        gLet (v2 ||| (gShl (nI 1) v3)) fun (v10 : Int32) =>
        k5 v10 w9)
    else
      k5 v2 w4)))
def xX1_within (N : Nat) (a1 : Int32) (a2 : Int32) (a3 : Int32) (a4 : Int32) (w : gT) : Option (Int32 × gT) :=
gW2 (xX1_within_b6 N a1 a2 a3 a4) N (nI 0) (nI 0) w
def rmX1_within : Room := { frames := 1, cells := 0, slots := 0, locals := 25 }
def xX0_fewest (a1 : Int32) (a2 : Int32) (w : gT) : Option (Int32 × gT) :=
gG a2 1024 <|
some (((Int64.toInt32 (gLsr (w.2 a2.toNatClampNeg) ((nI 4) * a1))) &&& (nI 15)), w)
def rmX0_fewest : Room := { frames := 0, cells := 0, slots := 0, locals := 0 }
def xX0_useWalk_b15 (N : Nat) (a1 : Int32) (a2 : Int32) (v1 : Int32) (go2 : Int32 → Int32 → gT → Option (gT)) (v3 : Int32) (v4 : Int32) (w5 : gT) : Option (gT) :=
(if (nI 1024) ≤ v4 then
  some w5
else
  gLet (fun (w7 : gT) =>
  (if v3 = (nI 0) then
    some w7
  else
    gLet ((v3 - (nI 1)) &&& v1) fun (v8 : Int32) =>
    go2 v8 (v4 + (nI 1)) w7)) fun k6 =>
  gBi (xX0_fewest (a1 + (nI 1)) v3 w5) fun (v9 : Int32) (w10 : gT) =>
  gLet (v9 + (nI 1)) fun (v11 : Int32) =>
  gBi (xX0_fewest a1 (v3 ||| a2) w10) fun (v12 : Int32) (w13 : gT) =>
  (if v12 ≤ v11 then
    k6 w13
  else
    gLet (v3 ||| a2) fun (v14 : Int32) =>
    gG v14 1024 <|
    gG v14 1024 <|
    gLet (gUL w13 v14.toNatClampNeg ((w13.2 v14.toNatClampNeg) ^^^ (gLsl (Int32.toInt64 (v12 ^^^ v11)) ((nI 4) * a1)))) fun (w15 : gT) =>
    k6 w15))
def xX0_useWalk (N : Nat) (a1 : Int32) (a2 : Int32) (w : gT) : Option (gT) :=
gLet ((w.1 52 6) &&& (a2 ^^^ (-1))) fun (v1 : Int32) =>
gW2 (xX0_useWalk_b15 N a1 a2 v1) N v1 (nI 0) w
def rmX0_useWalk : Room := { frames := 1, cells := 0, slots := 0, locals := 22 }
def xX0_useGhost_b25 (N : Nat) (a1 : Int32) (k6 : gT → Option (gT)) (v2 : Int32) (v4 : Int32) (go8 : Int32 → gT → Option (gT)) (v9 : Int32) (w10 : gT) : Option (gT) :=
(if (nI 12) ≤ v9 then
  k6 w10
else
  gLet (fun (w12 : gT) =>
  go8 (v9 + (nI 1)) w12) fun k11 =>
  gBi (xX1_within N a1 v2 v9 v4 w10) fun (v13 : Int32) (w14 : gT) =>
  gG ((((a1 * (nI 7)) + v2) * (nI 12)) + v9) 840 <|
  gLet (gU w14 54 ((((a1 * (nI 7)) + v2) * (nI 12)) + v9).toNatClampNeg v13) fun (w15 : gT) =>
  (if v13 = (nI 0) then
    k11 w15
  else
    gG v13 1024 <|
    (if (w15.1 55 v13.toNatClampNeg) = (w15.1 52 5) then
      k11 w15
    else
      gG v13 1024 <|
      gLet (gU w15 55 v13.toNatClampNeg (w15.1 52 5)) fun (w16 : gT) =>
      gBv (xX0_useWalk N a1 v13 w16) fun (w17 : gT) =>
      k11 w17)))
def xX0_useGhost_b2 (N : Nat) (a1 : Int32) (go1 : Int32 → gT → Option (gT)) (v2 : Int32) (w3 : gT) : Option (gT) :=
(if (nI 7) ≤ v2 then
  some w3
else
  gBi (xX1_frightenedBy N a1 v2 (w3.1 52 6) w3) fun (v4 : Int32) (w5 : gT) =>
  gLet (fun (w7 : gT) =>
  go1 (v2 + (nI 1)) w7) fun k6 =>
  gW1 (xX0_useGhost_b25 N a1 k6 v2 v4) N (nI 0) w5)
def xX0_useGhost (N : Nat) (a1 : Int32) (w : gT) : Option (gT) :=
gW1 (xX0_useGhost_b2 N a1) N (nI 0) w
def rmX0_useGhost : Room := { frames := 5, cells := 0, slots := 0, locals := 125 }
def xX0_fill_b53 (N : Nat) (k7 : gT → Option (gT)) (v5 : Int32) (go15 : Int32 → gT → Option (gT)) (v16 : Int32) (w17 : gT) : Option (gT) :=
(if (nI 1024) ≤ v16 then
  k7 w17
else
  gG v16 1024 <|
  gBi (xX0_fewest (v5 + (nI 1)) v16 w17) fun (v18 : Int32) (w19 : gT) =>
  gG v16 1024 <|
  gLet (gUL w19 v16.toNatClampNeg ((w17.2 v16.toNatClampNeg) ||| (gLsl (Int32.toInt64 v18) ((nI 4) * v5)))) fun (w20 : gT) =>
  go15 (v16 + (nI 1)) w20)
def xX0_fill_b47 (N : Nat) (go4 : Int32 → gT → Option (gT)) (v5 : Int32) (w6 : gT) : Option (gT) :=
(if v5 < (nI 0) then
  some w6
else
  gLet (fun (w8 : gT) =>
  gLet (fun (w10 : gT) =>
  go4 (v5 + (-1)) w10) fun k9 =>
  gBi (xX2_hasGhost v5 w8) fun (v11 : Int32) (w12 : gT) =>
  (if v11 = (nI 0) then
    k9 w12
  else
    gLet (gU w12 52 5 ((w12.1 52 5) + (nI 1))) fun (w13 : gT) =>
    gBv (xX0_useGhost N v5 w13) fun (w14 : gT) =>
    k9 w14)) fun k7 =>
  gW1 (xX0_fill_b53 N k7 v5) N (nI 0) w6)
def xX0_fill_b11 (k2 : gT → Option (gT)) (go21 : Int32 → gT → Option (gT)) (v22 : Int32) (w23 : gT) : Option (gT) :=
(if (nI 1024) ≤ v22 then
  k2 w23
else
  gLet (fun (v25 : Int32) (v26 : Int32) (w27 : gT) =>
  gG v25 1024 <|
  gLet (gUL w27 v25.toNatClampNeg (gLsl (Int32.toInt64 v26) (nI 40))) fun (w28 : gT) =>
  go21 (v22 + (nI 1)) w28) fun k24 =>
  (if v22 = (nI 0) then
    k24 v22 (nI 0) w23
  else
    k24 v22 (nI 15) w23))
def xX0_fill (N : Nat) (a1 : Int32) (w : gT) : Option (gT) :=
gLet (gU w 52 6 (a1 &&& (nI 1023))) fun (w1 : gT) =>
gLet (fun (w3 : gT) =>
gW1 (xX0_fill_b47 N) N (nI 9) w3) fun k2 =>
gW1 (xX0_fill_b11 k2) N (nI 0) w1
def rmX0_fill : Room := { frames := 6, cells := 0, slots := 0, locals := 150 }
def xX0_isFound (w : gT) : Option (Int32 × gT) :=
gBi (xX0_fewest (nI 0) (w.1 52 6) w) fun (v1 : Int32) (w2 : gT) =>
(if v1 = (nI 15) then
  some ((nI 0), w2)
else
  some ((nI 1), w2))
def rmX0_isFound : Room := { frames := 1, cells := 0, slots := 0, locals := 22 }
def xX0_leastWalk_b2 (N : Nat) (a1 : Int32) (a2 : Int32) (go1 : Int32 → gT → Option (Int32 × gT)) (v2 : Int32) (w3 : gT) : Option (Int32 × gT) :=
(if (nI 84) ≤ v2 then
  some ((nI 84), w3)
else
  gLet (fun (w5 : gT) =>
  go1 (v2 + (nI 1)) w5) fun k4 =>
  gG ((a1 * (nI 84)) + v2) 840 <|
  gLet (w3.1 54 ((a1 * (nI 84)) + v2).toNatClampNeg) fun (v6 : Int32) =>
  (if v6 = (nI 0) then
    k4 w3
  else
    (if (v6 &&& (a2 ^^^ (-1))) = (nI 0) then
      gBi (xX0_fewest (a1 + (nI 1)) (a2 ^^^ v6) w3) fun (v7 : Int32) (w8 : gT) =>
      gBi (xX0_fewest a1 a2 w8) fun (v9 : Int32) (w10 : gT) =>
      (if (v7 + (nI 1)) = v9 then
        some (v2, w10)
      else
        k4 w10)
    else
      k4 w3)))
def xX0_leastWalk (N : Nat) (a1 : Int32) (a2 : Int32) (w : gT) : Option (Int32 × gT) :=
gW1 (xX0_leastWalk_b2 N a1 a2) N (nI 0) w
def rmX0_leastWalk : Room := { frames := 1, cells := 0, slots := 0, locals := 22 }
def xX0_walkOf_b11 (N : Nat) (a1 : Int32) (go2 : Int32 → Int32 → Int32 → gT → Option (Int32 × gT)) (v3 : Int32) (v4 : Int32) (v5 : Int32) (w6 : gT) : Option (Int32 × gT) :=
(if a1 < v5 then
  some (v4, w6)
else
  (if (nI 10) ≤ v5 then
    some (v4, w6)
  else
    gLet (fun (v8 : Int32) (w9 : gT) =>
    gLet (fun (v11 : Int32) (v12 : Int32) (w13 : gT) =>
    go2 v11 v12 (v5 + (nI 1)) w13) fun k10 =>
    (if (nI 84) ≤ v8 then
      k10 v3 v8 w9
    else
      gG ((v5 * (nI 84)) + v8) 840 <|
      gLet (v3 ^^^ (w9.1 54 ((v5 * (nI 84)) + v8).toNatClampNeg)) fun (v14 : Int32) =>
      k10 v14 v8 w9)) fun k7 =>
    gBi (xX2_hasGhost v5 w6) fun (v15 : Int32) (w16 : gT) =>
    (if v15 = (nI 0) then
      k7 (nI 84) w16
    else
      gBi (xX0_leastWalk N v5 v3 w16) fun (v17 : Int32) (w18 : gT) =>
      k7 v17 w18)))
def xX0_walkOf (N : Nat) (a1 : Int32) (w : gT) : Option (Int32 × gT) :=
gLet (w.1 52 6) fun (v1 : Int32) =>
gW3 (xX0_walkOf_b11 N a1) N v1 (nI 84) (nI 0) w
def rmX0_walkOf : Room := { frames := 2, cells := 0, slots := 0, locals := 46 }
def xX9_once (N : Nat) (a1 : Int32) (a2 : Int32) (w : gT) : Option (Int32 × gT) :=
gBi (xX9_areSleepers a1 w) fun (v1 : Int32) (w2 : gT) =>
(if v1 = (nI 0) then
  some ((-3), w2)
else
  gLet (fun (w4 : gT) =>
  gBv (xX0_fill N a1 w4) fun (w5 : gT) =>
  gBi (xX0_isFound w5) fun (v6 : Int32) (w7 : gT) =>
  (if v6 = (nI 0) then
    some ((-2), w7)
  else
    (if a2 = (-1) then
      gBi (xX0_fewest (nI 0) a1 w7) fun (v10 : Int32) (w11 : gT) =>
      some (v10, w11)
    else
      gBi (xX0_walkOf N a2 w7) fun (v8 : Int32) (w9 : gT) =>
      some (v8, w9)))) fun k3 =>
  (if a2 = (-1) then
    k3 w2
  else
    gBi (xX2_hasGhost a2 w2) fun (v12 : Int32) (w13 : gT) =>
    (if v12 = (nI 0) then
      some ((-3), w13)
    else
      k3 w13)))
def rmX9_once : Room := { frames := 7, cells := 0, slots := 0, locals := 173 }
def xX7_isListed_b2 (a1 : Int32) (go1 : Int32 → gT → Option (Int32 × gT)) (v2 : Int32) (w3 : gT) : Option (Int32 × gT) :=
(if (w3.1 21 5) ≤ v2 then
  some ((nI 0), w3)
else
  gG v2 16 <|
  (if (w3.1 22 v2.toNatClampNeg) = a1 then
    some ((nI 1), w3)
  else
    go1 (v2 + (nI 1)) w3))
def xX7_isListed (N : Nat) (a1 : Int32) (w : gT) : Option (Int32 × gT) :=
gW1 (xX7_isListed_b2 a1) N (nI 0) w
def rmX7_isListed : Room := { frames := 0, cells := 0, slots := 0, locals := 0 }
def xX1_frightOfAll_b6 (N : Nat) (a1 : Int32) (a2 : Int32) (a3 : Int32) (a4 : Int32) (go1 : Int32 → Int32 → gT → Option (Int32 × gT)) (v2 : Int32) (v3 : Int32) (w4 : gT) : Option (Int32 × gT) :=
(if (nI 10) ≤ v3 then
  some (v2, w4)
else
  gLet (fun (v6 : Int32) (w7 : gT) =>
  go1 v6 (v3 + (nI 1)) w7) fun k5 =>
  gBi (xX2_hasSleeper v3 w4) fun (v8 : Int32) (w9 : gT) =>
  (if v8 = (nI 0) then
    k5 v2 w9
  else
    gBi (xX1_frightOf N a1 v3 a2 a3 a4 w9) fun (v10 : Int32) (w11 : gT) =>
    gLet (v2 + (gMax (nI 0) v10)) fun (v12 : Int32) =>
    k5 v12 w11))
def xX1_frightOfAll (N : Nat) (a1 : Int32) (a2 : Int32) (a3 : Int32) (a4 : Int32) (w : gT) : Option (Int32 × gT) :=
gW2 (xX1_frightOfAll_b6 N a1 a2 a3 a4) N (nI 0) (nI 0) w
def rmX1_frightOfAll : Room := { frames := 4, cells := 0, slots := 0, locals := 98 }
def xX9_bestWalk_b41 (N : Nat) (a1 : Int32) (k5 : Int32 → Int32 → gT → Option (Int32 × gT)) (go9 : Int32 → Int32 → Int32 → gT → Option (Int32 × gT)) (v10 : Int32) (v11 : Int32) (v12 : Int32) (w13 : gT) : Option (Int32 × gT) :=
(if (nI 84) ≤ v12 then
  k5 v10 v11 w13
else
  gLet (fun (v15 : Int32) (v16 : Int32) (w17 : gT) =>
  go9 v15 v16 (v12 + (nI 1)) w17) fun k14 =>
  gBi (xX1_frightOfAll N a1 (v12 / (nI 12)) (gRem v12 (nI 12)) (nI 0) w13) fun (v18 : Int32) (w19 : gT) =>
  (if v18 ≤ v11 then
    k14 v10 v11 w19
  else
    k14 v12 v18 w19))
def xX9_bestWalk (N : Nat) (a1 : Int32) (a2 : Int32) (w : gT) : Option (Int32 × gT) :=
gBi (xX2_hasGhost a1 w) fun (v1 : Int32) (w2 : gT) =>
(if v1 = (nI 0) then
  some ((-1), w2)
else
  gBi (xX7_isListed N a1 w2) fun (v3 : Int32) (w4 : gT) =>
  (if v3 = (nI 0) then
    (if a2 < (nI 0) then
      some ((-1), w4)
    else
      (if a2 ≤ (nI 2) then
        gLet (fun (v6 : Int32) (v7 : Int32) (w8 : gT) =>
        (if a2 = (nI 2) then
          some (v7, w8)
        else
          (if a2 = (nI 0) then
            some ((v6 / (nI 12)), w8)
          else
            some ((gRem v6 (nI 12)), w8)))) fun k5 =>
        gW3 (xX9_bestWalk_b41 N a1 k5) N ((-1) : Int32) ((-1) : Int32) (nI 0) w4
      else
        some ((-1), w4)))
  else
    some ((-1), w4)))
def rmX9_bestWalk : Room := { frames := 5, cells := 0, slots := 0, locals := 124 }
def xX9_candle_b83 (N : Nat) (a1 : Int32) (a2 : Int32) (k21 : Int32 → Int32 → Int32 → gT → Option (Int32 × gT)) (v16 : Int32) (v19 : Int32) (go26 : Int32 → Int32 → Int32 → Int32 → gT → Option (Int32 × gT)) (v27 : Int32) (v28 : Int32) (v29 : Int32) (v30 : Int32) (w31 : gT) : Option (Int32 × gT) :=
(if (nI 12) ≤ v30 then
  k21 v27 v28 v29 w31
else
  gLet (fun (v33 : Int32) (v34 : Int32) (v35 : Int32) (w36 : gT) =>
  go26 v33 v34 v35 (v30 + (nI 1)) w36) fun k32 =>
  gBi (xX1_within N v16 a1 v30 v19 w31) fun (v37 : Int32) (w38 : gT) =>
  (if v37 = a2 then
    gLet (fun (v40 : Int32) (v41 : Int32) (w42 : gT) =>
    gLet (v29 ||| (gShl (nI 1) v16)) fun (v43 : Int32) =>
    k32 v40 v41 v43 w42) fun k39 =>
    (if v28 = (-1) then
      k39 (v27 + (nI 1)) ((v16 * (nI 12)) + v30) w38
    else
      k39 (v27 + (nI 1)) v28 w38)
  else
    k32 v27 v28 v29 w38))
def xX9_candle_b38 (N : Nat) (a1 : Int32) (a2 : Int32) (k5 : Int32 → Int32 → Int32 → gT → Option (Int32 × gT)) (go12 : Int32 → Int32 → Int32 → Int32 → gT → Option (Int32 × gT)) (v13 : Int32) (v14 : Int32) (v15 : Int32) (v16 : Int32) (w17 : gT) : Option (Int32 × gT) :=
(if (nI 10) ≤ v16 then
  k5 v13 v14 v15 w17
else
  gLet (fun (v19 : Int32) (w20 : gT) =>
  gLet (fun (v22 : Int32) (v23 : Int32) (v24 : Int32) (w25 : gT) =>
  go12 v22 v23 v24 (v16 + (nI 1)) w25) fun k21 =>
  gW4 (xX9_candle_b83 N a1 a2 k21 v16 v19) N v13 v14 v15 (nI 0) w20) fun k18 =>
  gBi (xX2_hasGhost v16 w17) fun (v44 : Int32) (w45 : gT) =>
  (if v44 = (nI 0) then
    k18 (nI 0) w45
  else
    gBi (xX1_frightenedBy N v16 a1 (w45.1 1 9) w45) fun (v46 : Int32) (w47 : gT) =>
    k18 v46 w47))
def xX9_candle (N : Nat) (a1 : Int32) (a2 : Int32) (a3 : Int32) (w : gT) : Option (Int32 × gT) :=
gBi (xX9_isNight a1 w) fun (v1 : Int32) (w2 : gT) =>
(if v1 = (nI 0) then
  some ((-1), w2)
else
  gBi (xX9_areSleepers a2 w2) fun (v3 : Int32) (w4 : gT) =>
  (if v3 = (nI 0) then
    some ((-1), w4)
  else
    (if a3 < (nI 0) then
      some ((-1), w4)
    else
      (if a3 ≤ (nI 3) then
        gLet (fun (v6 : Int32) (v7 : Int32) (v8 : Int32) (w9 : gT) =>
        gLet (fun (w11 : gT) =>
        (if a3 = (nI 0) then
          some (v6, w11)
        else
          some (v8, w11))) fun k10 =>
        (if a3 = (nI 0) then
          k10 w9
        else
          (if a3 = (nI 3) then
            k10 w9
          else
            (if v7 = (-1) then
              some ((-2), w9)
            else
              (if a3 = (nI 1) then
                some ((v7 / (nI 12)), w9)
              else
                some ((gRem v7 (nI 12)), w9)))))) fun k5 =>
        gW4 (xX9_candle_b38 N a1 a2 k5) N (nI 0) ((-1) : Int32) (nI 0) (nI 0) w4
      else
        some ((-1), w4)))))
def rmX9_candle : Room := { frames := 5, cells := 0, slots := 0, locals := 125 }
def xX9_draughts_b4 (N : Nat) (go1 : Int32 → Int32 → gT → Option (Int32 × gT)) (v2 : Int32) (v3 : Int32) (w4 : gT) : Option (Int32 × gT) :=
(if (nI 10) ≤ v3 then
  some (v2, w4)
else
  gLet (fun (v6 : Int32) (w7 : gT) =>
  gLet (fun (v9 : Int32) (w10 : gT) =>
  go1 v9 (v3 + (nI 1)) w10) fun k8 =>
  gBi (xX2_hasGhost v3 w7) fun (v11 : Int32) (w12 : gT) =>
  (if v11 = (nI 0) then
    k8 v2 w12
  else
    (if v6 = (nI 0) then
      k8 v2 w12
    else
      gG ((nI 20) + v3) 40 <|
      (if (w12.1 9 ((nI 20) + v3).toNatClampNeg) = (nI 0) then
        gLet (v2 ||| (gShl (nI 1) v3)) fun (v13 : Int32) =>
        k8 v13 w12
      else
        k8 v2 w12)))) fun k5 =>
  gG ((nI 30) + v3) 40 <|
  (if (w4.1 9 ((nI 30) + v3).toNatClampNeg) ≤ (nI 0) then
    k5 (nI 0) w4
  else
    k5 (nI 1) w4))
def xX9_draughts (N : Nat) (w : gT) : Option (Int32 × gT) :=
gW2 (xX9_draughts_b4 N) N (nI 0) (nI 0) w
def rmX9_draughts : Room := { frames := 1, cells := 0, slots := 0, locals := 21 }
def xX9_gainByMending (N : Nat) (a1 : Int32) (w : gT) : Option (Int32 × gT) :=
gG a1 10 <|
gLet (w.1 6 a1.toNatClampNeg) fun (v1 : Int32) =>
(if v1 < (nI 9) then
  gBv (xX8_pass N w) fun (w2 : gT) =>
  gLet (w2.1 51 0) fun (v3 : Int32) =>
  gG a1 10 <|
  gLet (gU w2 6 a1.toNatClampNeg (v1 + (nI 1))) fun (w4 : gT) =>
  gBv (xX8_pass N w4) fun (w5 : gT) =>
  gG a1 10 <|
  gLet (gU w5 6 a1.toNatClampNeg v1) fun (w6 : gT) =>
  some (((w6.1 51 0) - v3), w6)
else
  some ((nI 0), w))
def rmX9_gainByMending : Room := { frames := 6, cells := 0, slots := 0, locals := 147 }
def xX9_mended_b44 (N : Nat) (a2 : Int32) (go5 : Int32 → Int32 → Int32 → gT → Option (Int32 × gT)) (v6 : Int32) (v7 : Int32) (v8 : Int32) (w9 : gT) : Option (Int32 × gT) :=
(if (nI 10) ≤ v8 then
  (if a2 = (nI 1) then
    some (v6, w9)
  else
    some (v7, w9))
else
  gLet (fun (v11 : Int32) (w12 : gT) =>
  gLet (fun (v14 : Int32) (v15 : Int32) (w16 : gT) =>
  go5 v14 v15 (v8 + (nI 1)) w16) fun k13 =>
  (if v11 ≤ v7 then
    k13 v6 v7 w12
  else
    k13 v8 v11 w12)) fun k10 =>
  gBi (xX2_hasGhost v8 w9) fun (v17 : Int32) (w18 : gT) =>
  (if v17 = (nI 0) then
    k10 ((-100000) : Int32) w18
  else
    gBi (xX9_gainByMending N v8 w18) fun (v19 : Int32) (w20 : gT) =>
    k10 v19 w20))
def xX9_mended (N : Nat) (a1 : Int32) (a2 : Int32) (w : gT) : Option (Int32 × gT) :=
gLet (fun (w2 : gT) =>
gLet (fun (w4 : gT) =>
gW3 (xX9_mended_b44 N a2) N ((-100000) : Int32) ((-100000) : Int32) (nI 0) w4) fun k3 =>
(if a2 = (nI 1) then
  k3 w2
else
  (if a2 = (nI 2) then
    k3 w2
  else
    some ((-100000), w2)))) fun k1 =>
(if a2 = (nI 0) then
  gBi (xX2_hasGhost a1 w) fun (v21 : Int32) (w22 : gT) =>
  (if v21 = (nI 0) then
    k1 w22
  else
    gBi (xX9_gainByMending N a1 w22) fun (v23 : Int32) (w24 : gT) =>
    some (v23, w24))
else
  k1 w)
def rmX9_mended : Room := { frames := 7, cells := 0, slots := 0, locals := 170 }
def xX9_mend (a1 : Int32) (w : gT) : Option (Int32 × gT) :=
gBi (xX2_hasGhost a1 w) fun (v1 : Int32) (w2 : gT) =>
(if v1 = (nI 0) then
  some ((-1), w2)
else
  gG a1 10 <|
  (if (w2.1 6 a1.toNatClampNeg) < (nI 9) then
    gG a1 10 <|
    gG a1 10 <|
    gLet (gU w2 6 a1.toNatClampNeg ((w2.1 6 a1.toNatClampNeg) + (nI 1))) fun (w3 : gT) =>
    gG a1 10 <|
    some ((w3.1 6 a1.toNatClampNeg), w3)
  else
    some ((-1), w2)))
def rmX9_mend : Room := { frames := 1, cells := 0, slots := 0, locals := 21 }
def xJ7_fill_53178_b5 (a1 : Int32) (go1 : Int32 → gT → Option (gT)) (v2 : Int32) (w3 : gT) : Option (gT) :=
(if (nI 10) ≤ v2 then
  some w3
else
  gG v2 10 <|
  gLet (gU w3 59 v2.toNatClampNeg a1) fun (w4 : gT) =>
  go1 (v2 + (nI 1)) w4)
def xJ7_fill_53178 (N : Nat) (a1 : Int32) (w : gT) : Option (gT) :=
gW1 (xJ7_fill_53178_b5 a1) N (nI 0) w
def rmJ7_fill_53178 : Room := { frames := 0, cells := 0, slots := 0, locals := 0 }
def xX9_weighChains_b12 (N : Nat) (a1 : Int32) (go2 : Int32 → Int32 → gT → Option (Int32 × gT)) (v3 : Int32) (v4 : Int32) (w5 : gT) : Option (Int32 × gT) :=
(if (w5.1 21 5) ≤ v4 then
  some (v3, w5)
else
  gLet (fun (v7 : Int32) (w8 : gT) =>
  go2 v7 (v4 + (nI 1)) w8) fun k6 =>
  gG v4 16 <|
  (if (w5.1 23 v4.toNatClampNeg) = a1 then
    gBi (xX7_isGone v4 w5) fun (v9 : Int32) (w10 : gT) =>
    (if v9 = (nI 0) then
      k6 v3 w10
    else
      gG v4 16 <|
      gLet (w10.1 22 v4.toNatClampNeg) fun (v11 : Int32) =>
      gG v4 16 <|
      gBi (xX1_frightOfAll N v11 a1 (w10.1 24 v4.toNatClampNeg) (nI 0) w10) fun (v12 : Int32) (w13 : gT) =>
      gG v4 16 <|
      gBi (xX1_frightOfAll N v11 a1 (w13.1 24 v4.toNatClampNeg) (nI 1) w13) fun (v14 : Int32) (w15 : gT) =>
      gG v11 10 <|
      gLet (gU w15 59 v11.toNatClampNeg (v14 - v12)) fun (w16 : gT) =>
      gLet (v3 + v12) fun (v17 : Int32) =>
      k6 v17 w16)
  else
    k6 v3 w5))
def xX9_weighChains (N : Nat) (a1 : Int32) (w : gT) : Option (Int32 × gT) :=
gBv (xJ7_fill_53178 N (nI 0) w) fun (w1 : gT) =>
gW2 (xX9_weighChains_b12 N a1) N (nI 0) (nI 0) w1
def rmX9_weighChains : Room := { frames := 5, cells := 0, slots := 0, locals := 124 }
def xX9_dearest_b4 (go1 : Int32 → Int32 → gT → Option (Int32 × gT)) (v2 : Int32) (v3 : Int32) (w4 : gT) : Option (Int32 × gT) :=
(if (nI 10) ≤ v3 then
  some (v2, w4)
else
  gLet (fun (v6 : Int32) (w7 : gT) =>
  go1 v6 (v3 + (nI 1)) w7) fun k5 =>
  gG v3 10 <|
  gG v2 10 <|
  (if (w4.1 59 v3.toNatClampNeg) ≤ (w4.1 59 v2.toNatClampNeg) then
    k5 v2 w4
  else
    k5 v3 w4))
def xX9_dearest (N : Nat) (w : gT) : Option (Int32 × gT) :=
gW2 (xX9_dearest_b4) N (nI 0) (nI 1) w
def rmX9_dearest : Room := { frames := 0, cells := 0, slots := 0, locals := 0 }
def xX9_shared_b30 (N : Nat) (k7 : Int32 → Int32 → gT → Option (Int32 × gT)) (go11 : Int32 → Int32 → Int32 → gT → Option (Int32 × gT)) (v12 : Int32) (v13 : Int32) (v14 : Int32) (w15 : gT) : Option (Int32 × gT) :=
(if (w15.1 1 10) ≤ v14 then
  k7 v12 v13 w15
else
  gBi (xX9_dearest N w15) fun (v16 : Int32) (w17 : gT) =>
  gG v16 10 <|
  (if (nI 0) < (w17.1 59 v16.toNatClampNeg) then
    gLet (v13 ||| (gShl (nI 1) v16)) fun (v18 : Int32) =>
    gG v16 10 <|
    gLet (v12 + (w17.1 59 v16.toNatClampNeg)) fun (v19 : Int32) =>
    gG v16 10 <|
    gLet (gU w17 59 v16.toNatClampNeg (nI 0)) fun (w20 : gT) =>
    go11 v19 v18 (v14 + (nI 1)) w20
  else
    k7 v12 v13 w17))
def xX9_shared (N : Nat) (a1 : Int32) (a2 : Int32) (w : gT) : Option (Int32 × gT) :=
gBi (xX9_isNight a1 w) fun (v1 : Int32) (w2 : gT) =>
(if v1 = (nI 0) then
  some ((-1), w2)
else
  gLet (fun (w4 : gT) =>
  gBi (xX9_weighChains N a1 w4) fun (v5 : Int32) (w6 : gT) =>
  gLet (fun (v8 : Int32) (v9 : Int32) (w10 : gT) =>
  (if a2 = (nI 0) then
    some (v9, w10)
  else
    some (v8, w10))) fun k7 =>
  gW3 (xX9_shared_b30 N k7) N v5 (nI 0) (nI 0) w6) fun k3 =>
  (if a2 = (nI 0) then
    k3 w2
  else
    (if a2 = (nI 1) then
      k3 w2
    else
      some ((-1), w2))))
def rmX9_shared : Room := { frames := 6, cells := 0, slots := 0, locals := 149 }
def xJ6_bitCount_0f7a4 (a0 : Int32) (w : gT) : Option (Int32 × gT) :=
gLet (a0 - ((gUsh a0 (nI 1)) &&& (nI 1431655765))) fun (v1 : Int32) =>
gLet ((v1 &&& (nI 858993459)) + ((gUsh v1 (nI 2)) &&& (nI 858993459))) fun (v2 : Int32) =>
gLet ((v2 + (gUsh v2 (nI 4))) &&& (nI 252645135)) fun (v3 : Int32) =>
gLet (v3 + (gUsh v3 (nI 8))) fun (v4 : Int32) =>
gLet (v4 + (gUsh v4 (nI 16))) fun (v5 : Int32) =>
some ((v5 &&& (nI 63)), w)
def rmJ6_bitCount_0f7a4 : Room := { frames := 0, cells := 0, slots := 0, locals := 0 }
def xX5_bestRoom_b8 (a1 : Int32) (a2 : Int32) (go1 : Int32 → Int32 → Int32 → gT → Option (Int32 × gT)) (v2 : Int32) (v3 : Int32) (v4 : Int32) (w5 : gT) : Option (Int32 × gT) :=
(if (nI 12) ≤ v4 then
  some (v2, w5)
else
  gLet (fun (v7 : Int32) (v8 : Int32) (w9 : gT) =>
  go1 v7 v8 (v4 + (nI 1)) w9) fun k6 =>
  (if ((gShr a2 v4) &&& (nI 1)) = (nI 0) then
    gG ((a1 * (nI 12)) + v4) 96 <|
    gG (a2 ||| (gShl (nI 1) v4)) 4096 <|
    gLet ((w5.1 57 ((a1 * (nI 12)) + v4).toNatClampNeg) + (w5.1 58 (a2 ||| (gShl (nI 1) v4)).toNatClampNeg)) fun (v10 : Int32) =>
    (if v10 ≤ v3 then
      k6 v2 v3 w5
    else
      k6 v4 v10 w5)
  else
    k6 v2 v3 w5))
def xX5_bestRoom (N : Nat) (a1 : Int32) (a2 : Int32) (w : gT) : Option (Int32 × gT) :=
gW3 (xX5_bestRoom_b8 a1 a2) N (nI 0) ((-1) : Int32) (nI 0) w
def rmX5_bestRoom : Room := { frames := 0, cells := 0, slots := 0, locals := 0 }
def xX5_fill_b9 (N : Nat) (go2 : Int32 → gT → Option (gT)) (v3 : Int32) (w4 : gT) : Option (gT) :=
(if v3 < (nI 0) then
  some w4
else
  gLet (fun (w6 : gT) =>
  go2 (v3 + (-1)) w6) fun k5 =>
  gBi (xJ6_bitCount_0f7a4 v3 w4) fun (v7 : Int32) (w8 : gT) =>
  gG v3 4096 <|
  gLet (gU w8 58 v3.toNatClampNeg (nI 0)) fun (w9 : gT) =>
  (if (w9.1 56 2) ≤ v7 then
    k5 w9
  else
    gBi (xX5_bestRoom N v7 v3 w9) fun (v10 : Int32) (w11 : gT) =>
    gG ((v7 * (nI 12)) + v10) 96 <|
    gG (v3 ||| (gShl (nI 1) v10)) 4096 <|
    gG v3 4096 <|
    gLet (gU w11 58 v3.toNatClampNeg ((w11.1 57 ((v7 * (nI 12)) + v10).toNatClampNeg) + (w11.1 58 (v3 ||| (gShl (nI 1) v10)).toNatClampNeg))) fun (w12 : gT) =>
    k5 w12))
def xX5_fill (N : Nat) (a1 : Int32) (w : gT) : Option (gT) :=
gLet (gU w 56 2 a1) fun (w1 : gT) =>
gW1 (xX5_fill_b9 N) N (nI 4095) w1
def rmX5_fill : Room := { frames := 1, cells := 0, slots := 0, locals := 26 }
def xX5_roomOf_b4 (N : Nat) (a1 : Int32) (k1 : Int32 → gT → Option (Int32 × gT)) (go6 : Int32 → Int32 → gT → Option (Int32 × gT)) (v7 : Int32) (v8 : Int32) (w9 : gT) : Option (Int32 × gT) :=
(if a1 ≤ v8 then
  k1 v7 w9
else
  gBi (xX5_bestRoom N v8 v7 w9) fun (v10 : Int32) (w11 : gT) =>
  gLet (v7 ||| (gShl (nI 1) v10)) fun (v12 : Int32) =>
  go6 v12 (v8 + (nI 1)) w11)
def xX5_roomOf (N : Nat) (a1 : Int32) (w : gT) : Option (Int32 × gT) :=
gLet (fun (v2 : Int32) (w3 : gT) =>
gBi (xX5_bestRoom N a1 v2 w3) fun (v4 : Int32) (w5 : gT) =>
some (v4, w5)) fun k1 =>
gW2 (xX5_roomOf_b4 N a1 k1) N (nI 0) (nI 0) w
def rmX5_roomOf : Room := { frames := 1, cells := 0, slots := 0, locals := 26 }
def xX5_most (w : gT) : Option (Int32 × gT) :=
some ((w.1 58 0), w)
def rmX5_most : Room := { frames := 0, cells := 0, slots := 0, locals := 0 }
def xX7_coldOf_b8 (N : Nat) (a1 : Int32) (go1 : Int32 → Int32 → Int32 → gT → Option (Int32 × gT)) (v2 : Int32) (v3 : Int32) (v4 : Int32) (w5 : gT) : Option (Int32 × gT) :=
(if (w5.1 21 5) ≤ v4 then
  some (v3, w5)
else
  gLet (fun (v7 : Int32) (v8 : Int32) (w9 : gT) =>
  go1 v7 v8 (v4 + (nI 1)) w9) fun k6 =>
  gG v4 16 <|
  gLet (w5.1 22 v4.toNatClampNeg) fun (v10 : Int32) =>
  gG v4 16 <|
  (if (w5.1 24 v4.toNatClampNeg) = a1 then
    gBi (xX7_isGone v4 w5) fun (v11 : Int32) (w12 : gT) =>
    (if v11 = (nI 0) then
      k6 v2 v3 w12
    else
      (if ((gShr v2 v10) &&& (nI 1)) = (nI 0) then
        gLet (v2 ||| (gShl (nI 1) v10)) fun (v13 : Int32) =>
        gG v10 10 <|
        gLet (v3 + (w12.1 7 v10.toNatClampNeg)) fun (v14 : Int32) =>
        k6 v13 v14 w12
      else
        k6 v2 v3 w12))
  else
    k6 v2 v3 w5))
def xX7_coldOf (N : Nat) (a1 : Int32) (w : gT) : Option (Int32 × gT) :=
gW3 (xX7_coldOf_b8 N a1) N (nI 0) (nI 0) (nI 0) w
def rmX7_coldOf : Room := { frames := 2, cells := 0, slots := 0, locals := 43 }
def xX1_worthOf (N : Nat) (a1 : Int32) (a2 : Int32) (a3 : Int32) (w : gT) : Option (Int32 × gT) :=
gBv (xJ7_fill_53178_49 N (nI 0) w) fun (w1 : gT) =>
gBv (xX1_tellLetter (nI 108) a1 w1) fun (w2 : gT) =>
gBv (xX1_tellLetter (nI 114) a2 w2) fun (w3 : gT) =>
gG a2 12 <|
gBv (xX1_tellLetter (nI 116) (w3.1 2 a2.toNatClampNeg) w3) fun (w4 : gT) =>
gBv (xX1_tellLetter (nI 99) a3 w4) fun (w5 : gT) =>
gBi (xX3_amountOf N (nI 113) (nI 999) w5) fun (v6 : Int32) (w7 : gT) =>
some (v6, w7)
def rmX1_worthOf : Room := { frames := 3, cells := 0, slots := 0, locals := 72 }
def xX9_july_b55 (N : Nat) (a1 : Int32) (k15 : gT → Option (Int32 × gT)) (v11 : Int32) (v13 : Int32) (go17 : Int32 → gT → Option (Int32 × gT)) (v18 : Int32) (w19 : gT) : Option (Int32 × gT) :=
(if a1 ≤ v18 then
  k15 w19
else
  gBi (xX1_worthOf N v18 v11 v13 w19) fun (v20 : Int32) (w21 : gT) =>
  gG ((v18 * (nI 12)) + v11) 96 <|
  gLet (gU w21 57 ((v18 * (nI 12)) + v11).toNatClampNeg v20) fun (w22 : gT) =>
  go17 (v18 + (nI 1)) w22)
def xX9_july_b32 (N : Nat) (a1 : Int32) (k3 : gT → Option (Int32 × gT)) (go10 : Int32 → gT → Option (Int32 × gT)) (v11 : Int32) (w12 : gT) : Option (Int32 × gT) :=
(if (nI 12) ≤ v11 then
  k3 w12
else
  gBi (xX7_coldOf N v11 w12) fun (v13 : Int32) (w14 : gT) =>
  gLet (fun (w16 : gT) =>
  go10 (v11 + (nI 1)) w16) fun k15 =>
  gW1 (xX9_july_b55 N a1 k15 v11 v13) N (nI 0) w14)
def xX9_july (N : Nat) (a1 : Int32) (a2 : Int32) (w : gT) : Option (Int32 × gT) :=
(if a1 < (nI 1) then
  some ((-1), w)
else
  (if a1 ≤ (nI 8) then
    gLet (fun (w2 : gT) =>
    gLet (fun (w4 : gT) =>
    gBv (xX5_fill N a1 w4) fun (w5 : gT) =>
    (if a2 = (-1) then
      gBi (xX5_most w5) fun (v8 : Int32) (w9 : gT) =>
      some (v8, w9)
    else
      gBi (xX5_roomOf N a2 w5) fun (v6 : Int32) (w7 : gT) =>
      some (v6, w7))) fun k3 =>
    gW1 (xX9_july_b32 N a1 k3) N (nI 0) w2) fun k1 =>
    (if a2 = (-1) then
      k1 w
    else
      (if a2 < (nI 0) then
        some ((-2), w)
      else
        (if a2 < a1 then
          k1 w
        else
          some ((-2), w))))
  else
    some ((-1), w)))
def rmX9_july : Room := { frames := 4, cells := 0, slots := 0, locals := 95 }
def xX2_rankOf (a1 : Int32) (w : gT) : Option (Int32 × gT) :=
gBi (xJ6_bitCount_0f7a4 ((w.1 1 8) &&& ((gShl (nI 1) a1) - (nI 1))) w) fun (v1 : Int32) (w2 : gT) =>
some (v1, w2)
def rmX2_rankOf : Room := { frames := 1, cells := 0, slots := 0, locals := 20 }
def xX9_nextOff_b7 (N : Nat) (k1 : Int32 → gT → Option (Int32 × gT)) (go4 : Int32 → Int32 → Int32 → gT → Option (Int32 × gT)) (v5 : Int32) (v6 : Int32) (v7 : Int32) (w8 : gT) : Option (Int32 × gT) :=
(if (nI 10) ≤ v7 then
  k1 v5 w8
else
  (if v6 ≤ (nI 0) then
    k1 v5 w8
  else
    gLet (fun (v10 : Int32) (v11 : Int32) (w12 : gT) =>
    go4 v10 v11 (v7 + (nI 1)) w12) fun k9 =>
    gBi (xX2_hasGhost v7 w8) fun (v13 : Int32) (w14 : gT) =>
    (if v13 = (nI 0) then
      k9 v5 v6 w14
    else
      gLet (fun (v16 : Int32) (w17 : gT) =>
      k9 v7 v16 w17) fun k15 =>
      (if v5 = (-1) then
        k15 (v6 + (-1)) w14
      else
        gG v7 10 <|
        gG v5 10 <|
        gG v5 10 <|
        gG v7 10 <|
        (if ((w14.1 8 v7.toNatClampNeg) * ((w14.1 59 v5.toNatClampNeg) + (nI 1))) ≤ ((w14.1 8 v5.toNatClampNeg) * ((w14.1 59 v7.toNatClampNeg) + (nI 1))) then
          k9 v5 (v6 + (-1)) w14
        else
          k15 (v6 + (-1)) w14)))))
def xX9_nextOff (N : Nat) (a1 : Int32) (w : gT) : Option (Int32 × gT) :=
gLet (fun (v2 : Int32) (w3 : gT) =>
(if v2 = (-1) then
  some ((nI 0), w3)
else
  some (v2, w3))) fun k1 =>
gW3 (xX9_nextOff_b7 N k1) N ((-1) : Int32) a1 (nI 0) w
def rmX9_nextOff : Room := { frames := 1, cells := 0, slots := 0, locals := 21 }
def xX9_off_b70 (N : Nat) (a1 : Int32) (a2 : Int32) (a3 : Int32) (go8 : Int32 → gT → Option (Int32 × gT)) (v9 : Int32) (w10 : gT) : Option (Int32 × gT) :=
(if a2 ≤ v9 then
  gG a3 10 <|
  some ((w10.1 59 a3.toNatClampNeg), w10)
else
  gBi (xX9_nextOff N a1 w10) fun (v11 : Int32) (w12 : gT) =>
  gG v11 10 <|
  gG v11 10 <|
  gLet (gU w12 59 v11.toNatClampNeg ((w12.1 59 v11.toNatClampNeg) + (nI 1))) fun (w13 : gT) =>
  go8 (v9 + (nI 1)) w13)
def xX9_off (N : Nat) (a1 : Int32) (a2 : Int32) (a3 : Int32) (w : gT) : Option (Int32 × gT) :=
gBi (xX2_hasGhost a3 w) fun (v1 : Int32) (w2 : gT) =>
(if v1 = (nI 0) then
  some ((-1), w2)
else
  (if a1 < (nI 1) then
    some ((-1), w2)
  else
    gBi (xJ6_bitCount_0f7a4 (w2.1 1 8) w2) fun (v3 : Int32) (w4 : gT) =>
    (if v3 < a1 then
      some ((-1), w4)
    else
      (if a2 < (nI 1) then
        some ((-1), w4)
      else
        (if a2 ≤ (nI 366) then
          gBi (xX2_rankOf a3 w4) fun (v5 : Int32) (w6 : gT) =>
          (if v5 < a1 then
            gBv (xJ7_fill_53178 N (nI 0) w6) fun (w7 : gT) =>
            gW1 (xX9_off_b70 N a1 a2 a3) N (nI 0) w7
          else
            some ((-2), w6))
        else
          some ((-1), w4))))))
def rmX9_off : Room := { frames := 2, cells := 0, slots := 0, locals := 45 }
def xX9_gainOfFirst (a0 : Int32) (a1 : Int32) (a2 : Int32) (w : gT) : Option (Int32 × gT) :=
(if a1 < a2 then
  some ((nI 0), w)
else
  some ((a0 - a1), w))
def rmX9_gainOfFirst : Room := { frames := 0, cells := 0, slots := 0, locals := 0 }
def xX9_gainOfSecond (a0 : Int32) (a1 : Int32) (a2 : Int32) (w : gT) : Option (Int32 × gT) :=
(if a2 ≤ a1 then
  some ((nI 0), w)
else
  some ((a0 - a2), w))
def rmX9_gainOfSecond : Room := { frames := 0, cells := 0, slots := 0, locals := 0 }
def xX9_isSettled_b19 (N : Nat) (a0 : Int32) (a1 : Int32) (a2 : Int32) (a3 : Int32) (v1 : Int32) (v3 : Int32) (go5 : Int32 → gT → Option (Int32 × gT)) (v6 : Int32) (w7 : gT) : Option (Int32 × gT) :=
(if (nI 9) < v6 then
  some ((nI 1), w7)
else
  gBi (xX9_gainOfFirst a0 v6 a3 w7) fun (v8 : Int32) (w9 : gT) =>
  (if v1 < v8 then
    some ((nI 0), w9)
  else
    gBi (xX9_gainOfSecond a1 a2 v6 w9) fun (v10 : Int32) (w11 : gT) =>
    (if v10 ≤ v3 then
      go5 (v6 + (nI 1)) w11
    else
      some ((nI 0), w11))))
def xX9_isSettled (N : Nat) (a0 : Int32) (a1 : Int32) (a2 : Int32) (a3 : Int32) (w : gT) : Option (Int32 × gT) :=
gBi (xX9_gainOfFirst a0 a2 a3 w) fun (v1 : Int32) (w2 : gT) =>
gBi (xX9_gainOfSecond a1 a2 a3 w2) fun (v3 : Int32) (w4 : gT) =>
gW1 (xX9_isSettled_b19 N a0 a1 a2 a3 v1 v3) N (nI 1) w4
def rmX9_isSettled : Room := { frames := 1, cells := 0, slots := 0, locals := 22 }
def xX9_bids_b53 (N : Nat) (a1 : Int32) (a2 : Int32) (k12 : Int32 → Int32 → Int32 → gT → Option (Int32 × gT)) (v10 : Int32) (go17 : Int32 → Int32 → Int32 → Int32 → gT → Option (Int32 × gT)) (v18 : Int32) (v19 : Int32) (v20 : Int32) (v21 : Int32) (w22 : gT) : Option (Int32 × gT) :=
(if (nI 9) < v21 then
  k12 v18 v19 v20 w22
else
  gLet (fun (v24 : Int32) (v25 : Int32) (v26 : Int32) (w27 : gT) =>
  go17 v24 v25 v26 (v21 + (nI 1)) w27) fun k23 =>
  gBi (xX9_isSettled N a1 a2 v10 v21 w22) fun (v28 : Int32) (w29 : gT) =>
  (if v28 = (nI 0) then
    k23 v18 v19 v20 w29
  else
    gLet (fun (v31 : Int32) (w32 : gT) =>
    gLet (fun (v34 : Int32) (v35 : Int32) (w36 : gT) =>
    k23 (v18 + (nI 1)) v34 v35 w36) fun k33 =>
    (if v18 = (nI 0) then
      k33 v31 v21 w32
    else
      k33 v31 v20 w32)) fun k30 =>
    (if v18 = (nI 0) then
      k30 v10 w29
    else
      k30 v19 w29)))
def xX9_bids_b43 (N : Nat) (a1 : Int32) (a2 : Int32) (k1 : Int32 → Int32 → Int32 → gT → Option (Int32 × gT)) (go6 : Int32 → Int32 → Int32 → Int32 → gT → Option (Int32 × gT)) (v7 : Int32) (v8 : Int32) (v9 : Int32) (v10 : Int32) (w11 : gT) : Option (Int32 × gT) :=
(if (nI 9) < v10 then
  k1 v7 v8 v9 w11
else
  gLet (fun (v13 : Int32) (v14 : Int32) (v15 : Int32) (w16 : gT) =>
  go6 v13 v14 v15 (v10 + (nI 1)) w16) fun k12 =>
  gW4 (xX9_bids_b53 N a1 a2 k12 v10) N v7 v8 v9 (nI 1) w11)
def xX9_bids (N : Nat) (a1 : Int32) (a2 : Int32) (a3 : Int32) (w : gT) : Option (Int32 × gT) :=
(if a1 < (nI 0) then
  some ((-1), w)
else
  (if (nI 20) < a1 then
    some ((-1), w)
  else
    (if a2 < (nI 0) then
      some ((-1), w)
    else
      (if (nI 20) < a2 then
        some ((-1), w)
      else
        (if a3 < (nI 0) then
          some ((-1), w)
        else
          (if a3 ≤ (nI 2) then
            gLet (fun (v2 : Int32) (v3 : Int32) (v4 : Int32) (w5 : gT) =>
            (if a3 = (nI 0) then
              some (v2, w5)
            else
              (if v2 = (nI 0) then
                some ((-2), w5)
              else
                (if a3 = (nI 1) then
                  some (v3, w5)
                else
                  some (v4, w5))))) fun k1 =>
            gW4 (xX9_bids_b43 N a1 a2 k1) N (nI 0) (nI 0) (nI 0) (nI 1) w
          else
            some ((-1), w)))))))
def rmX9_bids : Room := { frames := 2, cells := 0, slots := 0, locals := 48 }
def xX8_reduced_b8 (k1 : Int32 → gT → Option (Int32 × gT)) (go4 : Int32 → Int32 → Int32 → gT → Option (Int32 × gT)) (v5 : Int32) (v6 : Int32) (v7 : Int32) (w8 : gT) : Option (Int32 × gT) :=
(if (nI 64) ≤ v7 then
  k1 v5 w8
else
  (if v6 ≤ (nI 0) then
    k1 v5 w8
  else
    gZ v6 <|
    gLet (gRem v5 v6) fun (v9 : Int32) =>
    go4 v6 v9 (v7 + (nI 1)) w8))
def xX8_reduced (N : Nat) (a0 : Int32) (a1 : Int32) (a2 : Int32) (w : gT) : Option (Int32 × gT) :=
gLet (fun (v2 : Int32) (w3 : gT) =>
(if (nI 0) < v2 then
  (if a2 = (nI 0) then
    gZ v2 <|
    some ((a0 / v2), w3)
  else
    gZ v2 <|
    some ((a1 / v2), w3))
else
  some ((-1), w3))) fun k1 =>
gW3 (xX8_reduced_b8 k1) N a1 a0 (nI 0) w
def rmX8_reduced : Room := { frames := 0, cells := 0, slots := 0, locals := 0 }
def xX8_oddsOf_b23 (N : Nat) (a1 : Int32) (a2 : Int32) (k2 : Int32 → Int32 → gT → Option (Int32 × gT)) (go8 : Int32 → Int32 → Int32 → Int32 → gT → Option (Int32 × gT)) (v9 : Int32) (v10 : Int32) (v11 : Int32) (v12 : Int32) (w13 : gT) : Option (Int32 × gT) :=
(if (w13.1 21 5) ≤ v12 then
  k2 v10 v11 w13
else
  gLet (fun (v15 : Int32) (v16 : Int32) (v17 : Int32) (w18 : gT) =>
  go8 v15 v16 v17 (v12 + (nI 1)) w18) fun k14 =>
  gG v12 16 <|
  (if (w13.1 23 v12.toNatClampNeg) = a1 then
    gBi (xX7_isGone v12 w13) fun (v19 : Int32) (w20 : gT) =>
    (if v19 = (nI 0) then
      k14 v9 v10 v11 w20
    else
      gBi (xX8_chainFor v12 w20) fun (v21 : Int32) (w22 : gT) =>
      gBi (xX7_isClaimed N v12 w22) fun (v23 : Int32) (w24 : gT) =>
      (if v23 = (nI 0) then
        (if (v9 + (nI 1)) ≤ (nI 4) then
          gLet (fun (v26 : Int32) (w27 : gT) =>
          gLet (fun (v29 : Int32) (v30 : Int32) (v31 : Int32) (w32 : gT) =>
          gLet (v30 * v31) fun (v33 : Int32) =>
          k14 (v9 + (nI 1)) v33 v29 w32) fun k28 =>
          gLet (v11 * (nI 10)) fun (v34 : Int32) =>
          (if v26 = (nI 0) then
            k28 v34 v10 (nI 10) w27
          else
            gG v12 16 <|
            gG v12 16 <|
            gBi (xX1_tenthsOf N (w27.1 22 v12.toNatClampNeg) a1 (w27.1 24 v12.toNatClampNeg) v21 w27) fun (v35 : Int32) (w36 : gT) =>
            k28 v34 v10 v35 w36)) fun k25 =>
          gG v12 16 <|
          gG v12 16 <|
          gBi (xX1_frightOf N (w24.1 22 v12.toNatClampNeg) a2 a1 (w24.1 24 v12.toNatClampNeg) v21 w24) fun (v37 : Int32) (w38 : gT) =>
          (if v37 = (-2) then
            k25 (nI 0) w38
          else
            k25 (nI 1) w38)
        else
          some ((-2), w24))
      else
        k14 v9 v10 v11 w24))
  else
    k14 v9 v10 v11 w13))
def xX8_oddsOf (N : Nat) (a1 : Int32) (a2 : Int32) (a3 : Int32) (w : gT) : Option (Int32 × gT) :=
gLet (gU w 50 5 (w.1 1 10)) fun (w1 : gT) =>
gLet (fun (v3 : Int32) (v4 : Int32) (w5 : gT) =>
gBi (xX8_reduced N (v4 - v3) v4 a3 w5) fun (v6 : Int32) (w7 : gT) =>
some (v6, w7)) fun k2 =>
gW4 (xX8_oddsOf_b23 N a1 a2 k2) N (nI 0) (nI 1) (nI 1) (nI 0) w1
def rmX8_oddsOf : Room := { frames := 4, cells := 0, slots := 0, locals := 98 }
def xX9_odds (N : Nat) (a1 : Int32) (a2 : Int32) (a3 : Int32) (w : gT) : Option (Int32 × gT) :=
gBi (xX9_isNight a1 w) fun (v1 : Int32) (w2 : gT) =>
(if v1 = (nI 0) then
  some ((-1), w2)
else
  gBi (xX2_hasSleeper a2 w2) fun (v3 : Int32) (w4 : gT) =>
  (if v3 = (nI 0) then
    some ((-1), w4)
  else
    gLet (fun (w6 : gT) =>
    gBi (xX8_oddsOf N a1 a2 a3 w6) fun (v7 : Int32) (w8 : gT) =>
    some (v7, w8)) fun k5 =>
    (if a3 = (nI 0) then
      k5 w4
    else
      (if a3 = (nI 1) then
        k5 w4
      else
        some ((-1), w4)))))
def rmX9_odds : Room := { frames := 5, cells := 0, slots := 0, locals := 127 }
def xX9_seed (a1 : Int32) (w : gT) : Option (Int32 × gT) :=
(if a1 < (nI 0) then
  some ((nI 0), w)
else
  (if a1 ≤ (nI 65535) then
    gLet (gU w 1 13 a1) fun (w1 : gT) =>
    some ((nI 1), w1)
  else
    some ((nI 0), w)))
def rmX9_seed : Room := { frames := 0, cells := 0, slots := 0, locals := 0 }
def xX2_copy (w : gT) : Option (gT) :=
gLet (gCpy w 2 11 12) fun (w1 : gT) =>
gLet (gCpy w1 3 12 70) fun (w2 : gT) =>
gLet (gCpy w2 4 13 10) fun (w3 : gT) =>
gLet (gCpy w3 5 14 10) fun (w4 : gT) =>
gLet (gCpy w4 6 15 10) fun (w5 : gT) =>
gLet (gCpy w5 7 16 10) fun (w6 : gT) =>
gLet (gCpy w6 8 17 10) fun (w7 : gT) =>
gLet (gCpy w7 9 18 40) fun (w8 : gT) =>
gLet (gU w8 10 8 (w8.1 1 8)) fun (w9 : gT) =>
gLet (gU w9 10 9 (w9.1 1 9)) fun (w10 : gT) =>
gLet (gU w10 10 10 (w10.1 1 10)) fun (w11 : gT) =>
gLet (gU w11 10 11 (w11.1 1 11)) fun (w12 : gT) =>
gLet (gU w12 10 12 (w12.1 1 12)) fun (w13 : gT) =>
gLet (gU w13 10 13 (w13.1 1 13)) fun (w14 : gT) =>
some w14
def rmX2_copy : Room := { frames := 1, cells := 0, slots := 0, locals := 80 }
def xX9_keep (w : gT) : Option (Int32 × gT) :=
gBv (xX2_copy w) fun (w1 : gT) =>
gLet (gU w1 0 2 (nI 1)) fun (w2 : gT) =>
some ((w2.1 1 12), w2)
def rmX9_keep : Room := { frames := 2, cells := 0, slots := 0, locals := 101 }
def xX2_copy_1_10 (w : gT) : Option (gT) :=
gLet (gCpy w 11 2 12) fun (w1 : gT) =>
gLet (gCpy w1 12 3 70) fun (w2 : gT) =>
gLet (gCpy w2 13 4 10) fun (w3 : gT) =>
gLet (gCpy w3 14 5 10) fun (w4 : gT) =>
gLet (gCpy w4 15 6 10) fun (w5 : gT) =>
gLet (gCpy w5 16 7 10) fun (w6 : gT) =>
gLet (gCpy w6 17 8 10) fun (w7 : gT) =>
gLet (gCpy w7 18 9 40) fun (w8 : gT) =>
gLet (gU w8 1 8 (w8.1 10 8)) fun (w9 : gT) =>
gLet (gU w9 1 9 (w9.1 10 9)) fun (w10 : gT) =>
gLet (gU w10 1 10 (w10.1 10 10)) fun (w11 : gT) =>
gLet (gU w11 1 11 (w11.1 10 11)) fun (w12 : gT) =>
gLet (gU w12 1 12 (w12.1 10 12)) fun (w13 : gT) =>
gLet (gU w13 1 13 (w13.1 10 13)) fun (w14 : gT) =>
some w14
def rmX2_copy_1_10 : Room := { frames := 1, cells := 0, slots := 0, locals := 80 }
def xX9_undo (w : gT) : Option (Int32 × gT) :=
(if (w.1 0 2) = (nI 0) then
  if (w.1 0 2) = nI 0 ∨ (w.1 0 2) = nI 1 then some ((w.1 0 2), w) else none
else
  gBv (xX2_copy_1_10 w) fun (w1 : gT) =>
  if (w1.1 0 2) = nI 0 ∨ (w1.1 0 2) = nI 1 then some ((w1.1 0 2), w1) else none)
def rmX9_undo : Room := { frames := 2, cells := 0, slots := 0, locals := 101 }
def xX6_numberAt (a1 : Int32) (w : gT) : Option (Int32 × gT) :=
(if a1 < (nI 0) then
  some ((nI 0), w)
else
  (if (a1 + (nI 4)) ≤ (nI 220) then
    gG a1 220 <|
    gG (a1 + (nI 1)) 220 <|
    gG (a1 + (nI 2)) 220 <|
    gG (a1 + (nI 3)) 220 <|
    some (((((gShl (w.1 20 a1.toNatClampNeg) (nI 24)) ||| (gShl (w.1 20 (a1 + (nI 1)).toNatClampNeg) (nI 16))) ||| (gShl (w.1 20 (a1 + (nI 2)).toNatClampNeg) (nI 8))) ||| (w.1 20 (a1 + (nI 3)).toNatClampNeg)), w)
  else
    some ((nI 0), w)))
def rmX6_numberAt : Room := { frames := 0, cells := 0, slots := 0, locals := 0 }
def xX9_check_b38 (N : Nat) (a1 : Int32) (go2 : Int32 → gT → Option (Int32 × gT)) (v3 : Int32) (w4 : gT) : Option (Int32 × gT) :=
(if a1 ≤ v3 then
  some ((-1), w4)
else
  gLet (fun (v6 : Int32) (w7 : gT) =>
  gBi (xX6_numberAt ((nI 4) * v3) w7) fun (v8 : Int32) (w9 : gT) =>
  (if v8 = v6 then
    go2 (v3 + (nI 1)) w9
  else
    some (v3, w9))) fun k5 =>
  gBi (xX2_hasSleeper v3 w4) fun (v10 : Int32) (w11 : gT) =>
  (if v10 = (nI 0) then
    k5 (nI 0) w11
  else
    gG ((nI 10) + v3) 40 <|
    k5 (w11.1 9 ((nI 10) + v3).toNatClampNeg) w11))
def xX9_check (N : Nat) (a1 : Int32) (w : gT) : Option (Int32 × gT) :=
(if a1 < (nI 0) then
  some ((-2), w)
else
  (if (nI 10) < a1 then
    some ((-2), w)
  else
    (if ((nI 4) * a1) ≤ (w.1 19 1) then
      gBv (xX6_open ((nI 4) * a1) w) fun (w1 : gT) =>
      gW1 (xX9_check_b38 N a1) N (nI 0) w1
    else
      some ((-2), w))))
def rmX9_check : Room := { frames := 1, cells := 0, slots := 0, locals := 21 }
def xX9_countInHouse (a1 : Int32) (w : gT) : Option (Int32 × gT) :=
gLet (fun (w2 : gT) =>
gLet (fun (w4 : gT) =>
(if a1 < (nI 100) then
  some ((-1), w4)
else
  (if (nI 170) ≤ a1 then
    some ((-1), w4)
  else
    gBi (xX2_hasSleeper (gRem a1 (nI 10)) w4) fun (v5 : Int32) (w6 : gT) =>
    (if v5 = (nI 0) then
      some ((-1), w6)
    else
      gG (a1 - (nI 100)) 70 <|
      some ((w6.1 3 (a1 - (nI 100)).toNatClampNeg), w6))))) fun k3 =>
(if a1 < (nI 30) then
  k3 w2
else
  (if (nI 60) ≤ a1 then
    k3 w2
  else
    gBi (xX2_hasGhost (gRem a1 (nI 10)) w2) fun (v7 : Int32) (w8 : gT) =>
    (if v7 = (nI 0) then
      k3 w8
    else
      gLet (gRem a1 (nI 10)) fun (v9 : Int32) =>
      (if (nI 40) ≤ a1 then
        (if (nI 50) ≤ a1 then
          gG v9 10 <|
          some ((w8.1 8 v9.toNatClampNeg), w8)
        else
          gG v9 10 <|
          some ((w8.1 5 v9.toNatClampNeg), w8))
      else
        gG v9 10 <|
        some ((w8.1 6 v9.toNatClampNeg), w8)))))) fun k1 =>
(if a1 < (nI 10) then
  k1 w
else
  (if (nI 22) ≤ a1 then
    k1 w
  else
    gG (a1 - (nI 10)) 12 <|
    some ((w.1 2 (a1 - (nI 10)).toNatClampNeg), w)))
def rmX9_countInHouse : Room := { frames := 1, cells := 0, slots := 0, locals := 21 }
def xX9_count (a1 : Int32) (w : gT) : Option (Int32 × gT) :=
(if a1 = (nI 0) then
  some ((w.1 21 5), w)
else
  (if a1 = (nI 1) then
    some ((w.1 33 3), w)
  else
    (if a1 = (nI 2) then
      some ((w.1 19 1), w)
    else
      (if a1 = (nI 3) then
        some ((w.1 1 13), w)
      else
        (if a1 = (nI 4) then
          some ((w.1 1 10), w)
        else
          (if a1 = (nI 5) then
            some ((w.1 1 11), w)
          else
            (if a1 = (nI 6) then
              some ((w.1 1 8), w)
            else
              (if a1 = (nI 7) then
                some ((w.1 1 9), w)
              else
                gBi (xX9_countInHouse a1 w) fun (v1 : Int32) (w2 : gT) =>
                some (v1, w2)))))))))
def rmX9_count : Room := { frames := 2, cells := 0, slots := 0, locals := 43 }
def xX10_isRoom (a0 : Int32) (w : gT) : Option (Int32 × gT) :=
(if a0 < (nI 0) then
  some ((nI 0), w)
else
  (if (nI 12) ≤ a0 then
    some ((nI 0), w)
  else
    some ((nI 1), w)))
def rmX10_isRoom : Room := { frames := 0, cells := 0, slots := 0, locals := 0 }
def xX10_in (a0 : Int32) (a1 : Int32) (a2 : Int32) (w : gT) : Option (Int32 × gT) :=
(if a0 < a1 then
  some ((nI 0), w)
else
  (if a2 < a0 then
    some ((nI 0), w)
  else
    some ((nI 1), w)))
def rmX10_in : Room := { frames := 0, cells := 0, slots := 0, locals := 0 }
def xX10_cats (a1 : Int32) (a2 : Int32) (w : gT) : Option (Int32 × gT) :=
gBi (xX10_isRoom a1 w) fun (v1 : Int32) (w2 : gT) =>
(if v1 = (nI 0) then
  some ((nI 0), w2)
else
  gBi (xX10_in a2 (nI 0) (nI 9) w2) fun (v3 : Int32) (w4 : gT) =>
  (if v3 = (nI 0) then
    some ((nI 0), w4)
  else
    gG a1 12 <|
    gLet (gU w4 1 a1.toNatClampNeg a2) fun (w5 : gT) =>
    some ((nI 1), w5)))
def rmX10_cats : Room := { frames := 1, cells := 0, slots := 0, locals := 22 }
def xX10_isNight (a0 : Int32) (w : gT) : Option (Int32 × gT) :=
(if a0 < (nI 0) then
  some ((nI 0), w)
else
  (if (nI 7) ≤ a0 then
    some ((nI 0), w)
  else
    some ((nI 1), w)))
def rmX10_isNight : Room := { frames := 0, cells := 0, slots := 0, locals := 0 }
def xX10_allSouls (a1 : Int32) (w : gT) : Option (Int32 × gT) :=
gLet (fun (w2 : gT) =>
gLet (gU w2 0 1 a1) fun (w3 : gT) =>
some ((nI 1), w3)) fun k1 =>
(if a1 = (-1) then
  k1 w
else
  gBi (xX10_isNight a1 w) fun (v4 : Int32) (w5 : gT) =>
  (if v4 = (nI 0) then
    some ((nI 0), w5)
  else
    k1 w5))
def rmX10_allSouls : Room := { frames := 1, cells := 0, slots := 0, locals := 20 }
def xX10_chains (a1 : Int32) (w : gT) : Option (Int32 × gT) :=
gBi (xX10_in a1 (nI 0) (nI 9) w) fun (v1 : Int32) (w2 : gT) =>
(if v1 = (nI 0) then
  some ((nI 0), w2)
else
  gLet (gU w2 0 2 a1) fun (w3 : gT) =>
  some ((nI 1), w3))
def rmX10_chains : Room := { frames := 1, cells := 0, slots := 0, locals := 22 }
def xX10_sleeper_b43 (a1 : Int32) (go7 : Int32 → gT → Option (Int32 × gT)) (v8 : Int32) (w9 : gT) : Option (Int32 × gT) :=
(if (nI 7) ≤ v8 then
  gG ((nI 10) + a1) 47 <|
  gLet (gU w9 8 ((nI 10) + a1).toNatClampNeg (nI 0)) fun (w10 : gT) =>
  some ((nI 1), w10)
else
  gG (((nI 10) * v8) + a1) 70 <|
  gLet (gU w9 3 (((nI 10) * v8) + a1).toNatClampNeg (nI 255)) fun (w11 : gT) =>
  go7 (v8 + (nI 1)) w11)
def xX10_sleeper (N : Nat) (a1 : Int32) (a2 : Int32) (w : gT) : Option (Int32 × gT) :=
gBi (xX10_in a1 (nI 0) (nI 9) w) fun (v1 : Int32) (w2 : gT) =>
(if v1 = (nI 0) then
  some ((nI 0), w2)
else
  gBi (xX10_in a2 (nI 0) (nI 9) w2) fun (v3 : Int32) (w4 : gT) =>
  (if v3 = (nI 0) then
    some ((nI 0), w4)
  else
    gLet (gU w4 0 3 ((w4.1 0 3) ||| (gShl (nI 1) a1))) fun (w5 : gT) =>
    gG a1 10 <|
    gLet (gU w5 2 a1.toNatClampNeg a2) fun (w6 : gT) =>
    gW1 (xX10_sleeper_b43 a1) N (nI 0) w6))
def rmX10_sleeper : Room := { frames := 1, cells := 0, slots := 0, locals := 22 }
def xX10_has (a0 : Int32) (a1 : Int32) (w : gT) : Option (Int32 × gT) :=
(if ((gShr a0 a1) &&& (nI 1)) = (nI 1) then
  some ((nI 1), w)
else
  some ((nI 0), w))
def rmX10_has : Room := { frames := 0, cells := 0, slots := 0, locals := 0 }
def xX10_isSleeper (a1 : Int32) (w : gT) : Option (Int32 × gT) :=
(if a1 < (nI 0) then
  some ((nI 0), w)
else
  (if (nI 10) ≤ a1 then
    some ((nI 0), w)
  else
    gBi (xX10_has (w.1 0 3) a1 w) fun (v1 : Int32) (w2 : gT) =>
    (if v1 = (nI 0) then
      some ((nI 0), w2)
    else
      some ((nI 1), w2))))
def rmX10_isSleeper : Room := { frames := 1, cells := 0, slots := 0, locals := 21 }
def xX10_sleeps_b46 (a1 : Int32) (a3 : Int32) (a4 : Int32) (go9 : Int32 → gT → Option (Int32 × gT)) (v10 : Int32) (w11 : gT) : Option (Int32 × gT) :=
(if a3 ≤ v10 then
  some ((nI 1), w11)
else
  gLet (fun (v13 : Int32) (v14 : Int32) (w15 : gT) =>
  gG v13 70 <|
  gLet (gU w15 3 v13.toNatClampNeg v14) fun (w16 : gT) =>
  go9 (v10 + (nI 1)) w16) fun k12 =>
  (if a4 = (-1) then
    k12 (((nI 10) * v10) + a1) (nI 255) w11
  else
    k12 (((nI 10) * v10) + a1) a4 w11))
def xX10_sleeps (N : Nat) (a1 : Int32) (a2 : Int32) (a3 : Int32) (a4 : Int32) (w : gT) : Option (Int32 × gT) :=
gBi (xX10_isSleeper a1 w) fun (v1 : Int32) (w2 : gT) =>
(if v1 = (nI 0) then
  some ((nI 0), w2)
else
  gBi (xX10_isNight a2 w2) fun (v3 : Int32) (w4 : gT) =>
  (if v3 = (nI 0) then
    some ((nI 0), w4)
  else
    gBi (xX10_in a3 (a2 + (nI 1)) (nI 7) w4) fun (v5 : Int32) (w6 : gT) =>
    (if v5 = (nI 0) then
      some ((nI 0), w6)
    else
      gLet (fun (w8 : gT) =>
      gW1 (xX10_sleeps_b46 a1 a3 a4) N a2 w8) fun k7 =>
      (if a4 = (-1) then
        k7 w6
      else
        gBi (xX10_isRoom a4 w6) fun (v17 : Int32) (w18 : gT) =>
        (if v17 = (nI 0) then
          some ((nI 0), w18)
        else
          k7 w18)))))
def rmX10_sleeps : Room := { frames := 2, cells := 0, slots := 0, locals := 42 }
def xX10_ghost (a1 : Int32) (a2 : Int32) (a3 : Int32) (a4 : Int32) (a5 : Int32) (w : gT) : Option (Int32 × gT) :=
gBi (xX10_in a1 (nI 0) (nI 9) w) fun (v1 : Int32) (w2 : gT) =>
(if v1 = (nI 0) then
  some ((nI 0), w2)
else
  gBi (xX10_in a2 (nI 0) (nI 4) w2) fun (v3 : Int32) (w4 : gT) =>
  (if v3 = (nI 0) then
    some ((nI 0), w4)
  else
    gBi (xX10_in a3 (nI 0) (nI 9) w4) fun (v5 : Int32) (w6 : gT) =>
    (if v5 = (nI 0) then
      some ((nI 0), w6)
    else
      gBi (xX10_in a4 (nI 0) (nI 9) w6) fun (v7 : Int32) (w8 : gT) =>
      (if v7 = (nI 0) then
        some ((nI 0), w8)
      else
        gBi (xX10_in a5 (nI 0) (nI 999) w8) fun (v9 : Int32) (w10 : gT) =>
        (if v9 = (nI 0) then
          some ((nI 0), w10)
        else
          gLet (gU w10 0 4 ((w10.1 0 4) ||| (gShl (nI 1) a1))) fun (w11 : gT) =>
          gG a1 10 <|
          gLet (gU w11 4 a1.toNatClampNeg a2) fun (w12 : gT) =>
          gG a1 10 <|
          gLet (gU w12 5 a1.toNatClampNeg a3) fun (w13 : gT) =>
          gG a1 10 <|
          gLet (gU w13 6 a1.toNatClampNeg a4) fun (w14 : gT) =>
          gG a1 10 <|
          gLet (gU w14 7 a1.toNatClampNeg a5) fun (w15 : gT) =>
          gG ((nI 20) + a1) 47 <|
          gLet (gU w15 8 ((nI 20) + a1).toNatClampNeg (nI 0)) fun (w16 : gT) =>
          gG ((nI 30) + a1) 47 <|
          gLet (gU w16 8 ((nI 30) + a1).toNatClampNeg (nI 0)) fun (w17 : gT) =>
          some ((nI 1), w17))))))
def rmX10_ghost : Room := { frames := 1, cells := 0, slots := 0, locals := 22 }
def xX10_types_b2 (a1 : Int32) (go1 : Int32 → gT → Option (gT)) (v2 : Int32) (w3 : gT) : Option (gT) :=
(if v2 < (nI 0) then
  some w3
else
  gG (w3.1 0 14) 220 <|
  gLet (gU w3 9 (w3.1 0 14).toNatClampNeg (Int8.toInt32 (Int32.toInt8 (Int8.toInt32 (Int32.toInt8 (gShr a1 ((nI 8) * v2))))))) fun (w4 : gT) =>
  gLet (gU w4 0 14 ((w4.1 0 14) + (nI 1))) fun (w5 : gT) =>
  go1 (v2 + (-1)) w5)
def xX10_types (N : Nat) (a1 : Int32) (w : gT) : Option (gT) :=
gW1 (xX10_types_b2 a1) N (nI 3) w
def rmX10_types : Room := { frames := 0, cells := 0, slots := 0, locals := 0 }
def xX10_feed (N : Nat) (a1 : Int32) (a2 : Int32) (a3 : Int32) (a4 : Int32) (a5 : Int32) (w : gT) : Option (Int32 × gT) :=
(if ((w.1 0 14) + (nI 20)) ≤ (nI 220) then
  gBv (xX10_types N a1 w) fun (w1 : gT) =>
  gBv (xX10_types N a2 w1) fun (w2 : gT) =>
  gBv (xX10_types N a3 w2) fun (w3 : gT) =>
  gBv (xX10_types N a4 w3) fun (w4 : gT) =>
  gBv (xX10_types N a5 w4) fun (w5 : gT) =>
  some ((w5.1 0 14), w5)
else
  some ((-1), w))
def rmX10_feed : Room := { frames := 1, cells := 0, slots := 0, locals := 22 }
def xX10_here (w : gT) : Option (Int32 × gT) :=
(if (w.1 0 16) ≤ (w.1 0 15) then
  some ((-1), w)
else
  gG (w.1 0 15) 220 <|
  some (((w.1 9 (w.1 0 15).toNatClampNeg) &&& (nI 255)), w))
def rmX10_here : Room := { frames := 0, cells := 0, slots := 0, locals := 0 }
def xX10_isDigit (w : gT) : Option (Int32 × gT) :=
gBi (xX10_here w) fun (v1 : Int32) (w2 : gT) =>
(if v1 < (nI 48) then
  some ((nI 0), w2)
else
  gBi (xX10_here w2) fun (v3 : Int32) (w4 : gT) =>
  (if (nI 57) < v3 then
    some ((nI 0), w4)
  else
    some ((nI 1), w4)))
def rmX10_isDigit : Room := { frames := 1, cells := 0, slots := 0, locals := 20 }
def xX10_wrongAt (a1 : Int32) (a2 : Int32) (w : gT) : Option (Int32 × gT) :=
gLet (gU w 0 17 (((-1000) * a1) - a2)) fun (w1 : gT) =>
some ((nI 0), w1)
def rmX10_wrongAt : Room := { frames := 0, cells := 0, slots := 0, locals := 0 }
def xX10_readsOne (a1 : Int32) (w : gT) : Option (Int32 × gT) :=
gLet (fun (w2 : gT) =>
gBi (xX10_wrongAt (nI 1) (w2.1 0 15) w2) fun (v3 : Int32) (w4 : gT) =>
if v3 = nI 0 ∨ v3 = nI 1 then some (v3, w4) else none) fun k1 =>
gBi (xX10_isDigit w) fun (v5 : Int32) (w6 : gT) =>
(if v5 = (nI 0) then
  k1 w6
else
  gBi (xX10_here w6) fun (v7 : Int32) (w8 : gT) =>
  (if (v7 - (nI 48)) ≤ a1 then
    gBi (xX10_here w8) fun (v9 : Int32) (w10 : gT) =>
    gLet (gU w10 0 18 (v9 - (nI 48))) fun (w11 : gT) =>
    gLet (gU w11 0 15 ((w11.1 0 15) + (nI 1))) fun (w12 : gT) =>
    some ((nI 1), w12)
  else
    k1 w8))
def rmX10_readsOne : Room := { frames := 2, cells := 0, slots := 0, locals := 40 }
def xX10_takes (a1 : Int32) (w : gT) : Option (Int32 × gT) :=
gBi (xX10_here w) fun (v1 : Int32) (w2 : gT) =>
(if v1 = a1 then
  gLet (gU w2 0 15 ((w2.1 0 15) + (nI 1))) fun (w3 : gT) =>
  some ((nI 1), w3)
else
  gBi (xX10_wrongAt (nI 1) (w2.1 0 15) w2) fun (v4 : Int32) (w5 : gT) =>
  if v4 = nI 0 ∨ v4 = nI 1 then some (v4, w5) else none)
def rmX10_takes : Room := { frames := 1, cells := 0, slots := 0, locals := 22 }
def xX10_readsRoom_b10 (N : Nat) (k3 : gT → Option (Int32 × gT)) (v1 : Int32) (go11 : gT → Option (Int32 × gT)) (w12 : gT) : Option (Int32 × gT) :=
gBi (xX10_isDigit w12) fun (v13 : Int32) (w14 : gT) =>
(if v13 = (nI 0) then
  k3 w14
else
  (if (v1 + (nI 2)) ≤ (w14.1 0 15) then
    k3 w14
  else
    gBi (xX10_here w14) fun (v15 : Int32) (w16 : gT) =>
    gLet (gU w16 0 18 ((((nI 10) * (w14.1 0 18)) + v15) - (nI 48))) fun (w17 : gT) =>
    gLet (gU w17 0 15 ((w17.1 0 15) + (nI 1))) fun (w18 : gT) =>
    go11 w18))
def xX10_readsRoom (N : Nat) (w : gT) : Option (Int32 × gT) :=
gLet (w.1 0 15) fun (v1 : Int32) =>
gLet (gU w 0 18 (nI 0)) fun (w2 : gT) =>
gLet (fun (w4 : gT) =>
(if (w4.1 0 15) = v1 then
  gBi (xX10_wrongAt (nI 1) (w4.1 0 15) w4) fun (v9 : Int32) (w10 : gT) =>
  if v9 = nI 0 ∨ v9 = nI 1 then some (v9, w10) else none
else
  gBi (xX10_isRoom (w4.1 0 18) w4) fun (v5 : Int32) (w6 : gT) =>
  (if v5 = (nI 0) then
    gBi (xX10_wrongAt (nI 3) v1 w6) fun (v7 : Int32) (w8 : gT) =>
    (if v7 = (nI 0) then
      some ((nI 0), w8)
    else
      some ((nI 1), w8))
  else
    some ((nI 1), w6)))) fun k3 =>
gW0 (xX10_readsRoom_b10 N k3 v1) N w2
def rmX10_readsRoom : Room := { frames := 2, cells := 0, slots := 0, locals := 40 }
def xX10_readsWalk (N : Nat) (w : gT) : Option (Int32 × gT) :=
gBi (xX10_isDigit w) fun (v1 : Int32) (w2 : gT) =>
(if v1 = (nI 0) then
  gBi (xX10_wrongAt (nI 1) (w2.1 0 15) w2) fun (v31 : Int32) (w32 : gT) =>
  if v31 = nI 0 ∨ v31 = nI 1 then some (v31, w32) else none
else
  (if (w2.1 0 20) = (nI 16) then
    gBi (xX10_wrongAt (nI 4) (w2.1 0 15) w2) fun (v29 : Int32) (w30 : gT) =>
    if v29 = nI 0 ∨ v29 = nI 1 then some (v29, w30) else none
  else
    gBi (xX10_readsOne (nI 9) w2) fun (v3 : Int32) (w4 : gT) =>
    gG (w4.1 0 20) 16 <|
    gLet (gU w4 13 (w4.1 0 20).toNatClampNeg (w4.1 0 18)) fun (w5 : gT) =>
    gBi (xX10_takes (nI 64) w5) fun (v6 : Int32) (w7 : gT) =>
    (if v6 = (nI 0) then
      some ((nI 0), w7)
    else
      gBi (xX10_readsOne (nI 6) w7) fun (v8 : Int32) (w9 : gT) =>
      (if v8 = (nI 0) then
        some ((nI 0), w9)
      else
        gG (w9.1 0 20) 16 <|
        gLet (gU w9 14 (w9.1 0 20).toNatClampNeg (w9.1 0 18)) fun (w10 : gT) =>
        gBi (xX10_takes (nI 45) w10) fun (v11 : Int32) (w12 : gT) =>
        (if v11 = (nI 0) then
          some ((nI 0), w12)
        else
          gBi (xX10_readsRoom N w12) fun (v13 : Int32) (w14 : gT) =>
          (if v13 = (nI 0) then
            some ((nI 0), w14)
          else
            gLet (fun (v16 : Int32) (v17 : Int32) (w18 : gT) =>
            gLet (fun (w20 : gT) =>
            gLet (gU w20 0 20 ((w20.1 0 20) + (nI 1))) fun (w21 : gT) =>
            some ((nI 1), w21)) fun k19 =>
            gG v16 16 <|
            gLet (gU w18 17 v16.toNatClampNeg (v17 &&& nI 1)) fun (w22 : gT) =>
            gBi (xX10_here w22) fun (v23 : Int32) (w24 : gT) =>
            (if v23 = (nI 43) then
              gLet (gU w24 0 15 ((w24.1 0 15) + (nI 1))) fun (w25 : gT) =>
              k19 w25
            else
              k19 w24)) fun k15 =>
            gG (w14.1 0 20) 16 <|
            gLet (gU w14 15 (w14.1 0 20).toNatClampNeg (w14.1 0 18)) fun (w26 : gT) =>
            gBi (xX10_here w26) fun (v27 : Int32) (w28 : gT) =>
            (if v27 = (nI 43) then
              k15 (w26.1 0 20) (nI 1) w28
            else
              k15 (w26.1 0 20) (nI 0) w28)))))))
def rmX10_readsWalk : Room := { frames := 3, cells := 0, slots := 0, locals := 61 }
def xX10_rota_b105 (go13 : Int32 → gT → Option (Int32 × gT)) (v14 : Int32) (w15 : gT) : Option (Int32 × gT) :=
(if (w15.1 0 19) ≤ v14 then
  some ((w15.1 0 19), w15)
else
  gG v14 16 <|
  gG v14 16 <|
  gLet (gU w15 10 v14.toNatClampNeg (w15.1 13 v14.toNatClampNeg)) fun (w16 : gT) =>
  gG v14 16 <|
  gG v14 16 <|
  gLet (gU w16 11 v14.toNatClampNeg (w16.1 14 v14.toNatClampNeg)) fun (w17 : gT) =>
  gG v14 16 <|
  gG v14 16 <|
  gLet (gU w17 12 v14.toNatClampNeg (w17.1 15 v14.toNatClampNeg)) fun (w18 : gT) =>
  gG v14 16 <|
  gG v14 16 <|
  gLet (gU w18 16 v14.toNatClampNeg ((w18.1 17 v14.toNatClampNeg) &&& nI 1)) fun (w19 : gT) =>
  go13 (v14 + (nI 1)) w19)
def xX10_rota_b41 (N : Nat) (k8 : Int32 → gT → Option (Int32 × gT)) (go20 : Int32 → gT → Option (Int32 × gT)) (v21 : Int32) (w22 : gT) : Option (Int32 × gT) :=
(if v21 = (nI 0) then
  k8 v21 w22
else
  (if (w22.1 0 16) ≤ (w22.1 0 15) then
    k8 v21 w22
  else
    gLet (fun (v24 : Int32) (w25 : gT) =>
    go20 v24 w25) fun k23 =>
    gLet (fun (w27 : gT) =>
    k23 (nI 0) w27) fun k26 =>
    gBi (xX10_takes (nI 59) w22) fun (v28 : Int32) (w29 : gT) =>
    (if v28 = (nI 0) then
      k26 w29
    else
      gBi (xX10_readsWalk N w29) fun (v30 : Int32) (w31 : gT) =>
      (if v30 = (nI 0) then
        k26 w31
      else
        k23 (nI 1) w31))))
def xX10_rota (N : Nat) (a1 : Int32) (w : gT) : Option (Int32 × gT) :=
gBi (xX10_in a1 (nI 1) (nI 160) w) fun (v1 : Int32) (w2 : gT) =>
(if v1 = (nI 0) then
  some ((-1), w2)
else
  (if a1 ≤ (w2.1 0 14) then
    gLet (gU w2 0 15 (nI 0)) fun (w3 : gT) =>
    gLet (gU w3 0 16 a1) fun (w4 : gT) =>
    gLet (gU w4 0 20 (nI 0)) fun (w5 : gT) =>
    gBi (xX10_readsWalk N w5) fun (v6 : Int32) (w7 : gT) =>
    gLet (fun (v9 : Int32) (w10 : gT) =>
    gLet (gU w10 0 14 (nI 0)) fun (w11 : gT) =>
    (if v9 = (nI 0) then
      some ((w11.1 0 17), w11)
    else
      gLet (gU w11 0 19 (w11.1 0 20)) fun (w12 : gT) =>
      gW1 (xX10_rota_b105) N (nI 0) w12)) fun k8 =>
    gW1 (xX10_rota_b41 N k8) N v6 w7
  else
    some ((-1), w2)))
def rmX10_rota : Room := { frames := 4, cells := 0, slots := 0, locals := 81 }
def xX10_isGhost (a1 : Int32) (w : gT) : Option (Int32 × gT) :=
(if a1 < (nI 0) then
  some ((nI 0), w)
else
  (if (nI 10) ≤ a1 then
    some ((nI 0), w)
  else
    gBi (xX10_has (w.1 0 4) a1 w) fun (v1 : Int32) (w2 : gT) =>
    (if v1 = (nI 0) then
      some ((nI 0), w2)
    else
      some ((nI 1), w2))))
def rmX10_isGhost : Room := { frames := 1, cells := 0, slots := 0, locals := 21 }
def xX10_counts_b17 (a1 : Int32) (go3 : Int32 → gT → Option (Int32 × gT)) (v4 : Int32) (w5 : gT) : Option (Int32 × gT) :=
(if a1 ≤ v4 then
  some ((nI 1), w5)
else
  gLet (fun (w7 : gT) =>
  go3 (v4 + (nI 1)) w7) fun k6 =>
  gG v4 16 <|
  gG a1 16 <|
  (if (w5.1 10 v4.toNatClampNeg) = (w5.1 10 a1.toNatClampNeg) then
    gG v4 16 <|
    gG a1 16 <|
    (if (w5.1 11 v4.toNatClampNeg) = (w5.1 11 a1.toNatClampNeg) then
      some ((nI 0), w5)
    else
      k6 w5)
  else
    k6 w5))
def xX10_counts (N : Nat) (a1 : Int32) (w : gT) : Option (Int32 × gT) :=
gG a1 16 <|
gBi (xX10_isGhost (w.1 10 a1.toNatClampNeg) w) fun (v1 : Int32) (w2 : gT) =>
(if v1 = (nI 0) then
  some ((nI 0), w2)
else
  gW1 (xX10_counts_b17 a1) N (nI 0) w2)
def rmX10_counts : Room := { frames := 2, cells := 0, slots := 0, locals := 42 }
def xX10_walk (N : Nat) (a1 : Int32) (a2 : Int32) (w : gT) : Option (Int32 × gT) :=
(if a1 < (nI 0) then
  some ((-1), w)
else
  (if a1 < (w.1 0 19) then
    (if a2 = (nI 0) then
      gG a1 16 <|
      some ((w.1 10 a1.toNatClampNeg), w)
    else
      (if a2 = (nI 1) then
        gG a1 16 <|
        some ((w.1 11 a1.toNatClampNeg), w)
      else
        (if a2 = (nI 2) then
          gG a1 16 <|
          some ((w.1 12 a1.toNatClampNeg), w)
        else
          (if a2 = (nI 3) then
            gG a1 16 <|
            (if (w.1 16 a1.toNatClampNeg) = (nI 0) then
              some ((nI 0), w)
            else
              some ((nI 1), w))
          else
            (if a2 = (nI 4) then
              gBi (xX10_counts N a1 w) fun (v1 : Int32) (w2 : gT) =>
              (if v1 = (nI 0) then
                some ((nI 0), w2)
              else
                some ((nI 1), w2))
            else
              some ((-1), w))))))
  else
    some ((-1), w)))
def rmX10_walk : Room := { frames := 3, cells := 0, slots := 0, locals := 64 }
def xX10_isClause (a0 : Int32) (w : gT) : Option (Int32 × gT) :=
(if a0 = (nI 107) then
  some ((nI 1), w)
else
  (if a0 = (nI 102) then
    some ((nI 1), w)
  else
    (if a0 = (nI 119) then
      some ((nI 1), w)
    else
      (if a0 = (nI 122) then
        some ((nI 1), w)
      else
        (if a0 = (nI 113) then
          some ((nI 1), w)
        else
          some ((nI 0), w))))))
def rmX10_isClause : Room := { frames := 0, cells := 0, slots := 0, locals := 0 }
def xX10_opens (a1 : Int32) (w : gT) : Option (Int32 × gT) :=
(if (w.1 0 29) = (nI 6) then
  gBi (xX10_wrongAt (nI 5) (w.1 0 15) w) fun (v5 : Int32) (w6 : gT) =>
  if v5 = nI 0 ∨ v5 = nI 1 then some (v5, w6) else none
else
  gLet (gU w 0 29 ((w.1 0 29) + (nI 1))) fun (w1 : gT) =>
  gG (w1.1 0 31) 220 <|
  gLet (gU w1 19 (w1.1 0 31).toNatClampNeg ((nI 1048576) * a1)) fun (w2 : gT) =>
  gLet (gU w2 0 31 ((w2.1 0 31) + (nI 1))) fun (w3 : gT) =>
  gLet (gU w3 0 15 ((w3.1 0 15) + (nI 1))) fun (w4 : gT) =>
  some ((nI 1), w4))
def rmX10_opens : Room := { frames := 1, cells := 0, slots := 0, locals := 22 }
def xX10_factOf (a0 : Int32) (w : gT) : Option (Int32 × gT) :=
(if a0 = (nI 99) then
  some ((nI 5), w)
else
  (if a0 = (nI 100) then
    some ((-1), w)
  else
    (if a0 = (nI 101) then
      some ((-1), w)
    else
      (if a0 = (nI 102) then
        some ((-1), w)
      else
        (if a0 = (nI 103) then
          some ((nI 3), w)
        else
          (if a0 = (nI 104) then
            some ((nI 7), w)
          else
            (if a0 = (nI 105) then
              some ((-1), w)
            else
              (if a0 = (nI 106) then
                some ((-1), w)
              else
                (if a0 = (nI 107) then
                  some ((-1), w)
                else
                  (if a0 = (nI 108) then
                    some ((nI 11), w)
                  else
                    (if a0 = (nI 109) then
                      some ((nI 4), w)
                    else
                      (if a0 = (nI 110) then
                        some ((nI 1), w)
                      else
                        (if a0 = (nI 111) then
                          some ((nI 10), w)
                        else
                          (if a0 = (nI 112) then
                            some ((nI 8), w)
                          else
                            (if a0 = (nI 113) then
                              some ((-1), w)
                            else
                              (if a0 = (nI 114) then
                                some ((nI 0), w)
                              else
                                (if a0 = (nI 115) then
                                  some ((-1), w)
                                else
                                  (if a0 = (nI 116) then
                                    some ((nI 2), w)
                                  else
                                    (if a0 = (nI 117) then
                                      some ((-1), w)
                                    else
                                      (if a0 = (nI 118) then
                                        some ((nI 9), w)
                                      else
                                        (if a0 = (nI 119) then
                                          some ((-1), w)
                                        else
                                          (if a0 = (nI 120) then
                                            some ((-1), w)
                                          else
                                            (if a0 = (nI 121) then
                                              some ((nI 6), w)
                                            else
                                              some ((-1), w))))))))))))))))))))))))
def rmX10_factOf : Room := { frames := 0, cells := 0, slots := 0, locals := 0 }
def xX10_notes (a1 : Int32) (a2 : Int32) (w : gT) : Option (gT) :=
gG (w.1 0 30) 220 <|
gLet (gU w 18 (w.1 0 30).toNatClampNeg (((nI 1048576) * a1) + a2)) fun (w1 : gT) =>
gLet (gU w1 0 30 ((w1.1 0 30) + (nI 1))) fun (w2 : gT) =>
some w2
def rmX10_notes : Room := { frames := 0, cells := 0, slots := 0, locals := 0 }
def xX10_readsNumber_b10 (N : Nat) (k3 : gT → Option (Int32 × gT)) (v1 : Int32) (go7 : gT → Option (Int32 × gT)) (w8 : gT) : Option (Int32 × gT) :=
gBi (xX10_isDigit w8) fun (v9 : Int32) (w10 : gT) =>
(if v9 = (nI 0) then
  some ((nI 1), w10)
else
  (if (w10.1 0 15) = (v1 + (nI 5)) then
    k3 w10
  else
    gBi (xX10_here w10) fun (v11 : Int32) (w12 : gT) =>
    gLet (gU w12 0 18 ((((nI 10) * (w10.1 0 18)) + v11) - (nI 48))) fun (w13 : gT) =>
    gLet (gU w13 0 15 ((w13.1 0 15) + (nI 1))) fun (w14 : gT) =>
    go7 w14))
def xX10_readsNumber (N : Nat) (w : gT) : Option (Int32 × gT) :=
gLet (w.1 0 15) fun (v1 : Int32) =>
gLet (gU w 0 18 (nI 0)) fun (w2 : gT) =>
gLet (fun (w4 : gT) =>
gBi (xX10_wrongAt (nI 2) (w4.1 0 15) w4) fun (v5 : Int32) (w6 : gT) =>
if v5 = nI 0 ∨ v5 = nI 1 then some (v5, w6) else none) fun k3 =>
gW0 (xX10_readsNumber_b10 N k3 v1) N w2
def rmX10_readsNumber : Room := { frames := 2, cells := 0, slots := 0, locals := 40 }
def xX10_readsFactor_b0 (N : Nat) (k1 : gT → Option (Int32 × gT)) (go16 : gT → Option (Int32 × gT)) (w17 : gT) : Option (Int32 × gT) :=
gBi (xX10_here w17) fun (v18 : Int32) (w19 : gT) =>
(if v18 = (nI 91) then
  gBi (xX10_opens (nI 14) w19) fun (v20 : Int32) (w21 : gT) =>
  (if v20 = (nI 0) then
    some ((nI 0), w21)
  else
    go16 w21)
else
  k1 w19)
def xX10_readsFactor (N : Nat) (w : gT) : Option (Int32 × gT) :=
gLet (fun (w2 : gT) =>
gBi (xX10_isDigit w2) fun (v3 : Int32) (w4 : gT) =>
(if v3 = (nI 0) then
  gBi (xX10_here w4) fun (v5 : Int32) (w6 : gT) =>
  gBi (xX10_factOf v5 w6) fun (v7 : Int32) (w8 : gT) =>
  (if v7 = (-1) then
    gBi (xX10_wrongAt (nI 1) (w8.1 0 15) w8) fun (v11 : Int32) (w12 : gT) =>
    if v11 = nI 0 ∨ v11 = nI 1 then some (v11, w12) else none
  else
    gBv (xX10_notes (nI 1) v7 w8) fun (w9 : gT) =>
    gLet (gU w9 0 15 ((w9.1 0 15) + (nI 1))) fun (w10 : gT) =>
    some ((nI 1), w10))
else
  gBi (xX10_readsNumber N w4) fun (v13 : Int32) (w14 : gT) =>
  (if v13 = (nI 0) then
    some ((nI 0), w14)
  else
    gBv (xX10_notes (nI 0) (w14.1 0 18) w14) fun (w15 : gT) =>
    some ((nI 1), w15)))) fun k1 =>
gW0 (xX10_readsFactor_b0 N k1) N w
def rmX10_readsFactor : Room := { frames := 3, cells := 0, slots := 0, locals := 61 }
def xX10_hasOpenSum_b2 (go1 : Int32 → gT → Option (Int32 × gT)) (v2 : Int32) (w3 : gT) : Option (Int32 × gT) :=
(if (w3.1 0 31) ≤ v2 then
  some ((nI 0), w3)
else
  gG v2 220 <|
  (if ((w3.1 19 v2.toNatClampNeg) / (nI 1048576)) = (nI 14) then
    some ((nI 1), w3)
  else
    go1 (v2 + (nI 1)) w3))
def xX10_hasOpenSum (N : Nat) (a1 : Int32) (w : gT) : Option (Int32 × gT) :=
gW1 (xX10_hasOpenSum_b2) N a1 w
def rmX10_hasOpenSum : Room := { frames := 0, cells := 0, slots := 0, locals := 0 }
def xX10_waitTop (w : gT) : Option (Int32 × gT) :=
(if (w.1 0 31) = (nI 0) then
  some ((-1), w)
else
  gG ((w.1 0 31) - (nI 1)) 220 <|
  some (((w.1 19 ((w.1 0 31) - (nI 1)).toNatClampNeg) / (nI 1048576)), w))
def rmX10_waitTop : Room := { frames := 0, cells := 0, slots := 0, locals := 0 }
def xX10_closesSums_b0 (N : Nat) (a1 : Int32) (go1 : gT → Option (gT)) (w2 : gT) : Option (gT) :=
gLet (fun (w4 : gT) =>
gBi (xX10_waitTop w4) fun (v5 : Int32) (w6 : gT) =>
gBv (xX10_notes v5 (nI 0) w6) fun (w7 : gT) =>
gLet (gU w7 0 31 ((w7.1 0 31) - (nI 1))) fun (w8 : gT) =>
go1 w8) fun k3 =>
gLet (fun (w10 : gT) =>
(if a1 = (nI 0) then
  some w10
else
  gBi (xX10_waitTop w10) fun (v11 : Int32) (w12 : gT) =>
  (if v11 = (nI 2) then
    k3 w12
  else
    gBi (xX10_waitTop w12) fun (v13 : Int32) (w14 : gT) =>
    (if v13 = (nI 3) then
      k3 w14
    else
      some w14)))) fun k9 =>
gBi (xX10_waitTop w2) fun (v15 : Int32) (w16 : gT) =>
(if v15 < (nI 4) then
  k9 w16
else
  gBi (xX10_waitTop w16) fun (v17 : Int32) (w18 : gT) =>
  (if v17 ≤ (nI 6) then
    k3 w18
  else
    k9 w18))
def xX10_closesSums (N : Nat) (a1 : Int32) (w : gT) : Option (gT) :=
gW0 (xX10_closesSums_b0 N a1) N w
def rmX10_closesSums : Room := { frames := 1, cells := 0, slots := 0, locals := 22 }
def xX10_sumSign (a0 : Int32) (w : gT) : Option (Int32 × gT) :=
(if a0 = (nI 43) then
  some ((nI 2), w)
else
  (if a0 = (nI 45) then
    some ((nI 3), w)
  else
    (if a0 = (nI 42) then
      some ((nI 4), w)
    else
      (if a0 = (nI 47) then
        some ((nI 5), w)
      else
        (if a0 = (nI 37) then
          some ((nI 6), w)
        else
          some ((-1), w))))))
def rmX10_sumSign : Room := { frames := 0, cells := 0, slots := 0, locals := 0 }
def xX10_readsSum_b14 (N : Nat) (k4 : gT → Option (Int32 × gT)) (v1 : Int32) (go11 : gT → Option (Int32 × gT)) (w12 : gT) : Option (Int32 × gT) :=
gLet (fun (w14 : gT) =>
go11 w14) fun k13 =>
gBi (xX10_here w12) fun (v15 : Int32) (w16 : gT) =>
gBi (xX10_sumSign v15 w16) fun (v17 : Int32) (w18 : gT) =>
(if v17 = (-1) then
  gBi (xX10_here w18) fun (v19 : Int32) (w20 : gT) =>
  (if v19 = (nI 93) then
    gBi (xX10_hasOpenSum N v1 w20) fun (v21 : Int32) (w22 : gT) =>
    (if v21 = (nI 0) then
      k4 w22
    else
      gBv (xX10_closesSums N (nI 1) w22) fun (w23 : gT) =>
      gLet (gU w23 0 31 ((w23.1 0 31) - (nI 1))) fun (w24 : gT) =>
      gLet (gU w24 0 29 ((w24.1 0 29) - (nI 1))) fun (w25 : gT) =>
      gLet (gU w25 0 15 ((w25.1 0 15) + (nI 1))) fun (w26 : gT) =>
      k13 w26)
  else
    k4 w20)
else
  gLet (fun (v28 : Int32) (w29 : gT) =>
  gBv (xX10_closesSums N v28 w29) fun (w30 : gT) =>
  gG (w30.1 0 31) 220 <|
  gLet (gU w30 19 (w30.1 0 31).toNatClampNeg ((nI 1048576) * v17)) fun (w31 : gT) =>
  gLet (gU w31 0 31 ((w31.1 0 31) + (nI 1))) fun (w32 : gT) =>
  gLet (gU w32 0 15 ((w32.1 0 15) + (nI 1))) fun (w33 : gT) =>
  gBi (xX10_readsFactor N w33) fun (v34 : Int32) (w35 : gT) =>
  (if v34 = (nI 0) then
    some ((nI 0), w35)
  else
    k13 w35)) fun k27 =>
  (if (nI 4) ≤ v17 then
    k27 (nI 0) w18
  else
    k27 (nI 1) w18))
def xX10_readsSum (N : Nat) (w : gT) : Option (Int32 × gT) :=
gLet (w.1 0 31) fun (v1 : Int32) =>
gBi (xX10_readsFactor N w) fun (v2 : Int32) (w3 : gT) =>
(if v2 = (nI 0) then
  some ((nI 0), w3)
else
  gLet (fun (w5 : gT) =>
  gBi (xX10_hasOpenSum N v1 w5) fun (v6 : Int32) (w7 : gT) =>
  (if v6 = (nI 0) then
    gBv (xX10_closesSums N (nI 1) w7) fun (w8 : gT) =>
    some ((nI 1), w8)
  else
    gBi (xX10_wrongAt (nI 1) (w7.1 0 15) w7) fun (v9 : Int32) (w10 : gT) =>
    if v9 = nI 0 ∨ v9 = nI 1 then some (v9, w10) else none)) fun k4 =>
  gW0 (xX10_readsSum_b14 N k4 v1) N w3)
def rmX10_readsSum : Room := { frames := 4, cells := 0, slots := 0, locals := 82 }
def xX10_endsPiece_b0 (N : Nat) (go1 : gT → Option (gT)) (w2 : gT) : Option (gT) :=
gBi (xX10_waitTop w2) fun (v3 : Int32) (w4 : gT) =>
(if v3 = (nI 10) then
  gBv (xX10_notes (nI 10) (nI 0) w4) fun (w5 : gT) =>
  gLet (gU w5 0 31 ((w5.1 0 31) - (nI 1))) fun (w6 : gT) =>
  gLet (gU w6 0 29 ((w6.1 0 29) - (nI 1))) fun (w7 : gT) =>
  go1 w7
else
  some w4)
def xX10_endsPiece (N : Nat) (w : gT) : Option (gT) :=
gW0 (xX10_endsPiece_b0 N) N w
def rmX10_endsPiece : Room := { frames := 1, cells := 0, slots := 0, locals := 22 }
def xX10_readsCompared (N : Nat) (w : gT) : Option (Int32 × gT) :=
gBi (xX10_readsSum N w) fun (v1 : Int32) (w2 : gT) =>
(if v1 = (nI 0) then
  some ((nI 0), w2)
else
  gLet (fun (v4 : Int32) (w5 : gT) =>
  (if v4 = (-1) then
    gBi (xX10_wrongAt (nI 1) (w5.1 0 15) w5) fun (v11 : Int32) (w12 : gT) =>
    if v11 = nI 0 ∨ v11 = nI 1 then some (v11, w12) else none
  else
    gLet (gU w5 0 15 ((w5.1 0 15) + (nI 1))) fun (w6 : gT) =>
    gBi (xX10_readsSum N w6) fun (v7 : Int32) (w8 : gT) =>
    (if v7 = (nI 0) then
      some ((nI 0), w8)
    else
      gBv (xX10_notes v4 (nI 0) w8) fun (w9 : gT) =>
      gBv (xX10_endsPiece N w9) fun (w10 : gT) =>
      some ((nI 1), w10)))) fun k3 =>
  gBi (xX10_here w2) fun (v13 : Int32) (w14 : gT) =>
  (if v13 = (nI 60) then
    k3 (nI 7) w14
  else
    gBi (xX10_here w14) fun (v15 : Int32) (w16 : gT) =>
    (if v15 = (nI 62) then
      k3 (nI 8) w16
    else
      gBi (xX10_here w16) fun (v17 : Int32) (w18 : gT) =>
      (if v17 = (nI 61) then
        k3 (nI 9) w18
      else
        k3 ((-1) : Int32) w18))))
def rmX10_readsCompared : Room := { frames := 5, cells := 0, slots := 0, locals := 104 }
def xX10_jumps (a1 : Int32) (w : gT) : Option (gT) :=
gG (w.1 0 31) 220 <|
gLet (gU w 19 (w.1 0 31).toNatClampNeg (((nI 1048576) * a1) + (w.1 0 30))) fun (w1 : gT) =>
gLet (gU w1 0 31 ((w1.1 0 31) + (nI 1))) fun (w2 : gT) =>
gBv (xX10_notes a1 (nI 0) w2) fun (w3 : gT) =>
gLet (gU w3 0 15 ((w3.1 0 15) + (nI 1))) fun (w4 : gT) =>
some w4
def rmX10_jumps : Room := { frames := 1, cells := 0, slots := 0, locals := 22 }
def xX10_lands_b0 (N : Nat) (a1 : Int32) (go1 : gT → Option (gT)) (w2 : gT) : Option (gT) :=
gLet (fun (w4 : gT) =>
gG ((w4.1 0 31) - (nI 1)) 220 <|
gLet (gRem (w4.1 19 ((w4.1 0 31) - (nI 1)).toNatClampNeg) (nI 1048576)) fun (v5 : Int32) =>
gG v5 220 <|
gG v5 220 <|
gLet (gU w4 18 v5.toNatClampNeg (((nI 1048576) * ((w4.1 18 v5.toNatClampNeg) / (nI 1048576))) + (w4.1 0 30))) fun (w6 : gT) =>
gLet (gU w6 0 31 ((w6.1 0 31) - (nI 1))) fun (w7 : gT) =>
go1 w7) fun k3 =>
gBi (xX10_waitTop w2) fun (v8 : Int32) (w9 : gT) =>
(if v8 = (nI 11) then
  k3 w9
else
  (if a1 = (nI 0) then
    some w9
  else
    gBi (xX10_waitTop w9) fun (v10 : Int32) (w11 : gT) =>
    (if v10 = (nI 12) then
      k3 w11
    else
      some w11)))
def xX10_lands (N : Nat) (a1 : Int32) (w : gT) : Option (gT) :=
gW0 (xX10_lands_b0 N a1) N w
def rmX10_lands : Room := { frames := 1, cells := 0, slots := 0, locals := 20 }
def xX10_readsCondition_b92 (N : Nat) (k28 : gT → Option (Int32 × gT)) (go48 : gT → Option (Int32 × gT)) (w49 : gT) : Option (Int32 × gT) :=
gBi (xX10_here w49) fun (v50 : Int32) (w51 : gT) =>
(if v50 = (nI 41) then
  gBv (xX10_lands N (nI 1) w51) fun (w52 : gT) =>
  gLet (gU w52 0 31 ((w52.1 0 31) - (nI 1))) fun (w53 : gT) =>
  gLet (gU w53 0 29 ((w53.1 0 29) - (nI 1))) fun (w54 : gT) =>
  gLet (gU w54 0 15 ((w54.1 0 15) + (nI 1))) fun (w55 : gT) =>
  (if (w55.1 0 31) = (nI 0) then
    some ((nI 1), w55)
  else
    gBv (xX10_endsPiece N w55) fun (w56 : gT) =>
    go48 w56)
else
  k28 w51)
def xX10_readsCondition_b40 (N : Nat) (k7 : gT → Option (Int32 × gT)) (go11 : gT → Option (Int32 × gT)) (w12 : gT) : Option (Int32 × gT) :=
gLet (fun (w14 : gT) =>
gLet (fun (v16 : Int32) (w17 : gT) =>
gBi (xX10_opens v16 w17) fun (v18 : Int32) (w19 : gT) =>
(if v18 = (nI 0) then
  some ((nI 0), w19)
else
  go11 w19)) fun k15 =>
gBi (xX10_here w14) fun (v20 : Int32) (w21 : gT) =>
(if v20 = (nI 33) then
  k15 (nI 10) w21
else
  k15 (nI 13) w21)) fun k13 =>
gBi (xX10_here w12) fun (v22 : Int32) (w23 : gT) =>
(if v22 = (nI 33) then
  k13 w23
else
  gBi (xX10_here w23) fun (v24 : Int32) (w25 : gT) =>
  (if v24 = (nI 40) then
    k13 w25
  else
    gBi (xX10_readsCompared N w25) fun (v26 : Int32) (w27 : gT) =>
    (if v26 = (nI 0) then
      some ((nI 0), w27)
    else
      gLet (fun (w29 : gT) =>
      gLet (fun (w31 : gT) =>
      gLet (fun (v33 : Int32) (w34 : gT) =>
      gLet (fun (v36 : Int32) (w37 : gT) =>
      gBv (xX10_jumps v36 w37) fun (w38 : gT) =>
      go11 w38) fun k35 =>
      gBv (xX10_lands N v33 w34) fun (w39 : gT) =>
      gBi (xX10_here w39) fun (v40 : Int32) (w41 : gT) =>
      (if v40 = (nI 38) then
        k35 (nI 11) w41
      else
        k35 (nI 12) w41)) fun k32 =>
      gBi (xX10_here w31) fun (v42 : Int32) (w43 : gT) =>
      (if v42 = (nI 124) then
        k32 (nI 1) w43
      else
        k32 (nI 0) w43)) fun k30 =>
      gBi (xX10_here w29) fun (v44 : Int32) (w45 : gT) =>
      (if v44 = (nI 38) then
        k30 w45
      else
        gBi (xX10_here w45) fun (v46 : Int32) (w47 : gT) =>
        (if v46 = (nI 124) then
          k30 w47
        else
          k7 w47))) fun k28 =>
      gW0 (xX10_readsCondition_b92 N k28) N w27)))
def xX10_readsCondition (N : Nat) (w : gT) : Option (Int32 × gT) :=
gBi (xX10_here w) fun (v1 : Int32) (w2 : gT) =>
(if v1 = (nI 40) then
  gLet (gU w2 0 29 (nI 0)) fun (w3 : gT) =>
  gLet (gU w3 0 31 (nI 0)) fun (w4 : gT) =>
  gBi (xX10_opens (nI 13) w4) fun (v5 : Int32) (w6 : gT) =>
  (if v5 = (nI 0) then
    some ((nI 0), w6)
  else
    gLet (fun (w8 : gT) =>
    gBi (xX10_wrongAt (nI 1) (w8.1 0 15) w8) fun (v9 : Int32) (w10 : gT) =>
    if v9 = nI 0 ∨ v9 = nI 1 then some (v9, w10) else none) fun k7 =>
    gW0 (xX10_readsCondition_b40 N k7) N w6)
else
  gBi (xX10_wrongAt (nI 1) (w2.1 0 15) w2) fun (v57 : Int32) (w58 : gT) =>
  if v57 = nI 0 ∨ v57 = nI 1 then some (v57, w58) else none)
def rmX10_readsCondition : Room := { frames := 6, cells := 0, slots := 0, locals := 125 }
def xX10_readsClause (N : Nat) (w : gT) : Option (Int32 × gT) :=
gBi (xX10_here w) fun (v1 : Int32) (w2 : gT) =>
gBi (xX10_isClause v1 w2) fun (v3 : Int32) (w4 : gT) =>
(if v3 = (nI 0) then
  gBi (xX10_wrongAt (nI 1) (w4.1 0 15) w4) fun (v21 : Int32) (w22 : gT) =>
  if v21 = nI 0 ∨ v21 = nI 1 then some (v21, w22) else none
else
  (if (w4.1 0 32) = (nI 14) then
    gBi (xX10_wrongAt (nI 4) (w4.1 0 15) w4) fun (v19 : Int32) (w20 : gT) =>
    if v19 = nI 0 ∨ v19 = nI 1 then some (v19, w20) else none
  else
    gLet (fun (w6 : gT) =>
    gG (w6.1 0 32) 14 <|
    gLet (gU w6 22 (w6.1 0 32).toNatClampNeg (w6.1 0 30)) fun (w7 : gT) =>
    gBi (xX10_readsCondition N w7) fun (v8 : Int32) (w9 : gT) =>
    (if v8 = (nI 0) then
      some ((nI 0), w9)
    else
      gG (w9.1 0 32) 14 <|
      gLet (gU w9 23 (w9.1 0 32).toNatClampNeg (w9.1 0 30)) fun (w10 : gT) =>
      gLet (gU w10 0 32 ((w10.1 0 32) + (nI 1))) fun (w11 : gT) =>
      some ((nI 1), w11))) fun k5 =>
    gG (w4.1 0 32) 14 <|
    gLet (gU w4 20 (w4.1 0 32).toNatClampNeg v1) fun (w12 : gT) =>
    gLet (gU w12 0 15 ((w12.1 0 15) + (nI 1))) fun (w13 : gT) =>
    gG (w13.1 0 32) 14 <|
    gLet (gU w13 21 (w13.1 0 32).toNatClampNeg (w13.1 0 30)) fun (w14 : gT) =>
    gLet (gU w14 0 29 (nI 0)) fun (w15 : gT) =>
    gLet (gU w15 0 31 (nI 0)) fun (w16 : gT) =>
    (if v1 = (nI 107) then
      k5 w16
    else
      gBi (xX10_readsSum N w16) fun (v17 : Int32) (w18 : gT) =>
      (if v17 = (nI 0) then
        some ((nI 0), w18)
      else
        k5 w18))))
def rmX10_readsClause : Room := { frames := 7, cells := 0, slots := 0, locals := 145 }
def xX10_law_b138 (go16 : Int32 → gT → Option (Int32 × gT)) (v17 : Int32) (w18 : gT) : Option (Int32 × gT) :=
(if (w18.1 0 32) ≤ v17 then
  some ((w18.1 0 32), w18)
else
  gG v17 14 <|
  gG v17 14 <|
  gLet (gU w18 25 v17.toNatClampNeg (w18.1 20 v17.toNatClampNeg)) fun (w19 : gT) =>
  gG v17 14 <|
  gG v17 14 <|
  gLet (gU w19 26 v17.toNatClampNeg (w19.1 21 v17.toNatClampNeg)) fun (w20 : gT) =>
  gG v17 14 <|
  gG v17 14 <|
  gLet (gU w20 27 v17.toNatClampNeg (w20.1 22 v17.toNatClampNeg)) fun (w21 : gT) =>
  gG v17 14 <|
  gG v17 14 <|
  gLet (gU w21 28 v17.toNatClampNeg (w21.1 23 v17.toNatClampNeg)) fun (w22 : gT) =>
  go16 (v17 + (nI 1)) w22)
def xX10_law_b110 (k14 : gT → Option (Int32 × gT)) (go23 : Int32 → gT → Option (Int32 × gT)) (v24 : Int32) (w25 : gT) : Option (Int32 × gT) :=
(if (w25.1 0 30) ≤ v24 then
  k14 w25
else
  gG v24 220 <|
  gG v24 220 <|
  gLet (gU w25 24 v24.toNatClampNeg (w25.1 18 v24.toNatClampNeg)) fun (w26 : gT) =>
  go23 (v24 + (nI 1)) w26)
def xX10_law_b46 (N : Nat) (k9 : Int32 → gT → Option (Int32 × gT)) (go27 : Int32 → gT → Option (Int32 × gT)) (v28 : Int32) (w29 : gT) : Option (Int32 × gT) :=
(if v28 = (nI 0) then
  k9 v28 w29
else
  (if (w29.1 0 16) ≤ (w29.1 0 15) then
    k9 v28 w29
  else
    gLet (fun (v31 : Int32) (w32 : gT) =>
    go27 v31 w32) fun k30 =>
    gLet (fun (w34 : gT) =>
    k30 (nI 0) w34) fun k33 =>
    gBi (xX10_takes (nI 59) w29) fun (v35 : Int32) (w36 : gT) =>
    (if v35 = (nI 0) then
      k33 w36
    else
      gBi (xX10_readsClause N w36) fun (v37 : Int32) (w38 : gT) =>
      (if v37 = (nI 0) then
        k33 w38
      else
        k30 (nI 1) w38))))
def xX10_law (N : Nat) (a1 : Int32) (w : gT) : Option (Int32 × gT) :=
gBi (xX10_in a1 (nI 1) (nI 200) w) fun (v1 : Int32) (w2 : gT) =>
(if v1 = (nI 0) then
  some ((-1), w2)
else
  (if a1 ≤ (w2.1 0 14) then
    gLet (gU w2 0 15 (nI 0)) fun (w3 : gT) =>
    gLet (gU w3 0 16 a1) fun (w4 : gT) =>
    gLet (gU w4 0 30 (nI 0)) fun (w5 : gT) =>
    gLet (gU w5 0 32 (nI 0)) fun (w6 : gT) =>
    gBi (xX10_readsClause N w6) fun (v7 : Int32) (w8 : gT) =>
    gLet (fun (v10 : Int32) (w11 : gT) =>
    gLet (gU w11 0 14 (nI 0)) fun (w12 : gT) =>
    (if v10 = (nI 0) then
      some ((w12.1 0 17), w12)
    else
      gLet (gU w12 0 33 (w12.1 0 32)) fun (w13 : gT) =>
      gLet (fun (w15 : gT) =>
      gW1 (xX10_law_b138) N (nI 0) w15) fun k14 =>
      gW1 (xX10_law_b110 k14) N (nI 0) w13)) fun k9 =>
    gW1 (xX10_law_b46 N k9) N v7 w8
  else
    some ((-1), w2)))
def rmX10_law : Room := { frames := 8, cells := 0, slots := 0, locals := 166 }
def xX10_feels_b3 (k1 : gT → Option (gT)) (go15 : Int32 → gT → Option (gT)) (v16 : Int32) (w17 : gT) : Option (gT) :=
(if (nI 12) ≤ v16 then
  k1 w17
else
  gG v16 12 <|
  gLet (gU w17 30 v16.toNatClampNeg (nI 0)) fun (w18 : gT) =>
  go15 (v16 + (nI 1)) w18)
def xX10_feels (N : Nat) (a1 : Int32) (a2 : Int32) (a3 : Int32) (a4 : Int32) (w : gT) : Option (gT) :=
gLet (fun (w2 : gT) =>
gLet (fun (v4 : Int32) (v5 : Int32) (w6 : gT) =>
gG v4 12 <|
gLet (gU w6 30 v4.toNatClampNeg v5) fun (w7 : gT) =>
some w7) fun k3 =>
gLet (gU w2 30 0 a3) fun (w8 : gT) =>
gLet (gU w8 30 1 a2) fun (w9 : gT) =>
gG a3 12 <|
gLet (gU w9 30 2 (w9.1 1 a3.toNatClampNeg)) fun (w10 : gT) =>
gLet (gU w10 30 3 a1) fun (w11 : gT) =>
gG a1 10 <|
gLet (gU w11 30 4 (w11.1 5 a1.toNatClampNeg)) fun (w12 : gT) =>
gG a1 10 <|
gLet (gU w12 30 5 (w12.1 6 a1.toNatClampNeg)) fun (w13 : gT) =>
gG a1 10 <|
gLet (gU w13 30 6 (w13.1 7 a1.toNatClampNeg)) fun (w14 : gT) =>
(if a4 = (nI 0) then
  k3 (nI 7) (nI 0) w14
else
  k3 (nI 7) (nI 1) w14)) fun k1 =>
gW1 (xX10_feels_b3 k1) N (nI 0) w
def rmX10_feels : Room := { frames := 0, cells := 0, slots := 0, locals := 0 }
def xX10_reckon (a0 : Int32) (a1 : Int32) (a2 : Int32) (w : gT) : Option (Int32 × gT) :=
(if a0 = (nI 2) then
  some ((a1 + a2), w)
else
  (if a0 = (nI 3) then
    some ((a1 - a2), w)
  else
    (if a0 = (nI 4) then
      some ((a1 * a2), w)
    else
      (if a0 = (nI 5) then
        gZ a2 <|
        some ((a1 / a2), w)
      else
        (if a0 = (nI 6) then
          gZ a2 <|
          some ((gRem a1 a2), w)
        else
          (if a0 = (nI 7) then
            (if a2 ≤ a1 then
              some ((nI 0), w)
            else
              some ((nI 1), w))
          else
            (if a0 = (nI 8) then
              (if a1 ≤ a2 then
                some ((nI 0), w)
              else
                some ((nI 1), w))
            else
              (if a1 = a2 then
                some ((nI 1), w)
              else
                some ((nI 0), w)))))))))
def rmX10_reckon : Room := { frames := 0, cells := 0, slots := 0, locals := 0 }
def xX10_comesTo_b16 (N : Nat) (a2 : Int32) (v1 : Int32) (go2 : Int32 → Int32 → gT → Option (Int32 × gT)) (v3 : Int32) (v4 : Int32) (w5 : gT) : Option (Int32 × gT) :=
(if a2 ≤ v4 then
  some ((w5.1 29 0), w5)
else
  gLet (fun (v7 : Int32) (v8 : Int32) (w9 : gT) =>
  go2 v7 v8 w9) fun k6 =>
  gLet (fun (v11 : Int32) (v12 : Int32) (v13 : Int32) (w14 : gT) =>
  gLet (fun (v16 : Int32) (v17 : Int32) (w18 : gT) =>
  gG v16 220 <|
  gLet (gU w18 29 v16.toNatClampNeg v17) fun (w19 : gT) =>
  gLet (v3 + (nI 1)) fun (v20 : Int32) =>
  k6 v20 v11 w19) fun k15 =>
  (if v12 = (nI 0) then
    k15 v3 v13 w14
  else
    gG v13 12 <|
    k15 v3 (w14.1 30 v13.toNatClampNeg) w14)) fun k10 =>
  gG v4 220 <|
  gLet ((w5.1 24 v4.toNatClampNeg) / (nI 1048576)) fun (v21 : Int32) =>
  gG v4 220 <|
  gLet (gRem (w5.1 24 v4.toNatClampNeg) (nI 1048576)) fun (v22 : Int32) =>
  gLet (v4 + (nI 1)) fun (v23 : Int32) =>
  (if v21 = (nI 0) then
    k10 v23 v21 v22 w5
  else
    (if v21 = (nI 1) then
      k10 v23 v21 v22 w5
    else
      (if v21 = (nI 10) then
        gG (v3 - (nI 1)) 220 <|
        gG (v3 - (nI 1)) 220 <|
        gLet (gU w5 29 (v3 - (nI 1)).toNatClampNeg ((nI 1) - (w5.1 29 (v3 - (nI 1)).toNatClampNeg))) fun (w42 : gT) =>
        k6 v3 v23 w42
      else
        gLet (fun (w25 : gT) =>
        gLet (fun (v27 : Int32) (v28 : Int32) (w29 : gT) =>
        (if v27 = v28 then
          gLet (v1 + v22) fun (v31 : Int32) =>
          k6 v3 v31 w29
        else
          gLet (v3 - (nI 1)) fun (v30 : Int32) =>
          k6 v30 v23 w29)) fun k26 =>
        gG (v3 - (nI 1)) 220 <|
        (if v21 = (nI 12) then
          k26 (w25.1 29 (v3 - (nI 1)).toNatClampNeg) (nI 1) w25
        else
          k26 (w25.1 29 (v3 - (nI 1)).toNatClampNeg) (nI 0) w25)) fun k24 =>
        (if v21 = (nI 11) then
          k24 w5
        else
          (if v21 = (nI 12) then
            k24 w5
          else
            gLet (fun (v33 : Int32) (w34 : gT) =>
            gG (v33 - (nI 1)) 220 <|
            gG v33 220 <|
            gBi (xX10_reckon v21 (w34.1 29 (v33 - (nI 1)).toNatClampNeg) (w34.1 29 v33.toNatClampNeg) w34) fun (v35 : Int32) (w36 : gT) =>
            gG (v33 - (nI 1)) 220 <|
            gLet (gU w36 29 (v33 - (nI 1)).toNatClampNeg v35) fun (w37 : gT) =>
            k6 v33 v23 w37) fun k32 =>
            gLet (fun (v39 : Int32) (w40 : gT) =>
            gG v39 220 <|
            (if (w40.1 29 v39.toNatClampNeg) = (nI 0) then
              some ((nI 0), w40)
            else
              k32 v39 w40)) fun k38 =>
            gLet (v3 - (nI 1)) fun (v41 : Int32) =>
            (if v21 = (nI 5) then
              k38 v41 w5
            else
              (if v21 = (nI 6) then
                k38 v41 w5
              else
                k32 v41 w5))))))))
def xX10_comesTo (N : Nat) (a1 : Int32) (a2 : Int32) (w : gT) : Option (Int32 × gT) :=
gLet ((nI 220) * (a1 / (nI 220))) fun (v1 : Int32) =>
gW2 (xX10_comesTo_b16 N a2 v1) N (nI 0) a1 w
def rmX10_comesTo : Room := { frames := 1, cells := 0, slots := 0, locals := 22 }
def xX10_anyFright_b2 (N : Nat) (go1 : Int32 → gT → Option (Int32 × gT)) (v2 : Int32) (w3 : gT) : Option (Int32 × gT) :=
(if (w3.1 0 33) ≤ v2 then
  some ((nI 0), w3)
else
  gLet (fun (w5 : gT) =>
  go1 (v2 + (nI 1)) w5) fun k4 =>
  gG v2 14 <|
  (if (w3.1 25 v2.toNatClampNeg) = (nI 107) then
    gG v2 14 <|
    gG v2 14 <|
    gBi (xX10_comesTo N (w3.1 27 v2.toNatClampNeg) (w3.1 28 v2.toNatClampNeg) w3) fun (v6 : Int32) (w7 : gT) =>
    (if v6 = (nI 1) then
      some ((nI 1), w7)
    else
      k4 w7)
  else
    k4 w3))
def xX10_anyFright (N : Nat) (w : gT) : Option (Int32 × gT) :=
gW1 (xX10_anyFright_b2 N) N (nI 0) w
def rmX10_anyFright : Room := { frames := 2, cells := 0, slots := 0, locals := 49 }
def xX10_byLaw_b2 (N : Nat) (a1 : Int32) (k1 : Int32 → gT → Option (Int32 × gT)) (go6 : Int32 → gT → Option (Int32 × gT)) (v7 : Int32) (w8 : gT) : Option (Int32 × gT) :=
(if (w8.1 0 33) ≤ v7 then
  some ((nI 0), w8)
else
  gLet (fun (w10 : gT) =>
  go6 (v7 + (nI 1)) w10) fun k9 =>
  gG v7 14 <|
  (if (w8.1 25 v7.toNatClampNeg) = a1 then
    gG v7 14 <|
    gG v7 14 <|
    gBi (xX10_comesTo N (w8.1 27 v7.toNatClampNeg) (w8.1 28 v7.toNatClampNeg) w8) fun (v11 : Int32) (w12 : gT) =>
    (if v11 = (nI 1) then
      k1 v7 w12
    else
      k9 w12)
  else
    k9 w8))
def xX10_byLaw (N : Nat) (a1 : Int32) (a2 : Int32) (w : gT) : Option (Int32 × gT) :=
gLet (fun (v2 : Int32) (w3 : gT) =>
gG v2 14 <|
gG v2 14 <|
gBi (xX10_comesTo N (w3.1 26 v2.toNatClampNeg) (w3.1 27 v2.toNatClampNeg) w3) fun (v4 : Int32) (w5 : gT) =>
(if (nI 0) ≤ v4 then
  (if v4 ≤ a2 then
    some (v4, w5)
  else
    some (a2, w5))
else
  some ((nI 0), w5))) fun k1 =>
gW1 (xX10_byLaw_b2 N a1 k1) N (nI 0) w
def rmX10_byLaw : Room := { frames := 2, cells := 0, slots := 0, locals := 49 }
def xX10_sleepIn_b5 (N : Nat) (a1 : Int32) (a2 : Int32) (go1 : Int32 → Int32 → gT → Option (Int32 × gT)) (v2 : Int32) (v3 : Int32) (w4 : gT) : Option (Int32 × gT) :=
(if (nI 10) ≤ v3 then
  some (v2, w4)
else
  gLet (fun (v6 : Int32) (v7 : Int32) (w8 : gT) =>
  gLet (v6 + v7) fun (v9 : Int32) =>
  go1 v9 (v3 + (nI 1)) w8) fun k5 =>
  gLet (fun (v11 : Int32) (w12 : gT) =>
  k5 v11 (nI 0) w12) fun k10 =>
  gBi (xX10_isSleeper v3 w4) fun (v13 : Int32) (w14 : gT) =>
  (if v13 = (nI 0) then
    k10 v2 w14
  else
    gG (((nI 10) * a1) + v3) 70 <|
    (if (w14.1 3 (((nI 10) * a1) + v3).toNatClampNeg) = a2 then
      k5 v2 (nI 1) w14
    else
      k10 v2 w14)))
def xX10_sleepIn (N : Nat) (a1 : Int32) (a2 : Int32) (w : gT) : Option (Int32 × gT) :=
gW2 (xX10_sleepIn_b5 N a1 a2) N (nI 0) (nI 0) w
def rmX10_sleepIn : Room := { frames := 2, cells := 0, slots := 0, locals := 42 }
def xX10_isNext (a0 : Int32) (a1 : Int32) (w : gT) : Option (Int32 × gT) :=
(if (a0 - a1) = (nI 1) then
  some ((nI 1), w)
else
  (if (a1 - a0) = (nI 1) then
    some ((nI 1), w)
  else
    some ((nI 0), w)))
def rmX10_isNext : Room := { frames := 0, cells := 0, slots := 0, locals := 0 }
def xX10_frightOf (N : Nat) (a1 : Int32) (a2 : Int32) (a3 : Int32) (a4 : Int32) (a5 : Int32) (w : gT) : Option (Int32 × gT) :=
gG (((nI 10) * a3) + a2) 70 <|
gLet (w.1 3 (((nI 10) * a3) + a2).toNatClampNeg) fun (v1 : Int32) =>
(if v1 = (nI 255) then
  some ((-2), w)
else
  gLet (fun (w3 : gT) =>
  gLet (fun (v5 : Int32) (w6 : gT) =>
  gG a1 10 <|
  (if (w6.1 4 a1.toNatClampNeg) = (nI 3) then
    some ((-2), w6)
  else
    gLet (fun (w8 : gT) =>
    gBv (xX10_feels N a1 a3 v1 a5 w8) fun (w9 : gT) =>
    gLet (gU w9 30 8 a2) fun (w10 : gT) =>
    gG a2 10 <|
    gLet (gU w10 30 9 (w10.1 2 a2.toNatClampNeg)) fun (w11 : gT) =>
    gLet (gU w11 30 10 v5) fun (w12 : gT) =>
    gBi (xX10_anyFright N w12) fun (v13 : Int32) (w14 : gT) =>
    (if v13 = (nI 0) then
      some ((-2), w14)
    else
      gBi (xX10_byLaw N (nI 102) (nI 99) w14) fun (v15 : Int32) (w16 : gT) =>
      some (v15, w16))) fun k7 =>
    gG a1 10 <|
    (if (w6.1 4 a1.toNatClampNeg) = (nI 4) then
      (if a5 = (nI 0) then
        some ((-2), w6)
      else
        k7 w6)
    else
      k7 w6))) fun k4 =>
  gBi (xX10_sleepIn N a3 v1 w3) fun (v17 : Int32) (w18 : gT) =>
  gG a1 10 <|
  (if (w18.1 4 a1.toNatClampNeg) = (nI 1) then
    (if v17 = (nI 1) then
      k4 v17 w18
    else
      some ((-2), w18))
  else
    k4 v17 w18)) fun k2 =>
  (if v1 = a4 then
    k2 w
  else
    gG a1 10 <|
    (if (w.1 4 a1.toNatClampNeg) = (nI 2) then
      gBi (xX10_isNext v1 a4 w) fun (v19 : Int32) (w20 : gT) =>
      (if v19 = (nI 0) then
        some ((-2), w20)
      else
        k2 w20)
    else
      some ((-2), w))))
def rmX10_frightOf : Room := { frames := 3, cells := 0, slots := 0, locals := 73 }
def xX10_fright (N : Nat) (a1 : Int32) (a2 : Int32) (a3 : Int32) (a4 : Int32) (a5 : Int32) (w : gT) : Option (Int32 × gT) :=
gBi (xX10_isGhost a1 w) fun (v1 : Int32) (w2 : gT) =>
(if v1 = (nI 0) then
  some ((-1), w2)
else
  gBi (xX10_isSleeper a2 w2) fun (v3 : Int32) (w4 : gT) =>
  (if v3 = (nI 0) then
    some ((-1), w4)
  else
    gBi (xX10_isNight a3 w4) fun (v5 : Int32) (w6 : gT) =>
    (if v5 = (nI 0) then
      some ((-1), w6)
    else
      gBi (xX10_isRoom a4 w6) fun (v7 : Int32) (w8 : gT) =>
      (if v7 = (nI 0) then
        some ((-1), w8)
      else
        gBi (xX10_in a5 (nI 0) (nI 1) w8) fun (v9 : Int32) (w10 : gT) =>
        (if v9 = (nI 0) then
          some ((-1), w10)
        else
          gLet (fun (v12 : Int32) (v13 : Int32) (v14 : Int32) (v15 : Int32) (v16 : Int32) (w17 : gT) =>
          gBi (xX10_frightOf N v12 v13 v14 v15 v16 w17) fun (v18 : Int32) (w19 : gT) =>
          some (v18, w19)) fun k11 =>
          (if a5 = (nI 1) then
            k11 a1 a2 a3 a4 (nI 1) w10
          else
            k11 a1 a2 a3 a4 (nI 0) w10))))))
def rmX10_fright : Room := { frames := 4, cells := 0, slots := 0, locals := 100 }
def xX10_stands_b2 (N : Nat) (a1 : Int32) (go1 : Int32 → gT → Option (Int32 × gT)) (v2 : Int32) (w3 : gT) : Option (Int32 × gT) :=
(if (w3.1 0 19) ≤ v2 then
  some ((nI 0), w3)
else
  gLet (fun (w5 : gT) =>
  go1 (v2 + (nI 1)) w5) fun k4 =>
  gG v2 16 <|
  gG a1 16 <|
  (if (w3.1 11 v2.toNatClampNeg) = (w3.1 11 a1.toNatClampNeg) then
    gG v2 16 <|
    gG a1 16 <|
    (if (w3.1 12 v2.toNatClampNeg) = (w3.1 12 a1.toNatClampNeg) then
      gG v2 16 <|
      gG a1 16 <|
      (if (w3.1 10 v2.toNatClampNeg) = (w3.1 10 a1.toNatClampNeg) then
        k4 w3
      else
        gBi (xX10_counts N v2 w3) fun (v6 : Int32) (w7 : gT) =>
        (if v6 = (nI 0) then
          k4 w7
        else
          gG v2 16 <|
          gG (w7.1 10 v2.toNatClampNeg) 10 <|
          gG a1 16 <|
          gG (w7.1 10 a1.toNatClampNeg) 10 <|
          gLet ((w7.1 7 (w7.1 10 v2.toNatClampNeg).toNatClampNeg) - (w7.1 7 (w7.1 10 a1.toNatClampNeg).toNatClampNeg)) fun (v8 : Int32) =>
          (if (nI 0) < v8 then
            some ((nI 1), w7)
          else
            (if v8 = (nI 0) then
              gG v2 16 <|
              gG a1 16 <|
              (if (w7.1 10 a1.toNatClampNeg) ≤ (w7.1 10 v2.toNatClampNeg) then
                k4 w7
              else
                some ((nI 1), w7))
            else
              k4 w7))))
    else
      k4 w3)
  else
    k4 w3))
def xX10_stands (N : Nat) (a1 : Int32) (w : gT) : Option (Int32 × gT) :=
gW1 (xX10_stands_b2 N a1) N (nI 0) w
def rmX10_stands : Room := { frames := 3, cells := 0, slots := 0, locals := 64 }
def xX10_draws (w : gT) : Option (Int32 × gT) :=
gLet (gU w 0 0 (gRem (((nI 25173) * (w.1 0 0)) + (nI 13849)) (nI 65536))) fun (w1 : gT) =>
some ((gRem (w1.1 0 0) (nI 10)), w1)
def rmX10_draws : Room := { frames := 0, cells := 0, slots := 0, locals := 0 }
def xX10_frightens_b3 (N : Nat) (a1 : Int32) (a2 : Int32) (a3 : Int32) (a4 : Int32) (go1 : Int32 → gT → Option (gT)) (v2 : Int32) (w3 : gT) : Option (gT) :=
(if (nI 10) ≤ v2 then
  some w3
else
  gLet (fun (v5 : Int32) (w6 : gT) =>
  gLet (fun (w8 : gT) =>
  go1 (v2 + (nI 1)) w8) fun k7 =>
  (if (nI 0) ≤ v5 then
    gLet (gU w6 31 0 ((w6.1 31 0) + v5)) fun (w9 : gT) =>
    gG ((nI 10) + v2) 47 <|
    gG ((nI 10) + v2) 47 <|
    gLet (gU w9 31 ((nI 10) + v2).toNatClampNeg ((w9.1 31 ((nI 10) + v2).toNatClampNeg) + v5)) fun (w10 : gT) =>
    gG ((nI 40) + a2) 47 <|
    gG ((nI 40) + a2) 47 <|
    gLet (gU w10 31 ((nI 40) + a2).toNatClampNeg ((w10.1 31 ((nI 40) + a2).toNatClampNeg) + v5)) fun (w11 : gT) =>
    gLet (gU w11 31 2 ((w11.1 31 2) + (nI 1))) fun (w12 : gT) =>
    gG ((nI 20) + a1) 47 <|
    gG ((nI 20) + a1) 47 <|
    gLet (gU w12 31 ((nI 20) + a1).toNatClampNeg ((w12.1 31 ((nI 20) + a1).toNatClampNeg) + (nI 1))) fun (w13 : gT) =>
    k7 w13
  else
    k7 w6)) fun k4 =>
  gBi (xX10_isSleeper v2 w3) fun (v14 : Int32) (w15 : gT) =>
  (if v14 = (nI 0) then
    k4 ((-2) : Int32) w15
  else
    gBi (xX10_frightOf N a1 v2 a2 a3 a4 w15) fun (v16 : Int32) (w17 : gT) =>
    k4 v16 w17))
def xX10_frightens (N : Nat) (a1 : Int32) (a2 : Int32) (a3 : Int32) (a4 : Int32) (w : gT) : Option (gT) :=
gW1 (xX10_frightens_b3 N a1 a2 a3 a4) N (nI 0) w
def rmX10_frightens : Room := { frames := 4, cells := 0, slots := 0, locals := 100 }
def xX10_goes (N : Nat) (a1 : Int32) (a2 : Int32) (w : gT) : Option (gT) :=
gG a1 16 <|
gLet (w.1 10 a1.toNatClampNeg) fun (v1 : Int32) =>
gBi (xX10_stands N a1 w) fun (v2 : Int32) (w3 : gT) =>
(if v2 = (nI 0) then
  gBi (xX10_draws w3) fun (v4 : Int32) (w5 : gT) =>
  gG a1 16 <|
  gG a1 16 <|
  gBv (xX10_feels N v1 (w5.1 11 a1.toNatClampNeg) (w5.1 12 a1.toNatClampNeg) a2 w5) fun (w6 : gT) =>
  gBi (xX10_byLaw N (nI 122) (nI 10) w6) fun (v7 : Int32) (w8 : gT) =>
  (if v7 ≤ v4 then
    gLet (fun (v10 : Int32) (v11 : Int32) (w12 : gT) =>
    gLet (v10 * v11) fun (v13 : Int32) =>
    gLet (gU w12 31 1 ((w12.1 31 1) + v13)) fun (w14 : gT) =>
    gG ((nI 30) + v1) 47 <|
    gG ((nI 30) + v1) 47 <|
    gLet (gU w14 31 ((nI 30) + v1).toNatClampNeg ((w14.1 31 ((nI 30) + v1).toNatClampNeg) + v13)) fun (w15 : gT) =>
    some w15) fun k9 =>
    gG a1 16 <|
    gG a1 16 <|
    gBv (xX10_frightens N v1 (w8.1 11 a1.toNatClampNeg) (w8.1 12 a1.toNatClampNeg) a2 w8) fun (w16 : gT) =>
    gG a1 16 <|
    gG a1 16 <|
    gBv (xX10_feels N v1 (w16.1 11 a1.toNatClampNeg) (w16.1 12 a1.toNatClampNeg) a2 w16) fun (w17 : gT) =>
    gBi (xX10_byLaw N (nI 119) (nI 999) w17) fun (v18 : Int32) (w19 : gT) =>
    gG a1 16 <|
    (if (w19.1 11 a1.toNatClampNeg) = (w19.1 0 1) then
      k9 v18 (nI 2) w19
    else
      k9 v18 (nI 1) w19)
  else
    gLet (gU w8 31 3 ((w8.1 31 3) + (nI 1))) fun (w20 : gT) =>
    some w20)
else
  gLet (gU w3 31 4 ((w3.1 31 4) + (nI 1))) fun (w21 : gT) =>
  some w21)
def rmX10_goes : Room := { frames := 5, cells := 0, slots := 0, locals := 126 }
def xX10_goesThrough_b36 (N : Nat) (k7 : gT → Option (gT)) (v4 : Int32) (go9 : Int32 → Int32 → gT → Option (gT)) (v10 : Int32) (v11 : Int32) (w12 : gT) : Option (gT) :=
(if (w12.1 0 19) ≤ v11 then
  k7 w12
else
  gLet (fun (v14 : Int32) (w15 : gT) =>
  go9 v14 (v11 + (nI 1)) w15) fun k13 =>
  gG v11 16 <|
  (if (w12.1 11 v11.toNatClampNeg) = v4 then
    gBi (xX10_counts N v11 w12) fun (v16 : Int32) (w17 : gT) =>
    (if v16 = (nI 0) then
      k13 v10 w17
    else
      gLet (fun (v19 : Int32) (w20 : gT) =>
      gLet (fun (v22 : Int32) (v23 : Int32) (v24 : Int32) (w25 : gT) =>
      gLet (v23 - v24) fun (v26 : Int32) =>
      gBv (xX10_goes N v11 v22 w25) fun (w27 : gT) =>
      k13 v26 w27) fun k21 =>
      (if v19 = (nI 0) then
        k21 v19 v10 (nI 0) w20
      else
        k21 v19 v10 (nI 1) w20)) fun k18 =>
      gLet (fun (w29 : gT) =>
      k18 (nI 0) w29) fun k28 =>
      gG v11 16 <|
      (if (w17.1 16 v11.toNatClampNeg) = (nI 0) then
        k28 w17
      else
        (if v10 ≤ (nI 0) then
          k28 w17
        else
          k18 (nI 1) w17)))
  else
    k13 v10 w12))
def xX10_goesThrough_b23 (N : Nat) (go3 : Int32 → gT → Option (gT)) (v4 : Int32) (w5 : gT) : Option (gT) :=
(if (nI 7) ≤ v4 then
  some w5
else
  gLet (w5.1 0 2) fun (v6 : Int32) =>
  gLet (fun (w8 : gT) =>
  go3 (v4 + (nI 1)) w8) fun k7 =>
  gW2 (xX10_goesThrough_b36 N k7 v4) N v6 (nI 0) w5)
def xX10_goesThrough_b2 (k1 : gT → Option (gT)) (go30 : Int32 → gT → Option (gT)) (v31 : Int32) (w32 : gT) : Option (gT) :=
(if (nI 47) ≤ v31 then
  k1 w32
else
  gG v31 47 <|
  gLet (gU w32 31 v31.toNatClampNeg (nI 0)) fun (w33 : gT) =>
  go30 (v31 + (nI 1)) w33)
def xX10_goesThrough (N : Nat) (w : gT) : Option (gT) :=
gLet (fun (w2 : gT) =>
gW1 (xX10_goesThrough_b23 N) N (nI 0) w2) fun k1 =>
gW1 (xX10_goesThrough_b2 k1) N (nI 0) w
def rmX10_goesThrough : Room := { frames := 6, cells := 0, slots := 0, locals := 151 }
def xX10_laysWeek (N : Nat) (w : gT) : Option (gT) :=
gLet (w.1 0 0) fun (v1 : Int32) =>
gBv (xX10_goesThrough N w) fun (w2 : gT) =>
gLet (gU w2 0 0 v1) fun (w3 : gT) =>
some w3
def rmX10_laysWeek : Room := { frames := 7, cells := 0, slots := 0, locals := 175 }
def xX10_isSum (a1 : Int32) (w : gT) : Option (Int32 × gT) :=
gBi (xX10_in a1 (nI 0) (nI 4) w) fun (v1 : Int32) (w2 : gT) =>
(if v1 = (nI 0) then
  gLet (fun (w4 : gT) =>
  gBi (xX10_in a1 (nI 20) (nI 39) w4) fun (v5 : Int32) (w6 : gT) =>
  (if v5 = (nI 0) then
    some ((nI 0), w6)
  else
    gBi (xX10_isGhost (gRem a1 (nI 10)) w6) fun (v7 : Int32) (w8 : gT) =>
    (if v7 = (nI 0) then
      some ((nI 0), w8)
    else
      some ((nI 1), w8)))) fun k3 =>
  gBi (xX10_in a1 (nI 10) (nI 19) w2) fun (v9 : Int32) (w10 : gT) =>
  (if v9 = (nI 0) then
    k3 w10
  else
    gBi (xX10_isSleeper (a1 - (nI 10)) w10) fun (v11 : Int32) (w12 : gT) =>
    (if v11 = (nI 0) then
      k3 w12
    else
      some ((nI 1), w12)))
else
  some ((nI 1), w2))
def rmX10_isSum : Room := { frames := 2, cells := 0, slots := 0, locals := 42 }
def xX10_week (N : Nat) (a1 : Int32) (w : gT) : Option (Int32 × gT) :=
gLet (fun (w2 : gT) =>
gBv (xX10_laysWeek N w2) fun (w3 : gT) =>
gG a1 47 <|
some ((w3.1 31 a1.toNatClampNeg), w3)) fun k1 =>
gBi (xX10_isSum a1 w) fun (v4 : Int32) (w5 : gT) =>
(if v4 = (nI 0) then
  gBi (xX10_in a1 (nI 40) (nI 46) w5) fun (v6 : Int32) (w7 : gT) =>
  (if v6 = (nI 0) then
    some ((-1), w7)
  else
    k1 w7)
else
  k1 w5)
def rmX10_week : Room := { frames := 8, cells := 0, slots := 0, locals := 196 }
def xX10_live_b6 (k2 : gT → Option (Int32 × gT)) (go5 : Int32 → gT → Option (Int32 × gT)) (v6 : Int32) (w7 : gT) : Option (Int32 × gT) :=
(if (nI 40) ≤ v6 then
  k2 w7
else
  gG v6 47 <|
  gG v6 47 <|
  gG v6 47 <|
  gLet (gU w7 8 v6.toNatClampNeg ((w7.1 8 v6.toNatClampNeg) + (w7.1 31 v6.toNatClampNeg))) fun (w8 : gT) =>
  go5 (v6 + (nI 1)) w8)
def xX10_live (N : Nat) (w : gT) : Option (Int32 × gT) :=
gBv (xX10_goesThrough N w) fun (w1 : gT) =>
gLet (fun (w3 : gT) =>
gLet (gU w3 8 5 ((w3.1 8 5) + (nI 1))) fun (w4 : gT) =>
some ((w4.1 31 0), w4)) fun k2 =>
gW1 (xX10_live_b6 k2) N (nI 0) w1
def rmX10_live : Room := { frames := 7, cells := 0, slots := 0, locals := 175 }
def xX10_soFar (a1 : Int32) (w : gT) : Option (Int32 × gT) :=
gBi (xX10_isSum a1 w) fun (v1 : Int32) (w2 : gT) =>
(if v1 = (nI 0) then
  (if a1 = (nI 5) then
    gG a1 47 <|
    some ((w2.1 8 a1.toNatClampNeg), w2)
  else
    some ((-1), w2))
else
  gG a1 47 <|
  some ((w2.1 8 a1.toNatClampNeg), w2))
def rmX10_soFar : Room := { frames := 3, cells := 0, slots := 0, locals := 63 }
def xX10_onceBy (a1 : Int32) (a2 : Int32) (a3 : Int32) (w : gT) : Option (Int32 × gT) :=
(if a2 = (nI 84) then
  gG (((nI 1024) * (a1 + (nI 1))) + a3) 11264 <|
  some ((w.1 33 (((nI 1024) * (a1 + (nI 1))) + a3).toNatClampNeg), w)
else
  gG (((nI 84) * a1) + a2) 840 <|
  gLet (w.1 32 (((nI 84) * a1) + a2).toNatClampNeg) fun (v1 : Int32) =>
  (if (v1 &&& a3) = (nI 0) then
    gG (((nI 1024) * (a1 + (nI 1))) + (a3 ||| v1)) 11264 <|
    some (((w.1 33 (((nI 1024) * (a1 + (nI 1))) + (a3 ||| v1)).toNatClampNeg) + (nI 1)), w)
  else
    some ((nI 1000000000), w)))
def rmX10_onceBy : Room := { frames := 0, cells := 0, slots := 0, locals := 0 }
def xX10_min (a0 : Int32) (a1 : Int32) (w : gT) : Option (Int32 × gT) :=
(if a1 ≤ a0 then
  some (a1, w)
else
  some (a0, w))
def rmX10_min : Room := { frames := 0, cells := 0, slots := 0, locals := 0 }
def xX10_frightened_b6 (N : Nat) (a1 : Int32) (a2 : Int32) (a3 : Int32) (go1 : Int32 → Int32 → gT → Option (Int32 × gT)) (v2 : Int32) (v3 : Int32) (w4 : gT) : Option (Int32 × gT) :=
(if (nI 10) ≤ v3 then
  some (v2, w4)
else
  gLet (fun (v6 : Int32) (w7 : gT) =>
  go1 v6 (v3 + (nI 1)) w7) fun k5 =>
  gBi (xX10_isSleeper v3 w4) fun (v8 : Int32) (w9 : gT) =>
  (if v8 = (nI 0) then
    k5 v2 w9
  else
    gBi (xX10_frightOf N a1 v3 a2 a3 (nI 0) w9) fun (v10 : Int32) (w11 : gT) =>
    (if v10 = (-2) then
      k5 v2 w11
    else
      gLet (v2 ||| (gShl (nI 1) v3)) fun (v12 : Int32) =>
      k5 v12 w11)))
def xX10_frightened (N : Nat) (a1 : Int32) (a2 : Int32) (a3 : Int32) (w : gT) : Option (Int32 × gT) :=
gW2 (xX10_frightened_b6 N a1 a2 a3) N (nI 0) (nI 0) w
def rmX10_frightened : Room := { frames := 4, cells := 0, slots := 0, locals := 100 }
def xX10_laysOnce_b128 (N : Nat) (a1 : Int32) (k15 : Int32 → gT → Option (gT)) (v6 : Int32) (v11 : Int32) (go19 : Int32 → Int32 → gT → Option (gT)) (v20 : Int32) (v21 : Int32) (w22 : gT) : Option (gT) :=
(if (nI 84) ≤ v21 then
  k15 v20 w22
else
  gBi (xX10_isGhost v6 w22) fun (v23 : Int32) (w24 : gT) =>
  (if v23 = (nI 0) then
    k15 v20 w24
  else
    (if (v11 &&& (a1 ^^^ (-1))) = (nI 0) then
      gBi (xX10_onceBy v6 v21 v11 w24) fun (v25 : Int32) (w26 : gT) =>
      gBi (xX10_min v20 v25 w26) fun (v27 : Int32) (w28 : gT) =>
      go19 v27 (v21 + (nI 1)) w28
    else
      k15 v20 w24)))
def xX10_laysOnce_b108 (N : Nat) (a1 : Int32) (k8 : gT → Option (gT)) (v6 : Int32) (go10 : Int32 → gT → Option (gT)) (v11 : Int32) (w12 : gT) : Option (gT) :=
(if (nI 1024) ≤ v11 then
  k8 w12
else
  gBi (xX10_onceBy v6 (nI 84) v11 w12) fun (v13 : Int32) (w14 : gT) =>
  gLet (fun (v16 : Int32) (w17 : gT) =>
  gG (((nI 1024) * v6) + v11) 11264 <|
  gLet (gU w17 33 (((nI 1024) * v6) + v11).toNatClampNeg v16) fun (w18 : gT) =>
  go10 (v11 + (nI 1)) w18) fun k15 =>
  gW2 (xX10_laysOnce_b128 N a1 k15 v6 v11) N v13 (nI 0) w14)
def xX10_laysOnce_b102 (N : Nat) (a1 : Int32) (go5 : Int32 → gT → Option (gT)) (v6 : Int32) (w7 : gT) : Option (gT) :=
(if v6 < (nI 0) then
  some w7
else
  gLet (fun (w9 : gT) =>
  go5 (v6 + (-1)) w9) fun k8 =>
  gW1 (xX10_laysOnce_b108 N a1 k8 v6) N (nI 0) w7)
def xX10_laysOnce_b64 (a1 : Int32) (k3 : gT → Option (gT)) (go29 : Int32 → gT → Option (gT)) (v30 : Int32) (w31 : gT) : Option (gT) :=
(if (nI 1024) ≤ v30 then
  k3 w31
else
  gLet (fun (v33 : Int32) (v34 : Int32) (w35 : gT) =>
  gG v33 11264 <|
  gLet (gU w35 33 v33.toNatClampNeg v34) fun (w36 : gT) =>
  go29 (v30 + (nI 1)) w36) fun k32 =>
  (if v30 = a1 then
    k32 ((nI 10240) + v30) (nI 0) w31
  else
    k32 ((nI 10240) + v30) (nI 1000000000) w31))
def xX10_laysOnce_b10 (N : Nat) (a1 : Int32) (k40 : gT → Option (gT)) (v38 : Int32) (go42 : Int32 → gT → Option (gT)) (v43 : Int32) (w44 : gT) : Option (gT) :=
(if (nI 84) ≤ v43 then
  k40 w44
else
  gBi (xX10_isGhost v38 w44) fun (v45 : Int32) (w46 : gT) =>
  (if v45 = (nI 0) then
    k40 w46
  else
    gBi (xX10_frightened N v38 (v43 / (nI 12)) (gRem v43 (nI 12)) w46) fun (v47 : Int32) (w48 : gT) =>
    gG (((nI 84) * v38) + v43) 840 <|
    gLet (gU w48 32 (((nI 84) * v38) + v43).toNatClampNeg (v47 &&& a1)) fun (w49 : gT) =>
    go42 (v43 + (nI 1)) w49))
def xX10_laysOnce_b2 (N : Nat) (a1 : Int32) (k1 : gT → Option (gT)) (go37 : Int32 → gT → Option (gT)) (v38 : Int32) (w39 : gT) : Option (gT) :=
(if (nI 10) ≤ v38 then
  k1 w39
else
  gLet (fun (w41 : gT) =>
  go37 (v38 + (nI 1)) w41) fun k40 =>
  gW1 (xX10_laysOnce_b10 N a1 k40 v38) N (nI 0) w39)
def xX10_laysOnce (N : Nat) (a1 : Int32) (w : gT) : Option (gT) :=
gLet (fun (w2 : gT) =>
gLet (fun (w4 : gT) =>
gW1 (xX10_laysOnce_b102 N a1) N (nI 9) w4) fun k3 =>
gW1 (xX10_laysOnce_b64 a1 k3) N (nI 0) w2) fun k1 =>
gW1 (xX10_laysOnce_b2 N a1 k1) N (nI 0) w
def rmX10_laysOnce : Room := { frames := 5, cells := 0, slots := 0, locals := 125 }
def xX10_leastCode_b15 (N : Nat) (a1 : Int32) (a2 : Int32) (go4 : Int32 → gT → Option (Int32 × gT)) (v5 : Int32) (w6 : gT) : Option (Int32 × gT) :=
gBi (xX10_onceBy a1 v5 a2 w6) fun (v7 : Int32) (w8 : gT) =>
gG (((nI 1024) * a1) + a2) 11264 <|
(if v7 = (w8.1 33 (((nI 1024) * a1) + a2).toNatClampNeg) then
  some (v5, w8)
else
  gLet (v5 + (nI 1)) fun (v9 : Int32) =>
  go4 v9 w8)
def xX10_leastCode (N : Nat) (a1 : Int32) (a2 : Int32) (w : gT) : Option (Int32 × gT) :=
gLet (fun (v2 : Int32) (w3 : gT) =>
gW1 (xX10_leastCode_b15 N a1 a2) N v2 w3) fun k1 =>
gBi (xX10_isGhost a1 w) fun (v10 : Int32) (w11 : gT) =>
(if v10 = (nI 0) then
  k1 (nI 84) w11
else
  k1 (nI 0) w11)
def rmX10_leastCode : Room := { frames := 2, cells := 0, slots := 0, locals := 42 }
def xX10_once_b69 (N : Nat) (a2 : Int32) (k4 : Int32 → gT → Option (Int32 × gT)) (go9 : Int32 → Int32 → gT → Option (Int32 × gT)) (v10 : Int32) (v11 : Int32) (w12 : gT) : Option (Int32 × gT) :=
(if a2 ≤ v11 then
  k4 v10 w12
else
  gLet (fun (v14 : Int32) (w15 : gT) =>
  go9 v14 (v11 + (nI 1)) w15) fun k13 =>
  gBi (xX10_leastCode N v11 v10 w12) fun (v16 : Int32) (w17 : gT) =>
  (if v16 = (nI 84) then
    k13 v10 w17
  else
    gG (((nI 84) * v11) + v16) 840 <|
    k13 (v10 ||| (w17.1 32 (((nI 84) * v11) + v16).toNatClampNeg)) w17))
def xX10_once (N : Nat) (a1 : Int32) (a2 : Int32) (w : gT) : Option (Int32 × gT) :=
(if a1 < (nI 1) then
  some ((-3), w)
else
  (if (a1 &&& ((w.1 0 3) ^^^ (-1))) = (nI 0) then
    gLet (fun (w2 : gT) =>
    gBv (xX10_laysOnce N a1 w2) fun (w3 : gT) =>
    (if (w3.1 33 0) < (nI 1000000000) then
      (if a2 = (-1) then
        some ((w3.1 33 0), w3)
      else
        gLet (fun (v5 : Int32) (w6 : gT) =>
        gBi (xX10_leastCode N a2 v5 w6) fun (v7 : Int32) (w8 : gT) =>
        some (v7, w8)) fun k4 =>
        gW2 (xX10_once_b69 N a2 k4) N (nI 0) (nI 0) w3)
    else
      some ((-2), w3))) fun k1 =>
    (if a2 = (-1) then
      k1 w
    else
      gBi (xX10_isGhost a2 w) fun (v18 : Int32) (w19 : gT) =>
      (if v18 = (nI 0) then
        some ((-3), w19)
      else
        k1 w19))
  else
    some ((-3), w)))
def rmX10_once : Room := { frames := 6, cells := 0, slots := 0, locals := 150 }
def xX10_frightBy_b6 (N : Nat) (a1 : Int32) (a2 : Int32) (a3 : Int32) (a4 : Int32) (go1 : Int32 → Int32 → gT → Option (Int32 × gT)) (v2 : Int32) (v3 : Int32) (w4 : gT) : Option (Int32 × gT) :=
(if (nI 10) ≤ v3 then
  some (v2, w4)
else
  gLet (fun (v6 : Int32) (w7 : gT) =>
  gLet (fun (v9 : Int32) (v10 : Int32) (w11 : gT) =>
  gLet (v9 + v10) fun (v12 : Int32) =>
  go1 v12 (v3 + (nI 1)) w11) fun k8 =>
  (if v6 ≤ (nI 0) then
    k8 v2 (nI 0) w7
  else
    k8 v2 v6 w7)) fun k5 =>
  gBi (xX10_isSleeper v3 w4) fun (v13 : Int32) (w14 : gT) =>
  (if v13 = (nI 0) then
    k5 ((-2) : Int32) w14
  else
    gBi (xX10_frightOf N a1 v3 a2 a3 a4 w14) fun (v15 : Int32) (w16 : gT) =>
    k5 v15 w16))
def xX10_frightBy (N : Nat) (a1 : Int32) (a2 : Int32) (a3 : Int32) (a4 : Int32) (w : gT) : Option (Int32 × gT) :=
gW2 (xX10_frightBy_b6 N a1 a2 a3 a4) N (nI 0) (nI 0) w
def rmX10_frightBy : Room := { frames := 4, cells := 0, slots := 0, locals := 100 }
def xX10_bestWalk_b55 (N : Nat) (a1 : Int32) (k7 : Int32 → Int32 → gT → Option (Int32 × gT)) (go11 : Int32 → Int32 → Int32 → gT → Option (Int32 × gT)) (v12 : Int32) (v13 : Int32) (v14 : Int32) (w15 : gT) : Option (Int32 × gT) :=
(if (nI 84) ≤ v14 then
  k7 v12 v13 w15
else
  gLet (fun (v17 : Int32) (v18 : Int32) (w19 : gT) =>
  go11 v17 v18 (v14 + (nI 1)) w19) fun k16 =>
  gBi (xX10_frightBy N a1 (v14 / (nI 12)) (gRem v14 (nI 12)) (nI 0) w15) fun (v20 : Int32) (w21 : gT) =>
  (if v13 < v20 then
    k16 v14 v20 w21
  else
    k16 v12 v13 w21))
def xX10_bestWalk_b21 (a1 : Int32) (k5 : gT → Option (Int32 × gT)) (go22 : Int32 → gT → Option (Int32 × gT)) (v23 : Int32) (w24 : gT) : Option (Int32 × gT) :=
(if (w24.1 0 19) ≤ v23 then
  k5 w24
else
  gG v23 16 <|
  (if (w24.1 10 v23.toNatClampNeg) = a1 then
    some ((-1), w24)
  else
    go22 (v23 + (nI 1)) w24))
def xX10_bestWalk (N : Nat) (a1 : Int32) (a2 : Int32) (w : gT) : Option (Int32 × gT) :=
gBi (xX10_isGhost a1 w) fun (v1 : Int32) (w2 : gT) =>
(if v1 = (nI 0) then
  some ((-1), w2)
else
  gBi (xX10_in a2 (nI 0) (nI 2) w2) fun (v3 : Int32) (w4 : gT) =>
  (if v3 = (nI 0) then
    some ((-1), w4)
  else
    gLet (fun (w6 : gT) =>
    gLet (fun (v8 : Int32) (v9 : Int32) (w10 : gT) =>
    (if a2 = (nI 0) then
      some ((v8 / (nI 12)), w10)
    else
      (if a2 = (nI 1) then
        some ((gRem v8 (nI 12)), w10)
      else
        some (v9, w10)))) fun k7 =>
    gW3 (xX10_bestWalk_b55 N a1 k7) N (nI 0) ((-1) : Int32) (nI 0) w6) fun k5 =>
    gW1 (xX10_bestWalk_b21 a1 k5) N (nI 0) w4))
def rmX10_bestWalk : Room := { frames := 5, cells := 0, slots := 0, locals := 127 }
def xX10_candle_b46 (N : Nat) (a1 : Int32) (a2 : Int32) (k5 : Int32 → Int32 → Int32 → gT → Option (Int32 × gT)) (go12 : Int32 → Int32 → Int32 → Int32 → gT → Option (Int32 × gT)) (v13 : Int32) (v14 : Int32) (v15 : Int32) (v16 : Int32) (w17 : gT) : Option (Int32 × gT) :=
(if (nI 120) ≤ v16 then
  k5 v13 v14 v15 w17
else
  gLet (fun (v19 : Int32) (v20 : Int32) (v21 : Int32) (w22 : gT) =>
  go12 v19 v20 v21 (v16 + (nI 1)) w22) fun k18 =>
  gLet (v16 / (nI 12)) fun (v23 : Int32) =>
  gBi (xX10_isGhost v23 w17) fun (v24 : Int32) (w25 : gT) =>
  (if v24 = (nI 0) then
    k18 v13 v14 v15 w25
  else
    gBi (xX10_frightened N v23 a1 (gRem v16 (nI 12)) w25) fun (v26 : Int32) (w27 : gT) =>
    (if v26 = a2 then
      gLet (fun (v29 : Int32) (w30 : gT) =>
      gLet (v15 ||| (gShl (nI 1) v23)) fun (v31 : Int32) =>
      gLet (v13 + (nI 1)) fun (v32 : Int32) =>
      k18 v32 v29 v31 w30) fun k28 =>
      (if v14 = (-1) then
        k28 v16 w27
      else
        k28 v14 w27)
    else
      k18 v13 v14 v15 w27)))
def xX10_candle (N : Nat) (a1 : Int32) (a2 : Int32) (a3 : Int32) (w : gT) : Option (Int32 × gT) :=
gBi (xX10_isNight a1 w) fun (v1 : Int32) (w2 : gT) =>
(if v1 = (nI 0) then
  some ((-1), w2)
else
  (if a2 < (nI 1) then
    some ((-1), w2)
  else
    (if (a2 &&& ((w2.1 0 3) ^^^ (-1))) = (nI 0) then
      gBi (xX10_in a3 (nI 0) (nI 3) w2) fun (v3 : Int32) (w4 : gT) =>
      (if v3 = (nI 0) then
        some ((-1), w4)
      else
        gLet (fun (v6 : Int32) (v7 : Int32) (v8 : Int32) (w9 : gT) =>
        gLet (fun (w11 : gT) =>
        (if a3 = (nI 0) then
          some (v6, w11)
        else
          some (v8, w11))) fun k10 =>
        (if a3 = (nI 0) then
          k10 w9
        else
          (if a3 = (nI 3) then
            k10 w9
          else
            (if v7 = (-1) then
              some ((-2), w9)
            else
              (if a3 = (nI 1) then
                some ((v7 / (nI 12)), w9)
              else
                some ((gRem v7 (nI 12)), w9)))))) fun k5 =>
        gW4 (xX10_candle_b46 N a1 a2 k5) N (nI 0) ((-1) : Int32) (nI 0) (nI 0) w4)
    else
      some ((-1), w2))))
def rmX10_candle : Room := { frames := 5, cells := 0, slots := 0, locals := 125 }
def xX10_draughts_b4 (N : Nat) (go1 : Int32 → Int32 → gT → Option (Int32 × gT)) (v2 : Int32) (v3 : Int32) (w4 : gT) : Option (Int32 × gT) :=
(if (nI 10) ≤ v3 then
  some (v2, w4)
else
  gLet (fun (v6 : Int32) (w7 : gT) =>
  go1 v6 (v3 + (nI 1)) w7) fun k5 =>
  gBi (xX10_isGhost v3 w4) fun (v8 : Int32) (w9 : gT) =>
  (if v8 = (nI 0) then
    k5 v2 w9
  else
    gG ((nI 30) + v3) 47 <|
    (if (w9.1 8 ((nI 30) + v3).toNatClampNeg) ≤ (nI 0) then
      k5 v2 w9
    else
      gG ((nI 20) + v3) 47 <|
      (if (w9.1 8 ((nI 20) + v3).toNatClampNeg) = (nI 0) then
        gLet (v2 ||| (gShl (nI 1) v3)) fun (v10 : Int32) =>
        k5 v10 w9
      else
        k5 v2 w9))))
def xX10_draughts (N : Nat) (w : gT) : Option (Int32 × gT) :=
gW2 (xX10_draughts_b4 N) N (nI 0) (nI 0) w
def rmX10_draughts : Room := { frames := 2, cells := 0, slots := 0, locals := 42 }
def xX10_mendedBy (N : Nat) (a1 : Int32) (w : gT) : Option (Int32 × gT) :=
gG a1 10 <|
(if (w.1 5 a1.toNatClampNeg) = (nI 9) then
  some ((nI 0), w)
else
  gBv (xX10_laysWeek N w) fun (w1 : gT) =>
  gLet (w1.1 31 0) fun (v2 : Int32) =>
  gG a1 10 <|
  gG a1 10 <|
  gLet (gU w1 5 a1.toNatClampNeg ((w1.1 5 a1.toNatClampNeg) + (nI 1))) fun (w3 : gT) =>
  gBv (xX10_laysWeek N w3) fun (w4 : gT) =>
  gG a1 10 <|
  gG a1 10 <|
  gLet (gU w4 5 a1.toNatClampNeg ((w4.1 5 a1.toNatClampNeg) - (nI 1))) fun (w5 : gT) =>
  some (((w5.1 31 0) - v2), w5))
def rmX10_mendedBy : Room := { frames := 8, cells := 0, slots := 0, locals := 196 }
def xX10_mended_b52 (N : Nat) (a2 : Int32) (go3 : Int32 → Int32 → Int32 → gT → Option (Int32 × gT)) (v4 : Int32) (v5 : Int32) (v6 : Int32) (w7 : gT) : Option (Int32 × gT) :=
(if (nI 10) ≤ v6 then
  (if a2 = (nI 1) then
    some (v4, w7)
  else
    some (v5, w7))
else
  gLet (fun (v9 : Int32) (v10 : Int32) (w11 : gT) =>
  go3 v9 v10 (v6 + (nI 1)) w11) fun k8 =>
  gBi (xX10_isGhost v6 w7) fun (v12 : Int32) (w13 : gT) =>
  (if v12 = (nI 0) then
    k8 v4 v5 w13
  else
    gLet (fun (v15 : Int32) (w16 : gT) =>
    k8 v6 v15 w16) fun k14 =>
    gBi (xX10_mendedBy N v6 w13) fun (v17 : Int32) (w18 : gT) =>
    (if v4 = (-1) then
      k14 v17 w18
    else
      (if v5 < v17 then
        k14 v17 w18
      else
        k8 v4 v5 w18))))
def xX10_mended (N : Nat) (a1 : Int32) (a2 : Int32) (w : gT) : Option (Int32 × gT) :=
(if a2 = (nI 0) then
  gBi (xX10_isGhost a1 w) fun (v19 : Int32) (w20 : gT) =>
  (if v19 = (nI 0) then
    some ((-100000), w20)
  else
    gBi (xX10_mendedBy N a1 w20) fun (v21 : Int32) (w22 : gT) =>
    some (v21, w22))
else
  gBi (xX10_in a2 (nI 1) (nI 2) w) fun (v1 : Int32) (w2 : gT) =>
  (if v1 = (nI 0) then
    some ((-100000), w2)
  else
    (if (w2.1 0 4) = (nI 0) then
      some ((-100000), w2)
    else
      gW3 (xX10_mended_b52 N a2) N ((-1) : Int32) (nI 0) (nI 0) w2)))
def rmX10_mended : Room := { frames := 9, cells := 0, slots := 0, locals := 218 }
def xX10_mend (a1 : Int32) (w : gT) : Option (Int32 × gT) :=
gBi (xX10_isGhost a1 w) fun (v1 : Int32) (w2 : gT) =>
(if v1 = (nI 0) then
  some ((-1), w2)
else
  gG a1 10 <|
  (if (w2.1 5 a1.toNatClampNeg) = (nI 9) then
    some ((-1), w2)
  else
    gG a1 10 <|
    gG a1 10 <|
    gLet (gU w2 5 a1.toNatClampNeg ((w2.1 5 a1.toNatClampNeg) + (nI 1))) fun (w3 : gT) =>
    gG a1 10 <|
    some ((w3.1 5 a1.toNatClampNeg), w3)))
def rmX10_mend : Room := { frames := 2, cells := 0, slots := 0, locals := 42 }
def xX10_bits_b4 (a0 : Int32) (go1 : Int32 → Int32 → gT → Option (Int32 × gT)) (v2 : Int32) (v3 : Int32) (w4 : gT) : Option (Int32 × gT) :=
(if (nI 12) ≤ v3 then
  some (v2, w4)
else
  gLet (v2 + ((gShr a0 v3) &&& (nI 1))) fun (v5 : Int32) =>
  go1 v5 (v3 + (nI 1)) w4)
def xX10_bits (N : Nat) (a0 : Int32) (w : gT) : Option (Int32 × gT) :=
gW2 (xX10_bits_b4 a0) N (nI 0) (nI 0) w
def rmX10_bits : Room := { frames := 0, cells := 0, slots := 0, locals := 0 }
def xX10_shared_b168 (N : Nat) (k19 : Int32 → gT → Option (Int32 × gT)) (v6 : Int32) (v11 : Int32) (go28 : Int32 → Int32 → gT → Option (Int32 × gT)) (v29 : Int32) (v30 : Int32) (w31 : gT) : Option (Int32 × gT) :=
(if (nI 10) ≤ v30 then
  k19 v29 w31
else
  gLet (fun (v33 : Int32) (v34 : Int32) (w35 : gT) =>
  gLet (v33 + v34) fun (v36 : Int32) =>
  go28 v36 (v30 + (nI 1)) w35) fun k32 =>
  gBi (xX10_has v6 v30 w31) fun (v37 : Int32) (w38 : gT) =>
  (if v37 = (nI 0) then
    k32 v29 (nI 0) w38
  else
    gBi (xX10_has v11 v30 w38) fun (v39 : Int32) (w40 : gT) =>
    (if v39 = (nI 0) then
      gG v30 10 <|
      k32 v29 (w40.1 34 v30.toNatClampNeg) w40
    else
      gG v30 10 <|
      k32 v29 (w40.1 35 v30.toNatClampNeg) w40)))
def xX10_shared_b130 (N : Nat) (a2 : Int32) (v6 : Int32) (go8 : Int32 → Int32 → Int32 → gT → Option (Int32 × gT)) (v9 : Int32) (v10 : Int32) (v11 : Int32) (w12 : gT) : Option (Int32 × gT) :=
(if (nI 1024) ≤ v11 then
  (if a2 = (nI 0) then
    some (v9, w12)
  else
    some (v10, w12))
else
  gLet (fun (v14 : Int32) (v15 : Int32) (w16 : gT) =>
  go8 v14 v15 (v11 + (nI 1)) w16) fun k13 =>
  (if (v11 &&& (v6 ^^^ (-1))) = (nI 0) then
    gBi (xX10_bits N v11 w12) fun (v17 : Int32) (w18 : gT) =>
    (if v17 ≤ (w18.1 0 2) then
      gLet (fun (v20 : Int32) (w21 : gT) =>
      (if v20 < v10 then
        k13 v9 v10 w21
      else
        gLet (fun (w23 : gT) =>
        k13 v11 v20 w23) fun k22 =>
        (if v20 = v10 then
          gBi (xX10_bits N v11 w21) fun (v24 : Int32) (w25 : gT) =>
          gBi (xX10_bits N v9 w25) fun (v26 : Int32) (w27 : gT) =>
          (if v24 < v26 then
            k22 w27
          else
            k13 v9 v10 w27)
        else
          k22 w21))) fun k19 =>
      gW2 (xX10_shared_b168 N k19 v6 v11) N (nI 0) (nI 0) w18
    else
      k13 v9 v10 w18)
  else
    k13 v9 v10 w12))
def xX10_shared_b23 (N : Nat) (a1 : Int32) (k5 : Int32 → gT → Option (Int32 × gT)) (go41 : Int32 → Int32 → gT → Option (Int32 × gT)) (v42 : Int32) (v43 : Int32) (w44 : gT) : Option (Int32 × gT) :=
(if (w44.1 0 19) ≤ v43 then
  k5 v42 w44
else
  gLet (fun (v46 : Int32) (w47 : gT) =>
  go41 v46 (v43 + (nI 1)) w47) fun k45 =>
  gG v43 16 <|
  (if (w44.1 11 v43.toNatClampNeg) = a1 then
    gBi (xX10_counts N v43 w44) fun (v48 : Int32) (w49 : gT) =>
    (if v48 = (nI 0) then
      k45 v42 w49
    else
      gG v43 16 <|
      gLet (w49.1 10 v43.toNatClampNeg) fun (v50 : Int32) =>
      gLet (v42 ||| (gShl (nI 1) v50)) fun (v51 : Int32) =>
      gG v43 16 <|
      gBi (xX10_frightBy N v50 a1 (w49.1 12 v43.toNatClampNeg) (nI 0) w49) fun (v52 : Int32) (w53 : gT) =>
      gG v50 10 <|
      gLet (gU w53 34 v50.toNatClampNeg v52) fun (w54 : gT) =>
      gG v43 16 <|
      gBi (xX10_frightBy N v50 a1 (w54.1 12 v43.toNatClampNeg) (nI 1) w54) fun (v55 : Int32) (w56 : gT) =>
      gG v50 10 <|
      gLet (gU w56 35 v50.toNatClampNeg v55) fun (w57 : gT) =>
      k45 v51 w57)
  else
    k45 v42 w44))
def xX10_shared (N : Nat) (a1 : Int32) (a2 : Int32) (w : gT) : Option (Int32 × gT) :=
gBi (xX10_isNight a1 w) fun (v1 : Int32) (w2 : gT) =>
(if v1 = (nI 0) then
  some ((-1), w2)
else
  gBi (xX10_in a2 (nI 0) (nI 1) w2) fun (v3 : Int32) (w4 : gT) =>
  (if v3 = (nI 0) then
    some ((-1), w4)
  else
    gLet (fun (v6 : Int32) (w7 : gT) =>
    gW3 (xX10_shared_b130 N a2 v6) N (nI 0) ((-1) : Int32) (nI 0) w7) fun k5 =>
    gW2 (xX10_shared_b23 N a1 k5) N (nI 0) (nI 0) w4))
def rmX10_shared : Room := { frames := 5, cells := 0, slots := 0, locals := 127 }
def xX10_coldIn_b52 (N : Nat) (v2 : Int32) (go4 : Int32 → Int32 → gT → Option (Int32 × gT)) (v5 : Int32) (v6 : Int32) (w7 : gT) : Option (Int32 × gT) :=
(if (nI 10) ≤ v6 then
  some (v5, w7)
else
  gLet (fun (v9 : Int32) (v10 : Int32) (w11 : gT) =>
  gLet (v9 + v10) fun (v12 : Int32) =>
  go4 v12 (v6 + (nI 1)) w11) fun k8 =>
  gBi (xX10_has v2 v6 w7) fun (v13 : Int32) (w14 : gT) =>
  (if v13 = (nI 0) then
    k8 v5 (nI 0) w14
  else
    gG v6 10 <|
    k8 v5 (w14.1 6 v6.toNatClampNeg) w14))
def xX10_coldIn_b4 (N : Nat) (a1 : Int32) (k1 : Int32 → gT → Option (Int32 × gT)) (go15 : Int32 → Int32 → gT → Option (Int32 × gT)) (v16 : Int32) (v17 : Int32) (w18 : gT) : Option (Int32 × gT) :=
(if (w18.1 0 19) ≤ v17 then
  k1 v16 w18
else
  gLet (fun (v20 : Int32) (w21 : gT) =>
  go15 v20 (v17 + (nI 1)) w21) fun k19 =>
  gG v17 16 <|
  (if (w18.1 12 v17.toNatClampNeg) = a1 then
    gBi (xX10_counts N v17 w18) fun (v22 : Int32) (w23 : gT) =>
    (if v22 = (nI 0) then
      k19 v16 w23
    else
      gG v17 16 <|
      gLet (v16 ||| (gShl (nI 1) (w23.1 10 v17.toNatClampNeg))) fun (v24 : Int32) =>
      k19 v24 w23)
  else
    k19 v16 w18))
def xX10_coldIn (N : Nat) (a1 : Int32) (w : gT) : Option (Int32 × gT) :=
gLet (fun (v2 : Int32) (w3 : gT) =>
gW2 (xX10_coldIn_b52 N v2) N (nI 0) (nI 0) w3) fun k1 =>
gW2 (xX10_coldIn_b4 N a1 k1) N (nI 0) (nI 0) w
def rmX10_coldIn : Room := { frames := 3, cells := 0, slots := 0, locals := 64 }
def xX10_laysWorths_b26 (k11 : gT → Option (gT)) (go20 : Int32 → gT → Option (gT)) (v21 : Int32) (w22 : gT) : Option (gT) :=
(if (nI 12) ≤ v21 then
  k11 w22
else
  gG v21 12 <|
  gLet (gU w22 30 v21.toNatClampNeg (nI 0)) fun (w23 : gT) =>
  go20 (v21 + (nI 1)) w23)
def xX10_laysWorths_b17 (N : Nat) (a1 : Int32) (k6 : gT → Option (gT)) (v2 : Int32) (v4 : Int32) (go8 : Int32 → gT → Option (gT)) (v9 : Int32) (w10 : gT) : Option (gT) :=
(if a1 ≤ v9 then
  k6 w10
else
  gLet (fun (w12 : gT) =>
  gLet (gU w12 30 0 v2) fun (w13 : gT) =>
  gG v2 12 <|
  gLet (gU w13 30 2 (w13.1 1 v2.toNatClampNeg)) fun (w14 : gT) =>
  gLet (gU w14 30 5 v4) fun (w15 : gT) =>
  gLet (gU w15 30 11 v9) fun (w16 : gT) =>
  gBi (xX10_byLaw N (nI 113) (nI 999) w16) fun (v17 : Int32) (w18 : gT) =>
  gG (((nI 12) * v9) + v2) 96 <|
  gLet (gU w18 36 (((nI 12) * v9) + v2).toNatClampNeg v17) fun (w19 : gT) =>
  go8 (v9 + (nI 1)) w19) fun k11 =>
  gW1 (xX10_laysWorths_b26 k11) N (nI 0) w10)
def xX10_laysWorths_b2 (N : Nat) (a1 : Int32) (go1 : Int32 → gT → Option (gT)) (v2 : Int32) (w3 : gT) : Option (gT) :=
(if (nI 12) ≤ v2 then
  some w3
else
  gBi (xX10_coldIn N v2 w3) fun (v4 : Int32) (w5 : gT) =>
  gLet (fun (w7 : gT) =>
  go1 (v2 + (nI 1)) w7) fun k6 =>
  gW1 (xX10_laysWorths_b17 N a1 k6 v2 v4) N (nI 0) w5)
def xX10_laysWorths (N : Nat) (a1 : Int32) (w : gT) : Option (gT) :=
gW1 (xX10_laysWorths_b2 N a1) N (nI 0) w
def rmX10_laysWorths : Room := { frames := 4, cells := 0, slots := 0, locals := 88 }
def xX10_lodgeBy (a1 : Int32) (a2 : Int32) (a3 : Int32) (w : gT) : Option (Int32 × gT) :=
(if a2 = (nI 12) then
  gG (((nI 4096) * (a1 + (nI 1))) + a3) 36864 <|
  some ((w.1 37 (((nI 4096) * (a1 + (nI 1))) + a3).toNatClampNeg), w)
else
  gBi (xX10_has a3 a2 w) fun (v1 : Int32) (w2 : gT) =>
  (if v1 = (nI 0) then
    gG (((nI 12) * a1) + a2) 96 <|
    gG (((nI 4096) * (a1 + (nI 1))) + (a3 ||| (gShl (nI 1) a2))) 36864 <|
    some (((w2.1 36 (((nI 12) * a1) + a2).toNatClampNeg) + (w2.1 37 (((nI 4096) * (a1 + (nI 1))) + (a3 ||| (gShl (nI 1) a2))).toNatClampNeg)), w2)
  else
    some ((-1), w2)))
def rmX10_lodgeBy : Room := { frames := 1, cells := 0, slots := 0, locals := 21 }
def xX10_laysJuly_b51 (N : Nat) (k12 : Int32 → gT → Option (gT)) (v5 : Int32) (v10 : Int32) (go16 : Int32 → Int32 → gT → Option (gT)) (v17 : Int32) (v18 : Int32) (w19 : gT) : Option (gT) :=
(if (nI 12) < v18 then
  k12 v17 w19
else
  gLet (fun (v21 : Int32) (w22 : gT) =>
  go16 v21 (v18 + (nI 1)) w22) fun k20 =>
  gBi (xX10_lodgeBy v5 v18 v10 w19) fun (v23 : Int32) (w24 : gT) =>
  (if v17 ≤ v23 then
    gBi (xX10_lodgeBy v5 v18 v10 w24) fun (v25 : Int32) (w26 : gT) =>
    k20 v25 w26
  else
    k20 v17 w24))
def xX10_laysJuly_b38 (N : Nat) (k7 : gT → Option (gT)) (v5 : Int32) (go9 : Int32 → gT → Option (gT)) (v10 : Int32) (w11 : gT) : Option (gT) :=
(if (nI 4096) ≤ v10 then
  k7 w11
else
  gLet (fun (v13 : Int32) (w14 : gT) =>
  gG (((nI 4096) * v5) + v10) 36864 <|
  gLet (gU w14 37 (((nI 4096) * v5) + v10).toNatClampNeg v13) fun (w15 : gT) =>
  go9 (v10 + (nI 1)) w15) fun k12 =>
  gW2 (xX10_laysJuly_b51 N k12 v5 v10) N ((-1) : Int32) (nI 0) w11)
def xX10_laysJuly_b32 (N : Nat) (go4 : Int32 → gT → Option (gT)) (v5 : Int32) (w6 : gT) : Option (gT) :=
(if v5 < (nI 0) then
  some w6
else
  gLet (fun (w8 : gT) =>
  go4 (v5 + (-1)) w8) fun k7 =>
  gW1 (xX10_laysJuly_b38 N k7 v5) N (nI 0) w6)
def xX10_laysJuly_b2 (a1 : Int32) (k1 : gT → Option (gT)) (go27 : Int32 → gT → Option (gT)) (v28 : Int32) (w29 : gT) : Option (gT) :=
(if (nI 4096) ≤ v28 then
  k1 w29
else
  gG (((nI 4096) * a1) + v28) 36864 <|
  gLet (gU w29 37 (((nI 4096) * a1) + v28).toNatClampNeg (nI 0)) fun (w30 : gT) =>
  go27 (v28 + (nI 1)) w30)
def xX10_laysJuly (N : Nat) (a1 : Int32) (w : gT) : Option (gT) :=
gLet (fun (w2 : gT) =>
gLet (a1 - (nI 1)) fun (v3 : Int32) =>
gW1 (xX10_laysJuly_b32 N) N v3 w2) fun k1 =>
gW1 (xX10_laysJuly_b2 a1 k1) N (nI 0) w
def rmX10_laysJuly : Room := { frames := 2, cells := 0, slots := 0, locals := 44 }
def xX10_july_b65 (N : Nat) (k12 : Int32 → gT → Option (Int32 × gT)) (v8 : Int32) (v10 : Int32) (go18 : Int32 → gT → Option (Int32 × gT)) (v19 : Int32) (w20 : gT) : Option (Int32 × gT) :=
gBi (xX10_lodgeBy v10 v19 v8 w20) fun (v21 : Int32) (w22 : gT) =>
gG (((nI 4096) * v10) + v8) 36864 <|
(if v21 = (w22.1 37 (((nI 4096) * v10) + v8).toNatClampNeg) then
  k12 v19 w22
else
  gLet (v19 + (nI 1)) fun (v23 : Int32) =>
  go18 v23 w22)
def xX10_july_b56 (N : Nat) (a2 : Int32) (go7 : Int32 → Int32 → Int32 → gT → Option (Int32 × gT)) (v8 : Int32) (v9 : Int32) (v10 : Int32) (w11 : gT) : Option (Int32 × gT) :=
(if a2 < v10 then
  some (v9, w11)
else
  gLet (fun (v13 : Int32) (w14 : gT) =>
  gLet (fun (v16 : Int32) (w17 : gT) =>
  go7 v16 v13 (v10 + (nI 1)) w17) fun k15 =>
  (if v13 = (nI 12) then
    k15 v8 w14
  else
    k15 (v8 ||| (gShl (nI 1) v13)) w14)) fun k12 =>
  gW1 (xX10_july_b65 N k12 v8 v10) N (nI 0) w11)
def xX10_july (N : Nat) (a1 : Int32) (a2 : Int32) (w : gT) : Option (Int32 × gT) :=
gBi (xX10_in a1 (nI 1) (nI 8) w) fun (v1 : Int32) (w2 : gT) =>
(if v1 = (nI 0) then
  some ((-1), w2)
else
  gBi (xX10_in a2 ((-1) : Int32) (a1 - (nI 1)) w2) fun (v3 : Int32) (w4 : gT) =>
  (if v3 = (nI 0) then
    some ((-2), w4)
  else
    gBv (xX10_laysWorths N a1 w4) fun (w5 : gT) =>
    gBv (xX10_laysJuly N a1 w5) fun (w6 : gT) =>
    (if a2 = (-1) then
      some ((w6.1 37 0), w6)
    else
      gW3 (xX10_july_b56 N a2) N (nI 0) (nI 0) (nI 0) w6)))
def rmX10_july : Room := { frames := 5, cells := 0, slots := 0, locals := 113 }
def xX10_off_b235 (a1 : Int32) (a3 : Int32) (go14 : Int32 → Int32 → gT → Option (Int32 × gT)) (v15 : Int32) (v16 : Int32) (w17 : gT) : Option (Int32 × gT) :=
(if a1 ≤ v16 then
  some (v15, w17)
else
  gLet (fun (v19 : Int32) (w20 : gT) =>
  go14 v19 (v16 + (nI 1)) w20) fun k18 =>
  gG v16 10 <|
  (if (w17.1 39 v16.toNatClampNeg) = a3 then
    gG v16 10 <|
    gLet (w17.1 38 v16.toNatClampNeg) fun (v21 : Int32) =>
    k18 v21 w17
  else
    k18 v15 w17))
def xX10_off_b144 (a1 : Int32) (k25 : Int32 → gT → Option (Int32 × gT)) (go29 : Int32 → Int32 → gT → Option (Int32 × gT)) (v30 : Int32) (v31 : Int32) (w32 : gT) : Option (Int32 × gT) :=
(if a1 ≤ v31 then
  k25 v30 w32
else
  gLet (fun (v34 : Int32) (w35 : gT) =>
  go29 v34 (v31 + (nI 1)) w35) fun k33 =>
  gG v31 10 <|
  gG (w32.1 39 v31.toNatClampNeg) 10 <|
  gG v30 10 <|
  gG v30 10 <|
  gG (w32.1 39 v30.toNatClampNeg) 10 <|
  gG v31 10 <|
  (if ((w32.1 7 (w32.1 39 v31.toNatClampNeg).toNatClampNeg) * ((w32.1 38 v30.toNatClampNeg) + (nI 1))) ≤ ((w32.1 7 (w32.1 39 v30.toNatClampNeg).toNatClampNeg) * ((w32.1 38 v31.toNatClampNeg) + (nI 1))) then
    k33 v30 w32
  else
    k33 v31 w32))
def xX10_off_b132 (N : Nat) (a1 : Int32) (a2 : Int32) (k12 : gT → Option (Int32 × gT)) (go22 : Int32 → gT → Option (Int32 × gT)) (v23 : Int32) (w24 : gT) : Option (Int32 × gT) :=
(if a2 ≤ v23 then
  k12 w24
else
  gLet (fun (v26 : Int32) (w27 : gT) =>
  gG v26 10 <|
  gG v26 10 <|
  gLet (gU w27 38 v26.toNatClampNeg ((w27.1 38 v26.toNatClampNeg) + (nI 1))) fun (w28 : gT) =>
  go22 (v23 + (nI 1)) w28) fun k25 =>
  gW2 (xX10_off_b144 a1 k25) N (nI 0) (nI 1) w24)
def xX10_off_b49 (N : Nat) (a1 : Int32) (a3 : Int32) (k9 : Int32 → gT → Option (Int32 × gT)) (go36 : Int32 → Int32 → Int32 → gT → Option (Int32 × gT)) (v37 : Int32) (v38 : Int32) (v39 : Int32) (w40 : gT) : Option (Int32 × gT) :=
(if (nI 10) ≤ v39 then
  k9 v38 w40
else
  (if a1 ≤ v37 then
    k9 v38 w40
  else
    gLet (fun (v42 : Int32) (v43 : Int32) (w44 : gT) =>
    go36 v42 v43 (v39 + (nI 1)) w44) fun k41 =>
    gBi (xX10_isGhost v39 w40) fun (v45 : Int32) (w46 : gT) =>
    (if v45 = (nI 0) then
      k41 v37 v38 w46
    else
      gLet (fun (v48 : Int32) (w49 : gT) =>
      gLet (v37 + (nI 1)) fun (v50 : Int32) =>
      k41 v50 v48 w49) fun k47 =>
      gLet (fun (w52 : gT) =>
      k47 (nI 1) w52) fun k51 =>
      gG v37 10 <|
      gLet (gU w46 39 v37.toNatClampNeg v39) fun (w53 : gT) =>
      gG v37 10 <|
      gLet (gU w53 38 v37.toNatClampNeg (nI 0)) fun (w54 : gT) =>
      (if v38 = (nI 0) then
        (if v39 = a3 then
          k51 w54
        else
          k47 (nI 0) w54)
      else
        k51 w54))))
def xX10_off (N : Nat) (a1 : Int32) (a2 : Int32) (a3 : Int32) (w : gT) : Option (Int32 × gT) :=
gBi (xX10_bits N (w.1 0 4) w) fun (v1 : Int32) (w2 : gT) =>
gBi (xX10_in a1 (nI 1) v1 w2) fun (v3 : Int32) (w4 : gT) =>
(if v3 = (nI 0) then
  some ((-1), w4)
else
  gBi (xX10_in a2 (nI 1) (nI 366) w4) fun (v5 : Int32) (w6 : gT) =>
  (if v5 = (nI 0) then
    some ((-1), w6)
  else
    gBi (xX10_isGhost a3 w6) fun (v7 : Int32) (w8 : gT) =>
    (if v7 = (nI 0) then
      some ((-1), w8)
    else
      gLet (fun (v10 : Int32) (w11 : gT) =>
      (if v10 = (nI 0) then
        some ((-2), w11)
      else
        gLet (fun (w13 : gT) =>
        gW2 (xX10_off_b235 a1 a3) N (nI 0) (nI 0) w13) fun k12 =>
        gW1 (xX10_off_b132 N a1 a2 k12) N (nI 0) w11)) fun k9 =>
      gW3 (xX10_off_b49 N a1 a3 k9) N (nI 0) (nI 0) (nI 0) w8)))
def rmX10_off : Room := { frames := 2, cells := 0, slots := 0, locals := 42 }
def xX10_gain0 (a0 : Int32) (a1 : Int32) (a2 : Int32) (w : gT) : Option (Int32 × gT) :=
(if a1 < a2 then
  some ((nI 0), w)
else
  some ((a0 - a1), w))
def rmX10_gain0 : Room := { frames := 0, cells := 0, slots := 0, locals := 0 }
def xX10_gain1 (a0 : Int32) (a1 : Int32) (a2 : Int32) (w : gT) : Option (Int32 × gT) :=
(if a1 < a2 then
  some ((a0 - a2), w)
else
  some ((nI 0), w))
def rmX10_gain1 : Room := { frames := 0, cells := 0, slots := 0, locals := 0 }
def xX10_rests_b3 (N : Nat) (a0 : Int32) (a1 : Int32) (a2 : Int32) (a3 : Int32) (go1 : Int32 → gT → Option (Int32 × gT)) (v2 : Int32) (w3 : gT) : Option (Int32 × gT) :=
(if (nI 10) ≤ v2 then
  some ((nI 1), w3)
else
  gBi (xX10_gain0 a0 v2 a3 w3) fun (v4 : Int32) (w5 : gT) =>
  gBi (xX10_gain0 a0 a2 a3 w5) fun (v6 : Int32) (w7 : gT) =>
  (if v6 < v4 then
    some ((nI 0), w7)
  else
    gBi (xX10_gain1 a1 a2 v2 w7) fun (v8 : Int32) (w9 : gT) =>
    gBi (xX10_gain1 a1 a2 a3 w9) fun (v10 : Int32) (w11 : gT) =>
    (if v8 ≤ v10 then
      go1 (v2 + (nI 1)) w11
    else
      some ((nI 0), w11))))
def xX10_rests (N : Nat) (a0 : Int32) (a1 : Int32) (a2 : Int32) (a3 : Int32) (w : gT) : Option (Int32 × gT) :=
gW1 (xX10_rests_b3 N a0 a1 a2 a3) N (nI 1) w
def rmX10_rests : Room := { frames := 1, cells := 0, slots := 0, locals := 22 }
def xX10_bids_b40 (N : Nat) (a1 : Int32) (a2 : Int32) (k7 : Int32 → Int32 → gT → Option (Int32 × gT)) (go11 : Int32 → Int32 → Int32 → gT → Option (Int32 × gT)) (v12 : Int32) (v13 : Int32) (v14 : Int32) (w15 : gT) : Option (Int32 × gT) :=
(if (nI 81) ≤ v14 then
  k7 v12 v13 w15
else
  gLet (fun (v17 : Int32) (v18 : Int32) (w19 : gT) =>
  go11 v17 v18 (v14 + (nI 1)) w19) fun k16 =>
  gBi (xX10_rests N a1 a2 ((v14 / (nI 9)) + (nI 1)) ((gRem v14 (nI 9)) + (nI 1)) w15) fun (v20 : Int32) (w21 : gT) =>
  (if v20 = (nI 0) then
    k16 v12 v13 w21
  else
    gLet (fun (v23 : Int32) (w24 : gT) =>
    gLet (v12 + (nI 1)) fun (v25 : Int32) =>
    k16 v25 v23 w24) fun k22 =>
    (if v13 = (-1) then
      k22 v14 w21
    else
      k22 v13 w21)))
def xX10_bids (N : Nat) (a1 : Int32) (a2 : Int32) (a3 : Int32) (w : gT) : Option (Int32 × gT) :=
gBi (xX10_in a1 (nI 0) (nI 20) w) fun (v1 : Int32) (w2 : gT) =>
(if v1 = (nI 0) then
  some ((-1), w2)
else
  gBi (xX10_in a2 (nI 0) (nI 20) w2) fun (v3 : Int32) (w4 : gT) =>
  (if v3 = (nI 0) then
    some ((-1), w4)
  else
    gBi (xX10_in a3 (nI 0) (nI 2) w4) fun (v5 : Int32) (w6 : gT) =>
    (if v5 = (nI 0) then
      some ((-1), w6)
    else
      gLet (fun (v8 : Int32) (v9 : Int32) (w10 : gT) =>
      (if a3 = (nI 0) then
        some (v8, w10)
      else
        (if v9 = (-1) then
          some ((-2), w10)
        else
          (if a3 = (nI 1) then
            some (((v9 / (nI 9)) + (nI 1)), w10)
          else
            some (((gRem v9 (nI 9)) + (nI 1)), w10))))) fun k7 =>
      gW3 (xX10_bids_b40 N a1 a2 k7) N (nI 0) ((-1) : Int32) (nI 0) w6)))
def rmX10_bids : Room := { frames := 2, cells := 0, slots := 0, locals := 46 }
def xX10_gcd_b4 (go1 : Int32 → Int32 → gT → Option (Int32 × gT)) (v2 : Int32) (v3 : Int32) (w4 : gT) : Option (Int32 × gT) :=
(if v3 = (nI 0) then
  some (v2, w4)
else
  gZ v3 <|
  gLet (gRem v2 v3) fun (v5 : Int32) =>
  go1 v3 v5 w4)
def xX10_gcd (N : Nat) (a0 : Int32) (a1 : Int32) (w : gT) : Option (Int32 × gT) :=
gW2 (xX10_gcd_b4) N a0 a1 w
def rmX10_gcd : Room := { frames := 0, cells := 0, slots := 0, locals := 0 }
def xX10_odds_b44 (N : Nat) (a1 : Int32) (a2 : Int32) (k8 : Int32 → Int32 → gT → Option (Int32 × gT)) (go14 : Int32 → Int32 → Int32 → Int32 → Int32 → gT → Option (Int32 × gT)) (v15 : Int32) (v16 : Int32) (v17 : Int32) (v18 : Int32) (v19 : Int32) (w20 : gT) : Option (Int32 × gT) :=
(if (w20.1 0 19) ≤ v19 then
  k8 v17 v18 w20
else
  gLet (fun (v22 : Int32) (v23 : Int32) (v24 : Int32) (v25 : Int32) (w26 : gT) =>
  go14 v22 v23 v24 v25 (v19 + (nI 1)) w26) fun k21 =>
  gG v19 16 <|
  (if (w20.1 11 v19.toNatClampNeg) = a1 then
    gBi (xX10_counts N v19 w20) fun (v27 : Int32) (w28 : gT) =>
    (if v27 = (nI 0) then
      k21 v15 v16 v17 v18 w28
    else
      gLet (fun (v30 : Int32) (w31 : gT) =>
      gLet (fun (v33 : Int32) (v34 : Int32) (v35 : Int32) (w36 : gT) =>
      gLet (v34 - v35) fun (v37 : Int32) =>
      gBi (xX10_stands N v19 w36) fun (v38 : Int32) (w39 : gT) =>
      (if v38 = (nI 0) then
        gLet (v16 + (nI 1)) fun (v40 : Int32) =>
        (if v40 ≤ (nI 4) then
          gLet (fun (v42 : Int32) (v43 : Int32) (v44 : Int32) (w45 : gT) =>
          gLet (v43 * v44) fun (v46 : Int32) =>
          k21 v37 v40 v42 v46 w45) fun k41 =>
          gG v19 16 <|
          gG v19 16 <|
          gBv (xX10_feels N (w39.1 10 v19.toNatClampNeg) a1 (w39.1 12 v19.toNatClampNeg) v33 w39) fun (w47 : gT) =>
          gBi (xX10_byLaw N (nI 122) (nI 10) w47) fun (v48 : Int32) (w49 : gT) =>
          gLet (v17 * (nI 10)) fun (v50 : Int32) =>
          gG v19 16 <|
          gG v19 16 <|
          gBi (xX10_frightOf N (w49.1 10 v19.toNatClampNeg) a2 a1 (w49.1 12 v19.toNatClampNeg) v33 w49) fun (v51 : Int32) (w52 : gT) =>
          (if v51 = (-2) then
            k41 v50 v18 (nI 10) w52
          else
            k41 v50 v18 v48 w52)
        else
          some ((-2), w39))
      else
        k21 v37 v16 v17 v18 w39)) fun k32 =>
      (if v30 = (nI 0) then
        k32 v30 v15 (nI 0) w31
      else
        k32 v30 v15 (nI 1) w31)) fun k29 =>
      gLet (fun (w54 : gT) =>
      k29 (nI 0) w54) fun k53 =>
      gG v19 16 <|
      (if (w28.1 16 v19.toNatClampNeg) = (nI 0) then
        k53 w28
      else
        (if v15 ≤ (nI 0) then
          k53 w28
        else
          k29 (nI 1) w28)))
  else
    k21 v15 v16 v17 v18 w20))
def xX10_odds (N : Nat) (a1 : Int32) (a2 : Int32) (a3 : Int32) (w : gT) : Option (Int32 × gT) :=
gBi (xX10_isNight a1 w) fun (v1 : Int32) (w2 : gT) =>
(if v1 = (nI 0) then
  some ((-1), w2)
else
  gBi (xX10_isSleeper a2 w2) fun (v3 : Int32) (w4 : gT) =>
  (if v3 = (nI 0) then
    some ((-1), w4)
  else
    gBi (xX10_in a3 (nI 0) (nI 1) w4) fun (v5 : Int32) (w6 : gT) =>
    (if v5 = (nI 0) then
      some ((-1), w6)
    else
      gLet (w6.1 0 2) fun (v7 : Int32) =>
      gLet (fun (v9 : Int32) (v10 : Int32) (w11 : gT) =>
      gBi (xX10_gcd N (v9 - v10) v9 w11) fun (v12 : Int32) (w13 : gT) =>
      (if a3 = (nI 0) then
        gZ v12 <|
        some (((v9 - v10) / v12), w13)
      else
        gZ v12 <|
        some ((v9 / v12), w13))) fun k8 =>
      gW5 (xX10_odds_b44 N a1 a2 k8) N v7 (nI 0) (nI 1) (nI 1) (nI 0) w6)))
def rmX10_odds : Room := { frames := 4, cells := 0, slots := 0, locals := 100 }
def xX10_seed (a1 : Int32) (w : gT) : Option (Int32 × gT) :=
gBi (xX10_in a1 (nI 0) (nI 65535) w) fun (v1 : Int32) (w2 : gT) =>
(if v1 = (nI 0) then
  some ((nI 0), w2)
else
  gLet (gU w2 0 0 a1) fun (w3 : gT) =>
  some ((nI 1), w3))
def rmX10_seed : Room := { frames := 1, cells := 0, slots := 0, locals := 22 }
def xX10_copies_b2 (a2 : Int32) (go1 : Int32 → gT → Option (gT)) (v2 : Int32) (w3 : gT) : Option (gT) :=
(if a2 ≤ v2 then
  some w3
else
  gG v2 12 <|
  gG v2 12 <|
  gLet (gU w3 40 v2.toNatClampNeg (w3.1 1 v2.toNatClampNeg)) fun (w4 : gT) =>
  go1 (v2 + (nI 1)) w4)
def xX10_copies (N : Nat) (a2 : Int32) (w : gT) : Option (gT) :=
gW1 (xX10_copies_b2 a2) N (nI 0) w
def rmX10_copies : Room := { frames := 0, cells := 0, slots := 0, locals := 0 }
def xX10_copies_2_41_b2 (a2 : Int32) (go1 : Int32 → gT → Option (gT)) (v2 : Int32) (w3 : gT) : Option (gT) :=
(if a2 ≤ v2 then
  some w3
else
  gG v2 10 <|
  gG v2 10 <|
  gLet (gU w3 41 v2.toNatClampNeg (w3.1 2 v2.toNatClampNeg)) fun (w4 : gT) =>
  go1 (v2 + (nI 1)) w4)
def xX10_copies_2_41 (N : Nat) (a2 : Int32) (w : gT) : Option (gT) :=
gW1 (xX10_copies_2_41_b2 a2) N (nI 0) w
def rmX10_copies_2_41 : Room := { frames := 0, cells := 0, slots := 0, locals := 0 }
def xX10_copies_3_42_b2 (a2 : Int32) (go1 : Int32 → gT → Option (gT)) (v2 : Int32) (w3 : gT) : Option (gT) :=
(if a2 ≤ v2 then
  some w3
else
  gG v2 70 <|
  gG v2 70 <|
  gLet (gU w3 42 v2.toNatClampNeg (w3.1 3 v2.toNatClampNeg)) fun (w4 : gT) =>
  go1 (v2 + (nI 1)) w4)
def xX10_copies_3_42 (N : Nat) (a2 : Int32) (w : gT) : Option (gT) :=
gW1 (xX10_copies_3_42_b2 a2) N (nI 0) w
def rmX10_copies_3_42 : Room := { frames := 0, cells := 0, slots := 0, locals := 0 }
def xX10_copies_4_43_b2 (a2 : Int32) (go1 : Int32 → gT → Option (gT)) (v2 : Int32) (w3 : gT) : Option (gT) :=
(if a2 ≤ v2 then
  some w3
else
  gG v2 10 <|
  gG v2 10 <|
  gLet (gU w3 43 v2.toNatClampNeg (w3.1 4 v2.toNatClampNeg)) fun (w4 : gT) =>
  go1 (v2 + (nI 1)) w4)
def xX10_copies_4_43 (N : Nat) (a2 : Int32) (w : gT) : Option (gT) :=
gW1 (xX10_copies_4_43_b2 a2) N (nI 0) w
def rmX10_copies_4_43 : Room := { frames := 0, cells := 0, slots := 0, locals := 0 }
def xX10_copies_5_44_b2 (a2 : Int32) (go1 : Int32 → gT → Option (gT)) (v2 : Int32) (w3 : gT) : Option (gT) :=
(if a2 ≤ v2 then
  some w3
else
  gG v2 10 <|
  gG v2 10 <|
  gLet (gU w3 44 v2.toNatClampNeg (w3.1 5 v2.toNatClampNeg)) fun (w4 : gT) =>
  go1 (v2 + (nI 1)) w4)
def xX10_copies_5_44 (N : Nat) (a2 : Int32) (w : gT) : Option (gT) :=
gW1 (xX10_copies_5_44_b2 a2) N (nI 0) w
def rmX10_copies_5_44 : Room := { frames := 0, cells := 0, slots := 0, locals := 0 }
def xX10_copies_6_45_b2 (a2 : Int32) (go1 : Int32 → gT → Option (gT)) (v2 : Int32) (w3 : gT) : Option (gT) :=
(if a2 ≤ v2 then
  some w3
else
  gG v2 10 <|
  gG v2 10 <|
  gLet (gU w3 45 v2.toNatClampNeg (w3.1 6 v2.toNatClampNeg)) fun (w4 : gT) =>
  go1 (v2 + (nI 1)) w4)
def xX10_copies_6_45 (N : Nat) (a2 : Int32) (w : gT) : Option (gT) :=
gW1 (xX10_copies_6_45_b2 a2) N (nI 0) w
def rmX10_copies_6_45 : Room := { frames := 0, cells := 0, slots := 0, locals := 0 }
def xX10_copies_7_46_b2 (a2 : Int32) (go1 : Int32 → gT → Option (gT)) (v2 : Int32) (w3 : gT) : Option (gT) :=
(if a2 ≤ v2 then
  some w3
else
  gG v2 10 <|
  gG v2 10 <|
  gLet (gU w3 46 v2.toNatClampNeg (w3.1 7 v2.toNatClampNeg)) fun (w4 : gT) =>
  go1 (v2 + (nI 1)) w4)
def xX10_copies_7_46 (N : Nat) (a2 : Int32) (w : gT) : Option (gT) :=
gW1 (xX10_copies_7_46_b2 a2) N (nI 0) w
def rmX10_copies_7_46 : Room := { frames := 0, cells := 0, slots := 0, locals := 0 }
def xX10_copies_8_47_b2 (a2 : Int32) (go1 : Int32 → gT → Option (gT)) (v2 : Int32) (w3 : gT) : Option (gT) :=
(if a2 ≤ v2 then
  some w3
else
  gG v2 47 <|
  gG v2 47 <|
  gLet (gU w3 47 v2.toNatClampNeg (w3.1 8 v2.toNatClampNeg)) fun (w4 : gT) =>
  go1 (v2 + (nI 1)) w4)
def xX10_copies_8_47 (N : Nat) (a2 : Int32) (w : gT) : Option (gT) :=
gW1 (xX10_copies_8_47_b2 a2) N (nI 0) w
def rmX10_copies_8_47 : Room := { frames := 0, cells := 0, slots := 0, locals := 0 }
def xX10_keep (N : Nat) (w : gT) : Option (Int32 × gT) :=
gLet (gU w 0 56 (nI 1)) fun (w1 : gT) =>
gLet (gU w1 0 57 (w1.1 0 0)) fun (w2 : gT) =>
gLet (gU w2 0 58 (w2.1 0 1)) fun (w3 : gT) =>
gLet (gU w3 0 59 (w3.1 0 2)) fun (w4 : gT) =>
gLet (gU w4 0 60 (w4.1 0 3)) fun (w5 : gT) =>
gLet (gU w5 0 61 (w5.1 0 4)) fun (w6 : gT) =>
gBv (xX10_copies N (nI 12) w6) fun (w7 : gT) =>
gBv (xX10_copies_2_41 N (nI 10) w7) fun (w8 : gT) =>
gBv (xX10_copies_3_42 N (nI 70) w8) fun (w9 : gT) =>
gBv (xX10_copies_4_43 N (nI 10) w9) fun (w10 : gT) =>
gBv (xX10_copies_5_44 N (nI 10) w10) fun (w11 : gT) =>
gBv (xX10_copies_6_45 N (nI 10) w11) fun (w12 : gT) =>
gBv (xX10_copies_7_46 N (nI 10) w12) fun (w13 : gT) =>
gBv (xX10_copies_8_47 N (nI 47) w13) fun (w14 : gT) =>
some ((w14.1 8 5), w14)
def rmX10_keep : Room := { frames := 1, cells := 0, slots := 0, locals := 23 }
def xX10_copies_40_1_b2 (a2 : Int32) (go1 : Int32 → gT → Option (gT)) (v2 : Int32) (w3 : gT) : Option (gT) :=
(if a2 ≤ v2 then
  some w3
else
  gG v2 12 <|
  gG v2 12 <|
  gLet (gU w3 1 v2.toNatClampNeg (w3.1 40 v2.toNatClampNeg)) fun (w4 : gT) =>
  go1 (v2 + (nI 1)) w4)
def xX10_copies_40_1 (N : Nat) (a2 : Int32) (w : gT) : Option (gT) :=
gW1 (xX10_copies_40_1_b2 a2) N (nI 0) w
def rmX10_copies_40_1 : Room := { frames := 0, cells := 0, slots := 0, locals := 0 }
def xX10_copies_41_2_b2 (a2 : Int32) (go1 : Int32 → gT → Option (gT)) (v2 : Int32) (w3 : gT) : Option (gT) :=
(if a2 ≤ v2 then
  some w3
else
  gG v2 10 <|
  gG v2 10 <|
  gLet (gU w3 2 v2.toNatClampNeg (w3.1 41 v2.toNatClampNeg)) fun (w4 : gT) =>
  go1 (v2 + (nI 1)) w4)
def xX10_copies_41_2 (N : Nat) (a2 : Int32) (w : gT) : Option (gT) :=
gW1 (xX10_copies_41_2_b2 a2) N (nI 0) w
def rmX10_copies_41_2 : Room := { frames := 0, cells := 0, slots := 0, locals := 0 }
def xX10_copies_42_3_b2 (a2 : Int32) (go1 : Int32 → gT → Option (gT)) (v2 : Int32) (w3 : gT) : Option (gT) :=
(if a2 ≤ v2 then
  some w3
else
  gG v2 70 <|
  gG v2 70 <|
  gLet (gU w3 3 v2.toNatClampNeg (w3.1 42 v2.toNatClampNeg)) fun (w4 : gT) =>
  go1 (v2 + (nI 1)) w4)
def xX10_copies_42_3 (N : Nat) (a2 : Int32) (w : gT) : Option (gT) :=
gW1 (xX10_copies_42_3_b2 a2) N (nI 0) w
def rmX10_copies_42_3 : Room := { frames := 0, cells := 0, slots := 0, locals := 0 }
def xX10_copies_43_4_b2 (a2 : Int32) (go1 : Int32 → gT → Option (gT)) (v2 : Int32) (w3 : gT) : Option (gT) :=
(if a2 ≤ v2 then
  some w3
else
  gG v2 10 <|
  gG v2 10 <|
  gLet (gU w3 4 v2.toNatClampNeg (w3.1 43 v2.toNatClampNeg)) fun (w4 : gT) =>
  go1 (v2 + (nI 1)) w4)
def xX10_copies_43_4 (N : Nat) (a2 : Int32) (w : gT) : Option (gT) :=
gW1 (xX10_copies_43_4_b2 a2) N (nI 0) w
def rmX10_copies_43_4 : Room := { frames := 0, cells := 0, slots := 0, locals := 0 }
def xX10_copies_44_5_b2 (a2 : Int32) (go1 : Int32 → gT → Option (gT)) (v2 : Int32) (w3 : gT) : Option (gT) :=
(if a2 ≤ v2 then
  some w3
else
  gG v2 10 <|
  gG v2 10 <|
  gLet (gU w3 5 v2.toNatClampNeg (w3.1 44 v2.toNatClampNeg)) fun (w4 : gT) =>
  go1 (v2 + (nI 1)) w4)
def xX10_copies_44_5 (N : Nat) (a2 : Int32) (w : gT) : Option (gT) :=
gW1 (xX10_copies_44_5_b2 a2) N (nI 0) w
def rmX10_copies_44_5 : Room := { frames := 0, cells := 0, slots := 0, locals := 0 }
def xX10_copies_45_6_b2 (a2 : Int32) (go1 : Int32 → gT → Option (gT)) (v2 : Int32) (w3 : gT) : Option (gT) :=
(if a2 ≤ v2 then
  some w3
else
  gG v2 10 <|
  gG v2 10 <|
  gLet (gU w3 6 v2.toNatClampNeg (w3.1 45 v2.toNatClampNeg)) fun (w4 : gT) =>
  go1 (v2 + (nI 1)) w4)
def xX10_copies_45_6 (N : Nat) (a2 : Int32) (w : gT) : Option (gT) :=
gW1 (xX10_copies_45_6_b2 a2) N (nI 0) w
def rmX10_copies_45_6 : Room := { frames := 0, cells := 0, slots := 0, locals := 0 }
def xX10_copies_46_7_b2 (a2 : Int32) (go1 : Int32 → gT → Option (gT)) (v2 : Int32) (w3 : gT) : Option (gT) :=
(if a2 ≤ v2 then
  some w3
else
  gG v2 10 <|
  gG v2 10 <|
  gLet (gU w3 7 v2.toNatClampNeg (w3.1 46 v2.toNatClampNeg)) fun (w4 : gT) =>
  go1 (v2 + (nI 1)) w4)
def xX10_copies_46_7 (N : Nat) (a2 : Int32) (w : gT) : Option (gT) :=
gW1 (xX10_copies_46_7_b2 a2) N (nI 0) w
def rmX10_copies_46_7 : Room := { frames := 0, cells := 0, slots := 0, locals := 0 }
def xX10_copies_47_8_b2 (a2 : Int32) (go1 : Int32 → gT → Option (gT)) (v2 : Int32) (w3 : gT) : Option (gT) :=
(if a2 ≤ v2 then
  some w3
else
  gG v2 47 <|
  gG v2 47 <|
  gLet (gU w3 8 v2.toNatClampNeg (w3.1 47 v2.toNatClampNeg)) fun (w4 : gT) =>
  go1 (v2 + (nI 1)) w4)
def xX10_copies_47_8 (N : Nat) (a2 : Int32) (w : gT) : Option (gT) :=
gW1 (xX10_copies_47_8_b2 a2) N (nI 0) w
def rmX10_copies_47_8 : Room := { frames := 0, cells := 0, slots := 0, locals := 0 }
def xX10_undo (N : Nat) (w : gT) : Option (Int32 × gT) :=
(if (w.1 0 56) = (nI 0) then
  some ((nI 0), w)
else
  gLet (gU w 0 0 (w.1 0 57)) fun (w1 : gT) =>
  gLet (gU w1 0 1 (w1.1 0 58)) fun (w2 : gT) =>
  gLet (gU w2 0 2 (w2.1 0 59)) fun (w3 : gT) =>
  gLet (gU w3 0 3 (w3.1 0 60)) fun (w4 : gT) =>
  gLet (gU w4 0 4 (w4.1 0 61)) fun (w5 : gT) =>
  gBv (xX10_copies_40_1 N (nI 12) w5) fun (w6 : gT) =>
  gBv (xX10_copies_41_2 N (nI 10) w6) fun (w7 : gT) =>
  gBv (xX10_copies_42_3 N (nI 70) w7) fun (w8 : gT) =>
  gBv (xX10_copies_43_4 N (nI 10) w8) fun (w9 : gT) =>
  gBv (xX10_copies_44_5 N (nI 10) w9) fun (w10 : gT) =>
  gBv (xX10_copies_45_6 N (nI 10) w10) fun (w11 : gT) =>
  gBv (xX10_copies_46_7 N (nI 10) w11) fun (w12 : gT) =>
  gBv (xX10_copies_47_8 N (nI 47) w12) fun (w13 : gT) =>
  some ((nI 1), w13))
def rmX10_undo : Room := { frames := 1, cells := 0, slots := 0, locals := 23 }
def xX10_tapeNumber_b6 (a1 : Int32) (go2 : Int32 → Int32 → gT → Option (Int32 × gT)) (v3 : Int32) (v4 : Int32) (w5 : gT) : Option (Int32 × gT) :=
(if (((nI 4) * a1) + (nI 4)) ≤ v4 then
  some (v3, w5)
else
  gG v4 220 <|
  gLet ((gShl v3 (nI 8)) ||| ((w5.1 9 v4.toNatClampNeg) &&& (nI 255))) fun (v6 : Int32) =>
  go2 v6 (v4 + (nI 1)) w5)
def xX10_tapeNumber (N : Nat) (a1 : Int32) (w : gT) : Option (Int32 × gT) :=
gLet ((nI 4) * a1) fun (v1 : Int32) =>
gW2 (xX10_tapeNumber_b6 a1) N (nI 0) v1 w
def rmX10_tapeNumber : Room := { frames := 0, cells := 0, slots := 0, locals := 0 }
def xX10_check_b30 (N : Nat) (a1 : Int32) (go4 : Int32 → gT → Option (Int32 × gT)) (v5 : Int32) (w6 : gT) : Option (Int32 × gT) :=
(if a1 ≤ v5 then
  some ((-1), w6)
else
  gLet (fun (v8 : Int32) (v9 : Int32) (w10 : gT) =>
  (if v8 = v9 then
    go4 (v5 + (nI 1)) w10
  else
    some (v5, w10))) fun k7 =>
  gBi (xX10_tapeNumber N v5 w6) fun (v11 : Int32) (w12 : gT) =>
  gBi (xX10_isSleeper v5 w12) fun (v13 : Int32) (w14 : gT) =>
  (if v13 = (nI 0) then
    k7 v11 (nI 0) w14
  else
    gG ((nI 10) + v5) 47 <|
    k7 v11 (w14.1 8 ((nI 10) + v5).toNatClampNeg) w14))
def xX10_check (N : Nat) (a1 : Int32) (w : gT) : Option (Int32 × gT) :=
gBi (xX10_in a1 (nI 0) (nI 10) w) fun (v1 : Int32) (w2 : gT) =>
(if v1 = (nI 0) then
  some ((-2), w2)
else
  (if a1 ≤ ((w2.1 0 14) / (nI 4)) then
    gLet (gU w2 0 14 (nI 0)) fun (w3 : gT) =>
    gW1 (xX10_check_b30 N a1) N (nI 0) w3
  else
    some ((-2), w2)))
def rmX10_check : Room := { frames := 2, cells := 0, slots := 0, locals := 42 }
def xX10_count (a1 : Int32) (w : gT) : Option (Int32 × gT) :=
(if a1 = (nI 0) then
  some ((w.1 0 19), w)
else
  (if a1 = (nI 1) then
    some ((w.1 0 33), w)
  else
    (if a1 = (nI 2) then
      some ((w.1 0 14), w)
    else
      (if a1 = (nI 3) then
        some ((w.1 0 0), w)
      else
        (if a1 = (nI 4) then
          some ((w.1 0 2), w)
        else
          (if a1 = (nI 5) then
            some ((w.1 0 1), w)
          else
            (if a1 = (nI 6) then
              some ((w.1 0 4), w)
            else
              (if a1 = (nI 7) then
                some ((w.1 0 3), w)
              else
                gBi (xX10_in a1 (nI 10) (nI 21) w) fun (v1 : Int32) (w2 : gT) =>
                (if v1 = (nI 0) then
                  gLet (fun (w4 : gT) =>
                  gBi (xX10_in a1 (nI 100) (nI 169) w4) fun (v5 : Int32) (w6 : gT) =>
                  (if v5 = (nI 0) then
                    some ((-1), w6)
                  else
                    gBi (xX10_isSleeper (gRem a1 (nI 10)) w6) fun (v7 : Int32) (w8 : gT) =>
                    (if v7 = (nI 0) then
                      some ((-1), w8)
                    else
                      gG (a1 - (nI 100)) 70 <|
                      some ((w8.1 3 (a1 - (nI 100)).toNatClampNeg), w8)))) fun k3 =>
                  gBi (xX10_in a1 (nI 30) (nI 59) w2) fun (v9 : Int32) (w10 : gT) =>
                  (if v9 = (nI 0) then
                    k3 w10
                  else
                    gBi (xX10_isGhost (gRem a1 (nI 10)) w10) fun (v11 : Int32) (w12 : gT) =>
                    (if v11 = (nI 0) then
                      k3 w12
                    else
                      (if (nI 40) ≤ a1 then
                        (if (nI 50) ≤ a1 then
                          gG (a1 - (nI 50)) 10 <|
                          some ((w12.1 7 (a1 - (nI 50)).toNatClampNeg), w12)
                        else
                          gG (a1 - (nI 40)) 10 <|
                          some ((w12.1 4 (a1 - (nI 40)).toNatClampNeg), w12))
                      else
                        gG (a1 - (nI 30)) 10 <|
                        some ((w12.1 5 (a1 - (nI 30)).toNatClampNeg), w12))))
                else
                  gG (a1 - (nI 10)) 12 <|
                  some ((w2.1 1 (a1 - (nI 10)).toNatClampNeg), w2))))))))))
def rmX10_count : Room := { frames := 2, cells := 0, slots := 0, locals := 42 }

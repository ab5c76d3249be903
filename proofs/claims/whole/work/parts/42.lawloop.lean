def B_law_l18 (N : Nat) (Ln : Nat) (xs : Nat → Int32) (rec : Int32 → Mem → Option (Int32 × Mem)) (x3 : Int32) (σ : Mem) : Option (Int32 × Mem) :=
  if ((Int32.ofNat Ln) - 8) < x3 then
    (some (1, σ))
  else
    (grd (inb x3 Ln) <|
    letv ((xs (x3.toNatClampNeg)) &&& 63) fun v33 =>
    if v33 = 0 then
      (grd (inb (x3 + 1) Ln) <|
      grd (inb (x3 + 2) Ln) <|
      grd (inb (x3 + 3) Ln) <|
      grd (inb (x3 + 4) Ln) <|
      grd (inb (x3 + 5) Ln) <|
      bnd2 (f_Sh_feed N σ (xs ((x3 + 1).toNatClampNeg)) (xs ((x3 + 2).toNatClampNeg)) (xs ((x3 + 3).toNatClampNeg)) (xs ((x3 + 4).toNatClampNeg)) (xs ((x3 + 5).toNatClampNeg))) fun r222 σ222 =>
      grd (inb (x3 + 1) Ln) <|
      grd (inb (x3 + 2) Ln) <|
      grd (inb (x3 + 3) Ln) <|
      grd (inb (x3 + 4) Ln) <|
      grd (inb (x3 + 5) Ln) <|
      bnd2 (f_Mo_feed N σ222 (xs ((x3 + 1).toNatClampNeg)) (xs ((x3 + 2).toNatClampNeg)) (xs ((x3 + 3).toNatClampNeg)) (xs ((x3 + 4).toNatClampNeg)) (xs ((x3 + 5).toNatClampNeg))) fun r251 σ251 =>
      if r222 = r251 then
        (letv (x3 + 8) fun v1549 =>
        rec v1549 σ251)
      else
        (some (0, σ251)))
    else
    if v33 = 1 then
      (grd (inb (x3 + 1) Ln) <|
      bnd2 (f_Sh_law N σ (xs ((x3 + 1).toNatClampNeg))) fun r265 σ265 =>
      grd (inb (x3 + 1) Ln) <|
      bnd2 (f_Mo_law N σ265 (xs ((x3 + 1).toNatClampNeg))) fun r274 σ274 =>
      if r265 = r274 then
        (letv (x3 + 8) fun v1549 =>
        rec v1549 σ274)
      else
        (some (0, σ274)))
    else
    if v33 = 2 then
      (grd (inb (x3 + 1) Ln) <|
      grd (inb (x3 + 2) Ln) <|
      grd (inb (x3 + 3) Ln) <|
      grd (inb (x3 + 4) Ln) <|
      grd (inb (x3 + 5) Ln) <|
      bnd2 (f_Sh_caster N σ (xs ((x3 + 1).toNatClampNeg)) (xs ((x3 + 2).toNatClampNeg)) (xs ((x3 + 3).toNatClampNeg)) (xs ((x3 + 4).toNatClampNeg)) (xs ((x3 + 5).toNatClampNeg))) fun r308 σ308 =>
      grd (inb (x3 + 1) Ln) <|
      grd (inb (x3 + 2) Ln) <|
      grd (inb (x3 + 3) Ln) <|
      grd (inb (x3 + 4) Ln) <|
      grd (inb (x3 + 5) Ln) <|
      bnd2 (f_Mo_caster N σ308 (xs ((x3 + 1).toNatClampNeg)) (xs ((x3 + 2).toNatClampNeg)) (xs ((x3 + 3).toNatClampNeg)) (xs ((x3 + 4).toNatClampNeg)) (xs ((x3 + 5).toNatClampNeg))) fun r337 σ337 =>
      if r308 = r337 then
        (letv (x3 + 8) fun v1549 =>
        rec v1549 σ337)
      else
        (some (0, σ337)))
    else
    if v33 = 3 then
      (grd (inb (x3 + 1) Ln) <|
      grd (inb (x3 + 2) Ln) <|
      grd (inb (x3 + 3) Ln) <|
      grd (inb (x3 + 4) Ln) <|
      grd (inb (x3 + 5) Ln) <|
      bnd2 (f_Sh_awning σ (xs ((x3 + 1).toNatClampNeg)) (xs ((x3 + 2).toNatClampNeg)) (xs ((x3 + 3).toNatClampNeg)) (xs ((x3 + 4).toNatClampNeg)) (xs ((x3 + 5).toNatClampNeg))) fun r371 σ371 =>
      grd (inb (x3 + 1) Ln) <|
      grd (inb (x3 + 2) Ln) <|
      grd (inb (x3 + 3) Ln) <|
      grd (inb (x3 + 4) Ln) <|
      grd (inb (x3 + 5) Ln) <|
      bnd2 (f_Mo_awning σ371 (xs ((x3 + 1).toNatClampNeg)) (xs ((x3 + 2).toNatClampNeg)) (xs ((x3 + 3).toNatClampNeg)) (xs ((x3 + 4).toNatClampNeg)) (xs ((x3 + 5).toNatClampNeg))) fun r400 σ400 =>
      if r371 = r400 then
        (letv (x3 + 8) fun v1549 =>
        rec v1549 σ400)
      else
        (some (0, σ400)))
    else
    if v33 = 4 then
      (grd (inb (x3 + 1) Ln) <|
      bnd2 (f_Sh_down σ (xs ((x3 + 1).toNatClampNeg))) fun r414 σ414 =>
      grd (inb (x3 + 1) Ln) <|
      bnd2 (f_Mo_down σ414 (xs ((x3 + 1).toNatClampNeg))) fun r423 σ423 =>
      if r414 = r423 then
        (letv (x3 + 8) fun v1549 =>
        rec v1549 σ423)
      else
        (some (0, σ423)))
    else
    if v33 = 5 then
      (grd (inb (x3 + 1) Ln) <|
      grd (inb (x3 + 2) Ln) <|
      grd (inb (x3 + 3) Ln) <|
      bnd2 (f_Sh_move N σ (xs ((x3 + 1).toNatClampNeg)) (xs ((x3 + 2).toNatClampNeg)) (xs ((x3 + 3).toNatClampNeg))) fun r447 σ447 =>
      grd (inb (x3 + 1) Ln) <|
      grd (inb (x3 + 2) Ln) <|
      grd (inb (x3 + 3) Ln) <|
      bnd2 (f_Mo_move N σ447 (xs ((x3 + 1).toNatClampNeg)) (xs ((x3 + 2).toNatClampNeg)) (xs ((x3 + 3).toNatClampNeg))) fun r466 σ466 =>
      if r447 = r466 then
        (letv (x3 + 8) fun v1549 =>
        rec v1549 σ466)
      else
        (some (0, σ466)))
    else
    if v33 = 6 then
      (grd (inb (x3 + 1) Ln) <|
      bnd2 (f_Sh_season σ (xs ((x3 + 1).toNatClampNeg))) fun r480 σ480 =>
      grd (inb (x3 + 1) Ln) <|
      bnd2 (f_Mo_season σ480 (xs ((x3 + 1).toNatClampNeg))) fun r489 σ489 =>
      if r480 = r489 then
        (letv (x3 + 8) fun v1549 =>
        rec v1549 σ489)
      else
        (some (0, σ489)))
    else
    if v33 = 7 then
      (grd (inb (x3 + 1) Ln) <|
      grd (inb (x3 + 2) Ln) <|
      bnd1 (f_Sh_casterIs σ (xs ((x3 + 1).toNatClampNeg)) (xs ((x3 + 2).toNatClampNeg))) fun r508 =>
      grd (inb (x3 + 1) Ln) <|
      grd (inb (x3 + 2) Ln) <|
      bnd1 (f_Mo_casterIs σ (xs ((x3 + 1).toNatClampNeg)) (xs ((x3 + 2).toNatClampNeg))) fun r522 =>
      if r508 = r522 then
        (letv (x3 + 8) fun v1549 =>
        rec v1549 σ)
      else
        (some (0, σ)))
    else
    if v33 = 8 then
      (grd (inb (x3 + 1) Ln) <|
      grd (inb (x3 + 2) Ln) <|
      bnd2 (f_Sh_sun N σ (xs ((x3 + 1).toNatClampNeg)) (xs ((x3 + 2).toNatClampNeg))) fun r541 σ541 =>
      grd (inb (x3 + 1) Ln) <|
      grd (inb (x3 + 2) Ln) <|
      bnd2 (f_Mo_sun N σ541 (xs ((x3 + 1).toNatClampNeg)) (xs ((x3 + 2).toNatClampNeg))) fun r555 σ555 =>
      if r541 = r555 then
        (letv (x3 + 8) fun v1549 =>
        rec v1549 σ555)
      else
        (some (0, σ555)))
    else
    if v33 = 9 then
      (grd (inb (x3 + 1) Ln) <|
      grd (inb (x3 + 2) Ln) <|
      grd (inb (x3 + 3) Ln) <|
      bnd2 (f_Sh_shade N σ (xs ((x3 + 1).toNatClampNeg)) (xs ((x3 + 2).toNatClampNeg)) (xs ((x3 + 3).toNatClampNeg))) fun r579 σ579 =>
      grd (inb (x3 + 1) Ln) <|
      grd (inb (x3 + 2) Ln) <|
      grd (inb (x3 + 3) Ln) <|
      bnd2 (f_Mo_shade N σ579 (xs ((x3 + 1).toNatClampNeg)) (xs ((x3 + 2).toNatClampNeg)) (xs ((x3 + 3).toNatClampNeg))) fun r598 σ598 =>
      if r579 = r598 then
        (letv (x3 + 8) fun v1549 =>
        rec v1549 σ598)
      else
        (some (0, σ598)))
    else
    if v33 = 10 then
      (grd (inb (x3 + 1) Ln) <|
      grd (inb (x3 + 2) Ln) <|
      grd (inb (x3 + 3) Ln) <|
      bnd2 (f_Sh_price N σ (xs ((x3 + 1).toNatClampNeg)) (xs ((x3 + 2).toNatClampNeg)) (xs ((x3 + 3).toNatClampNeg))) fun r622 σ622 =>
      grd (inb (x3 + 1) Ln) <|
      grd (inb (x3 + 2) Ln) <|
      grd (inb (x3 + 3) Ln) <|
      bnd2 (f_Mo_price N σ622 (xs ((x3 + 1).toNatClampNeg)) (xs ((x3 + 2).toNatClampNeg)) (xs ((x3 + 3).toNatClampNeg))) fun r641 σ641 =>
      if r622 = r641 then
        (letv (x3 + 8) fun v1549 =>
        rec v1549 σ641)
      else
        (some (0, σ641)))
    else
    if v33 = 11 then
      (grd (inb (x3 + 1) Ln) <|
      grd (inb (x3 + 2) Ln) <|
      bnd2 (f_Sh_cast N σ (xs ((x3 + 1).toNatClampNeg)) (xs ((x3 + 2).toNatClampNeg))) fun r660 σ660 =>
      grd (inb (x3 + 1) Ln) <|
      grd (inb (x3 + 2) Ln) <|
      bnd2 (f_Mo_cast N σ660 (xs ((x3 + 1).toNatClampNeg)) (xs ((x3 + 2).toNatClampNeg))) fun r674 σ674 =>
      if r660 = r674 then
        (letv (x3 + 8) fun v1549 =>
        rec v1549 σ674)
      else
        (some (0, σ674)))
    else
    if v33 = 12 then
      (grd (inb (x3 + 1) Ln) <|
      grd (inb (x3 + 2) Ln) <|
      bnd2 (f_Sh_led N σ (xs ((x3 + 1).toNatClampNeg)) (xs ((x3 + 2).toNatClampNeg))) fun r693 σ693 =>
      grd (inb (x3 + 1) Ln) <|
      grd (inb (x3 + 2) Ln) <|
      bnd2 (f_Mo_led N σ693 (xs ((x3 + 1).toNatClampNeg)) (xs ((x3 + 2).toNatClampNeg))) fun r707 σ707 =>
      if (lg_cmp r693 r707) = 0 then
        (letv (x3 + 8) fun v1549 =>
        rec v1549 σ707)
      else
        (some (0, σ707)))
    else
    if v33 = 13 then
      (grd (inb (x3 + 1) Ln) <|
      grd (inb (x3 + 2) Ln) <|
      grd (inb (x3 + 3) Ln) <|
      bnd2 (f_Sh_longest N σ (xs ((x3 + 1).toNatClampNeg)) (xs ((x3 + 2).toNatClampNeg)) (xs ((x3 + 3).toNatClampNeg))) fun r732 σ732 =>
      grd (inb (x3 + 1) Ln) <|
      grd (inb (x3 + 2) Ln) <|
      grd (inb (x3 + 3) Ln) <|
      bnd2 (f_Mo_longest N σ732 (xs ((x3 + 1).toNatClampNeg)) (xs ((x3 + 2).toNatClampNeg)) (xs ((x3 + 3).toNatClampNeg))) fun r751 σ751 =>
      if r732 = r751 then
        (letv (x3 + 8) fun v1549 =>
        rec v1549 σ751)
      else
        (some (0, σ751)))
    else
    if v33 = 14 then
      (grd (inb (x3 + 1) Ln) <|
      bnd2 (f_Sh_donkey N σ (xs ((x3 + 1).toNatClampNeg))) fun r765 σ765 =>
      grd (inb (x3 + 1) Ln) <|
      bnd2 (f_Mo_donkey N σ765 (xs ((x3 + 1).toNatClampNeg))) fun r774 σ774 =>
      if r765 = r774 then
        (letv (x3 + 8) fun v1549 =>
        rec v1549 σ774)
      else
        (some (0, σ774)))
    else
    if v33 = 15 then
      (grd (inb (x3 + 1) Ln) <|
      grd (inb (x3 + 2) Ln) <|
      grd (inb (x3 + 3) Ln) <|
      bnd2 (f_Sh_strip N σ (xs ((x3 + 1).toNatClampNeg)) (xs ((x3 + 2).toNatClampNeg)) (xs ((x3 + 3).toNatClampNeg))) fun r798 σ798 =>
      grd (inb (x3 + 1) Ln) <|
      grd (inb (x3 + 2) Ln) <|
      grd (inb (x3 + 3) Ln) <|
      bnd2 (f_Mo_strip N σ798 (xs ((x3 + 1).toNatClampNeg)) (xs ((x3 + 2).toNatClampNeg)) (xs ((x3 + 3).toNatClampNeg))) fun r817 σ817 =>
      if r798 = r817 then
        (letv (x3 + 8) fun v1549 =>
        rec v1549 σ817)
      else
        (some (0, σ817)))
    else
    if v33 = 16 then
      (grd (inb (x3 + 1) Ln) <|
      grd (inb (x3 + 2) Ln) <|
      grd (inb (x3 + 3) Ln) <|
      grd (inb (x3 + 4) Ln) <|
      bnd2 (f_Sh_walk N σ (xs ((x3 + 1).toNatClampNeg)) (xs ((x3 + 2).toNatClampNeg)) (xs ((x3 + 3).toNatClampNeg)) (xs ((x3 + 4).toNatClampNeg))) fun r846 σ846 =>
      grd (inb (x3 + 1) Ln) <|
      grd (inb (x3 + 2) Ln) <|
      grd (inb (x3 + 3) Ln) <|
      grd (inb (x3 + 4) Ln) <|
      bnd2 (f_Mo_walk N σ846 (xs ((x3 + 1).toNatClampNeg)) (xs ((x3 + 2).toNatClampNeg)) (xs ((x3 + 3).toNatClampNeg)) (xs ((x3 + 4).toNatClampNeg))) fun r870 σ870 =>
      if r846 = r870 then
        (letv (x3 + 8) fun v1549 =>
        rec v1549 σ870)
      else
        (some (0, σ870)))
    else
    if v33 = 17 then
      (grd (inb (x3 + 1) Ln) <|
      grd (inb (x3 + 2) Ln) <|
      grd (inb (x3 + 3) Ln) <|
      bnd2 (f_Sh_buyer σ (xs ((x3 + 1).toNatClampNeg)) (xs ((x3 + 2).toNatClampNeg)) (xs ((x3 + 3).toNatClampNeg))) fun r894 σ894 =>
      grd (inb (x3 + 1) Ln) <|
      grd (inb (x3 + 2) Ln) <|
      grd (inb (x3 + 3) Ln) <|
      bnd2 (f_Mo_buyer σ894 (xs ((x3 + 1).toNatClampNeg)) (xs ((x3 + 2).toNatClampNeg)) (xs ((x3 + 3).toNatClampNeg))) fun r913 σ913 =>
      if r894 = r913 then
        (letv (x3 + 8) fun v1549 =>
        rec v1549 σ913)
      else
        (some (0, σ913)))
    else
    if v33 = 18 then
      (grd (inb (x3 + 1) Ln) <|
      grd (inb (x3 + 2) Ln) <|
      grd (inb (x3 + 3) Ln) <|
      grd (inb (x3 + 4) Ln) <|
      bnd2 (f_Sh_worth N σ (xs ((x3 + 1).toNatClampNeg)) (xs ((x3 + 2).toNatClampNeg)) (xs ((x3 + 3).toNatClampNeg)) (xs ((x3 + 4).toNatClampNeg))) fun r942 σ942 =>
      grd (inb (x3 + 1) Ln) <|
      grd (inb (x3 + 2) Ln) <|
      grd (inb (x3 + 3) Ln) <|
      grd (inb (x3 + 4) Ln) <|
      bnd2 (f_Mo_worth N σ942 (xs ((x3 + 1).toNatClampNeg)) (xs ((x3 + 2).toNatClampNeg)) (xs ((x3 + 3).toNatClampNeg)) (xs ((x3 + 4).toNatClampNeg))) fun r966 σ966 =>
      if r942 = r966 then
        (letv (x3 + 8) fun v1549 =>
        rec v1549 σ966)
      else
        (some (0, σ966)))
    else
    if v33 = 19 then
      (grd (inb (x3 + 1) Ln) <|
      grd (inb (x3 + 2) Ln) <|
      grd (inb (x3 + 3) Ln) <|
      bnd2 (f_Sh_sale N σ (xs ((x3 + 1).toNatClampNeg)) (xs ((x3 + 2).toNatClampNeg)) (xs ((x3 + 3).toNatClampNeg))) fun r990 σ990 =>
      grd (inb (x3 + 1) Ln) <|
      grd (inb (x3 + 2) Ln) <|
      grd (inb (x3 + 3) Ln) <|
      bnd2 (f_Mo_sale N σ990 (xs ((x3 + 1).toNatClampNeg)) (xs ((x3 + 2).toNatClampNeg)) (xs ((x3 + 3).toNatClampNeg))) fun r1009 σ1009 =>
      if r990 = r1009 then
        (letv (x3 + 8) fun v1549 =>
        rec v1549 σ1009)
      else
        (some (0, σ1009)))
    else
    if v33 = 20 then
      (grd (inb (x3 + 1) Ln) <|
      grd (inb (x3 + 2) Ln) <|
      grd (inb (x3 + 3) Ln) <|
      grd (inb (x3 + 4) Ln) <|
      grd (inb (x3 + 5) Ln) <|
      grd (inb (x3 + 6) Ln) <|
      bnd1 ((
        if (xs ((x3 + 6).toNatClampNeg)) = 0 then
          (some 0)
        else
          (some 1)) : Option (Int32)) fun y1049_s6 =>
      grd (inb (x3 + 7) Ln) <|
      bnd2 (f_Sh_wish σ (xs ((x3 + 1).toNatClampNeg)) (xs ((x3 + 2).toNatClampNeg)) (xs ((x3 + 3).toNatClampNeg)) (xs ((x3 + 4).toNatClampNeg)) (xs ((x3 + 5).toNatClampNeg)) y1049_s6 (xs ((x3 + 7).toNatClampNeg))) fun r1063 σ1063 =>
      grd (inb (x3 + 1) Ln) <|
      grd (inb (x3 + 2) Ln) <|
      grd (inb (x3 + 3) Ln) <|
      grd (inb (x3 + 4) Ln) <|
      grd (inb (x3 + 5) Ln) <|
      grd (inb (x3 + 6) Ln) <|
      bnd1 ((
        if (xs ((x3 + 6).toNatClampNeg)) = 0 then
          (some 0)
        else
          (some 1)) : Option (Int32)) fun y1098_s7 =>
      grd (inb (x3 + 7) Ln) <|
      bnd2 (f_Mo_wish σ1063 (xs ((x3 + 1).toNatClampNeg)) (xs ((x3 + 2).toNatClampNeg)) (xs ((x3 + 3).toNatClampNeg)) (xs ((x3 + 4).toNatClampNeg)) (xs ((x3 + 5).toNatClampNeg)) y1098_s7 (xs ((x3 + 7).toNatClampNeg))) fun r1112 σ1112 =>
      if r1063 = r1112 then
        (letv (x3 + 8) fun v1549 =>
        rec v1549 σ1112)
      else
        (some (0, σ1112)))
    else
    if v33 = 21 then
      (grd (inb (x3 + 1) Ln) <|
      bnd2 (f_Sh_kept N σ (xs ((x3 + 1).toNatClampNeg))) fun r1126 σ1126 =>
      grd (inb (x3 + 1) Ln) <|
      bnd2 (f_Mo_kept N σ1126 (xs ((x3 + 1).toNatClampNeg))) fun r1135 σ1135 =>
      if r1126 = r1135 then
        (letv (x3 + 8) fun v1549 =>
        rec v1549 σ1135)
      else
        (some (0, σ1135)))
    else
    if v33 = 22 then
      (bnd2 (f_Sh_happy N σ) fun r1144 σ1144 =>
      bnd2 (f_Mo_happy N σ1144) fun r1148 σ1148 =>
      if r1144 = r1148 then
        (letv (x3 + 8) fun v1549 =>
        rec v1549 σ1148)
      else
        (some (0, σ1148)))
    else
    if v33 = 23 then
      (grd (inb (x3 + 1) Ln) <|
      grd (inb (x3 + 2) Ln) <|
      bnd2 (f_Sh_storey N σ (xs ((x3 + 1).toNatClampNeg)) (xs ((x3 + 2).toNatClampNeg))) fun r1167 σ1167 =>
      grd (inb (x3 + 1) Ln) <|
      grd (inb (x3 + 2) Ln) <|
      bnd2 (f_Mo_storey N σ1167 (xs ((x3 + 1).toNatClampNeg)) (xs ((x3 + 2).toNatClampNeg))) fun r1181 σ1181 =>
      if r1167 = r1181 then
        (letv (x3 + 8) fun v1549 =>
        rec v1549 σ1181)
      else
        (some (0, σ1181)))
    else
    if v33 = 24 then
      (grd (inb (x3 + 1) Ln) <|
      grd (inb (x3 + 2) Ln) <|
      bnd2 (f_Sh_bestAwning N σ (xs ((x3 + 1).toNatClampNeg)) (xs ((x3 + 2).toNatClampNeg))) fun r1200 σ1200 =>
      grd (inb (x3 + 1) Ln) <|
      grd (inb (x3 + 2) Ln) <|
      bnd2 (f_Mo_bestAwning N σ1200 (xs ((x3 + 1).toNatClampNeg)) (xs ((x3 + 2).toNatClampNeg))) fun r1214 σ1214 =>
      if r1200 = r1214 then
        (letv (x3 + 8) fun v1549 =>
        rec v1549 σ1214)
      else
        (some (0, σ1214)))
    else
    if v33 = 25 then
      (grd (inb (x3 + 1) Ln) <|
      grd (inb (x3 + 2) Ln) <|
      grd (inb (x3 + 3) Ln) <|
      grd (inb (x3 + 4) Ln) <|
      bnd2 (f_Sh_hat N σ (xs ((x3 + 1).toNatClampNeg)) (xs ((x3 + 2).toNatClampNeg)) (xs ((x3 + 3).toNatClampNeg)) (xs ((x3 + 4).toNatClampNeg))) fun r1243 σ1243 =>
      grd (inb (x3 + 1) Ln) <|
      grd (inb (x3 + 2) Ln) <|
      grd (inb (x3 + 3) Ln) <|
      grd (inb (x3 + 4) Ln) <|
      bnd2 (f_Mo_hat N σ1243 (xs ((x3 + 1).toNatClampNeg)) (xs ((x3 + 2).toNatClampNeg)) (xs ((x3 + 3).toNatClampNeg)) (xs ((x3 + 4).toNatClampNeg))) fun r1267 σ1267 =>
      if r1243 = r1267 then
        (letv (x3 + 8) fun v1549 =>
        rec v1549 σ1267)
      else
        (some (0, σ1267)))
    else
    if v33 = 26 then
      (bnd2 (f_Sh_takenDown N σ) fun r1276 σ1276 =>
      bnd2 (f_Mo_takenDown N σ1276) fun r1280 σ1280 =>
      if r1276 = r1280 then
        (letv (x3 + 8) fun v1549 =>
        rec v1549 σ1280)
      else
        (some (0, σ1280)))
    else
    if v33 = 27 then
      (grd (inb (x3 + 1) Ln) <|
      grd (inb (x3 + 2) Ln) <|
      bnd2 (f_Sh_noon N σ (xs ((x3 + 1).toNatClampNeg)) (xs ((x3 + 2).toNatClampNeg))) fun r1299 σ1299 =>
      grd (inb (x3 + 1) Ln) <|
      grd (inb (x3 + 2) Ln) <|
      bnd2 (f_Mo_noon N σ1299 (xs ((x3 + 1).toNatClampNeg)) (xs ((x3 + 2).toNatClampNeg))) fun r1313 σ1313 =>
      if r1299 = r1313 then
        (letv (x3 + 8) fun v1549 =>
        rec v1549 σ1313)
      else
        (some (0, σ1313)))
    else
    if v33 = 28 then
      (grd (inb (x3 + 1) Ln) <|
      bnd2 (f_Sh_years N σ (xs ((x3 + 1).toNatClampNeg))) fun r1327 σ1327 =>
      grd (inb (x3 + 1) Ln) <|
      bnd2 (f_Mo_years N σ1327 (xs ((x3 + 1).toNatClampNeg))) fun r1336 σ1336 =>
      if r1327 = r1336 then
        (letv (x3 + 8) fun v1549 =>
        rec v1549 σ1336)
      else
        (some (0, σ1336)))
    else
    if v33 = 29 then
      (grd (inb (x3 + 1) Ln) <|
      bnd2 (f_Sh_days N σ (xs ((x3 + 1).toNatClampNeg))) fun r1350 σ1350 =>
      grd (inb (x3 + 1) Ln) <|
      bnd2 (f_Mo_days N σ1350 (xs ((x3 + 1).toNatClampNeg))) fun r1359 σ1359 =>
      if r1350 = r1359 then
        (letv (x3 + 8) fun v1549 =>
        rec v1549 σ1359)
      else
        (some (0, σ1359)))
    else
    if v33 = 30 then
      (grd (inb (x3 + 1) Ln) <|
      bnd1 (f_Sh_purse σ (xs ((x3 + 1).toNatClampNeg))) fun r1373 =>
      grd (inb (x3 + 1) Ln) <|
      bnd1 (f_Mo_purse σ (xs ((x3 + 1).toNatClampNeg))) fun r1382 =>
      if r1373 = r1382 then
        (letv (x3 + 8) fun v1549 =>
        rec v1549 σ)
      else
        (some (0, σ)))
    else
    if v33 = 31 then
      (grd (inb (x3 + 1) Ln) <|
      grd (inb (x3 + 2) Ln) <|
      grd (inb (x3 + 3) Ln) <|
      bnd2 (f_Sh_odds N σ (xs ((x3 + 1).toNatClampNeg)) (xs ((x3 + 2).toNatClampNeg)) (xs ((x3 + 3).toNatClampNeg))) fun r1406 σ1406 =>
      grd (inb (x3 + 1) Ln) <|
      grd (inb (x3 + 2) Ln) <|
      grd (inb (x3 + 3) Ln) <|
      bnd2 (f_Mo_odds N σ1406 (xs ((x3 + 1).toNatClampNeg)) (xs ((x3 + 2).toNatClampNeg)) (xs ((x3 + 3).toNatClampNeg))) fun r1425 σ1425 =>
      if (lg_cmp r1406 r1425) = 0 then
        (letv (x3 + 8) fun v1549 =>
        rec v1549 σ1425)
      else
        (some (0, σ1425)))
    else
    if v33 = 32 then
      (grd (inb (x3 + 1) Ln) <|
      bnd2 (f_Sh_seed σ (xs ((x3 + 1).toNatClampNeg))) fun r1440 σ1440 =>
      grd (inb (x3 + 1) Ln) <|
      bnd2 (f_Mo_seed σ1440 (xs ((x3 + 1).toNatClampNeg))) fun r1449 σ1449 =>
      if r1440 = r1449 then
        (letv (x3 + 8) fun v1549 =>
        rec v1549 σ1449)
      else
        (some (0, σ1449)))
    else
    if v33 = 33 then
      (bnd2 (f_Sh_keep σ) fun r1458 σ1458 =>
      bnd2 (f_Mo_keep N σ1458) fun r1462 σ1462 =>
      if r1458 = r1462 then
        (letv (x3 + 8) fun v1549 =>
        rec v1549 σ1462)
      else
        (some (0, σ1462)))
    else
    if v33 = 34 then
      (bnd2 (f_Sh_undo σ) fun r1471 σ1471 =>
      bnd2 (f_Mo_undo N σ1471) fun r1475 σ1475 =>
      if r1471 = r1475 then
        (letv (x3 + 8) fun v1549 =>
        rec v1549 σ1475)
      else
        (some (0, σ1475)))
    else
    if v33 = 35 then
      (grd (inb (x3 + 1) Ln) <|
      grd (inb (x3 + 2) Ln) <|
      grd (inb (x3 + 3) Ln) <|
      bnd2 (f_Sh_check N σ (xs ((x3 + 1).toNatClampNeg)) (xs ((x3 + 2).toNatClampNeg)) (xs ((x3 + 3).toNatClampNeg))) fun r1499 σ1499 =>
      grd (inb (x3 + 1) Ln) <|
      grd (inb (x3 + 2) Ln) <|
      grd (inb (x3 + 3) Ln) <|
      bnd2 (f_Mo_check N σ1499 (xs ((x3 + 1).toNatClampNeg)) (xs ((x3 + 2).toNatClampNeg)) (xs ((x3 + 3).toNatClampNeg))) fun r1518 σ1518 =>
      if r1499 = r1518 then
        (letv (x3 + 8) fun v1549 =>
        rec v1549 σ1518)
      else
        (some (0, σ1518)))
    else
    if v33 = 36 then
      (grd (inb (x3 + 1) Ln) <|
      bnd2 (f_Sh_count N σ (xs ((x3 + 1).toNatClampNeg))) fun r1532 σ1532 =>
      grd (inb (x3 + 1) Ln) <|
      bnd2 (f_Mo_count N σ1532 (xs ((x3 + 1).toNatClampNeg))) fun r1541 σ1541 =>
      if r1532 = r1541 then
        (letv (x3 + 8) fun v1549 =>
        rec v1549 σ1541)
      else
        (some (0, σ1541)))
    else
    (letv (x3 + 8) fun v1549 =>
    rec v1549 σ))
def L_law_l18 (N : Nat) (Ln : Nat) (xs : Nat → Int32) : Nat → Int32 → Mem → Option (Int32 × Mem)
  | 0, _, _ => none
  | k + 1, x3, σ => B_law_l18 N Ln xs (L_law_l18 N Ln xs k) x3 σ
set_option maxHeartbeats 4000000 in
set_option maxRecDepth 20000 in
theorem cL_law_l18 (Z : ZX) {Y : YX} {Qw : State → Prop} {N : Nat} {sb Ln : Nat} {xs : Nat → Int32} (hX : XOk (mkB Z) Y sb Ln xs) (hRm : Y.2.2.1 = room_1) {Good : Int32 × Mem → Prop} (hT : ∀ (σ : Mem) (pc : Nat) (lv : List (Nat × Value)), decode code pc = .ok (.ireturn, 1) → V (mkB Z) Y m_Lw_law 49 Qw kLw sLw nC σ pc lv [.int 1]) (hG1 : ∀ (v : Int32) (σr : Mem), Good (v, σr) → v = 1) : ∀ (k : Nat) (x3 : Int32) (σ : Mem) (res : Int32 × Mem), L_law_l18 N Ln xs k x3 σ = some res → Good res → V (mkB Z) Y m_Lw_law 49 Qw kLw sLw nC σ 18 [(0, .ref sb), (1, rf Z 0), (2, rf Z 65), (3, .int x3)] [] := by
  intro k
  induction k with
  | zero => intro x3 σ res h; cases h
  | succ k ih =>
    intro x3 σ res h hg
    replace h : B_law_l18 N Ln xs (L_law_l18 N Ln xs k) x3 σ = some res := h
    unfold B_law_l18 at h
    refine V.iload_n d_Lw_law_18 rfl 3 rfl ?_
    refine V.aload_n d_Lw_law_19 rfl 0 rfl ?_
    refine V.xlen hX d_Lw_law_20 ?_
    refine V.bipush (v := 8) d_Lw_law_21 (by decide) ?_
    refine V.isub d_Lw_law_23 ?_
    refine V.icmp_gt (tgt := 1555) d_Lw_law_24 (by decide) (fun hc24 => ?_) (fun hc24 => ?_)
    · replace h := ite_t hc24 h
      refine V.iconst (v := 1) d_Lw_law_1555 (by decide) ?_
      cases h
      exact hT _ _ _ d_Lw_law_1556
    · replace h := ite_f hc24 h
      refine V.aload_n d_Lw_law_27 rfl 0 rfl ?_
      refine V.iload_n d_Lw_law_28 rfl 3 rfl ?_
      obtain ⟨gq, h⟩ := grd_e h
      refine V.xld hX (inb_e gq) rfl d_Lw_law_29 ?_
      refine V.bipush (v := 63) d_Lw_law_30 (by decide) ?_
      refine V.iand d_Lw_law_32 ?_
      obtain ⟨v33, e_v33, h⟩ := letv_e h
      refine V.topI e_v33 ?_
      by_cases hs33_0 : v33 = 0
      · replace h := ite_t hs33_0 h
        refine V.tin (c := 0) (tgt := 196) d_Lw_law_33 hs33_0 (by decide) (by decide) rfl (by decide) ?_
        refine V.aload_n d_Lw_law_196 rfl 1 rfl ?_
        refine V.aload_n d_Lw_law_197 rfl 0 rfl ?_
        refine V.iload_n d_Lw_law_198 rfl 3 rfl ?_
        refine V.iconst (v := 1) d_Lw_law_199 (by decide) ?_
        refine V.iadd d_Lw_law_200 ?_
        obtain ⟨gq, h⟩ := grd_e h
        refine V.xld hX (inb_e gq) rfl d_Lw_law_201 ?_
        refine V.aload_n d_Lw_law_202 rfl 0 rfl ?_
        refine V.iload_n d_Lw_law_203 rfl 3 rfl ?_
        refine V.iconst (v := 2) d_Lw_law_204 (by decide) ?_
        refine V.iadd d_Lw_law_205 ?_
        obtain ⟨gq, h⟩ := grd_e h
        refine V.xld hX (inb_e gq) rfl d_Lw_law_206 ?_
        refine V.aload_n d_Lw_law_207 rfl 0 rfl ?_
        refine V.iload_n d_Lw_law_208 rfl 3 rfl ?_
        refine V.iconst (v := 3) d_Lw_law_209 (by decide) ?_
        refine V.iadd d_Lw_law_210 ?_
        obtain ⟨gq, h⟩ := grd_e h
        refine V.xld hX (inb_e gq) rfl d_Lw_law_211 ?_
        refine V.aload_n d_Lw_law_212 rfl 0 rfl ?_
        refine V.iload_n d_Lw_law_213 rfl 3 rfl ?_
        refine V.iconst (v := 4) d_Lw_law_214 (by decide) ?_
        refine V.iadd d_Lw_law_215 ?_
        obtain ⟨gq, h⟩ := grd_e h
        refine V.xld hX (inb_e gq) rfl d_Lw_law_216 ?_
        refine V.aload_n d_Lw_law_217 rfl 0 rfl ?_
        refine V.iload_n d_Lw_law_218 rfl 3 rfl ?_
        refine V.iconst (v := 5) d_Lw_law_219 (by decide) ?_
        refine V.iadd d_Lw_law_220 ?_
        obtain ⟨gq, h⟩ := grd_e h
        refine V.xld hX (inb_e gq) rfl d_Lw_law_221 ?_
        obtain ⟨r222, σ222, h1, h⟩ := bnd2_e h
        refine V.wI hRm (as := [.int (xs ((x3 + 1).toNatClampNeg)), .int (xs ((x3 + 2).toNatClampNeg)), .int (xs ((x3 + 3).toNatClampNeg)), .int (xs ((x3 + 4).toNatClampNeg)), .int (xs ((x3 + 5).toNatClampNeg))]) (st := []) (c_Sh_feed Z h1) k_Sh_feed lk_Lw_13 (by decide) rfl (by decide) ly_0 ok_Sh.1 rfl (Nat.le_of_ble_eq_true rfl) d_Lw_law_222 ?_
        refine V.aload_n d_Lw_law_225 rfl 2 rfl ?_
        refine V.aload_n d_Lw_law_226 rfl 0 rfl ?_
        refine V.iload_n d_Lw_law_227 rfl 3 rfl ?_
        refine V.iconst (v := 1) d_Lw_law_228 (by decide) ?_
        refine V.iadd d_Lw_law_229 ?_
        obtain ⟨gq, h⟩ := grd_e h
        refine V.xld hX (inb_e gq) rfl d_Lw_law_230 ?_
        refine V.aload_n d_Lw_law_231 rfl 0 rfl ?_
        refine V.iload_n d_Lw_law_232 rfl 3 rfl ?_
        refine V.iconst (v := 2) d_Lw_law_233 (by decide) ?_
        refine V.iadd d_Lw_law_234 ?_
        obtain ⟨gq, h⟩ := grd_e h
        refine V.xld hX (inb_e gq) rfl d_Lw_law_235 ?_
        refine V.aload_n d_Lw_law_236 rfl 0 rfl ?_
        refine V.iload_n d_Lw_law_237 rfl 3 rfl ?_
        refine V.iconst (v := 3) d_Lw_law_238 (by decide) ?_
        refine V.iadd d_Lw_law_239 ?_
        obtain ⟨gq, h⟩ := grd_e h
        refine V.xld hX (inb_e gq) rfl d_Lw_law_240 ?_
        refine V.aload_n d_Lw_law_241 rfl 0 rfl ?_
        refine V.iload_n d_Lw_law_242 rfl 3 rfl ?_
        refine V.iconst (v := 4) d_Lw_law_243 (by decide) ?_
        refine V.iadd d_Lw_law_244 ?_
        obtain ⟨gq, h⟩ := grd_e h
        refine V.xld hX (inb_e gq) rfl d_Lw_law_245 ?_
        refine V.aload_n d_Lw_law_246 rfl 0 rfl ?_
        refine V.iload_n d_Lw_law_247 rfl 3 rfl ?_
        refine V.iconst (v := 5) d_Lw_law_248 (by decide) ?_
        refine V.iadd d_Lw_law_249 ?_
        obtain ⟨gq, h⟩ := grd_e h
        refine V.xld hX (inb_e gq) rfl d_Lw_law_250 ?_
        obtain ⟨r251, σ251, h1, h⟩ := bnd2_e h
        refine V.wI hRm (as := [.int (xs ((x3 + 1).toNatClampNeg)), .int (xs ((x3 + 2).toNatClampNeg)), .int (xs ((x3 + 3).toNatClampNeg)), .int (xs ((x3 + 4).toNatClampNeg)), .int (xs ((x3 + 5).toNatClampNeg))]) (st := [.int r222]) (c_Mo_feed Z h1) k_Mo_feed lk_Lw_17 (by decide) rfl (by decide) ly_65 ok_Mo.1 rfl (Nat.le_of_ble_eq_true rfl) d_Lw_law_251 ?_
        refine V.icmp_eq (tgt := 1549) d_Lw_law_254 (by decide) (fun hc254 => ?_) (fun hc254 => ?_)
        · replace h := ite_t hc254 h
          obtain ⟨v1549, e_v1549, h⟩ := letv_e h
          refine V.iinc (v := v1549) (lv' := [(3, .int v1549), (0, .ref sb), (1, rf Z 0), (2, rf Z 65)]) d_Lw_law_1549 3 rfl (by rw [e_v1549]; rfl) (by decide) rfl ?_
          refine V.goto (tgt := 18) d_Lw_law_1552 (by decide) ?_
          exact V.pick [1, 2, 3, 0] rfl (ih _ _ _ h hg)
        · replace h := ite_f hc254 h
          refine V.iconst (v := 0) d_Lw_law_257 (by decide) ?_
          cases h
          exact absurd (hG1 _ _ hg) (by decide)
      · replace h := ite_f hs33_0 h
        by_cases hs33_1 : v33 = 1
        · replace h := ite_t hs33_1 h
          refine V.tin (c := 1) (tgt := 259) d_Lw_law_33 hs33_1 (by decide) (by decide) rfl (by decide) ?_
          refine V.aload_n d_Lw_law_259 rfl 1 rfl ?_
          refine V.aload_n d_Lw_law_260 rfl 0 rfl ?_
          refine V.iload_n d_Lw_law_261 rfl 3 rfl ?_
          refine V.iconst (v := 1) d_Lw_law_262 (by decide) ?_
          refine V.iadd d_Lw_law_263 ?_
          obtain ⟨gq, h⟩ := grd_e h
          refine V.xld hX (inb_e gq) rfl d_Lw_law_264 ?_
          obtain ⟨r265, σ265, h1, h⟩ := bnd2_e h
          refine V.wI hRm (as := [.int (xs ((x3 + 1).toNatClampNeg))]) (st := []) (c_Sh_law Z h1) k_Sh_law lk_Lw_18 (by decide) rfl (by decide) ly_0 ok_Sh.1 rfl (Nat.le_of_ble_eq_true rfl) d_Lw_law_265 ?_
          refine V.aload_n d_Lw_law_268 rfl 2 rfl ?_
          refine V.aload_n d_Lw_law_269 rfl 0 rfl ?_
          refine V.iload_n d_Lw_law_270 rfl 3 rfl ?_
          refine V.iconst (v := 1) d_Lw_law_271 (by decide) ?_
          refine V.iadd d_Lw_law_272 ?_
          obtain ⟨gq, h⟩ := grd_e h
          refine V.xld hX (inb_e gq) rfl d_Lw_law_273 ?_
          obtain ⟨r274, σ274, h1, h⟩ := bnd2_e h
          refine V.wI hRm (as := [.int (xs ((x3 + 1).toNatClampNeg))]) (st := [.int r265]) (c_Mo_law Z h1) k_Mo_law lk_Lw_22 (by decide) rfl (by decide) ly_65 ok_Mo.1 rfl (Nat.le_of_ble_eq_true rfl) d_Lw_law_274 ?_
          refine V.icmp_eq (tgt := 1549) d_Lw_law_277 (by decide) (fun hc277 => ?_) (fun hc277 => ?_)
          · replace h := ite_t hc277 h
            obtain ⟨v1549, e_v1549, h⟩ := letv_e h
            refine V.iinc (v := v1549) (lv' := [(3, .int v1549), (0, .ref sb), (1, rf Z 0), (2, rf Z 65)]) d_Lw_law_1549 3 rfl (by rw [e_v1549]; rfl) (by decide) rfl ?_
            refine V.goto (tgt := 18) d_Lw_law_1552 (by decide) ?_
            exact V.pick [1, 2, 3, 0] rfl (ih _ _ _ h hg)
          · replace h := ite_f hc277 h
            refine V.iconst (v := 0) d_Lw_law_280 (by decide) ?_
            cases h
            exact absurd (hG1 _ _ hg) (by decide)
        · replace h := ite_f hs33_1 h
          by_cases hs33_2 : v33 = 2
          · replace h := ite_t hs33_2 h
            refine V.tin (c := 2) (tgt := 282) d_Lw_law_33 hs33_2 (by decide) (by decide) rfl (by decide) ?_
            refine V.aload_n d_Lw_law_282 rfl 1 rfl ?_
            refine V.aload_n d_Lw_law_283 rfl 0 rfl ?_
            refine V.iload_n d_Lw_law_284 rfl 3 rfl ?_
            refine V.iconst (v := 1) d_Lw_law_285 (by decide) ?_
            refine V.iadd d_Lw_law_286 ?_
            obtain ⟨gq, h⟩ := grd_e h
            refine V.xld hX (inb_e gq) rfl d_Lw_law_287 ?_
            refine V.aload_n d_Lw_law_288 rfl 0 rfl ?_
            refine V.iload_n d_Lw_law_289 rfl 3 rfl ?_
            refine V.iconst (v := 2) d_Lw_law_290 (by decide) ?_
            refine V.iadd d_Lw_law_291 ?_
            obtain ⟨gq, h⟩ := grd_e h
            refine V.xld hX (inb_e gq) rfl d_Lw_law_292 ?_
            refine V.aload_n d_Lw_law_293 rfl 0 rfl ?_
            refine V.iload_n d_Lw_law_294 rfl 3 rfl ?_
            refine V.iconst (v := 3) d_Lw_law_295 (by decide) ?_
            refine V.iadd d_Lw_law_296 ?_
            obtain ⟨gq, h⟩ := grd_e h
            refine V.xld hX (inb_e gq) rfl d_Lw_law_297 ?_
            refine V.aload_n d_Lw_law_298 rfl 0 rfl ?_
            refine V.iload_n d_Lw_law_299 rfl 3 rfl ?_
            refine V.iconst (v := 4) d_Lw_law_300 (by decide) ?_
            refine V.iadd d_Lw_law_301 ?_
            obtain ⟨gq, h⟩ := grd_e h
            refine V.xld hX (inb_e gq) rfl d_Lw_law_302 ?_
            refine V.aload_n d_Lw_law_303 rfl 0 rfl ?_
            refine V.iload_n d_Lw_law_304 rfl 3 rfl ?_
            refine V.iconst (v := 5) d_Lw_law_305 (by decide) ?_
            refine V.iadd d_Lw_law_306 ?_
            obtain ⟨gq, h⟩ := grd_e h
            refine V.xld hX (inb_e gq) rfl d_Lw_law_307 ?_
            obtain ⟨r308, σ308, h1, h⟩ := bnd2_e h
            refine V.wI hRm (as := [.int (xs ((x3 + 1).toNatClampNeg)), .int (xs ((x3 + 2).toNatClampNeg)), .int (xs ((x3 + 3).toNatClampNeg)), .int (xs ((x3 + 4).toNatClampNeg)), .int (xs ((x3 + 5).toNatClampNeg))]) (st := []) (c_Sh_caster Z h1) k_Sh_caster lk_Lw_23 (by decide) rfl (by decide) ly_0 ok_Sh.1 rfl (Nat.le_of_ble_eq_true rfl) d_Lw_law_308 ?_
            refine V.aload_n d_Lw_law_311 rfl 2 rfl ?_
            refine V.aload_n d_Lw_law_312 rfl 0 rfl ?_
            refine V.iload_n d_Lw_law_313 rfl 3 rfl ?_
            refine V.iconst (v := 1) d_Lw_law_314 (by decide) ?_
            refine V.iadd d_Lw_law_315 ?_
            obtain ⟨gq, h⟩ := grd_e h
            refine V.xld hX (inb_e gq) rfl d_Lw_law_316 ?_
            refine V.aload_n d_Lw_law_317 rfl 0 rfl ?_
            refine V.iload_n d_Lw_law_318 rfl 3 rfl ?_
            refine V.iconst (v := 2) d_Lw_law_319 (by decide) ?_
            refine V.iadd d_Lw_law_320 ?_
            obtain ⟨gq, h⟩ := grd_e h
            refine V.xld hX (inb_e gq) rfl d_Lw_law_321 ?_
            refine V.aload_n d_Lw_law_322 rfl 0 rfl ?_
            refine V.iload_n d_Lw_law_323 rfl 3 rfl ?_
            refine V.iconst (v := 3) d_Lw_law_324 (by decide) ?_
            refine V.iadd d_Lw_law_325 ?_
            obtain ⟨gq, h⟩ := grd_e h
            refine V.xld hX (inb_e gq) rfl d_Lw_law_326 ?_
            refine V.aload_n d_Lw_law_327 rfl 0 rfl ?_
            refine V.iload_n d_Lw_law_328 rfl 3 rfl ?_
            refine V.iconst (v := 4) d_Lw_law_329 (by decide) ?_
            refine V.iadd d_Lw_law_330 ?_
            obtain ⟨gq, h⟩ := grd_e h
            refine V.xld hX (inb_e gq) rfl d_Lw_law_331 ?_
            refine V.aload_n d_Lw_law_332 rfl 0 rfl ?_
            refine V.iload_n d_Lw_law_333 rfl 3 rfl ?_
            refine V.iconst (v := 5) d_Lw_law_334 (by decide) ?_
            refine V.iadd d_Lw_law_335 ?_
            obtain ⟨gq, h⟩ := grd_e h
            refine V.xld hX (inb_e gq) rfl d_Lw_law_336 ?_
            obtain ⟨r337, σ337, h1, h⟩ := bnd2_e h
            refine V.wI hRm (as := [.int (xs ((x3 + 1).toNatClampNeg)), .int (xs ((x3 + 2).toNatClampNeg)), .int (xs ((x3 + 3).toNatClampNeg)), .int (xs ((x3 + 4).toNatClampNeg)), .int (xs ((x3 + 5).toNatClampNeg))]) (st := [.int r308]) (c_Mo_caster Z h1) k_Mo_caster lk_Lw_26 (by decide) rfl (by decide) ly_65 ok_Mo.1 rfl (Nat.le_of_ble_eq_true rfl) d_Lw_law_337 ?_
            refine V.icmp_eq (tgt := 1549) d_Lw_law_340 (by decide) (fun hc340 => ?_) (fun hc340 => ?_)
            · replace h := ite_t hc340 h
              obtain ⟨v1549, e_v1549, h⟩ := letv_e h
              refine V.iinc (v := v1549) (lv' := [(3, .int v1549), (0, .ref sb), (1, rf Z 0), (2, rf Z 65)]) d_Lw_law_1549 3 rfl (by rw [e_v1549]; rfl) (by decide) rfl ?_
              refine V.goto (tgt := 18) d_Lw_law_1552 (by decide) ?_
              exact V.pick [1, 2, 3, 0] rfl (ih _ _ _ h hg)
            · replace h := ite_f hc340 h
              refine V.iconst (v := 0) d_Lw_law_343 (by decide) ?_
              cases h
              exact absurd (hG1 _ _ hg) (by decide)
          · replace h := ite_f hs33_2 h
            by_cases hs33_3 : v33 = 3
            · replace h := ite_t hs33_3 h
              refine V.tin (c := 3) (tgt := 345) d_Lw_law_33 hs33_3 (by decide) (by decide) rfl (by decide) ?_
              refine V.aload_n d_Lw_law_345 rfl 1 rfl ?_
              refine V.aload_n d_Lw_law_346 rfl 0 rfl ?_
              refine V.iload_n d_Lw_law_347 rfl 3 rfl ?_
              refine V.iconst (v := 1) d_Lw_law_348 (by decide) ?_
              refine V.iadd d_Lw_law_349 ?_
              obtain ⟨gq, h⟩ := grd_e h
              refine V.xld hX (inb_e gq) rfl d_Lw_law_350 ?_
              refine V.aload_n d_Lw_law_351 rfl 0 rfl ?_
              refine V.iload_n d_Lw_law_352 rfl 3 rfl ?_
              refine V.iconst (v := 2) d_Lw_law_353 (by decide) ?_
              refine V.iadd d_Lw_law_354 ?_
              obtain ⟨gq, h⟩ := grd_e h
              refine V.xld hX (inb_e gq) rfl d_Lw_law_355 ?_
              refine V.aload_n d_Lw_law_356 rfl 0 rfl ?_
              refine V.iload_n d_Lw_law_357 rfl 3 rfl ?_
              refine V.iconst (v := 3) d_Lw_law_358 (by decide) ?_
              refine V.iadd d_Lw_law_359 ?_
              obtain ⟨gq, h⟩ := grd_e h
              refine V.xld hX (inb_e gq) rfl d_Lw_law_360 ?_
              refine V.aload_n d_Lw_law_361 rfl 0 rfl ?_
              refine V.iload_n d_Lw_law_362 rfl 3 rfl ?_
              refine V.iconst (v := 4) d_Lw_law_363 (by decide) ?_
              refine V.iadd d_Lw_law_364 ?_
              obtain ⟨gq, h⟩ := grd_e h
              refine V.xld hX (inb_e gq) rfl d_Lw_law_365 ?_
              refine V.aload_n d_Lw_law_366 rfl 0 rfl ?_
              refine V.iload_n d_Lw_law_367 rfl 3 rfl ?_
              refine V.iconst (v := 5) d_Lw_law_368 (by decide) ?_
              refine V.iadd d_Lw_law_369 ?_
              obtain ⟨gq, h⟩ := grd_e h
              refine V.xld hX (inb_e gq) rfl d_Lw_law_370 ?_
              obtain ⟨r371, σ371, h1, h⟩ := bnd2_e h
              refine V.wI hRm (as := [.int (xs ((x3 + 1).toNatClampNeg)), .int (xs ((x3 + 2).toNatClampNeg)), .int (xs ((x3 + 3).toNatClampNeg)), .int (xs ((x3 + 4).toNatClampNeg)), .int (xs ((x3 + 5).toNatClampNeg))]) (st := []) (c_Sh_awning Z h1) k_Sh_awning lk_Lw_27 (by decide) rfl (by decide) ly_0 ok_Sh.1 rfl (Nat.le_of_ble_eq_true rfl) d_Lw_law_371 ?_
              refine V.aload_n d_Lw_law_374 rfl 2 rfl ?_
              refine V.aload_n d_Lw_law_375 rfl 0 rfl ?_
              refine V.iload_n d_Lw_law_376 rfl 3 rfl ?_
              refine V.iconst (v := 1) d_Lw_law_377 (by decide) ?_
              refine V.iadd d_Lw_law_378 ?_
              obtain ⟨gq, h⟩ := grd_e h
              refine V.xld hX (inb_e gq) rfl d_Lw_law_379 ?_
              refine V.aload_n d_Lw_law_380 rfl 0 rfl ?_
              refine V.iload_n d_Lw_law_381 rfl 3 rfl ?_
              refine V.iconst (v := 2) d_Lw_law_382 (by decide) ?_
              refine V.iadd d_Lw_law_383 ?_
              obtain ⟨gq, h⟩ := grd_e h
              refine V.xld hX (inb_e gq) rfl d_Lw_law_384 ?_
              refine V.aload_n d_Lw_law_385 rfl 0 rfl ?_
              refine V.iload_n d_Lw_law_386 rfl 3 rfl ?_
              refine V.iconst (v := 3) d_Lw_law_387 (by decide) ?_
              refine V.iadd d_Lw_law_388 ?_
              obtain ⟨gq, h⟩ := grd_e h
              refine V.xld hX (inb_e gq) rfl d_Lw_law_389 ?_
              refine V.aload_n d_Lw_law_390 rfl 0 rfl ?_
              refine V.iload_n d_Lw_law_391 rfl 3 rfl ?_
              refine V.iconst (v := 4) d_Lw_law_392 (by decide) ?_
              refine V.iadd d_Lw_law_393 ?_
              obtain ⟨gq, h⟩ := grd_e h
              refine V.xld hX (inb_e gq) rfl d_Lw_law_394 ?_
              refine V.aload_n d_Lw_law_395 rfl 0 rfl ?_
              refine V.iload_n d_Lw_law_396 rfl 3 rfl ?_
              refine V.iconst (v := 5) d_Lw_law_397 (by decide) ?_
              refine V.iadd d_Lw_law_398 ?_
              obtain ⟨gq, h⟩ := grd_e h
              refine V.xld hX (inb_e gq) rfl d_Lw_law_399 ?_
              obtain ⟨r400, σ400, h1, h⟩ := bnd2_e h
              refine V.wI hRm (as := [.int (xs ((x3 + 1).toNatClampNeg)), .int (xs ((x3 + 2).toNatClampNeg)), .int (xs ((x3 + 3).toNatClampNeg)), .int (xs ((x3 + 4).toNatClampNeg)), .int (xs ((x3 + 5).toNatClampNeg))]) (st := [.int r371]) (c_Mo_awning Z h1) k_Mo_awning lk_Lw_30 (by decide) rfl (by decide) ly_65 ok_Mo.1 rfl (Nat.le_of_ble_eq_true rfl) d_Lw_law_400 ?_
              refine V.icmp_eq (tgt := 1549) d_Lw_law_403 (by decide) (fun hc403 => ?_) (fun hc403 => ?_)
              · replace h := ite_t hc403 h
                obtain ⟨v1549, e_v1549, h⟩ := letv_e h
                refine V.iinc (v := v1549) (lv' := [(3, .int v1549), (0, .ref sb), (1, rf Z 0), (2, rf Z 65)]) d_Lw_law_1549 3 rfl (by rw [e_v1549]; rfl) (by decide) rfl ?_
                refine V.goto (tgt := 18) d_Lw_law_1552 (by decide) ?_
                exact V.pick [1, 2, 3, 0] rfl (ih _ _ _ h hg)
              · replace h := ite_f hc403 h
                refine V.iconst (v := 0) d_Lw_law_406 (by decide) ?_
                cases h
                exact absurd (hG1 _ _ hg) (by decide)
            · replace h := ite_f hs33_3 h
              by_cases hs33_4 : v33 = 4
              · replace h := ite_t hs33_4 h
                refine V.tin (c := 4) (tgt := 408) d_Lw_law_33 hs33_4 (by decide) (by decide) rfl (by decide) ?_
                refine V.aload_n d_Lw_law_408 rfl 1 rfl ?_
                refine V.aload_n d_Lw_law_409 rfl 0 rfl ?_
                refine V.iload_n d_Lw_law_410 rfl 3 rfl ?_
                refine V.iconst (v := 1) d_Lw_law_411 (by decide) ?_
                refine V.iadd d_Lw_law_412 ?_
                obtain ⟨gq, h⟩ := grd_e h
                refine V.xld hX (inb_e gq) rfl d_Lw_law_413 ?_
                obtain ⟨r414, σ414, h1, h⟩ := bnd2_e h
                refine V.wI hRm (as := [.int (xs ((x3 + 1).toNatClampNeg))]) (st := []) (c_Sh_down Z h1) k_Sh_down lk_Lw_31 (by decide) rfl (by decide) ly_0 ok_Sh.1 rfl (Nat.le_of_ble_eq_true rfl) d_Lw_law_414 ?_
                refine V.aload_n d_Lw_law_417 rfl 2 rfl ?_
                refine V.aload_n d_Lw_law_418 rfl 0 rfl ?_
                refine V.iload_n d_Lw_law_419 rfl 3 rfl ?_
                refine V.iconst (v := 1) d_Lw_law_420 (by decide) ?_
                refine V.iadd d_Lw_law_421 ?_
                obtain ⟨gq, h⟩ := grd_e h
                refine V.xld hX (inb_e gq) rfl d_Lw_law_422 ?_
                obtain ⟨r423, σ423, h1, h⟩ := bnd2_e h
                refine V.wI hRm (as := [.int (xs ((x3 + 1).toNatClampNeg))]) (st := [.int r414]) (c_Mo_down Z h1) k_Mo_down lk_Lw_35 (by decide) rfl (by decide) ly_65 ok_Mo.1 rfl (Nat.le_of_ble_eq_true rfl) d_Lw_law_423 ?_
                refine V.icmp_eq (tgt := 1549) d_Lw_law_426 (by decide) (fun hc426 => ?_) (fun hc426 => ?_)
                · replace h := ite_t hc426 h
                  obtain ⟨v1549, e_v1549, h⟩ := letv_e h
                  refine V.iinc (v := v1549) (lv' := [(3, .int v1549), (0, .ref sb), (1, rf Z 0), (2, rf Z 65)]) d_Lw_law_1549 3 rfl (by rw [e_v1549]; rfl) (by decide) rfl ?_
                  refine V.goto (tgt := 18) d_Lw_law_1552 (by decide) ?_
                  exact V.pick [1, 2, 3, 0] rfl (ih _ _ _ h hg)
                · replace h := ite_f hc426 h
                  refine V.iconst (v := 0) d_Lw_law_429 (by decide) ?_
                  cases h
                  exact absurd (hG1 _ _ hg) (by decide)
              · replace h := ite_f hs33_4 h
                by_cases hs33_5 : v33 = 5
                · replace h := ite_t hs33_5 h
                  refine V.tin (c := 5) (tgt := 431) d_Lw_law_33 hs33_5 (by decide) (by decide) rfl (by decide) ?_
                  refine V.aload_n d_Lw_law_431 rfl 1 rfl ?_
                  refine V.aload_n d_Lw_law_432 rfl 0 rfl ?_
                  refine V.iload_n d_Lw_law_433 rfl 3 rfl ?_
                  refine V.iconst (v := 1) d_Lw_law_434 (by decide) ?_
                  refine V.iadd d_Lw_law_435 ?_
                  obtain ⟨gq, h⟩ := grd_e h
                  refine V.xld hX (inb_e gq) rfl d_Lw_law_436 ?_
                  refine V.aload_n d_Lw_law_437 rfl 0 rfl ?_
                  refine V.iload_n d_Lw_law_438 rfl 3 rfl ?_
                  refine V.iconst (v := 2) d_Lw_law_439 (by decide) ?_
                  refine V.iadd d_Lw_law_440 ?_
                  obtain ⟨gq, h⟩ := grd_e h
                  refine V.xld hX (inb_e gq) rfl d_Lw_law_441 ?_
                  refine V.aload_n d_Lw_law_442 rfl 0 rfl ?_
                  refine V.iload_n d_Lw_law_443 rfl 3 rfl ?_
                  refine V.iconst (v := 3) d_Lw_law_444 (by decide) ?_
                  refine V.iadd d_Lw_law_445 ?_
                  obtain ⟨gq, h⟩ := grd_e h
                  refine V.xld hX (inb_e gq) rfl d_Lw_law_446 ?_
                  obtain ⟨r447, σ447, h1, h⟩ := bnd2_e h
                  refine V.wI hRm (as := [.int (xs ((x3 + 1).toNatClampNeg)), .int (xs ((x3 + 2).toNatClampNeg)), .int (xs ((x3 + 3).toNatClampNeg))]) (st := []) (c_Sh_move Z h1) k_Sh_move lk_Lw_36 (by decide) rfl (by decide) ly_0 ok_Sh.1 rfl (Nat.le_of_ble_eq_true rfl) d_Lw_law_447 ?_
                  refine V.aload_n d_Lw_law_450 rfl 2 rfl ?_
                  refine V.aload_n d_Lw_law_451 rfl 0 rfl ?_
                  refine V.iload_n d_Lw_law_452 rfl 3 rfl ?_
                  refine V.iconst (v := 1) d_Lw_law_453 (by decide) ?_
                  refine V.iadd d_Lw_law_454 ?_
                  obtain ⟨gq, h⟩ := grd_e h
                  refine V.xld hX (inb_e gq) rfl d_Lw_law_455 ?_
                  refine V.aload_n d_Lw_law_456 rfl 0 rfl ?_
                  refine V.iload_n d_Lw_law_457 rfl 3 rfl ?_
                  refine V.iconst (v := 2) d_Lw_law_458 (by decide) ?_
                  refine V.iadd d_Lw_law_459 ?_
                  obtain ⟨gq, h⟩ := grd_e h
                  refine V.xld hX (inb_e gq) rfl d_Lw_law_460 ?_
                  refine V.aload_n d_Lw_law_461 rfl 0 rfl ?_
                  refine V.iload_n d_Lw_law_462 rfl 3 rfl ?_
                  refine V.iconst (v := 3) d_Lw_law_463 (by decide) ?_
                  refine V.iadd d_Lw_law_464 ?_
                  obtain ⟨gq, h⟩ := grd_e h
                  refine V.xld hX (inb_e gq) rfl d_Lw_law_465 ?_
                  obtain ⟨r466, σ466, h1, h⟩ := bnd2_e h
                  refine V.wI hRm (as := [.int (xs ((x3 + 1).toNatClampNeg)), .int (xs ((x3 + 2).toNatClampNeg)), .int (xs ((x3 + 3).toNatClampNeg))]) (st := [.int r447]) (c_Mo_move Z h1) k_Mo_move lk_Lw_40 (by decide) rfl (by decide) ly_65 ok_Mo.1 rfl (Nat.le_of_ble_eq_true rfl) d_Lw_law_466 ?_
                  refine V.icmp_eq (tgt := 1549) d_Lw_law_469 (by decide) (fun hc469 => ?_) (fun hc469 => ?_)
                  · replace h := ite_t hc469 h
                    obtain ⟨v1549, e_v1549, h⟩ := letv_e h
                    refine V.iinc (v := v1549) (lv' := [(3, .int v1549), (0, .ref sb), (1, rf Z 0), (2, rf Z 65)]) d_Lw_law_1549 3 rfl (by rw [e_v1549]; rfl) (by decide) rfl ?_
                    refine V.goto (tgt := 18) d_Lw_law_1552 (by decide) ?_
                    exact V.pick [1, 2, 3, 0] rfl (ih _ _ _ h hg)
                  · replace h := ite_f hc469 h
                    refine V.iconst (v := 0) d_Lw_law_472 (by decide) ?_
                    cases h
                    exact absurd (hG1 _ _ hg) (by decide)
                · replace h := ite_f hs33_5 h
                  by_cases hs33_6 : v33 = 6
                  · replace h := ite_t hs33_6 h
                    refine V.tin (c := 6) (tgt := 474) d_Lw_law_33 hs33_6 (by decide) (by decide) rfl (by decide) ?_
                    refine V.aload_n d_Lw_law_474 rfl 1 rfl ?_
                    refine V.aload_n d_Lw_law_475 rfl 0 rfl ?_
                    refine V.iload_n d_Lw_law_476 rfl 3 rfl ?_
                    refine V.iconst (v := 1) d_Lw_law_477 (by decide) ?_
                    refine V.iadd d_Lw_law_478 ?_
                    obtain ⟨gq, h⟩ := grd_e h
                    refine V.xld hX (inb_e gq) rfl d_Lw_law_479 ?_
                    obtain ⟨r480, σ480, h1, h⟩ := bnd2_e h
                    refine V.wI hRm (as := [.int (xs ((x3 + 1).toNatClampNeg))]) (st := []) (c_Sh_season Z h1) k_Sh_season lk_Lw_41 (by decide) rfl (by decide) ly_0 ok_Sh.1 rfl (Nat.le_of_ble_eq_true rfl) d_Lw_law_480 ?_
                    refine V.aload_n d_Lw_law_483 rfl 2 rfl ?_
                    refine V.aload_n d_Lw_law_484 rfl 0 rfl ?_
                    refine V.iload_n d_Lw_law_485 rfl 3 rfl ?_
                    refine V.iconst (v := 1) d_Lw_law_486 (by decide) ?_
                    refine V.iadd d_Lw_law_487 ?_
                    obtain ⟨gq, h⟩ := grd_e h
                    refine V.xld hX (inb_e gq) rfl d_Lw_law_488 ?_
                    obtain ⟨r489, σ489, h1, h⟩ := bnd2_e h
                    refine V.wI hRm (as := [.int (xs ((x3 + 1).toNatClampNeg))]) (st := [.int r480]) (c_Mo_season Z h1) k_Mo_season lk_Lw_44 (by decide) rfl (by decide) ly_65 ok_Mo.1 rfl (Nat.le_of_ble_eq_true rfl) d_Lw_law_489 ?_
                    refine V.icmp_eq (tgt := 1549) d_Lw_law_492 (by decide) (fun hc492 => ?_) (fun hc492 => ?_)
                    · replace h := ite_t hc492 h
                      obtain ⟨v1549, e_v1549, h⟩ := letv_e h
                      refine V.iinc (v := v1549) (lv' := [(3, .int v1549), (0, .ref sb), (1, rf Z 0), (2, rf Z 65)]) d_Lw_law_1549 3 rfl (by rw [e_v1549]; rfl) (by decide) rfl ?_
                      refine V.goto (tgt := 18) d_Lw_law_1552 (by decide) ?_
                      exact V.pick [1, 2, 3, 0] rfl (ih _ _ _ h hg)
                    · replace h := ite_f hc492 h
                      refine V.iconst (v := 0) d_Lw_law_495 (by decide) ?_
                      cases h
                      exact absurd (hG1 _ _ hg) (by decide)
                  · replace h := ite_f hs33_6 h
                    by_cases hs33_7 : v33 = 7
                    · replace h := ite_t hs33_7 h
                      refine V.tin (c := 7) (tgt := 497) d_Lw_law_33 hs33_7 (by decide) (by decide) rfl (by decide) ?_
                      refine V.aload_n d_Lw_law_497 rfl 1 rfl ?_
                      refine V.aload_n d_Lw_law_498 rfl 0 rfl ?_
                      refine V.iload_n d_Lw_law_499 rfl 3 rfl ?_
                      refine V.iconst (v := 1) d_Lw_law_500 (by decide) ?_
                      refine V.iadd d_Lw_law_501 ?_
                      obtain ⟨gq, h⟩ := grd_e h
                      refine V.xld hX (inb_e gq) rfl d_Lw_law_502 ?_
                      refine V.aload_n d_Lw_law_503 rfl 0 rfl ?_
                      refine V.iload_n d_Lw_law_504 rfl 3 rfl ?_
                      refine V.iconst (v := 2) d_Lw_law_505 (by decide) ?_
                      refine V.iadd d_Lw_law_506 ?_
                      obtain ⟨gq, h⟩ := grd_e h
                      refine V.xld hX (inb_e gq) rfl d_Lw_law_507 ?_
                      obtain ⟨r508, h1, h⟩ := bnd1_e h
                      refine V.wI hRm (as := [.int (xs ((x3 + 1).toNatClampNeg)), .int (xs ((x3 + 2).toNatClampNeg))]) (st := []) (c_Sh_casterIs Z h1) k_Sh_casterIs lk_Lw_45 (by decide) rfl (by decide) ly_0 ok_Sh.1 rfl (Nat.le_of_ble_eq_true rfl) d_Lw_law_508 ?_
                      refine V.aload_n d_Lw_law_511 rfl 2 rfl ?_
                      refine V.aload_n d_Lw_law_512 rfl 0 rfl ?_
                      refine V.iload_n d_Lw_law_513 rfl 3 rfl ?_
                      refine V.iconst (v := 1) d_Lw_law_514 (by decide) ?_
                      refine V.iadd d_Lw_law_515 ?_
                      obtain ⟨gq, h⟩ := grd_e h
                      refine V.xld hX (inb_e gq) rfl d_Lw_law_516 ?_
                      refine V.aload_n d_Lw_law_517 rfl 0 rfl ?_
                      refine V.iload_n d_Lw_law_518 rfl 3 rfl ?_
                      refine V.iconst (v := 2) d_Lw_law_519 (by decide) ?_
                      refine V.iadd d_Lw_law_520 ?_
                      obtain ⟨gq, h⟩ := grd_e h
                      refine V.xld hX (inb_e gq) rfl d_Lw_law_521 ?_
                      obtain ⟨r522, h1, h⟩ := bnd1_e h
                      refine V.wI hRm (as := [.int (xs ((x3 + 1).toNatClampNeg)), .int (xs ((x3 + 2).toNatClampNeg))]) (st := [.int r508]) (c_Mo_casterIs Z h1) k_Mo_casterIs lk_Lw_49 (by decide) rfl (by decide) ly_65 ok_Mo.1 rfl (Nat.le_of_ble_eq_true rfl) d_Lw_law_522 ?_
                      refine V.icmp_eq (tgt := 1549) d_Lw_law_525 (by decide) (fun hc525 => ?_) (fun hc525 => ?_)
                      · replace h := ite_t hc525 h
                        obtain ⟨v1549, e_v1549, h⟩ := letv_e h
                        refine V.iinc (v := v1549) (lv' := [(3, .int v1549), (0, .ref sb), (1, rf Z 0), (2, rf Z 65)]) d_Lw_law_1549 3 rfl (by rw [e_v1549]; rfl) (by decide) rfl ?_
                        refine V.goto (tgt := 18) d_Lw_law_1552 (by decide) ?_
                        exact V.pick [1, 2, 3, 0] rfl (ih _ _ _ h hg)
                      · replace h := ite_f hc525 h
                        refine V.iconst (v := 0) d_Lw_law_528 (by decide) ?_
                        cases h
                        exact absurd (hG1 _ _ hg) (by decide)
                    · replace h := ite_f hs33_7 h
                      by_cases hs33_8 : v33 = 8
                      · replace h := ite_t hs33_8 h
                        refine V.tin (c := 8) (tgt := 530) d_Lw_law_33 hs33_8 (by decide) (by decide) rfl (by decide) ?_
                        refine V.aload_n d_Lw_law_530 rfl 1 rfl ?_
                        refine V.aload_n d_Lw_law_531 rfl 0 rfl ?_
                        refine V.iload_n d_Lw_law_532 rfl 3 rfl ?_
                        refine V.iconst (v := 1) d_Lw_law_533 (by decide) ?_
                        refine V.iadd d_Lw_law_534 ?_
                        obtain ⟨gq, h⟩ := grd_e h
                        refine V.xld hX (inb_e gq) rfl d_Lw_law_535 ?_
                        refine V.aload_n d_Lw_law_536 rfl 0 rfl ?_
                        refine V.iload_n d_Lw_law_537 rfl 3 rfl ?_
                        refine V.iconst (v := 2) d_Lw_law_538 (by decide) ?_
                        refine V.iadd d_Lw_law_539 ?_
                        obtain ⟨gq, h⟩ := grd_e h
                        refine V.xld hX (inb_e gq) rfl d_Lw_law_540 ?_
                        obtain ⟨r541, σ541, h1, h⟩ := bnd2_e h
                        refine V.wI hRm (as := [.int (xs ((x3 + 1).toNatClampNeg)), .int (xs ((x3 + 2).toNatClampNeg))]) (st := []) (c_Sh_sun Z h1) k_Sh_sun lk_Lw_50 (by decide) rfl (by decide) ly_0 ok_Sh.1 rfl (Nat.le_of_ble_eq_true rfl) d_Lw_law_541 ?_
                        refine V.aload_n d_Lw_law_544 rfl 2 rfl ?_
                        refine V.aload_n d_Lw_law_545 rfl 0 rfl ?_
                        refine V.iload_n d_Lw_law_546 rfl 3 rfl ?_
                        refine V.iconst (v := 1) d_Lw_law_547 (by decide) ?_
                        refine V.iadd d_Lw_law_548 ?_
                        obtain ⟨gq, h⟩ := grd_e h
                        refine V.xld hX (inb_e gq) rfl d_Lw_law_549 ?_
                        refine V.aload_n d_Lw_law_550 rfl 0 rfl ?_
                        refine V.iload_n d_Lw_law_551 rfl 3 rfl ?_
                        refine V.iconst (v := 2) d_Lw_law_552 (by decide) ?_
                        refine V.iadd d_Lw_law_553 ?_
                        obtain ⟨gq, h⟩ := grd_e h
                        refine V.xld hX (inb_e gq) rfl d_Lw_law_554 ?_
                        obtain ⟨r555, σ555, h1, h⟩ := bnd2_e h
                        refine V.wI hRm (as := [.int (xs ((x3 + 1).toNatClampNeg)), .int (xs ((x3 + 2).toNatClampNeg))]) (st := [.int r541]) (c_Mo_sun Z h1) k_Mo_sun lk_Lw_53 (by decide) rfl (by decide) ly_65 ok_Mo.1 rfl (Nat.le_of_ble_eq_true rfl) d_Lw_law_555 ?_
                        refine V.icmp_eq (tgt := 1549) d_Lw_law_558 (by decide) (fun hc558 => ?_) (fun hc558 => ?_)
                        · replace h := ite_t hc558 h
                          obtain ⟨v1549, e_v1549, h⟩ := letv_e h
                          refine V.iinc (v := v1549) (lv' := [(3, .int v1549), (0, .ref sb), (1, rf Z 0), (2, rf Z 65)]) d_Lw_law_1549 3 rfl (by rw [e_v1549]; rfl) (by decide) rfl ?_
                          refine V.goto (tgt := 18) d_Lw_law_1552 (by decide) ?_
                          exact V.pick [1, 2, 3, 0] rfl (ih _ _ _ h hg)
                        · replace h := ite_f hc558 h
                          refine V.iconst (v := 0) d_Lw_law_561 (by decide) ?_
                          cases h
                          exact absurd (hG1 _ _ hg) (by decide)
                      · replace h := ite_f hs33_8 h
                        by_cases hs33_9 : v33 = 9
                        · replace h := ite_t hs33_9 h
                          refine V.tin (c := 9) (tgt := 563) d_Lw_law_33 hs33_9 (by decide) (by decide) rfl (by decide) ?_
                          refine V.aload_n d_Lw_law_563 rfl 1 rfl ?_
                          refine V.aload_n d_Lw_law_564 rfl 0 rfl ?_
                          refine V.iload_n d_Lw_law_565 rfl 3 rfl ?_
                          refine V.iconst (v := 1) d_Lw_law_566 (by decide) ?_
                          refine V.iadd d_Lw_law_567 ?_
                          obtain ⟨gq, h⟩ := grd_e h
                          refine V.xld hX (inb_e gq) rfl d_Lw_law_568 ?_
                          refine V.aload_n d_Lw_law_569 rfl 0 rfl ?_
                          refine V.iload_n d_Lw_law_570 rfl 3 rfl ?_
                          refine V.iconst (v := 2) d_Lw_law_571 (by decide) ?_
                          refine V.iadd d_Lw_law_572 ?_
                          obtain ⟨gq, h⟩ := grd_e h
                          refine V.xld hX (inb_e gq) rfl d_Lw_law_573 ?_
                          refine V.aload_n d_Lw_law_574 rfl 0 rfl ?_
                          refine V.iload_n d_Lw_law_575 rfl 3 rfl ?_
                          refine V.iconst (v := 3) d_Lw_law_576 (by decide) ?_
                          refine V.iadd d_Lw_law_577 ?_
                          obtain ⟨gq, h⟩ := grd_e h
                          refine V.xld hX (inb_e gq) rfl d_Lw_law_578 ?_
                          obtain ⟨r579, σ579, h1, h⟩ := bnd2_e h
                          refine V.wI hRm (as := [.int (xs ((x3 + 1).toNatClampNeg)), .int (xs ((x3 + 2).toNatClampNeg)), .int (xs ((x3 + 3).toNatClampNeg))]) (st := []) (c_Sh_shade Z h1) k_Sh_shade lk_Lw_54 (by decide) rfl (by decide) ly_0 ok_Sh.1 rfl (Nat.le_of_ble_eq_true rfl) d_Lw_law_579 ?_
                          refine V.aload_n d_Lw_law_582 rfl 2 rfl ?_
                          refine V.aload_n d_Lw_law_583 rfl 0 rfl ?_
                          refine V.iload_n d_Lw_law_584 rfl 3 rfl ?_
                          refine V.iconst (v := 1) d_Lw_law_585 (by decide) ?_
                          refine V.iadd d_Lw_law_586 ?_
                          obtain ⟨gq, h⟩ := grd_e h
                          refine V.xld hX (inb_e gq) rfl d_Lw_law_587 ?_
                          refine V.aload_n d_Lw_law_588 rfl 0 rfl ?_
                          refine V.iload_n d_Lw_law_589 rfl 3 rfl ?_
                          refine V.iconst (v := 2) d_Lw_law_590 (by decide) ?_
                          refine V.iadd d_Lw_law_591 ?_
                          obtain ⟨gq, h⟩ := grd_e h
                          refine V.xld hX (inb_e gq) rfl d_Lw_law_592 ?_
                          refine V.aload_n d_Lw_law_593 rfl 0 rfl ?_
                          refine V.iload_n d_Lw_law_594 rfl 3 rfl ?_
                          refine V.iconst (v := 3) d_Lw_law_595 (by decide) ?_
                          refine V.iadd d_Lw_law_596 ?_
                          obtain ⟨gq, h⟩ := grd_e h
                          refine V.xld hX (inb_e gq) rfl d_Lw_law_597 ?_
                          obtain ⟨r598, σ598, h1, h⟩ := bnd2_e h
                          refine V.wI hRm (as := [.int (xs ((x3 + 1).toNatClampNeg)), .int (xs ((x3 + 2).toNatClampNeg)), .int (xs ((x3 + 3).toNatClampNeg))]) (st := [.int r579]) (c_Mo_shade Z h1) k_Mo_shade lk_Lw_58 (by decide) rfl (by decide) ly_65 ok_Mo.1 rfl (Nat.le_of_ble_eq_true rfl) d_Lw_law_598 ?_
                          refine V.icmp_eq (tgt := 1549) d_Lw_law_601 (by decide) (fun hc601 => ?_) (fun hc601 => ?_)
                          · replace h := ite_t hc601 h
                            obtain ⟨v1549, e_v1549, h⟩ := letv_e h
                            refine V.iinc (v := v1549) (lv' := [(3, .int v1549), (0, .ref sb), (1, rf Z 0), (2, rf Z 65)]) d_Lw_law_1549 3 rfl (by rw [e_v1549]; rfl) (by decide) rfl ?_
                            refine V.goto (tgt := 18) d_Lw_law_1552 (by decide) ?_
                            exact V.pick [1, 2, 3, 0] rfl (ih _ _ _ h hg)
                          · replace h := ite_f hc601 h
                            refine V.iconst (v := 0) d_Lw_law_604 (by decide) ?_
                            cases h
                            exact absurd (hG1 _ _ hg) (by decide)
                        · replace h := ite_f hs33_9 h
                          by_cases hs33_10 : v33 = 10
                          · replace h := ite_t hs33_10 h
                            refine V.tin (c := 10) (tgt := 606) d_Lw_law_33 hs33_10 (by decide) (by decide) rfl (by decide) ?_
                            refine V.aload_n d_Lw_law_606 rfl 1 rfl ?_
                            refine V.aload_n d_Lw_law_607 rfl 0 rfl ?_
                            refine V.iload_n d_Lw_law_608 rfl 3 rfl ?_
                            refine V.iconst (v := 1) d_Lw_law_609 (by decide) ?_
                            refine V.iadd d_Lw_law_610 ?_
                            obtain ⟨gq, h⟩ := grd_e h
                            refine V.xld hX (inb_e gq) rfl d_Lw_law_611 ?_
                            refine V.aload_n d_Lw_law_612 rfl 0 rfl ?_
                            refine V.iload_n d_Lw_law_613 rfl 3 rfl ?_
                            refine V.iconst (v := 2) d_Lw_law_614 (by decide) ?_
                            refine V.iadd d_Lw_law_615 ?_
                            obtain ⟨gq, h⟩ := grd_e h
                            refine V.xld hX (inb_e gq) rfl d_Lw_law_616 ?_
                            refine V.aload_n d_Lw_law_617 rfl 0 rfl ?_
                            refine V.iload_n d_Lw_law_618 rfl 3 rfl ?_
                            refine V.iconst (v := 3) d_Lw_law_619 (by decide) ?_
                            refine V.iadd d_Lw_law_620 ?_
                            obtain ⟨gq, h⟩ := grd_e h
                            refine V.xld hX (inb_e gq) rfl d_Lw_law_621 ?_
                            obtain ⟨r622, σ622, h1, h⟩ := bnd2_e h
                            refine V.wI hRm (as := [.int (xs ((x3 + 1).toNatClampNeg)), .int (xs ((x3 + 2).toNatClampNeg)), .int (xs ((x3 + 3).toNatClampNeg))]) (st := []) (c_Sh_price Z h1) k_Sh_price lk_Lw_59 (by decide) rfl (by decide) ly_0 ok_Sh.1 rfl (Nat.le_of_ble_eq_true rfl) d_Lw_law_622 ?_
                            refine V.aload_n d_Lw_law_625 rfl 2 rfl ?_
                            refine V.aload_n d_Lw_law_626 rfl 0 rfl ?_
                            refine V.iload_n d_Lw_law_627 rfl 3 rfl ?_
                            refine V.iconst (v := 1) d_Lw_law_628 (by decide) ?_
                            refine V.iadd d_Lw_law_629 ?_
                            obtain ⟨gq, h⟩ := grd_e h
                            refine V.xld hX (inb_e gq) rfl d_Lw_law_630 ?_
                            refine V.aload_n d_Lw_law_631 rfl 0 rfl ?_
                            refine V.iload_n d_Lw_law_632 rfl 3 rfl ?_
                            refine V.iconst (v := 2) d_Lw_law_633 (by decide) ?_
                            refine V.iadd d_Lw_law_634 ?_
                            obtain ⟨gq, h⟩ := grd_e h
                            refine V.xld hX (inb_e gq) rfl d_Lw_law_635 ?_
                            refine V.aload_n d_Lw_law_636 rfl 0 rfl ?_
                            refine V.iload_n d_Lw_law_637 rfl 3 rfl ?_
                            refine V.iconst (v := 3) d_Lw_law_638 (by decide) ?_
                            refine V.iadd d_Lw_law_639 ?_
                            obtain ⟨gq, h⟩ := grd_e h
                            refine V.xld hX (inb_e gq) rfl d_Lw_law_640 ?_
                            obtain ⟨r641, σ641, h1, h⟩ := bnd2_e h
                            refine V.wI hRm (as := [.int (xs ((x3 + 1).toNatClampNeg)), .int (xs ((x3 + 2).toNatClampNeg)), .int (xs ((x3 + 3).toNatClampNeg))]) (st := [.int r622]) (c_Mo_price Z h1) k_Mo_price lk_Lw_62 (by decide) rfl (by decide) ly_65 ok_Mo.1 rfl (Nat.le_of_ble_eq_true rfl) d_Lw_law_641 ?_
                            refine V.icmp_eq (tgt := 1549) d_Lw_law_644 (by decide) (fun hc644 => ?_) (fun hc644 => ?_)
                            · replace h := ite_t hc644 h
                              obtain ⟨v1549, e_v1549, h⟩ := letv_e h
                              refine V.iinc (v := v1549) (lv' := [(3, .int v1549), (0, .ref sb), (1, rf Z 0), (2, rf Z 65)]) d_Lw_law_1549 3 rfl (by rw [e_v1549]; rfl) (by decide) rfl ?_
                              refine V.goto (tgt := 18) d_Lw_law_1552 (by decide) ?_
                              exact V.pick [1, 2, 3, 0] rfl (ih _ _ _ h hg)
                            · replace h := ite_f hc644 h
                              refine V.iconst (v := 0) d_Lw_law_647 (by decide) ?_
                              cases h
                              exact absurd (hG1 _ _ hg) (by decide)
                          · replace h := ite_f hs33_10 h
                            by_cases hs33_11 : v33 = 11
                            · replace h := ite_t hs33_11 h
                              refine V.tin (c := 11) (tgt := 649) d_Lw_law_33 hs33_11 (by decide) (by decide) rfl (by decide) ?_
                              refine V.aload_n d_Lw_law_649 rfl 1 rfl ?_
                              refine V.aload_n d_Lw_law_650 rfl 0 rfl ?_
                              refine V.iload_n d_Lw_law_651 rfl 3 rfl ?_
                              refine V.iconst (v := 1) d_Lw_law_652 (by decide) ?_
                              refine V.iadd d_Lw_law_653 ?_
                              obtain ⟨gq, h⟩ := grd_e h
                              refine V.xld hX (inb_e gq) rfl d_Lw_law_654 ?_
                              refine V.aload_n d_Lw_law_655 rfl 0 rfl ?_
                              refine V.iload_n d_Lw_law_656 rfl 3 rfl ?_
                              refine V.iconst (v := 2) d_Lw_law_657 (by decide) ?_
                              refine V.iadd d_Lw_law_658 ?_
                              obtain ⟨gq, h⟩ := grd_e h
                              refine V.xld hX (inb_e gq) rfl d_Lw_law_659 ?_
                              obtain ⟨r660, σ660, h1, h⟩ := bnd2_e h
                              refine V.wI hRm (as := [.int (xs ((x3 + 1).toNatClampNeg)), .int (xs ((x3 + 2).toNatClampNeg))]) (st := []) (c_Sh_cast Z h1) k_Sh_cast lk_Lw_63 (by decide) rfl (by decide) ly_0 ok_Sh.1 rfl (Nat.le_of_ble_eq_true rfl) d_Lw_law_660 ?_
                              refine V.aload_n d_Lw_law_663 rfl 2 rfl ?_
                              refine V.aload_n d_Lw_law_664 rfl 0 rfl ?_
                              refine V.iload_n d_Lw_law_665 rfl 3 rfl ?_
                              refine V.iconst (v := 1) d_Lw_law_666 (by decide) ?_
                              refine V.iadd d_Lw_law_667 ?_
                              obtain ⟨gq, h⟩ := grd_e h
                              refine V.xld hX (inb_e gq) rfl d_Lw_law_668 ?_
                              refine V.aload_n d_Lw_law_669 rfl 0 rfl ?_
                              refine V.iload_n d_Lw_law_670 rfl 3 rfl ?_
                              refine V.iconst (v := 2) d_Lw_law_671 (by decide) ?_
                              refine V.iadd d_Lw_law_672 ?_
                              obtain ⟨gq, h⟩ := grd_e h
                              refine V.xld hX (inb_e gq) rfl d_Lw_law_673 ?_
                              obtain ⟨r674, σ674, h1, h⟩ := bnd2_e h
                              refine V.wI hRm (as := [.int (xs ((x3 + 1).toNatClampNeg)), .int (xs ((x3 + 2).toNatClampNeg))]) (st := [.int r660]) (c_Mo_cast Z h1) k_Mo_cast lk_Lw_66 (by decide) rfl (by decide) ly_65 ok_Mo.1 rfl (Nat.le_of_ble_eq_true rfl) d_Lw_law_674 ?_
                              refine V.icmp_eq (tgt := 1549) d_Lw_law_677 (by decide) (fun hc677 => ?_) (fun hc677 => ?_)
                              · replace h := ite_t hc677 h
                                obtain ⟨v1549, e_v1549, h⟩ := letv_e h
                                refine V.iinc (v := v1549) (lv' := [(3, .int v1549), (0, .ref sb), (1, rf Z 0), (2, rf Z 65)]) d_Lw_law_1549 3 rfl (by rw [e_v1549]; rfl) (by decide) rfl ?_
                                refine V.goto (tgt := 18) d_Lw_law_1552 (by decide) ?_
                                exact V.pick [1, 2, 3, 0] rfl (ih _ _ _ h hg)
                              · replace h := ite_f hc677 h
                                refine V.iconst (v := 0) d_Lw_law_680 (by decide) ?_
                                cases h
                                exact absurd (hG1 _ _ hg) (by decide)
                            · replace h := ite_f hs33_11 h
                              by_cases hs33_12 : v33 = 12
                              · replace h := ite_t hs33_12 h
                                refine V.tin (c := 12) (tgt := 682) d_Lw_law_33 hs33_12 (by decide) (by decide) rfl (by decide) ?_
                                refine V.aload_n d_Lw_law_682 rfl 1 rfl ?_
                                refine V.aload_n d_Lw_law_683 rfl 0 rfl ?_
                                refine V.iload_n d_Lw_law_684 rfl 3 rfl ?_
                                refine V.iconst (v := 1) d_Lw_law_685 (by decide) ?_
                                refine V.iadd d_Lw_law_686 ?_
                                obtain ⟨gq, h⟩ := grd_e h
                                refine V.xld hX (inb_e gq) rfl d_Lw_law_687 ?_
                                refine V.aload_n d_Lw_law_688 rfl 0 rfl ?_
                                refine V.iload_n d_Lw_law_689 rfl 3 rfl ?_
                                refine V.iconst (v := 2) d_Lw_law_690 (by decide) ?_
                                refine V.iadd d_Lw_law_691 ?_
                                obtain ⟨gq, h⟩ := grd_e h
                                refine V.xld hX (inb_e gq) rfl d_Lw_law_692 ?_
                                obtain ⟨r693, σ693, h1, h⟩ := bnd2_e h
                                refine V.wJ hRm (as := [.int (xs ((x3 + 1).toNatClampNeg)), .int (xs ((x3 + 2).toNatClampNeg))]) (st := []) (c_Sh_led Z h1) k_Sh_led lk_Lw_67 (by decide) rfl (by decide) ly_0 ok_Sh.1 rfl (Nat.le_of_ble_eq_true rfl) d_Lw_law_693 ?_
                                refine V.aload_n d_Lw_law_696 rfl 2 rfl ?_
                                refine V.aload_n d_Lw_law_697 rfl 0 rfl ?_
                                refine V.iload_n d_Lw_law_698 rfl 3 rfl ?_
                                refine V.iconst (v := 1) d_Lw_law_699 (by decide) ?_
                                refine V.iadd d_Lw_law_700 ?_
                                obtain ⟨gq, h⟩ := grd_e h
                                refine V.xld hX (inb_e gq) rfl d_Lw_law_701 ?_
                                refine V.aload_n d_Lw_law_702 rfl 0 rfl ?_
                                refine V.iload_n d_Lw_law_703 rfl 3 rfl ?_
                                refine V.iconst (v := 2) d_Lw_law_704 (by decide) ?_
                                refine V.iadd d_Lw_law_705 ?_
                                obtain ⟨gq, h⟩ := grd_e h
                                refine V.xld hX (inb_e gq) rfl d_Lw_law_706 ?_
                                obtain ⟨r707, σ707, h1, h⟩ := bnd2_e h
                                refine V.wJ hRm (as := [.int (xs ((x3 + 1).toNatClampNeg)), .int (xs ((x3 + 2).toNatClampNeg))]) (st := [.long r693]) (c_Mo_led Z h1) k_Mo_led lk_Lw_71 (by decide) rfl (by decide) ly_65 ok_Mo.1 rfl (Nat.le_of_ble_eq_true rfl) d_Lw_law_707 ?_
                                refine V.lcmp d_Lw_law_710 ?_
                                refine V.if_eq (tgt := 1549) d_Lw_law_711 (by decide) (fun hc711 => ?_) (fun hc711 => ?_)
                                · replace h := ite_t hc711 h
                                  obtain ⟨v1549, e_v1549, h⟩ := letv_e h
                                  refine V.iinc (v := v1549) (lv' := [(3, .int v1549), (0, .ref sb), (1, rf Z 0), (2, rf Z 65)]) d_Lw_law_1549 3 rfl (by rw [e_v1549]; rfl) (by decide) rfl ?_
                                  refine V.goto (tgt := 18) d_Lw_law_1552 (by decide) ?_
                                  exact V.pick [1, 2, 3, 0] rfl (ih _ _ _ h hg)
                                · replace h := ite_f hc711 h
                                  refine V.iconst (v := 0) d_Lw_law_714 (by decide) ?_
                                  cases h
                                  exact absurd (hG1 _ _ hg) (by decide)
                              · replace h := ite_f hs33_12 h
                                by_cases hs33_13 : v33 = 13
                                · replace h := ite_t hs33_13 h
                                  refine V.tin (c := 13) (tgt := 716) d_Lw_law_33 hs33_13 (by decide) (by decide) rfl (by decide) ?_
                                  refine V.aload_n d_Lw_law_716 rfl 1 rfl ?_
                                  refine V.aload_n d_Lw_law_717 rfl 0 rfl ?_
                                  refine V.iload_n d_Lw_law_718 rfl 3 rfl ?_
                                  refine V.iconst (v := 1) d_Lw_law_719 (by decide) ?_
                                  refine V.iadd d_Lw_law_720 ?_
                                  obtain ⟨gq, h⟩ := grd_e h
                                  refine V.xld hX (inb_e gq) rfl d_Lw_law_721 ?_
                                  refine V.aload_n d_Lw_law_722 rfl 0 rfl ?_
                                  refine V.iload_n d_Lw_law_723 rfl 3 rfl ?_
                                  refine V.iconst (v := 2) d_Lw_law_724 (by decide) ?_
                                  refine V.iadd d_Lw_law_725 ?_
                                  obtain ⟨gq, h⟩ := grd_e h
                                  refine V.xld hX (inb_e gq) rfl d_Lw_law_726 ?_
                                  refine V.aload_n d_Lw_law_727 rfl 0 rfl ?_
                                  refine V.iload_n d_Lw_law_728 rfl 3 rfl ?_
                                  refine V.iconst (v := 3) d_Lw_law_729 (by decide) ?_
                                  refine V.iadd d_Lw_law_730 ?_
                                  obtain ⟨gq, h⟩ := grd_e h
                                  refine V.xld hX (inb_e gq) rfl d_Lw_law_731 ?_
                                  obtain ⟨r732, σ732, h1, h⟩ := bnd2_e h
                                  refine V.wI hRm (as := [.int (xs ((x3 + 1).toNatClampNeg)), .int (xs ((x3 + 2).toNatClampNeg)), .int (xs ((x3 + 3).toNatClampNeg))]) (st := []) (c_Sh_longest Z h1) k_Sh_longest lk_Lw_72 (by decide) rfl (by decide) ly_0 ok_Sh.1 rfl (Nat.le_of_ble_eq_true rfl) d_Lw_law_732 ?_
                                  refine V.aload_n d_Lw_law_735 rfl 2 rfl ?_
                                  refine V.aload_n d_Lw_law_736 rfl 0 rfl ?_
                                  refine V.iload_n d_Lw_law_737 rfl 3 rfl ?_
                                  refine V.iconst (v := 1) d_Lw_law_738 (by decide) ?_
                                  refine V.iadd d_Lw_law_739 ?_
                                  obtain ⟨gq, h⟩ := grd_e h
                                  refine V.xld hX (inb_e gq) rfl d_Lw_law_740 ?_
                                  refine V.aload_n d_Lw_law_741 rfl 0 rfl ?_
                                  refine V.iload_n d_Lw_law_742 rfl 3 rfl ?_
                                  refine V.iconst (v := 2) d_Lw_law_743 (by decide) ?_
                                  refine V.iadd d_Lw_law_744 ?_
                                  obtain ⟨gq, h⟩ := grd_e h
                                  refine V.xld hX (inb_e gq) rfl d_Lw_law_745 ?_
                                  refine V.aload_n d_Lw_law_746 rfl 0 rfl ?_
                                  refine V.iload_n d_Lw_law_747 rfl 3 rfl ?_
                                  refine V.iconst (v := 3) d_Lw_law_748 (by decide) ?_
                                  refine V.iadd d_Lw_law_749 ?_
                                  obtain ⟨gq, h⟩ := grd_e h
                                  refine V.xld hX (inb_e gq) rfl d_Lw_law_750 ?_
                                  obtain ⟨r751, σ751, h1, h⟩ := bnd2_e h
                                  refine V.wI hRm (as := [.int (xs ((x3 + 1).toNatClampNeg)), .int (xs ((x3 + 2).toNatClampNeg)), .int (xs ((x3 + 3).toNatClampNeg))]) (st := [.int r732]) (c_Mo_longest Z h1) k_Mo_longest lk_Lw_75 (by decide) rfl (by decide) ly_65 ok_Mo.1 rfl (Nat.le_of_ble_eq_true rfl) d_Lw_law_751 ?_
                                  refine V.icmp_eq (tgt := 1549) d_Lw_law_754 (by decide) (fun hc754 => ?_) (fun hc754 => ?_)
                                  · replace h := ite_t hc754 h
                                    obtain ⟨v1549, e_v1549, h⟩ := letv_e h
                                    refine V.iinc (v := v1549) (lv' := [(3, .int v1549), (0, .ref sb), (1, rf Z 0), (2, rf Z 65)]) d_Lw_law_1549 3 rfl (by rw [e_v1549]; rfl) (by decide) rfl ?_
                                    refine V.goto (tgt := 18) d_Lw_law_1552 (by decide) ?_
                                    exact V.pick [1, 2, 3, 0] rfl (ih _ _ _ h hg)
                                  · replace h := ite_f hc754 h
                                    refine V.iconst (v := 0) d_Lw_law_757 (by decide) ?_
                                    cases h
                                    exact absurd (hG1 _ _ hg) (by decide)
                                · replace h := ite_f hs33_13 h
                                  by_cases hs33_14 : v33 = 14
                                  · replace h := ite_t hs33_14 h
                                    refine V.tin (c := 14) (tgt := 759) d_Lw_law_33 hs33_14 (by decide) (by decide) rfl (by decide) ?_
                                    refine V.aload_n d_Lw_law_759 rfl 1 rfl ?_
                                    refine V.aload_n d_Lw_law_760 rfl 0 rfl ?_
                                    refine V.iload_n d_Lw_law_761 rfl 3 rfl ?_
                                    refine V.iconst (v := 1) d_Lw_law_762 (by decide) ?_
                                    refine V.iadd d_Lw_law_763 ?_
                                    obtain ⟨gq, h⟩ := grd_e h
                                    refine V.xld hX (inb_e gq) rfl d_Lw_law_764 ?_
                                    obtain ⟨r765, σ765, h1, h⟩ := bnd2_e h
                                    refine V.wI hRm (as := [.int (xs ((x3 + 1).toNatClampNeg))]) (st := []) (c_Sh_donkey Z h1) k_Sh_donkey lk_Lw_76 (by decide) rfl (by decide) ly_0 ok_Sh.1 rfl (Nat.le_of_ble_eq_true rfl) d_Lw_law_765 ?_
                                    refine V.aload_n d_Lw_law_768 rfl 2 rfl ?_
                                    refine V.aload_n d_Lw_law_769 rfl 0 rfl ?_
                                    refine V.iload_n d_Lw_law_770 rfl 3 rfl ?_
                                    refine V.iconst (v := 1) d_Lw_law_771 (by decide) ?_
                                    refine V.iadd d_Lw_law_772 ?_
                                    obtain ⟨gq, h⟩ := grd_e h
                                    refine V.xld hX (inb_e gq) rfl d_Lw_law_773 ?_
                                    obtain ⟨r774, σ774, h1, h⟩ := bnd2_e h
                                    refine V.wI hRm (as := [.int (xs ((x3 + 1).toNatClampNeg))]) (st := [.int r765]) (c_Mo_donkey Z h1) k_Mo_donkey lk_Lw_79 (by decide) rfl (by decide) ly_65 ok_Mo.1 rfl (Nat.le_of_ble_eq_true rfl) d_Lw_law_774 ?_
                                    refine V.icmp_eq (tgt := 1549) d_Lw_law_777 (by decide) (fun hc777 => ?_) (fun hc777 => ?_)
                                    · replace h := ite_t hc777 h
                                      obtain ⟨v1549, e_v1549, h⟩ := letv_e h
                                      refine V.iinc (v := v1549) (lv' := [(3, .int v1549), (0, .ref sb), (1, rf Z 0), (2, rf Z 65)]) d_Lw_law_1549 3 rfl (by rw [e_v1549]; rfl) (by decide) rfl ?_
                                      refine V.goto (tgt := 18) d_Lw_law_1552 (by decide) ?_
                                      exact V.pick [1, 2, 3, 0] rfl (ih _ _ _ h hg)
                                    · replace h := ite_f hc777 h
                                      refine V.iconst (v := 0) d_Lw_law_780 (by decide) ?_
                                      cases h
                                      exact absurd (hG1 _ _ hg) (by decide)
                                  · replace h := ite_f hs33_14 h
                                    by_cases hs33_15 : v33 = 15
                                    · replace h := ite_t hs33_15 h
                                      refine V.tin (c := 15) (tgt := 782) d_Lw_law_33 hs33_15 (by decide) (by decide) rfl (by decide) ?_
                                      refine V.aload_n d_Lw_law_782 rfl 1 rfl ?_
                                      refine V.aload_n d_Lw_law_783 rfl 0 rfl ?_
                                      refine V.iload_n d_Lw_law_784 rfl 3 rfl ?_
                                      refine V.iconst (v := 1) d_Lw_law_785 (by decide) ?_
                                      refine V.iadd d_Lw_law_786 ?_
                                      obtain ⟨gq, h⟩ := grd_e h
                                      refine V.xld hX (inb_e gq) rfl d_Lw_law_787 ?_
                                      refine V.aload_n d_Lw_law_788 rfl 0 rfl ?_
                                      refine V.iload_n d_Lw_law_789 rfl 3 rfl ?_
                                      refine V.iconst (v := 2) d_Lw_law_790 (by decide) ?_
                                      refine V.iadd d_Lw_law_791 ?_
                                      obtain ⟨gq, h⟩ := grd_e h
                                      refine V.xld hX (inb_e gq) rfl d_Lw_law_792 ?_
                                      refine V.aload_n d_Lw_law_793 rfl 0 rfl ?_
                                      refine V.iload_n d_Lw_law_794 rfl 3 rfl ?_
                                      refine V.iconst (v := 3) d_Lw_law_795 (by decide) ?_
                                      refine V.iadd d_Lw_law_796 ?_
                                      obtain ⟨gq, h⟩ := grd_e h
                                      refine V.xld hX (inb_e gq) rfl d_Lw_law_797 ?_
                                      obtain ⟨r798, σ798, h1, h⟩ := bnd2_e h
                                      refine V.wI hRm (as := [.int (xs ((x3 + 1).toNatClampNeg)), .int (xs ((x3 + 2).toNatClampNeg)), .int (xs ((x3 + 3).toNatClampNeg))]) (st := []) (c_Sh_strip Z h1) k_Sh_strip lk_Lw_80 (by decide) rfl (by decide) ly_0 ok_Sh.1 rfl (Nat.le_of_ble_eq_true rfl) d_Lw_law_798 ?_
                                      refine V.aload_n d_Lw_law_801 rfl 2 rfl ?_
                                      refine V.aload_n d_Lw_law_802 rfl 0 rfl ?_
                                      refine V.iload_n d_Lw_law_803 rfl 3 rfl ?_
                                      refine V.iconst (v := 1) d_Lw_law_804 (by decide) ?_
                                      refine V.iadd d_Lw_law_805 ?_
                                      obtain ⟨gq, h⟩ := grd_e h
                                      refine V.xld hX (inb_e gq) rfl d_Lw_law_806 ?_
                                      refine V.aload_n d_Lw_law_807 rfl 0 rfl ?_
                                      refine V.iload_n d_Lw_law_808 rfl 3 rfl ?_
                                      refine V.iconst (v := 2) d_Lw_law_809 (by decide) ?_
                                      refine V.iadd d_Lw_law_810 ?_
                                      obtain ⟨gq, h⟩ := grd_e h
                                      refine V.xld hX (inb_e gq) rfl d_Lw_law_811 ?_
                                      refine V.aload_n d_Lw_law_812 rfl 0 rfl ?_
                                      refine V.iload_n d_Lw_law_813 rfl 3 rfl ?_
                                      refine V.iconst (v := 3) d_Lw_law_814 (by decide) ?_
                                      refine V.iadd d_Lw_law_815 ?_
                                      obtain ⟨gq, h⟩ := grd_e h
                                      refine V.xld hX (inb_e gq) rfl d_Lw_law_816 ?_
                                      obtain ⟨r817, σ817, h1, h⟩ := bnd2_e h
                                      refine V.wI hRm (as := [.int (xs ((x3 + 1).toNatClampNeg)), .int (xs ((x3 + 2).toNatClampNeg)), .int (xs ((x3 + 3).toNatClampNeg))]) (st := [.int r798]) (c_Mo_strip Z h1) k_Mo_strip lk_Lw_83 (by decide) rfl (by decide) ly_65 ok_Mo.1 rfl (Nat.le_of_ble_eq_true rfl) d_Lw_law_817 ?_
                                      refine V.icmp_eq (tgt := 1549) d_Lw_law_820 (by decide) (fun hc820 => ?_) (fun hc820 => ?_)
                                      · replace h := ite_t hc820 h
                                        obtain ⟨v1549, e_v1549, h⟩ := letv_e h
                                        refine V.iinc (v := v1549) (lv' := [(3, .int v1549), (0, .ref sb), (1, rf Z 0), (2, rf Z 65)]) d_Lw_law_1549 3 rfl (by rw [e_v1549]; rfl) (by decide) rfl ?_
                                        refine V.goto (tgt := 18) d_Lw_law_1552 (by decide) ?_
                                        exact V.pick [1, 2, 3, 0] rfl (ih _ _ _ h hg)
                                      · replace h := ite_f hc820 h
                                        refine V.iconst (v := 0) d_Lw_law_823 (by decide) ?_
                                        cases h
                                        exact absurd (hG1 _ _ hg) (by decide)
                                    · replace h := ite_f hs33_15 h
                                      by_cases hs33_16 : v33 = 16
                                      · replace h := ite_t hs33_16 h
                                        refine V.tin (c := 16) (tgt := 825) d_Lw_law_33 hs33_16 (by decide) (by decide) rfl (by decide) ?_
                                        refine V.aload_n d_Lw_law_825 rfl 1 rfl ?_
                                        refine V.aload_n d_Lw_law_826 rfl 0 rfl ?_
                                        refine V.iload_n d_Lw_law_827 rfl 3 rfl ?_
                                        refine V.iconst (v := 1) d_Lw_law_828 (by decide) ?_
                                        refine V.iadd d_Lw_law_829 ?_
                                        obtain ⟨gq, h⟩ := grd_e h
                                        refine V.xld hX (inb_e gq) rfl d_Lw_law_830 ?_
                                        refine V.aload_n d_Lw_law_831 rfl 0 rfl ?_
                                        refine V.iload_n d_Lw_law_832 rfl 3 rfl ?_
                                        refine V.iconst (v := 2) d_Lw_law_833 (by decide) ?_
                                        refine V.iadd d_Lw_law_834 ?_
                                        obtain ⟨gq, h⟩ := grd_e h
                                        refine V.xld hX (inb_e gq) rfl d_Lw_law_835 ?_
                                        refine V.aload_n d_Lw_law_836 rfl 0 rfl ?_
                                        refine V.iload_n d_Lw_law_837 rfl 3 rfl ?_
                                        refine V.iconst (v := 3) d_Lw_law_838 (by decide) ?_
                                        refine V.iadd d_Lw_law_839 ?_
                                        obtain ⟨gq, h⟩ := grd_e h
                                        refine V.xld hX (inb_e gq) rfl d_Lw_law_840 ?_
                                        refine V.aload_n d_Lw_law_841 rfl 0 rfl ?_
                                        refine V.iload_n d_Lw_law_842 rfl 3 rfl ?_
                                        refine V.iconst (v := 4) d_Lw_law_843 (by decide) ?_
                                        refine V.iadd d_Lw_law_844 ?_
                                        obtain ⟨gq, h⟩ := grd_e h
                                        refine V.xld hX (inb_e gq) rfl d_Lw_law_845 ?_
                                        obtain ⟨r846, σ846, h1, h⟩ := bnd2_e h
                                        refine V.wI hRm (as := [.int (xs ((x3 + 1).toNatClampNeg)), .int (xs ((x3 + 2).toNatClampNeg)), .int (xs ((x3 + 3).toNatClampNeg)), .int (xs ((x3 + 4).toNatClampNeg))]) (st := []) (c_Sh_walk Z h1) k_Sh_walk lk_Lw_84 (by decide) rfl (by decide) ly_0 ok_Sh.1 rfl (Nat.le_of_ble_eq_true rfl) d_Lw_law_846 ?_
                                        refine V.aload_n d_Lw_law_849 rfl 2 rfl ?_
                                        refine V.aload_n d_Lw_law_850 rfl 0 rfl ?_
                                        refine V.iload_n d_Lw_law_851 rfl 3 rfl ?_
                                        refine V.iconst (v := 1) d_Lw_law_852 (by decide) ?_
                                        refine V.iadd d_Lw_law_853 ?_
                                        obtain ⟨gq, h⟩ := grd_e h
                                        refine V.xld hX (inb_e gq) rfl d_Lw_law_854 ?_
                                        refine V.aload_n d_Lw_law_855 rfl 0 rfl ?_
                                        refine V.iload_n d_Lw_law_856 rfl 3 rfl ?_
                                        refine V.iconst (v := 2) d_Lw_law_857 (by decide) ?_
                                        refine V.iadd d_Lw_law_858 ?_
                                        obtain ⟨gq, h⟩ := grd_e h
                                        refine V.xld hX (inb_e gq) rfl d_Lw_law_859 ?_
                                        refine V.aload_n d_Lw_law_860 rfl 0 rfl ?_
                                        refine V.iload_n d_Lw_law_861 rfl 3 rfl ?_
                                        refine V.iconst (v := 3) d_Lw_law_862 (by decide) ?_
                                        refine V.iadd d_Lw_law_863 ?_
                                        obtain ⟨gq, h⟩ := grd_e h
                                        refine V.xld hX (inb_e gq) rfl d_Lw_law_864 ?_
                                        refine V.aload_n d_Lw_law_865 rfl 0 rfl ?_
                                        refine V.iload_n d_Lw_law_866 rfl 3 rfl ?_
                                        refine V.iconst (v := 4) d_Lw_law_867 (by decide) ?_
                                        refine V.iadd d_Lw_law_868 ?_
                                        obtain ⟨gq, h⟩ := grd_e h
                                        refine V.xld hX (inb_e gq) rfl d_Lw_law_869 ?_
                                        obtain ⟨r870, σ870, h1, h⟩ := bnd2_e h
                                        refine V.wI hRm (as := [.int (xs ((x3 + 1).toNatClampNeg)), .int (xs ((x3 + 2).toNatClampNeg)), .int (xs ((x3 + 3).toNatClampNeg)), .int (xs ((x3 + 4).toNatClampNeg))]) (st := [.int r846]) (c_Mo_walk Z h1) k_Mo_walk lk_Lw_88 (by decide) rfl (by decide) ly_65 ok_Mo.1 rfl (Nat.le_of_ble_eq_true rfl) d_Lw_law_870 ?_
                                        refine V.icmp_eq (tgt := 1549) d_Lw_law_873 (by decide) (fun hc873 => ?_) (fun hc873 => ?_)
                                        · replace h := ite_t hc873 h
                                          obtain ⟨v1549, e_v1549, h⟩ := letv_e h
                                          refine V.iinc (v := v1549) (lv' := [(3, .int v1549), (0, .ref sb), (1, rf Z 0), (2, rf Z 65)]) d_Lw_law_1549 3 rfl (by rw [e_v1549]; rfl) (by decide) rfl ?_
                                          refine V.goto (tgt := 18) d_Lw_law_1552 (by decide) ?_
                                          exact V.pick [1, 2, 3, 0] rfl (ih _ _ _ h hg)
                                        · replace h := ite_f hc873 h
                                          refine V.iconst (v := 0) d_Lw_law_876 (by decide) ?_
                                          cases h
                                          exact absurd (hG1 _ _ hg) (by decide)
                                      · replace h := ite_f hs33_16 h
                                        by_cases hs33_17 : v33 = 17
                                        · replace h := ite_t hs33_17 h
                                          refine V.tin (c := 17) (tgt := 878) d_Lw_law_33 hs33_17 (by decide) (by decide) rfl (by decide) ?_
                                          refine V.aload_n d_Lw_law_878 rfl 1 rfl ?_
                                          refine V.aload_n d_Lw_law_879 rfl 0 rfl ?_
                                          refine V.iload_n d_Lw_law_880 rfl 3 rfl ?_
                                          refine V.iconst (v := 1) d_Lw_law_881 (by decide) ?_
                                          refine V.iadd d_Lw_law_882 ?_
                                          obtain ⟨gq, h⟩ := grd_e h
                                          refine V.xld hX (inb_e gq) rfl d_Lw_law_883 ?_
                                          refine V.aload_n d_Lw_law_884 rfl 0 rfl ?_
                                          refine V.iload_n d_Lw_law_885 rfl 3 rfl ?_
                                          refine V.iconst (v := 2) d_Lw_law_886 (by decide) ?_
                                          refine V.iadd d_Lw_law_887 ?_
                                          obtain ⟨gq, h⟩ := grd_e h
                                          refine V.xld hX (inb_e gq) rfl d_Lw_law_888 ?_
                                          refine V.aload_n d_Lw_law_889 rfl 0 rfl ?_
                                          refine V.iload_n d_Lw_law_890 rfl 3 rfl ?_
                                          refine V.iconst (v := 3) d_Lw_law_891 (by decide) ?_
                                          refine V.iadd d_Lw_law_892 ?_
                                          obtain ⟨gq, h⟩ := grd_e h
                                          refine V.xld hX (inb_e gq) rfl d_Lw_law_893 ?_
                                          obtain ⟨r894, σ894, h1, h⟩ := bnd2_e h
                                          refine V.wI hRm (as := [.int (xs ((x3 + 1).toNatClampNeg)), .int (xs ((x3 + 2).toNatClampNeg)), .int (xs ((x3 + 3).toNatClampNeg))]) (st := []) (c_Sh_buyer Z h1) k_Sh_buyer lk_Lw_89 (by decide) rfl (by decide) ly_0 ok_Sh.1 rfl (Nat.le_of_ble_eq_true rfl) d_Lw_law_894 ?_
                                          refine V.aload_n d_Lw_law_897 rfl 2 rfl ?_
                                          refine V.aload_n d_Lw_law_898 rfl 0 rfl ?_
                                          refine V.iload_n d_Lw_law_899 rfl 3 rfl ?_
                                          refine V.iconst (v := 1) d_Lw_law_900 (by decide) ?_
                                          refine V.iadd d_Lw_law_901 ?_
                                          obtain ⟨gq, h⟩ := grd_e h
                                          refine V.xld hX (inb_e gq) rfl d_Lw_law_902 ?_
                                          refine V.aload_n d_Lw_law_903 rfl 0 rfl ?_
                                          refine V.iload_n d_Lw_law_904 rfl 3 rfl ?_
                                          refine V.iconst (v := 2) d_Lw_law_905 (by decide) ?_
                                          refine V.iadd d_Lw_law_906 ?_
                                          obtain ⟨gq, h⟩ := grd_e h
                                          refine V.xld hX (inb_e gq) rfl d_Lw_law_907 ?_
                                          refine V.aload_n d_Lw_law_908 rfl 0 rfl ?_
                                          refine V.iload_n d_Lw_law_909 rfl 3 rfl ?_
                                          refine V.iconst (v := 3) d_Lw_law_910 (by decide) ?_
                                          refine V.iadd d_Lw_law_911 ?_
                                          obtain ⟨gq, h⟩ := grd_e h
                                          refine V.xld hX (inb_e gq) rfl d_Lw_law_912 ?_
                                          obtain ⟨r913, σ913, h1, h⟩ := bnd2_e h
                                          refine V.wI hRm (as := [.int (xs ((x3 + 1).toNatClampNeg)), .int (xs ((x3 + 2).toNatClampNeg)), .int (xs ((x3 + 3).toNatClampNeg))]) (st := [.int r894]) (c_Mo_buyer Z h1) k_Mo_buyer lk_Lw_92 (by decide) rfl (by decide) ly_65 ok_Mo.1 rfl (Nat.le_of_ble_eq_true rfl) d_Lw_law_913 ?_
                                          refine V.icmp_eq (tgt := 1549) d_Lw_law_916 (by decide) (fun hc916 => ?_) (fun hc916 => ?_)
                                          · replace h := ite_t hc916 h
                                            obtain ⟨v1549, e_v1549, h⟩ := letv_e h
                                            refine V.iinc (v := v1549) (lv' := [(3, .int v1549), (0, .ref sb), (1, rf Z 0), (2, rf Z 65)]) d_Lw_law_1549 3 rfl (by rw [e_v1549]; rfl) (by decide) rfl ?_
                                            refine V.goto (tgt := 18) d_Lw_law_1552 (by decide) ?_
                                            exact V.pick [1, 2, 3, 0] rfl (ih _ _ _ h hg)
                                          · replace h := ite_f hc916 h
                                            refine V.iconst (v := 0) d_Lw_law_919 (by decide) ?_
                                            cases h
                                            exact absurd (hG1 _ _ hg) (by decide)
                                        · replace h := ite_f hs33_17 h
                                          by_cases hs33_18 : v33 = 18
                                          · replace h := ite_t hs33_18 h
                                            refine V.tin (c := 18) (tgt := 921) d_Lw_law_33 hs33_18 (by decide) (by decide) rfl (by decide) ?_
                                            refine V.aload_n d_Lw_law_921 rfl 1 rfl ?_
                                            refine V.aload_n d_Lw_law_922 rfl 0 rfl ?_
                                            refine V.iload_n d_Lw_law_923 rfl 3 rfl ?_
                                            refine V.iconst (v := 1) d_Lw_law_924 (by decide) ?_
                                            refine V.iadd d_Lw_law_925 ?_
                                            obtain ⟨gq, h⟩ := grd_e h
                                            refine V.xld hX (inb_e gq) rfl d_Lw_law_926 ?_
                                            refine V.aload_n d_Lw_law_927 rfl 0 rfl ?_
                                            refine V.iload_n d_Lw_law_928 rfl 3 rfl ?_
                                            refine V.iconst (v := 2) d_Lw_law_929 (by decide) ?_
                                            refine V.iadd d_Lw_law_930 ?_
                                            obtain ⟨gq, h⟩ := grd_e h
                                            refine V.xld hX (inb_e gq) rfl d_Lw_law_931 ?_
                                            refine V.aload_n d_Lw_law_932 rfl 0 rfl ?_
                                            refine V.iload_n d_Lw_law_933 rfl 3 rfl ?_
                                            refine V.iconst (v := 3) d_Lw_law_934 (by decide) ?_
                                            refine V.iadd d_Lw_law_935 ?_
                                            obtain ⟨gq, h⟩ := grd_e h
                                            refine V.xld hX (inb_e gq) rfl d_Lw_law_936 ?_
                                            refine V.aload_n d_Lw_law_937 rfl 0 rfl ?_
                                            refine V.iload_n d_Lw_law_938 rfl 3 rfl ?_
                                            refine V.iconst (v := 4) d_Lw_law_939 (by decide) ?_
                                            refine V.iadd d_Lw_law_940 ?_
                                            obtain ⟨gq, h⟩ := grd_e h
                                            refine V.xld hX (inb_e gq) rfl d_Lw_law_941 ?_
                                            obtain ⟨r942, σ942, h1, h⟩ := bnd2_e h
                                            refine V.wI hRm (as := [.int (xs ((x3 + 1).toNatClampNeg)), .int (xs ((x3 + 2).toNatClampNeg)), .int (xs ((x3 + 3).toNatClampNeg)), .int (xs ((x3 + 4).toNatClampNeg))]) (st := []) (c_Sh_worth Z h1) k_Sh_worth lk_Lw_93 (by decide) rfl (by decide) ly_0 ok_Sh.1 rfl (Nat.le_of_ble_eq_true rfl) d_Lw_law_942 ?_
                                            refine V.aload_n d_Lw_law_945 rfl 2 rfl ?_
                                            refine V.aload_n d_Lw_law_946 rfl 0 rfl ?_
                                            refine V.iload_n d_Lw_law_947 rfl 3 rfl ?_
                                            refine V.iconst (v := 1) d_Lw_law_948 (by decide) ?_
                                            refine V.iadd d_Lw_law_949 ?_
                                            obtain ⟨gq, h⟩ := grd_e h
                                            refine V.xld hX (inb_e gq) rfl d_Lw_law_950 ?_
                                            refine V.aload_n d_Lw_law_951 rfl 0 rfl ?_
                                            refine V.iload_n d_Lw_law_952 rfl 3 rfl ?_
                                            refine V.iconst (v := 2) d_Lw_law_953 (by decide) ?_
                                            refine V.iadd d_Lw_law_954 ?_
                                            obtain ⟨gq, h⟩ := grd_e h
                                            refine V.xld hX (inb_e gq) rfl d_Lw_law_955 ?_
                                            refine V.aload_n d_Lw_law_956 rfl 0 rfl ?_
                                            refine V.iload_n d_Lw_law_957 rfl 3 rfl ?_
                                            refine V.iconst (v := 3) d_Lw_law_958 (by decide) ?_
                                            refine V.iadd d_Lw_law_959 ?_
                                            obtain ⟨gq, h⟩ := grd_e h
                                            refine V.xld hX (inb_e gq) rfl d_Lw_law_960 ?_
                                            refine V.aload_n d_Lw_law_961 rfl 0 rfl ?_
                                            refine V.iload_n d_Lw_law_962 rfl 3 rfl ?_
                                            refine V.iconst (v := 4) d_Lw_law_963 (by decide) ?_
                                            refine V.iadd d_Lw_law_964 ?_
                                            obtain ⟨gq, h⟩ := grd_e h
                                            refine V.xld hX (inb_e gq) rfl d_Lw_law_965 ?_
                                            obtain ⟨r966, σ966, h1, h⟩ := bnd2_e h
                                            refine V.wI hRm (as := [.int (xs ((x3 + 1).toNatClampNeg)), .int (xs ((x3 + 2).toNatClampNeg)), .int (xs ((x3 + 3).toNatClampNeg)), .int (xs ((x3 + 4).toNatClampNeg))]) (st := [.int r942]) (c_Mo_worth Z h1) k_Mo_worth lk_Lw_96 (by decide) rfl (by decide) ly_65 ok_Mo.1 rfl (Nat.le_of_ble_eq_true rfl) d_Lw_law_966 ?_
                                            refine V.icmp_eq (tgt := 1549) d_Lw_law_969 (by decide) (fun hc969 => ?_) (fun hc969 => ?_)
                                            · replace h := ite_t hc969 h
                                              obtain ⟨v1549, e_v1549, h⟩ := letv_e h
                                              refine V.iinc (v := v1549) (lv' := [(3, .int v1549), (0, .ref sb), (1, rf Z 0), (2, rf Z 65)]) d_Lw_law_1549 3 rfl (by rw [e_v1549]; rfl) (by decide) rfl ?_
                                              refine V.goto (tgt := 18) d_Lw_law_1552 (by decide) ?_
                                              exact V.pick [1, 2, 3, 0] rfl (ih _ _ _ h hg)
                                            · replace h := ite_f hc969 h
                                              refine V.iconst (v := 0) d_Lw_law_972 (by decide) ?_
                                              cases h
                                              exact absurd (hG1 _ _ hg) (by decide)
                                          · replace h := ite_f hs33_18 h
                                            by_cases hs33_19 : v33 = 19
                                            · replace h := ite_t hs33_19 h
                                              refine V.tin (c := 19) (tgt := 974) d_Lw_law_33 hs33_19 (by decide) (by decide) rfl (by decide) ?_
                                              refine V.aload_n d_Lw_law_974 rfl 1 rfl ?_
                                              refine V.aload_n d_Lw_law_975 rfl 0 rfl ?_
                                              refine V.iload_n d_Lw_law_976 rfl 3 rfl ?_
                                              refine V.iconst (v := 1) d_Lw_law_977 (by decide) ?_
                                              refine V.iadd d_Lw_law_978 ?_
                                              obtain ⟨gq, h⟩ := grd_e h
                                              refine V.xld hX (inb_e gq) rfl d_Lw_law_979 ?_
                                              refine V.aload_n d_Lw_law_980 rfl 0 rfl ?_
                                              refine V.iload_n d_Lw_law_981 rfl 3 rfl ?_
                                              refine V.iconst (v := 2) d_Lw_law_982 (by decide) ?_
                                              refine V.iadd d_Lw_law_983 ?_
                                              obtain ⟨gq, h⟩ := grd_e h
                                              refine V.xld hX (inb_e gq) rfl d_Lw_law_984 ?_
                                              refine V.aload_n d_Lw_law_985 rfl 0 rfl ?_
                                              refine V.iload_n d_Lw_law_986 rfl 3 rfl ?_
                                              refine V.iconst (v := 3) d_Lw_law_987 (by decide) ?_
                                              refine V.iadd d_Lw_law_988 ?_
                                              obtain ⟨gq, h⟩ := grd_e h
                                              refine V.xld hX (inb_e gq) rfl d_Lw_law_989 ?_
                                              obtain ⟨r990, σ990, h1, h⟩ := bnd2_e h
                                              refine V.wI hRm (as := [.int (xs ((x3 + 1).toNatClampNeg)), .int (xs ((x3 + 2).toNatClampNeg)), .int (xs ((x3 + 3).toNatClampNeg))]) (st := []) (c_Sh_sale Z h1) k_Sh_sale lk_Lw_97 (by decide) rfl (by decide) ly_0 ok_Sh.1 rfl (Nat.le_of_ble_eq_true rfl) d_Lw_law_990 ?_
                                              refine V.aload_n d_Lw_law_993 rfl 2 rfl ?_
                                              refine V.aload_n d_Lw_law_994 rfl 0 rfl ?_
                                              refine V.iload_n d_Lw_law_995 rfl 3 rfl ?_
                                              refine V.iconst (v := 1) d_Lw_law_996 (by decide) ?_
                                              refine V.iadd d_Lw_law_997 ?_
                                              obtain ⟨gq, h⟩ := grd_e h
                                              refine V.xld hX (inb_e gq) rfl d_Lw_law_998 ?_
                                              refine V.aload_n d_Lw_law_999 rfl 0 rfl ?_
                                              refine V.iload_n d_Lw_law_1000 rfl 3 rfl ?_
                                              refine V.iconst (v := 2) d_Lw_law_1001 (by decide) ?_
                                              refine V.iadd d_Lw_law_1002 ?_
                                              obtain ⟨gq, h⟩ := grd_e h
                                              refine V.xld hX (inb_e gq) rfl d_Lw_law_1003 ?_
                                              refine V.aload_n d_Lw_law_1004 rfl 0 rfl ?_
                                              refine V.iload_n d_Lw_law_1005 rfl 3 rfl ?_
                                              refine V.iconst (v := 3) d_Lw_law_1006 (by decide) ?_
                                              refine V.iadd d_Lw_law_1007 ?_
                                              obtain ⟨gq, h⟩ := grd_e h
                                              refine V.xld hX (inb_e gq) rfl d_Lw_law_1008 ?_
                                              obtain ⟨r1009, σ1009, h1, h⟩ := bnd2_e h
                                              refine V.wI hRm (as := [.int (xs ((x3 + 1).toNatClampNeg)), .int (xs ((x3 + 2).toNatClampNeg)), .int (xs ((x3 + 3).toNatClampNeg))]) (st := [.int r990]) (c_Mo_sale Z h1) k_Mo_sale lk_Lw_100 (by decide) rfl (by decide) ly_65 ok_Mo.1 rfl (Nat.le_of_ble_eq_true rfl) d_Lw_law_1009 ?_
                                              refine V.icmp_eq (tgt := 1549) d_Lw_law_1012 (by decide) (fun hc1012 => ?_) (fun hc1012 => ?_)
                                              · replace h := ite_t hc1012 h
                                                obtain ⟨v1549, e_v1549, h⟩ := letv_e h
                                                refine V.iinc (v := v1549) (lv' := [(3, .int v1549), (0, .ref sb), (1, rf Z 0), (2, rf Z 65)]) d_Lw_law_1549 3 rfl (by rw [e_v1549]; rfl) (by decide) rfl ?_
                                                refine V.goto (tgt := 18) d_Lw_law_1552 (by decide) ?_
                                                exact V.pick [1, 2, 3, 0] rfl (ih _ _ _ h hg)
                                              · replace h := ite_f hc1012 h
                                                refine V.iconst (v := 0) d_Lw_law_1015 (by decide) ?_
                                                cases h
                                                exact absurd (hG1 _ _ hg) (by decide)
                                            · replace h := ite_f hs33_19 h
                                              by_cases hs33_20 : v33 = 20
                                              · replace h := ite_t hs33_20 h
                                                refine V.tin (c := 20) (tgt := 1017) d_Lw_law_33 hs33_20 (by decide) (by decide) rfl (by decide) ?_
                                                refine V.aload_n d_Lw_law_1017 rfl 1 rfl ?_
                                                refine V.aload_n d_Lw_law_1018 rfl 0 rfl ?_
                                                refine V.iload_n d_Lw_law_1019 rfl 3 rfl ?_
                                                refine V.iconst (v := 1) d_Lw_law_1020 (by decide) ?_
                                                refine V.iadd d_Lw_law_1021 ?_
                                                obtain ⟨gq, h⟩ := grd_e h
                                                refine V.xld hX (inb_e gq) rfl d_Lw_law_1022 ?_
                                                refine V.aload_n d_Lw_law_1023 rfl 0 rfl ?_
                                                refine V.iload_n d_Lw_law_1024 rfl 3 rfl ?_
                                                refine V.iconst (v := 2) d_Lw_law_1025 (by decide) ?_
                                                refine V.iadd d_Lw_law_1026 ?_
                                                obtain ⟨gq, h⟩ := grd_e h
                                                refine V.xld hX (inb_e gq) rfl d_Lw_law_1027 ?_
                                                refine V.aload_n d_Lw_law_1028 rfl 0 rfl ?_
                                                refine V.iload_n d_Lw_law_1029 rfl 3 rfl ?_
                                                refine V.iconst (v := 3) d_Lw_law_1030 (by decide) ?_
                                                refine V.iadd d_Lw_law_1031 ?_
                                                obtain ⟨gq, h⟩ := grd_e h
                                                refine V.xld hX (inb_e gq) rfl d_Lw_law_1032 ?_
                                                refine V.aload_n d_Lw_law_1033 rfl 0 rfl ?_
                                                refine V.iload_n d_Lw_law_1034 rfl 3 rfl ?_
                                                refine V.iconst (v := 4) d_Lw_law_1035 (by decide) ?_
                                                refine V.iadd d_Lw_law_1036 ?_
                                                obtain ⟨gq, h⟩ := grd_e h
                                                refine V.xld hX (inb_e gq) rfl d_Lw_law_1037 ?_
                                                refine V.aload_n d_Lw_law_1038 rfl 0 rfl ?_
                                                refine V.iload_n d_Lw_law_1039 rfl 3 rfl ?_
                                                refine V.iconst (v := 5) d_Lw_law_1040 (by decide) ?_
                                                refine V.iadd d_Lw_law_1041 ?_
                                                obtain ⟨gq, h⟩ := grd_e h
                                                refine V.xld hX (inb_e gq) rfl d_Lw_law_1042 ?_
                                                refine V.aload_n d_Lw_law_1043 rfl 0 rfl ?_
                                                refine V.iload_n d_Lw_law_1044 rfl 3 rfl ?_
                                                refine V.bipush (v := 6) d_Lw_law_1045 (by decide) ?_
                                                refine V.iadd d_Lw_law_1047 ?_
                                                obtain ⟨gq, h⟩ := grd_e h
                                                refine V.xld hX (inb_e gq) rfl d_Lw_law_1048 ?_
                                                obtain ⟨s1049, h1, h⟩ := bnd1_e h
                                                have J1049_1057 : ∀ (y1049_s6 : Int32), s1049 = y1049_s6 → V (mkB Z) Y m_Lw_law 49 Qw kLw sLw nC σ 1057 [(0, .ref sb), (1, rf Z 0), (2, rf Z 65), (3, .int x3)] [.int y1049_s6, .int (xs ((x3 + 5).toNatClampNeg)), .int (xs ((x3 + 4).toNatClampNeg)), .int (xs ((x3 + 3).toNatClampNeg)), .int (xs ((x3 + 2).toNatClampNeg)), .int (xs ((x3 + 1).toNatClampNeg)), rf Z 0] := by
                                                  intro y1049_s6 he
                                                  rw [he] at h
                                                  refine V.aload_n d_Lw_law_1057 rfl 0 rfl ?_
                                                  refine V.iload_n d_Lw_law_1058 rfl 3 rfl ?_
                                                  refine V.bipush (v := 7) d_Lw_law_1059 (by decide) ?_
                                                  refine V.iadd d_Lw_law_1061 ?_
                                                  obtain ⟨gq, h⟩ := grd_e h
                                                  refine V.xld hX (inb_e gq) rfl d_Lw_law_1062 ?_
                                                  obtain ⟨r1063, σ1063, h1, h⟩ := bnd2_e h
                                                  refine V.wI hRm (as := [.int (xs ((x3 + 1).toNatClampNeg)), .int (xs ((x3 + 2).toNatClampNeg)), .int (xs ((x3 + 3).toNatClampNeg)), .int (xs ((x3 + 4).toNatClampNeg)), .int (xs ((x3 + 5).toNatClampNeg)), .int y1049_s6, .int (xs ((x3 + 7).toNatClampNeg))]) (st := []) (c_Sh_wish Z h1) k_Sh_wish lk_Lw_101 (by decide) rfl (by decide) ly_0 ok_Sh.1 rfl (Nat.le_of_ble_eq_true rfl) d_Lw_law_1063 ?_
                                                  refine V.aload_n d_Lw_law_1066 rfl 2 rfl ?_
                                                  refine V.aload_n d_Lw_law_1067 rfl 0 rfl ?_
                                                  refine V.iload_n d_Lw_law_1068 rfl 3 rfl ?_
                                                  refine V.iconst (v := 1) d_Lw_law_1069 (by decide) ?_
                                                  refine V.iadd d_Lw_law_1070 ?_
                                                  obtain ⟨gq, h⟩ := grd_e h
                                                  refine V.xld hX (inb_e gq) rfl d_Lw_law_1071 ?_
                                                  refine V.aload_n d_Lw_law_1072 rfl 0 rfl ?_
                                                  refine V.iload_n d_Lw_law_1073 rfl 3 rfl ?_
                                                  refine V.iconst (v := 2) d_Lw_law_1074 (by decide) ?_
                                                  refine V.iadd d_Lw_law_1075 ?_
                                                  obtain ⟨gq, h⟩ := grd_e h
                                                  refine V.xld hX (inb_e gq) rfl d_Lw_law_1076 ?_
                                                  refine V.aload_n d_Lw_law_1077 rfl 0 rfl ?_
                                                  refine V.iload_n d_Lw_law_1078 rfl 3 rfl ?_
                                                  refine V.iconst (v := 3) d_Lw_law_1079 (by decide) ?_
                                                  refine V.iadd d_Lw_law_1080 ?_
                                                  obtain ⟨gq, h⟩ := grd_e h
                                                  refine V.xld hX (inb_e gq) rfl d_Lw_law_1081 ?_
                                                  refine V.aload_n d_Lw_law_1082 rfl 0 rfl ?_
                                                  refine V.iload_n d_Lw_law_1083 rfl 3 rfl ?_
                                                  refine V.iconst (v := 4) d_Lw_law_1084 (by decide) ?_
                                                  refine V.iadd d_Lw_law_1085 ?_
                                                  obtain ⟨gq, h⟩ := grd_e h
                                                  refine V.xld hX (inb_e gq) rfl d_Lw_law_1086 ?_
                                                  refine V.aload_n d_Lw_law_1087 rfl 0 rfl ?_
                                                  refine V.iload_n d_Lw_law_1088 rfl 3 rfl ?_
                                                  refine V.iconst (v := 5) d_Lw_law_1089 (by decide) ?_
                                                  refine V.iadd d_Lw_law_1090 ?_
                                                  obtain ⟨gq, h⟩ := grd_e h
                                                  refine V.xld hX (inb_e gq) rfl d_Lw_law_1091 ?_
                                                  refine V.aload_n d_Lw_law_1092 rfl 0 rfl ?_
                                                  refine V.iload_n d_Lw_law_1093 rfl 3 rfl ?_
                                                  refine V.bipush (v := 6) d_Lw_law_1094 (by decide) ?_
                                                  refine V.iadd d_Lw_law_1096 ?_
                                                  obtain ⟨gq, h⟩ := grd_e h
                                                  refine V.xld hX (inb_e gq) rfl d_Lw_law_1097 ?_
                                                  obtain ⟨s1098, h1, h⟩ := bnd1_e h
                                                  have J1098_1106 : ∀ (y1098_s7 : Int32), s1098 = y1098_s7 → V (mkB Z) Y m_Lw_law 49 Qw kLw sLw nC σ1063 1106 [(0, .ref sb), (1, rf Z 0), (2, rf Z 65), (3, .int x3)] [.int y1098_s7, .int (xs ((x3 + 5).toNatClampNeg)), .int (xs ((x3 + 4).toNatClampNeg)), .int (xs ((x3 + 3).toNatClampNeg)), .int (xs ((x3 + 2).toNatClampNeg)), .int (xs ((x3 + 1).toNatClampNeg)), rf Z 65, .int r1063] := by
                                                    intro y1098_s7 he
                                                    rw [he] at h
                                                    refine V.aload_n d_Lw_law_1106 rfl 0 rfl ?_
                                                    refine V.iload_n d_Lw_law_1107 rfl 3 rfl ?_
                                                    refine V.bipush (v := 7) d_Lw_law_1108 (by decide) ?_
                                                    refine V.iadd d_Lw_law_1110 ?_
                                                    obtain ⟨gq, h⟩ := grd_e h
                                                    refine V.xld hX (inb_e gq) rfl d_Lw_law_1111 ?_
                                                    obtain ⟨r1112, σ1112, h1, h⟩ := bnd2_e h
                                                    refine V.wI hRm (as := [.int (xs ((x3 + 1).toNatClampNeg)), .int (xs ((x3 + 2).toNatClampNeg)), .int (xs ((x3 + 3).toNatClampNeg)), .int (xs ((x3 + 4).toNatClampNeg)), .int (xs ((x3 + 5).toNatClampNeg)), .int y1098_s7, .int (xs ((x3 + 7).toNatClampNeg))]) (st := [.int r1063]) (c_Mo_wish Z h1) k_Mo_wish lk_Lw_105 (by decide) rfl (by decide) ly_65 ok_Mo.1 rfl (Nat.le_of_ble_eq_true rfl) d_Lw_law_1112 ?_
                                                    refine V.icmp_eq (tgt := 1549) d_Lw_law_1115 (by decide) (fun hc1115 => ?_) (fun hc1115 => ?_)
                                                    · replace h := ite_t hc1115 h
                                                      obtain ⟨v1549, e_v1549, h⟩ := letv_e h
                                                      refine V.iinc (v := v1549) (lv' := [(3, .int v1549), (0, .ref sb), (1, rf Z 0), (2, rf Z 65)]) d_Lw_law_1549 3 rfl (by rw [e_v1549]; rfl) (by decide) rfl ?_
                                                      refine V.goto (tgt := 18) d_Lw_law_1552 (by decide) ?_
                                                      exact V.pick [1, 2, 3, 0] rfl (ih _ _ _ h hg)
                                                    · replace h := ite_f hc1115 h
                                                      refine V.iconst (v := 0) d_Lw_law_1118 (by decide) ?_
                                                      cases h
                                                      exact absurd (hG1 _ _ hg) (by decide)
                                                  replace h := h1
                                                  refine V.if_eq (tgt := 1105) d_Lw_law_1098 (by decide) (fun hc1098 => ?_) (fun hc1098 => ?_)
                                                  · replace h := ite_t hc1098 h
                                                    refine V.iconst (v := 0) d_Lw_law_1105 (by decide) ?_
                                                    exact V.pick [0, 1, 2, 3] rfl (J1098_1106 _ (Option.some.inj h).symm)
                                                  · replace h := ite_f hc1098 h
                                                    refine V.iconst (v := 1) d_Lw_law_1101 (by decide) ?_
                                                    refine V.goto (tgt := 1106) d_Lw_law_1102 (by decide) ?_
                                                    exact V.pick [0, 1, 2, 3] rfl (J1098_1106 _ (Option.some.inj h).symm)
                                                replace h := h1
                                                refine V.if_eq (tgt := 1056) d_Lw_law_1049 (by decide) (fun hc1049 => ?_) (fun hc1049 => ?_)
                                                · replace h := ite_t hc1049 h
                                                  refine V.iconst (v := 0) d_Lw_law_1056 (by decide) ?_
                                                  exact V.pick [0, 1, 2, 3] rfl (J1049_1057 _ (Option.some.inj h).symm)
                                                · replace h := ite_f hc1049 h
                                                  refine V.iconst (v := 1) d_Lw_law_1052 (by decide) ?_
                                                  refine V.goto (tgt := 1057) d_Lw_law_1053 (by decide) ?_
                                                  exact V.pick [0, 1, 2, 3] rfl (J1049_1057 _ (Option.some.inj h).symm)
                                              · replace h := ite_f hs33_20 h
                                                by_cases hs33_21 : v33 = 21
                                                · replace h := ite_t hs33_21 h
                                                  refine V.tin (c := 21) (tgt := 1120) d_Lw_law_33 hs33_21 (by decide) (by decide) rfl (by decide) ?_
                                                  refine V.aload_n d_Lw_law_1120 rfl 1 rfl ?_
                                                  refine V.aload_n d_Lw_law_1121 rfl 0 rfl ?_
                                                  refine V.iload_n d_Lw_law_1122 rfl 3 rfl ?_
                                                  refine V.iconst (v := 1) d_Lw_law_1123 (by decide) ?_
                                                  refine V.iadd d_Lw_law_1124 ?_
                                                  obtain ⟨gq, h⟩ := grd_e h
                                                  refine V.xld hX (inb_e gq) rfl d_Lw_law_1125 ?_
                                                  obtain ⟨r1126, σ1126, h1, h⟩ := bnd2_e h
                                                  refine V.wI hRm (as := [.int (xs ((x3 + 1).toNatClampNeg))]) (st := []) (c_Sh_kept Z h1) k_Sh_kept lk_Lw_106 (by decide) rfl (by decide) ly_0 ok_Sh.1 rfl (Nat.le_of_ble_eq_true rfl) d_Lw_law_1126 ?_
                                                  refine V.aload_n d_Lw_law_1129 rfl 2 rfl ?_
                                                  refine V.aload_n d_Lw_law_1130 rfl 0 rfl ?_
                                                  refine V.iload_n d_Lw_law_1131 rfl 3 rfl ?_
                                                  refine V.iconst (v := 1) d_Lw_law_1132 (by decide) ?_
                                                  refine V.iadd d_Lw_law_1133 ?_
                                                  obtain ⟨gq, h⟩ := grd_e h
                                                  refine V.xld hX (inb_e gq) rfl d_Lw_law_1134 ?_
                                                  obtain ⟨r1135, σ1135, h1, h⟩ := bnd2_e h
                                                  refine V.wI hRm (as := [.int (xs ((x3 + 1).toNatClampNeg))]) (st := [.int r1126]) (c_Mo_kept Z h1) k_Mo_kept lk_Lw_109 (by decide) rfl (by decide) ly_65 ok_Mo.1 rfl (Nat.le_of_ble_eq_true rfl) d_Lw_law_1135 ?_
                                                  refine V.icmp_eq (tgt := 1549) d_Lw_law_1138 (by decide) (fun hc1138 => ?_) (fun hc1138 => ?_)
                                                  · replace h := ite_t hc1138 h
                                                    obtain ⟨v1549, e_v1549, h⟩ := letv_e h
                                                    refine V.iinc (v := v1549) (lv' := [(3, .int v1549), (0, .ref sb), (1, rf Z 0), (2, rf Z 65)]) d_Lw_law_1549 3 rfl (by rw [e_v1549]; rfl) (by decide) rfl ?_
                                                    refine V.goto (tgt := 18) d_Lw_law_1552 (by decide) ?_
                                                    exact V.pick [1, 2, 3, 0] rfl (ih _ _ _ h hg)
                                                  · replace h := ite_f hc1138 h
                                                    refine V.iconst (v := 0) d_Lw_law_1141 (by decide) ?_
                                                    cases h
                                                    exact absurd (hG1 _ _ hg) (by decide)
                                                · replace h := ite_f hs33_21 h
                                                  by_cases hs33_22 : v33 = 22
                                                  · replace h := ite_t hs33_22 h
                                                    refine V.tin (c := 22) (tgt := 1143) d_Lw_law_33 hs33_22 (by decide) (by decide) rfl (by decide) ?_
                                                    refine V.aload_n d_Lw_law_1143 rfl 1 rfl ?_
                                                    obtain ⟨r1144, σ1144, h1, h⟩ := bnd2_e h
                                                    refine V.wI hRm (as := []) (st := []) (c_Sh_happy Z h1) k_Sh_happy lk_Lw_110 (by decide) rfl (by decide) ly_0 ok_Sh.1 rfl (Nat.le_of_ble_eq_true rfl) d_Lw_law_1144 ?_
                                                    refine V.aload_n d_Lw_law_1147 rfl 2 rfl ?_
                                                    obtain ⟨r1148, σ1148, h1, h⟩ := bnd2_e h
                                                    refine V.wI hRm (as := []) (st := [.int r1144]) (c_Mo_happy Z h1) k_Mo_happy lk_Lw_114 (by decide) rfl (by decide) ly_65 ok_Mo.1 rfl (Nat.le_of_ble_eq_true rfl) d_Lw_law_1148 ?_
                                                    refine V.icmp_eq (tgt := 1549) d_Lw_law_1151 (by decide) (fun hc1151 => ?_) (fun hc1151 => ?_)
                                                    · replace h := ite_t hc1151 h
                                                      obtain ⟨v1549, e_v1549, h⟩ := letv_e h
                                                      refine V.iinc (v := v1549) (lv' := [(3, .int v1549), (0, .ref sb), (1, rf Z 0), (2, rf Z 65)]) d_Lw_law_1549 3 rfl (by rw [e_v1549]; rfl) (by decide) rfl ?_
                                                      refine V.goto (tgt := 18) d_Lw_law_1552 (by decide) ?_
                                                      exact V.pick [1, 2, 3, 0] rfl (ih _ _ _ h hg)
                                                    · replace h := ite_f hc1151 h
                                                      refine V.iconst (v := 0) d_Lw_law_1154 (by decide) ?_
                                                      cases h
                                                      exact absurd (hG1 _ _ hg) (by decide)
                                                  · replace h := ite_f hs33_22 h
                                                    by_cases hs33_23 : v33 = 23
                                                    · replace h := ite_t hs33_23 h
                                                      refine V.tin (c := 23) (tgt := 1156) d_Lw_law_33 hs33_23 (by decide) (by decide) rfl (by decide) ?_
                                                      refine V.aload_n d_Lw_law_1156 rfl 1 rfl ?_
                                                      refine V.aload_n d_Lw_law_1157 rfl 0 rfl ?_
                                                      refine V.iload_n d_Lw_law_1158 rfl 3 rfl ?_
                                                      refine V.iconst (v := 1) d_Lw_law_1159 (by decide) ?_
                                                      refine V.iadd d_Lw_law_1160 ?_
                                                      obtain ⟨gq, h⟩ := grd_e h
                                                      refine V.xld hX (inb_e gq) rfl d_Lw_law_1161 ?_
                                                      refine V.aload_n d_Lw_law_1162 rfl 0 rfl ?_
                                                      refine V.iload_n d_Lw_law_1163 rfl 3 rfl ?_
                                                      refine V.iconst (v := 2) d_Lw_law_1164 (by decide) ?_
                                                      refine V.iadd d_Lw_law_1165 ?_
                                                      obtain ⟨gq, h⟩ := grd_e h
                                                      refine V.xld hX (inb_e gq) rfl d_Lw_law_1166 ?_
                                                      obtain ⟨r1167, σ1167, h1, h⟩ := bnd2_e h
                                                      refine V.wI hRm (as := [.int (xs ((x3 + 1).toNatClampNeg)), .int (xs ((x3 + 2).toNatClampNeg))]) (st := []) (c_Sh_storey Z h1) k_Sh_storey lk_Lw_115 (by decide) rfl (by decide) ly_0 ok_Sh.1 rfl (Nat.le_of_ble_eq_true rfl) d_Lw_law_1167 ?_
                                                      refine V.aload_n d_Lw_law_1170 rfl 2 rfl ?_
                                                      refine V.aload_n d_Lw_law_1171 rfl 0 rfl ?_
                                                      refine V.iload_n d_Lw_law_1172 rfl 3 rfl ?_
                                                      refine V.iconst (v := 1) d_Lw_law_1173 (by decide) ?_
                                                      refine V.iadd d_Lw_law_1174 ?_
                                                      obtain ⟨gq, h⟩ := grd_e h
                                                      refine V.xld hX (inb_e gq) rfl d_Lw_law_1175 ?_
                                                      refine V.aload_n d_Lw_law_1176 rfl 0 rfl ?_
                                                      refine V.iload_n d_Lw_law_1177 rfl 3 rfl ?_
                                                      refine V.iconst (v := 2) d_Lw_law_1178 (by decide) ?_
                                                      refine V.iadd d_Lw_law_1179 ?_
                                                      obtain ⟨gq, h⟩ := grd_e h
                                                      refine V.xld hX (inb_e gq) rfl d_Lw_law_1180 ?_
                                                      obtain ⟨r1181, σ1181, h1, h⟩ := bnd2_e h
                                                      refine V.wI hRm (as := [.int (xs ((x3 + 1).toNatClampNeg)), .int (xs ((x3 + 2).toNatClampNeg))]) (st := [.int r1167]) (c_Mo_storey Z h1) k_Mo_storey lk_Lw_118 (by decide) rfl (by decide) ly_65 ok_Mo.1 rfl (Nat.le_of_ble_eq_true rfl) d_Lw_law_1181 ?_
                                                      refine V.icmp_eq (tgt := 1549) d_Lw_law_1184 (by decide) (fun hc1184 => ?_) (fun hc1184 => ?_)
                                                      · replace h := ite_t hc1184 h
                                                        obtain ⟨v1549, e_v1549, h⟩ := letv_e h
                                                        refine V.iinc (v := v1549) (lv' := [(3, .int v1549), (0, .ref sb), (1, rf Z 0), (2, rf Z 65)]) d_Lw_law_1549 3 rfl (by rw [e_v1549]; rfl) (by decide) rfl ?_
                                                        refine V.goto (tgt := 18) d_Lw_law_1552 (by decide) ?_
                                                        exact V.pick [1, 2, 3, 0] rfl (ih _ _ _ h hg)
                                                      · replace h := ite_f hc1184 h
                                                        refine V.iconst (v := 0) d_Lw_law_1187 (by decide) ?_
                                                        cases h
                                                        exact absurd (hG1 _ _ hg) (by decide)
                                                    · replace h := ite_f hs33_23 h
                                                      by_cases hs33_24 : v33 = 24
                                                      · replace h := ite_t hs33_24 h
                                                        refine V.tin (c := 24) (tgt := 1189) d_Lw_law_33 hs33_24 (by decide) (by decide) rfl (by decide) ?_
                                                        refine V.aload_n d_Lw_law_1189 rfl 1 rfl ?_
                                                        refine V.aload_n d_Lw_law_1190 rfl 0 rfl ?_
                                                        refine V.iload_n d_Lw_law_1191 rfl 3 rfl ?_
                                                        refine V.iconst (v := 1) d_Lw_law_1192 (by decide) ?_
                                                        refine V.iadd d_Lw_law_1193 ?_
                                                        obtain ⟨gq, h⟩ := grd_e h
                                                        refine V.xld hX (inb_e gq) rfl d_Lw_law_1194 ?_
                                                        refine V.aload_n d_Lw_law_1195 rfl 0 rfl ?_
                                                        refine V.iload_n d_Lw_law_1196 rfl 3 rfl ?_
                                                        refine V.iconst (v := 2) d_Lw_law_1197 (by decide) ?_
                                                        refine V.iadd d_Lw_law_1198 ?_
                                                        obtain ⟨gq, h⟩ := grd_e h
                                                        refine V.xld hX (inb_e gq) rfl d_Lw_law_1199 ?_
                                                        obtain ⟨r1200, σ1200, h1, h⟩ := bnd2_e h
                                                        refine V.wI hRm (as := [.int (xs ((x3 + 1).toNatClampNeg)), .int (xs ((x3 + 2).toNatClampNeg))]) (st := []) (c_Sh_bestAwning Z h1) k_Sh_bestAwning lk_Lw_119 (by decide) rfl (by decide) ly_0 ok_Sh.1 rfl (Nat.le_of_ble_eq_true rfl) d_Lw_law_1200 ?_
                                                        refine V.aload_n d_Lw_law_1203 rfl 2 rfl ?_
                                                        refine V.aload_n d_Lw_law_1204 rfl 0 rfl ?_
                                                        refine V.iload_n d_Lw_law_1205 rfl 3 rfl ?_
                                                        refine V.iconst (v := 1) d_Lw_law_1206 (by decide) ?_
                                                        refine V.iadd d_Lw_law_1207 ?_
                                                        obtain ⟨gq, h⟩ := grd_e h
                                                        refine V.xld hX (inb_e gq) rfl d_Lw_law_1208 ?_
                                                        refine V.aload_n d_Lw_law_1209 rfl 0 rfl ?_
                                                        refine V.iload_n d_Lw_law_1210 rfl 3 rfl ?_
                                                        refine V.iconst (v := 2) d_Lw_law_1211 (by decide) ?_
                                                        refine V.iadd d_Lw_law_1212 ?_
                                                        obtain ⟨gq, h⟩ := grd_e h
                                                        refine V.xld hX (inb_e gq) rfl d_Lw_law_1213 ?_
                                                        obtain ⟨r1214, σ1214, h1, h⟩ := bnd2_e h
                                                        refine V.wI hRm (as := [.int (xs ((x3 + 1).toNatClampNeg)), .int (xs ((x3 + 2).toNatClampNeg))]) (st := [.int r1200]) (c_Mo_bestAwning Z h1) k_Mo_bestAwning lk_Lw_122 (by decide) rfl (by decide) ly_65 ok_Mo.1 rfl (Nat.le_of_ble_eq_true rfl) d_Lw_law_1214 ?_
                                                        refine V.icmp_eq (tgt := 1549) d_Lw_law_1217 (by decide) (fun hc1217 => ?_) (fun hc1217 => ?_)
                                                        · replace h := ite_t hc1217 h
                                                          obtain ⟨v1549, e_v1549, h⟩ := letv_e h
                                                          refine V.iinc (v := v1549) (lv' := [(3, .int v1549), (0, .ref sb), (1, rf Z 0), (2, rf Z 65)]) d_Lw_law_1549 3 rfl (by rw [e_v1549]; rfl) (by decide) rfl ?_
                                                          refine V.goto (tgt := 18) d_Lw_law_1552 (by decide) ?_
                                                          exact V.pick [1, 2, 3, 0] rfl (ih _ _ _ h hg)
                                                        · replace h := ite_f hc1217 h
                                                          refine V.iconst (v := 0) d_Lw_law_1220 (by decide) ?_
                                                          cases h
                                                          exact absurd (hG1 _ _ hg) (by decide)
                                                      · replace h := ite_f hs33_24 h
                                                        by_cases hs33_25 : v33 = 25
                                                        · replace h := ite_t hs33_25 h
                                                          refine V.tin (c := 25) (tgt := 1222) d_Lw_law_33 hs33_25 (by decide) (by decide) rfl (by decide) ?_
                                                          refine V.aload_n d_Lw_law_1222 rfl 1 rfl ?_
                                                          refine V.aload_n d_Lw_law_1223 rfl 0 rfl ?_
                                                          refine V.iload_n d_Lw_law_1224 rfl 3 rfl ?_
                                                          refine V.iconst (v := 1) d_Lw_law_1225 (by decide) ?_
                                                          refine V.iadd d_Lw_law_1226 ?_
                                                          obtain ⟨gq, h⟩ := grd_e h
                                                          refine V.xld hX (inb_e gq) rfl d_Lw_law_1227 ?_
                                                          refine V.aload_n d_Lw_law_1228 rfl 0 rfl ?_
                                                          refine V.iload_n d_Lw_law_1229 rfl 3 rfl ?_
                                                          refine V.iconst (v := 2) d_Lw_law_1230 (by decide) ?_
                                                          refine V.iadd d_Lw_law_1231 ?_
                                                          obtain ⟨gq, h⟩ := grd_e h
                                                          refine V.xld hX (inb_e gq) rfl d_Lw_law_1232 ?_
                                                          refine V.aload_n d_Lw_law_1233 rfl 0 rfl ?_
                                                          refine V.iload_n d_Lw_law_1234 rfl 3 rfl ?_
                                                          refine V.iconst (v := 3) d_Lw_law_1235 (by decide) ?_
                                                          refine V.iadd d_Lw_law_1236 ?_
                                                          obtain ⟨gq, h⟩ := grd_e h
                                                          refine V.xld hX (inb_e gq) rfl d_Lw_law_1237 ?_
                                                          refine V.aload_n d_Lw_law_1238 rfl 0 rfl ?_
                                                          refine V.iload_n d_Lw_law_1239 rfl 3 rfl ?_
                                                          refine V.iconst (v := 4) d_Lw_law_1240 (by decide) ?_
                                                          refine V.iadd d_Lw_law_1241 ?_
                                                          obtain ⟨gq, h⟩ := grd_e h
                                                          refine V.xld hX (inb_e gq) rfl d_Lw_law_1242 ?_
                                                          obtain ⟨r1243, σ1243, h1, h⟩ := bnd2_e h
                                                          refine V.wI hRm (as := [.int (xs ((x3 + 1).toNatClampNeg)), .int (xs ((x3 + 2).toNatClampNeg)), .int (xs ((x3 + 3).toNatClampNeg)), .int (xs ((x3 + 4).toNatClampNeg))]) (st := []) (c_Sh_hat Z h1) k_Sh_hat lk_Lw_123 (by decide) rfl (by decide) ly_0 ok_Sh.1 rfl (Nat.le_of_ble_eq_true rfl) d_Lw_law_1243 ?_
                                                          refine V.aload_n d_Lw_law_1246 rfl 2 rfl ?_
                                                          refine V.aload_n d_Lw_law_1247 rfl 0 rfl ?_
                                                          refine V.iload_n d_Lw_law_1248 rfl 3 rfl ?_
                                                          refine V.iconst (v := 1) d_Lw_law_1249 (by decide) ?_
                                                          refine V.iadd d_Lw_law_1250 ?_
                                                          obtain ⟨gq, h⟩ := grd_e h
                                                          refine V.xld hX (inb_e gq) rfl d_Lw_law_1251 ?_
                                                          refine V.aload_n d_Lw_law_1252 rfl 0 rfl ?_
                                                          refine V.iload_n d_Lw_law_1253 rfl 3 rfl ?_
                                                          refine V.iconst (v := 2) d_Lw_law_1254 (by decide) ?_
                                                          refine V.iadd d_Lw_law_1255 ?_
                                                          obtain ⟨gq, h⟩ := grd_e h
                                                          refine V.xld hX (inb_e gq) rfl d_Lw_law_1256 ?_
                                                          refine V.aload_n d_Lw_law_1257 rfl 0 rfl ?_
                                                          refine V.iload_n d_Lw_law_1258 rfl 3 rfl ?_
                                                          refine V.iconst (v := 3) d_Lw_law_1259 (by decide) ?_
                                                          refine V.iadd d_Lw_law_1260 ?_
                                                          obtain ⟨gq, h⟩ := grd_e h
                                                          refine V.xld hX (inb_e gq) rfl d_Lw_law_1261 ?_
                                                          refine V.aload_n d_Lw_law_1262 rfl 0 rfl ?_
                                                          refine V.iload_n d_Lw_law_1263 rfl 3 rfl ?_
                                                          refine V.iconst (v := 4) d_Lw_law_1264 (by decide) ?_
                                                          refine V.iadd d_Lw_law_1265 ?_
                                                          obtain ⟨gq, h⟩ := grd_e h
                                                          refine V.xld hX (inb_e gq) rfl d_Lw_law_1266 ?_
                                                          obtain ⟨r1267, σ1267, h1, h⟩ := bnd2_e h
                                                          refine V.wI hRm (as := [.int (xs ((x3 + 1).toNatClampNeg)), .int (xs ((x3 + 2).toNatClampNeg)), .int (xs ((x3 + 3).toNatClampNeg)), .int (xs ((x3 + 4).toNatClampNeg))]) (st := [.int r1243]) (c_Mo_hat Z h1) k_Mo_hat lk_Lw_126 (by decide) rfl (by decide) ly_65 ok_Mo.1 rfl (Nat.le_of_ble_eq_true rfl) d_Lw_law_1267 ?_
                                                          refine V.icmp_eq (tgt := 1549) d_Lw_law_1270 (by decide) (fun hc1270 => ?_) (fun hc1270 => ?_)
                                                          · replace h := ite_t hc1270 h
                                                            obtain ⟨v1549, e_v1549, h⟩ := letv_e h
                                                            refine V.iinc (v := v1549) (lv' := [(3, .int v1549), (0, .ref sb), (1, rf Z 0), (2, rf Z 65)]) d_Lw_law_1549 3 rfl (by rw [e_v1549]; rfl) (by decide) rfl ?_
                                                            refine V.goto (tgt := 18) d_Lw_law_1552 (by decide) ?_
                                                            exact V.pick [1, 2, 3, 0] rfl (ih _ _ _ h hg)
                                                          · replace h := ite_f hc1270 h
                                                            refine V.iconst (v := 0) d_Lw_law_1273 (by decide) ?_
                                                            cases h
                                                            exact absurd (hG1 _ _ hg) (by decide)
                                                        · replace h := ite_f hs33_25 h
                                                          by_cases hs33_26 : v33 = 26
                                                          · replace h := ite_t hs33_26 h
                                                            refine V.tin (c := 26) (tgt := 1275) d_Lw_law_33 hs33_26 (by decide) (by decide) rfl (by decide) ?_
                                                            refine V.aload_n d_Lw_law_1275 rfl 1 rfl ?_
                                                            obtain ⟨r1276, σ1276, h1, h⟩ := bnd2_e h
                                                            refine V.wI hRm (as := []) (st := []) (c_Sh_takenDown Z h1) k_Sh_takenDown lk_Lw_127 (by decide) rfl (by decide) ly_0 ok_Sh.1 rfl (Nat.le_of_ble_eq_true rfl) d_Lw_law_1276 ?_
                                                            refine V.aload_n d_Lw_law_1279 rfl 2 rfl ?_
                                                            obtain ⟨r1280, σ1280, h1, h⟩ := bnd2_e h
                                                            refine V.wI hRm (as := []) (st := [.int r1276]) (c_Mo_takenDown Z h1) k_Mo_takenDown lk_Lw_130 (by decide) rfl (by decide) ly_65 ok_Mo.1 rfl (Nat.le_of_ble_eq_true rfl) d_Lw_law_1280 ?_
                                                            refine V.icmp_eq (tgt := 1549) d_Lw_law_1283 (by decide) (fun hc1283 => ?_) (fun hc1283 => ?_)
                                                            · replace h := ite_t hc1283 h
                                                              obtain ⟨v1549, e_v1549, h⟩ := letv_e h
                                                              refine V.iinc (v := v1549) (lv' := [(3, .int v1549), (0, .ref sb), (1, rf Z 0), (2, rf Z 65)]) d_Lw_law_1549 3 rfl (by rw [e_v1549]; rfl) (by decide) rfl ?_
                                                              refine V.goto (tgt := 18) d_Lw_law_1552 (by decide) ?_
                                                              exact V.pick [1, 2, 3, 0] rfl (ih _ _ _ h hg)
                                                            · replace h := ite_f hc1283 h
                                                              refine V.iconst (v := 0) d_Lw_law_1286 (by decide) ?_
                                                              cases h
                                                              exact absurd (hG1 _ _ hg) (by decide)
                                                          · replace h := ite_f hs33_26 h
                                                            by_cases hs33_27 : v33 = 27
                                                            · replace h := ite_t hs33_27 h
                                                              refine V.tin (c := 27) (tgt := 1288) d_Lw_law_33 hs33_27 (by decide) (by decide) rfl (by decide) ?_
                                                              refine V.aload_n d_Lw_law_1288 rfl 1 rfl ?_
                                                              refine V.aload_n d_Lw_law_1289 rfl 0 rfl ?_
                                                              refine V.iload_n d_Lw_law_1290 rfl 3 rfl ?_
                                                              refine V.iconst (v := 1) d_Lw_law_1291 (by decide) ?_
                                                              refine V.iadd d_Lw_law_1292 ?_
                                                              obtain ⟨gq, h⟩ := grd_e h
                                                              refine V.xld hX (inb_e gq) rfl d_Lw_law_1293 ?_
                                                              refine V.aload_n d_Lw_law_1294 rfl 0 rfl ?_
                                                              refine V.iload_n d_Lw_law_1295 rfl 3 rfl ?_
                                                              refine V.iconst (v := 2) d_Lw_law_1296 (by decide) ?_
                                                              refine V.iadd d_Lw_law_1297 ?_
                                                              obtain ⟨gq, h⟩ := grd_e h
                                                              refine V.xld hX (inb_e gq) rfl d_Lw_law_1298 ?_
                                                              obtain ⟨r1299, σ1299, h1, h⟩ := bnd2_e h
                                                              refine V.wI hRm (as := [.int (xs ((x3 + 1).toNatClampNeg)), .int (xs ((x3 + 2).toNatClampNeg))]) (st := []) (c_Sh_noon Z h1) k_Sh_noon lk_Lw_131 (by decide) rfl (by decide) ly_0 ok_Sh.1 rfl (Nat.le_of_ble_eq_true rfl) d_Lw_law_1299 ?_
                                                              refine V.aload_n d_Lw_law_1302 rfl 2 rfl ?_
                                                              refine V.aload_n d_Lw_law_1303 rfl 0 rfl ?_
                                                              refine V.iload_n d_Lw_law_1304 rfl 3 rfl ?_
                                                              refine V.iconst (v := 1) d_Lw_law_1305 (by decide) ?_
                                                              refine V.iadd d_Lw_law_1306 ?_
                                                              obtain ⟨gq, h⟩ := grd_e h
                                                              refine V.xld hX (inb_e gq) rfl d_Lw_law_1307 ?_
                                                              refine V.aload_n d_Lw_law_1308 rfl 0 rfl ?_
                                                              refine V.iload_n d_Lw_law_1309 rfl 3 rfl ?_
                                                              refine V.iconst (v := 2) d_Lw_law_1310 (by decide) ?_
                                                              refine V.iadd d_Lw_law_1311 ?_
                                                              obtain ⟨gq, h⟩ := grd_e h
                                                              refine V.xld hX (inb_e gq) rfl d_Lw_law_1312 ?_
                                                              obtain ⟨r1313, σ1313, h1, h⟩ := bnd2_e h
                                                              refine V.wI hRm (as := [.int (xs ((x3 + 1).toNatClampNeg)), .int (xs ((x3 + 2).toNatClampNeg))]) (st := [.int r1299]) (c_Mo_noon Z h1) k_Mo_noon lk_Lw_134 (by decide) rfl (by decide) ly_65 ok_Mo.1 rfl (Nat.le_of_ble_eq_true rfl) d_Lw_law_1313 ?_
                                                              refine V.icmp_eq (tgt := 1549) d_Lw_law_1316 (by decide) (fun hc1316 => ?_) (fun hc1316 => ?_)
                                                              · replace h := ite_t hc1316 h
                                                                obtain ⟨v1549, e_v1549, h⟩ := letv_e h
                                                                refine V.iinc (v := v1549) (lv' := [(3, .int v1549), (0, .ref sb), (1, rf Z 0), (2, rf Z 65)]) d_Lw_law_1549 3 rfl (by rw [e_v1549]; rfl) (by decide) rfl ?_
                                                                refine V.goto (tgt := 18) d_Lw_law_1552 (by decide) ?_
                                                                exact V.pick [1, 2, 3, 0] rfl (ih _ _ _ h hg)
                                                              · replace h := ite_f hc1316 h
                                                                refine V.iconst (v := 0) d_Lw_law_1319 (by decide) ?_
                                                                cases h
                                                                exact absurd (hG1 _ _ hg) (by decide)
                                                            · replace h := ite_f hs33_27 h
                                                              by_cases hs33_28 : v33 = 28
                                                              · replace h := ite_t hs33_28 h
                                                                refine V.tin (c := 28) (tgt := 1321) d_Lw_law_33 hs33_28 (by decide) (by decide) rfl (by decide) ?_
                                                                refine V.aload_n d_Lw_law_1321 rfl 1 rfl ?_
                                                                refine V.aload_n d_Lw_law_1322 rfl 0 rfl ?_
                                                                refine V.iload_n d_Lw_law_1323 rfl 3 rfl ?_
                                                                refine V.iconst (v := 1) d_Lw_law_1324 (by decide) ?_
                                                                refine V.iadd d_Lw_law_1325 ?_
                                                                obtain ⟨gq, h⟩ := grd_e h
                                                                refine V.xld hX (inb_e gq) rfl d_Lw_law_1326 ?_
                                                                obtain ⟨r1327, σ1327, h1, h⟩ := bnd2_e h
                                                                refine V.wI hRm (as := [.int (xs ((x3 + 1).toNatClampNeg))]) (st := []) (c_Sh_years Z h1) k_Sh_years lk_Lw_135 (by decide) rfl (by decide) ly_0 ok_Sh.1 rfl (Nat.le_of_ble_eq_true rfl) d_Lw_law_1327 ?_
                                                                refine V.aload_n d_Lw_law_1330 rfl 2 rfl ?_
                                                                refine V.aload_n d_Lw_law_1331 rfl 0 rfl ?_
                                                                refine V.iload_n d_Lw_law_1332 rfl 3 rfl ?_
                                                                refine V.iconst (v := 1) d_Lw_law_1333 (by decide) ?_
                                                                refine V.iadd d_Lw_law_1334 ?_
                                                                obtain ⟨gq, h⟩ := grd_e h
                                                                refine V.xld hX (inb_e gq) rfl d_Lw_law_1335 ?_
                                                                obtain ⟨r1336, σ1336, h1, h⟩ := bnd2_e h
                                                                refine V.wI hRm (as := [.int (xs ((x3 + 1).toNatClampNeg))]) (st := [.int r1327]) (c_Mo_years Z h1) k_Mo_years lk_Lw_138 (by decide) rfl (by decide) ly_65 ok_Mo.1 rfl (Nat.le_of_ble_eq_true rfl) d_Lw_law_1336 ?_
                                                                refine V.icmp_eq (tgt := 1549) d_Lw_law_1339 (by decide) (fun hc1339 => ?_) (fun hc1339 => ?_)
                                                                · replace h := ite_t hc1339 h
                                                                  obtain ⟨v1549, e_v1549, h⟩ := letv_e h
                                                                  refine V.iinc (v := v1549) (lv' := [(3, .int v1549), (0, .ref sb), (1, rf Z 0), (2, rf Z 65)]) d_Lw_law_1549 3 rfl (by rw [e_v1549]; rfl) (by decide) rfl ?_
                                                                  refine V.goto (tgt := 18) d_Lw_law_1552 (by decide) ?_
                                                                  exact V.pick [1, 2, 3, 0] rfl (ih _ _ _ h hg)
                                                                · replace h := ite_f hc1339 h
                                                                  refine V.iconst (v := 0) d_Lw_law_1342 (by decide) ?_
                                                                  cases h
                                                                  exact absurd (hG1 _ _ hg) (by decide)
                                                              · replace h := ite_f hs33_28 h
                                                                by_cases hs33_29 : v33 = 29
                                                                · replace h := ite_t hs33_29 h
                                                                  refine V.tin (c := 29) (tgt := 1344) d_Lw_law_33 hs33_29 (by decide) (by decide) rfl (by decide) ?_
                                                                  refine V.aload_n d_Lw_law_1344 rfl 1 rfl ?_
                                                                  refine V.aload_n d_Lw_law_1345 rfl 0 rfl ?_
                                                                  refine V.iload_n d_Lw_law_1346 rfl 3 rfl ?_
                                                                  refine V.iconst (v := 1) d_Lw_law_1347 (by decide) ?_
                                                                  refine V.iadd d_Lw_law_1348 ?_
                                                                  obtain ⟨gq, h⟩ := grd_e h
                                                                  refine V.xld hX (inb_e gq) rfl d_Lw_law_1349 ?_
                                                                  obtain ⟨r1350, σ1350, h1, h⟩ := bnd2_e h
                                                                  refine V.wI hRm (as := [.int (xs ((x3 + 1).toNatClampNeg))]) (st := []) (c_Sh_days Z h1) k_Sh_days lk_Lw_139 (by decide) rfl (by decide) ly_0 ok_Sh.1 rfl (Nat.le_of_ble_eq_true rfl) d_Lw_law_1350 ?_
                                                                  refine V.aload_n d_Lw_law_1353 rfl 2 rfl ?_
                                                                  refine V.aload_n d_Lw_law_1354 rfl 0 rfl ?_
                                                                  refine V.iload_n d_Lw_law_1355 rfl 3 rfl ?_
                                                                  refine V.iconst (v := 1) d_Lw_law_1356 (by decide) ?_
                                                                  refine V.iadd d_Lw_law_1357 ?_
                                                                  obtain ⟨gq, h⟩ := grd_e h
                                                                  refine V.xld hX (inb_e gq) rfl d_Lw_law_1358 ?_
                                                                  obtain ⟨r1359, σ1359, h1, h⟩ := bnd2_e h
                                                                  refine V.wI hRm (as := [.int (xs ((x3 + 1).toNatClampNeg))]) (st := [.int r1350]) (c_Mo_days Z h1) k_Mo_days lk_Lw_142 (by decide) rfl (by decide) ly_65 ok_Mo.1 rfl (Nat.le_of_ble_eq_true rfl) d_Lw_law_1359 ?_
                                                                  refine V.icmp_eq (tgt := 1549) d_Lw_law_1362 (by decide) (fun hc1362 => ?_) (fun hc1362 => ?_)
                                                                  · replace h := ite_t hc1362 h
                                                                    obtain ⟨v1549, e_v1549, h⟩ := letv_e h
                                                                    refine V.iinc (v := v1549) (lv' := [(3, .int v1549), (0, .ref sb), (1, rf Z 0), (2, rf Z 65)]) d_Lw_law_1549 3 rfl (by rw [e_v1549]; rfl) (by decide) rfl ?_
                                                                    refine V.goto (tgt := 18) d_Lw_law_1552 (by decide) ?_
                                                                    exact V.pick [1, 2, 3, 0] rfl (ih _ _ _ h hg)
                                                                  · replace h := ite_f hc1362 h
                                                                    refine V.iconst (v := 0) d_Lw_law_1365 (by decide) ?_
                                                                    cases h
                                                                    exact absurd (hG1 _ _ hg) (by decide)
                                                                · replace h := ite_f hs33_29 h
                                                                  by_cases hs33_30 : v33 = 30
                                                                  · replace h := ite_t hs33_30 h
                                                                    refine V.tin (c := 30) (tgt := 1367) d_Lw_law_33 hs33_30 (by decide) (by decide) rfl (by decide) ?_
                                                                    refine V.aload_n d_Lw_law_1367 rfl 1 rfl ?_
                                                                    refine V.aload_n d_Lw_law_1368 rfl 0 rfl ?_
                                                                    refine V.iload_n d_Lw_law_1369 rfl 3 rfl ?_
                                                                    refine V.iconst (v := 1) d_Lw_law_1370 (by decide) ?_
                                                                    refine V.iadd d_Lw_law_1371 ?_
                                                                    obtain ⟨gq, h⟩ := grd_e h
                                                                    refine V.xld hX (inb_e gq) rfl d_Lw_law_1372 ?_
                                                                    obtain ⟨r1373, h1, h⟩ := bnd1_e h
                                                                    refine V.wI hRm (as := [.int (xs ((x3 + 1).toNatClampNeg))]) (st := []) (c_Sh_purse Z h1) k_Sh_purse lk_Lw_143 (by decide) rfl (by decide) ly_0 ok_Sh.1 rfl (Nat.le_of_ble_eq_true rfl) d_Lw_law_1373 ?_
                                                                    refine V.aload_n d_Lw_law_1376 rfl 2 rfl ?_
                                                                    refine V.aload_n d_Lw_law_1377 rfl 0 rfl ?_
                                                                    refine V.iload_n d_Lw_law_1378 rfl 3 rfl ?_
                                                                    refine V.iconst (v := 1) d_Lw_law_1379 (by decide) ?_
                                                                    refine V.iadd d_Lw_law_1380 ?_
                                                                    obtain ⟨gq, h⟩ := grd_e h
                                                                    refine V.xld hX (inb_e gq) rfl d_Lw_law_1381 ?_
                                                                    obtain ⟨r1382, h1, h⟩ := bnd1_e h
                                                                    refine V.wI hRm (as := [.int (xs ((x3 + 1).toNatClampNeg))]) (st := [.int r1373]) (c_Mo_purse Z h1) k_Mo_purse lk_Lw_146 (by decide) rfl (by decide) ly_65 ok_Mo.1 rfl (Nat.le_of_ble_eq_true rfl) d_Lw_law_1382 ?_
                                                                    refine V.icmp_eq (tgt := 1549) d_Lw_law_1385 (by decide) (fun hc1385 => ?_) (fun hc1385 => ?_)
                                                                    · replace h := ite_t hc1385 h
                                                                      obtain ⟨v1549, e_v1549, h⟩ := letv_e h
                                                                      refine V.iinc (v := v1549) (lv' := [(3, .int v1549), (0, .ref sb), (1, rf Z 0), (2, rf Z 65)]) d_Lw_law_1549 3 rfl (by rw [e_v1549]; rfl) (by decide) rfl ?_
                                                                      refine V.goto (tgt := 18) d_Lw_law_1552 (by decide) ?_
                                                                      exact V.pick [1, 2, 3, 0] rfl (ih _ _ _ h hg)
                                                                    · replace h := ite_f hc1385 h
                                                                      refine V.iconst (v := 0) d_Lw_law_1388 (by decide) ?_
                                                                      cases h
                                                                      exact absurd (hG1 _ _ hg) (by decide)
                                                                  · replace h := ite_f hs33_30 h
                                                                    by_cases hs33_31 : v33 = 31
                                                                    · replace h := ite_t hs33_31 h
                                                                      refine V.tin (c := 31) (tgt := 1390) d_Lw_law_33 hs33_31 (by decide) (by decide) rfl (by decide) ?_
                                                                      refine V.aload_n d_Lw_law_1390 rfl 1 rfl ?_
                                                                      refine V.aload_n d_Lw_law_1391 rfl 0 rfl ?_
                                                                      refine V.iload_n d_Lw_law_1392 rfl 3 rfl ?_
                                                                      refine V.iconst (v := 1) d_Lw_law_1393 (by decide) ?_
                                                                      refine V.iadd d_Lw_law_1394 ?_
                                                                      obtain ⟨gq, h⟩ := grd_e h
                                                                      refine V.xld hX (inb_e gq) rfl d_Lw_law_1395 ?_
                                                                      refine V.aload_n d_Lw_law_1396 rfl 0 rfl ?_
                                                                      refine V.iload_n d_Lw_law_1397 rfl 3 rfl ?_
                                                                      refine V.iconst (v := 2) d_Lw_law_1398 (by decide) ?_
                                                                      refine V.iadd d_Lw_law_1399 ?_
                                                                      obtain ⟨gq, h⟩ := grd_e h
                                                                      refine V.xld hX (inb_e gq) rfl d_Lw_law_1400 ?_
                                                                      refine V.aload_n d_Lw_law_1401 rfl 0 rfl ?_
                                                                      refine V.iload_n d_Lw_law_1402 rfl 3 rfl ?_
                                                                      refine V.iconst (v := 3) d_Lw_law_1403 (by decide) ?_
                                                                      refine V.iadd d_Lw_law_1404 ?_
                                                                      obtain ⟨gq, h⟩ := grd_e h
                                                                      refine V.xld hX (inb_e gq) rfl d_Lw_law_1405 ?_
                                                                      obtain ⟨r1406, σ1406, h1, h⟩ := bnd2_e h
                                                                      refine V.wJ hRm (as := [.int (xs ((x3 + 1).toNatClampNeg)), .int (xs ((x3 + 2).toNatClampNeg)), .int (xs ((x3 + 3).toNatClampNeg))]) (st := []) (c_Sh_odds Z h1) k_Sh_odds lk_Lw_147 (by decide) rfl (by decide) ly_0 ok_Sh.1 rfl (Nat.le_of_ble_eq_true rfl) d_Lw_law_1406 ?_
                                                                      refine V.aload_n d_Lw_law_1409 rfl 2 rfl ?_
                                                                      refine V.aload_n d_Lw_law_1410 rfl 0 rfl ?_
                                                                      refine V.iload_n d_Lw_law_1411 rfl 3 rfl ?_
                                                                      refine V.iconst (v := 1) d_Lw_law_1412 (by decide) ?_
                                                                      refine V.iadd d_Lw_law_1413 ?_
                                                                      obtain ⟨gq, h⟩ := grd_e h
                                                                      refine V.xld hX (inb_e gq) rfl d_Lw_law_1414 ?_
                                                                      refine V.aload_n d_Lw_law_1415 rfl 0 rfl ?_
                                                                      refine V.iload_n d_Lw_law_1416 rfl 3 rfl ?_
                                                                      refine V.iconst (v := 2) d_Lw_law_1417 (by decide) ?_
                                                                      refine V.iadd d_Lw_law_1418 ?_
                                                                      obtain ⟨gq, h⟩ := grd_e h
                                                                      refine V.xld hX (inb_e gq) rfl d_Lw_law_1419 ?_
                                                                      refine V.aload_n d_Lw_law_1420 rfl 0 rfl ?_
                                                                      refine V.iload_n d_Lw_law_1421 rfl 3 rfl ?_
                                                                      refine V.iconst (v := 3) d_Lw_law_1422 (by decide) ?_
                                                                      refine V.iadd d_Lw_law_1423 ?_
                                                                      obtain ⟨gq, h⟩ := grd_e h
                                                                      refine V.xld hX (inb_e gq) rfl d_Lw_law_1424 ?_
                                                                      obtain ⟨r1425, σ1425, h1, h⟩ := bnd2_e h
                                                                      refine V.wJ hRm (as := [.int (xs ((x3 + 1).toNatClampNeg)), .int (xs ((x3 + 2).toNatClampNeg)), .int (xs ((x3 + 3).toNatClampNeg))]) (st := [.long r1406]) (c_Mo_odds Z h1) k_Mo_odds lk_Lw_151 (by decide) rfl (by decide) ly_65 ok_Mo.1 rfl (Nat.le_of_ble_eq_true rfl) d_Lw_law_1425 ?_
                                                                      refine V.lcmp d_Lw_law_1428 ?_
                                                                      refine V.if_eq (tgt := 1549) d_Lw_law_1429 (by decide) (fun hc1429 => ?_) (fun hc1429 => ?_)
                                                                      · replace h := ite_t hc1429 h
                                                                        obtain ⟨v1549, e_v1549, h⟩ := letv_e h
                                                                        refine V.iinc (v := v1549) (lv' := [(3, .int v1549), (0, .ref sb), (1, rf Z 0), (2, rf Z 65)]) d_Lw_law_1549 3 rfl (by rw [e_v1549]; rfl) (by decide) rfl ?_
                                                                        refine V.goto (tgt := 18) d_Lw_law_1552 (by decide) ?_
                                                                        exact V.pick [1, 2, 3, 0] rfl (ih _ _ _ h hg)
                                                                      · replace h := ite_f hc1429 h
                                                                        refine V.iconst (v := 0) d_Lw_law_1432 (by decide) ?_
                                                                        cases h
                                                                        exact absurd (hG1 _ _ hg) (by decide)
                                                                    · replace h := ite_f hs33_31 h
                                                                      by_cases hs33_32 : v33 = 32
                                                                      · replace h := ite_t hs33_32 h
                                                                        refine V.tin (c := 32) (tgt := 1434) d_Lw_law_33 hs33_32 (by decide) (by decide) rfl (by decide) ?_
                                                                        refine V.aload_n d_Lw_law_1434 rfl 1 rfl ?_
                                                                        refine V.aload_n d_Lw_law_1435 rfl 0 rfl ?_
                                                                        refine V.iload_n d_Lw_law_1436 rfl 3 rfl ?_
                                                                        refine V.iconst (v := 1) d_Lw_law_1437 (by decide) ?_
                                                                        refine V.iadd d_Lw_law_1438 ?_
                                                                        obtain ⟨gq, h⟩ := grd_e h
                                                                        refine V.xld hX (inb_e gq) rfl d_Lw_law_1439 ?_
                                                                        obtain ⟨r1440, σ1440, h1, h⟩ := bnd2_e h
                                                                        refine V.wI hRm (as := [.int (xs ((x3 + 1).toNatClampNeg))]) (st := []) (c_Sh_seed Z h1) k_Sh_seed lk_Lw_152 (by decide) rfl (by decide) ly_0 ok_Sh.1 rfl (Nat.le_of_ble_eq_true rfl) d_Lw_law_1440 ?_
                                                                        refine V.aload_n d_Lw_law_1443 rfl 2 rfl ?_
                                                                        refine V.aload_n d_Lw_law_1444 rfl 0 rfl ?_
                                                                        refine V.iload_n d_Lw_law_1445 rfl 3 rfl ?_
                                                                        refine V.iconst (v := 1) d_Lw_law_1446 (by decide) ?_
                                                                        refine V.iadd d_Lw_law_1447 ?_
                                                                        obtain ⟨gq, h⟩ := grd_e h
                                                                        refine V.xld hX (inb_e gq) rfl d_Lw_law_1448 ?_
                                                                        obtain ⟨r1449, σ1449, h1, h⟩ := bnd2_e h
                                                                        refine V.wI hRm (as := [.int (xs ((x3 + 1).toNatClampNeg))]) (st := [.int r1440]) (c_Mo_seed Z h1) k_Mo_seed lk_Lw_155 (by decide) rfl (by decide) ly_65 ok_Mo.1 rfl (Nat.le_of_ble_eq_true rfl) d_Lw_law_1449 ?_
                                                                        refine V.icmp_eq (tgt := 1549) d_Lw_law_1452 (by decide) (fun hc1452 => ?_) (fun hc1452 => ?_)
                                                                        · replace h := ite_t hc1452 h
                                                                          obtain ⟨v1549, e_v1549, h⟩ := letv_e h
                                                                          refine V.iinc (v := v1549) (lv' := [(3, .int v1549), (0, .ref sb), (1, rf Z 0), (2, rf Z 65)]) d_Lw_law_1549 3 rfl (by rw [e_v1549]; rfl) (by decide) rfl ?_
                                                                          refine V.goto (tgt := 18) d_Lw_law_1552 (by decide) ?_
                                                                          exact V.pick [1, 2, 3, 0] rfl (ih _ _ _ h hg)
                                                                        · replace h := ite_f hc1452 h
                                                                          refine V.iconst (v := 0) d_Lw_law_1455 (by decide) ?_
                                                                          cases h
                                                                          exact absurd (hG1 _ _ hg) (by decide)
                                                                      · replace h := ite_f hs33_32 h
                                                                        by_cases hs33_33 : v33 = 33
                                                                        · replace h := ite_t hs33_33 h
                                                                          refine V.tin (c := 33) (tgt := 1457) d_Lw_law_33 hs33_33 (by decide) (by decide) rfl (by decide) ?_
                                                                          refine V.aload_n d_Lw_law_1457 rfl 1 rfl ?_
                                                                          obtain ⟨r1458, σ1458, h1, h⟩ := bnd2_e h
                                                                          refine V.wI hRm (as := []) (st := []) (c_Sh_keep Z h1) k_Sh_keep lk_Lw_156 (by decide) rfl (by decide) ly_0 ok_Sh.1 rfl (Nat.le_of_ble_eq_true rfl) d_Lw_law_1458 ?_
                                                                          refine V.aload_n d_Lw_law_1461 rfl 2 rfl ?_
                                                                          obtain ⟨r1462, σ1462, h1, h⟩ := bnd2_e h
                                                                          refine V.wI hRm (as := []) (st := [.int r1458]) (c_Mo_keep Z h1) k_Mo_keep lk_Lw_159 (by decide) rfl (by decide) ly_65 ok_Mo.1 rfl (Nat.le_of_ble_eq_true rfl) d_Lw_law_1462 ?_
                                                                          refine V.icmp_eq (tgt := 1549) d_Lw_law_1465 (by decide) (fun hc1465 => ?_) (fun hc1465 => ?_)
                                                                          · replace h := ite_t hc1465 h
                                                                            obtain ⟨v1549, e_v1549, h⟩ := letv_e h
                                                                            refine V.iinc (v := v1549) (lv' := [(3, .int v1549), (0, .ref sb), (1, rf Z 0), (2, rf Z 65)]) d_Lw_law_1549 3 rfl (by rw [e_v1549]; rfl) (by decide) rfl ?_
                                                                            refine V.goto (tgt := 18) d_Lw_law_1552 (by decide) ?_
                                                                            exact V.pick [1, 2, 3, 0] rfl (ih _ _ _ h hg)
                                                                          · replace h := ite_f hc1465 h
                                                                            refine V.iconst (v := 0) d_Lw_law_1468 (by decide) ?_
                                                                            cases h
                                                                            exact absurd (hG1 _ _ hg) (by decide)
                                                                        · replace h := ite_f hs33_33 h
                                                                          by_cases hs33_34 : v33 = 34
                                                                          · replace h := ite_t hs33_34 h
                                                                            refine V.tin (c := 34) (tgt := 1470) d_Lw_law_33 hs33_34 (by decide) (by decide) rfl (by decide) ?_
                                                                            refine V.aload_n d_Lw_law_1470 rfl 1 rfl ?_
                                                                            obtain ⟨r1471, σ1471, h1, h⟩ := bnd2_e h
                                                                            refine V.wI hRm (as := []) (st := []) (c_Sh_undo Z h1) k_Sh_undo lk_Lw_160 (by decide) rfl (by decide) ly_0 ok_Sh.1 rfl (Nat.le_of_ble_eq_true rfl) d_Lw_law_1471 ?_
                                                                            refine V.aload_n d_Lw_law_1474 rfl 2 rfl ?_
                                                                            obtain ⟨r1475, σ1475, h1, h⟩ := bnd2_e h
                                                                            refine V.wI hRm (as := []) (st := [.int r1471]) (c_Mo_undo Z h1) k_Mo_undo lk_Lw_164 (by decide) rfl (by decide) ly_65 ok_Mo.1 rfl (Nat.le_of_ble_eq_true rfl) d_Lw_law_1475 ?_
                                                                            refine V.icmp_eq (tgt := 1549) d_Lw_law_1478 (by decide) (fun hc1478 => ?_) (fun hc1478 => ?_)
                                                                            · replace h := ite_t hc1478 h
                                                                              obtain ⟨v1549, e_v1549, h⟩ := letv_e h
                                                                              refine V.iinc (v := v1549) (lv' := [(3, .int v1549), (0, .ref sb), (1, rf Z 0), (2, rf Z 65)]) d_Lw_law_1549 3 rfl (by rw [e_v1549]; rfl) (by decide) rfl ?_
                                                                              refine V.goto (tgt := 18) d_Lw_law_1552 (by decide) ?_
                                                                              exact V.pick [1, 2, 3, 0] rfl (ih _ _ _ h hg)
                                                                            · replace h := ite_f hc1478 h
                                                                              refine V.iconst (v := 0) d_Lw_law_1481 (by decide) ?_
                                                                              cases h
                                                                              exact absurd (hG1 _ _ hg) (by decide)
                                                                          · replace h := ite_f hs33_34 h
                                                                            by_cases hs33_35 : v33 = 35
                                                                            · replace h := ite_t hs33_35 h
                                                                              refine V.tin (c := 35) (tgt := 1483) d_Lw_law_33 hs33_35 (by decide) (by decide) rfl (by decide) ?_
                                                                              refine V.aload_n d_Lw_law_1483 rfl 1 rfl ?_
                                                                              refine V.aload_n d_Lw_law_1484 rfl 0 rfl ?_
                                                                              refine V.iload_n d_Lw_law_1485 rfl 3 rfl ?_
                                                                              refine V.iconst (v := 1) d_Lw_law_1486 (by decide) ?_
                                                                              refine V.iadd d_Lw_law_1487 ?_
                                                                              obtain ⟨gq, h⟩ := grd_e h
                                                                              refine V.xld hX (inb_e gq) rfl d_Lw_law_1488 ?_
                                                                              refine V.aload_n d_Lw_law_1489 rfl 0 rfl ?_
                                                                              refine V.iload_n d_Lw_law_1490 rfl 3 rfl ?_
                                                                              refine V.iconst (v := 2) d_Lw_law_1491 (by decide) ?_
                                                                              refine V.iadd d_Lw_law_1492 ?_
                                                                              obtain ⟨gq, h⟩ := grd_e h
                                                                              refine V.xld hX (inb_e gq) rfl d_Lw_law_1493 ?_
                                                                              refine V.aload_n d_Lw_law_1494 rfl 0 rfl ?_
                                                                              refine V.iload_n d_Lw_law_1495 rfl 3 rfl ?_
                                                                              refine V.iconst (v := 3) d_Lw_law_1496 (by decide) ?_
                                                                              refine V.iadd d_Lw_law_1497 ?_
                                                                              obtain ⟨gq, h⟩ := grd_e h
                                                                              refine V.xld hX (inb_e gq) rfl d_Lw_law_1498 ?_
                                                                              obtain ⟨r1499, σ1499, h1, h⟩ := bnd2_e h
                                                                              refine V.wI hRm (as := [.int (xs ((x3 + 1).toNatClampNeg)), .int (xs ((x3 + 2).toNatClampNeg)), .int (xs ((x3 + 3).toNatClampNeg))]) (st := []) (c_Sh_check Z h1) k_Sh_check lk_Lw_165 (by decide) rfl (by decide) ly_0 ok_Sh.1 rfl (Nat.le_of_ble_eq_true rfl) d_Lw_law_1499 ?_
                                                                              refine V.aload_n d_Lw_law_1502 rfl 2 rfl ?_
                                                                              refine V.aload_n d_Lw_law_1503 rfl 0 rfl ?_
                                                                              refine V.iload_n d_Lw_law_1504 rfl 3 rfl ?_
                                                                              refine V.iconst (v := 1) d_Lw_law_1505 (by decide) ?_
                                                                              refine V.iadd d_Lw_law_1506 ?_
                                                                              obtain ⟨gq, h⟩ := grd_e h
                                                                              refine V.xld hX (inb_e gq) rfl d_Lw_law_1507 ?_
                                                                              refine V.aload_n d_Lw_law_1508 rfl 0 rfl ?_
                                                                              refine V.iload_n d_Lw_law_1509 rfl 3 rfl ?_
                                                                              refine V.iconst (v := 2) d_Lw_law_1510 (by decide) ?_
                                                                              refine V.iadd d_Lw_law_1511 ?_
                                                                              obtain ⟨gq, h⟩ := grd_e h
                                                                              refine V.xld hX (inb_e gq) rfl d_Lw_law_1512 ?_
                                                                              refine V.aload_n d_Lw_law_1513 rfl 0 rfl ?_
                                                                              refine V.iload_n d_Lw_law_1514 rfl 3 rfl ?_
                                                                              refine V.iconst (v := 3) d_Lw_law_1515 (by decide) ?_
                                                                              refine V.iadd d_Lw_law_1516 ?_
                                                                              obtain ⟨gq, h⟩ := grd_e h
                                                                              refine V.xld hX (inb_e gq) rfl d_Lw_law_1517 ?_
                                                                              obtain ⟨r1518, σ1518, h1, h⟩ := bnd2_e h
                                                                              refine V.wI hRm (as := [.int (xs ((x3 + 1).toNatClampNeg)), .int (xs ((x3 + 2).toNatClampNeg)), .int (xs ((x3 + 3).toNatClampNeg))]) (st := [.int r1499]) (c_Mo_check Z h1) k_Mo_check lk_Lw_168 (by decide) rfl (by decide) ly_65 ok_Mo.1 rfl (Nat.le_of_ble_eq_true rfl) d_Lw_law_1518 ?_
                                                                              refine V.icmp_eq (tgt := 1549) d_Lw_law_1521 (by decide) (fun hc1521 => ?_) (fun hc1521 => ?_)
                                                                              · replace h := ite_t hc1521 h
                                                                                obtain ⟨v1549, e_v1549, h⟩ := letv_e h
                                                                                refine V.iinc (v := v1549) (lv' := [(3, .int v1549), (0, .ref sb), (1, rf Z 0), (2, rf Z 65)]) d_Lw_law_1549 3 rfl (by rw [e_v1549]; rfl) (by decide) rfl ?_
                                                                                refine V.goto (tgt := 18) d_Lw_law_1552 (by decide) ?_
                                                                                exact V.pick [1, 2, 3, 0] rfl (ih _ _ _ h hg)
                                                                              · replace h := ite_f hc1521 h
                                                                                refine V.iconst (v := 0) d_Lw_law_1524 (by decide) ?_
                                                                                cases h
                                                                                exact absurd (hG1 _ _ hg) (by decide)
                                                                            · replace h := ite_f hs33_35 h
                                                                              by_cases hs33_36 : v33 = 36
                                                                              · replace h := ite_t hs33_36 h
                                                                                refine V.tin (c := 36) (tgt := 1526) d_Lw_law_33 hs33_36 (by decide) (by decide) rfl (by decide) ?_
                                                                                refine V.aload_n d_Lw_law_1526 rfl 1 rfl ?_
                                                                                refine V.aload_n d_Lw_law_1527 rfl 0 rfl ?_
                                                                                refine V.iload_n d_Lw_law_1528 rfl 3 rfl ?_
                                                                                refine V.iconst (v := 1) d_Lw_law_1529 (by decide) ?_
                                                                                refine V.iadd d_Lw_law_1530 ?_
                                                                                obtain ⟨gq, h⟩ := grd_e h
                                                                                refine V.xld hX (inb_e gq) rfl d_Lw_law_1531 ?_
                                                                                obtain ⟨r1532, σ1532, h1, h⟩ := bnd2_e h
                                                                                refine V.wI hRm (as := [.int (xs ((x3 + 1).toNatClampNeg))]) (st := []) (c_Sh_count Z h1) k_Sh_count lk_Lw_169 (by decide) rfl (by decide) ly_0 ok_Sh.1 rfl (Nat.le_of_ble_eq_true rfl) d_Lw_law_1532 ?_
                                                                                refine V.aload_n d_Lw_law_1535 rfl 2 rfl ?_
                                                                                refine V.aload_n d_Lw_law_1536 rfl 0 rfl ?_
                                                                                refine V.iload_n d_Lw_law_1537 rfl 3 rfl ?_
                                                                                refine V.iconst (v := 1) d_Lw_law_1538 (by decide) ?_
                                                                                refine V.iadd d_Lw_law_1539 ?_
                                                                                obtain ⟨gq, h⟩ := grd_e h
                                                                                refine V.xld hX (inb_e gq) rfl d_Lw_law_1540 ?_
                                                                                obtain ⟨r1541, σ1541, h1, h⟩ := bnd2_e h
                                                                                refine V.wI hRm (as := [.int (xs ((x3 + 1).toNatClampNeg))]) (st := [.int r1532]) (c_Mo_count Z h1) k_Mo_count lk_Lw_172 (by decide) rfl (by decide) ly_65 ok_Mo.1 rfl (Nat.le_of_ble_eq_true rfl) d_Lw_law_1541 ?_
                                                                                refine V.icmp_eq (tgt := 1549) d_Lw_law_1544 (by decide) (fun hc1544 => ?_) (fun hc1544 => ?_)
                                                                                · replace h := ite_t hc1544 h
                                                                                  obtain ⟨v1549, e_v1549, h⟩ := letv_e h
                                                                                  refine V.iinc (v := v1549) (lv' := [(3, .int v1549), (0, .ref sb), (1, rf Z 0), (2, rf Z 65)]) d_Lw_law_1549 3 rfl (by rw [e_v1549]; rfl) (by decide) rfl ?_
                                                                                  refine V.goto (tgt := 18) d_Lw_law_1552 (by decide) ?_
                                                                                  exact V.pick [1, 2, 3, 0] rfl (ih _ _ _ h hg)
                                                                                · replace h := ite_f hc1544 h
                                                                                  refine V.iconst (v := 0) d_Lw_law_1547 (by decide) ?_
                                                                                  cases h
                                                                                  exact absurd (hG1 _ _ hg) (by decide)
                                                                              · replace h := ite_f hs33_36 h
                                                                                refine V.tdef (tgt := 1549) d_Lw_law_33 (fun i h1 h2 => ?_) (by decide) ?_
                                                                                · rcases (show i = 0 ∨ i = 1 ∨ i = 2 ∨ i = 3 ∨ i = 4 ∨ i = 5 ∨ i = 6 ∨ i = 7 ∨ i = 8 ∨ i = 9 ∨ i = 10 ∨ i = 11 ∨ i = 12 ∨ i = 13 ∨ i = 14 ∨ i = 15 ∨ i = 16 ∨ i = 17 ∨ i = 18 ∨ i = 19 ∨ i = 20 ∨ i = 21 ∨ i = 22 ∨ i = 23 ∨ i = 24 ∨ i = 25 ∨ i = 26 ∨ i = 27 ∨ i = 28 ∨ i = 29 ∨ i = 30 ∨ i = 31 ∨ i = 32 ∨ i = 33 ∨ i = 34 ∨ i = 35 ∨ i = 36 by omega) with rfl | rfl | rfl | rfl | rfl | rfl | rfl | rfl | rfl | rfl | rfl | rfl | rfl | rfl | rfl | rfl | rfl | rfl | rfl | rfl | rfl | rfl | rfl | rfl | rfl | rfl | rfl | rfl | rfl | rfl | rfl | rfl | rfl | rfl | rfl | rfl | rfl
                                                                                  · exact Or.inl (fun e => hs33_0 (e.trans (by decide)))
                                                                                  · exact Or.inl (fun e => hs33_1 (e.trans (by decide)))
                                                                                  · exact Or.inl (fun e => hs33_2 (e.trans (by decide)))
                                                                                  · exact Or.inl (fun e => hs33_3 (e.trans (by decide)))
                                                                                  · exact Or.inl (fun e => hs33_4 (e.trans (by decide)))
                                                                                  · exact Or.inl (fun e => hs33_5 (e.trans (by decide)))
                                                                                  · exact Or.inl (fun e => hs33_6 (e.trans (by decide)))
                                                                                  · exact Or.inl (fun e => hs33_7 (e.trans (by decide)))
                                                                                  · exact Or.inl (fun e => hs33_8 (e.trans (by decide)))
                                                                                  · exact Or.inl (fun e => hs33_9 (e.trans (by decide)))
                                                                                  · exact Or.inl (fun e => hs33_10 (e.trans (by decide)))
                                                                                  · exact Or.inl (fun e => hs33_11 (e.trans (by decide)))
                                                                                  · exact Or.inl (fun e => hs33_12 (e.trans (by decide)))
                                                                                  · exact Or.inl (fun e => hs33_13 (e.trans (by decide)))
                                                                                  · exact Or.inl (fun e => hs33_14 (e.trans (by decide)))
                                                                                  · exact Or.inl (fun e => hs33_15 (e.trans (by decide)))
                                                                                  · exact Or.inl (fun e => hs33_16 (e.trans (by decide)))
                                                                                  · exact Or.inl (fun e => hs33_17 (e.trans (by decide)))
                                                                                  · exact Or.inl (fun e => hs33_18 (e.trans (by decide)))
                                                                                  · exact Or.inl (fun e => hs33_19 (e.trans (by decide)))
                                                                                  · exact Or.inl (fun e => hs33_20 (e.trans (by decide)))
                                                                                  · exact Or.inl (fun e => hs33_21 (e.trans (by decide)))
                                                                                  · exact Or.inl (fun e => hs33_22 (e.trans (by decide)))
                                                                                  · exact Or.inl (fun e => hs33_23 (e.trans (by decide)))
                                                                                  · exact Or.inl (fun e => hs33_24 (e.trans (by decide)))
                                                                                  · exact Or.inl (fun e => hs33_25 (e.trans (by decide)))
                                                                                  · exact Or.inl (fun e => hs33_26 (e.trans (by decide)))
                                                                                  · exact Or.inl (fun e => hs33_27 (e.trans (by decide)))
                                                                                  · exact Or.inl (fun e => hs33_28 (e.trans (by decide)))
                                                                                  · exact Or.inl (fun e => hs33_29 (e.trans (by decide)))
                                                                                  · exact Or.inl (fun e => hs33_30 (e.trans (by decide)))
                                                                                  · exact Or.inl (fun e => hs33_31 (e.trans (by decide)))
                                                                                  · exact Or.inl (fun e => hs33_32 (e.trans (by decide)))
                                                                                  · exact Or.inl (fun e => hs33_33 (e.trans (by decide)))
                                                                                  · exact Or.inl (fun e => hs33_34 (e.trans (by decide)))
                                                                                  · exact Or.inl (fun e => hs33_35 (e.trans (by decide)))
                                                                                  · exact Or.inl (fun e => hs33_36 (e.trans (by decide)))
                                                                                · obtain ⟨v1549, e_v1549, h⟩ := letv_e h
                                                                                  refine V.iinc (v := v1549) (lv' := [(3, .int v1549), (0, .ref sb), (1, rf Z 0), (2, rf Z 65)]) d_Lw_law_1549 3 rfl (by rw [e_v1549]; rfl) (by decide) rfl ?_
                                                                                  refine V.goto (tgt := 18) d_Lw_law_1552 (by decide) ?_
                                                                                  exact V.pick [1, 2, 3, 0] rfl (ih _ _ _ h hg)

/-! LEVEL 3, bj: the law, call for call -/
def lwZ (i : Int) (S : Sst) (O : Smo) : Option ((Int × Sst × Smo) ⊕ ((Sst × Smo) ⊕ Unit)) := some (Sum.inl (wr (i + 6), S, O))
def lw_53 (xs : Nat → Int) (L : Nat) (i : Int) (S : Sst) (O : Smo) (v : Int) : Option ((Int × Sst × Smo) ⊕ ((Sst × Smo) ⊕ Unit)) :=
  if zand v 63 = 53 then
    (Option.bind (aget xs L (wr (i + 1))) fun (v12615 : Int) =>
                                                                                                                  Option.bind (aget xs L (wr (i + 1))) fun (v12618 : Int) =>
                                                                                                                  Option.bind (f_X12_about v12618 O) fun (q12621 : Int) =>
                                                                                                                  if f_X11_about v12615 S = q12621 then
                                                                                                                    (some (Sum.inl (wr (i + 6), S, O)))
                                                                                                                  else
                                                                                                                    (some (Sum.inr (Sum.inr ()))))
  else lwZ i S O
def lw_52 (xs : Nat → Int) (L : Nat) (i : Int) (S : Sst) (O : Smo) (v : Int) : Option ((Int × Sst × Smo) ⊕ ((Sst × Smo) ⊕ Unit)) :=
  if zand v 63 = 52 then
    (Option.bind (aget xs L (wr (i + 1))) fun (v12603 : Int) =>
                                                                                                                jn (f_X11_back v12603 S) fun (q12606 : Int × Sst) =>
                                                                                                                Option.bind (aget xs L (wr (i + 1))) fun (v12608 : Int) =>
                                                                                                                Option.bind (f_X12_back v12608 O) fun (q12611 : Int × Smo) =>
                                                                                                                if q12606.1 = q12611.1 then
                                                                                                                  (some (Sum.inl (wr (i + 6), q12606.2, q12611.2)))
                                                                                                                else
                                                                                                                  (some (Sum.inr (Sum.inr ()))))
  else lw_53 xs L i S O v
def lw_51 (xs : Nat → Int) (L : Nat) (i : Int) (S : Sst) (O : Smo) (v : Int) : Option ((Int × Sst × Smo) ⊕ ((Sst × Smo) ⊕ Unit)) :=
  if zand v 63 = 51 then
    (Option.bind (aget xs L (wr (i + 1))) fun (v12591 : Int) =>
                                                                                                              jn (f_X11_image v12591 S) fun (q12594 : Int × Sst) =>
                                                                                                              Option.bind (aget xs L (wr (i + 1))) fun (v12596 : Int) =>
                                                                                                              Option.bind (f_X12_image v12596 O) fun (q12599 : Int × Smo) =>
                                                                                                              if q12594.1 = q12599.1 then
                                                                                                                (some (Sum.inl (wr (i + 6), q12594.2, q12599.2)))
                                                                                                              else
                                                                                                                (some (Sum.inr (Sum.inr ()))))
  else lw_52 xs L i S O v
def lw_50 (xs : Nat → Int) (L : Nat) (i : Int) (S : Sst) (O : Smo) (v : Int) : Option ((Int × Sst × Smo) ⊕ ((Sst × Smo) ⊕ Unit)) :=
  if zand v 63 = 50 then
    (Option.bind (aget xs L (wr (i + 1))) fun (v12571 : Int) =>
                                                                                                            Option.bind (aget xs L (wr (i + 2))) fun (v12573 : Int) =>
                                                                                                            Option.bind (aget xs L (wr (i + 3))) fun (v12575 : Int) =>
                                                                                                            Option.bind (f_X11_ask v12571 v12573 v12575 S) fun (q12578 : Int × Sst) =>
                                                                                                            Option.bind (aget xs L (wr (i + 1))) fun (v12580 : Int) =>
                                                                                                            Option.bind (aget xs L (wr (i + 2))) fun (v12582 : Int) =>
                                                                                                            Option.bind (aget xs L (wr (i + 3))) fun (v12584 : Int) =>
                                                                                                            Option.bind (f_X12_ask v12580 v12582 v12584 O) fun (q12587 : Int × Smo) =>
                                                                                                            if q12578.1 = q12587.1 then
                                                                                                              (some (Sum.inl (wr (i + 6), q12578.2, q12587.2)))
                                                                                                            else
                                                                                                              (some (Sum.inr (Sum.inr ()))))
  else lw_51 xs L i S O v
def lw_49 (xs : Nat → Int) (L : Nat) (i : Int) (S : Sst) (O : Smo) (v : Int) : Option ((Int × Sst × Smo) ⊕ ((Sst × Smo) ⊕ Unit)) :=
  if zand v 63 = 49 then
    (Option.bind (aget xs L (wr (i + 1))) fun (v12551 : Int) =>
                                                                                                          Option.bind (aget xs L (wr (i + 2))) fun (v12553 : Int) =>
                                                                                                          Option.bind (aget xs L (wr (i + 3))) fun (v12555 : Int) =>
                                                                                                          Option.bind (f_X11_sure v12551 v12553 v12555 S) fun (q12558 : Int × Sst) =>
                                                                                                          Option.bind (aget xs L (wr (i + 1))) fun (v12560 : Int) =>
                                                                                                          Option.bind (aget xs L (wr (i + 2))) fun (v12562 : Int) =>
                                                                                                          Option.bind (aget xs L (wr (i + 3))) fun (v12564 : Int) =>
                                                                                                          Option.bind (f_X12_sure v12560 v12562 v12564 O) fun (q12567 : Int × Smo) =>
                                                                                                          if q12558.1 = q12567.1 then
                                                                                                            (some (Sum.inl (wr (i + 6), q12558.2, q12567.2)))
                                                                                                          else
                                                                                                            (some (Sum.inr (Sum.inr ()))))
  else lw_50 xs L i S O v
def lw_48 (xs : Nat → Int) (L : Nat) (i : Int) (S : Sst) (O : Smo) (v : Int) : Option ((Int × Sst × Smo) ⊕ ((Sst × Smo) ⊕ Unit)) :=
  if zand v 63 = 48 then
    (Option.bind (aget xs L (wr (i + 1))) fun (v12535 : Int) =>
                                                                                                        Option.bind (aget xs L (wr (i + 2))) fun (v12537 : Int) =>
                                                                                                        Option.bind (f_X11_fits v12535 v12537 S) fun (q12540 : Int × Sst) =>
                                                                                                        Option.bind (aget xs L (wr (i + 1))) fun (v12542 : Int) =>
                                                                                                        Option.bind (aget xs L (wr (i + 2))) fun (v12544 : Int) =>
                                                                                                        Option.bind (f_X12_fits v12542 v12544 O) fun (q12547 : Int × Smo) =>
                                                                                                        if q12540.1 = q12547.1 then
                                                                                                          (some (Sum.inl (wr (i + 6), q12540.2, q12547.2)))
                                                                                                        else
                                                                                                          (some (Sum.inr (Sum.inr ()))))
  else lw_49 xs L i S O v
def lw_47 (xs : Nat → Int) (L : Nat) (i : Int) (S : Sst) (O : Smo) (v : Int) : Option ((Int × Sst × Smo) ⊕ ((Sst × Smo) ⊕ Unit)) :=
  if zand v 63 = 47 then
    (Option.bind (aget xs L (wr (i + 1))) fun (v12523 : Int) =>
                                                                                                      jn (f_X11_later v12523 S) fun (q12526 : Int × Sst) =>
                                                                                                      Option.bind (aget xs L (wr (i + 1))) fun (v12528 : Int) =>
                                                                                                      jn (f_X12_later v12528 O) fun (q12531 : Int × Smo) =>
                                                                                                      if q12526.1 = q12531.1 then
                                                                                                        (some (Sum.inl (wr (i + 6), q12526.2, q12531.2)))
                                                                                                      else
                                                                                                        (some (Sum.inr (Sum.inr ()))))
  else lw_48 xs L i S O v
def lw_46 (xs : Nat → Int) (L : Nat) (i : Int) (S : Sst) (O : Smo) (v : Int) : Option ((Int × Sst × Smo) ⊕ ((Sst × Smo) ⊕ Unit)) :=
  if zand v 63 = 46 then
    (Option.bind (aget xs L (wr (i + 1))) fun (v12511 : Int) =>
                                                                                                    jn (f_X11_untell v12511 S) fun (q12514 : Int × Sst) =>
                                                                                                    Option.bind (aget xs L (wr (i + 1))) fun (v12516 : Int) =>
                                                                                                    Option.bind (f_X12_untell v12516 O) fun (q12519 : Int × Smo) =>
                                                                                                    if q12514.1 = q12519.1 then
                                                                                                      (some (Sum.inl (wr (i + 6), q12514.2, q12519.2)))
                                                                                                    else
                                                                                                      (some (Sum.inr (Sum.inr ()))))
  else lw_47 xs L i S O v
def lw_45 (xs : Nat → Int) (L : Nat) (i : Int) (S : Sst) (O : Smo) (v : Int) : Option ((Int × Sst × Smo) ⊕ ((Sst × Smo) ⊕ Unit)) :=
  if zand v 63 = 45 then
    (Option.bind (aget xs L (wr (i + 1))) fun (v12485 : Int) =>
                                                                                                  Option.bind (aget xs L (wr (i + 2))) fun (v12487 : Int) =>
                                                                                                  jn (
                                                                                                    if v12487 = 0 then
                                                                                                      (0)
                                                                                                    else
                                                                                                      (1)) fun (q12489 : Int) =>
                                                                                                  jn (f_X11_seen v12485 q12489 S) fun (q12495 : Int × Sst) =>
                                                                                                  Option.bind (aget xs L (wr (i + 1))) fun (v12497 : Int) =>
                                                                                                  Option.bind (aget xs L (wr (i + 2))) fun (v12499 : Int) =>
                                                                                                  jn (
                                                                                                    if v12499 = 0 then
                                                                                                      (0)
                                                                                                    else
                                                                                                      (1)) fun (q12501 : Int) =>
                                                                                                  Option.bind (f_X12_seen v12497 q12501 O) fun (q12507 : Int × Smo) =>
                                                                                                  if q12495.1 = q12507.1 then
                                                                                                    (some (Sum.inl (wr (i + 6), q12495.2, q12507.2)))
                                                                                                  else
                                                                                                    (some (Sum.inr (Sum.inr ()))))
  else lw_46 xs L i S O v
def lw_44 (xs : Nat → Int) (L : Nat) (i : Int) (S : Sst) (O : Smo) (v : Int) : Option ((Int × Sst × Smo) ⊕ ((Sst × Smo) ⊕ Unit)) :=
  if zand v 63 = 44 then
    (Option.bind (aget xs L (wr (i + 1))) fun (v12475 : Int) =>
                                                                                                Option.bind (aget xs L (wr (i + 1))) fun (v12478 : Int) =>
                                                                                                Option.bind (f_X12_lies v12478 O) fun (q12481 : Int) =>
                                                                                                if f_X11_lies v12475 S = q12481 then
                                                                                                  (some (Sum.inl (wr (i + 6), S, O)))
                                                                                                else
                                                                                                  (some (Sum.inr (Sum.inr ()))))
  else lw_45 xs L i S O v
def lw_43 (xs : Nat → Int) (L : Nat) (i : Int) (S : Sst) (O : Smo) (v : Int) : Option ((Int × Sst × Smo) ⊕ ((Sst × Smo) ⊕ Unit)) :=
  if zand v 63 = 43 then
    (if f_X11_events S = f_X12_events O then
                                                                                                (some (Sum.inl (wr (i + 6), S, O)))
                                                                                              else
                                                                                                (some (Sum.inr (Sum.inr ()))))
  else lw_44 xs L i S O v
def lw_42 (xs : Nat → Int) (L : Nat) (i : Int) (S : Sst) (O : Smo) (v : Int) : Option ((Int × Sst × Smo) ⊕ ((Sst × Smo) ⊕ Unit)) :=
  if zand v 63 = 42 then
    (Option.bind (f_X12_next O) fun (q12467 : Int) =>
                                                                                            if f_X11_next S = q12467 then
                                                                                              (some (Sum.inl (wr (i + 6), S, O)))
                                                                                            else
                                                                                              (some (Sum.inr (Sum.inr ()))))
  else lw_43 xs L i S O v
def lw_41 (xs : Nat → Int) (L : Nat) (i : Int) (S : Sst) (O : Smo) (v : Int) : Option ((Int × Sst × Smo) ⊕ ((Sst × Smo) ⊕ Unit)) :=
  if zand v 63 = 41 then
    (Option.bind (aget xs L (wr (i + 1))) fun (v12453 : Int) =>
                                                                                          Option.bind (f_X11_hidden v12453 S) fun (q12456 : Int × Sst) =>
                                                                                          Option.bind (aget xs L (wr (i + 1))) fun (v12458 : Int) =>
                                                                                          Option.bind (f_X12_hidden v12458 O) fun (q12461 : Int) =>
                                                                                          if q12456.1 = q12461 then
                                                                                            (some (Sum.inl (wr (i + 6), q12456.2, O)))
                                                                                          else
                                                                                            (some (Sum.inr (Sum.inr ()))))
  else lw_42 xs L i S O v
def lw_40 (xs : Nat → Int) (L : Nat) (i : Int) (S : Sst) (O : Smo) (v : Int) : Option ((Int × Sst × Smo) ⊕ ((Sst × Smo) ⊕ Unit)) :=
  if zand v 63 = 40 then
    (Option.bind (f_X11_largest S) fun (q12446 : Int × Sst) =>
                                                                                        Option.bind (f_X12_largest O) fun (q12449 : Int × Smo) =>
                                                                                        if q12446.1 = q12449.1 then
                                                                                          (some (Sum.inl (wr (i + 6), q12446.2, q12449.2)))
                                                                                        else
                                                                                          (some (Sum.inr (Sum.inr ()))))
  else lw_41 xs L i S O v
def lw_39 (xs : Nat → Int) (L : Nat) (i : Int) (S : Sst) (O : Smo) (v : Int) : Option ((Int × Sst × Smo) ⊕ ((Sst × Smo) ⊕ Unit)) :=
  if zand v 63 = 39 then
    (Option.bind (aget xs L (wr (i + 1))) fun (v12433 : Int) =>
                                                                                      Option.bind (f_X11_area v12433 S) fun (q12436 : Int × Sst) =>
                                                                                      Option.bind (aget xs L (wr (i + 1))) fun (v12438 : Int) =>
                                                                                      Option.bind (f_X12_area v12438 O) fun (q12441 : Int × Smo) =>
                                                                                      if q12436.1 = q12441.1 then
                                                                                        (some (Sum.inl (wr (i + 6), q12436.2, q12441.2)))
                                                                                      else
                                                                                        (some (Sum.inr (Sum.inr ()))))
  else lw_40 xs L i S O v
def lw_38 (xs : Nat → Int) (L : Nat) (i : Int) (S : Sst) (O : Smo) (v : Int) : Option ((Int × Sst × Smo) ⊕ ((Sst × Smo) ⊕ Unit)) :=
  if zand v 63 = 38 then
    (Option.bind (f_X11_trapezes S) fun (q12426 : Int × Sst) =>
                                                                                    Option.bind (f_X12_trapezes O) fun (q12429 : Int × Smo) =>
                                                                                    if q12426.1 = q12429.1 then
                                                                                      (some (Sum.inl (wr (i + 6), q12426.2, q12429.2)))
                                                                                    else
                                                                                      (some (Sum.inr (Sum.inr ()))))
  else lw_39 xs L i S O v
def lw_37 (xs : Nat → Int) (L : Nat) (i : Int) (S : Sst) (O : Smo) (v : Int) : Option ((Int × Sst × Smo) ⊕ ((Sst × Smo) ⊕ Unit)) :=
  if zand v 63 = 37 then
    (Option.bind (aget xs L (wr (i + 1))) fun (v12409 : Int) =>
                                                                                  Option.bind (aget xs L (wr (i + 2))) fun (v12411 : Int) =>
                                                                                  Option.bind (f_X11_sight v12409 v12411 S) fun (q12414 : Int × Sst) =>
                                                                                  Option.bind (aget xs L (wr (i + 1))) fun (v12416 : Int) =>
                                                                                  Option.bind (aget xs L (wr (i + 2))) fun (v12418 : Int) =>
                                                                                  Option.bind (f_X12_sight v12416 v12418 O) fun (q12421 : Int × Smo) =>
                                                                                  if q12414.1 = q12421.1 then
                                                                                    (some (Sum.inl (wr (i + 6), q12414.2, q12421.2)))
                                                                                  else
                                                                                    (some (Sum.inr (Sum.inr ()))))
  else lw_38 xs L i S O v
def lw_36 (xs : Nat → Int) (L : Nat) (i : Int) (S : Sst) (O : Smo) (v : Int) : Option ((Int × Sst × Smo) ⊕ ((Sst × Smo) ⊕ Unit)) :=
  if zand v 63 = 36 then
    (Option.bind (aget xs L (wr (i + 1))) fun (v12397 : Int) =>
                                                                                Option.bind (f_X11_stays v12397 S) fun (q12400 : Int) =>
                                                                                Option.bind (aget xs L (wr (i + 1))) fun (v12402 : Int) =>
                                                                                Option.bind (f_X12_stays v12402 O) fun (q12405 : Int) =>
                                                                                if q12400 = q12405 then
                                                                                  (some (Sum.inl (wr (i + 6), S, O)))
                                                                                else
                                                                                  (some (Sum.inr (Sum.inr ()))))
  else lw_37 xs L i S O v
def lw_35 (xs : Nat → Int) (L : Nat) (i : Int) (S : Sst) (O : Smo) (v : Int) : Option ((Int × Sst × Smo) ⊕ ((Sst × Smo) ⊕ Unit)) :=
  if zand v 63 = 35 then
    (Option.bind (f_X11_highest S) fun (q12390 : Int × Sst) =>
                                                                              Option.bind (f_X12_highest O) fun (q12393 : Int × Smo) =>
                                                                              if q12390.1 = q12393.1 then
                                                                                (some (Sum.inl (wr (i + 6), q12390.2, q12393.2)))
                                                                              else
                                                                                (some (Sum.inr (Sum.inr ()))))
  else lw_36 xs L i S O v
def lw_34 (xs : Nat → Int) (L : Nat) (i : Int) (S : Sst) (O : Smo) (v : Int) : Option ((Int × Sst × Smo) ⊕ ((Sst × Smo) ⊕ Unit)) :=
  if zand v 63 = 34 then
    (Option.bind (f_X11_widest S) fun (q12382 : Int) =>
                                                                            Option.bind (f_X12_widest O) fun (q12385 : Int) =>
                                                                            if q12382 = q12385 then
                                                                              (some (Sum.inl (wr (i + 6), S, O)))
                                                                            else
                                                                              (some (Sum.inr (Sum.inr ()))))
  else lw_35 xs L i S O v
def lw_33 (xs : Nat → Int) (L : Nat) (i : Int) (S : Sst) (O : Smo) (v : Int) : Option ((Int × Sst × Smo) ⊕ ((Sst × Smo) ⊕ Unit)) :=
  if zand v 63 = 33 then
    (Option.bind (f_X11_busiest S) fun (q12374 : Int) =>
                                                                          Option.bind (f_X12_busiest O) fun (q12377 : Int) =>
                                                                          if q12374 = q12377 then
                                                                            (some (Sum.inl (wr (i + 6), S, O)))
                                                                          else
                                                                            (some (Sum.inr (Sum.inr ()))))
  else lw_34 xs L i S O v
def lw_32 (xs : Nat → Int) (L : Nat) (i : Int) (S : Sst) (O : Smo) (v : Int) : Option ((Int × Sst × Smo) ⊕ ((Sst × Smo) ⊕ Unit)) :=
  if zand v 63 = 32 then
    (Option.bind (aget xs L (wr (i + 1))) fun (v12361 : Int) =>
                                                                        Option.bind (f_X11_law v12361 S) fun (q12364 : Int × Sst) =>
                                                                        Option.bind (aget xs L (wr (i + 1))) fun (v12366 : Int) =>
                                                                        Option.bind (f_X12_law v12366 O) fun (q12369 : Int × Smo) =>
                                                                        if q12364.1 = q12369.1 then
                                                                          (some (Sum.inl (wr (i + 6), q12364.2, q12369.2)))
                                                                        else
                                                                          (some (Sum.inr (Sum.inr ()))))
  else lw_33 xs L i S O v
def lw_31 (xs : Nat → Int) (L : Nat) (i : Int) (S : Sst) (O : Smo) (v : Int) : Option ((Int × Sst × Smo) ⊕ ((Sst × Smo) ⊕ Unit)) :=
  if zand v 63 = 31 then
    (Option.bind (f_X11_credit S) fun (q12354 : Int) =>
                                                                      Option.bind (f_X12_credit O) fun (q12357 : Int) =>
                                                                      if q12354 = q12357 then
                                                                        (some (Sum.inl (wr (i + 6), S, O)))
                                                                      else
                                                                        (some (Sum.inr (Sum.inr ()))))
  else lw_32 xs L i S O v
def lw_30 (xs : Nat → Int) (L : Nat) (i : Int) (S : Sst) (O : Smo) (v : Int) : Option ((Int × Sst × Smo) ⊕ ((Sst × Smo) ⊕ Unit)) :=
  if zand v 63 = 30 then
    (Option.bind (f_X11_paid S) fun (q12346 : Int) =>
                                                                    Option.bind (f_X12_paid O) fun (q12349 : Int) =>
                                                                    if q12346 = q12349 then
                                                                      (some (Sum.inl (wr (i + 6), S, O)))
                                                                    else
                                                                      (some (Sum.inr (Sum.inr ()))))
  else lw_31 xs L i S O v
def lw_29 (xs : Nat → Int) (L : Nat) (i : Int) (S : Sst) (O : Smo) (v : Int) : Option ((Int × Sst × Smo) ⊕ ((Sst × Smo) ⊕ Unit)) :=
  if zand v 63 = 29 then
    (Option.bind (f_X11_dearest S) fun (q12338 : Int) =>
                                                                  Option.bind (f_X12_dearest O) fun (q12341 : Int) =>
                                                                  if q12338 = q12341 then
                                                                    (some (Sum.inl (wr (i + 6), S, O)))
                                                                  else
                                                                    (some (Sum.inr (Sum.inr ()))))
  else lw_30 xs L i S O v
def lw_28 (xs : Nat → Int) (L : Nat) (i : Int) (S : Sst) (O : Smo) (v : Int) : Option ((Int × Sst × Smo) ⊕ ((Sst × Smo) ⊕ Unit)) :=
  if zand v 63 = 28 then
    (Option.bind (aget xs L (wr (i + 1))) fun (v12325 : Int) =>
                                                                Option.bind (f_X11_copies v12325 S) fun (q12328 : Int) =>
                                                                Option.bind (aget xs L (wr (i + 1))) fun (v12330 : Int) =>
                                                                Option.bind (f_X12_copies v12330 O) fun (q12333 : Int) =>
                                                                if q12328 = q12333 then
                                                                  (some (Sum.inl (wr (i + 6), S, O)))
                                                                else
                                                                  (some (Sum.inr (Sum.inr ()))))
  else lw_29 xs L i S O v
def lw_27 (xs : Nat → Int) (L : Nat) (i : Int) (S : Sst) (O : Smo) (v : Int) : Option ((Int × Sst × Smo) ⊕ ((Sst × Smo) ⊕ Unit)) :=
  if zand v 63 = 27 then
    (Option.bind (f_X11_written S) fun (q12318 : Int) =>
                                                              Option.bind (f_X12_written O) fun (q12321 : Int) =>
                                                              if q12318 = q12321 then
                                                                (some (Sum.inl (wr (i + 6), S, O)))
                                                              else
                                                                (some (Sum.inr (Sum.inr ()))))
  else lw_28 xs L i S O v
def lw_26 (xs : Nat → Int) (L : Nat) (i : Int) (S : Sst) (O : Smo) (v : Int) : Option ((Int × Sst × Smo) ⊕ ((Sst × Smo) ⊕ Unit)) :=
  if zand v 63 = 26 then
    (Option.bind (aget xs L (wr (i + 1))) fun (v12301 : Int) =>
                                                            Option.bind (aget xs L (wr (i + 2))) fun (v12303 : Int) =>
                                                            Option.bind (f_X11_shared v12301 v12303 S) fun (q12306 : Int) =>
                                                            Option.bind (aget xs L (wr (i + 1))) fun (v12308 : Int) =>
                                                            Option.bind (aget xs L (wr (i + 2))) fun (v12310 : Int) =>
                                                            Option.bind (f_X12_shared v12308 v12310 O) fun (q12313 : Int) =>
                                                            if q12306 = q12313 then
                                                              (some (Sum.inl (wr (i + 6), S, O)))
                                                            else
                                                              (some (Sum.inr (Sum.inr ()))))
  else lw_27 xs L i S O v
def lw_25 (xs : Nat → Int) (L : Nat) (i : Int) (S : Sst) (O : Smo) (v : Int) : Option ((Int × Sst × Smo) ⊕ ((Sst × Smo) ⊕ Unit)) :=
  if zand v 63 = 25 then
    (Option.bind (aget xs L (wr (i + 1))) fun (v12287 : Int) =>
                                                          Option.bind (aget xs L (wr (i + 2))) fun (v12289 : Int) =>
                                                          Option.bind (aget xs L (wr (i + 1))) fun (v12292 : Int) =>
                                                          Option.bind (aget xs L (wr (i + 2))) fun (v12294 : Int) =>
                                                          Option.bind (f_X12_unlike v12292 v12294 O) fun (q12297 : Int) =>
                                                          if f_X11_unlike v12287 v12289 S = q12297 then
                                                            (some (Sum.inl (wr (i + 6), S, O)))
                                                          else
                                                            (some (Sum.inr (Sum.inr ()))))
  else lw_26 xs L i S O v
def lw_24 (xs : Nat → Int) (L : Nat) (i : Int) (S : Sst) (O : Smo) (v : Int) : Option ((Int × Sst × Smo) ⊕ ((Sst × Smo) ⊕ Unit)) :=
  if zand v 63 = 24 then
    (Option.bind (aget xs L (wr (i + 1))) fun (v12263 : Int) =>
                                                        Option.bind (aget xs L (wr (i + 2))) fun (v12265 : Int) =>
                                                        Option.bind (aget xs L (wr (i + 3))) fun (v12267 : Int) =>
                                                        Option.bind (aget xs L (wr (i + 4))) fun (v12269 : Int) =>
                                                        Option.bind (f_X11_same v12263 v12265 v12267 v12269 S) fun (q12272 : Int × Sst) =>
                                                        Option.bind (aget xs L (wr (i + 1))) fun (v12274 : Int) =>
                                                        Option.bind (aget xs L (wr (i + 2))) fun (v12276 : Int) =>
                                                        Option.bind (aget xs L (wr (i + 3))) fun (v12278 : Int) =>
                                                        Option.bind (aget xs L (wr (i + 4))) fun (v12280 : Int) =>
                                                        Option.bind (f_X12_same v12274 v12276 v12278 v12280 O) fun (q12283 : Int) =>
                                                        if q12272.1 = q12283 then
                                                          (some (Sum.inl (wr (i + 6), q12272.2, O)))
                                                        else
                                                          (some (Sum.inr (Sum.inr ()))))
  else lw_25 xs L i S O v
def lw_23 (xs : Nat → Int) (L : Nat) (i : Int) (S : Sst) (O : Smo) (v : Int) : Option ((Int × Sst × Smo) ⊕ ((Sst × Smo) ⊕ Unit)) :=
  if zand v 63 = 23 then
    (Option.bind (aget xs L (wr (i + 1))) fun (v12247 : Int) =>
                                                      Option.bind (aget xs L (wr (i + 2))) fun (v12249 : Int) =>
                                                      Option.bind (f_X11_crossed v12247 v12249 S) fun (q12252 : Int × Sst) =>
                                                      Option.bind (aget xs L (wr (i + 1))) fun (v12254 : Int) =>
                                                      Option.bind (aget xs L (wr (i + 2))) fun (v12256 : Int) =>
                                                      Option.bind (f_X12_crossed v12254 v12256 O) fun (q12259 : Int) =>
                                                      if q12252.1 = q12259 then
                                                        (some (Sum.inl (wr (i + 6), q12252.2, O)))
                                                      else
                                                        (some (Sum.inr (Sum.inr ()))))
  else lw_24 xs L i S O v
def lw_22 (xs : Nat → Int) (L : Nat) (i : Int) (S : Sst) (O : Smo) (v : Int) : Option ((Int × Sst × Smo) ⊕ ((Sst × Smo) ⊕ Unit)) :=
  if zand v 63 = 22 then
    (Option.bind (aget xs L (wr (i + 1))) fun (v12227 : Int) =>
                                                    Option.bind (aget xs L (wr (i + 2))) fun (v12229 : Int) =>
                                                    Option.bind (aget xs L (wr (i + 3))) fun (v12231 : Int) =>
                                                    Option.bind (f_X11_gap v12227 v12229 v12231 S) fun (q12234 : Int × Sst) =>
                                                    Option.bind (aget xs L (wr (i + 1))) fun (v12236 : Int) =>
                                                    Option.bind (aget xs L (wr (i + 2))) fun (v12238 : Int) =>
                                                    Option.bind (aget xs L (wr (i + 3))) fun (v12240 : Int) =>
                                                    Option.bind (f_X12_gap v12236 v12238 v12240 O) fun (q12243 : Int) =>
                                                    if q12234.1 = q12243 then
                                                      (some (Sum.inl (wr (i + 6), q12234.2, O)))
                                                    else
                                                      (some (Sum.inr (Sum.inr ()))))
  else lw_23 xs L i S O v
def lw_21 (xs : Nat → Int) (L : Nat) (i : Int) (S : Sst) (O : Smo) (v : Int) : Option ((Int × Sst × Smo) ⊕ ((Sst × Smo) ⊕ Unit)) :=
  if zand v 63 = 21 then
    (Option.bind (aget xs L (wr (i + 1))) fun (v12211 : Int) =>
                                                  Option.bind (aget xs L (wr (i + 2))) fun (v12213 : Int) =>
                                                  Option.bind (f_X11_depth v12211 v12213 S) fun (q12216 : Int × Sst) =>
                                                  Option.bind (aget xs L (wr (i + 1))) fun (v12218 : Int) =>
                                                  Option.bind (aget xs L (wr (i + 2))) fun (v12220 : Int) =>
                                                  Option.bind (f_X12_depth v12218 v12220 O) fun (q12223 : Int × Smo) =>
                                                  if q12216.1 = q12223.1 then
                                                    (some (Sum.inl (wr (i + 6), q12216.2, q12223.2)))
                                                  else
                                                    (some (Sum.inr (Sum.inr ()))))
  else lw_22 xs L i S O v
def lw_20 (xs : Nat → Int) (L : Nat) (i : Int) (S : Sst) (O : Smo) (v : Int) : Option ((Int × Sst × Smo) ⊕ ((Sst × Smo) ⊕ Unit)) :=
  if zand v 63 = 20 then
    (Option.bind (aget xs L (wr (i + 1))) fun (v12195 : Int) =>
                                                Option.bind (aget xs L (wr (i + 2))) fun (v12197 : Int) =>
                                                Option.bind (f_X11_on v12195 v12197 S) fun (q12200 : Int × Sst) =>
                                                Option.bind (aget xs L (wr (i + 1))) fun (v12202 : Int) =>
                                                Option.bind (aget xs L (wr (i + 2))) fun (v12204 : Int) =>
                                                Option.bind (f_X12_on v12202 v12204 O) fun (q12207 : Int) =>
                                                if q12200.1 = q12207 then
                                                  (some (Sum.inl (wr (i + 6), q12200.2, O)))
                                                else
                                                  (some (Sum.inr (Sum.inr ()))))
  else lw_21 xs L i S O v
def lw_19 (xs : Nat → Int) (L : Nat) (i : Int) (S : Sst) (O : Smo) (v : Int) : Option ((Int × Sst × Smo) ⊕ ((Sst × Smo) ⊕ Unit)) :=
  if zand v 63 = 19 then
    (Option.bind (aget xs L (wr (i + 1))) fun (v12179 : Int) =>
                                              Option.bind (aget xs L (wr (i + 2))) fun (v12181 : Int) =>
                                              Option.bind (f_X11_above v12179 v12181 S) fun (q12184 : Int × Sst) =>
                                              Option.bind (aget xs L (wr (i + 1))) fun (v12186 : Int) =>
                                              Option.bind (aget xs L (wr (i + 2))) fun (v12188 : Int) =>
                                              Option.bind (f_X12_above v12186 v12188 O) fun (q12191 : Int) =>
                                              if q12184.1 = q12191 then
                                                (some (Sum.inl (wr (i + 6), q12184.2, O)))
                                              else
                                                (some (Sum.inr (Sum.inr ()))))
  else lw_20 xs L i S O v
def lw_18 (xs : Nat → Int) (L : Nat) (i : Int) (S : Sst) (O : Smo) (v : Int) : Option ((Int × Sst × Smo) ⊕ ((Sst × Smo) ⊕ Unit)) :=
  if zand v 63 = 18 then
    (Option.bind (aget xs L (wr (i + 1))) fun (v12163 : Int) =>
                                            Option.bind (aget xs L (wr (i + 2))) fun (v12165 : Int) =>
                                            Option.bind (f_X11_below v12163 v12165 S) fun (q12168 : Int × Sst) =>
                                            Option.bind (aget xs L (wr (i + 1))) fun (v12170 : Int) =>
                                            Option.bind (aget xs L (wr (i + 2))) fun (v12172 : Int) =>
                                            Option.bind (f_X12_below v12170 v12172 O) fun (q12175 : Int) =>
                                            if q12168.1 = q12175 then
                                              (some (Sum.inl (wr (i + 6), q12168.2, O)))
                                            else
                                              (some (Sum.inr (Sum.inr ()))))
  else lw_19 xs L i S O v
def lw_17 (xs : Nat → Int) (L : Nat) (i : Int) (S : Sst) (O : Smo) (v : Int) : Option ((Int × Sst × Smo) ⊕ ((Sst × Smo) ⊕ Unit)) :=
  if zand v 63 = 17 then
    (Option.bind (aget xs L (wr (i + 1))) fun (v12151 : Int) =>
                                          Option.bind (f_X11_shape v12151 S) fun (q12154 : Int × Sst) =>
                                          Option.bind (aget xs L (wr (i + 1))) fun (v12156 : Int) =>
                                          Option.bind (f_X12_shape v12156 O) fun (q12159 : Int × Smo) =>
                                          if q12154.1 = q12159.1 then
                                            (some (Sum.inl (wr (i + 6), q12154.2, q12159.2)))
                                          else
                                            (some (Sum.inr (Sum.inr ()))))
  else lw_18 xs L i S O v
def lw_16 (xs : Nat → Int) (L : Nat) (i : Int) (S : Sst) (O : Smo) (v : Int) : Option ((Int × Sst × Smo) ⊕ ((Sst × Smo) ⊕ Unit)) :=
  if zand v 63 = 16 then
    (Option.bind (aget xs L (wr (i + 1))) fun (v12139 : Int) =>
                                        Option.bind (f_X11_row v12139 S) fun (q12142 : Int × Sst) =>
                                        Option.bind (aget xs L (wr (i + 1))) fun (v12144 : Int) =>
                                        Option.bind (f_X12_row v12144 O) fun (q12147 : Int × Smo) =>
                                        if q12142.1 = q12147.1 then
                                          (some (Sum.inl (wr (i + 6), q12142.2, q12147.2)))
                                        else
                                          (some (Sum.inr (Sum.inr ()))))
  else lw_17 xs L i S O v
def lw_15 (xs : Nat → Int) (L : Nat) (i : Int) (S : Sst) (O : Smo) (v : Int) : Option ((Int × Sst × Smo) ⊕ ((Sst × Smo) ⊕ Unit)) :=
  if zand v 63 = 15 then
    (Option.bind (aget xs L (wr (i + 1))) fun (v12119 : Int) =>
                                      Option.bind (aget xs L (wr (i + 2))) fun (v12121 : Int) =>
                                      Option.bind (aget xs L (wr (i + 3))) fun (v12123 : Int) =>
                                      Option.bind (f_X11_read v12119 v12121 v12123 S) fun (q12126 : Int) =>
                                      Option.bind (aget xs L (wr (i + 1))) fun (v12128 : Int) =>
                                      Option.bind (aget xs L (wr (i + 2))) fun (v12130 : Int) =>
                                      Option.bind (aget xs L (wr (i + 3))) fun (v12132 : Int) =>
                                      Option.bind (f_X12_read v12128 v12130 v12132 O) fun (q12135 : Int) =>
                                      if q12126 = q12135 then
                                        (some (Sum.inl (wr (i + 6), S, O)))
                                      else
                                        (some (Sum.inr (Sum.inr ()))))
  else lw_16 xs L i S O v
def lw_14 (xs : Nat → Int) (L : Nat) (i : Int) (S : Sst) (O : Smo) (v : Int) : Option ((Int × Sst × Smo) ⊕ ((Sst × Smo) ⊕ Unit)) :=
  if zand v 63 = 14 then
    (Option.bind (aget xs L (wr (i + 1))) fun (v12101 : Int) =>
                                    Option.bind (aget xs L (wr (i + 2))) fun (v12103 : Int) =>
                                    Option.bind (aget xs L (wr (i + 3))) fun (v12105 : Int) =>
                                    Option.bind (aget xs L (wr (i + 1))) fun (v12108 : Int) =>
                                    Option.bind (aget xs L (wr (i + 2))) fun (v12110 : Int) =>
                                    Option.bind (aget xs L (wr (i + 3))) fun (v12112 : Int) =>
                                    Option.bind (f_X12_change v12108 v12110 v12112 O) fun (q12115 : Int) =>
                                    if f_X11_change v12101 v12103 v12105 S = q12115 then
                                      (some (Sum.inl (wr (i + 6), S, O)))
                                    else
                                      (some (Sum.inr (Sum.inr ()))))
  else lw_15 xs L i S O v
def lw_13 (xs : Nat → Int) (L : Nat) (i : Int) (S : Sst) (O : Smo) (v : Int) : Option ((Int × Sst × Smo) ⊕ ((Sst × Smo) ⊕ Unit)) :=
  if zand v 63 = 13 then
    (Option.bind (aget xs L (wr (i + 1))) fun (v12085 : Int) =>
                                  Option.bind (aget xs L (wr (i + 2))) fun (v12087 : Int) =>
                                  Option.bind (f_X11_node v12085 v12087 S) fun (q12090 : Int) =>
                                  Option.bind (aget xs L (wr (i + 1))) fun (v12092 : Int) =>
                                  Option.bind (aget xs L (wr (i + 2))) fun (v12094 : Int) =>
                                  Option.bind (f_X12_node v12092 v12094 O) fun (q12097 : Int × Smo) =>
                                  if q12090 = q12097.1 then
                                    (some (Sum.inl (wr (i + 6), S, q12097.2)))
                                  else
                                    (some (Sum.inr (Sum.inr ()))))
  else lw_14 xs L i S O v
def lw_12 (xs : Nat → Int) (L : Nat) (i : Int) (S : Sst) (O : Smo) (v : Int) : Option ((Int × Sst × Smo) ⊕ ((Sst × Smo) ⊕ Unit)) :=
  if zand v 63 = 12 then
    (Option.bind (aget xs L (wr (i + 1))) fun (v12069 : Int) =>
                                Option.bind (aget xs L (wr (i + 2))) fun (v12071 : Int) =>
                                Option.bind (f_X11_version v12069 v12071 S) fun (q12074 : Int × Sst) =>
                                Option.bind (aget xs L (wr (i + 1))) fun (v12076 : Int) =>
                                Option.bind (aget xs L (wr (i + 2))) fun (v12078 : Int) =>
                                Option.bind (f_X12_version v12076 v12078 O) fun (q12081 : Int × Smo) =>
                                if q12074.1 = q12081.1 then
                                  (some (Sum.inl (wr (i + 6), q12074.2, q12081.2)))
                                else
                                  (some (Sum.inr (Sum.inr ()))))
  else lw_13 xs L i S O v
def lw_11 (xs : Nat → Int) (L : Nat) (i : Int) (S : Sst) (O : Smo) (v : Int) : Option ((Int × Sst × Smo) ⊕ ((Sst × Smo) ⊕ Unit)) :=
  if zand v 63 = 11 then
    (Option.bind (f_X11_redo S) fun (q12062 : Int × Sst) =>
                              jn (f_X12_redo O) fun (q12065 : Int × Smo) =>
                              if q12062.1 = q12065.1 then
                                (some (Sum.inl (wr (i + 6), q12062.2, q12065.2)))
                              else
                                (some (Sum.inr (Sum.inr ()))))
  else lw_12 xs L i S O v
def lw_10 (xs : Nat → Int) (L : Nat) (i : Int) (S : Sst) (O : Smo) (v : Int) : Option ((Int × Sst × Smo) ⊕ ((Sst × Smo) ⊕ Unit)) :=
  if zand v 63 = 10 then
    (Option.bind (f_X11_undo S) fun (q12054 : Int × Sst) =>
                            jn (f_X12_undo O) fun (q12057 : Int × Smo) =>
                            if q12054.1 = q12057.1 then
                              (some (Sum.inl (wr (i + 6), q12054.2, q12057.2)))
                            else
                              (some (Sum.inr (Sum.inr ()))))
  else lw_11 xs L i S O v
def lw_9 (xs : Nat → Int) (L : Nat) (i : Int) (S : Sst) (O : Smo) (v : Int) : Option ((Int × Sst × Smo) ⊕ ((Sst × Smo) ⊕ Unit)) :=
  if zand v 63 = 9 then
    (Option.bind (aget xs L (wr (i + 1))) fun (v12041 : Int) =>
                          Option.bind (f_X11_raise v12041 S) fun (q12044 : Int × Sst) =>
                          Option.bind (aget xs L (wr (i + 1))) fun (v12046 : Int) =>
                          Option.bind (f_X12_raise v12046 O) fun (q12049 : Int × Smo) =>
                          if q12044.1 = q12049.1 then
                            (some (Sum.inl (wr (i + 6), q12044.2, q12049.2)))
                          else
                            (some (Sum.inr (Sum.inr ()))))
  else lw_10 xs L i S O v
def lw_8 (xs : Nat → Int) (L : Nat) (i : Int) (S : Sst) (O : Smo) (v : Int) : Option ((Int × Sst × Smo) ⊕ ((Sst × Smo) ⊕ Unit)) :=
  if zand v 63 = 8 then
    (Option.bind (aget xs L (wr (i + 1))) fun (v12029 : Int) =>
                        Option.bind (f_X11_cut v12029 S) fun (q12032 : Int × Sst) =>
                        Option.bind (aget xs L (wr (i + 1))) fun (v12034 : Int) =>
                        Option.bind (f_X12_cut v12034 O) fun (q12037 : Int × Smo) =>
                        if q12032.1 = q12037.1 then
                          (some (Sum.inl (wr (i + 6), q12032.2, q12037.2)))
                        else
                          (some (Sum.inr (Sum.inr ()))))
  else lw_9 xs L i S O v
def lw_7 (xs : Nat → Int) (L : Nat) (i : Int) (S : Sst) (O : Smo) (v : Int) : Option ((Int × Sst × Smo) ⊕ ((Sst × Smo) ⊕ Unit)) :=
  if zand v 63 = 7 then
    (Option.bind (f_X11_sweep S) fun (q12022 : Int × Sst) =>
                      Option.bind (f_X12_sweep O) fun (q12025 : Int × Smo) =>
                      if q12022.1 = q12025.1 then
                        (some (Sum.inl (wr (i + 6), q12022.2, q12025.2)))
                      else
                        (some (Sum.inr (Sum.inr ()))))
  else lw_8 xs L i S O v
def lw_6 (xs : Nat → Int) (L : Nat) (i : Int) (S : Sst) (O : Smo) (v : Int) : Option ((Int × Sst × Smo) ⊕ ((Sst × Smo) ⊕ Unit)) :=
  if zand v 63 = 6 then
    (Option.bind (aget xs L (wr (i + 1))) fun (v12003 : Int) =>
                    Option.bind (aget xs L (wr (i + 2))) fun (v12005 : Int) =>
                    Option.bind (aget xs L (wr (i + 3))) fun (v12007 : Int) =>
                    Option.bind (aget xs L (wr (i + 1))) fun (v12010 : Int) =>
                    Option.bind (aget xs L (wr (i + 2))) fun (v12012 : Int) =>
                    Option.bind (aget xs L (wr (i + 3))) fun (v12014 : Int) =>
                    Option.bind (f_X12_higher v12010 v12012 v12014 O) fun (q12017 : Int) =>
                    if f_X11_higher v12003 v12005 v12007 S = q12017 then
                      (some (Sum.inl (wr (i + 6), S, O)))
                    else
                      (some (Sum.inr (Sum.inr ()))))
  else lw_7 xs L i S O v
def lw_5 (xs : Nat → Int) (L : Nat) (i : Int) (S : Sst) (O : Smo) (v : Int) : Option ((Int × Sst × Smo) ⊕ ((Sst × Smo) ⊕ Unit)) :=
  if zand v 63 = 5 then
    (Option.bind (aget xs L (wr (i + 1))) fun (v11993 : Int) =>
                  Option.bind (aget xs L (wr (i + 1))) fun (v11996 : Int) =>
                  Option.bind (f_X12_weight v11996 O) fun (q11999 : Int) =>
                  if f_X11_weight v11993 S = q11999 then
                    (some (Sum.inl (wr (i + 6), S, O)))
                  else
                    (some (Sum.inr (Sum.inr ()))))
  else lw_6 xs L i S O v
def lw_4 (xs : Nat → Int) (L : Nat) (i : Int) (S : Sst) (O : Smo) (v : Int) : Option ((Int × Sst × Smo) ⊕ ((Sst × Smo) ⊕ Unit)) :=
  if zand v 63 = 4 then
    (Option.bind (aget xs L (wr (i + 1))) fun (v11979 : Int) =>
                Option.bind (aget xs L (wr (i + 2))) fun (v11981 : Int) =>
                Option.bind (aget xs L (wr (i + 1))) fun (v11984 : Int) =>
                Option.bind (aget xs L (wr (i + 2))) fun (v11986 : Int) =>
                Option.bind (f_X12_segment v11984 v11986 O) fun (q11989 : Int) =>
                if f_X11_segment v11979 v11981 S = q11989 then
                  (some (Sum.inl (wr (i + 6), S, O)))
                else
                  (some (Sum.inr (Sum.inr ()))))
  else lw_5 xs L i S O v
def lw_3 (xs : Nat → Int) (L : Nat) (i : Int) (S : Sst) (O : Smo) (v : Int) : Option ((Int × Sst × Smo) ⊕ ((Sst × Smo) ⊕ Unit)) :=
  if zand v 63 = 3 then
    (Option.bind (aget xs L (wr (i + 1))) fun (v11971 : Int) =>
              Option.bind (aget xs L (wr (i + 1))) fun (v11974 : Int) =>
              if f_X11_fault v11971 S = f_X12_fault v11974 O then
                (some (Sum.inl (wr (i + 6), S, O)))
              else
                (some (Sum.inr (Sum.inr ()))))
  else lw_4 xs L i S O v
def lw_2 (xs : Nat → Int) (L : Nat) (i : Int) (S : Sst) (O : Smo) (v : Int) : Option ((Int × Sst × Smo) ⊕ ((Sst × Smo) ⊕ Unit)) :=
  if zand v 63 = 2 then
    (Option.bind (f_X11_map S) fun (q11964 : Int × Sst) =>
            Option.bind (f_X12_map O) fun (q11967 : Int × Smo) =>
            if q11964.1 = q11967.1 then
              (some (Sum.inl (wr (i + 6), q11964.2, q11967.2)))
            else
              (some (Sum.inr (Sum.inr ()))))
  else lw_3 xs L i S O v
def lw_1 (xs : Nat → Int) (L : Nat) (i : Int) (S : Sst) (O : Smo) (v : Int) : Option ((Int × Sst × Smo) ⊕ ((Sst × Smo) ⊕ Unit)) :=
  if zand v 63 = 1 then
    (Option.bind (aget xs L (wr (i + 1))) fun (v11951 : Int) =>
          jn (f_X11_end v11951 S) fun (q11954 : Int × Sst) =>
          Option.bind (aget xs L (wr (i + 1))) fun (v11956 : Int) =>
          jn (f_X12_end v11956 O) fun (q11959 : Int × Smo) =>
          if q11954.1 = q11959.1 then
            (some (Sum.inl (wr (i + 6), q11954.2, q11959.2)))
          else
            (some (Sum.inr (Sum.inr ()))))
  else lw_2 xs L i S O v
def lw_0 (xs : Nat → Int) (L : Nat) (i : Int) (S : Sst) (O : Smo) (v : Int) : Option ((Int × Sst × Smo) ⊕ ((Sst × Smo) ⊕ Unit)) :=
  if zand v 63 = 0 then
    (Option.bind (aget xs L (wr (i + 1))) fun (v11923 : Int) =>
        Option.bind (aget xs L (wr (i + 2))) fun (v11925 : Int) =>
        Option.bind (aget xs L (wr (i + 3))) fun (v11927 : Int) =>
        Option.bind (aget xs L (wr (i + 4))) fun (v11929 : Int) =>
        Option.bind (aget xs L (wr (i + 5))) fun (v11931 : Int) =>
        Option.bind (f_X11_feed v11923 v11925 v11927 v11929 v11931 S) fun (q11934 : Int × Sst) =>
        Option.bind (aget xs L (wr (i + 1))) fun (v11936 : Int) =>
        Option.bind (aget xs L (wr (i + 2))) fun (v11938 : Int) =>
        Option.bind (aget xs L (wr (i + 3))) fun (v11940 : Int) =>
        Option.bind (aget xs L (wr (i + 4))) fun (v11942 : Int) =>
        Option.bind (aget xs L (wr (i + 5))) fun (v11944 : Int) =>
        Option.bind (f_X12_feed v11936 v11938 v11940 v11942 v11944 O) fun (q11947 : Int × Smo) =>
        if q11934.1 = q11947.1 then
          (some (Sum.inl (wr (i + 6), q11934.2, q11947.2)))
        else
          (some (Sum.inr (Sum.inr ()))))
  else lw_1 xs L i S O v
def lwQ (i : Int) (q : (Int × Sst × Smo) ⊕ ((Sst × Smo) ⊕ Unit)) : Prop := ∃ S' O', q = .inl (i + 6, S', O') ∧ Inv S' O'
theorem lwZ_ok {i : Nat} {S : Sst} {O : Smo} (hi : i ≤ 3072) (h : Inv S O) : Ret (lwZ (i : Int) S O) (lwQ i) := by
  unfold lwZ
  rw [wr_id (by omega) (by omega)]
  exact Ret_some ⟨_, _, rfl, h⟩
section LAWS
variable {xs : Nat → Int} {L i : Nat} {S : Sst} {O : Smo} {v : Int}
theorem lw_g (hL : L ≤ 3072) (hi : i + 6 ≤ L) (j : Nat) (hj : j < 6) : aget xs L (wr ((i : Int) + (j : Int))) = some (xs (i + j)) := by
  rw [wr_id (by omega) (by omega), show (i : Int) + (j : Int) = ((i + j : Nat) : Int) by omega, aget_nat (by omega)]
theorem lw_53_ok (hL : L ≤ 3072) (hi : i + 6 ≤ L) (h : Inv S O) : Ret (lw_53 xs L i S O v) (lwQ i) := by
  unfold lw_53
  by_cases hv : zand v 63 = 53
  · rw [if_pos hv, show wr ((i : Int) + 6) = (i : Int) + 6 from wr_id (by omega) (by omega)]
    have g1 : aget xs L (wr ((i : Int) + 1)) = some (xs (i + 1)) := lw_g hL hi 1 (by decide)
    rw [g1]
    try dsimp only [Option.bind_some, jn]
    rw [op_about h (xs (i + 1))]
    dsimp only [Option.bind_some]
    rw [if_pos rfl]
    exact Ret_some ⟨_, _, rfl, h⟩
  · rw [if_neg hv]
    exact lwZ_ok (by omega) h
theorem lw_52_ok (hL : L ≤ 3072) (hi : i + 6 ≤ L) (h : Inv S O) : Ret (lw_52 xs L i S O v) (lwQ i) := by
  unfold lw_52
  by_cases hv : zand v 63 = 52
  · rw [if_pos hv, show wr ((i : Int) + 6) = (i : Int) + 6 from wr_id (by omega) (by omega)]
    have g1 : aget xs L (wr ((i : Int) + 1)) = some (xs (i + 1)) := lw_g hL hi 1 (by decide)
    rw [g1]
    try dsimp only [Option.bind_some, jn]
    obtain ⟨a, S', O', e1, e2, e3⟩ := op_back h (xs (i + 1))
    have e1 := Option.some.inj e1
    rw [e1, e2]
    dsimp only [Option.bind_some]
    rw [if_pos rfl]
    exact Ret_some ⟨_, _, rfl, e3⟩
  · rw [if_neg hv]
    exact lw_53_ok hL hi h
theorem lw_51_ok (hL : L ≤ 3072) (hi : i + 6 ≤ L) (h : Inv S O) : Ret (lw_51 xs L i S O v) (lwQ i) := by
  unfold lw_51
  by_cases hv : zand v 63 = 51
  · rw [if_pos hv, show wr ((i : Int) + 6) = (i : Int) + 6 from wr_id (by omega) (by omega)]
    have g1 : aget xs L (wr ((i : Int) + 1)) = some (xs (i + 1)) := lw_g hL hi 1 (by decide)
    rw [g1]
    try dsimp only [Option.bind_some, jn]
    obtain ⟨a, S', O', e1, e2, e3⟩ := op_image h (xs (i + 1))
    have e1 := Option.some.inj e1
    rw [e1, e2]
    dsimp only [Option.bind_some]
    rw [if_pos rfl]
    exact Ret_some ⟨_, _, rfl, e3⟩
  · rw [if_neg hv]
    exact lw_52_ok hL hi h
theorem lw_50_ok (hL : L ≤ 3072) (hi : i + 6 ≤ L) (h : Inv S O) : Ret (lw_50 xs L i S O v) (lwQ i) := by
  unfold lw_50
  by_cases hv : zand v 63 = 50
  · rw [if_pos hv, show wr ((i : Int) + 6) = (i : Int) + 6 from wr_id (by omega) (by omega)]
    have g1 : aget xs L (wr ((i : Int) + 1)) = some (xs (i + 1)) := lw_g hL hi 1 (by decide)
    rw [g1]
    have g2 : aget xs L (wr ((i : Int) + 2)) = some (xs (i + 2)) := lw_g hL hi 2 (by decide)
    rw [g2]
    have g3 : aget xs L (wr ((i : Int) + 3)) = some (xs (i + 3)) := lw_g hL hi 3 (by decide)
    rw [g3]
    try dsimp only [Option.bind_some, jn]
    obtain ⟨a, S', O', e1, e2, e3⟩ := op_ask h (xs (i + 1)) (xs (i + 2)) (xs (i + 3))
    rw [e1, e2]
    dsimp only [Option.bind_some]
    rw [if_pos rfl]
    exact Ret_some ⟨_, _, rfl, e3⟩
  · rw [if_neg hv]
    exact lw_51_ok hL hi h
theorem lw_49_ok (hL : L ≤ 3072) (hi : i + 6 ≤ L) (h : Inv S O) : Ret (lw_49 xs L i S O v) (lwQ i) := by
  unfold lw_49
  by_cases hv : zand v 63 = 49
  · rw [if_pos hv, show wr ((i : Int) + 6) = (i : Int) + 6 from wr_id (by omega) (by omega)]
    have g1 : aget xs L (wr ((i : Int) + 1)) = some (xs (i + 1)) := lw_g hL hi 1 (by decide)
    rw [g1]
    have g2 : aget xs L (wr ((i : Int) + 2)) = some (xs (i + 2)) := lw_g hL hi 2 (by decide)
    rw [g2]
    have g3 : aget xs L (wr ((i : Int) + 3)) = some (xs (i + 3)) := lw_g hL hi 3 (by decide)
    rw [g3]
    try dsimp only [Option.bind_some, jn]
    obtain ⟨a, S', O', e1, e2, e3⟩ := op_sure h (xs (i + 1)) (xs (i + 2)) (xs (i + 3))
    rw [e1, e2]
    dsimp only [Option.bind_some]
    rw [if_pos rfl]
    exact Ret_some ⟨_, _, rfl, e3⟩
  · rw [if_neg hv]
    exact lw_50_ok hL hi h
theorem lw_48_ok (hL : L ≤ 3072) (hi : i + 6 ≤ L) (h : Inv S O) : Ret (lw_48 xs L i S O v) (lwQ i) := by
  unfold lw_48
  by_cases hv : zand v 63 = 48
  · rw [if_pos hv, show wr ((i : Int) + 6) = (i : Int) + 6 from wr_id (by omega) (by omega)]
    have g1 : aget xs L (wr ((i : Int) + 1)) = some (xs (i + 1)) := lw_g hL hi 1 (by decide)
    rw [g1]
    have g2 : aget xs L (wr ((i : Int) + 2)) = some (xs (i + 2)) := lw_g hL hi 2 (by decide)
    rw [g2]
    try dsimp only [Option.bind_some, jn]
    obtain ⟨a, S', O', e1, e2, e3⟩ := op_fits h (xs (i + 1)) (xs (i + 2))
    rw [e1, e2]
    dsimp only [Option.bind_some]
    rw [if_pos rfl]
    exact Ret_some ⟨_, _, rfl, e3⟩
  · rw [if_neg hv]
    exact lw_49_ok hL hi h
theorem lw_47_ok (hL : L ≤ 3072) (hi : i + 6 ≤ L) (h : Inv S O) : Ret (lw_47 xs L i S O v) (lwQ i) := by
  unfold lw_47
  by_cases hv : zand v 63 = 47
  · rw [if_pos hv, show wr ((i : Int) + 6) = (i : Int) + 6 from wr_id (by omega) (by omega)]
    have g1 : aget xs L (wr ((i : Int) + 1)) = some (xs (i + 1)) := lw_g hL hi 1 (by decide)
    rw [g1]
    try dsimp only [Option.bind_some, jn]
    obtain ⟨a, S', O', e1, e2, e3⟩ := op_later h (xs (i + 1))
    have e1 := Option.some.inj e1
    have e2 := Option.some.inj e2
    rw [e1, e2]
    dsimp only [Option.bind_some]
    rw [if_pos rfl]
    exact Ret_some ⟨_, _, rfl, e3⟩
  · rw [if_neg hv]
    exact lw_48_ok hL hi h
theorem lw_46_ok (hL : L ≤ 3072) (hi : i + 6 ≤ L) (h : Inv S O) : Ret (lw_46 xs L i S O v) (lwQ i) := by
  unfold lw_46
  by_cases hv : zand v 63 = 46
  · rw [if_pos hv, show wr ((i : Int) + 6) = (i : Int) + 6 from wr_id (by omega) (by omega)]
    have g1 : aget xs L (wr ((i : Int) + 1)) = some (xs (i + 1)) := lw_g hL hi 1 (by decide)
    rw [g1]
    try dsimp only [Option.bind_some, jn]
    obtain ⟨a, S', O', e1, e2, e3⟩ := op_untell h (xs (i + 1))
    have e1 := Option.some.inj e1
    rw [e1, e2]
    dsimp only [Option.bind_some]
    rw [if_pos rfl]
    exact Ret_some ⟨_, _, rfl, e3⟩
  · rw [if_neg hv]
    exact lw_47_ok hL hi h
theorem lw_45_ok (hL : L ≤ 3072) (hi : i + 6 ≤ L) (h : Inv S O) : Ret (lw_45 xs L i S O v) (lwQ i) := by
  unfold lw_45
  by_cases hv : zand v 63 = 45
  · rw [if_pos hv, show wr ((i : Int) + 6) = (i : Int) + 6 from wr_id (by omega) (by omega)]
    have g1 : aget xs L (wr ((i : Int) + 1)) = some (xs (i + 1)) := lw_g hL hi 1 (by decide)
    rw [g1]
    have g2 : aget xs L (wr ((i : Int) + 2)) = some (xs (i + 2)) := lw_g hL hi 2 (by decide)
    rw [g2]
    try dsimp only [Option.bind_some, jn]
    obtain ⟨a, S', O', e1, e2, e3⟩ := op_seen h (xs (i + 1)) (b := if xs (i + 2) = 0 then 0 else 1) (by by_cases w : xs (i + 2) = 0; exact Or.inl (if_pos w); exact Or.inr (if_neg w))
    have e1 := Option.some.inj e1
    rw [e1, e2]
    dsimp only [Option.bind_some]
    rw [if_pos rfl]
    exact Ret_some ⟨_, _, rfl, e3⟩
  · rw [if_neg hv]
    exact lw_46_ok hL hi h
theorem lw_44_ok (hL : L ≤ 3072) (hi : i + 6 ≤ L) (h : Inv S O) : Ret (lw_44 xs L i S O v) (lwQ i) := by
  unfold lw_44
  by_cases hv : zand v 63 = 44
  · rw [if_pos hv, show wr ((i : Int) + 6) = (i : Int) + 6 from wr_id (by omega) (by omega)]
    have g1 : aget xs L (wr ((i : Int) + 1)) = some (xs (i + 1)) := lw_g hL hi 1 (by decide)
    rw [g1]
    try dsimp only [Option.bind_some, jn]
    rw [op_lies h (xs (i + 1))]
    dsimp only [Option.bind_some]
    rw [if_pos rfl]
    exact Ret_some ⟨_, _, rfl, h⟩
  · rw [if_neg hv]
    exact lw_45_ok hL hi h
theorem lw_43_ok (hL : L ≤ 3072) (hi : i + 6 ≤ L) (h : Inv S O) : Ret (lw_43 xs L i S O v) (lwQ i) := by
  unfold lw_43
  by_cases hv : zand v 63 = 43
  · rw [if_pos hv, show wr ((i : Int) + 6) = (i : Int) + 6 from wr_id (by omega) (by omega)]
    try dsimp only [Option.bind_some, jn]
    rw [if_pos (op_events h )]
    exact Ret_some ⟨_, _, rfl, h⟩
  · rw [if_neg hv]
    exact lw_44_ok hL hi h
theorem lw_42_ok (hL : L ≤ 3072) (hi : i + 6 ≤ L) (h : Inv S O) : Ret (lw_42 xs L i S O v) (lwQ i) := by
  unfold lw_42
  by_cases hv : zand v 63 = 42
  · rw [if_pos hv, show wr ((i : Int) + 6) = (i : Int) + 6 from wr_id (by omega) (by omega)]
    try dsimp only [Option.bind_some, jn]
    rw [op_next h ]
    dsimp only [Option.bind_some]
    rw [if_pos rfl]
    exact Ret_some ⟨_, _, rfl, h⟩
  · rw [if_neg hv]
    exact lw_43_ok hL hi h
theorem lw_41_ok (hL : L ≤ 3072) (hi : i + 6 ≤ L) (h : Inv S O) : Ret (lw_41 xs L i S O v) (lwQ i) := by
  unfold lw_41
  by_cases hv : zand v 63 = 41
  · rw [if_pos hv, show wr ((i : Int) + 6) = (i : Int) + 6 from wr_id (by omega) (by omega)]
    have g1 : aget xs L (wr ((i : Int) + 1)) = some (xs (i + 1)) := lw_g hL hi 1 (by decide)
    rw [g1]
    try dsimp only [Option.bind_some, jn]
    obtain ⟨a, S', e1, e2, e3⟩ := op_hidden h (xs (i + 1))
    rw [e1, e2]
    dsimp only [Option.bind_some]
    rw [if_pos rfl]
    exact Ret_some ⟨_, _, rfl, e3⟩
  · rw [if_neg hv]
    exact lw_42_ok hL hi h
theorem lw_40_ok (hL : L ≤ 3072) (hi : i + 6 ≤ L) (h : Inv S O) : Ret (lw_40 xs L i S O v) (lwQ i) := by
  unfold lw_40
  by_cases hv : zand v 63 = 40
  · rw [if_pos hv, show wr ((i : Int) + 6) = (i : Int) + 6 from wr_id (by omega) (by omega)]
    try dsimp only [Option.bind_some, jn]
    obtain ⟨a, S', O', e1, e2, e3⟩ := op_largest h 
    rw [e1, e2]
    dsimp only [Option.bind_some]
    rw [if_pos rfl]
    exact Ret_some ⟨_, _, rfl, e3⟩
  · rw [if_neg hv]
    exact lw_41_ok hL hi h
theorem lw_39_ok (hL : L ≤ 3072) (hi : i + 6 ≤ L) (h : Inv S O) : Ret (lw_39 xs L i S O v) (lwQ i) := by
  unfold lw_39
  by_cases hv : zand v 63 = 39
  · rw [if_pos hv, show wr ((i : Int) + 6) = (i : Int) + 6 from wr_id (by omega) (by omega)]
    have g1 : aget xs L (wr ((i : Int) + 1)) = some (xs (i + 1)) := lw_g hL hi 1 (by decide)
    rw [g1]
    try dsimp only [Option.bind_some, jn]
    obtain ⟨a, S', O', e1, e2, e3⟩ := op_area h (xs (i + 1))
    rw [e1, e2]
    dsimp only [Option.bind_some]
    rw [if_pos rfl]
    exact Ret_some ⟨_, _, rfl, e3⟩
  · rw [if_neg hv]
    exact lw_40_ok hL hi h
theorem lw_38_ok (hL : L ≤ 3072) (hi : i + 6 ≤ L) (h : Inv S O) : Ret (lw_38 xs L i S O v) (lwQ i) := by
  unfold lw_38
  by_cases hv : zand v 63 = 38
  · rw [if_pos hv, show wr ((i : Int) + 6) = (i : Int) + 6 from wr_id (by omega) (by omega)]
    try dsimp only [Option.bind_some, jn]
    obtain ⟨a, S', O', e1, e2, e3⟩ := op_trapezes h 
    rw [e1, e2]
    dsimp only [Option.bind_some]
    rw [if_pos rfl]
    exact Ret_some ⟨_, _, rfl, e3⟩
  · rw [if_neg hv]
    exact lw_39_ok hL hi h
theorem lw_37_ok (hL : L ≤ 3072) (hi : i + 6 ≤ L) (h : Inv S O) : Ret (lw_37 xs L i S O v) (lwQ i) := by
  unfold lw_37
  by_cases hv : zand v 63 = 37
  · rw [if_pos hv, show wr ((i : Int) + 6) = (i : Int) + 6 from wr_id (by omega) (by omega)]
    have g1 : aget xs L (wr ((i : Int) + 1)) = some (xs (i + 1)) := lw_g hL hi 1 (by decide)
    rw [g1]
    have g2 : aget xs L (wr ((i : Int) + 2)) = some (xs (i + 2)) := lw_g hL hi 2 (by decide)
    rw [g2]
    try dsimp only [Option.bind_some, jn]
    obtain ⟨a, S', O', e1, e2, e3⟩ := op_sight h (xs (i + 1)) (xs (i + 2))
    rw [e1, e2]
    dsimp only [Option.bind_some]
    rw [if_pos rfl]
    exact Ret_some ⟨_, _, rfl, e3⟩
  · rw [if_neg hv]
    exact lw_38_ok hL hi h
theorem lw_36_ok (hL : L ≤ 3072) (hi : i + 6 ≤ L) (h : Inv S O) : Ret (lw_36 xs L i S O v) (lwQ i) := by
  unfold lw_36
  by_cases hv : zand v 63 = 36
  · rw [if_pos hv, show wr ((i : Int) + 6) = (i : Int) + 6 from wr_id (by omega) (by omega)]
    have g1 : aget xs L (wr ((i : Int) + 1)) = some (xs (i + 1)) := lw_g hL hi 1 (by decide)
    rw [g1]
    try dsimp only [Option.bind_some, jn]
    obtain ⟨a, e1, e2⟩ := op_stays h (xs (i + 1))
    rw [e1, e2]
    dsimp only [Option.bind_some]
    rw [if_pos rfl]
    exact Ret_some ⟨_, _, rfl, h⟩
  · rw [if_neg hv]
    exact lw_37_ok hL hi h
theorem lw_35_ok (hL : L ≤ 3072) (hi : i + 6 ≤ L) (h : Inv S O) : Ret (lw_35 xs L i S O v) (lwQ i) := by
  unfold lw_35
  by_cases hv : zand v 63 = 35
  · rw [if_pos hv, show wr ((i : Int) + 6) = (i : Int) + 6 from wr_id (by omega) (by omega)]
    try dsimp only [Option.bind_some, jn]
    obtain ⟨a, S', O', e1, e2, e3⟩ := op_highest h 
    rw [e1, e2]
    dsimp only [Option.bind_some]
    rw [if_pos rfl]
    exact Ret_some ⟨_, _, rfl, e3⟩
  · rw [if_neg hv]
    exact lw_36_ok hL hi h
theorem lw_34_ok (hL : L ≤ 3072) (hi : i + 6 ≤ L) (h : Inv S O) : Ret (lw_34 xs L i S O v) (lwQ i) := by
  unfold lw_34
  by_cases hv : zand v 63 = 34
  · rw [if_pos hv, show wr ((i : Int) + 6) = (i : Int) + 6 from wr_id (by omega) (by omega)]
    try dsimp only [Option.bind_some, jn]
    obtain ⟨a, e1, e2⟩ := op_widest h 
    rw [e1, e2]
    dsimp only [Option.bind_some]
    rw [if_pos rfl]
    exact Ret_some ⟨_, _, rfl, h⟩
  · rw [if_neg hv]
    exact lw_35_ok hL hi h
theorem lw_33_ok (hL : L ≤ 3072) (hi : i + 6 ≤ L) (h : Inv S O) : Ret (lw_33 xs L i S O v) (lwQ i) := by
  unfold lw_33
  by_cases hv : zand v 63 = 33
  · rw [if_pos hv, show wr ((i : Int) + 6) = (i : Int) + 6 from wr_id (by omega) (by omega)]
    try dsimp only [Option.bind_some, jn]
    obtain ⟨a, e1, e2⟩ := op_busiest h 
    rw [e1, e2]
    dsimp only [Option.bind_some]
    rw [if_pos rfl]
    exact Ret_some ⟨_, _, rfl, h⟩
  · rw [if_neg hv]
    exact lw_34_ok hL hi h
theorem lw_32_ok (hL : L ≤ 3072) (hi : i + 6 ≤ L) (h : Inv S O) : Ret (lw_32 xs L i S O v) (lwQ i) := by
  unfold lw_32
  by_cases hv : zand v 63 = 32
  · rw [if_pos hv, show wr ((i : Int) + 6) = (i : Int) + 6 from wr_id (by omega) (by omega)]
    have g1 : aget xs L (wr ((i : Int) + 1)) = some (xs (i + 1)) := lw_g hL hi 1 (by decide)
    rw [g1]
    try dsimp only [Option.bind_some, jn]
    obtain ⟨a, S', O', e1, e2, e3⟩ := op_law h (xs (i + 1))
    rw [e1, e2]
    dsimp only [Option.bind_some]
    rw [if_pos rfl]
    exact Ret_some ⟨_, _, rfl, e3⟩
  · rw [if_neg hv]
    exact lw_33_ok hL hi h
theorem lw_31_ok (hL : L ≤ 3072) (hi : i + 6 ≤ L) (h : Inv S O) : Ret (lw_31 xs L i S O v) (lwQ i) := by
  unfold lw_31
  by_cases hv : zand v 63 = 31
  · rw [if_pos hv, show wr ((i : Int) + 6) = (i : Int) + 6 from wr_id (by omega) (by omega)]
    try dsimp only [Option.bind_some, jn]
    obtain ⟨a, e1, e2⟩ := op_credit h 
    rw [e1, e2]
    dsimp only [Option.bind_some]
    rw [if_pos rfl]
    exact Ret_some ⟨_, _, rfl, h⟩
  · rw [if_neg hv]
    exact lw_32_ok hL hi h
theorem lw_30_ok (hL : L ≤ 3072) (hi : i + 6 ≤ L) (h : Inv S O) : Ret (lw_30 xs L i S O v) (lwQ i) := by
  unfold lw_30
  by_cases hv : zand v 63 = 30
  · rw [if_pos hv, show wr ((i : Int) + 6) = (i : Int) + 6 from wr_id (by omega) (by omega)]
    try dsimp only [Option.bind_some, jn]
    obtain ⟨a, e1, e2⟩ := op_paid h 
    rw [e1, e2]
    dsimp only [Option.bind_some]
    rw [if_pos rfl]
    exact Ret_some ⟨_, _, rfl, h⟩
  · rw [if_neg hv]
    exact lw_31_ok hL hi h
theorem lw_29_ok (hL : L ≤ 3072) (hi : i + 6 ≤ L) (h : Inv S O) : Ret (lw_29 xs L i S O v) (lwQ i) := by
  unfold lw_29
  by_cases hv : zand v 63 = 29
  · rw [if_pos hv, show wr ((i : Int) + 6) = (i : Int) + 6 from wr_id (by omega) (by omega)]
    try dsimp only [Option.bind_some, jn]
    obtain ⟨a, e1, e2⟩ := op_dearest h 
    rw [e1, e2]
    dsimp only [Option.bind_some]
    rw [if_pos rfl]
    exact Ret_some ⟨_, _, rfl, h⟩
  · rw [if_neg hv]
    exact lw_30_ok hL hi h
theorem lw_28_ok (hL : L ≤ 3072) (hi : i + 6 ≤ L) (h : Inv S O) : Ret (lw_28 xs L i S O v) (lwQ i) := by
  unfold lw_28
  by_cases hv : zand v 63 = 28
  · rw [if_pos hv, show wr ((i : Int) + 6) = (i : Int) + 6 from wr_id (by omega) (by omega)]
    have g1 : aget xs L (wr ((i : Int) + 1)) = some (xs (i + 1)) := lw_g hL hi 1 (by decide)
    rw [g1]
    try dsimp only [Option.bind_some, jn]
    obtain ⟨a, e1, e2⟩ := op_copies h (xs (i + 1))
    rw [e1, e2]
    dsimp only [Option.bind_some]
    rw [if_pos rfl]
    exact Ret_some ⟨_, _, rfl, h⟩
  · rw [if_neg hv]
    exact lw_29_ok hL hi h
theorem lw_27_ok (hL : L ≤ 3072) (hi : i + 6 ≤ L) (h : Inv S O) : Ret (lw_27 xs L i S O v) (lwQ i) := by
  unfold lw_27
  by_cases hv : zand v 63 = 27
  · rw [if_pos hv, show wr ((i : Int) + 6) = (i : Int) + 6 from wr_id (by omega) (by omega)]
    try dsimp only [Option.bind_some, jn]
    obtain ⟨a, e1, e2⟩ := op_written h 
    rw [e1, e2]
    dsimp only [Option.bind_some]
    rw [if_pos rfl]
    exact Ret_some ⟨_, _, rfl, h⟩
  · rw [if_neg hv]
    exact lw_28_ok hL hi h
theorem lw_26_ok (hL : L ≤ 3072) (hi : i + 6 ≤ L) (h : Inv S O) : Ret (lw_26 xs L i S O v) (lwQ i) := by
  unfold lw_26
  by_cases hv : zand v 63 = 26
  · rw [if_pos hv, show wr ((i : Int) + 6) = (i : Int) + 6 from wr_id (by omega) (by omega)]
    have g1 : aget xs L (wr ((i : Int) + 1)) = some (xs (i + 1)) := lw_g hL hi 1 (by decide)
    rw [g1]
    have g2 : aget xs L (wr ((i : Int) + 2)) = some (xs (i + 2)) := lw_g hL hi 2 (by decide)
    rw [g2]
    try dsimp only [Option.bind_some, jn]
    obtain ⟨a, e1, e2⟩ := op_shared h (xs (i + 1)) (xs (i + 2))
    rw [e1, e2]
    dsimp only [Option.bind_some]
    rw [if_pos rfl]
    exact Ret_some ⟨_, _, rfl, h⟩
  · rw [if_neg hv]
    exact lw_27_ok hL hi h
theorem lw_25_ok (hL : L ≤ 3072) (hi : i + 6 ≤ L) (h : Inv S O) : Ret (lw_25 xs L i S O v) (lwQ i) := by
  unfold lw_25
  by_cases hv : zand v 63 = 25
  · rw [if_pos hv, show wr ((i : Int) + 6) = (i : Int) + 6 from wr_id (by omega) (by omega)]
    have g1 : aget xs L (wr ((i : Int) + 1)) = some (xs (i + 1)) := lw_g hL hi 1 (by decide)
    rw [g1]
    have g2 : aget xs L (wr ((i : Int) + 2)) = some (xs (i + 2)) := lw_g hL hi 2 (by decide)
    rw [g2]
    try dsimp only [Option.bind_some, jn]
    rw [op_unlike h (xs (i + 1)) (xs (i + 2))]
    dsimp only [Option.bind_some]
    rw [if_pos rfl]
    exact Ret_some ⟨_, _, rfl, h⟩
  · rw [if_neg hv]
    exact lw_26_ok hL hi h
theorem lw_24_ok (hL : L ≤ 3072) (hi : i + 6 ≤ L) (h : Inv S O) : Ret (lw_24 xs L i S O v) (lwQ i) := by
  unfold lw_24
  by_cases hv : zand v 63 = 24
  · rw [if_pos hv, show wr ((i : Int) + 6) = (i : Int) + 6 from wr_id (by omega) (by omega)]
    have g1 : aget xs L (wr ((i : Int) + 1)) = some (xs (i + 1)) := lw_g hL hi 1 (by decide)
    rw [g1]
    have g2 : aget xs L (wr ((i : Int) + 2)) = some (xs (i + 2)) := lw_g hL hi 2 (by decide)
    rw [g2]
    have g3 : aget xs L (wr ((i : Int) + 3)) = some (xs (i + 3)) := lw_g hL hi 3 (by decide)
    rw [g3]
    have g4 : aget xs L (wr ((i : Int) + 4)) = some (xs (i + 4)) := lw_g hL hi 4 (by decide)
    rw [g4]
    try dsimp only [Option.bind_some, jn]
    obtain ⟨a, S', e1, e2, e3⟩ := op_same h (xs (i + 1)) (xs (i + 2)) (xs (i + 3)) (xs (i + 4))
    rw [e1, e2]
    dsimp only [Option.bind_some]
    rw [if_pos rfl]
    exact Ret_some ⟨_, _, rfl, e3⟩
  · rw [if_neg hv]
    exact lw_25_ok hL hi h
theorem lw_23_ok (hL : L ≤ 3072) (hi : i + 6 ≤ L) (h : Inv S O) : Ret (lw_23 xs L i S O v) (lwQ i) := by
  unfold lw_23
  by_cases hv : zand v 63 = 23
  · rw [if_pos hv, show wr ((i : Int) + 6) = (i : Int) + 6 from wr_id (by omega) (by omega)]
    have g1 : aget xs L (wr ((i : Int) + 1)) = some (xs (i + 1)) := lw_g hL hi 1 (by decide)
    rw [g1]
    have g2 : aget xs L (wr ((i : Int) + 2)) = some (xs (i + 2)) := lw_g hL hi 2 (by decide)
    rw [g2]
    try dsimp only [Option.bind_some, jn]
    obtain ⟨a, S', e1, e2, e3⟩ := op_crossed h (xs (i + 1)) (xs (i + 2))
    rw [e1, e2]
    dsimp only [Option.bind_some]
    rw [if_pos rfl]
    exact Ret_some ⟨_, _, rfl, e3⟩
  · rw [if_neg hv]
    exact lw_24_ok hL hi h
theorem lw_22_ok (hL : L ≤ 3072) (hi : i + 6 ≤ L) (h : Inv S O) : Ret (lw_22 xs L i S O v) (lwQ i) := by
  unfold lw_22
  by_cases hv : zand v 63 = 22
  · rw [if_pos hv, show wr ((i : Int) + 6) = (i : Int) + 6 from wr_id (by omega) (by omega)]
    have g1 : aget xs L (wr ((i : Int) + 1)) = some (xs (i + 1)) := lw_g hL hi 1 (by decide)
    rw [g1]
    have g2 : aget xs L (wr ((i : Int) + 2)) = some (xs (i + 2)) := lw_g hL hi 2 (by decide)
    rw [g2]
    have g3 : aget xs L (wr ((i : Int) + 3)) = some (xs (i + 3)) := lw_g hL hi 3 (by decide)
    rw [g3]
    try dsimp only [Option.bind_some, jn]
    obtain ⟨a, S', e1, e2, e3⟩ := op_gap h (xs (i + 1)) (xs (i + 2)) (xs (i + 3))
    rw [e1, e2]
    dsimp only [Option.bind_some]
    rw [if_pos rfl]
    exact Ret_some ⟨_, _, rfl, e3⟩
  · rw [if_neg hv]
    exact lw_23_ok hL hi h
theorem lw_21_ok (hL : L ≤ 3072) (hi : i + 6 ≤ L) (h : Inv S O) : Ret (lw_21 xs L i S O v) (lwQ i) := by
  unfold lw_21
  by_cases hv : zand v 63 = 21
  · rw [if_pos hv, show wr ((i : Int) + 6) = (i : Int) + 6 from wr_id (by omega) (by omega)]
    have g1 : aget xs L (wr ((i : Int) + 1)) = some (xs (i + 1)) := lw_g hL hi 1 (by decide)
    rw [g1]
    have g2 : aget xs L (wr ((i : Int) + 2)) = some (xs (i + 2)) := lw_g hL hi 2 (by decide)
    rw [g2]
    try dsimp only [Option.bind_some, jn]
    obtain ⟨a, S', O', e1, e2, e3⟩ := op_depth h (xs (i + 1)) (xs (i + 2))
    rw [e1, e2]
    dsimp only [Option.bind_some]
    rw [if_pos rfl]
    exact Ret_some ⟨_, _, rfl, e3⟩
  · rw [if_neg hv]
    exact lw_22_ok hL hi h
theorem lw_20_ok (hL : L ≤ 3072) (hi : i + 6 ≤ L) (h : Inv S O) : Ret (lw_20 xs L i S O v) (lwQ i) := by
  unfold lw_20
  by_cases hv : zand v 63 = 20
  · rw [if_pos hv, show wr ((i : Int) + 6) = (i : Int) + 6 from wr_id (by omega) (by omega)]
    have g1 : aget xs L (wr ((i : Int) + 1)) = some (xs (i + 1)) := lw_g hL hi 1 (by decide)
    rw [g1]
    have g2 : aget xs L (wr ((i : Int) + 2)) = some (xs (i + 2)) := lw_g hL hi 2 (by decide)
    rw [g2]
    try dsimp only [Option.bind_some, jn]
    obtain ⟨a, S', e1, e2, e3⟩ := op_on h (xs (i + 1)) (xs (i + 2))
    rw [e1, e2]
    dsimp only [Option.bind_some]
    rw [if_pos rfl]
    exact Ret_some ⟨_, _, rfl, e3⟩
  · rw [if_neg hv]
    exact lw_21_ok hL hi h
theorem lw_19_ok (hL : L ≤ 3072) (hi : i + 6 ≤ L) (h : Inv S O) : Ret (lw_19 xs L i S O v) (lwQ i) := by
  unfold lw_19
  by_cases hv : zand v 63 = 19
  · rw [if_pos hv, show wr ((i : Int) + 6) = (i : Int) + 6 from wr_id (by omega) (by omega)]
    have g1 : aget xs L (wr ((i : Int) + 1)) = some (xs (i + 1)) := lw_g hL hi 1 (by decide)
    rw [g1]
    have g2 : aget xs L (wr ((i : Int) + 2)) = some (xs (i + 2)) := lw_g hL hi 2 (by decide)
    rw [g2]
    try dsimp only [Option.bind_some, jn]
    obtain ⟨a, S', e1, e2, e3⟩ := op_above h (xs (i + 1)) (xs (i + 2))
    rw [e1, e2]
    dsimp only [Option.bind_some]
    rw [if_pos rfl]
    exact Ret_some ⟨_, _, rfl, e3⟩
  · rw [if_neg hv]
    exact lw_20_ok hL hi h
theorem lw_18_ok (hL : L ≤ 3072) (hi : i + 6 ≤ L) (h : Inv S O) : Ret (lw_18 xs L i S O v) (lwQ i) := by
  unfold lw_18
  by_cases hv : zand v 63 = 18
  · rw [if_pos hv, show wr ((i : Int) + 6) = (i : Int) + 6 from wr_id (by omega) (by omega)]
    have g1 : aget xs L (wr ((i : Int) + 1)) = some (xs (i + 1)) := lw_g hL hi 1 (by decide)
    rw [g1]
    have g2 : aget xs L (wr ((i : Int) + 2)) = some (xs (i + 2)) := lw_g hL hi 2 (by decide)
    rw [g2]
    try dsimp only [Option.bind_some, jn]
    obtain ⟨a, S', e1, e2, e3⟩ := op_below h (xs (i + 1)) (xs (i + 2))
    rw [e1, e2]
    dsimp only [Option.bind_some]
    rw [if_pos rfl]
    exact Ret_some ⟨_, _, rfl, e3⟩
  · rw [if_neg hv]
    exact lw_19_ok hL hi h
theorem lw_17_ok (hL : L ≤ 3072) (hi : i + 6 ≤ L) (h : Inv S O) : Ret (lw_17 xs L i S O v) (lwQ i) := by
  unfold lw_17
  by_cases hv : zand v 63 = 17
  · rw [if_pos hv, show wr ((i : Int) + 6) = (i : Int) + 6 from wr_id (by omega) (by omega)]
    have g1 : aget xs L (wr ((i : Int) + 1)) = some (xs (i + 1)) := lw_g hL hi 1 (by decide)
    rw [g1]
    try dsimp only [Option.bind_some, jn]
    obtain ⟨a, S', O', e1, e2, e3⟩ := op_shape h (xs (i + 1))
    rw [e1, e2]
    dsimp only [Option.bind_some]
    rw [if_pos rfl]
    exact Ret_some ⟨_, _, rfl, e3⟩
  · rw [if_neg hv]
    exact lw_18_ok hL hi h
theorem lw_16_ok (hL : L ≤ 3072) (hi : i + 6 ≤ L) (h : Inv S O) : Ret (lw_16 xs L i S O v) (lwQ i) := by
  unfold lw_16
  by_cases hv : zand v 63 = 16
  · rw [if_pos hv, show wr ((i : Int) + 6) = (i : Int) + 6 from wr_id (by omega) (by omega)]
    have g1 : aget xs L (wr ((i : Int) + 1)) = some (xs (i + 1)) := lw_g hL hi 1 (by decide)
    rw [g1]
    try dsimp only [Option.bind_some, jn]
    obtain ⟨a, S', O', e1, e2, e3⟩ := op_row h (xs (i + 1))
    rw [e1, e2]
    dsimp only [Option.bind_some]
    rw [if_pos rfl]
    exact Ret_some ⟨_, _, rfl, e3⟩
  · rw [if_neg hv]
    exact lw_17_ok hL hi h
theorem lw_15_ok (hL : L ≤ 3072) (hi : i + 6 ≤ L) (h : Inv S O) : Ret (lw_15 xs L i S O v) (lwQ i) := by
  unfold lw_15
  by_cases hv : zand v 63 = 15
  · rw [if_pos hv, show wr ((i : Int) + 6) = (i : Int) + 6 from wr_id (by omega) (by omega)]
    have g1 : aget xs L (wr ((i : Int) + 1)) = some (xs (i + 1)) := lw_g hL hi 1 (by decide)
    rw [g1]
    have g2 : aget xs L (wr ((i : Int) + 2)) = some (xs (i + 2)) := lw_g hL hi 2 (by decide)
    rw [g2]
    have g3 : aget xs L (wr ((i : Int) + 3)) = some (xs (i + 3)) := lw_g hL hi 3 (by decide)
    rw [g3]
    try dsimp only [Option.bind_some, jn]
    obtain ⟨a, e1, e2⟩ := op_read h (xs (i + 1)) (xs (i + 2)) (xs (i + 3))
    rw [e1, e2]
    dsimp only [Option.bind_some]
    rw [if_pos rfl]
    exact Ret_some ⟨_, _, rfl, h⟩
  · rw [if_neg hv]
    exact lw_16_ok hL hi h
theorem lw_14_ok (hL : L ≤ 3072) (hi : i + 6 ≤ L) (h : Inv S O) : Ret (lw_14 xs L i S O v) (lwQ i) := by
  unfold lw_14
  by_cases hv : zand v 63 = 14
  · rw [if_pos hv, show wr ((i : Int) + 6) = (i : Int) + 6 from wr_id (by omega) (by omega)]
    have g1 : aget xs L (wr ((i : Int) + 1)) = some (xs (i + 1)) := lw_g hL hi 1 (by decide)
    rw [g1]
    have g2 : aget xs L (wr ((i : Int) + 2)) = some (xs (i + 2)) := lw_g hL hi 2 (by decide)
    rw [g2]
    have g3 : aget xs L (wr ((i : Int) + 3)) = some (xs (i + 3)) := lw_g hL hi 3 (by decide)
    rw [g3]
    try dsimp only [Option.bind_some, jn]
    rw [op_change h (xs (i + 1)) (xs (i + 2)) (xs (i + 3))]
    dsimp only [Option.bind_some]
    rw [if_pos rfl]
    exact Ret_some ⟨_, _, rfl, h⟩
  · rw [if_neg hv]
    exact lw_15_ok hL hi h
theorem lw_13_ok (hL : L ≤ 3072) (hi : i + 6 ≤ L) (h : Inv S O) : Ret (lw_13 xs L i S O v) (lwQ i) := by
  unfold lw_13
  by_cases hv : zand v 63 = 13
  · rw [if_pos hv, show wr ((i : Int) + 6) = (i : Int) + 6 from wr_id (by omega) (by omega)]
    have g1 : aget xs L (wr ((i : Int) + 1)) = some (xs (i + 1)) := lw_g hL hi 1 (by decide)
    rw [g1]
    have g2 : aget xs L (wr ((i : Int) + 2)) = some (xs (i + 2)) := lw_g hL hi 2 (by decide)
    rw [g2]
    try dsimp only [Option.bind_some, jn]
    obtain ⟨a, O', e1, e2, e3⟩ := op_node h (xs (i + 1)) (xs (i + 2))
    rw [e1, e2]
    dsimp only [Option.bind_some]
    rw [if_pos rfl]
    exact Ret_some ⟨_, _, rfl, e3⟩
  · rw [if_neg hv]
    exact lw_14_ok hL hi h
theorem lw_12_ok (hL : L ≤ 3072) (hi : i + 6 ≤ L) (h : Inv S O) : Ret (lw_12 xs L i S O v) (lwQ i) := by
  unfold lw_12
  by_cases hv : zand v 63 = 12
  · rw [if_pos hv, show wr ((i : Int) + 6) = (i : Int) + 6 from wr_id (by omega) (by omega)]
    have g1 : aget xs L (wr ((i : Int) + 1)) = some (xs (i + 1)) := lw_g hL hi 1 (by decide)
    rw [g1]
    have g2 : aget xs L (wr ((i : Int) + 2)) = some (xs (i + 2)) := lw_g hL hi 2 (by decide)
    rw [g2]
    try dsimp only [Option.bind_some, jn]
    obtain ⟨a, S', O', e1, e2, e3⟩ := op_version h (xs (i + 1)) (xs (i + 2))
    rw [e1, e2]
    dsimp only [Option.bind_some]
    rw [if_pos rfl]
    exact Ret_some ⟨_, _, rfl, e3⟩
  · rw [if_neg hv]
    exact lw_13_ok hL hi h
theorem lw_11_ok (hL : L ≤ 3072) (hi : i + 6 ≤ L) (h : Inv S O) : Ret (lw_11 xs L i S O v) (lwQ i) := by
  unfold lw_11
  by_cases hv : zand v 63 = 11
  · rw [if_pos hv, show wr ((i : Int) + 6) = (i : Int) + 6 from wr_id (by omega) (by omega)]
    try dsimp only [Option.bind_some, jn]
    obtain ⟨a, S', O', e1, e2, e3⟩ := op_redo h 
    have e2 := Option.some.inj e2
    rw [e1, e2]
    dsimp only [Option.bind_some]
    rw [if_pos rfl]
    exact Ret_some ⟨_, _, rfl, e3⟩
  · rw [if_neg hv]
    exact lw_12_ok hL hi h
theorem lw_10_ok (hL : L ≤ 3072) (hi : i + 6 ≤ L) (h : Inv S O) : Ret (lw_10 xs L i S O v) (lwQ i) := by
  unfold lw_10
  by_cases hv : zand v 63 = 10
  · rw [if_pos hv, show wr ((i : Int) + 6) = (i : Int) + 6 from wr_id (by omega) (by omega)]
    try dsimp only [Option.bind_some, jn]
    obtain ⟨a, S', O', e1, e2, e3⟩ := op_undo h 
    have e2 := Option.some.inj e2
    rw [e1, e2]
    dsimp only [Option.bind_some]
    rw [if_pos rfl]
    exact Ret_some ⟨_, _, rfl, e3⟩
  · rw [if_neg hv]
    exact lw_11_ok hL hi h
theorem lw_9_ok (hL : L ≤ 3072) (hi : i + 6 ≤ L) (h : Inv S O) : Ret (lw_9 xs L i S O v) (lwQ i) := by
  unfold lw_9
  by_cases hv : zand v 63 = 9
  · rw [if_pos hv, show wr ((i : Int) + 6) = (i : Int) + 6 from wr_id (by omega) (by omega)]
    have g1 : aget xs L (wr ((i : Int) + 1)) = some (xs (i + 1)) := lw_g hL hi 1 (by decide)
    rw [g1]
    try dsimp only [Option.bind_some, jn]
    obtain ⟨a, S', O', e1, e2, e3⟩ := op_raise h (xs (i + 1))
    rw [e1, e2]
    dsimp only [Option.bind_some]
    rw [if_pos rfl]
    exact Ret_some ⟨_, _, rfl, e3⟩
  · rw [if_neg hv]
    exact lw_10_ok hL hi h
theorem lw_8_ok (hL : L ≤ 3072) (hi : i + 6 ≤ L) (h : Inv S O) : Ret (lw_8 xs L i S O v) (lwQ i) := by
  unfold lw_8
  by_cases hv : zand v 63 = 8
  · rw [if_pos hv, show wr ((i : Int) + 6) = (i : Int) + 6 from wr_id (by omega) (by omega)]
    have g1 : aget xs L (wr ((i : Int) + 1)) = some (xs (i + 1)) := lw_g hL hi 1 (by decide)
    rw [g1]
    try dsimp only [Option.bind_some, jn]
    obtain ⟨a, S', O', e1, e2, e3⟩ := op_cut h (xs (i + 1))
    rw [e1, e2]
    dsimp only [Option.bind_some]
    rw [if_pos rfl]
    exact Ret_some ⟨_, _, rfl, e3⟩
  · rw [if_neg hv]
    exact lw_9_ok hL hi h
theorem lw_7_ok (hL : L ≤ 3072) (hi : i + 6 ≤ L) (h : Inv S O) : Ret (lw_7 xs L i S O v) (lwQ i) := by
  unfold lw_7
  by_cases hv : zand v 63 = 7
  · rw [if_pos hv, show wr ((i : Int) + 6) = (i : Int) + 6 from wr_id (by omega) (by omega)]
    try dsimp only [Option.bind_some, jn]
    obtain ⟨a, S', O', e1, e2, e3⟩ := op_sweep h 
    rw [e1, e2]
    dsimp only [Option.bind_some]
    rw [if_pos rfl]
    exact Ret_some ⟨_, _, rfl, e3⟩
  · rw [if_neg hv]
    exact lw_8_ok hL hi h
theorem lw_6_ok (hL : L ≤ 3072) (hi : i + 6 ≤ L) (h : Inv S O) : Ret (lw_6 xs L i S O v) (lwQ i) := by
  unfold lw_6
  by_cases hv : zand v 63 = 6
  · rw [if_pos hv, show wr ((i : Int) + 6) = (i : Int) + 6 from wr_id (by omega) (by omega)]
    have g1 : aget xs L (wr ((i : Int) + 1)) = some (xs (i + 1)) := lw_g hL hi 1 (by decide)
    rw [g1]
    have g2 : aget xs L (wr ((i : Int) + 2)) = some (xs (i + 2)) := lw_g hL hi 2 (by decide)
    rw [g2]
    have g3 : aget xs L (wr ((i : Int) + 3)) = some (xs (i + 3)) := lw_g hL hi 3 (by decide)
    rw [g3]
    try dsimp only [Option.bind_some, jn]
    rw [op_higher h (xs (i + 1)) (xs (i + 2)) (xs (i + 3))]
    dsimp only [Option.bind_some]
    rw [if_pos rfl]
    exact Ret_some ⟨_, _, rfl, h⟩
  · rw [if_neg hv]
    exact lw_7_ok hL hi h
theorem lw_5_ok (hL : L ≤ 3072) (hi : i + 6 ≤ L) (h : Inv S O) : Ret (lw_5 xs L i S O v) (lwQ i) := by
  unfold lw_5
  by_cases hv : zand v 63 = 5
  · rw [if_pos hv, show wr ((i : Int) + 6) = (i : Int) + 6 from wr_id (by omega) (by omega)]
    have g1 : aget xs L (wr ((i : Int) + 1)) = some (xs (i + 1)) := lw_g hL hi 1 (by decide)
    rw [g1]
    try dsimp only [Option.bind_some, jn]
    rw [op_weight h (xs (i + 1))]
    dsimp only [Option.bind_some]
    rw [if_pos rfl]
    exact Ret_some ⟨_, _, rfl, h⟩
  · rw [if_neg hv]
    exact lw_6_ok hL hi h
theorem lw_4_ok (hL : L ≤ 3072) (hi : i + 6 ≤ L) (h : Inv S O) : Ret (lw_4 xs L i S O v) (lwQ i) := by
  unfold lw_4
  by_cases hv : zand v 63 = 4
  · rw [if_pos hv, show wr ((i : Int) + 6) = (i : Int) + 6 from wr_id (by omega) (by omega)]
    have g1 : aget xs L (wr ((i : Int) + 1)) = some (xs (i + 1)) := lw_g hL hi 1 (by decide)
    rw [g1]
    have g2 : aget xs L (wr ((i : Int) + 2)) = some (xs (i + 2)) := lw_g hL hi 2 (by decide)
    rw [g2]
    try dsimp only [Option.bind_some, jn]
    rw [op_segment h (xs (i + 1)) (xs (i + 2))]
    dsimp only [Option.bind_some]
    rw [if_pos rfl]
    exact Ret_some ⟨_, _, rfl, h⟩
  · rw [if_neg hv]
    exact lw_5_ok hL hi h
theorem lw_3_ok (hL : L ≤ 3072) (hi : i + 6 ≤ L) (h : Inv S O) : Ret (lw_3 xs L i S O v) (lwQ i) := by
  unfold lw_3
  by_cases hv : zand v 63 = 3
  · rw [if_pos hv, show wr ((i : Int) + 6) = (i : Int) + 6 from wr_id (by omega) (by omega)]
    have g1 : aget xs L (wr ((i : Int) + 1)) = some (xs (i + 1)) := lw_g hL hi 1 (by decide)
    rw [g1]
    try dsimp only [Option.bind_some, jn]
    rw [if_pos (op_fault h (xs (i + 1)))]
    exact Ret_some ⟨_, _, rfl, h⟩
  · rw [if_neg hv]
    exact lw_4_ok hL hi h
theorem lw_2_ok (hL : L ≤ 3072) (hi : i + 6 ≤ L) (h : Inv S O) : Ret (lw_2 xs L i S O v) (lwQ i) := by
  unfold lw_2
  by_cases hv : zand v 63 = 2
  · rw [if_pos hv, show wr ((i : Int) + 6) = (i : Int) + 6 from wr_id (by omega) (by omega)]
    try dsimp only [Option.bind_some, jn]
    obtain ⟨a, S', O', e1, e2, e3⟩ := op_map h 
    rw [e1, e2]
    dsimp only [Option.bind_some]
    rw [if_pos rfl]
    exact Ret_some ⟨_, _, rfl, e3⟩
  · rw [if_neg hv]
    exact lw_3_ok hL hi h
theorem lw_1_ok (hL : L ≤ 3072) (hi : i + 6 ≤ L) (h : Inv S O) : Ret (lw_1 xs L i S O v) (lwQ i) := by
  unfold lw_1
  by_cases hv : zand v 63 = 1
  · rw [if_pos hv, show wr ((i : Int) + 6) = (i : Int) + 6 from wr_id (by omega) (by omega)]
    have g1 : aget xs L (wr ((i : Int) + 1)) = some (xs (i + 1)) := lw_g hL hi 1 (by decide)
    rw [g1]
    try dsimp only [Option.bind_some, jn]
    obtain ⟨a, S', O', e1, e2, e3⟩ := op_end h (xs (i + 1))
    have e1 := Option.some.inj e1
    have e2 := Option.some.inj e2
    rw [e1, e2]
    dsimp only [Option.bind_some]
    rw [if_pos rfl]
    exact Ret_some ⟨_, _, rfl, e3⟩
  · rw [if_neg hv]
    exact lw_2_ok hL hi h
theorem lw_0_ok (hL : L ≤ 3072) (hi : i + 6 ≤ L) (h : Inv S O) : Ret (lw_0 xs L i S O v) (lwQ i) := by
  unfold lw_0
  by_cases hv : zand v 63 = 0
  · rw [if_pos hv, show wr ((i : Int) + 6) = (i : Int) + 6 from wr_id (by omega) (by omega)]
    have g1 : aget xs L (wr ((i : Int) + 1)) = some (xs (i + 1)) := lw_g hL hi 1 (by decide)
    rw [g1]
    have g2 : aget xs L (wr ((i : Int) + 2)) = some (xs (i + 2)) := lw_g hL hi 2 (by decide)
    rw [g2]
    have g3 : aget xs L (wr ((i : Int) + 3)) = some (xs (i + 3)) := lw_g hL hi 3 (by decide)
    rw [g3]
    have g4 : aget xs L (wr ((i : Int) + 4)) = some (xs (i + 4)) := lw_g hL hi 4 (by decide)
    rw [g4]
    have g5 : aget xs L (wr ((i : Int) + 5)) = some (xs (i + 5)) := lw_g hL hi 5 (by decide)
    rw [g5]
    try dsimp only [Option.bind_some, jn]
    obtain ⟨a, S', O', e1, e2, e3⟩ := op_feed h (xs (i + 1)) (xs (i + 2)) (xs (i + 3)) (xs (i + 4)) (xs (i + 5))
    rw [e1, e2]
    dsimp only [Option.bind_some]
    rw [if_pos rfl]
    exact Ret_some ⟨_, _, rfl, e3⟩
  · rw [if_neg hv]
    exact lw_1_ok hL hi h
end LAWS

/-! LEVEL 3, ax: a line, on both sides -/
def lnC (S : Sst) : Option Sst :=

        if (S.2 53 0 = 100 ∧ f_X4_count 5 S < 8) then
          (Option.bind (f_X5_readSegment S) fun (q1396 : Sst) =>
          some q1396)
        else
          (if (S.2 53 0 = 103 ∧ S.2 55 3 = 0) then
            (jn (upS S 55 3 1) fun (S1403 : Sst) =>
            Option.bind (f_X3_step S1403) fun (q1405 : Sst) =>
            Option.bind (f_X2_readFormula 24 q1405) fun (q1408 : Sst) =>
            some q1408)
          else
            (if (S.2 53 0 = 104 ∧ S.2 55 4 = 0) then
              (jn (upS S 55 4 1) fun (S1415 : Sst) =>
              Option.bind (f_X3_step S1415) fun (q1417 : Sst) =>
              jn (f_X5_number 1 6 q1417) fun (q1420 : Int × Sst) =>
              jn (upS q1420.2 5 11 q1420.1) fun (S1422 : Sst) =>
              Option.bind (f_X3_step S1422) fun (q1424 : Sst) =>
              some q1424)
            else
              (if (S.2 53 0 = 105 ∧ S.2 55 5 = 0) then
                (jn (upS S 55 5 1) fun (S1431 : Sst) =>
                Option.bind (f_X3_step S1431) fun (q1433 : Sst) =>
                jn (f_X5_number 0 999 q1433) fun (q1436 : Int × Sst) =>
                jn (upS q1436.2 5 12 q1436.1) fun (S1438 : Sst) =>
                Option.bind (f_X3_step S1438) fun (q1440 : Sst) =>
                some q1440)
              else
                (jn (f_X3_fail 2 S) fun (q1443 : Sst) =>
                some q1443))))
def mM (s1377 : Int × Int × Sst) : Option ((Int × Int × Sst) ⊕ Sst) :=
    if (1600 < s1377.2.1 ∨ s1377.1 = 0) then
      (some (Sum.inr s1377.2.2))
    else
      (Option.bind (
        if (s1377.2.2.2 53 0 = 100 ∧ f_X4_count 5 s1377.2.2 < 8) then
          (Option.bind (f_X5_readSegment s1377.2.2) fun (q1396 : Sst) =>
          some q1396)
        else
          (if (s1377.2.2.2 53 0 = 103 ∧ s1377.2.2.2 55 3 = 0) then
            (jn (upS s1377.2.2 55 3 1) fun (S1403 : Sst) =>
            Option.bind (f_X3_step S1403) fun (q1405 : Sst) =>
            Option.bind (f_X2_readFormula 24 q1405) fun (q1408 : Sst) =>
            some q1408)
          else
            (if (s1377.2.2.2 53 0 = 104 ∧ s1377.2.2.2 55 4 = 0) then
              (jn (upS s1377.2.2 55 4 1) fun (S1415 : Sst) =>
              Option.bind (f_X3_step S1415) fun (q1417 : Sst) =>
              jn (f_X5_number 1 6 q1417) fun (q1420 : Int × Sst) =>
              jn (upS q1420.2 5 11 q1420.1) fun (S1422 : Sst) =>
              Option.bind (f_X3_step S1422) fun (q1424 : Sst) =>
              some q1424)
            else
              (if (s1377.2.2.2 53 0 = 105 ∧ s1377.2.2.2 55 5 = 0) then
                (jn (upS s1377.2.2 55 5 1) fun (S1431 : Sst) =>
                Option.bind (f_X3_step S1431) fun (q1433 : Sst) =>
                jn (f_X5_number 0 999 q1433) fun (q1436 : Int × Sst) =>
                jn (upS q1436.2 5 12 q1436.1) fun (S1438 : Sst) =>
                Option.bind (f_X3_step S1438) fun (q1440 : Sst) =>
                some q1440)
              else
                (jn (f_X3_fail 2 s1377.2.2) fun (q1443 : Sst) =>
                some q1443))))) fun (q1388 : Sst) =>
      Option.bind (f_X5_expect 59 q1388) fun (q1454 : Sst) =>
      jn (
        if (f_X3_failed q1454 = 0 ∧ ¬ q1454.2 53 0 = 0) then
          (1)
        else
          (0)) fun (q1458 : Int) =>
      some (Sum.inl (q1458, wr (s1377.2.1 + 1), q1454)))
theorem mM_eq (q k : Int) (S : Sst) : mM (q, k, S) = if (1600 < k ∨ q = 0) then some (.inr S) else Option.bind (lnC S) (fun q1388 => Option.bind (f_X5_expect 59 q1388) fun (q1454 : Sst) =>
      jn (
        if (f_X3_failed q1454 = 0 ∧ ¬ q1454.2 53 0 = 0) then
          (1)
        else
          (0)) fun (q1458 : Int) =>
      some (.inl (q1458, wr (k + 1), q1454))) := rfl
theorem readMap_eq (S : Sst) : f_X5_readMap S = Option.bind (f_X3_restart (upS (upS (upS (f_X4_clear 5 S) 55 3 0) 55 4 0) 55 5 0)) (fun (q1369 : Sst) => Option.bind (lp mM FU (if q1369.2 53 0 = 0 then 0 else 1, 0, q1369)) (fun (r1469 : Sst) =>
  if f_X3_failed r1469 = 0 then
    (Option.bind (f_X4_settle 5 r1469) fun (q1474 : Sst) =>
    some q1474)
  else
    (some r1469))) := rfl
def lnR (O : Smo) : Option Smo :=
    if (f_X12_isWord 7562599 O = 0 ∨ ¬ O 262 36 < 8) then
      (if (f_X12_isWord 131277443786867 O = 0 ∨ ¬ O 262 23 = 0) then
        (if (f_X12_isWord 495740482675 O = 0 ∨ ¬ O 262 42 = 0) then
          (if (f_X12_isWord 1685217655 O = 0 ∨ ¬ O 262 43 = 0) then
            (jn (f_X12_wrong 2 O) fun (q6264 : Smo) =>
            some q6264)
          else
            (jn (up2 O 262 43 1) fun (O6266 : Smo) =>
            Option.bind (f_X12_told 1685217655 0 999 O6266) fun (q6268 : Int × Smo) =>
            jn (up2 q6268.2 262 38 q6268.1) fun (O6270 : Smo) =>
            some O6270))
        else
          (jn (up2 O 262 42 1) fun (O6273 : Smo) =>
          Option.bind (f_X12_told 495740482675 1 6 O6273) fun (q6275 : Int × Smo) =>
          jn (up2 q6275.2 262 37 q6275.1) fun (O6277 : Smo) =>
          some O6277))
      else
        (Option.bind (f_X12_formula O) fun (q6281 : Smo) =>
        some q6281))
    else
      (Option.bind (f_X12_readSegment O) fun (q6286 : Smo) =>
      some q6286)
def smR (q6241 : Smo) : Option Smo :=
  jn (
    if (q6241 262 2 = 0 ∧ ¬ q6241 262 6 = 59) then
      (jn (f_X12_wrong 2 q6241) fun (q6300 : Smo) =>
      q6300)
    else
      (q6241)) fun (q6292 : Smo) =>
  if q6292 262 2 = 0 then
    (Option.bind (f_X12_token q6292) fun (q6307 : Smo) =>
    some q6307)
  else
    (some q6292)
theorem readLine_eq (O : Smo) : f_X12_readLine O = Option.bind (lnR O) smR := rfl

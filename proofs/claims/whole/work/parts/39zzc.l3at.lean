/-! LEVEL 3, at: a segment is read, as a whole -/
def sgC (q464 : Sst) : Option Sst :=
  Option.bind (f_X5_expect 101 q464) fun (q467 : Sst) =>
  jn (f_X5_number 0 59 q467) fun (q470 : Int × Sst) =>
  Option.bind (f_X3_step q470.2) fun (q473 : Sst) =>
  jn (f_X5_number 0 60 q473) fun (q476 : Int × Sst) =>
  Option.bind (f_X3_step q476.2) fun (q479 : Sst) =>
  Option.bind (f_X5_expect 102 q479) fun (q482 : Sst) =>
  jn (f_X5_number (wr (q470.1 + 1)) 60 q482) fun (q485 : Int × Sst) =>
  Option.bind (f_X3_step q485.2) fun (q488 : Sst) =>
  jn (f_X5_number 0 60 q488) fun (q491 : Int × Sst) =>
  if f_X3_failed q491.2 = 0 then
    (jn (f_X4_addSegment 5 q470.1 q476.1 q485.1 q491.1 q491.2) fun (q496 : Sst) =>
    Option.bind (f_X4_lastMeetsAnother 5 q496) fun (q499 : Int) =>
    jn (
      if q499 = 0 then
        (q496)
      else
        (jn (f_X3_fail 5 q496) fun (q507 : Sst) =>
        q507)) fun (q501 : Sst) =>
    Option.bind (f_X3_step q501) fun (q510 : Sst) =>
    some q510)
  else
    (some q491.2)
def sgR (v6182 : Int) (q6187 : Smo) : Option Smo :=
    Option.bind (f_X12_told 24948 0 59 q6187) fun (q6190 : Int × Smo) =>
    Option.bind (asetO q6190.2 272 (Ln 272) v6182 q6190.1) fun (O6192 : Smo) =>
    Option.bind (f_X12_toldNumber 0 60 O6192) fun (q6194 : Int × Smo) =>
    Option.bind (asetO q6194.2 273 (Ln 273) v6182 q6194.1) fun (O6196 : Smo) =>
    Option.bind (aget (O6196 272) (Ln 272) v6182) fun (v6197 : Int) =>
    Option.bind (f_X12_told 29807 (wr (v6197 + 1)) 60 O6196) fun (q6200 : Int × Smo) =>
    Option.bind (asetO q6200.2 274 (Ln 274) v6182 q6200.1) fun (O6202 : Smo) =>
    jn (f_X12_numberHere 0 60 O6202) fun (q6204 : Int × Smo) =>
    Option.bind (asetO q6204.2 275 (Ln 275) v6182 q6204.1) fun (O6206 : Smo) =>
    Option.bind (lp (fun (s6207 : Int × Smo) =>
      if (s6207.1 < v6182 ∧ s6207.2 262 2 = 0) then
        (Option.bind (f_X12_doMeet s6207.1 v6182 s6207.2) fun (q6218 : Int) =>
        jn (
          if q6218 = 0 then
            (s6207.2)
          else
            (jn (f_X12_wrong 5 s6207.2) fun (q6226 : Smo) =>
            q6226)) fun (q6220 : Smo) =>
        some (Sum.inl (wr (s6207.1 + 1), q6220)))
      else
        (some (Sum.inr s6207.2))) FU (0, O6206)) fun (r6230 : Smo) =>
    if 0 < r6230 262 2 then
      (some r6230)
    else
      (Option.bind (f_X12_token r6230) fun (q6235 : Smo) =>
      jn (up2 q6235 262 36 (wr ((q6235 262 36) + 1))) fun (O6238 : Smo) =>
      some O6238)
theorem segC_eq (S : Sst) : f_X5_readSegment S = Option.bind (f_X3_step S) (fun q => Option.bind (f_X5_newName q) sgC) := rfl
theorem segR_eq (O : Smo) : f_X12_readSegment O = Option.bind (f_X12_token O) (fun (q6161 : Smo) => Option.bind (
    if f_X12_isName q6161 = 0 then
      (jn (f_X12_wrong 2 q6161) fun (q6170 : Smo) =>
      some q6170)
    else
      (Option.bind (f_X12_isTold q6161) fun (q6173 : Int) =>
      if q6173 = 0 then
        (some q6161)
      else
        (jn (f_X12_wrong 3 q6161) fun (q6177 : Smo) =>
        some q6177))) fun (q6164 : Smo) =>
  if 0 < q6164 262 2 then
    (some q6164)
  else
    (Option.bind (asetO q6164 271 (Ln 271) (q6164 262 36) (q6164 262 9)) fun (O6185 : Smo) =>
    Option.bind (f_X12_token O6185) fun (q6187 : Smo) => sgR (q6164 262 36) q6187)) := rfl
theorem sgC_F {S : Sst} (h : ¬ S.2 53 2 = 0) : sgC S = some S := by
  unfold sgC f_X3_failed
  rw [FT_expect h]
  dsimp only [Option.bind_some, jn]
  rw [FT_number h]
  dsimp only
  rw [FT_step h]
  dsimp only [Option.bind_some]
  rw [FT_number h]
  dsimp only
  rw [FT_step h]
  dsimp only [Option.bind_some]
  rw [FT_expect h]
  dsimp only [Option.bind_some]
  rw [FT_number h]
  dsimp only
  rw [FT_step h]
  dsimp only [Option.bind_some]
  rw [FT_number h]
  dsimp only
  rw [if_neg h, if_neg (by decide)]

def mchk (cc : ByteArray) (q : mIt) : Bool := decide (decode cc q.1 = .ok (mraw q.2.1 q.2.2.1 q.2.2.2.1 q.2.2.2.2, mlen q.2.1 q.2.2.1 q.2.2.2.2))
/-- a site belongs to its method's class -/
def mown (c : Nat) (q : mIt) : Bool := match q with
  | (_, g, op, a, b) => match g with
    | 2 => match op with
      | 0 => match mFS[a]? with | some z => z.1 == c | none => false
      | 1 => match mFS[a]? with | some z => z.1 == c | none => false
      | 6 => match mNS[a]? with | some z => z.1 == c && z.2.2.1 == 0 | none => false
      | 8 => match mNS[a]? with | some z => z.1 == c && z.2.2.1 == 1 | none => false
      | 9 => match mNS[a]? with | some z => z.1 == c && z.2.2.1 == 2 && b == 2 | none => false
      | _ => true
    | 4 => match op with
      | 0 => match mVS[a]? with | some z => z.1 == c | none => false
      | 1 => match mSS[a]? with | some z => z.1 == c && decide (z.2.2.2.1 < 2) | none => false
      | _ => match mIS[a]? with | some z => z.1 == c && decide (z.2.2.2.1 < 2) | none => false
    | 5 => match op with
      | 0 => match mSS[a]? with | some z => z.1 == c && z.2.2.2.1 == 2 | none => false
      | 2 => match mSS[a]? with | some z => z.1 == c && z.2.2.2.1 == 3 | none => false
      | 3 => match mSS[a]? with | some z => z.1 == c && z.2.2.2.1 == 4 | none => false
      | 4 => match mSS[a]? with | some z => z.1 == c && z.2.2.2.1 == 5 | none => false
      | _ => match mIS[a]? with | some z => z.1 == c && z.2.2.2.1 == 2 | none => false
    | 6 => match mKS[a]? with
      | some z => z.1 == c && (match op with | 0 => !z.2.2.1 | 1 => !z.2.2.1 | _ => z.2.2.1)
      | none => false
    | _ => true
set_option maxRecDepth 100000 in
theorem mok0 : mC0.all (mchk cJ6_bitCount_0f7a4) = true := by decide +kernel
set_option maxRecDepth 100000 in
theorem mow0 : mC0.all (mown 13) = true := by decide +kernel
set_option maxRecDepth 100000 in
theorem mok1 : mC1.all (mchk cJ7_fill_53178) = true := by decide +kernel
set_option maxRecDepth 100000 in
theorem mow1 : mC1.all (mown 17) = true := by decide +kernel
set_option maxRecDepth 100000 in
theorem mok2 : mC2.all (mchk cJ9_floorMod_7cf53) = true := by decide +kernel
set_option maxRecDepth 100000 in
theorem mow2 : mC2.all (mown 15) = true := by decide +kernel
set_option maxRecDepth 100000 in
theorem mok3 : mC3.all (mchk cJ9_abs_0f7a4) = true := by decide +kernel
set_option maxRecDepth 100000 in
theorem mow3 : mC3.all (mown 15) = true := by decide +kernel
set_option maxRecDepth 100000 in
theorem mok4 : mC4.all (mchk cJ9_max_7cf53) = true := by decide +kernel
set_option maxRecDepth 100000 in
theorem mow4 : mC4.all (mown 15) = true := by decide +kernel
set_option maxRecDepth 100000 in
theorem mok5 : mC5.all (mchk cJ9_min_7cf53) = true := by decide +kernel
set_option maxRecDepth 100000 in
theorem mow5 : mC5.all (mown 15) = true := by decide +kernel
set_option maxRecDepth 100000 in
theorem mok6 : mC6.all (mchk cJ13_bitCount_95d88) = true := by decide +kernel
set_option maxRecDepth 100000 in
theorem mow6 : mC6.all (mown 14) = true := by decide +kernel
set_option maxRecDepth 100000 in
theorem mok7 : mC7.all (mchk cX0_init) = true := by decide +kernel
set_option maxRecDepth 100000 in
theorem mow7 : mC7.all (mown 0) = true := by decide +kernel
set_option maxRecDepth 100000 in
theorem mok8 : mC8.all (mchk cX0_opens) = true := by decide +kernel
set_option maxRecDepth 100000 in
theorem mow8 : mC8.all (mown 0) = true := by decide +kernel
set_option maxRecDepth 100000 in
theorem mok9 : mC9.all (mchk cX1_init) = true := by decide +kernel
set_option maxRecDepth 100000 in
theorem mow9 : mC9.all (mown 1) = true := by decide +kernel
set_option maxRecDepth 100000 in
theorem mok10 : mC10.all (mchk cX1_opens) = true := by decide +kernel
set_option maxRecDepth 100000 in
theorem mow10 : mC10.all (mown 1) = true := by decide +kernel
set_option maxRecDepth 100000 in
theorem mok11 : mC11.all (mchk cX2_init) = true := by decide +kernel
set_option maxRecDepth 100000 in
theorem mow11 : mC11.all (mown 2) = true := by decide +kernel
set_option maxRecDepth 100000 in
theorem mok12 : mC12.all (mchk cX2_become) = true := by decide +kernel
set_option maxRecDepth 100000 in
theorem mow12 : mC12.all (mown 2) = true := by decide +kernel
set_option maxRecDepth 100000 in
theorem mok13 : mC13.all (mchk cX2_sitAs) = true := by decide +kernel
set_option maxRecDepth 100000 in
theorem mow13 : mC13.all (mown 2) = true := by decide +kernel
set_option maxRecDepth 100000 in
theorem mok14 : mC14.all (mchk cX2_sitsAs) = true := by decide +kernel
set_option maxRecDepth 100000 in
theorem mow14 : mC14.all (mown 2) = true := by decide +kernel
set_option maxRecDepth 100000 in
theorem mok15 : mC15.all (mchk cX2_isWire) = true := by decide +kernel
set_option maxRecDepth 100000 in
theorem mow15 : mC15.all (mown 2) = true := by decide +kernel
set_option maxRecDepth 100000 in
theorem mok16 : mC16.all (mchk cX2_isBird) = true := by decide +kernel
set_option maxRecDepth 100000 in
theorem mow16 : mC16.all (mown 2) = true := by decide +kernel
set_option maxRecDepth 100000 in
theorem mok17 : mC17.all (mchk cX2_hasRoom) = true := by decide +kernel
set_option maxRecDepth 100000 in
theorem mow17 : mC17.all (mown 2) = true := by decide +kernel
set_option maxRecDepth 100000 in
theorem mok18 : mC18.all (mchk cX2_add) = true := by decide +kernel
set_option maxRecDepth 100000 in
theorem mow18 : mC18.all (mown 2) = true := by decide +kernel
set_option maxRecDepth 100000 in
theorem mok19 : mC19.all (mchk cX2_shift) = true := by decide +kernel
set_option maxRecDepth 100000 in
theorem mow19 : mC19.all (mown 2) = true := by decide +kernel
set_option maxRecDepth 100000 in
theorem mok20 : mC20.all (mchk cX2_go) = true := by decide +kernel
set_option maxRecDepth 100000 in
theorem mow20 : mC20.all (mown 2) = true := by decide +kernel
set_option maxRecDepth 100000 in
theorem mok21 : mC21.all (mchk cX2_hang) = true := by decide +kernel
set_option maxRecDepth 100000 in
theorem mow21 : mC21.all (mown 2) = true := by decide +kernel
set_option maxRecDepth 100000 in
theorem mok22 : mC22.all (mchk cX2_shows) = true := by decide +kernel
set_option maxRecDepth 100000 in
theorem mow22 : mC22.all (mown 2) = true := by decide +kernel
set_option maxRecDepth 100000 in
theorem mok23 : mC23.all (mchk cX2_errs) = true := by decide +kernel
set_option maxRecDepth 100000 in
theorem mow23 : mC23.all (mown 2) = true := by decide +kernel
set_option maxRecDepth 100000 in
theorem mok24 : mC24.all (mchk cX2_satOn) = true := by decide +kernel
set_option maxRecDepth 100000 in
theorem mow24 : mC24.all (mown 2) = true := by decide +kernel
set_option maxRecDepth 100000 in
theorem mok25 : mC25.all (mchk cX2_pass) = true := by decide +kernel
set_option maxRecDepth 100000 in
theorem mow25 : mC25.all (mown 2) = true := by decide +kernel
set_option maxRecDepth 100000 in
theorem mok26 : mC26.all (mchk cX2_wanted) = true := by decide +kernel
set_option maxRecDepth 100000 in
theorem mow26 : mC26.all (mown 2) = true := by decide +kernel
set_option maxRecDepth 100000 in
theorem mok27 : mC27.all (mchk cX2_nearer) = true := by decide +kernel
set_option maxRecDepth 100000 in
theorem mow27 : mC27.all (mown 2) = true := by decide +kernel
set_option maxRecDepth 100000 in
theorem mok28 : mC28.all (mchk cX2_wantedYoung) = true := by decide +kernel
set_option maxRecDepth 100000 in
theorem mow28 : mC28.all (mown 2) = true := by decide +kernel
set_option maxRecDepth 100000 in
theorem mok29 : mC29.all (mchk cX2_wantedOld) = true := by decide +kernel
set_option maxRecDepth 100000 in
theorem mow29 : mC29.all (mown 2) = true := by decide +kernel
set_option maxRecDepth 100000 in
theorem mok30 : mC30.all (mchk cX2_reaches) = true := by decide +kernel
set_option maxRecDepth 100000 in
theorem mow30 : mC30.all (mown 2) = true := by decide +kernel
set_option maxRecDepth 100000 in
theorem mok31 : mC31.all (mchk cX2_undergo) = true := by decide +kernel
set_option maxRecDepth 100000 in
theorem mow31 : mC31.all (mown 2) = true := by decide +kernel
set_option maxRecDepth 100000 in
theorem mok32 : mC32.all (mchk cX2_scare) = true := by decide +kernel
set_option maxRecDepth 100000 in
theorem mow32 : mC32.all (mown 2) = true := by decide +kernel
set_option maxRecDepth 100000 in
theorem mok33 : mC33.all (mchk cX2_refuge) = true := by decide +kernel
set_option maxRecDepth 100000 in
theorem mow33 : mC33.all (mown 2) = true := by decide +kernel
set_option maxRecDepth 100000 in
theorem mok34 : mC34.all (mchk cX2_driveUp) = true := by decide +kernel
set_option maxRecDepth 100000 in
theorem mow34 : mC34.all (mown 2) = true := by decide +kernel
set_option maxRecDepth 100000 in
theorem mok35 : mC35.all (mchk cX2_driveDown) = true := by decide +kernel
set_option maxRecDepth 100000 in
theorem mow35 : mC35.all (mown 2) = true := by decide +kernel
set_option maxRecDepth 100000 in
theorem mok36 : mC36.all (mchk cX3_init) = true := by decide +kernel
set_option maxRecDepth 100000 in
theorem mow36 : mC36.all (mown 3) = true := by decide +kernel
set_option maxRecDepth 100000 in
theorem mok37 : mC37.all (mchk cX3_opens) = true := by decide +kernel
set_option maxRecDepth 100000 in
theorem mow37 : mC37.all (mown 3) = true := by decide +kernel
set_option maxRecDepth 100000 in
theorem mok38 : mC38.all (mchk cX4_init) = true := by decide +kernel
set_option maxRecDepth 100000 in
theorem mow38 : mC38.all (mown 4) = true := by decide +kernel
set_option maxRecDepth 100000 in
theorem mok39 : mC39.all (mchk cX4_opens) = true := by decide +kernel
set_option maxRecDepth 100000 in
theorem mow39 : mC39.all (mown 4) = true := by decide +kernel
set_option maxRecDepth 100000 in
theorem mok40 : mC40.all (mchk cX5_init) = true := by decide +kernel
set_option maxRecDepth 100000 in
theorem mow40 : mC40.all (mown 5) = true := by decide +kernel
set_option maxRecDepth 100000 in
theorem mok41 : mC41.all (mchk cX5_opens) = true := by decide +kernel
set_option maxRecDepth 100000 in
theorem mow41 : mC41.all (mown 5) = true := by decide +kernel
set_option maxRecDepth 100000 in
theorem mok42 : mC42.all (mchk cX6_init) = true := by decide +kernel
set_option maxRecDepth 100000 in
theorem mow42 : mC42.all (mown 6) = true := by decide +kernel
set_option maxRecDepth 100000 in
theorem mok43 : mC43.all (mchk cX6_opens) = true := by decide +kernel
set_option maxRecDepth 100000 in
theorem mow43 : mC43.all (mown 6) = true := by decide +kernel
set_option maxRecDepth 100000 in
theorem mok44 : mC44.all (mchk cX6_note) = true := by decide +kernel
set_option maxRecDepth 100000 in
theorem mow44 : mC44.all (mown 6) = true := by decide +kernel
set_option maxRecDepth 100000 in
theorem mok45 : mC45.all (mchk cX7_init) = true := by decide +kernel
set_option maxRecDepth 100000 in
theorem mow45 : mC45.all (mown 7) = true := by decide +kernel
set_option maxRecDepth 100000 in
theorem mok46 : mC46.all (mchk cX7_forget) = true := by decide +kernel
set_option maxRecDepth 100000 in
theorem mow46 : mC46.all (mown 7) = true := by decide +kernel
set_option maxRecDepth 100000 in
theorem mok47 : mC47.all (mchk cX7_keep) = true := by decide +kernel
set_option maxRecDepth 100000 in
theorem mow47 : mC47.all (mown 7) = true := by decide +kernel
set_option maxRecDepth 100000 in
theorem mok48 : mC48.all (mchk cX7_takeBack) = true := by decide +kernel
set_option maxRecDepth 100000 in
theorem mow48 : mC48.all (mown 7) = true := by decide +kernel
set_option maxRecDepth 100000 in
theorem mok49 : mC49.all (mchk cX8_init) = true := by decide +kernel
set_option maxRecDepth 100000 in
theorem mow49 : mC49.all (mown 8) = true := by decide +kernel
set_option maxRecDepth 100000 in
theorem mok50 : mC50.all (mchk cX8_begin) = true := by decide +kernel
set_option maxRecDepth 100000 in
theorem mow50 : mC50.all (mown 8) = true := by decide +kernel
set_option maxRecDepth 100000 in
theorem mok51 : mC51.all (mchk cX8_hear) = true := by decide +kernel
set_option maxRecDepth 100000 in
theorem mow51 : mC51.all (mown 8) = true := by decide +kernel
set_option maxRecDepth 100000 in
theorem mok52 : mC52.all (mchk cX8_isAsTold) = true := by decide +kernel
set_option maxRecDepth 100000 in
theorem mow52 : mC52.all (mown 8) = true := by decide +kernel
set_option maxRecDepth 100000 in
theorem mok53 : mC53.all (mchk cX8_keep) = true := by decide +kernel
set_option maxRecDepth 100000 in
theorem mow53 : mC53.all (mown 8) = true := by decide +kernel
set_option maxRecDepth 100000 in
theorem mok54 : mC54.all (mchk cX8_fliesPut) = true := by decide +kernel
set_option maxRecDepth 100000 in
theorem mow54 : mC54.all (mown 8) = true := by decide +kernel
set_option maxRecDepth 100000 in
theorem mok55 : mC55.all (mchk cX8_bestOrNone) = true := by decide +kernel
set_option maxRecDepth 100000 in
theorem mow55 : mC55.all (mown 8) = true := by decide +kernel
set_option maxRecDepth 100000 in
theorem mok56 : mC56.all (mchk cX8_fliesAt) = true := by decide +kernel
set_option maxRecDepth 100000 in
theorem mow56 : mC56.all (mown 8) = true := by decide +kernel
set_option maxRecDepth 100000 in
theorem mok57 : mC57.all (mchk cX9_init) = true := by decide +kernel
set_option maxRecDepth 100000 in
theorem mow57 : mC57.all (mown 9) = true := by decide +kernel
set_option maxRecDepth 100000 in
theorem mok58 : mC58.all (mchk cX9_put) = true := by decide +kernel
set_option maxRecDepth 100000 in
theorem mow58 : mC58.all (mown 9) = true := by decide +kernel
set_option maxRecDepth 100000 in
theorem mok59 : mC59.all (mchk cX9_greatest) = true := by decide +kernel
set_option maxRecDepth 100000 in
theorem mow59 : mC59.all (mown 9) = true := by decide +kernel
set_option maxRecDepth 100000 in
theorem mok60 : mC60.all (mchk cX9_agree) = true := by decide +kernel
set_option maxRecDepth 100000 in
theorem mow60 : mC60.all (mown 9) = true := by decide +kernel
set_option maxRecDepth 100000 in
theorem mok61 : mC61.all (mchk cX9_thinkOver) = true := by decide +kernel
set_option maxRecDepth 100000 in
theorem mow61 : mC61.all (mown 9) = true := by decide +kernel
set_option maxRecDepth 100000 in
theorem mok62 : mC62.all (mchk cX9_middle) = true := by decide +kernel
set_option maxRecDepth 100000 in
theorem mow62 : mC62.all (mown 9) = true := by decide +kernel
set_option maxRecDepth 100000 in
theorem mok63 : mC63.all (mchk cX9_unlikeThoughts) = true := by decide +kernel
set_option maxRecDepth 100000 in
theorem mow63 : mC63.all (mown 9) = true := by decide +kernel
set_option maxRecDepth 100000 in
theorem mok64 : mC64.all (mchk cX10_init) = true := by decide +kernel
set_option maxRecDepth 100000 in
theorem mow64 : mC64.all (mown 10) = true := by decide +kernel
set_option maxRecDepth 100000 in
theorem mok65 : mC65.all (mchk cX10_put) = true := by decide +kernel
set_option maxRecDepth 100000 in
theorem mow65 : mC65.all (mown 10) = true := by decide +kernel
set_option maxRecDepth 100000 in
theorem mok66 : mC66.all (mchk cX10_letterAt) = true := by decide +kernel
set_option maxRecDepth 100000 in
theorem mow66 : mC66.all (mown 10) = true := by decide +kernel
set_option maxRecDepth 100000 in
theorem mok67 : mC67.all (mchk cX10_digitAt) = true := by decide +kernel
set_option maxRecDepth 100000 in
theorem mow67 : mC67.all (mown 10) = true := by decide +kernel
set_option maxRecDepth 100000 in
theorem mok68 : mC68.all (mchk cX10_digitsBehind) = true := by decide +kernel
set_option maxRecDepth 100000 in
theorem mow68 : mC68.all (mown 10) = true := by decide +kernel
set_option maxRecDepth 100000 in
theorem mok69 : mC69.all (mchk cX10_oddPlace) = true := by decide +kernel
set_option maxRecDepth 100000 in
theorem mow69 : mC69.all (mown 10) = true := by decide +kernel
set_option maxRecDepth 100000 in
theorem mok70 : mC70.all (mchk cX11_init) = true := by decide +kernel
set_option maxRecDepth 100000 in
theorem mow70 : mC70.all (mown 11) = true := by decide +kernel
set_option maxRecDepth 100000 in
theorem mok71 : mC71.all (mchk cX11_refuse) = true := by decide +kernel
set_option maxRecDepth 100000 in
theorem mow71 : mC71.all (mown 11) = true := by decide +kernel
set_option maxRecDepth 100000 in
theorem mok72 : mC72.all (mchk cX11_either) = true := by decide +kernel
set_option maxRecDepth 100000 in
theorem mow72 : mC72.all (mown 11) = true := by decide +kernel
set_option maxRecDepth 100000 in
theorem mok73 : mC73.all (mchk cX11_outside) = true := by decide +kernel
set_option maxRecDepth 100000 in
theorem mow73 : mC73.all (mown 11) = true := by decide +kernel
set_option maxRecDepth 100000 in
theorem mok74 : mC74.all (mchk cX11_under) = true := by decide +kernel
set_option maxRecDepth 100000 in
theorem mow74 : mC74.all (mown 11) = true := by decide +kernel
set_option maxRecDepth 100000 in
theorem mok75 : mC75.all (mchk cX11_unknown) = true := by decide +kernel
set_option maxRecDepth 100000 in
theorem mow75 : mC75.all (mown 11) = true := by decide +kernel
set_option maxRecDepth 100000 in
theorem mok76 : mC76.all (mchk cX11_noWire) = true := by decide +kernel
set_option maxRecDepth 100000 in
theorem mow76 : mC76.all (mown 11) = true := by decide +kernel
set_option maxRecDepth 100000 in
theorem mok77 : mC77.all (mchk cX11_noBird) = true := by decide +kernel
set_option maxRecDepth 100000 in
theorem mow77 : mC77.all (mown 11) = true := by decide +kernel
set_option maxRecDepth 100000 in
theorem mok78 : mC78.all (mchk cX11_unfitRow) = true := by decide +kernel
set_option maxRecDepth 100000 in
theorem mow78 : mC78.all (mown 11) = true := by decide +kernel
set_option maxRecDepth 100000 in
theorem mok79 : mC79.all (mchk cX11_feed) = true := by decide +kernel
set_option maxRecDepth 100000 in
theorem mow79 : mC79.all (mown 11) = true := by decide +kernel
set_option maxRecDepth 100000 in
theorem mok80 : mC80.all (mchk cX11_town) = true := by decide +kernel
set_option maxRecDepth 100000 in
theorem mow80 : mC80.all (mown 11) = true := by decide +kernel
set_option maxRecDepth 100000 in
theorem mok81 : mC81.all (mchk cX11_readTown) = true := by decide +kernel
set_option maxRecDepth 100000 in
theorem mow81 : mC81.all (mown 11) = true := by decide +kernel
set_option maxRecDepth 100000 in
theorem mok82 : mC82.all (mchk cX11_comesTrue) = true := by decide +kernel
set_option maxRecDepth 100000 in
theorem mow82 : mC82.all (mown 11) = true := by decide +kernel
set_option maxRecDepth 100000 in
theorem mok83 : mC83.all (mchk cX11_birdComes) = true := by decide +kernel
set_option maxRecDepth 100000 in
theorem mow83 : mC83.all (mown 11) = true := by decide +kernel
set_option maxRecDepth 100000 in
theorem mok84 : mC84.all (mchk cX11_weightComes) = true := by decide +kernel
set_option maxRecDepth 100000 in
theorem mow84 : mC84.all (mown 11) = true := by decide +kernel
set_option maxRecDepth 100000 in
theorem mok85 : mC85.all (mchk cX11_hoursCome) = true := by decide +kernel
set_option maxRecDepth 100000 in
theorem mow85 : mC85.all (mown 11) = true := by decide +kernel
set_option maxRecDepth 100000 in
theorem mok86 : mC86.all (mchk cX11_catComes) = true := by decide +kernel
set_option maxRecDepth 100000 in
theorem mow86 : mC86.all (mown 11) = true := by decide +kernel
set_option maxRecDepth 100000 in
theorem mok87 : mC87.all (mchk cX11_bird) = true := by decide +kernel
set_option maxRecDepth 100000 in
theorem mow87 : mC87.all (mown 11) = true := by decide +kernel
set_option maxRecDepth 100000 in
theorem mok88 : mC88.all (mchk cX11_comes) = true := by decide +kernel
set_option maxRecDepth 100000 in
theorem mow88 : mC88.all (mown 11) = true := by decide +kernel
set_option maxRecDepth 100000 in
theorem mok89 : mC89.all (mchk cX11_wire) = true := by decide +kernel
set_option maxRecDepth 100000 in
theorem mow89 : mC89.all (mown 11) = true := by decide +kernel
set_option maxRecDepth 100000 in
theorem mok90 : mC90.all (mchk cX11_weight) = true := by decide +kernel
set_option maxRecDepth 100000 in
theorem mow90 : mC90.all (mown 11) = true := by decide +kernel
set_option maxRecDepth 100000 in
theorem mok91 : mC91.all (mchk cX11_sixth) = true := by decide +kernel
set_option maxRecDepth 100000 in
theorem mow91 : mC91.all (mown 11) = true := by decide +kernel
set_option maxRecDepth 100000 in
theorem mok92 : mC92.all (mchk cX11_feeds) = true := by decide +kernel
set_option maxRecDepth 100000 in
theorem mow92 : mC92.all (mown 11) = true := by decide +kernel
set_option maxRecDepth 100000 in
theorem mok93 : mC93.all (mchk cX11_cat) = true := by decide +kernel
set_option maxRecDepth 100000 in
theorem mow93 : mC93.all (mown 11) = true := by decide +kernel
set_option maxRecDepth 100000 in
theorem mok94 : mC94.all (mchk cX11_hawk) = true := by decide +kernel
set_option maxRecDepth 100000 in
theorem mow94 : mC94.all (mown 11) = true := by decide +kernel
set_option maxRecDepth 100000 in
theorem mok95 : mC95.all (mchk cX11_rain) = true := by decide +kernel
set_option maxRecDepth 100000 in
theorem mow95 : mC95.all (mown 11) = true := by decide +kernel
set_option maxRecDepth 100000 in
theorem mok96 : mC96.all (mchk cX11_back) = true := by decide +kernel
set_option maxRecDepth 100000 in
theorem mow96 : mC96.all (mown 11) = true := by decide +kernel
set_option maxRecDepth 100000 in
theorem mok97 : mC97.all (mchk cX11_think) = true := by decide +kernel
set_option maxRecDepth 100000 in
theorem mow97 : mC97.all (mown 11) = true := by decide +kernel
set_option maxRecDepth 100000 in
theorem mok98 : mC98.all (mchk cX11_thinkBehind) = true := by decide +kernel
set_option maxRecDepth 100000 in
theorem mow98 : mC98.all (mown 11) = true := by decide +kernel
set_option maxRecDepth 100000 in
theorem mok99 : mC99.all (mchk cX11_behind) = true := by decide +kernel
set_option maxRecDepth 100000 in
theorem mow99 : mC99.all (mown 11) = true := by decide +kernel
set_option maxRecDepth 100000 in
theorem mok100 : mC100.all (mchk cX11_where) = true := by decide +kernel
set_option maxRecDepth 100000 in
theorem mow100 : mC100.all (mown 11) = true := by decide +kernel
set_option maxRecDepth 100000 in
theorem mok101 : mC101.all (mchk cX11_firstWrong) = true := by decide +kernel
set_option maxRecDepth 100000 in
theorem mow101 : mC101.all (mown 11) = true := by decide +kernel
set_option maxRecDepth 100000 in
theorem mok102 : mC102.all (mchk cX11_allWrong) = true := by decide +kernel
set_option maxRecDepth 100000 in
theorem mow102 : mC102.all (mown 11) = true := by decide +kernel
set_option maxRecDepth 100000 in
theorem mok103 : mC103.all (mchk cX11_right) = true := by decide +kernel
set_option maxRecDepth 100000 in
theorem mow103 : mC103.all (mown 11) = true := by decide +kernel
set_option maxRecDepth 100000 in
theorem mok104 : mC104.all (mchk cX11_later) = true := by decide +kernel
set_option maxRecDepth 100000 in
theorem mow104 : mC104.all (mown 11) = true := by decide +kernel
set_option maxRecDepth 100000 in
theorem mok105 : mC105.all (mchk cX11_stayed) = true := by decide +kernel
set_option maxRecDepth 100000 in
theorem mow105 : mC105.all (mown 11) = true := by decide +kernel
set_option maxRecDepth 100000 in
theorem mok106 : mC106.all (mchk cX11_settled) = true := by decide +kernel
set_option maxRecDepth 100000 in
theorem mow106 : mC106.all (mown 11) = true := by decide +kernel
set_option maxRecDepth 100000 in
theorem mok107 : mC107.all (mchk cX11_round) = true := by decide +kernel
set_option maxRecDepth 100000 in
theorem mow107 : mC107.all (mown 11) = true := by decide +kernel
set_option maxRecDepth 100000 in
theorem mok108 : mC108.all (mchk cX11_trains) = true := by decide +kernel
set_option maxRecDepth 100000 in
theorem mow108 : mC108.all (mown 11) = true := by decide +kernel
set_option maxRecDepth 100000 in
theorem mok109 : mC109.all (mchk cX11_trainsLooked) = true := by decide +kernel
set_option maxRecDepth 100000 in
theorem mow109 : mC109.all (mown 11) = true := by decide +kernel
set_option maxRecDepth 100000 in
theorem mok110 : mC110.all (mchk cX11_happened) = true := by decide +kernel
set_option maxRecDepth 100000 in
theorem mow110 : mC110.all (mown 11) = true := by decide +kernel
set_option maxRecDepth 100000 in
theorem mok111 : mC111.all (mchk cX11_firstUnlike) = true := by decide +kernel
set_option maxRecDepth 100000 in
theorem mow111 : mC111.all (mown 11) = true := by decide +kernel
set_option maxRecDepth 100000 in
theorem mok112 : mC112.all (mchk cX11_tellsMost) = true := by decide +kernel
set_option maxRecDepth 100000 in
theorem mow112 : mC112.all (mown 11) = true := by decide +kernel
set_option maxRecDepth 100000 in
theorem mok113 : mC113.all (mchk cX11_noteShown) = true := by decide +kernel
set_option maxRecDepth 100000 in
theorem mow113 : mC113.all (mown 11) = true := by decide +kernel
set_option maxRecDepth 100000 in
theorem mok114 : mC114.all (mchk cX11_catWorth) = true := by decide +kernel
set_option maxRecDepth 100000 in
theorem mow114 : mC114.all (mown 11) = true := by decide +kernel
set_option maxRecDepth 100000 in
theorem mok115 : mC115.all (mchk cX11_lots) = true := by decide +kernel
set_option maxRecDepth 100000 in
theorem mow115 : mC115.all (mown 11) = true := by decide +kernel
set_option maxRecDepth 100000 in
theorem mok116 : mC116.all (mchk cX11_thinkFed) = true := by decide +kernel
set_option maxRecDepth 100000 in
theorem mow116 : mC116.all (mown 11) = true := by decide +kernel
set_option maxRecDepth 100000 in
theorem mok117 : mC117.all (mchk cX11_closest) = true := by decide +kernel
set_option maxRecDepth 100000 in
theorem mow117 : mC117.all (mown 11) = true := by decide +kernel
set_option maxRecDepth 100000 in
theorem mok118 : mC118.all (mchk cX11_chord) = true := by decide +kernel
set_option maxRecDepth 100000 in
theorem mow118 : mC118.all (mown 11) = true := by decide +kernel
set_option maxRecDepth 100000 in
theorem mok119 : mC119.all (mchk cX11_nextChords) = true := by decide +kernel
set_option maxRecDepth 100000 in
theorem mow119 : mC119.all (mown 11) = true := by decide +kernel
set_option maxRecDepth 100000 in
theorem mok120 : mC120.all (mchk cX11_watch) = true := by decide +kernel
set_option maxRecDepth 100000 in
theorem mow120 : mC120.all (mown 11) = true := by decide +kernel
set_option maxRecDepth 100000 in
theorem mok121 : mC121.all (mchk cX11_mostWrong) = true := by decide +kernel
set_option maxRecDepth 100000 in
theorem mow121 : mC121.all (mown 11) = true := by decide +kernel
set_option maxRecDepth 100000 in
theorem mok122 : mC122.all (mchk cX11_rivalSure) = true := by decide +kernel
set_option maxRecDepth 100000 in
theorem mow122 : mC122.all (mown 11) = true := by decide +kernel
set_option maxRecDepth 100000 in
theorem mok123 : mC123.all (mchk cX11_always) = true := by decide +kernel
set_option maxRecDepth 100000 in
theorem mow123 : mC123.all (mown 11) = true := by decide +kernel
set_option maxRecDepth 100000 in
theorem mok124 : mC124.all (mchk cX11_seek) = true := by decide +kernel
set_option maxRecDepth 100000 in
theorem mow124 : mC124.all (mown 11) = true := by decide +kernel
set_option maxRecDepth 100000 in
theorem mok125 : mC125.all (mchk cX11_seekFromNow) = true := by decide +kernel
set_option maxRecDepth 100000 in
theorem mow125 : mC125.all (mown 11) = true := by decide +kernel
set_option maxRecDepth 100000 in
theorem mok126 : mC126.all (mchk cX11_feeding) = true := by decide +kernel
set_option maxRecDepth 100000 in
theorem mow126 : mC126.all (mown 11) = true := by decide +kernel
set_option maxRecDepth 100000 in
theorem mok127 : mC127.all (mchk cX11_highest) = true := by decide +kernel
set_option maxRecDepth 100000 in
theorem mow127 : mC127.all (mown 11) = true := by decide +kernel
set_option maxRecDepth 100000 in
theorem mok128 : mC128.all (mchk cX11_plays) = true := by decide +kernel
set_option maxRecDepth 100000 in
theorem mow128 : mC128.all (mown 11) = true := by decide +kernel
set_option maxRecDepth 100000 in
theorem mok129 : mC129.all (mchk cX11_whoMoved) = true := by decide +kernel
set_option maxRecDepth 100000 in
theorem mow129 : mC129.all (mown 11) = true := by decide +kernel
set_option maxRecDepth 100000 in
theorem mok130 : mC130.all (mchk cX11_lured) = true := by decide +kernel
set_option maxRecDepth 100000 in
theorem mow130 : mC130.all (mown 11) = true := by decide +kernel
set_option maxRecDepth 100000 in
theorem mok131 : mC131.all (mchk cX11_gather) = true := by decide +kernel
set_option maxRecDepth 100000 in
theorem mow131 : mC131.all (mown 11) = true := by decide +kernel
set_option maxRecDepth 100000 in
theorem mok132 : mC132.all (mchk cX11_mixed) = true := by decide +kernel
set_option maxRecDepth 100000 in
theorem mow132 : mC132.all (mown 11) = true := by decide +kernel
set_option maxRecDepth 100000 in
theorem mok133 : mC133.all (mchk cX11_near) = true := by decide +kernel
set_option maxRecDepth 100000 in
theorem mow133 : mC133.all (mown 11) = true := by decide +kernel
set_option maxRecDepth 100000 in
theorem mok134 : mC134.all (mchk cX11_movesTo) = true := by decide +kernel
set_option maxRecDepth 100000 in
theorem mow134 : mC134.all (mown 11) = true := by decide +kernel
set_option maxRecDepth 100000 in
theorem mok135 : mC135.all (mchk cX11_read) = true := by decide +kernel
set_option maxRecDepth 100000 in
theorem mow135 : mC135.all (mown 11) = true := by decide +kernel
set_option maxRecDepth 100000 in
theorem mok136 : mC136.all (mchk cX11_tallySeats) = true := by decide +kernel
set_option maxRecDepth 100000 in
theorem mow136 : mC136.all (mown 11) = true := by decide +kernel
set_option maxRecDepth 100000 in
theorem mok137 : mC137.all (mchk cX11_bestWeight) = true := by decide +kernel
set_option maxRecDepth 100000 in
theorem mow137 : mC137.all (mown 11) = true := by decide +kernel
set_option maxRecDepth 100000 in
theorem mok138 : mC138.all (mchk cX11_addErrsByWeight) = true := by decide +kernel
set_option maxRecDepth 100000 in
theorem mow138 : mC138.all (mown 11) = true := by decide +kernel
set_option maxRecDepth 100000 in
theorem mok139 : mC139.all (mchk cX11_bestWire) = true := by decide +kernel
set_option maxRecDepth 100000 in
theorem mow139 : mC139.all (mown 11) = true := by decide +kernel
set_option maxRecDepth 100000 in
theorem mok140 : mC140.all (mchk cX11_errsWithout) = true := by decide +kernel
set_option maxRecDepth 100000 in
theorem mow140 : mC140.all (mown 11) = true := by decide +kernel
set_option maxRecDepth 100000 in
theorem mok141 : mC141.all (mchk cX11_worstBird) = true := by decide +kernel
set_option maxRecDepth 100000 in
theorem mow141 : mC141.all (mown 11) = true := by decide +kernel
set_option maxRecDepth 100000 in
theorem mok142 : mC142.all (mchk cX11_spread) = true := by decide +kernel
set_option maxRecDepth 100000 in
theorem mow142 : mC142.all (mown 11) = true := by decide +kernel
set_option maxRecDepth 100000 in
theorem mok143 : mC143.all (mchk cX11_movesToEven) = true := by decide +kernel
set_option maxRecDepth 100000 in
theorem mow143 : mC143.all (mown 11) = true := by decide +kernel
set_option maxRecDepth 100000 in
theorem mok144 : mC144.all (mchk cX11_movesToFill) = true := by decide +kernel
set_option maxRecDepth 100000 in
theorem mow144 : mC144.all (mown 11) = true := by decide +kernel
set_option maxRecDepth 100000 in
theorem mok145 : mC145.all (mchk cX11_row) = true := by decide +kernel
set_option maxRecDepth 100000 in
theorem mow145 : mC145.all (mown 11) = true := by decide +kernel
set_option maxRecDepth 100000 in
theorem mok146 : mC146.all (mchk cX11_judge) = true := by decide +kernel
set_option maxRecDepth 100000 in
theorem mow146 : mC146.all (mown 11) = true := by decide +kernel
set_option maxRecDepth 100000 in
theorem mok147 : mC147.all (mchk cX11_clear) = true := by decide +kernel
set_option maxRecDepth 100000 in
theorem mow147 : mC147.all (mown 11) = true := by decide +kernel
set_option maxRecDepth 100000 in
theorem mok148 : mC148.all (mchk cX11_winter) = true := by decide +kernel
set_option maxRecDepth 100000 in
theorem mow148 : mC148.all (mown 11) = true := by decide +kernel
set_option maxRecDepth 100000 in
theorem mok149 : mC149.all (mchk cX11_image) = true := by decide +kernel
set_option maxRecDepth 100000 in
theorem mow149 : mC149.all (mown 11) = true := by decide +kernel
set_option maxRecDepth 100000 in
theorem mok150 : mC150.all (mchk cX11_restore) = true := by decide +kernel
set_option maxRecDepth 100000 in
theorem mow150 : mC150.all (mown 11) = true := by decide +kernel
set_option maxRecDepth 100000 in
theorem mok151 : mC151.all (mchk cX11_count) = true := by decide +kernel
set_option maxRecDepth 100000 in
theorem mow151 : mC151.all (mown 11) = true := by decide +kernel
set_option maxRecDepth 100000 in
theorem mok152 : mC152.all (mchk cX11_apart) = true := by decide +kernel
set_option maxRecDepth 100000 in
theorem mow152 : mC152.all (mown 11) = true := by decide +kernel
set_option maxRecDepth 100000 in
theorem mok153 : mC153.all (mchk cX12_init) = true := by decide +kernel
set_option maxRecDepth 100000 in
theorem mow153 : mC153.all (mown 12) = true := by decide +kernel
set_option maxRecDepth 100000 in
theorem mok154 : mC154.all (mchk cX12_no) = true := by decide +kernel
set_option maxRecDepth 100000 in
theorem mow154 : mC154.all (mown 12) = true := by decide +kernel
set_option maxRecDepth 100000 in
theorem mok155 : mC155.all (mchk cX12_isIn) = true := by decide +kernel
set_option maxRecDepth 100000 in
theorem mow155 : mC155.all (mown 12) = true := by decide +kernel
set_option maxRecDepth 100000 in
theorem mok156 : mC156.all (mchk cX12_bound) = true := by decide +kernel
set_option maxRecDepth 100000 in
theorem mow156 : mC156.all (mown 12) = true := by decide +kernel
set_option maxRecDepth 100000 in
theorem mok157 : mC157.all (mchk cX12_isWire) = true := by decide +kernel
set_option maxRecDepth 100000 in
theorem mow157 : mC157.all (mown 12) = true := by decide +kernel
set_option maxRecDepth 100000 in
theorem mok158 : mC158.all (mchk cX12_isBird) = true := by decide +kernel
set_option maxRecDepth 100000 in
theorem mow158 : mC158.all (mown 12) = true := by decide +kernel
set_option maxRecDepth 100000 in
theorem mok159 : mC159.all (mchk cX12_manyOn) = true := by decide +kernel
set_option maxRecDepth 100000 in
theorem mow159 : mC159.all (mown 12) = true := by decide +kernel
set_option maxRecDepth 100000 in
theorem mok160 : mC160.all (mchk cX12_hasRoom) = true := by decide +kernel
set_option maxRecDepth 100000 in
theorem mow160 : mC160.all (mown 12) = true := by decide +kernel
set_option maxRecDepth 100000 in
theorem mok161 : mC161.all (mchk cX12_shown) = true := by decide +kernel
set_option maxRecDepth 100000 in
theorem mow161 : mC161.all (mown 12) = true := by decide +kernel
set_option maxRecDepth 100000 in
theorem mok162 : mC162.all (mchk cX12_wrong) = true := by decide +kernel
set_option maxRecDepth 100000 in
theorem mow162 : mC162.all (mown 12) = true := by decide +kernel
set_option maxRecDepth 100000 in
theorem mok163 : mC163.all (mchk cX12_feed) = true := by decide +kernel
set_option maxRecDepth 100000 in
theorem mow163 : mC163.all (mown 12) = true := by decide +kernel
set_option maxRecDepth 100000 in
theorem mok164 : mC164.all (mchk cX12_next) = true := by decide +kernel
set_option maxRecDepth 100000 in
theorem mow164 : mC164.all (mown 12) = true := by decide +kernel
set_option maxRecDepth 100000 in
theorem mok165 : mC165.all (mchk cX12_readsDigits) = true := by decide +kernel
set_option maxRecDepth 100000 in
theorem mow165 : mC165.all (mown 12) = true := by decide +kernel
set_option maxRecDepth 100000 in
theorem mok166 : mC166.all (mchk cX12_readsAll) = true := by decide +kernel
set_option maxRecDepth 100000 in
theorem mow166 : mC166.all (mown 12) = true := by decide +kernel
set_option maxRecDepth 100000 in
theorem mok167 : mC167.all (mchk cX12_statement) = true := by decide +kernel
set_option maxRecDepth 100000 in
theorem mow167 : mC167.all (mown 12) = true := by decide +kernel
set_option maxRecDepth 100000 in
theorem mok168 : mC168.all (mchk cX12_comesBird) = true := by decide +kernel
set_option maxRecDepth 100000 in
theorem mow168 : mC168.all (mown 12) = true := by decide +kernel
set_option maxRecDepth 100000 in
theorem mok169 : mC169.all (mchk cX12_comesHours) = true := by decide +kernel
set_option maxRecDepth 100000 in
theorem mow169 : mC169.all (mown 12) = true := by decide +kernel
set_option maxRecDepth 100000 in
theorem mok170 : mC170.all (mchk cX12_comes) = true := by decide +kernel
set_option maxRecDepth 100000 in
theorem mow170 : mC170.all (mown 12) = true := by decide +kernel
set_option maxRecDepth 100000 in
theorem mok171 : mC171.all (mchk cX12_town) = true := by decide +kernel
set_option maxRecDepth 100000 in
theorem mow171 : mC171.all (mown 12) = true := by decide +kernel
set_option maxRecDepth 100000 in
theorem mok172 : mC172.all (mchk cX12_passes) = true := by decide +kernel
set_option maxRecDepth 100000 in
theorem mow172 : mC172.all (mown 12) = true := by decide +kernel
set_option maxRecDepth 100000 in
theorem mok173 : mC173.all (mchk cX12_passOne) = true := by decide +kernel
set_option maxRecDepth 100000 in
theorem mow173 : mC173.all (mown 12) = true := by decide +kernel
set_option maxRecDepth 100000 in
theorem mok174 : mC174.all (mchk cX12_passesAll) = true := by decide +kernel
set_option maxRecDepth 100000 in
theorem mow174 : mC174.all (mown 12) = true := by decide +kernel
set_option maxRecDepth 100000 in
theorem mok175 : mC175.all (mchk cX12_keepsBack) = true := by decide +kernel
set_option maxRecDepth 100000 in
theorem mow175 : mC175.all (mown 12) = true := by decide +kernel
set_option maxRecDepth 100000 in
theorem mok176 : mC176.all (mchk cX12_back) = true := by decide +kernel
set_option maxRecDepth 100000 in
theorem mow176 : mC176.all (mown 12) = true := by decide +kernel
set_option maxRecDepth 100000 in
theorem mok177 : mC177.all (mchk cX12_image) = true := by decide +kernel
set_option maxRecDepth 100000 in
theorem mow177 : mC177.all (mown 12) = true := by decide +kernel
set_option maxRecDepth 100000 in
theorem mok178 : mC178.all (mchk cX12_restore) = true := by decide +kernel
set_option maxRecDepth 100000 in
theorem mow178 : mC178.all (mown 12) = true := by decide +kernel
set_option maxRecDepth 100000 in
theorem mok179 : mC179.all (mchk cX12_thinks) = true := by decide +kernel
set_option maxRecDepth 100000 in
theorem mow179 : mC179.all (mown 12) = true := by decide +kernel
set_option maxRecDepth 100000 in
theorem mok180 : mC180.all (mchk cX12_forgets) = true := by decide +kernel
set_option maxRecDepth 100000 in
theorem mow180 : mC180.all (mown 12) = true := by decide +kernel
set_option maxRecDepth 100000 in
theorem mok181 : mC181.all (mchk cX12_adds) = true := by decide +kernel
set_option maxRecDepth 100000 in
theorem mow181 : mC181.all (mown 12) = true := by decide +kernel
set_option maxRecDepth 100000 in
theorem mok182 : mC182.all (mchk cX12_far) = true := by decide +kernel
set_option maxRecDepth 100000 in
theorem mow182 : mC182.all (mown 12) = true := by decide +kernel
set_option maxRecDepth 100000 in
theorem mok183 : mC183.all (mchk cX12_lesser) = true := by decide +kernel
set_option maxRecDepth 100000 in
theorem mow183 : mC183.all (mown 12) = true := by decide +kernel
set_option maxRecDepth 100000 in
theorem mok184 : mC184.all (mchk cX12_nearer) = true := by decide +kernel
set_option maxRecDepth 100000 in
theorem mow184 : mC184.all (mown 12) = true := by decide +kernel
set_option maxRecDepth 100000 in
theorem mok185 : mC185.all (mchk cX12_wantsYoung) = true := by decide +kernel
set_option maxRecDepth 100000 in
theorem mow185 : mC185.all (mown 12) = true := by decide +kernel
set_option maxRecDepth 100000 in
theorem mok186 : mC186.all (mchk cX12_wantsOld) = true := by decide +kernel
set_option maxRecDepth 100000 in
theorem mow186 : mC186.all (mown 12) = true := by decide +kernel
set_option maxRecDepth 100000 in
theorem mok187 : mC187.all (mchk cX12_wants) = true := by decide +kernel
set_option maxRecDepth 100000 in
theorem mow187 : mC187.all (mown 12) = true := by decide +kernel
set_option maxRecDepth 100000 in
theorem mok188 : mC188.all (mchk cX12_goesOne) = true := by decide +kernel
set_option maxRecDepth 100000 in
theorem mow188 : mC188.all (mown 12) = true := by decide +kernel
set_option maxRecDepth 100000 in
theorem mok189 : mC189.all (mchk cX12_goes) = true := by decide +kernel
set_option maxRecDepth 100000 in
theorem mow189 : mC189.all (mown 12) = true := by decide +kernel
set_option maxRecDepth 100000 in
theorem mok190 : mC190.all (mchk cX12_fromCat) = true := by decide +kernel
set_option maxRecDepth 100000 in
theorem mow190 : mC190.all (mown 12) = true := by decide +kernel
set_option maxRecDepth 100000 in
theorem mok191 : mC191.all (mchk cX12_cats) = true := by decide +kernel
set_option maxRecDepth 100000 in
theorem mow191 : mC191.all (mown 12) = true := by decide +kernel
set_option maxRecDepth 100000 in
theorem mok192 : mC192.all (mchk cX12_outermost) = true := by decide +kernel
set_option maxRecDepth 100000 in
theorem mow192 : mC192.all (mown 12) = true := by decide +kernel
set_option maxRecDepth 100000 in
theorem mok193 : mC193.all (mchk cX12_fliesTo) = true := by decide +kernel
set_option maxRecDepth 100000 in
theorem mow193 : mC193.all (mown 12) = true := by decide +kernel
set_option maxRecDepth 100000 in
theorem mok194 : mC194.all (mchk cX12_hangs) = true := by decide +kernel
set_option maxRecDepth 100000 in
theorem mow194 : mC194.all (mown 12) = true := by decide +kernel
set_option maxRecDepth 100000 in
theorem mok195 : mC195.all (mchk cX12_happens) = true := by decide +kernel
set_option maxRecDepth 100000 in
theorem mow195 : mC195.all (mown 12) = true := by decide +kernel
set_option maxRecDepth 100000 in
theorem mok196 : mC196.all (mchk cX12_bird) = true := by decide +kernel
set_option maxRecDepth 100000 in
theorem mow196 : mC196.all (mown 12) = true := by decide +kernel
set_option maxRecDepth 100000 in
theorem mok197 : mC197.all (mchk cX12_comes_) = true := by decide +kernel
set_option maxRecDepth 100000 in
theorem mow197 : mC197.all (mown 12) = true := by decide +kernel
set_option maxRecDepth 100000 in
theorem mok198 : mC198.all (mchk cX12_wire) = true := by decide +kernel
set_option maxRecDepth 100000 in
theorem mow198 : mC198.all (mown 12) = true := by decide +kernel
set_option maxRecDepth 100000 in
theorem mok199 : mC199.all (mchk cX12_weight) = true := by decide +kernel
set_option maxRecDepth 100000 in
theorem mow199 : mC199.all (mown 12) = true := by decide +kernel
set_option maxRecDepth 100000 in
theorem mok200 : mC200.all (mchk cX12_sixth) = true := by decide +kernel
set_option maxRecDepth 100000 in
theorem mow200 : mC200.all (mown 12) = true := by decide +kernel
set_option maxRecDepth 100000 in
theorem mok201 : mC201.all (mchk cX12_feeds) = true := by decide +kernel
set_option maxRecDepth 100000 in
theorem mow201 : mC201.all (mown 12) = true := by decide +kernel
set_option maxRecDepth 100000 in
theorem mok202 : mC202.all (mchk cX12_cat) = true := by decide +kernel
set_option maxRecDepth 100000 in
theorem mow202 : mC202.all (mown 12) = true := by decide +kernel
set_option maxRecDepth 100000 in
theorem mok203 : mC203.all (mchk cX12_hawk) = true := by decide +kernel
set_option maxRecDepth 100000 in
theorem mow203 : mC203.all (mown 12) = true := by decide +kernel
set_option maxRecDepth 100000 in
theorem mok204 : mC204.all (mchk cX12_rain) = true := by decide +kernel
set_option maxRecDepth 100000 in
theorem mow204 : mC204.all (mown 12) = true := by decide +kernel
set_option maxRecDepth 100000 in
theorem mok205 : mC205.all (mchk cX12_findHours) = true := by decide +kernel
set_option maxRecDepth 100000 in
theorem mow205 : mC205.all (mown 12) = true := by decide +kernel
set_option maxRecDepth 100000 in
theorem mok206 : mC206.all (mchk cX12_notHours) = true := by decide +kernel
set_option maxRecDepth 100000 in
theorem mow206 : mC206.all (mown 12) = true := by decide +kernel
set_option maxRecDepth 100000 in
theorem mok207 : mC207.all (mchk cX12_behind) = true := by decide +kernel
set_option maxRecDepth 100000 in
theorem mow207 : mC207.all (mown 12) = true := by decide +kernel
set_option maxRecDepth 100000 in
theorem mok208 : mC208.all (mchk cX12_where) = true := by decide +kernel
set_option maxRecDepth 100000 in
theorem mow208 : mC208.all (mown 12) = true := by decide +kernel
set_option maxRecDepth 100000 in
theorem mok209 : mC209.all (mchk cX12_firstWrong) = true := by decide +kernel
set_option maxRecDepth 100000 in
theorem mow209 : mC209.all (mown 12) = true := by decide +kernel
set_option maxRecDepth 100000 in
theorem mok210 : mC210.all (mchk cX12_wrongTo) = true := by decide +kernel
set_option maxRecDepth 100000 in
theorem mow210 : mC210.all (mown 12) = true := by decide +kernel
set_option maxRecDepth 100000 in
theorem mok211 : mC211.all (mchk cX12_allWrong) = true := by decide +kernel
set_option maxRecDepth 100000 in
theorem mow211 : mC211.all (mown 12) = true := by decide +kernel
set_option maxRecDepth 100000 in
theorem mok212 : mC212.all (mchk cX12_waysOf) = true := by decide +kernel
set_option maxRecDepth 100000 in
theorem mow212 : mC212.all (mown 12) = true := by decide +kernel
set_option maxRecDepth 100000 in
theorem mok213 : mC213.all (mchk cX12_laysWay) = true := by decide +kernel
set_option maxRecDepth 100000 in
theorem mow213 : mC213.all (mown 12) = true := by decide +kernel
set_option maxRecDepth 100000 in
theorem mok214 : mC214.all (mchk cX12_fliesIn) = true := by decide +kernel
set_option maxRecDepth 100000 in
theorem mow214 : mC214.all (mown 12) = true := by decide +kernel
set_option maxRecDepth 100000 in
theorem mok215 : mC215.all (mchk cX12_tellsAs) = true := by decide +kernel
set_option maxRecDepth 100000 in
theorem mow215 : mC215.all (mown 12) = true := by decide +kernel
set_option maxRecDepth 100000 in
theorem mok216 : mC216.all (mchk cX12_chordNow) = true := by decide +kernel
set_option maxRecDepth 100000 in
theorem mow216 : mC216.all (mown 12) = true := by decide +kernel
set_option maxRecDepth 100000 in
theorem mok217 : mC217.all (mchk cX12_goesAs) = true := by decide +kernel
set_option maxRecDepth 100000 in
theorem mow217 : mC217.all (mown 12) = true := by decide +kernel
set_option maxRecDepth 100000 in
theorem mok218 : mC218.all (mchk cX12_keepsWay) = true := by decide +kernel
set_option maxRecDepth 100000 in
theorem mow218 : mC218.all (mown 12) = true := by decide +kernel
set_option maxRecDepth 100000 in
theorem mok219 : mC219.all (mchk cX12_feeding) = true := by decide +kernel
set_option maxRecDepth 100000 in
theorem mow219 : mC219.all (mown 12) = true := by decide +kernel
set_option maxRecDepth 100000 in
theorem mok220 : mC220.all (mchk cX12_wrongBy) = true := by decide +kernel
set_option maxRecDepth 100000 in
theorem mow220 : mC220.all (mown 12) = true := by decide +kernel
set_option maxRecDepth 100000 in
theorem mok221 : mC221.all (mchk cX12_closest) = true := by decide +kernel
set_option maxRecDepth 100000 in
theorem mow221 : mC221.all (mown 12) = true := by decide +kernel
set_option maxRecDepth 100000 in
theorem mok222 : mC222.all (mchk cX12_highest) = true := by decide +kernel
set_option maxRecDepth 100000 in
theorem mow222 : mC222.all (mown 12) = true := by decide +kernel
set_option maxRecDepth 100000 in
theorem mok223 : mC223.all (mchk cX12_findThings) = true := by decide +kernel
set_option maxRecDepth 100000 in
theorem mow223 : mC223.all (mown 12) = true := by decide +kernel
set_option maxRecDepth 100000 in
theorem mok224 : mC224.all (mchk cX12_happened) = true := by decide +kernel
set_option maxRecDepth 100000 in
theorem mow224 : mC224.all (mown 12) = true := by decide +kernel
set_option maxRecDepth 100000 in
theorem mok225 : mC225.all (mchk cX12_unlikeThings) = true := by decide +kernel
set_option maxRecDepth 100000 in
theorem mow225 : mC225.all (mown 12) = true := by decide +kernel
set_option maxRecDepth 100000 in
theorem mok226 : mC226.all (mchk cX12_tellsMost) = true := by decide +kernel
set_option maxRecDepth 100000 in
theorem mow226 : mC226.all (mown 12) = true := by decide +kernel
set_option maxRecDepth 100000 in
theorem mok227 : mC227.all (mchk cX12_canMove) = true := by decide +kernel
set_option maxRecDepth 100000 in
theorem mow227 : mC227.all (mown 12) = true := by decide +kernel
set_option maxRecDepth 100000 in
theorem mok228 : mC228.all (mchk cX12_mixed) = true := by decide +kernel
set_option maxRecDepth 100000 in
theorem mow228 : mC228.all (mown 12) = true := by decide +kernel
set_option maxRecDepth 100000 in
theorem mok229 : mC229.all (mchk cX12_makesMoves) = true := by decide +kernel
set_option maxRecDepth 100000 in
theorem mow229 : mC229.all (mown 12) = true := by decide +kernel
set_option maxRecDepth 100000 in
theorem mok230 : mC230.all (mchk cX12_isNear) = true := by decide +kernel
set_option maxRecDepth 100000 in
theorem mow230 : mC230.all (mown 12) = true := by decide +kernel
set_option maxRecDepth 100000 in
theorem mok231 : mC231.all (mchk cX12_near) = true := by decide +kernel
set_option maxRecDepth 100000 in
theorem mow231 : mC231.all (mown 12) = true := by decide +kernel
set_option maxRecDepth 100000 in
theorem mok232 : mC232.all (mchk cX12_findSittings) = true := by decide +kernel
set_option maxRecDepth 100000 in
theorem mow232 : mC232.all (mown 12) = true := by decide +kernel
set_option maxRecDepth 100000 in
theorem mok233 : mC233.all (mchk cX12_read) = true := by decide +kernel
set_option maxRecDepth 100000 in
theorem mow233 : mC233.all (mown 12) = true := by decide +kernel
set_option maxRecDepth 100000 in
theorem mok234 : mC234.all (mchk cX12_bestWeight) = true := by decide +kernel
set_option maxRecDepth 100000 in
theorem mow234 : mC234.all (mown 12) = true := by decide +kernel
set_option maxRecDepth 100000 in
theorem mok235 : mC235.all (mchk cX12_wrongOn) = true := by decide +kernel
set_option maxRecDepth 100000 in
theorem mow235 : mC235.all (mown 12) = true := by decide +kernel
set_option maxRecDepth 100000 in
theorem mok236 : mC236.all (mchk cX12_bestWire) = true := by decide +kernel
set_option maxRecDepth 100000 in
theorem mow236 : mC236.all (mown 12) = true := by decide +kernel
set_option maxRecDepth 100000 in
theorem mok237 : mC237.all (mchk cX12_nextChords) = true := by decide +kernel
set_option maxRecDepth 100000 in
theorem mow237 : mC237.all (mown 12) = true := by decide +kernel
set_option maxRecDepth 100000 in
theorem mok238 : mC238.all (mchk cX12_chordBy) = true := by decide +kernel
set_option maxRecDepth 100000 in
theorem mow238 : mC238.all (mown 12) = true := by decide +kernel
set_option maxRecDepth 100000 in
theorem mok239 : mC239.all (mchk cX12_chord) = true := by decide +kernel
set_option maxRecDepth 100000 in
theorem mow239 : mC239.all (mown 12) = true := by decide +kernel
set_option maxRecDepth 100000 in
theorem mok240 : mC240.all (mchk cX12_isRowUpTo) = true := by decide +kernel
set_option maxRecDepth 100000 in
theorem mow240 : mC240.all (mown 12) = true := by decide +kernel
set_option maxRecDepth 100000 in
theorem mok241 : mC241.all (mchk cX12_plays) = true := by decide +kernel
set_option maxRecDepth 100000 in
theorem mow241 : mC241.all (mown 12) = true := by decide +kernel
set_option maxRecDepth 100000 in
theorem mok242 : mC242.all (mchk cX12_isTrain) = true := by decide +kernel
set_option maxRecDepth 100000 in
theorem mow242 : mC242.all (mown 12) = true := by decide +kernel
set_option maxRecDepth 100000 in
theorem mok243 : mC243.all (mchk cX12_trains) = true := by decide +kernel
set_option maxRecDepth 100000 in
theorem mow243 : mC243.all (mown 12) = true := by decide +kernel
set_option maxRecDepth 100000 in
theorem mok244 : mC244.all (mchk cX12_whoMoved) = true := by decide +kernel
set_option maxRecDepth 100000 in
theorem mow244 : mC244.all (mown 12) = true := by decide +kernel
set_option maxRecDepth 100000 in
theorem mok245 : mC245.all (mchk cX12_watched) = true := by decide +kernel
set_option maxRecDepth 100000 in
theorem mow245 : mC245.all (mown 12) = true := by decide +kernel
set_option maxRecDepth 100000 in
theorem mok246 : mC246.all (mchk cX12_mostAgainst) = true := by decide +kernel
set_option maxRecDepth 100000 in
theorem mow246 : mC246.all (mown 12) = true := by decide +kernel
set_option maxRecDepth 100000 in
theorem mok247 : mC247.all (mchk cX12_leastAgainst) = true := by decide +kernel
set_option maxRecDepth 100000 in
theorem mow247 : mC247.all (mown 12) = true := by decide +kernel
set_option maxRecDepth 100000 in
theorem mok248 : mC248.all (mchk cX12_watch) = true := by decide +kernel
set_option maxRecDepth 100000 in
theorem mow248 : mC248.all (mown 12) = true := by decide +kernel
set_option maxRecDepth 100000 in
theorem mok249 : mC249.all (mchk cX12_middleOf) = true := by decide +kernel
set_option maxRecDepth 100000 in
theorem mow249 : mC249.all (mown 12) = true := by decide +kernel
set_option maxRecDepth 100000 in
theorem mok250 : mC250.all (mchk cX12_thinksOn) = true := by decide +kernel
set_option maxRecDepth 100000 in
theorem mow250 : mC250.all (mown 12) = true := by decide +kernel
set_option maxRecDepth 100000 in
theorem mok251 : mC251.all (mchk cX12_winter) = true := by decide +kernel
set_option maxRecDepth 100000 in
theorem mow251 : mC251.all (mown 12) = true := by decide +kernel
set_option maxRecDepth 100000 in
theorem mok252 : mC252.all (mchk cX12_settled) = true := by decide +kernel
set_option maxRecDepth 100000 in
theorem mow252 : mC252.all (mown 12) = true := by decide +kernel
set_option maxRecDepth 100000 in
theorem mok253 : mC253.all (mchk cX12_sitAsThen) = true := by decide +kernel
set_option maxRecDepth 100000 in
theorem mow253 : mC253.all (mown 12) = true := by decide +kernel
set_option maxRecDepth 100000 in
theorem mok254 : mC254.all (mchk cX12_round) = true := by decide +kernel
set_option maxRecDepth 100000 in
theorem mow254 : mC254.all (mown 12) = true := by decide +kernel
set_option maxRecDepth 100000 in
theorem mok255 : mC255.all (mchk cX12_always) = true := by decide +kernel
set_option maxRecDepth 100000 in
theorem mow255 : mC255.all (mown 12) = true := by decide +kernel
set_option maxRecDepth 100000 in
theorem mok256 : mC256.all (mchk cX12_catWorth) = true := by decide +kernel
set_option maxRecDepth 100000 in
theorem mow256 : mC256.all (mown 12) = true := by decide +kernel
set_option maxRecDepth 100000 in
theorem mok257 : mC257.all (mchk cX12_bits) = true := by decide +kernel
set_option maxRecDepth 100000 in
theorem mow257 : mC257.all (mown 12) = true := by decide +kernel
set_option maxRecDepth 100000 in
theorem mok258 : mC258.all (mchk cX12_movesTo) = true := by decide +kernel
set_option maxRecDepth 100000 in
theorem mow258 : mC258.all (mown 12) = true := by decide +kernel
set_option maxRecDepth 100000 in
theorem mok259 : mC259.all (mchk cX12_evenBy) = true := by decide +kernel
set_option maxRecDepth 100000 in
theorem mow259 : mC259.all (mown 12) = true := by decide +kernel
set_option maxRecDepth 100000 in
theorem mok260 : mC260.all (mchk cX12_spread) = true := by decide +kernel
set_option maxRecDepth 100000 in
theorem mow260 : mC260.all (mown 12) = true := by decide +kernel
set_option maxRecDepth 100000 in
theorem mok261 : mC261.all (mchk cX12_later) = true := by decide +kernel
set_option maxRecDepth 100000 in
theorem mow261 : mC261.all (mown 12) = true := by decide +kernel
set_option maxRecDepth 100000 in
theorem mok262 : mC262.all (mchk cX12_stayed) = true := by decide +kernel
set_option maxRecDepth 100000 in
theorem mow262 : mC262.all (mown 12) = true := by decide +kernel
set_option maxRecDepth 100000 in
theorem mok263 : mC263.all (mchk cX12_endsAs) = true := by decide +kernel
set_option maxRecDepth 100000 in
theorem mow263 : mC263.all (mown 12) = true := by decide +kernel
set_option maxRecDepth 100000 in
theorem mok264 : mC264.all (mchk cX12_hoursTill) = true := by decide +kernel
set_option maxRecDepth 100000 in
theorem mow264 : mC264.all (mown 12) = true := by decide +kernel
set_option maxRecDepth 100000 in
theorem mok265 : mC265.all (mchk cX12_lured) = true := by decide +kernel
set_option maxRecDepth 100000 in
theorem mow265 : mC265.all (mown 12) = true := by decide +kernel
set_option maxRecDepth 100000 in
theorem mok266 : mC266.all (mchk cX12_right) = true := by decide +kernel
set_option maxRecDepth 100000 in
theorem mow266 : mC266.all (mown 12) = true := by decide +kernel
set_option maxRecDepth 100000 in
theorem mok267 : mC267.all (mchk cX12_worstBird) = true := by decide +kernel
set_option maxRecDepth 100000 in
theorem mow267 : mC267.all (mown 12) = true := by decide +kernel
set_option maxRecDepth 100000 in
theorem mok268 : mC268.all (mchk cX12_gather) = true := by decide +kernel
set_option maxRecDepth 100000 in
theorem mow268 : mC268.all (mown 12) = true := by decide +kernel
set_option maxRecDepth 100000 in
theorem mok269 : mC269.all (mchk cX12_row) = true := by decide +kernel
set_option maxRecDepth 100000 in
theorem mow269 : mC269.all (mown 12) = true := by decide +kernel
set_option maxRecDepth 100000 in
theorem mok270 : mC270.all (mchk cX12_judge) = true := by decide +kernel
set_option maxRecDepth 100000 in
theorem mow270 : mC270.all (mown 12) = true := by decide +kernel
set_option maxRecDepth 100000 in
theorem mok271 : mC271.all (mchk cX12_clear) = true := by decide +kernel
set_option maxRecDepth 100000 in
theorem mow271 : mC271.all (mown 12) = true := by decide +kernel
set_option maxRecDepth 100000 in
theorem mok272 : mC272.all (mchk cX12_lots) = true := by decide +kernel
set_option maxRecDepth 100000 in
theorem mow272 : mC272.all (mown 12) = true := by decide +kernel
set_option maxRecDepth 100000 in
theorem mok273 : mC273.all (mchk cX12_count) = true := by decide +kernel
set_option maxRecDepth 100000 in
theorem mow273 : mC273.all (mown 12) = true := by decide +kernel
set_option maxRecDepth 100000 in
theorem mokL0 : mCL0.all (mchk code) = true := by decide +kernel
set_option maxRecDepth 100000 in
theorem mokL1 : mCL1.all (mchk code) = true := by decide +kernel
set_option maxRecDepth 100000 in
theorem mokL2 : mCL2.all (mchk code) = true := by decide +kernel
set_option maxRecDepth 100000 in
theorem mokL3 : mCL3.all (mchk code) = true := by decide +kernel
set_option maxRecDepth 100000 in
theorem mokL4 : mCL4.all (mchk code) = true := by decide +kernel
set_option maxRecDepth 100000 in
theorem mokL5 : mCL5.all (mchk code) = true := by decide +kernel
set_option maxRecDepth 100000 in
theorem mokL6 : mCL6.all (mchk code) = true := by decide +kernel
set_option maxRecDepth 100000 in
theorem mokL7 : mCL7.all (mchk code) = true := by decide +kernel
set_option maxRecDepth 100000 in
theorem mokL8 : mCL8.all (mchk code) = true := by decide +kernel
set_option maxRecDepth 100000 in
theorem mokL9 : mCL9.all (mchk code) = true := by decide +kernel
set_option maxRecDepth 100000 in
theorem mokL10 : mCL10.all (mchk code) = true := by decide +kernel
set_option maxRecDepth 100000 in
theorem mokL11 : mCL11.all (mchk code) = true := by decide +kernel
set_option maxRecDepth 100000 in
theorem mokL12 : mCL12.all (mchk code) = true := by decide +kernel
set_option maxRecDepth 100000 in
theorem mokL13 : mCL13.all (mchk code) = true := by decide +kernel
set_option maxRecDepth 100000 in
theorem mokL14 : mCL14.all (mchk code) = true := by decide +kernel
set_option maxRecDepth 100000 in
theorem mokL15 : mCL15.all (mchk code) = true := by decide +kernel
theorem mok274 : mC274.all (mchk code) = true := by
  unfold mC274
  simp only [List.all_append, mokL0, mokL1, mokL2, mokL3, mokL4, mokL5, mokL6, mokL7, mokL8, mokL9, mokL10, mokL11, mokL12, mokL13, mokL14, mokL15, Bool.and_self]
set_option maxRecDepth 100000 in
theorem mow274 : mC274.all (mown 18) = true := by decide +kernel
theorem mcode_all : ∀ y, y < 275 → (mCd y).all (mchk (mB y)) = true ∧ (mCd y).all (mown (mCno y)) = true := by
  intro y hy
  match y, hy with
  | 0, _ => exact ⟨mok0, mow0⟩
  | 1, _ => exact ⟨mok1, mow1⟩
  | 2, _ => exact ⟨mok2, mow2⟩
  | 3, _ => exact ⟨mok3, mow3⟩
  | 4, _ => exact ⟨mok4, mow4⟩
  | 5, _ => exact ⟨mok5, mow5⟩
  | 6, _ => exact ⟨mok6, mow6⟩
  | 7, _ => exact ⟨mok7, mow7⟩
  | 8, _ => exact ⟨mok8, mow8⟩
  | 9, _ => exact ⟨mok9, mow9⟩
  | 10, _ => exact ⟨mok10, mow10⟩
  | 11, _ => exact ⟨mok11, mow11⟩
  | 12, _ => exact ⟨mok12, mow12⟩
  | 13, _ => exact ⟨mok13, mow13⟩
  | 14, _ => exact ⟨mok14, mow14⟩
  | 15, _ => exact ⟨mok15, mow15⟩
  | 16, _ => exact ⟨mok16, mow16⟩
  | 17, _ => exact ⟨mok17, mow17⟩
  | 18, _ => exact ⟨mok18, mow18⟩
  | 19, _ => exact ⟨mok19, mow19⟩
  | 20, _ => exact ⟨mok20, mow20⟩
  | 21, _ => exact ⟨mok21, mow21⟩
  | 22, _ => exact ⟨mok22, mow22⟩
  | 23, _ => exact ⟨mok23, mow23⟩
  | 24, _ => exact ⟨mok24, mow24⟩
  | 25, _ => exact ⟨mok25, mow25⟩
  | 26, _ => exact ⟨mok26, mow26⟩
  | 27, _ => exact ⟨mok27, mow27⟩
  | 28, _ => exact ⟨mok28, mow28⟩
  | 29, _ => exact ⟨mok29, mow29⟩
  | 30, _ => exact ⟨mok30, mow30⟩
  | 31, _ => exact ⟨mok31, mow31⟩
  | 32, _ => exact ⟨mok32, mow32⟩
  | 33, _ => exact ⟨mok33, mow33⟩
  | 34, _ => exact ⟨mok34, mow34⟩
  | 35, _ => exact ⟨mok35, mow35⟩
  | 36, _ => exact ⟨mok36, mow36⟩
  | 37, _ => exact ⟨mok37, mow37⟩
  | 38, _ => exact ⟨mok38, mow38⟩
  | 39, _ => exact ⟨mok39, mow39⟩
  | 40, _ => exact ⟨mok40, mow40⟩
  | 41, _ => exact ⟨mok41, mow41⟩
  | 42, _ => exact ⟨mok42, mow42⟩
  | 43, _ => exact ⟨mok43, mow43⟩
  | 44, _ => exact ⟨mok44, mow44⟩
  | 45, _ => exact ⟨mok45, mow45⟩
  | 46, _ => exact ⟨mok46, mow46⟩
  | 47, _ => exact ⟨mok47, mow47⟩
  | 48, _ => exact ⟨mok48, mow48⟩
  | 49, _ => exact ⟨mok49, mow49⟩
  | 50, _ => exact ⟨mok50, mow50⟩
  | 51, _ => exact ⟨mok51, mow51⟩
  | 52, _ => exact ⟨mok52, mow52⟩
  | 53, _ => exact ⟨mok53, mow53⟩
  | 54, _ => exact ⟨mok54, mow54⟩
  | 55, _ => exact ⟨mok55, mow55⟩
  | 56, _ => exact ⟨mok56, mow56⟩
  | 57, _ => exact ⟨mok57, mow57⟩
  | 58, _ => exact ⟨mok58, mow58⟩
  | 59, _ => exact ⟨mok59, mow59⟩
  | 60, _ => exact ⟨mok60, mow60⟩
  | 61, _ => exact ⟨mok61, mow61⟩
  | 62, _ => exact ⟨mok62, mow62⟩
  | 63, _ => exact ⟨mok63, mow63⟩
  | 64, _ => exact ⟨mok64, mow64⟩
  | 65, _ => exact ⟨mok65, mow65⟩
  | 66, _ => exact ⟨mok66, mow66⟩
  | 67, _ => exact ⟨mok67, mow67⟩
  | 68, _ => exact ⟨mok68, mow68⟩
  | 69, _ => exact ⟨mok69, mow69⟩
  | 70, _ => exact ⟨mok70, mow70⟩
  | 71, _ => exact ⟨mok71, mow71⟩
  | 72, _ => exact ⟨mok72, mow72⟩
  | 73, _ => exact ⟨mok73, mow73⟩
  | 74, _ => exact ⟨mok74, mow74⟩
  | 75, _ => exact ⟨mok75, mow75⟩
  | 76, _ => exact ⟨mok76, mow76⟩
  | 77, _ => exact ⟨mok77, mow77⟩
  | 78, _ => exact ⟨mok78, mow78⟩
  | 79, _ => exact ⟨mok79, mow79⟩
  | 80, _ => exact ⟨mok80, mow80⟩
  | 81, _ => exact ⟨mok81, mow81⟩
  | 82, _ => exact ⟨mok82, mow82⟩
  | 83, _ => exact ⟨mok83, mow83⟩
  | 84, _ => exact ⟨mok84, mow84⟩
  | 85, _ => exact ⟨mok85, mow85⟩
  | 86, _ => exact ⟨mok86, mow86⟩
  | 87, _ => exact ⟨mok87, mow87⟩
  | 88, _ => exact ⟨mok88, mow88⟩
  | 89, _ => exact ⟨mok89, mow89⟩
  | 90, _ => exact ⟨mok90, mow90⟩
  | 91, _ => exact ⟨mok91, mow91⟩
  | 92, _ => exact ⟨mok92, mow92⟩
  | 93, _ => exact ⟨mok93, mow93⟩
  | 94, _ => exact ⟨mok94, mow94⟩
  | 95, _ => exact ⟨mok95, mow95⟩
  | 96, _ => exact ⟨mok96, mow96⟩
  | 97, _ => exact ⟨mok97, mow97⟩
  | 98, _ => exact ⟨mok98, mow98⟩
  | 99, _ => exact ⟨mok99, mow99⟩
  | 100, _ => exact ⟨mok100, mow100⟩
  | 101, _ => exact ⟨mok101, mow101⟩
  | 102, _ => exact ⟨mok102, mow102⟩
  | 103, _ => exact ⟨mok103, mow103⟩
  | 104, _ => exact ⟨mok104, mow104⟩
  | 105, _ => exact ⟨mok105, mow105⟩
  | 106, _ => exact ⟨mok106, mow106⟩
  | 107, _ => exact ⟨mok107, mow107⟩
  | 108, _ => exact ⟨mok108, mow108⟩
  | 109, _ => exact ⟨mok109, mow109⟩
  | 110, _ => exact ⟨mok110, mow110⟩
  | 111, _ => exact ⟨mok111, mow111⟩
  | 112, _ => exact ⟨mok112, mow112⟩
  | 113, _ => exact ⟨mok113, mow113⟩
  | 114, _ => exact ⟨mok114, mow114⟩
  | 115, _ => exact ⟨mok115, mow115⟩
  | 116, _ => exact ⟨mok116, mow116⟩
  | 117, _ => exact ⟨mok117, mow117⟩
  | 118, _ => exact ⟨mok118, mow118⟩
  | 119, _ => exact ⟨mok119, mow119⟩
  | 120, _ => exact ⟨mok120, mow120⟩
  | 121, _ => exact ⟨mok121, mow121⟩
  | 122, _ => exact ⟨mok122, mow122⟩
  | 123, _ => exact ⟨mok123, mow123⟩
  | 124, _ => exact ⟨mok124, mow124⟩
  | 125, _ => exact ⟨mok125, mow125⟩
  | 126, _ => exact ⟨mok126, mow126⟩
  | 127, _ => exact ⟨mok127, mow127⟩
  | 128, _ => exact ⟨mok128, mow128⟩
  | 129, _ => exact ⟨mok129, mow129⟩
  | 130, _ => exact ⟨mok130, mow130⟩
  | 131, _ => exact ⟨mok131, mow131⟩
  | 132, _ => exact ⟨mok132, mow132⟩
  | 133, _ => exact ⟨mok133, mow133⟩
  | 134, _ => exact ⟨mok134, mow134⟩
  | 135, _ => exact ⟨mok135, mow135⟩
  | 136, _ => exact ⟨mok136, mow136⟩
  | 137, _ => exact ⟨mok137, mow137⟩
  | 138, _ => exact ⟨mok138, mow138⟩
  | 139, _ => exact ⟨mok139, mow139⟩
  | 140, _ => exact ⟨mok140, mow140⟩
  | 141, _ => exact ⟨mok141, mow141⟩
  | 142, _ => exact ⟨mok142, mow142⟩
  | 143, _ => exact ⟨mok143, mow143⟩
  | 144, _ => exact ⟨mok144, mow144⟩
  | 145, _ => exact ⟨mok145, mow145⟩
  | 146, _ => exact ⟨mok146, mow146⟩
  | 147, _ => exact ⟨mok147, mow147⟩
  | 148, _ => exact ⟨mok148, mow148⟩
  | 149, _ => exact ⟨mok149, mow149⟩
  | 150, _ => exact ⟨mok150, mow150⟩
  | 151, _ => exact ⟨mok151, mow151⟩
  | 152, _ => exact ⟨mok152, mow152⟩
  | 153, _ => exact ⟨mok153, mow153⟩
  | 154, _ => exact ⟨mok154, mow154⟩
  | 155, _ => exact ⟨mok155, mow155⟩
  | 156, _ => exact ⟨mok156, mow156⟩
  | 157, _ => exact ⟨mok157, mow157⟩
  | 158, _ => exact ⟨mok158, mow158⟩
  | 159, _ => exact ⟨mok159, mow159⟩
  | 160, _ => exact ⟨mok160, mow160⟩
  | 161, _ => exact ⟨mok161, mow161⟩
  | 162, _ => exact ⟨mok162, mow162⟩
  | 163, _ => exact ⟨mok163, mow163⟩
  | 164, _ => exact ⟨mok164, mow164⟩
  | 165, _ => exact ⟨mok165, mow165⟩
  | 166, _ => exact ⟨mok166, mow166⟩
  | 167, _ => exact ⟨mok167, mow167⟩
  | 168, _ => exact ⟨mok168, mow168⟩
  | 169, _ => exact ⟨mok169, mow169⟩
  | 170, _ => exact ⟨mok170, mow170⟩
  | 171, _ => exact ⟨mok171, mow171⟩
  | 172, _ => exact ⟨mok172, mow172⟩
  | 173, _ => exact ⟨mok173, mow173⟩
  | 174, _ => exact ⟨mok174, mow174⟩
  | 175, _ => exact ⟨mok175, mow175⟩
  | 176, _ => exact ⟨mok176, mow176⟩
  | 177, _ => exact ⟨mok177, mow177⟩
  | 178, _ => exact ⟨mok178, mow178⟩
  | 179, _ => exact ⟨mok179, mow179⟩
  | 180, _ => exact ⟨mok180, mow180⟩
  | 181, _ => exact ⟨mok181, mow181⟩
  | 182, _ => exact ⟨mok182, mow182⟩
  | 183, _ => exact ⟨mok183, mow183⟩
  | 184, _ => exact ⟨mok184, mow184⟩
  | 185, _ => exact ⟨mok185, mow185⟩
  | 186, _ => exact ⟨mok186, mow186⟩
  | 187, _ => exact ⟨mok187, mow187⟩
  | 188, _ => exact ⟨mok188, mow188⟩
  | 189, _ => exact ⟨mok189, mow189⟩
  | 190, _ => exact ⟨mok190, mow190⟩
  | 191, _ => exact ⟨mok191, mow191⟩
  | 192, _ => exact ⟨mok192, mow192⟩
  | 193, _ => exact ⟨mok193, mow193⟩
  | 194, _ => exact ⟨mok194, mow194⟩
  | 195, _ => exact ⟨mok195, mow195⟩
  | 196, _ => exact ⟨mok196, mow196⟩
  | 197, _ => exact ⟨mok197, mow197⟩
  | 198, _ => exact ⟨mok198, mow198⟩
  | 199, _ => exact ⟨mok199, mow199⟩
  | 200, _ => exact ⟨mok200, mow200⟩
  | 201, _ => exact ⟨mok201, mow201⟩
  | 202, _ => exact ⟨mok202, mow202⟩
  | 203, _ => exact ⟨mok203, mow203⟩
  | 204, _ => exact ⟨mok204, mow204⟩
  | 205, _ => exact ⟨mok205, mow205⟩
  | 206, _ => exact ⟨mok206, mow206⟩
  | 207, _ => exact ⟨mok207, mow207⟩
  | 208, _ => exact ⟨mok208, mow208⟩
  | 209, _ => exact ⟨mok209, mow209⟩
  | 210, _ => exact ⟨mok210, mow210⟩
  | 211, _ => exact ⟨mok211, mow211⟩
  | 212, _ => exact ⟨mok212, mow212⟩
  | 213, _ => exact ⟨mok213, mow213⟩
  | 214, _ => exact ⟨mok214, mow214⟩
  | 215, _ => exact ⟨mok215, mow215⟩
  | 216, _ => exact ⟨mok216, mow216⟩
  | 217, _ => exact ⟨mok217, mow217⟩
  | 218, _ => exact ⟨mok218, mow218⟩
  | 219, _ => exact ⟨mok219, mow219⟩
  | 220, _ => exact ⟨mok220, mow220⟩
  | 221, _ => exact ⟨mok221, mow221⟩
  | 222, _ => exact ⟨mok222, mow222⟩
  | 223, _ => exact ⟨mok223, mow223⟩
  | 224, _ => exact ⟨mok224, mow224⟩
  | 225, _ => exact ⟨mok225, mow225⟩
  | 226, _ => exact ⟨mok226, mow226⟩
  | 227, _ => exact ⟨mok227, mow227⟩
  | 228, _ => exact ⟨mok228, mow228⟩
  | 229, _ => exact ⟨mok229, mow229⟩
  | 230, _ => exact ⟨mok230, mow230⟩
  | 231, _ => exact ⟨mok231, mow231⟩
  | 232, _ => exact ⟨mok232, mow232⟩
  | 233, _ => exact ⟨mok233, mow233⟩
  | 234, _ => exact ⟨mok234, mow234⟩
  | 235, _ => exact ⟨mok235, mow235⟩
  | 236, _ => exact ⟨mok236, mow236⟩
  | 237, _ => exact ⟨mok237, mow237⟩
  | 238, _ => exact ⟨mok238, mow238⟩
  | 239, _ => exact ⟨mok239, mow239⟩
  | 240, _ => exact ⟨mok240, mow240⟩
  | 241, _ => exact ⟨mok241, mow241⟩
  | 242, _ => exact ⟨mok242, mow242⟩
  | 243, _ => exact ⟨mok243, mow243⟩
  | 244, _ => exact ⟨mok244, mow244⟩
  | 245, _ => exact ⟨mok245, mow245⟩
  | 246, _ => exact ⟨mok246, mow246⟩
  | 247, _ => exact ⟨mok247, mow247⟩
  | 248, _ => exact ⟨mok248, mow248⟩
  | 249, _ => exact ⟨mok249, mow249⟩
  | 250, _ => exact ⟨mok250, mow250⟩
  | 251, _ => exact ⟨mok251, mow251⟩
  | 252, _ => exact ⟨mok252, mow252⟩
  | 253, _ => exact ⟨mok253, mow253⟩
  | 254, _ => exact ⟨mok254, mow254⟩
  | 255, _ => exact ⟨mok255, mow255⟩
  | 256, _ => exact ⟨mok256, mow256⟩
  | 257, _ => exact ⟨mok257, mow257⟩
  | 258, _ => exact ⟨mok258, mow258⟩
  | 259, _ => exact ⟨mok259, mow259⟩
  | 260, _ => exact ⟨mok260, mow260⟩
  | 261, _ => exact ⟨mok261, mow261⟩
  | 262, _ => exact ⟨mok262, mow262⟩
  | 263, _ => exact ⟨mok263, mow263⟩
  | 264, _ => exact ⟨mok264, mow264⟩
  | 265, _ => exact ⟨mok265, mow265⟩
  | 266, _ => exact ⟨mok266, mow266⟩
  | 267, _ => exact ⟨mok267, mow267⟩
  | 268, _ => exact ⟨mok268, mow268⟩
  | 269, _ => exact ⟨mok269, mow269⟩
  | 270, _ => exact ⟨mok270, mow270⟩
  | 271, _ => exact ⟨mok271, mow271⟩
  | 272, _ => exact ⟨mok272, mow272⟩
  | 273, _ => exact ⟨mok273, mow273⟩
  | 274, _ => exact ⟨mok274, mow274⟩
  | n + 275, h => exact absurd h (by omega)

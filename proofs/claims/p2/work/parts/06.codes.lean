def mchk (cc : ByteArray) (q : mIt) : Bool := decide (decode cc q.1 = .ok (mraw q.2.1 q.2.2.1 q.2.2.2.1 q.2.2.2.2, mlen q.2.1 q.2.2.1 q.2.2.2.2))
/-- a site belongs to its method's class -/
def mown (c : Nat) (q : mIt) : Bool := match q with
  | (_, g, op, a, b) => match g with
    | 2 => match op with
      | 0 => match mFS[a]? with | some z => z.1 == c | none => false
      | 1 => match mFS[a]? with | some z => z.1 == c | none => false
      | 6 => match mNS[a]? with | some z => z.1 == c && z.2.2.1 == 0 | none => false
      | 8 => match mNS[a]? with | some z => z.1 == c && z.2.2.1 == 1 | none => false
      | 9 => match mNS[a]? with | some z => z.1 == c && z.2.2.1 == 2 && b == 2 | none => false
      | _ => true
    | 4 => match op with
      | 0 => match mVS[a]? with | some z => z.1 == c | none => false
      | 1 => match mSS[a]? with | some z => z.1 == c && decide (z.2.2.2.1 < 2) | none => false
      | _ => match mIS[a]? with | some z => z.1 == c && decide (z.2.2.2.1 < 2) | none => false
    | 5 => match op with
      | 0 => match mSS[a]? with | some z => z.1 == c && z.2.2.2.1 == 2 | none => false
      | 2 => match mSS[a]? with | some z => z.1 == c && z.2.2.2.1 == 3 | none => false
      | 3 => match mSS[a]? with | some z => z.1 == c && z.2.2.2.1 == 4 | none => false
      | 4 => match mSS[a]? with | some z => z.1 == c && z.2.2.2.1 == 5 | none => false
      | _ => match mIS[a]? with | some z => z.1 == c && z.2.2.2.1 == 2 | none => false
    | 6 => match mKS[a]? with
      | some z => z.1 == c && (match op with | 0 => !z.2.2.1 | 1 => !z.2.2.1 | _ => z.2.2.1)
      | none => false
    | _ => true
set_option maxRecDepth 100000 in
theorem mok0 : mC0.all (mchk cJ6_bitCount_0f7a4) = true := by decide +kernel
set_option maxRecDepth 100000 in
theorem mow0 : mC0.all (mown 13) = true := by decide +kernel
set_option maxRecDepth 100000 in
theorem mok1 : mC1.all (mchk cJ7_fill_53178) = true := by decide +kernel
set_option maxRecDepth 100000 in
theorem mow1 : mC1.all (mown 17) = true := by decide +kernel
set_option maxRecDepth 100000 in
theorem mok2 : mC2.all (mchk cJ9_floorMod_7cf53) = true := by decide +kernel
set_option maxRecDepth 100000 in
theorem mow2 : mC2.all (mown 15) = true := by decide +kernel
set_option maxRecDepth 100000 in
theorem mok3 : mC3.all (mchk cJ9_abs_0f7a4) = true := by decide +kernel
set_option maxRecDepth 100000 in
theorem mow3 : mC3.all (mown 15) = true := by decide +kernel
set_option maxRecDepth 100000 in
theorem mok4 : mC4.all (mchk cJ9_max_7cf53) = true := by decide +kernel
set_option maxRecDepth 100000 in
theorem mow4 : mC4.all (mown 15) = true := by decide +kernel
set_option maxRecDepth 100000 in
theorem mok5 : mC5.all (mchk cJ9_min_7cf53) = true := by decide +kernel
set_option maxRecDepth 100000 in
theorem mow5 : mC5.all (mown 15) = true := by decide +kernel
set_option maxRecDepth 100000 in
theorem mok6 : mC6.all (mchk cJ13_bitCount_95d88) = true := by decide +kernel
set_option maxRecDepth 100000 in
theorem mow6 : mC6.all (mown 14) = true := by decide +kernel
set_option maxRecDepth 100000 in
theorem mok7 : mC7.all (mchk cX0_init) = true := by decide +kernel
set_option maxRecDepth 100000 in
theorem mow7 : mC7.all (mown 0) = true := by decide +kernel
set_option maxRecDepth 100000 in
theorem mok8 : mC8.all (mchk cX0_opens) = true := by decide +kernel
set_option maxRecDepth 100000 in
theorem mow8 : mC8.all (mown 0) = true := by decide +kernel
set_option maxRecDepth 100000 in
theorem mok9 : mC9.all (mchk cX1_init) = true := by decide +kernel
set_option maxRecDepth 100000 in
theorem mow9 : mC9.all (mown 1) = true := by decide +kernel
set_option maxRecDepth 100000 in
theorem mok10 : mC10.all (mchk cX1_opens) = true := by decide +kernel
set_option maxRecDepth 100000 in
theorem mow10 : mC10.all (mown 1) = true := by decide +kernel
set_option maxRecDepth 100000 in
theorem mok11 : mC11.all (mchk cX2_init) = true := by decide +kernel
set_option maxRecDepth 100000 in
theorem mow11 : mC11.all (mown 2) = true := by decide +kernel
set_option maxRecDepth 100000 in
theorem mok12 : mC12.all (mchk cX2_become) = true := by decide +kernel
set_option maxRecDepth 100000 in
theorem mow12 : mC12.all (mown 2) = true := by decide +kernel
set_option maxRecDepth 100000 in
theorem mok13 : mC13.all (mchk cX2_sitAs) = true := by decide +kernel
set_option maxRecDepth 100000 in
theorem mow13 : mC13.all (mown 2) = true := by decide +kernel
set_option maxRecDepth 100000 in
theorem mok14 : mC14.all (mchk cX2_sitsAs) = true := by decide +kernel
set_option maxRecDepth 100000 in
theorem mow14 : mC14.all (mown 2) = true := by decide +kernel
set_option maxRecDepth 100000 in
theorem mok15 : mC15.all (mchk cX2_isWire) = true := by decide +kernel
set_option maxRecDepth 100000 in
theorem mow15 : mC15.all (mown 2) = true := by decide +kernel
set_option maxRecDepth 100000 in
theorem mok16 : mC16.all (mchk cX2_isBird) = true := by decide +kernel
set_option maxRecDepth 100000 in
theorem mow16 : mC16.all (mown 2) = true := by decide +kernel
set_option maxRecDepth 100000 in
theorem mok17 : mC17.all (mchk cX2_hasRoom) = true := by decide +kernel
set_option maxRecDepth 100000 in
theorem mow17 : mC17.all (mown 2) = true := by decide +kernel
set_option maxRecDepth 100000 in
theorem mok18 : mC18.all (mchk cX2_add) = true := by decide +kernel
set_option maxRecDepth 100000 in
theorem mow18 : mC18.all (mown 2) = true := by decide +kernel
set_option maxRecDepth 100000 in
theorem mok19 : mC19.all (mchk cX2_shift) = true := by decide +kernel
set_option maxRecDepth 100000 in
theorem mow19 : mC19.all (mown 2) = true := by decide +kernel
set_option maxRecDepth 100000 in
theorem mok20 : mC20.all (mchk cX2_go) = true := by decide +kernel
set_option maxRecDepth 100000 in
theorem mow20 : mC20.all (mown 2) = true := by decide +kernel
set_option maxRecDepth 100000 in
theorem mok21 : mC21.all (mchk cX2_hang) = true := by decide +kernel
set_option maxRecDepth 100000 in
theorem mow21 : mC21.all (mown 2) = true := by decide +kernel
set_option maxRecDepth 100000 in
theorem mok22 : mC22.all (mchk cX2_shows) = true := by decide +kernel
set_option maxRecDepth 100000 in
theorem mow22 : mC22.all (mown 2) = true := by decide +kernel
set_option maxRecDepth 100000 in
theorem mok23 : mC23.all (mchk cX2_errs) = true := by decide +kernel
set_option maxRecDepth 100000 in
theorem mow23 : mC23.all (mown 2) = true := by decide +kernel
set_option maxRecDepth 100000 in
theorem mok24 : mC24.all (mchk cX2_satOn) = true := by decide +kernel
set_option maxRecDepth 100000 in
theorem mow24 : mC24.all (mown 2) = true := by decide +kernel
set_option maxRecDepth 100000 in
theorem mok25 : mC25.all (mchk cX2_pass) = true := by decide +kernel
set_option maxRecDepth 100000 in
theorem mow25 : mC25.all (mown 2) = true := by decide +kernel
set_option maxRecDepth 100000 in
theorem mok26 : mC26.all (mchk cX2_wanted) = true := by decide +kernel
set_option maxRecDepth 100000 in
theorem mow26 : mC26.all (mown 2) = true := by decide +kernel
set_option maxRecDepth 100000 in
theorem mok27 : mC27.all (mchk cX2_nearer) = true := by decide +kernel
set_option maxRecDepth 100000 in
theorem mow27 : mC27.all (mown 2) = true := by decide +kernel
set_option maxRecDepth 100000 in
theorem mok28 : mC28.all (mchk cX2_wantedYoung) = true := by decide +kernel
set_option maxRecDepth 100000 in
theorem mow28 : mC28.all (mown 2) = true := by decide +kernel
set_option maxRecDepth 100000 in
theorem mok29 : mC29.all (mchk cX2_wantedOld) = true := by decide +kernel
set_option maxRecDepth 100000 in
theorem mow29 : mC29.all (mown 2) = true := by decide +kernel
set_option maxRecDepth 100000 in
theorem mok30 : mC30.all (mchk cX2_reaches) = true := by decide +kernel
set_option maxRecDepth 100000 in
theorem mow30 : mC30.all (mown 2) = true := by decide +kernel
set_option maxRecDepth 100000 in
theorem mok31 : mC31.all (mchk cX2_undergo) = true := by decide +kernel
set_option maxRecDepth 100000 in
theorem mow31 : mC31.all (mown 2) = true := by decide +kernel
set_option maxRecDepth 100000 in
theorem mok32 : mC32.all (mchk cX2_scare) = true := by decide +kernel
set_option maxRecDepth 100000 in
theorem mow32 : mC32.all (mown 2) = true := by decide +kernel
set_option maxRecDepth 100000 in
theorem mok33 : mC33.all (mchk cX2_refuge) = true := by decide +kernel
set_option maxRecDepth 100000 in
theorem mow33 : mC33.all (mown 2) = true := by decide +kernel
set_option maxRecDepth 100000 in
theorem mok34 : mC34.all (mchk cX2_driveUp) = true := by decide +kernel
set_option maxRecDepth 100000 in
theorem mow34 : mC34.all (mown 2) = true := by decide +kernel
set_option maxRecDepth 100000 in
theorem mok35 : mC35.all (mchk cX2_driveDown) = true := by decide +kernel
set_option maxRecDepth 100000 in
theorem mow35 : mC35.all (mown 2) = true := by decide +kernel
set_option maxRecDepth 100000 in
theorem mok36 : mC36.all (mchk cX3_init) = true := by decide +kernel
set_option maxRecDepth 100000 in
theorem mow36 : mC36.all (mown 3) = true := by decide +kernel
set_option maxRecDepth 100000 in
theorem mok37 : mC37.all (mchk cX3_opens) = true := by decide +kernel
set_option maxRecDepth 100000 in
theorem mow37 : mC37.all (mown 3) = true := by decide +kernel
set_option maxRecDepth 100000 in
theorem mok38 : mC38.all (mchk cX4_init) = true := by decide +kernel
set_option maxRecDepth 100000 in
theorem mow38 : mC38.all (mown 4) = true := by decide +kernel
set_option maxRecDepth 100000 in
theorem mok39 : mC39.all (mchk cX4_opens) = true := by decide +kernel
set_option maxRecDepth 100000 in
theorem mow39 : mC39.all (mown 4) = true := by decide +kernel
set_option maxRecDepth 100000 in
theorem mok40 : mC40.all (mchk cX5_init) = true := by decide +kernel
set_option maxRecDepth 100000 in
theorem mow40 : mC40.all (mown 5) = true := by decide +kernel
set_option maxRecDepth 100000 in
theorem mok41 : mC41.all (mchk cX5_opens) = true := by decide +kernel
set_option maxRecDepth 100000 in
theorem mow41 : mC41.all (mown 5) = true := by decide +kernel
set_option maxRecDepth 100000 in
theorem mok42 : mC42.all (mchk cX6_init) = true := by decide +kernel
set_option maxRecDepth 100000 in
theorem mow42 : mC42.all (mown 6) = true := by decide +kernel
set_option maxRecDepth 100000 in
theorem mok43 : mC43.all (mchk cX6_opens) = true := by decide +kernel
set_option maxRecDepth 100000 in
theorem mow43 : mC43.all (mown 6) = true := by decide +kernel
set_option maxRecDepth 100000 in
theorem mok44 : mC44.all (mchk cX6_note) = true := by decide +kernel
set_option maxRecDepth 100000 in
theorem mow44 : mC44.all (mown 6) = true := by decide +kernel
set_option maxRecDepth 100000 in
theorem mok45 : mC45.all (mchk cX7_init) = true := by decide +kernel
set_option maxRecDepth 100000 in
theorem mow45 : mC45.all (mown 7) = true := by decide +kernel
set_option maxRecDepth 100000 in
theorem mok46 : mC46.all (mchk cX7_forget) = true := by decide +kernel
set_option maxRecDepth 100000 in
theorem mow46 : mC46.all (mown 7) = true := by decide +kernel
set_option maxRecDepth 100000 in
theorem mok47 : mC47.all (mchk cX7_keep) = true := by decide +kernel
set_option maxRecDepth 100000 in
theorem mow47 : mC47.all (mown 7) = true := by decide +kernel
set_option maxRecDepth 100000 in
theorem mok48 : mC48.all (mchk cX7_takeBack) = true := by decide +kernel
set_option maxRecDepth 100000 in
theorem mow48 : mC48.all (mown 7) = true := by decide +kernel
set_option maxRecDepth 100000 in
theorem mok49 : mC49.all (mchk cX8_init) = true := by decide +kernel
set_option maxRecDepth 100000 in
theorem mow49 : mC49.all (mown 8) = true := by decide +kernel
set_option maxRecDepth 100000 in
theorem mok50 : mC50.all (mchk cX8_begin) = true := by decide +kernel
set_option maxRecDepth 100000 in
theorem mow50 : mC50.all (mown 8) = true := by decide +kernel
set_option maxRecDepth 100000 in
theorem mok51 : mC51.all (mchk cX8_hear) = true := by decide +kernel
set_option maxRecDepth 100000 in
theorem mow51 : mC51.all (mown 8) = true := by decide +kernel
set_option maxRecDepth 100000 in
theorem mok52 : mC52.all (mchk cX8_isAsTold) = true := by decide +kernel
set_option maxRecDepth 100000 in
theorem mow52 : mC52.all (mown 8) = true := by decide +kernel
set_option maxRecDepth 100000 in
theorem mok53 : mC53.all (mchk cX8_keep) = true := by decide +kernel
set_option maxRecDepth 100000 in
theorem mow53 : mC53.all (mown 8) = true := by decide +kernel
set_option maxRecDepth 100000 in
theorem mok54 : mC54.all (mchk cX8_fliesPut) = true := by decide +kernel
set_option maxRecDepth 100000 in
theorem mow54 : mC54.all (mown 8) = true := by decide +kernel
set_option maxRecDepth 100000 in
theorem mok55 : mC55.all (mchk cX8_bestOrNone) = true := by decide +kernel
set_option maxRecDepth 100000 in
theorem mow55 : mC55.all (mown 8) = true := by decide +kernel
set_option maxRecDepth 100000 in
theorem mok56 : mC56.all (mchk cX8_fliesAt) = true := by decide +kernel
set_option maxRecDepth 100000 in
theorem mow56 : mC56.all (mown 8) = true := by decide +kernel
set_option maxRecDepth 100000 in
theorem mok57 : mC57.all (mchk cX9_init) = true := by decide +kernel
set_option maxRecDepth 100000 in
theorem mow57 : mC57.all (mown 9) = true := by decide +kernel
set_option maxRecDepth 100000 in
theorem mok58 : mC58.all (mchk cX9_put) = true := by decide +kernel
set_option maxRecDepth 100000 in
theorem mow58 : mC58.all (mown 9) = true := by decide +kernel
set_option maxRecDepth 100000 in
theorem mok59 : mC59.all (mchk cX9_greatest) = true := by decide +kernel
set_option maxRecDepth 100000 in
theorem mow59 : mC59.all (mown 9) = true := by decide +kernel
set_option maxRecDepth 100000 in
theorem mok60 : mC60.all (mchk cX9_agree) = true := by decide +kernel
set_option maxRecDepth 100000 in
theorem mow60 : mC60.all (mown 9) = true := by decide +kernel
set_option maxRecDepth 100000 in
theorem mok61 : mC61.all (mchk cX9_thinkOver) = true := by decide +kernel
set_option maxRecDepth 100000 in
theorem mow61 : mC61.all (mown 9) = true := by decide +kernel
set_option maxRecDepth 100000 in
theorem mok62 : mC62.all (mchk cX9_middle) = true := by decide +kernel
set_option maxRecDepth 100000 in
theorem mow62 : mC62.all (mown 9) = true := by decide +kernel
set_option maxRecDepth 100000 in
theorem mok63 : mC63.all (mchk cX9_unlikeThoughts) = true := by decide +kernel
set_option maxRecDepth 100000 in
theorem mow63 : mC63.all (mown 9) = true := by decide +kernel
set_option maxRecDepth 100000 in
theorem mok64 : mC64.all (mchk cX10_init) = true := by decide +kernel
set_option maxRecDepth 100000 in
theorem mow64 : mC64.all (mown 10) = true := by decide +kernel
set_option maxRecDepth 100000 in
theorem mok65 : mC65.all (mchk cX10_put) = true := by decide +kernel
set_option maxRecDepth 100000 in
theorem mow65 : mC65.all (mown 10) = true := by decide +kernel
set_option maxRecDepth 100000 in
theorem mok66 : mC66.all (mchk cX10_letterAt) = true := by decide +kernel
set_option maxRecDepth 100000 in
theorem mow66 : mC66.all (mown 10) = true := by decide +kernel
set_option maxRecDepth 100000 in
theorem mok67 : mC67.all (mchk cX10_digitAt) = true := by decide +kernel
set_option maxRecDepth 100000 in
theorem mow67 : mC67.all (mown 10) = true := by decide +kernel
set_option maxRecDepth 100000 in
theorem mok68 : mC68.all (mchk cX10_digitsBehind) = true := by decide +kernel
set_option maxRecDepth 100000 in
theorem mow68 : mC68.all (mown 10) = true := by decide +kernel
set_option maxRecDepth 100000 in
theorem mok69 : mC69.all (mchk cX10_oddPlace) = true := by decide +kernel
set_option maxRecDepth 100000 in
theorem mow69 : mC69.all (mown 10) = true := by decide +kernel
set_option maxRecDepth 100000 in
theorem mok70 : mC70.all (mchk cX11_init) = true := by decide +kernel
set_option maxRecDepth 100000 in
theorem mow70 : mC70.all (mown 11) = true := by decide +kernel
set_option maxRecDepth 100000 in
theorem mok71 : mC71.all (mchk cX11_refuse) = true := by decide +kernel
set_option maxRecDepth 100000 in
theorem mow71 : mC71.all (mown 11) = true := by decide +kernel
set_option maxRecDepth 100000 in
theorem mok72 : mC72.all (mchk cX11_either) = true := by decide +kernel
set_option maxRecDepth 100000 in
theorem mow72 : mC72.all (mown 11) = true := by decide +kernel
set_option maxRecDepth 100000 in
theorem mok73 : mC73.all (mchk cX11_outside) = true := by decide +kernel
set_option maxRecDepth 100000 in
theorem mow73 : mC73.all (mown 11) = true := by decide +kernel
set_option maxRecDepth 100000 in
theorem mok74 : mC74.all (mchk cX11_under) = true := by decide +kernel
set_option maxRecDepth 100000 in
theorem mow74 : mC74.all (mown 11) = true := by decide +kernel
set_option maxRecDepth 100000 in
theorem mok75 : mC75.all (mchk cX11_unknown) = true := by decide +kernel
set_option maxRecDepth 100000 in
theorem mow75 : mC75.all (mown 11) = true := by decide +kernel
set_option maxRecDepth 100000 in
theorem mok76 : mC76.all (mchk cX11_noWire) = true := by decide +kernel
set_option maxRecDepth 100000 in
theorem mow76 : mC76.all (mown 11) = true := by decide +kernel
set_option maxRecDepth 100000 in
theorem mok77 : mC77.all (mchk cX11_noBird) = true := by decide +kernel
set_option maxRecDepth 100000 in
theorem mow77 : mC77.all (mown 11) = true := by decide +kernel
set_option maxRecDepth 100000 in
theorem mok78 : mC78.all (mchk cX11_unfitRow) = true := by decide +kernel
set_option maxRecDepth 100000 in
theorem mow78 : mC78.all (mown 11) = true := by decide +kernel
set_option maxRecDepth 100000 in
theorem mok79 : mC79.all (mchk cX11_feed) = true := by decide +kernel
set_option maxRecDepth 100000 in
theorem mow79 : mC79.all (mown 11) = true := by decide +kernel
set_option maxRecDepth 100000 in
theorem mok80 : mC80.all (mchk cX11_town) = true := by decide +kernel
set_option maxRecDepth 100000 in
theorem mow80 : mC80.all (mown 11) = true := by decide +kernel
set_option maxRecDepth 100000 in
theorem mok81 : mC81.all (mchk cX11_readTown) = true := by decide +kernel
set_option maxRecDepth 100000 in
theorem mow81 : mC81.all (mown 11) = true := by decide +kernel
set_option maxRecDepth 100000 in
theorem mok82 : mC82.all (mchk cX11_comesTrue) = true := by decide +kernel
set_option maxRecDepth 100000 in
theorem mow82 : mC82.all (mown 11) = true := by decide +kernel
set_option maxRecDepth 100000 in
theorem mok83 : mC83.all (mchk cX11_birdComes) = true := by decide +kernel
set_option maxRecDepth 100000 in
theorem mow83 : mC83.all (mown 11) = true := by decide +kernel
set_option maxRecDepth 100000 in
theorem mok84 : mC84.all (mchk cX11_weightComes) = true := by decide +kernel
set_option maxRecDepth 100000 in
theorem mow84 : mC84.all (mown 11) = true := by decide +kernel
set_option maxRecDepth 100000 in
theorem mok85 : mC85.all (mchk cX11_hoursCome) = true := by decide +kernel
set_option maxRecDepth 100000 in
theorem mow85 : mC85.all (mown 11) = true := by decide +kernel
set_option maxRecDepth 100000 in
theorem mok86 : mC86.all (mchk cX11_catComes) = true := by decide +kernel
set_option maxRecDepth 100000 in
theorem mow86 : mC86.all (mown 11) = true := by decide +kernel
set_option maxRecDepth 100000 in
theorem mok87 : mC87.all (mchk cX11_bird) = true := by decide +kernel
set_option maxRecDepth 100000 in
theorem mow87 : mC87.all (mown 11) = true := by decide +kernel
set_option maxRecDepth 100000 in
theorem mok88 : mC88.all (mchk cX11_comes) = true := by decide +kernel
set_option maxRecDepth 100000 in
theorem mow88 : mC88.all (mown 11) = true := by decide +kernel
set_option maxRecDepth 100000 in
theorem mok89 : mC89.all (mchk cX11_wire) = true := by decide +kernel
set_option maxRecDepth 100000 in
theorem mow89 : mC89.all (mown 11) = true := by decide +kernel
set_option maxRecDepth 100000 in
theorem mok90 : mC90.all (mchk cX11_weight) = true := by decide +kernel
set_option maxRecDepth 100000 in
theorem mow90 : mC90.all (mown 11) = true := by decide +kernel
set_option maxRecDepth 100000 in
theorem mok91 : mC91.all (mchk cX11_sixth) = true := by decide +kernel
set_option maxRecDepth 100000 in
theorem mow91 : mC91.all (mown 11) = true := by decide +kernel
set_option maxRecDepth 100000 in
theorem mok92 : mC92.all (mchk cX11_feeds) = true := by decide +kernel
set_option maxRecDepth 100000 in
theorem mow92 : mC92.all (mown 11) = true := by decide +kernel
set_option maxRecDepth 100000 in
theorem mok93 : mC93.all (mchk cX11_cat) = true := by decide +kernel
set_option maxRecDepth 100000 in
theorem mow93 : mC93.all (mown 11) = true := by decide +kernel
set_option maxRecDepth 100000 in
theorem mok94 : mC94.all (mchk cX11_hawk) = true := by decide +kernel
set_option maxRecDepth 100000 in
theorem mow94 : mC94.all (mown 11) = true := by decide +kernel
set_option maxRecDepth 100000 in
theorem mok95 : mC95.all (mchk cX11_rain) = true := by decide +kernel
set_option maxRecDepth 100000 in
theorem mow95 : mC95.all (mown 11) = true := by decide +kernel
set_option maxRecDepth 100000 in
theorem mok96 : mC96.all (mchk cX11_back) = true := by decide +kernel
set_option maxRecDepth 100000 in
theorem mow96 : mC96.all (mown 11) = true := by decide +kernel
set_option maxRecDepth 100000 in
theorem mok97 : mC97.all (mchk cX11_think) = true := by decide +kernel
set_option maxRecDepth 100000 in
theorem mow97 : mC97.all (mown 11) = true := by decide +kernel
set_option maxRecDepth 100000 in
theorem mok98 : mC98.all (mchk cX11_thinkBehind) = true := by decide +kernel
set_option maxRecDepth 100000 in
theorem mow98 : mC98.all (mown 11) = true := by decide +kernel
set_option maxRecDepth 100000 in
theorem mok99 : mC99.all (mchk cX11_behind) = true := by decide +kernel
set_option maxRecDepth 100000 in
theorem mow99 : mC99.all (mown 11) = true := by decide +kernel
set_option maxRecDepth 100000 in
theorem mok100 : mC100.all (mchk cX11_where) = true := by decide +kernel
set_option maxRecDepth 100000 in
theorem mow100 : mC100.all (mown 11) = true := by decide +kernel
set_option maxRecDepth 100000 in
theorem mok101 : mC101.all (mchk cX11_firstWrong) = true := by decide +kernel
set_option maxRecDepth 100000 in
theorem mow101 : mC101.all (mown 11) = true := by decide +kernel
set_option maxRecDepth 100000 in
theorem mok102 : mC102.all (mchk cX11_allWrong) = true := by decide +kernel
set_option maxRecDepth 100000 in
theorem mow102 : mC102.all (mown 11) = true := by decide +kernel
set_option maxRecDepth 100000 in
theorem mok103 : mC103.all (mchk cX11_right) = true := by decide +kernel
set_option maxRecDepth 100000 in
theorem mow103 : mC103.all (mown 11) = true := by decide +kernel
set_option maxRecDepth 100000 in
theorem mok104 : mC104.all (mchk cX11_later) = true := by decide +kernel
set_option maxRecDepth 100000 in
theorem mow104 : mC104.all (mown 11) = true := by decide +kernel
set_option maxRecDepth 100000 in
theorem mok105 : mC105.all (mchk cX11_stayed) = true := by decide +kernel
set_option maxRecDepth 100000 in
theorem mow105 : mC105.all (mown 11) = true := by decide +kernel
set_option maxRecDepth 100000 in
theorem mok106 : mC106.all (mchk cX11_settled) = true := by decide +kernel
set_option maxRecDepth 100000 in
theorem mow106 : mC106.all (mown 11) = true := by decide +kernel
set_option maxRecDepth 100000 in
theorem mok107 : mC107.all (mchk cX11_round) = true := by decide +kernel
set_option maxRecDepth 100000 in
theorem mow107 : mC107.all (mown 11) = true := by decide +kernel
set_option maxRecDepth 100000 in
theorem mok108 : mC108.all (mchk cX11_trains) = true := by decide +kernel
set_option maxRecDepth 100000 in
theorem mow108 : mC108.all (mown 11) = true := by decide +kernel
set_option maxRecDepth 100000 in
theorem mok109 : mC109.all (mchk cX11_trainsLooked) = true := by decide +kernel
set_option maxRecDepth 100000 in
theorem mow109 : mC109.all (mown 11) = true := by decide +kernel
set_option maxRecDepth 100000 in
theorem mok110 : mC110.all (mchk cX11_happened) = true := by decide +kernel
set_option maxRecDepth 100000 in
theorem mow110 : mC110.all (mown 11) = true := by decide +kernel
set_option maxRecDepth 100000 in
theorem mok111 : mC111.all (mchk cX11_firstUnlike) = true := by decide +kernel
set_option maxRecDepth 100000 in
theorem mow111 : mC111.all (mown 11) = true := by decide +kernel
set_option maxRecDepth 100000 in
theorem mok112 : mC112.all (mchk cX11_tellsMost) = true := by decide +kernel
set_option maxRecDepth 100000 in
theorem mow112 : mC112.all (mown 11) = true := by decide +kernel
set_option maxRecDepth 100000 in
theorem mok113 : mC113.all (mchk cX11_noteShown) = true := by decide +kernel
set_option maxRecDepth 100000 in
theorem mow113 : mC113.all (mown 11) = true := by decide +kernel
set_option maxRecDepth 100000 in
theorem mok114 : mC114.all (mchk cX11_catWorth) = true := by decide +kernel
set_option maxRecDepth 100000 in
theorem mow114 : mC114.all (mown 11) = true := by decide +kernel
set_option maxRecDepth 100000 in
theorem mok115 : mC115.all (mchk cX11_lots) = true := by decide +kernel
set_option maxRecDepth 100000 in
theorem mow115 : mC115.all (mown 11) = true := by decide +kernel
set_option maxRecDepth 100000 in
theorem mok116 : mC116.all (mchk cX11_thinkFed) = true := by decide +kernel
set_option maxRecDepth 100000 in
theorem mow116 : mC116.all (mown 11) = true := by decide +kernel
set_option maxRecDepth 100000 in
theorem mok117 : mC117.all (mchk cX11_closest) = true := by decide +kernel
set_option maxRecDepth 100000 in
theorem mow117 : mC117.all (mown 11) = true := by decide +kernel
set_option maxRecDepth 100000 in
theorem mok118 : mC118.all (mchk cX11_chord) = true := by decide +kernel
set_option maxRecDepth 100000 in
theorem mow118 : mC118.all (mown 11) = true := by decide +kernel
set_option maxRecDepth 100000 in
theorem mok119 : mC119.all (mchk cX11_nextChords) = true := by decide +kernel
set_option maxRecDepth 100000 in
theorem mow119 : mC119.all (mown 11) = true := by decide +kernel
set_option maxRecDepth 100000 in
theorem mok120 : mC120.all (mchk cX11_watch) = true := by decide +kernel
set_option maxRecDepth 100000 in
theorem mow120 : mC120.all (mown 11) = true := by decide +kernel
set_option maxRecDepth 100000 in
theorem mok121 : mC121.all (mchk cX11_mostWrong) = true := by decide +kernel
set_option maxRecDepth 100000 in
theorem mow121 : mC121.all (mown 11) = true := by decide +kernel
set_option maxRecDepth 100000 in
theorem mok122 : mC122.all (mchk cX11_rivalSure) = true := by decide +kernel
set_option maxRecDepth 100000 in
theorem mow122 : mC122.all (mown 11) = true := by decide +kernel
set_option maxRecDepth 100000 in
theorem mok123 : mC123.all (mchk cX11_always) = true := by decide +kernel
set_option maxRecDepth 100000 in
theorem mow123 : mC123.all (mown 11) = true := by decide +kernel
set_option maxRecDepth 100000 in
theorem mok124 : mC124.all (mchk cX11_seek) = true := by decide +kernel
set_option maxRecDepth 100000 in
theorem mow124 : mC124.all (mown 11) = true := by decide +kernel
set_option maxRecDepth 100000 in
theorem mok125 : mC125.all (mchk cX11_seekFromNow) = true := by decide +kernel
set_option maxRecDepth 100000 in
theorem mow125 : mC125.all (mown 11) = true := by decide +kernel
set_option maxRecDepth 100000 in
theorem mok126 : mC126.all (mchk cX11_feeding) = true := by decide +kernel
set_option maxRecDepth 100000 in
theorem mow126 : mC126.all (mown 11) = true := by decide +kernel
set_option maxRecDepth 100000 in
theorem mok127 : mC127.all (mchk cX11_highest) = true := by decide +kernel
set_option maxRecDepth 100000 in
theorem mow127 : mC127.all (mown 11) = true := by decide +kernel
set_option maxRecDepth 100000 in
theorem mok128 : mC128.all (mchk cX11_plays) = true := by decide +kernel
set_option maxRecDepth 100000 in
theorem mow128 : mC128.all (mown 11) = true := by decide +kernel
set_option maxRecDepth 100000 in
theorem mok129 : mC129.all (mchk cX11_whoMoved) = true := by decide +kernel
set_option maxRecDepth 100000 in
theorem mow129 : mC129.all (mown 11) = true := by decide +kernel
set_option maxRecDepth 100000 in
theorem mok130 : mC130.all (mchk cX11_lured) = true := by decide +kernel
set_option maxRecDepth 100000 in
theorem mow130 : mC130.all (mown 11) = true := by decide +kernel
set_option maxRecDepth 100000 in
theorem mok131 : mC131.all (mchk cX11_gather) = true := by decide +kernel
set_option maxRecDepth 100000 in
theorem mow131 : mC131.all (mown 11) = true := by decide +kernel
set_option maxRecDepth 100000 in
theorem mok132 : mC132.all (mchk cX11_mixed) = true := by decide +kernel
set_option maxRecDepth 100000 in
theorem mow132 : mC132.all (mown 11) = true := by decide +kernel
set_option maxRecDepth 100000 in
theorem mok133 : mC133.all (mchk cX11_near) = true := by decide +kernel
set_option maxRecDepth 100000 in
theorem mow133 : mC133.all (mown 11) = true := by decide +kernel
set_option maxRecDepth 100000 in
theorem mok134 : mC134.all (mchk cX11_movesTo) = true := by decide +kernel
set_option maxRecDepth 100000 in
theorem mow134 : mC134.all (mown 11) = true := by decide +kernel
set_option maxRecDepth 100000 in
theorem mok135 : mC135.all (mchk cX11_read) = true := by decide +kernel
set_option maxRecDepth 100000 in
theorem mow135 : mC135.all (mown 11) = true := by decide +kernel
set_option maxRecDepth 100000 in
theorem mok136 : mC136.all (mchk cX11_tallySeats) = true := by decide +kernel
set_option maxRecDepth 100000 in
theorem mow136 : mC136.all (mown 11) = true := by decide +kernel
set_option maxRecDepth 100000 in
theorem mok137 : mC137.all (mchk cX11_bestWeight) = true := by decide +kernel
set_option maxRecDepth 100000 in
theorem mow137 : mC137.all (mown 11) = true := by decide +kernel
set_option maxRecDepth 100000 in
theorem mok138 : mC138.all (mchk cX11_addErrsByWeight) = true := by decide +kernel
set_option maxRecDepth 100000 in
theorem mow138 : mC138.all (mown 11) = true := by decide +kernel
set_option maxRecDepth 100000 in
theorem mok139 : mC139.all (mchk cX11_bestWire) = true := by decide +kernel
set_option maxRecDepth 100000 in
theorem mow139 : mC139.all (mown 11) = true := by decide +kernel
set_option maxRecDepth 100000 in
theorem mok140 : mC140.all (mchk cX11_errsWithout) = true := by decide +kernel
set_option maxRecDepth 100000 in
theorem mow140 : mC140.all (mown 11) = true := by decide +kernel
set_option maxRecDepth 100000 in
theorem mok141 : mC141.all (mchk cX11_worstBird) = true := by decide +kernel
set_option maxRecDepth 100000 in
theorem mow141 : mC141.all (mown 11) = true := by decide +kernel
set_option maxRecDepth 100000 in
theorem mok142 : mC142.all (mchk cX11_spread) = true := by decide +kernel
set_option maxRecDepth 100000 in
theorem mow142 : mC142.all (mown 11) = true := by decide +kernel
set_option maxRecDepth 100000 in
theorem mok143 : mC143.all (mchk cX11_movesToEven) = true := by decide +kernel
set_option maxRecDepth 100000 in
theorem mow143 : mC143.all (mown 11) = true := by decide +kernel
set_option maxRecDepth 100000 in
theorem mok144 : mC144.all (mchk cX11_movesToFill) = true := by decide +kernel
set_option maxRecDepth 100000 in
theorem mow144 : mC144.all (mown 11) = true := by decide +kernel
set_option maxRecDepth 100000 in
theorem mok145 : mC145.all (mchk cX11_row) = true := by decide +kernel
set_option maxRecDepth 100000 in
theorem mow145 : mC145.all (mown 11) = true := by decide +kernel
set_option maxRecDepth 100000 in
theorem mok146 : mC146.all (mchk cX11_judge) = true := by decide +kernel
set_option maxRecDepth 100000 in
theorem mow146 : mC146.all (mown 11) = true := by decide +kernel
set_option maxRecDepth 100000 in
theorem mok147 : mC147.all (mchk cX11_clear) = true := by decide +kernel
set_option maxRecDepth 100000 in
theorem mow147 : mC147.all (mown 11) = true := by decide +kernel
set_option maxRecDepth 100000 in
theorem mok148 : mC148.all (mchk cX11_winter) = true := by decide +kernel
set_option maxRecDepth 100000 in
theorem mow148 : mC148.all (mown 11) = true := by decide +kernel
set_option maxRecDepth 100000 in
theorem mok149 : mC149.all (mchk cX11_image) = true := by decide +kernel
set_option maxRecDepth 100000 in
theorem mow149 : mC149.all (mown 11) = true := by decide +kernel
set_option maxRecDepth 100000 in
theorem mok150 : mC150.all (mchk cX11_restore) = true := by decide +kernel
set_option maxRecDepth 100000 in
theorem mow150 : mC150.all (mown 11) = true := by decide +kernel
set_option maxRecDepth 100000 in
theorem mok151 : mC151.all (mchk cX11_count) = true := by decide +kernel
set_option maxRecDepth 100000 in
theorem mow151 : mC151.all (mown 11) = true := by decide +kernel
set_option maxRecDepth 100000 in
theorem mok152 : mC152.all (mchk cX11_apart) = true := by decide +kernel
set_option maxRecDepth 100000 in
theorem mow152 : mC152.all (mown 11) = true := by decide +kernel
set_option maxRecDepth 100000 in
theorem mok153 : mC153.all (mchk cX12_init) = true := by decide +kernel
set_option maxRecDepth 100000 in
theorem mow153 : mC153.all (mown 12) = true := by decide +kernel
set_option maxRecDepth 100000 in
theorem mok154 : mC154.all (mchk cX12_no) = true := by decide +kernel
set_option maxRecDepth 100000 in
theorem mow154 : mC154.all (mown 12) = true := by decide +kernel
set_option maxRecDepth 100000 in
theorem mok155 : mC155.all (mchk cX12_isIn) = true := by decide +kernel
set_option maxRecDepth 100000 in
theorem mow155 : mC155.all (mown 12) = true := by decide +kernel
set_option maxRecDepth 100000 in
theorem mok156 : mC156.all (mchk cX12_bound) = true := by decide +kernel
set_option maxRecDepth 100000 in
theorem mow156 : mC156.all (mown 12) = true := by decide +kernel
set_option maxRecDepth 100000 in
theorem mok157 : mC157.all (mchk cX12_isWire) = true := by decide +kernel
set_option maxRecDepth 100000 in
theorem mow157 : mC157.all (mown 12) = true := by decide +kernel
set_option maxRecDepth 100000 in
theorem mok158 : mC158.all (mchk cX12_isBird) = true := by decide +kernel
set_option maxRecDepth 100000 in
theorem mow158 : mC158.all (mown 12) = true := by decide +kernel
set_option maxRecDepth 100000 in
theorem mok159 : mC159.all (mchk cX12_manyOn) = true := by decide +kernel
set_option maxRecDepth 100000 in
theorem mow159 : mC159.all (mown 12) = true := by decide +kernel
set_option maxRecDepth 100000 in
theorem mok160 : mC160.all (mchk cX12_hasRoom) = true := by decide +kernel
set_option maxRecDepth 100000 in
theorem mow160 : mC160.all (mown 12) = true := by decide +kernel
set_option maxRecDepth 100000 in
theorem mok161 : mC161.all (mchk cX12_shown) = true := by decide +kernel
set_option maxRecDepth 100000 in
theorem mow161 : mC161.all (mown 12) = true := by decide +kernel
set_option maxRecDepth 100000 in
theorem mok162 : mC162.all (mchk cX12_wrong) = true := by decide +kernel
set_option maxRecDepth 100000 in
theorem mow162 : mC162.all (mown 12) = true := by decide +kernel
set_option maxRecDepth 100000 in
theorem mok163 : mC163.all (mchk cX12_feed) = true := by decide +kernel
set_option maxRecDepth 100000 in
theorem mow163 : mC163.all (mown 12) = true := by decide +kernel
set_option maxRecDepth 100000 in
theorem mok164 : mC164.all (mchk cX12_next) = true := by decide +kernel
set_option maxRecDepth 100000 in
theorem mow164 : mC164.all (mown 12) = true := by decide +kernel
set_option maxRecDepth 100000 in
theorem mok165 : mC165.all (mchk cX12_readsDigits) = true := by decide +kernel
set_option maxRecDepth 100000 in
theorem mow165 : mC165.all (mown 12) = true := by decide +kernel
set_option maxRecDepth 100000 in
theorem mok166 : mC166.all (mchk cX12_readsAll) = true := by decide +kernel
set_option maxRecDepth 100000 in
theorem mow166 : mC166.all (mown 12) = true := by decide +kernel
set_option maxRecDepth 100000 in
theorem mok167 : mC167.all (mchk cX12_statement) = true := by decide +kernel
set_option maxRecDepth 100000 in
theorem mow167 : mC167.all (mown 12) = true := by decide +kernel
set_option maxRecDepth 100000 in
theorem mok168 : mC168.all (mchk cX12_comesBird) = true := by decide +kernel
set_option maxRecDepth 100000 in
theorem mow168 : mC168.all (mown 12) = true := by decide +kernel
set_option maxRecDepth 100000 in
theorem mok169 : mC169.all (mchk cX12_comesHours) = true := by decide +kernel
set_option maxRecDepth 100000 in
theorem mow169 : mC169.all (mown 12) = true := by decide +kernel
set_option maxRecDepth 100000 in
theorem mok170 : mC170.all (mchk cX12_comes) = true := by decide +kernel
set_option maxRecDepth 100000 in
theorem mow170 : mC170.all (mown 12) = true := by decide +kernel
set_option maxRecDepth 100000 in
theorem mok171 : mC171.all (mchk cX12_town) = true := by decide +kernel
set_option maxRecDepth 100000 in
theorem mow171 : mC171.all (mown 12) = true := by decide +kernel
set_option maxRecDepth 100000 in
theorem mok172 : mC172.all (mchk cX12_passes) = true := by decide +kernel
set_option maxRecDepth 100000 in
theorem mow172 : mC172.all (mown 12) = true := by decide +kernel
set_option maxRecDepth 100000 in
theorem mok173 : mC173.all (mchk cX12_passOne) = true := by decide +kernel
set_option maxRecDepth 100000 in
theorem mow173 : mC173.all (mown 12) = true := by decide +kernel
set_option maxRecDepth 100000 in
theorem mok174 : mC174.all (mchk cX12_passesAll) = true := by decide +kernel
set_option maxRecDepth 100000 in
theorem mow174 : mC174.all (mown 12) = true := by decide +kernel
set_option maxRecDepth 100000 in
theorem mok175 : mC175.all (mchk cX12_keepsBack) = true := by decide +kernel
set_option maxRecDepth 100000 in
theorem mow175 : mC175.all (mown 12) = true := by decide +kernel
set_option maxRecDepth 100000 in
theorem mok176 : mC176.all (mchk cX12_back) = true := by decide +kernel
set_option maxRecDepth 100000 in
theorem mow176 : mC176.all (mown 12) = true := by decide +kernel
set_option maxRecDepth 100000 in
theorem mok177 : mC177.all (mchk cX12_image) = true := by decide +kernel
set_option maxRecDepth 100000 in
theorem mow177 : mC177.all (mown 12) = true := by decide +kernel
set_option maxRecDepth 100000 in
theorem mok178 : mC178.all (mchk cX12_restore) = true := by decide +kernel
set_option maxRecDepth 100000 in
theorem mow178 : mC178.all (mown 12) = true := by decide +kernel
set_option maxRecDepth 100000 in
theorem mok179 : mC179.all (mchk cX12_thinks) = true := by decide +kernel
set_option maxRecDepth 100000 in
theorem mow179 : mC179.all (mown 12) = true := by decide +kernel
set_option maxRecDepth 100000 in
theorem mok180 : mC180.all (mchk cX12_forgets) = true := by decide +kernel
set_option maxRecDepth 100000 in
theorem mow180 : mC180.all (mown 12) = true := by decide +kernel
set_option maxRecDepth 100000 in
theorem mok181 : mC181.all (mchk cX12_adds) = true := by decide +kernel
set_option maxRecDepth 100000 in
theorem mow181 : mC181.all (mown 12) = true := by decide +kernel
set_option maxRecDepth 100000 in
theorem mok182 : mC182.all (mchk cX12_far) = true := by decide +kernel
set_option maxRecDepth 100000 in
theorem mow182 : mC182.all (mown 12) = true := by decide +kernel
set_option maxRecDepth 100000 in
theorem mok183 : mC183.all (mchk cX12_lesser) = true := by decide +kernel
set_option maxRecDepth 100000 in
theorem mow183 : mC183.all (mown 12) = true := by decide +kernel
set_option maxRecDepth 100000 in
theorem mok184 : mC184.all (mchk cX12_nearer) = true := by decide +kernel
set_option maxRecDepth 100000 in
theorem mow184 : mC184.all (mown 12) = true := by decide +kernel
set_option maxRecDepth 100000 in
theorem mok185 : mC185.all (mchk cX12_wantsYoung) = true := by decide +kernel
set_option maxRecDepth 100000 in
theorem mow185 : mC185.all (mown 12) = true := by decide +kernel
set_option maxRecDepth 100000 in
theorem mok186 : mC186.all (mchk cX12_wantsOld) = true := by decide +kernel
set_option maxRecDepth 100000 in
theorem mow186 : mC186.all (mown 12) = true := by decide +kernel
set_option maxRecDepth 100000 in
theorem mok187 : mC187.all (mchk cX12_wants) = true := by decide +kernel
set_option maxRecDepth 100000 in
theorem mow187 : mC187.all (mown 12) = true := by decide +kernel
set_option maxRecDepth 100000 in
theorem mok188 : mC188.all (mchk cX12_goesOne) = true := by decide +kernel
set_option maxRecDepth 100000 in
theorem mow188 : mC188.all (mown 12) = true := by decide +kernel
set_option maxRecDepth 100000 in
theorem mok189 : mC189.all (mchk cX12_goes) = true := by decide +kernel
set_option maxRecDepth 100000 in
theorem mow189 : mC189.all (mown 12) = true := by decide +kernel
set_option maxRecDepth 100000 in
theorem mok190 : mC190.all (mchk cX12_fromCat) = true := by decide +kernel
set_option maxRecDepth 100000 in
theorem mow190 : mC190.all (mown 12) = true := by decide +kernel
set_option maxRecDepth 100000 in
theorem mok191 : mC191.all (mchk cX12_cats) = true := by decide +kernel
set_option maxRecDepth 100000 in
theorem mow191 : mC191.all (mown 12) = true := by decide +kernel
set_option maxRecDepth 100000 in
theorem mok192 : mC192.all (mchk cX12_outermost) = true := by decide +kernel
set_option maxRecDepth 100000 in
theorem mow192 : mC192.all (mown 12) = true := by decide +kernel
set_option maxRecDepth 100000 in
theorem mok193 : mC193.all (mchk cX12_fliesTo) = true := by decide +kernel
set_option maxRecDepth 100000 in
theorem mow193 : mC193.all (mown 12) = true := by decide +kernel
set_option maxRecDepth 100000 in
theorem mok194 : mC194.all (mchk cX12_hangs) = true := by decide +kernel
set_option maxRecDepth 100000 in
theorem mow194 : mC194.all (mown 12) = true := by decide +kernel
set_option maxRecDepth 100000 in
theorem mok195 : mC195.all (mchk cX12_happens) = true := by decide +kernel
set_option maxRecDepth 100000 in
theorem mow195 : mC195.all (mown 12) = true := by decide +kernel
set_option maxRecDepth 100000 in
theorem mok196 : mC196.all (mchk cX12_bird) = true := by decide +kernel
set_option maxRecDepth 100000 in
theorem mow196 : mC196.all (mown 12) = true := by decide +kernel
set_option maxRecDepth 100000 in
theorem mok197 : mC197.all (mchk cX12_comes_) = true := by decide +kernel
set_option maxRecDepth 100000 in
theorem mow197 : mC197.all (mown 12) = true := by decide +kernel
set_option maxRecDepth 100000 in
theorem mok198 : mC198.all (mchk cX12_wire) = true := by decide +kernel
set_option maxRecDepth 100000 in
theorem mow198 : mC198.all (mown 12) = true := by decide +kernel
set_option maxRecDepth 100000 in
theorem mok199 : mC199.all (mchk cX12_weight) = true := by decide +kernel
set_option maxRecDepth 100000 in
theorem mow199 : mC199.all (mown 12) = true := by decide +kernel
set_option maxRecDepth 100000 in
theorem mok200 : mC200.all (mchk cX12_sixth) = true := by decide +kernel
set_option maxRecDepth 100000 in
theorem mow200 : mC200.all (mown 12) = true := by decide +kernel
set_option maxRecDepth 100000 in
theorem mok201 : mC201.all (mchk cX12_feeds) = true := by decide +kernel
set_option maxRecDepth 100000 in
theorem mow201 : mC201.all (mown 12) = true := by decide +kernel
set_option maxRecDepth 100000 in
theorem mok202 : mC202.all (mchk cX12_cat) = true := by decide +kernel
set_option maxRecDepth 100000 in
theorem mow202 : mC202.all (mown 12) = true := by decide +kernel
set_option maxRecDepth 100000 in
theorem mok203 : mC203.all (mchk cX12_hawk) = true := by decide +kernel
set_option maxRecDepth 100000 in
theorem mow203 : mC203.all (mown 12) = true := by decide +kernel
set_option maxRecDepth 100000 in
theorem mok204 : mC204.all (mchk cX12_rain) = true := by decide +kernel
set_option maxRecDepth 100000 in
theorem mow204 : mC204.all (mown 12) = true := by decide +kernel
set_option maxRecDepth 100000 in
theorem mok205 : mC205.all (mchk cX12_findHours) = true := by decide +kernel
set_option maxRecDepth 100000 in
theorem mow205 : mC205.all (mown 12) = true := by decide +kernel
set_option maxRecDepth 100000 in
theorem mok206 : mC206.all (mchk cX12_notHours) = true := by decide +kernel
set_option maxRecDepth 100000 in
theorem mow206 : mC206.all (mown 12) = true := by decide +kernel
set_option maxRecDepth 100000 in
theorem mok207 : mC207.all (mchk cX12_behind) = true := by decide +kernel
set_option maxRecDepth 100000 in
theorem mow207 : mC207.all (mown 12) = true := by decide +kernel
set_option maxRecDepth 100000 in
theorem mok208 : mC208.all (mchk cX12_where) = true := by decide +kernel
set_option maxRecDepth 100000 in
theorem mow208 : mC208.all (mown 12) = true := by decide +kernel
set_option maxRecDepth 100000 in
theorem mok209 : mC209.all (mchk cX12_firstWrong) = true := by decide +kernel
set_option maxRecDepth 100000 in
theorem mow209 : mC209.all (mown 12) = true := by decide +kernel
set_option maxRecDepth 100000 in
theorem mok210 : mC210.all (mchk cX12_wrongTo) = true := by decide +kernel
set_option maxRecDepth 100000 in
theorem mow210 : mC210.all (mown 12) = true := by decide +kernel
set_option maxRecDepth 100000 in
theorem mok211 : mC211.all (mchk cX12_allWrong) = true := by decide +kernel
set_option maxRecDepth 100000 in
theorem mow211 : mC211.all (mown 12) = true := by decide +kernel
set_option maxRecDepth 100000 in
theorem mok212 : mC212.all (mchk cX12_waysOf) = true := by decide +kernel
set_option maxRecDepth 100000 in
theorem mow212 : mC212.all (mown 12) = true := by decide +kernel
set_option maxRecDepth 100000 in
theorem mok213 : mC213.all (mchk cX12_laysWay) = true := by decide +kernel
set_option maxRecDepth 100000 in
theorem mow213 : mC213.all (mown 12) = true := by decide +kernel
set_option maxRecDepth 100000 in
theorem mok214 : mC214.all (mchk cX12_fliesIn) = true := by decide +kernel
set_option maxRecDepth 100000 in
theorem mow214 : mC214.all (mown 12) = true := by decide +kernel
set_option maxRecDepth 100000 in
theorem mok215 : mC215.all (mchk cX12_tellsAs) = true := by decide +kernel
set_option maxRecDepth 100000 in
theorem mow215 : mC215.all (mown 12) = true := by decide +kernel
set_option maxRecDepth 100000 in
theorem mok216 : mC216.all (mchk cX12_chordNow) = true := by decide +kernel
set_option maxRecDepth 100000 in
theorem mow216 : mC216.all (mown 12) = true := by decide +kernel
set_option maxRecDepth 100000 in
theorem mok217 : mC217.all (mchk cX12_goesAs) = true := by decide +kernel
set_option maxRecDepth 100000 in
theorem mow217 : mC217.all (mown 12) = true := by decide +kernel
set_option maxRecDepth 100000 in
theorem mok218 : mC218.all (mchk cX12_keepsWay) = true := by decide +kernel
set_option maxRecDepth 100000 in
theorem mow218 : mC218.all (mown 12) = true := by decide +kernel
set_option maxRecDepth 100000 in
theorem mok219 : mC219.all (mchk cX12_feeding) = true := by decide +kernel
set_option maxRecDepth 100000 in
theorem mow219 : mC219.all (mown 12) = true := by decide +kernel
set_option maxRecDepth 100000 in
theorem mok220 : mC220.all (mchk cX12_wrongBy) = true := by decide +kernel
set_option maxRecDepth 100000 in
theorem mow220 : mC220.all (mown 12) = true := by decide +kernel
set_option maxRecDepth 100000 in
theorem mok221 : mC221.all (mchk cX12_closest) = true := by decide +kernel
set_option maxRecDepth 100000 in
theorem mow221 : mC221.all (mown 12) = true := by decide +kernel
set_option maxRecDepth 100000 in
theorem mok222 : mC222.all (mchk cX12_highest) = true := by decide +kernel
set_option maxRecDepth 100000 in
theorem mow222 : mC222.all (mown 12) = true := by decide +kernel
set_option maxRecDepth 100000 in
theorem mok223 : mC223.all (mchk cX12_findThings) = true := by decide +kernel
set_option maxRecDepth 100000 in
theorem mow223 : mC223.all (mown 12) = true := by decide +kernel
set_option maxRecDepth 100000 in
theorem mok224 : mC224.all (mchk cX12_happened) = true := by decide +kernel
set_option maxRecDepth 100000 in
theorem mow224 : mC224.all (mown 12) = true := by decide +kernel
set_option maxRecDepth 100000 in
theorem mok225 : mC225.all (mchk cX12_unlikeThings) = true := by decide +kernel
set_option maxRecDepth 100000 in
theorem mow225 : mC225.all (mown 12) = true := by decide +kernel
set_option maxRecDepth 100000 in
theorem mok226 : mC226.all (mchk cX12_tellsMost) = true := by decide +kernel
set_option maxRecDepth 100000 in
theorem mow226 : mC226.all (mown 12) = true := by decide +kernel
set_option maxRecDepth 100000 in
theorem mok227 : mC227.all (mchk cX12_canMove) = true := by decide +kernel
set_option maxRecDepth 100000 in
theorem mow227 : mC227.all (mown 12) = true := by decide +kernel
set_option maxRecDepth 100000 in
theorem mok228 : mC228.all (mchk cX12_mixed) = true := by decide +kernel
set_option maxRecDepth 100000 in
theorem mow228 : mC228.all (mown 12) = true := by decide +kernel
set_option maxRecDepth 100000 in
theorem mok229 : mC229.all (mchk cX12_makesMoves) = true := by decide +kernel
set_option maxRecDepth 100000 in
theorem mow229 : mC229.all (mown 12) = true := by decide +kernel
set_option maxRecDepth 100000 in
theorem mok230 : mC230.all (mchk cX12_isNear) = true := by decide +kernel
set_option maxRecDepth 100000 in
theorem mow230 : mC230.all (mown 12) = true := by decide +kernel
set_option maxRecDepth 100000 in
theorem mok231 : mC231.all (mchk cX12_near) = true := by decide +kernel
set_option maxRecDepth 100000 in
theorem mow231 : mC231.all (mown 12) = true := by decide +kernel
set_option maxRecDepth 100000 in
theorem mok232 : mC232.all (mchk cX12_findSittings) = true := by decide +kernel
set_option maxRecDepth 100000 in
theorem mow232 : mC232.all (mown 12) = true := by decide +kernel
set_option maxRecDepth 100000 in
theorem mok233 : mC233.all (mchk cX12_read) = true := by decide +kernel
set_option maxRecDepth 100000 in
theorem mow233 : mC233.all (mown 12) = true := by decide +kernel
set_option maxRecDepth 100000 in
theorem mok234 : mC234.all (mchk cX12_bestWeight) = true := by decide +kernel
set_option maxRecDepth 100000 in
theorem mow234 : mC234.all (mown 12) = true := by decide +kernel
set_option maxRecDepth 100000 in
theorem mok235 : mC235.all (mchk cX12_wrongOn) = true := by decide +kernel
set_option maxRecDepth 100000 in
theorem mow235 : mC235.all (mown 12) = true := by decide +kernel
set_option maxRecDepth 100000 in
theorem mok236 : mC236.all (mchk cX12_bestWire) = true := by decide +kernel
set_option maxRecDepth 100000 in
theorem mow236 : mC236.all (mown 12) = true := by decide +kernel
set_option maxRecDepth 100000 in
theorem mok237 : mC237.all (mchk cX12_nextChords) = true := by decide +kernel
set_option maxRecDepth 100000 in
theorem mow237 : mC237.all (mown 12) = true := by decide +kernel
set_option maxRecDepth 100000 in
theorem mok238 : mC238.all (mchk cX12_chordBy) = true := by decide +kernel
set_option maxRecDepth 100000 in
theorem mow238 : mC238.all (mown 12) = true := by decide +kernel
set_option maxRecDepth 100000 in
theorem mok239 : mC239.all (mchk cX12_chord) = true := by decide +kernel
set_option maxRecDepth 100000 in
theorem mow239 : mC239.all (mown 12) = true := by decide +kernel
set_option maxRecDepth 100000 in
theorem mok240 : mC240.all (mchk cX12_isRowUpTo) = true := by decide +kernel
set_option maxRecDepth 100000 in
theorem mow240 : mC240.all (mown 12) = true := by decide +kernel
set_option maxRecDepth 100000 in
theorem mok241 : mC241.all (mchk cX12_plays) = true := by decide +kernel
set_option maxRecDepth 100000 in
theorem mow241 : mC241.all (mown 12) = true := by decide +kernel
set_option maxRecDepth 100000 in
theorem mok242 : mC242.all (mchk cX12_isTrain) = true := by decide +kernel
set_option maxRecDepth 100000 in
theorem mow242 : mC242.all (mown 12) = true := by decide +kernel
set_option maxRecDepth 100000 in
theorem mok243 : mC243.all (mchk cX12_trains) = true := by decide +kernel
set_option maxRecDepth 100000 in
theorem mow243 : mC243.all (mown 12) = true := by decide +kernel
set_option maxRecDepth 100000 in
theorem mok244 : mC244.all (mchk cX12_whoMoved) = true := by decide +kernel
set_option maxRecDepth 100000 in
theorem mow244 : mC244.all (mown 12) = true := by decide +kernel
set_option maxRecDepth 100000 in
theorem mok245 : mC245.all (mchk cX12_watched) = true := by decide +kernel
set_option maxRecDepth 100000 in
theorem mow245 : mC245.all (mown 12) = true := by decide +kernel
set_option maxRecDepth 100000 in
theorem mok246 : mC246.all (mchk cX12_mostAgainst) = true := by decide +kernel
set_option maxRecDepth 100000 in
theorem mow246 : mC246.all (mown 12) = true := by decide +kernel
set_option maxRecDepth 100000 in
theorem mok247 : mC247.all (mchk cX12_leastAgainst) = true := by decide +kernel
set_option maxRecDepth 100000 in
theorem mow247 : mC247.all (mown 12) = true := by decide +kernel
set_option maxRecDepth 100000 in
theorem mok248 : mC248.all (mchk cX12_watch) = true := by decide +kernel
set_option maxRecDepth 100000 in
theorem mow248 : mC248.all (mown 12) = true := by decide +kernel
set_option maxRecDepth 100000 in
theorem mok249 : mC249.all (mchk cX12_middleOf) = true := by decide +kernel
set_option maxRecDepth 100000 in
theorem mow249 : mC249.all (mown 12) = true := by decide +kernel
set_option maxRecDepth 100000 in
theorem mok250 : mC250.all (mchk cX12_thinksOn) = true := by decide +kernel
set_option maxRecDepth 100000 in
theorem mow250 : mC250.all (mown 12) = true := by decide +kernel
set_option maxRecDepth 100000 in
theorem mok251 : mC251.all (mchk cX12_winter) = true := by decide +kernel
set_option maxRecDepth 100000 in
theorem mow251 : mC251.all (mown 12) = true := by decide +kernel
set_option maxRecDepth 100000 in
theorem mok252 : mC252.all (mchk cX12_settled) = true := by decide +kernel
set_option maxRecDepth 100000 in
theorem mow252 : mC252.all (mown 12) = true := by decide +kernel
set_option maxRecDepth 100000 in
theorem mok253 : mC253.all (mchk cX12_sitAsThen) = true := by decide +kernel
set_option maxRecDepth 100000 in
theorem mow253 : mC253.all (mown 12) = true := by decide +kernel
set_option maxRecDepth 100000 in
theorem mok254 : mC254.all (mchk cX12_round) = true := by decide +kernel
set_option maxRecDepth 100000 in
theorem mow254 : mC254.all (mown 12) = true := by decide +kernel
set_option maxRecDepth 100000 in
theorem mok255 : mC255.all (mchk cX12_always) = true := by decide +kernel
set_option maxRecDepth 100000 in
theorem mow255 : mC255.all (mown 12) = true := by decide +kernel
set_option maxRecDepth 100000 in
theorem mok256 : mC256.all (mchk cX12_catWorth) = true := by decide +kernel
set_option maxRecDepth 100000 in
theorem mow256 : mC256.all (mown 12) = true := by decide +kernel
set_option maxRecDepth 100000 in
theorem mok257 : mC257.all (mchk cX12_bits) = true := by decide +kernel
set_option maxRecDepth 100000 in
theorem mow257 : mC257.all (mown 12) = true := by decide +kernel
set_option maxRecDepth 100000 in
theorem mok258 : mC258.all (mchk cX12_movesTo) = true := by decide +kernel
set_option maxRecDepth 100000 in
theorem mow258 : mC258.all (mown 12) = true := by decide +kernel
set_option maxRecDepth 100000 in
theorem mok259 : mC259.all (mchk cX12_evenBy) = true := by decide +kernel
set_option maxRecDepth 100000 in
theorem mow259 : mC259.all (mown 12) = true := by decide +kernel
set_option maxRecDepth 100000 in
theorem mok260 : mC260.all (mchk cX12_spread) = true := by decide +kernel
set_option maxRecDepth 100000 in
theorem mow260 : mC260.all (mown 12) = true := by decide +kernel
set_option maxRecDepth 100000 in
theorem mok261 : mC261.all (mchk cX12_later) = true := by decide +kernel
set_option maxRecDepth 100000 in
theorem mow261 : mC261.all (mown 12) = true := by decide +kernel
set_option maxRecDepth 100000 in
theorem mok262 : mC262.all (mchk cX12_stayed) = true := by decide +kernel
set_option maxRecDepth 100000 in
theorem mow262 : mC262.all (mown 12) = true := by decide +kernel
set_option maxRecDepth 100000 in
theorem mok263 : mC263.all (mchk cX12_endsAs) = true := by decide +kernel
set_option maxRecDepth 100000 in
theorem mow263 : mC263.all (mown 12) = true := by decide +kernel
set_option maxRecDepth 100000 in
theorem mok264 : mC264.all (mchk cX12_hoursTill) = true := by decide +kernel
set_option maxRecDepth 100000 in
theorem mow264 : mC264.all (mown 12) = true := by decide +kernel
set_option maxRecDepth 100000 in
theorem mok265 : mC265.all (mchk cX12_lured) = true := by decide +kernel
set_option maxRecDepth 100000 in
theorem mow265 : mC265.all (mown 12) = true := by decide +kernel
set_option maxRecDepth 100000 in
theorem mok266 : mC266.all (mchk cX12_right) = true := by decide +kernel
set_option maxRecDepth 100000 in
theorem mow266 : mC266.all (mown 12) = true := by decide +kernel
set_option maxRecDepth 100000 in
theorem mok267 : mC267.all (mchk cX12_worstBird) = true := by decide +kernel
set_option maxRecDepth 100000 in
theorem mow267 : mC267.all (mown 12) = true := by decide +kernel
set_option maxRecDepth 100000 in
theorem mok268 : mC268.all (mchk cX12_gather) = true := by decide +kernel
set_option maxRecDepth 100000 in
theorem mow268 : mC268.all (mown 12) = true := by decide +kernel
set_option maxRecDepth 100000 in
theorem mok269 : mC269.all (mchk cX12_row) = true := by decide +kernel
set_option maxRecDepth 100000 in
theorem mow269 : mC269.all (mown 12) = true := by decide +kernel
set_option maxRecDepth 100000 in
theorem mok270 : mC270.all (mchk cX12_judge) = true := by decide +kernel
set_option maxRecDepth 100000 in
theorem mow270 : mC270.all (mown 12) = true := by decide +kernel
set_option maxRecDepth 100000 in
theorem mok271 : mC271.all (mchk cX12_clear) = true := by decide +kernel
set_option maxRecDepth 100000 in
theorem mow271 : mC271.all (mown 12) = true := by decide +kernel
set_option maxRecDepth 100000 in
theorem mok272 : mC272.all (mchk cX12_lots) = true := by decide +kernel
set_option maxRecDepth 100000 in
theorem mow272 : mC272.all (mown 12) = true := by decide +kernel
set_option maxRecDepth 100000 in
theorem mok273 : mC273.all (mchk cX12_count) = true := by decide +kernel
set_option maxRecDepth 100000 in
theorem mow273 : mC273.all (mown 12) = true := by decide +kernel
def mCL0 : List mIt := [(0, 2, 6, 11, 0), (3, 0, 15, 0, 0), (4, 4, 2, 23, 0), (7, 0, 9, 1, 0), (8, 2, 6, 12, 0), (11, 0, 15, 0, 0), (12, 4, 2, 24, 0), (15, 0, 9, 2, 0), (16, 0, 0, 0, 0), (17, 0, 7, 3, 0), (18, 0, 3, 3, 0), (19, 0, 5, 0, 0), (20, 2, 5, 0, 0), (21, 0, 0, 0, 5), (22, 0, 12, 1, 0), (23, 1, 1, 4, 1421), (26, 0, 5, 0, 0), (27, 0, 3, 3, 0), (28, 2, 2, 0, 0), (29, 0, 1, 0, 63), (31, 0, 12, 3, 0), (32, 1, 3, 8, 216), (248, 0, 5, 1, 0), (249, 0, 5, 0, 0), (250, 0, 3, 3, 0), (251, 0, 0, 0, 1), (252, 0, 12, 0, 0), (253, 2, 2, 0, 0), (254, 4, 0, 158, 0), (257, 0, 5, 2, 0), (258, 0, 5, 0, 0), (259, 0, 3, 3, 0), (260, 0, 0, 0, 1), (261, 0, 12, 0, 0), (262, 2, 2, 0, 0), (263, 4, 0, 159, 0), (266, 1, 1, 0, 1172), (269, 0, 0, 0, 0), (270, 3, 0, 0, 0), (271, 0, 5, 1, 0), (272, 4, 0, 160, 0), (275, 0, 14, 0, 0), (276, 0, 5, 2, 0), (277, 4, 0, 161, 0), (280, 0, 14, 0, 0), (281, 1, 2, 0, 1157), (284, 0, 5, 1, 0), (285, 0, 5, 0, 0), (286, 0, 3, 3, 0), (287, 0, 0, 0, 1), (288, 0, 12, 0, 0), (289, 2, 2, 0, 0), (290, 0, 5, 0, 0), (291, 0, 3, 3, 0), (292, 0, 0, 0, 2), (293, 0, 12, 0, 0), (294, 2, 2, 0, 0), (295, 4, 0, 162, 0), (298, 0, 14, 0, 0), (299, 0, 5, 2, 0)]
set_option maxRecDepth 100000 in
theorem mokL0 : mCL0.all (mchk code) = true := by decide +kernel
def mCL1 : List mIt := [(300, 0, 5, 0, 0), (301, 0, 3, 3, 0), (302, 0, 0, 0, 1), (303, 0, 12, 0, 0), (304, 2, 2, 0, 0), (305, 0, 5, 0, 0), (306, 0, 3, 3, 0), (307, 0, 0, 0, 2), (308, 0, 12, 0, 0), (309, 2, 2, 0, 0), (310, 4, 0, 163, 0), (313, 0, 14, 0, 0), (314, 1, 2, 0, 1124), (317, 0, 5, 1, 0), (318, 0, 5, 0, 0), (319, 0, 3, 3, 0), (320, 0, 0, 0, 1), (321, 0, 12, 0, 0), (322, 2, 2, 0, 0), (323, 0, 5, 0, 0), (324, 0, 3, 3, 0), (325, 0, 0, 0, 2), (326, 0, 12, 0, 0), (327, 2, 2, 0, 0), (328, 0, 5, 0, 0), (329, 0, 3, 3, 0), (330, 0, 0, 0, 3), (331, 0, 12, 0, 0), (332, 2, 2, 0, 0), (333, 4, 0, 164, 0), (336, 0, 14, 0, 0), (337, 0, 5, 2, 0), (338, 0, 5, 0, 0), (339, 0, 3, 3, 0), (340, 0, 0, 0, 1), (341, 0, 12, 0, 0), (342, 2, 2, 0, 0), (343, 0, 5, 0, 0), (344, 0, 3, 3, 0), (345, 0, 0, 0, 2), (346, 0, 12, 0, 0), (347, 2, 2, 0, 0), (348, 0, 5, 0, 0), (349, 0, 3, 3, 0), (350, 0, 0, 0, 3), (351, 0, 12, 0, 0), (352, 2, 2, 0, 0), (353, 4, 0, 165, 0), (356, 0, 14, 0, 0), (357, 1, 2, 0, 1081), (360, 0, 5, 1, 0), (361, 0, 5, 0, 0), (362, 0, 3, 3, 0), (363, 0, 0, 0, 1), (364, 0, 12, 0, 0), (365, 2, 2, 0, 0), (366, 0, 5, 0, 0), (367, 0, 3, 3, 0), (368, 0, 0, 0, 2), (369, 0, 12, 0, 0)]
set_option maxRecDepth 100000 in
theorem mokL1 : mCL1.all (mchk code) = true := by decide +kernel
def mCL2 : List mIt := [(370, 2, 2, 0, 0), (371, 4, 0, 166, 0), (374, 0, 14, 0, 0), (375, 0, 5, 2, 0), (376, 0, 5, 0, 0), (377, 0, 3, 3, 0), (378, 0, 0, 0, 1), (379, 0, 12, 0, 0), (380, 2, 2, 0, 0), (381, 0, 5, 0, 0), (382, 0, 3, 3, 0), (383, 0, 0, 0, 2), (384, 0, 12, 0, 0), (385, 2, 2, 0, 0), (386, 4, 0, 167, 0), (389, 0, 14, 0, 0), (390, 1, 2, 0, 1048), (393, 0, 5, 1, 0), (394, 0, 5, 0, 0), (395, 0, 3, 3, 0), (396, 0, 0, 0, 1), (397, 0, 12, 0, 0), (398, 2, 2, 0, 0), (399, 0, 5, 0, 0), (400, 0, 3, 3, 0), (401, 0, 0, 0, 2), (402, 0, 12, 0, 0), (403, 2, 2, 0, 0), (404, 4, 0, 168, 0), (407, 0, 14, 0, 0), (408, 0, 5, 2, 0), (409, 0, 5, 0, 0), (410, 0, 3, 3, 0), (411, 0, 0, 0, 1), (412, 0, 12, 0, 0), (413, 2, 2, 0, 0), (414, 0, 5, 0, 0), (415, 0, 3, 3, 0), (416, 0, 0, 0, 2), (417, 0, 12, 0, 0), (418, 2, 2, 0, 0), (419, 4, 0, 169, 0), (422, 0, 14, 0, 0), (423, 1, 2, 0, 1015), (426, 0, 5, 1, 0), (427, 0, 5, 0, 0), (428, 0, 3, 3, 0), (429, 0, 0, 0, 1), (430, 0, 12, 0, 0), (431, 2, 2, 0, 0), (432, 4, 0, 170, 0), (435, 0, 14, 0, 0), (436, 0, 5, 2, 0), (437, 0, 5, 0, 0), (438, 0, 3, 3, 0), (439, 0, 0, 0, 1), (440, 0, 12, 0, 0), (441, 2, 2, 0, 0), (442, 4, 0, 171, 0), (445, 0, 14, 0, 0)]
set_option maxRecDepth 100000 in
theorem mokL2 : mCL2.all (mchk code) = true := by decide +kernel
def mCL3 : List mIt := [(446, 1, 2, 0, 992), (449, 0, 5, 1, 0), (450, 0, 5, 0, 0), (451, 0, 3, 3, 0), (452, 0, 0, 0, 1), (453, 0, 12, 0, 0), (454, 2, 2, 0, 0), (455, 4, 0, 172, 0), (458, 0, 14, 0, 0), (459, 0, 5, 2, 0), (460, 0, 5, 0, 0), (461, 0, 3, 3, 0), (462, 0, 0, 0, 1), (463, 0, 12, 0, 0), (464, 2, 2, 0, 0), (465, 4, 0, 173, 0), (468, 0, 14, 0, 0), (469, 1, 2, 0, 969), (472, 0, 5, 1, 0), (473, 0, 5, 0, 0), (474, 0, 3, 3, 0), (475, 0, 0, 0, 1), (476, 0, 12, 0, 0), (477, 2, 2, 0, 0), (478, 4, 0, 174, 0), (481, 0, 14, 0, 0), (482, 0, 5, 2, 0), (483, 0, 5, 0, 0), (484, 0, 3, 3, 0), (485, 0, 0, 0, 1), (486, 0, 12, 0, 0), (487, 2, 2, 0, 0), (488, 4, 0, 175, 0), (491, 0, 14, 0, 0), (492, 1, 2, 0, 946), (495, 0, 5, 1, 0), (496, 4, 0, 176, 0), (499, 0, 14, 0, 0), (500, 0, 5, 2, 0), (501, 4, 0, 177, 0), (504, 0, 14, 0, 0), (505, 1, 2, 0, 933), (508, 0, 5, 1, 0), (509, 4, 0, 178, 0), (512, 0, 14, 0, 0), (513, 0, 5, 2, 0), (514, 4, 0, 179, 0), (517, 0, 14, 0, 0), (518, 1, 2, 0, 920), (521, 0, 5, 1, 0), (522, 4, 0, 180, 0), (525, 0, 14, 0, 0), (526, 0, 5, 2, 0), (527, 4, 0, 181, 0), (530, 0, 14, 0, 0), (531, 1, 2, 0, 907), (534, 0, 5, 1, 0), (535, 0, 5, 0, 0), (536, 0, 3, 3, 0), (537, 0, 0, 0, 1)]
set_option maxRecDepth 100000 in
theorem mokL3 : mCL3.all (mchk code) = true := by decide +kernel
def mCL4 : List mIt := [(538, 0, 12, 0, 0), (539, 2, 2, 0, 0), (540, 0, 5, 0, 0), (541, 0, 3, 3, 0), (542, 0, 0, 0, 2), (543, 0, 12, 0, 0), (544, 2, 2, 0, 0), (545, 4, 0, 182, 0), (548, 0, 14, 0, 0), (549, 0, 5, 2, 0), (550, 0, 5, 0, 0), (551, 0, 3, 3, 0), (552, 0, 0, 0, 1), (553, 0, 12, 0, 0), (554, 2, 2, 0, 0), (555, 0, 5, 0, 0), (556, 0, 3, 3, 0), (557, 0, 0, 0, 2), (558, 0, 12, 0, 0), (559, 2, 2, 0, 0), (560, 4, 0, 183, 0), (563, 0, 14, 0, 0), (564, 1, 2, 0, 874), (567, 0, 5, 1, 0), (568, 0, 5, 0, 0), (569, 0, 3, 3, 0), (570, 0, 0, 0, 1), (571, 0, 12, 0, 0), (572, 2, 2, 0, 0), (573, 0, 5, 0, 0), (574, 0, 3, 3, 0), (575, 0, 0, 0, 2), (576, 0, 12, 0, 0), (577, 2, 2, 0, 0), (578, 4, 0, 184, 0), (581, 0, 14, 0, 0), (582, 0, 5, 2, 0), (583, 0, 5, 0, 0), (584, 0, 3, 3, 0), (585, 0, 0, 0, 1), (586, 0, 12, 0, 0), (587, 2, 2, 0, 0), (588, 0, 5, 0, 0), (589, 0, 3, 3, 0), (590, 0, 0, 0, 2), (591, 0, 12, 0, 0), (592, 2, 2, 0, 0), (593, 4, 0, 185, 0), (596, 0, 14, 0, 0), (597, 1, 2, 0, 841), (600, 0, 5, 1, 0), (601, 4, 0, 186, 0), (604, 0, 14, 0, 0), (605, 0, 5, 2, 0), (606, 4, 0, 187, 0), (609, 0, 14, 0, 0), (610, 1, 2, 0, 828), (613, 0, 5, 1, 0), (614, 0, 5, 0, 0), (615, 0, 3, 3, 0)]
set_option maxRecDepth 100000 in
theorem mokL4 : mCL4.all (mchk code) = true := by decide +kernel
def mCL5 : List mIt := [(616, 0, 0, 0, 1), (617, 0, 12, 0, 0), (618, 2, 2, 0, 0), (619, 4, 0, 188, 0), (622, 0, 14, 0, 0), (623, 0, 5, 2, 0), (624, 0, 5, 0, 0), (625, 0, 3, 3, 0), (626, 0, 0, 0, 1), (627, 0, 12, 0, 0), (628, 2, 2, 0, 0), (629, 4, 0, 189, 0), (632, 0, 14, 0, 0), (633, 1, 2, 0, 805), (636, 0, 5, 1, 0), (637, 0, 5, 0, 0), (638, 0, 3, 3, 0), (639, 0, 0, 0, 1), (640, 0, 12, 0, 0), (641, 2, 2, 0, 0), (642, 0, 5, 0, 0), (643, 0, 3, 3, 0), (644, 0, 0, 0, 2), (645, 0, 12, 0, 0), (646, 2, 2, 0, 0), (647, 4, 0, 190, 0), (650, 0, 14, 0, 0), (651, 0, 5, 2, 0), (652, 0, 5, 0, 0), (653, 0, 3, 3, 0), (654, 0, 0, 0, 1), (655, 0, 12, 0, 0), (656, 2, 2, 0, 0), (657, 0, 5, 0, 0), (658, 0, 3, 3, 0), (659, 0, 0, 0, 2), (660, 0, 12, 0, 0), (661, 2, 2, 0, 0), (662, 4, 0, 191, 0), (665, 0, 14, 0, 0), (666, 1, 2, 0, 772), (669, 0, 5, 1, 0), (670, 0, 5, 0, 0), (671, 0, 3, 3, 0), (672, 0, 0, 0, 1), (673, 0, 12, 0, 0), (674, 2, 2, 0, 0), (675, 4, 0, 192, 0), (678, 0, 14, 0, 0), (679, 0, 5, 2, 0), (680, 0, 5, 0, 0), (681, 0, 3, 3, 0), (682, 0, 0, 0, 1), (683, 0, 12, 0, 0), (684, 2, 2, 0, 0), (685, 4, 0, 193, 0), (688, 0, 14, 0, 0), (689, 1, 2, 0, 749), (692, 0, 5, 1, 0), (693, 0, 5, 0, 0)]
set_option maxRecDepth 100000 in
theorem mokL5 : mCL5.all (mchk code) = true := by decide +kernel
def mCL6 : List mIt := [(694, 0, 3, 3, 0), (695, 0, 0, 0, 1), (696, 0, 12, 0, 0), (697, 2, 2, 0, 0), (698, 4, 0, 194, 0), (701, 0, 14, 0, 0), (702, 0, 5, 2, 0), (703, 0, 5, 0, 0), (704, 0, 3, 3, 0), (705, 0, 0, 0, 1), (706, 0, 12, 0, 0), (707, 2, 2, 0, 0), (708, 4, 0, 195, 0), (711, 0, 14, 0, 0), (712, 1, 2, 0, 726), (715, 0, 5, 1, 0), (716, 4, 0, 196, 0), (719, 0, 14, 0, 0), (720, 0, 5, 2, 0), (721, 4, 0, 197, 0), (724, 0, 14, 0, 0), (725, 1, 2, 0, 713), (728, 0, 5, 1, 0), (729, 0, 5, 0, 0), (730, 0, 3, 3, 0), (731, 0, 0, 0, 1), (732, 0, 12, 0, 0), (733, 2, 2, 0, 0), (734, 4, 0, 198, 0), (737, 0, 14, 0, 0), (738, 0, 5, 2, 0), (739, 0, 5, 0, 0), (740, 0, 3, 3, 0), (741, 0, 0, 0, 1), (742, 0, 12, 0, 0), (743, 2, 2, 0, 0), (744, 4, 0, 199, 0), (747, 0, 14, 0, 0), (748, 1, 2, 0, 690), (751, 0, 5, 1, 0), (752, 4, 0, 200, 0), (755, 0, 14, 0, 0), (756, 0, 5, 2, 0), (757, 4, 0, 201, 0), (760, 0, 14, 0, 0), (761, 1, 2, 0, 677), (764, 0, 5, 1, 0), (765, 0, 5, 0, 0), (766, 0, 3, 3, 0), (767, 0, 0, 0, 1), (768, 0, 12, 0, 0), (769, 2, 2, 0, 0), (770, 4, 0, 202, 0), (773, 0, 14, 0, 0), (774, 0, 5, 2, 0), (775, 0, 5, 0, 0), (776, 0, 3, 3, 0), (777, 0, 0, 0, 1), (778, 0, 12, 0, 0), (779, 2, 2, 0, 0)]
set_option maxRecDepth 100000 in
theorem mokL6 : mCL6.all (mchk code) = true := by decide +kernel
def mCL7 : List mIt := [(780, 4, 0, 203, 0), (783, 0, 14, 0, 0), (784, 1, 2, 0, 654), (787, 0, 5, 1, 0), (788, 0, 5, 0, 0), (789, 0, 3, 3, 0), (790, 0, 0, 0, 1), (791, 0, 12, 0, 0), (792, 2, 2, 0, 0), (793, 4, 0, 204, 0), (796, 0, 14, 0, 0), (797, 0, 5, 2, 0), (798, 0, 5, 0, 0), (799, 0, 3, 3, 0), (800, 0, 0, 0, 1), (801, 0, 12, 0, 0), (802, 2, 2, 0, 0), (803, 4, 0, 205, 0), (806, 0, 14, 0, 0), (807, 1, 2, 0, 631), (810, 0, 5, 1, 0), (811, 0, 5, 0, 0), (812, 0, 3, 3, 0), (813, 0, 0, 0, 1), (814, 0, 12, 0, 0), (815, 2, 2, 0, 0), (816, 4, 0, 206, 0), (819, 0, 14, 0, 0), (820, 0, 5, 2, 0), (821, 0, 5, 0, 0), (822, 0, 3, 3, 0), (823, 0, 0, 0, 1), (824, 0, 12, 0, 0), (825, 2, 2, 0, 0), (826, 4, 0, 207, 0), (829, 0, 14, 0, 0), (830, 1, 2, 0, 608), (833, 0, 5, 1, 0), (834, 0, 5, 0, 0), (835, 0, 3, 3, 0), (836, 0, 0, 0, 1), (837, 0, 12, 0, 0), (838, 2, 2, 0, 0), (839, 0, 5, 0, 0), (840, 0, 3, 3, 0), (841, 0, 0, 0, 2), (842, 0, 12, 0, 0), (843, 2, 2, 0, 0), (844, 4, 0, 208, 0), (847, 0, 14, 0, 0), (848, 0, 5, 2, 0), (849, 0, 5, 0, 0), (850, 0, 3, 3, 0), (851, 0, 0, 0, 1), (852, 0, 12, 0, 0), (853, 2, 2, 0, 0), (854, 0, 5, 0, 0), (855, 0, 3, 3, 0), (856, 0, 0, 0, 2), (857, 0, 12, 0, 0)]
set_option maxRecDepth 100000 in
theorem mokL7 : mCL7.all (mchk code) = true := by decide +kernel
def mCL8 : List mIt := [(858, 2, 2, 0, 0), (859, 4, 0, 209, 0), (862, 0, 14, 0, 0), (863, 1, 2, 0, 575), (866, 0, 5, 1, 0), (867, 0, 5, 0, 0), (868, 0, 3, 3, 0), (869, 0, 0, 0, 1), (870, 0, 12, 0, 0), (871, 2, 2, 0, 0), (872, 4, 0, 210, 0), (875, 0, 14, 0, 0), (876, 0, 5, 2, 0), (877, 0, 5, 0, 0), (878, 0, 3, 3, 0), (879, 0, 0, 0, 1), (880, 0, 12, 0, 0), (881, 2, 2, 0, 0), (882, 4, 0, 211, 0), (885, 0, 14, 0, 0), (886, 1, 2, 0, 552), (889, 0, 5, 1, 0), (890, 0, 5, 0, 0), (891, 0, 3, 3, 0), (892, 0, 0, 0, 1), (893, 0, 12, 0, 0), (894, 2, 2, 0, 0), (895, 4, 0, 212, 0), (898, 0, 14, 0, 0), (899, 0, 5, 2, 0), (900, 0, 5, 0, 0), (901, 0, 3, 3, 0), (902, 0, 0, 0, 1), (903, 0, 12, 0, 0), (904, 2, 2, 0, 0), (905, 4, 0, 213, 0), (908, 0, 14, 0, 0), (909, 1, 2, 0, 529), (912, 0, 5, 1, 0), (913, 0, 5, 0, 0), (914, 0, 3, 3, 0), (915, 0, 0, 0, 1), (916, 0, 12, 0, 0), (917, 2, 2, 0, 0), (918, 0, 5, 0, 0), (919, 0, 3, 3, 0), (920, 0, 0, 0, 2), (921, 0, 12, 0, 0), (922, 2, 2, 0, 0), (923, 0, 5, 0, 0), (924, 0, 3, 3, 0), (925, 0, 0, 0, 3), (926, 0, 12, 0, 0), (927, 2, 2, 0, 0), (928, 0, 5, 0, 0), (929, 0, 3, 3, 0), (930, 0, 0, 0, 4), (931, 0, 12, 0, 0), (932, 2, 2, 0, 0), (933, 4, 0, 214, 0)]
set_option maxRecDepth 100000 in
theorem mokL8 : mCL8.all (mchk code) = true := by decide +kernel
def mCL9 : List mIt := [(936, 0, 14, 0, 0), (937, 0, 5, 2, 0), (938, 0, 5, 0, 0), (939, 0, 3, 3, 0), (940, 0, 0, 0, 1), (941, 0, 12, 0, 0), (942, 2, 2, 0, 0), (943, 0, 5, 0, 0), (944, 0, 3, 3, 0), (945, 0, 0, 0, 2), (946, 0, 12, 0, 0), (947, 2, 2, 0, 0), (948, 0, 5, 0, 0), (949, 0, 3, 3, 0), (950, 0, 0, 0, 3), (951, 0, 12, 0, 0), (952, 2, 2, 0, 0), (953, 0, 5, 0, 0), (954, 0, 3, 3, 0), (955, 0, 0, 0, 4), (956, 0, 12, 0, 0), (957, 2, 2, 0, 0), (958, 4, 0, 215, 0), (961, 0, 14, 0, 0), (962, 1, 2, 0, 476), (965, 0, 5, 1, 0), (966, 0, 5, 0, 0), (967, 0, 3, 3, 0), (968, 0, 0, 0, 1), (969, 0, 12, 0, 0), (970, 2, 2, 0, 0), (971, 4, 0, 216, 0), (974, 0, 14, 0, 0), (975, 0, 5, 2, 0), (976, 0, 5, 0, 0), (977, 0, 3, 3, 0), (978, 0, 0, 0, 1), (979, 0, 12, 0, 0), (980, 2, 2, 0, 0), (981, 4, 0, 217, 0), (984, 0, 14, 0, 0), (985, 1, 2, 0, 453), (988, 0, 5, 1, 0), (989, 0, 5, 0, 0), (990, 0, 3, 3, 0), (991, 0, 0, 0, 1), (992, 0, 12, 0, 0), (993, 2, 2, 0, 0), (994, 4, 0, 218, 0), (997, 0, 14, 0, 0), (998, 0, 5, 2, 0), (999, 0, 5, 0, 0), (1000, 0, 3, 3, 0), (1001, 0, 0, 0, 1), (1002, 0, 12, 0, 0), (1003, 2, 2, 0, 0), (1004, 4, 0, 219, 0), (1007, 0, 14, 0, 0), (1008, 1, 2, 0, 430), (1011, 0, 5, 1, 0)]
set_option maxRecDepth 100000 in
theorem mokL9 : mCL9.all (mchk code) = true := by decide +kernel
def mCL10 : List mIt := [(1012, 0, 5, 0, 0), (1013, 0, 3, 3, 0), (1014, 0, 0, 0, 1), (1015, 0, 12, 0, 0), (1016, 2, 2, 0, 0), (1017, 4, 0, 220, 0), (1020, 0, 14, 0, 0), (1021, 0, 5, 2, 0), (1022, 0, 5, 0, 0), (1023, 0, 3, 3, 0), (1024, 0, 0, 0, 1), (1025, 0, 12, 0, 0), (1026, 2, 2, 0, 0), (1027, 4, 0, 221, 0), (1030, 0, 14, 0, 0), (1031, 1, 2, 0, 407), (1034, 0, 5, 1, 0), (1035, 4, 0, 222, 0), (1038, 0, 14, 0, 0), (1039, 0, 5, 2, 0), (1040, 4, 0, 223, 0), (1043, 0, 14, 0, 0), (1044, 1, 2, 0, 394), (1047, 0, 5, 1, 0), (1048, 4, 0, 224, 0), (1051, 0, 14, 0, 0), (1052, 0, 5, 2, 0), (1053, 4, 0, 225, 0), (1056, 0, 14, 0, 0), (1057, 1, 2, 0, 381), (1060, 0, 5, 1, 0), (1061, 0, 5, 0, 0), (1062, 0, 3, 3, 0), (1063, 0, 0, 0, 1), (1064, 0, 12, 0, 0), (1065, 2, 2, 0, 0), (1066, 0, 5, 0, 0), (1067, 0, 3, 3, 0), (1068, 0, 0, 0, 2), (1069, 0, 12, 0, 0), (1070, 2, 2, 0, 0), (1071, 4, 0, 226, 0), (1074, 0, 14, 0, 0), (1075, 0, 5, 2, 0), (1076, 0, 5, 0, 0), (1077, 0, 3, 3, 0), (1078, 0, 0, 0, 1), (1079, 0, 12, 0, 0), (1080, 2, 2, 0, 0), (1081, 0, 5, 0, 0), (1082, 0, 3, 3, 0), (1083, 0, 0, 0, 2), (1084, 0, 12, 0, 0), (1085, 2, 2, 0, 0), (1086, 4, 0, 227, 0), (1089, 0, 14, 0, 0), (1090, 1, 2, 0, 348), (1093, 0, 5, 1, 0), (1094, 4, 0, 228, 0), (1097, 0, 14, 0, 0)]
set_option maxRecDepth 100000 in
theorem mokL10 : mCL10.all (mchk code) = true := by decide +kernel
def mCL11 : List mIt := [(1098, 0, 5, 2, 0), (1099, 4, 0, 229, 0), (1102, 0, 14, 0, 0), (1103, 1, 2, 0, 335), (1106, 0, 5, 1, 0), (1107, 0, 5, 0, 0), (1108, 0, 3, 3, 0), (1109, 0, 0, 0, 1), (1110, 0, 12, 0, 0), (1111, 2, 2, 0, 0), (1112, 4, 0, 230, 0), (1115, 0, 14, 0, 0), (1116, 0, 5, 2, 0), (1117, 0, 5, 0, 0), (1118, 0, 3, 3, 0), (1119, 0, 0, 0, 1), (1120, 0, 12, 0, 0), (1121, 2, 2, 0, 0), (1122, 4, 0, 231, 0), (1125, 0, 14, 0, 0), (1126, 1, 2, 0, 312), (1129, 0, 5, 1, 0), (1130, 0, 5, 0, 0), (1131, 0, 3, 3, 0), (1132, 0, 0, 0, 1), (1133, 0, 12, 0, 0), (1134, 2, 2, 0, 0), (1135, 0, 5, 0, 0), (1136, 0, 3, 3, 0), (1137, 0, 0, 0, 2), (1138, 0, 12, 0, 0), (1139, 2, 2, 0, 0), (1140, 4, 0, 232, 0), (1143, 0, 14, 0, 0), (1144, 0, 5, 2, 0), (1145, 0, 5, 0, 0), (1146, 0, 3, 3, 0), (1147, 0, 0, 0, 1), (1148, 0, 12, 0, 0), (1149, 2, 2, 0, 0), (1150, 0, 5, 0, 0), (1151, 0, 3, 3, 0), (1152, 0, 0, 0, 2), (1153, 0, 12, 0, 0), (1154, 2, 2, 0, 0), (1155, 4, 0, 233, 0), (1158, 0, 14, 0, 0), (1159, 1, 2, 0, 279), (1162, 0, 5, 1, 0), (1163, 0, 5, 0, 0), (1164, 0, 3, 3, 0), (1165, 0, 0, 0, 1), (1166, 0, 12, 0, 0), (1167, 2, 2, 0, 0), (1168, 4, 0, 234, 0), (1171, 0, 14, 0, 0), (1172, 0, 5, 2, 0), (1173, 0, 5, 0, 0), (1174, 0, 3, 3, 0), (1175, 0, 0, 0, 1)]
set_option maxRecDepth 100000 in
theorem mokL11 : mCL11.all (mchk code) = true := by decide +kernel
def mCL12 : List mIt := [(1176, 0, 12, 0, 0), (1177, 2, 2, 0, 0), (1178, 4, 0, 235, 0), (1181, 0, 14, 0, 0), (1182, 1, 2, 0, 256), (1185, 0, 5, 1, 0), (1186, 0, 5, 0, 0), (1187, 0, 3, 3, 0), (1188, 0, 0, 0, 1), (1189, 0, 12, 0, 0), (1190, 2, 2, 0, 0), (1191, 0, 5, 0, 0), (1192, 0, 3, 3, 0), (1193, 0, 0, 0, 2), (1194, 0, 12, 0, 0), (1195, 2, 2, 0, 0), (1196, 0, 5, 0, 0), (1197, 0, 3, 3, 0), (1198, 0, 0, 0, 3), (1199, 0, 12, 0, 0), (1200, 2, 2, 0, 0), (1201, 4, 0, 236, 0), (1204, 0, 14, 0, 0), (1205, 0, 5, 2, 0), (1206, 0, 5, 0, 0), (1207, 0, 3, 3, 0), (1208, 0, 0, 0, 1), (1209, 0, 12, 0, 0), (1210, 2, 2, 0, 0), (1211, 0, 5, 0, 0), (1212, 0, 3, 3, 0), (1213, 0, 0, 0, 2), (1214, 0, 12, 0, 0), (1215, 2, 2, 0, 0), (1216, 0, 5, 0, 0), (1217, 0, 3, 3, 0), (1218, 0, 0, 0, 3), (1219, 0, 12, 0, 0), (1220, 2, 2, 0, 0), (1221, 4, 0, 237, 0), (1224, 0, 14, 0, 0), (1225, 1, 2, 0, 213), (1228, 0, 5, 1, 0), (1229, 0, 5, 0, 0), (1230, 0, 3, 3, 0), (1231, 0, 0, 0, 1), (1232, 0, 12, 0, 0), (1233, 2, 2, 0, 0), (1234, 0, 5, 0, 0), (1235, 0, 3, 3, 0), (1236, 0, 0, 0, 2), (1237, 0, 12, 0, 0), (1238, 2, 2, 0, 0), (1239, 4, 0, 238, 0), (1242, 0, 14, 0, 0), (1243, 0, 5, 2, 0), (1244, 0, 5, 0, 0), (1245, 0, 3, 3, 0), (1246, 0, 0, 0, 1), (1247, 0, 12, 0, 0)]
set_option maxRecDepth 100000 in
theorem mokL12 : mCL12.all (mchk code) = true := by decide +kernel
def mCL13 : List mIt := [(1248, 2, 2, 0, 0), (1249, 0, 5, 0, 0), (1250, 0, 3, 3, 0), (1251, 0, 0, 0, 2), (1252, 0, 12, 0, 0), (1253, 2, 2, 0, 0), (1254, 4, 0, 239, 0), (1257, 0, 14, 0, 0), (1258, 1, 2, 0, 180), (1261, 0, 5, 1, 0), (1262, 4, 0, 240, 0), (1265, 0, 14, 0, 0), (1266, 0, 5, 2, 0), (1267, 4, 0, 241, 0), (1270, 0, 14, 0, 0), (1271, 1, 2, 0, 167), (1274, 0, 5, 1, 0), (1275, 0, 5, 0, 0), (1276, 0, 3, 3, 0), (1277, 0, 0, 0, 1), (1278, 0, 12, 0, 0), (1279, 2, 2, 0, 0), (1280, 4, 0, 242, 0), (1283, 0, 14, 0, 0), (1284, 0, 5, 2, 0), (1285, 0, 5, 0, 0), (1286, 0, 3, 3, 0), (1287, 0, 0, 0, 1), (1288, 0, 12, 0, 0), (1289, 2, 2, 0, 0), (1290, 4, 0, 243, 0), (1293, 0, 14, 0, 0), (1294, 1, 2, 0, 144), (1297, 0, 5, 1, 0), (1298, 0, 5, 0, 0), (1299, 0, 3, 3, 0), (1300, 0, 0, 0, 1), (1301, 0, 12, 0, 0), (1302, 2, 2, 0, 0), (1303, 4, 0, 244, 0), (1306, 0, 14, 0, 0), (1307, 0, 5, 2, 0), (1308, 0, 5, 0, 0), (1309, 0, 3, 3, 0), (1310, 0, 0, 0, 1), (1311, 0, 12, 0, 0), (1312, 2, 2, 0, 0), (1313, 4, 0, 245, 0), (1316, 0, 14, 0, 0), (1317, 1, 2, 0, 121), (1320, 0, 5, 1, 0), (1321, 4, 0, 246, 0), (1324, 0, 14, 0, 0), (1325, 0, 5, 2, 0), (1326, 4, 0, 247, 0), (1329, 0, 14, 0, 0), (1330, 1, 2, 0, 108), (1333, 0, 5, 1, 0), (1334, 4, 0, 248, 0), (1337, 0, 14, 0, 0)]
set_option maxRecDepth 100000 in
theorem mokL13 : mCL13.all (mchk code) = true := by decide +kernel
def mCL14 : List mIt := [(1338, 0, 5, 2, 0), (1339, 4, 0, 249, 0), (1342, 0, 14, 0, 0), (1343, 1, 2, 0, 95), (1346, 0, 5, 1, 0), (1347, 0, 5, 0, 0), (1348, 0, 3, 3, 0), (1349, 0, 0, 0, 1), (1350, 0, 12, 0, 0), (1351, 2, 2, 0, 0), (1352, 0, 5, 0, 0), (1353, 0, 3, 3, 0), (1354, 0, 0, 0, 2), (1355, 0, 12, 0, 0), (1356, 2, 2, 0, 0), (1357, 0, 5, 0, 0), (1358, 0, 3, 3, 0), (1359, 0, 0, 0, 3), (1360, 0, 12, 0, 0), (1361, 2, 2, 0, 0), (1362, 4, 0, 250, 0), (1365, 0, 14, 0, 0), (1366, 0, 5, 2, 0), (1367, 0, 5, 0, 0), (1368, 0, 3, 3, 0), (1369, 0, 0, 0, 1), (1370, 0, 12, 0, 0), (1371, 2, 2, 0, 0), (1372, 0, 5, 0, 0), (1373, 0, 3, 3, 0), (1374, 0, 0, 0, 2), (1375, 0, 12, 0, 0), (1376, 2, 2, 0, 0), (1377, 0, 5, 0, 0), (1378, 0, 3, 3, 0), (1379, 0, 0, 0, 3), (1380, 0, 12, 0, 0), (1381, 2, 2, 0, 0), (1382, 4, 0, 251, 0), (1385, 0, 14, 0, 0), (1386, 1, 2, 0, 52), (1389, 0, 5, 1, 0), (1390, 4, 0, 252, 0), (1393, 0, 14, 0, 0), (1394, 0, 5, 2, 0), (1395, 4, 0, 253, 0), (1398, 0, 14, 0, 0), (1399, 1, 2, 0, 39), (1402, 0, 5, 1, 0), (1403, 4, 0, 254, 0), (1406, 0, 14, 0, 0), (1407, 0, 5, 2, 0), (1408, 4, 0, 255, 0), (1411, 0, 14, 0, 0), (1412, 1, 2, 0, 26), (1415, 0, 5, 1, 0), (1416, 0, 5, 0, 0), (1417, 0, 3, 3, 0), (1418, 0, 0, 0, 1), (1419, 0, 12, 0, 0)]
set_option maxRecDepth 100000 in
theorem mokL14 : mCL14.all (mchk code) = true := by decide +kernel
def mCL15 : List mIt := [(1420, 2, 2, 0, 0), (1421, 4, 0, 256, 0), (1424, 0, 14, 0, 0), (1425, 0, 5, 2, 0), (1426, 0, 5, 0, 0), (1427, 0, 3, 3, 0), (1428, 0, 0, 0, 1), (1429, 0, 12, 0, 0), (1430, 2, 2, 0, 0), (1431, 4, 0, 257, 0), (1434, 0, 14, 0, 0), (1435, 1, 2, 0, 3), (1438, 0, 11, 3, 5), (1441, 1, 2, 0, -1423), (1444, 0, 0, 0, 1), (1445, 3, 0, 0, 0)]
set_option maxRecDepth 100000 in
theorem mokL15 : mCL15.all (mchk code) = true := by decide +kernel
theorem mokLs : mC274 = mCL0 ++ (mCL1 ++ (mCL2 ++ (mCL3 ++ (mCL4 ++ (mCL5 ++ (mCL6 ++ (mCL7 ++ (mCL8 ++ (mCL9 ++ (mCL10 ++ (mCL11 ++ (mCL12 ++ (mCL13 ++ (mCL14 ++ (mCL15))))))))))))))) := rfl
theorem mok274 : mC274.all (mchk code) = true := by
  rw [mokLs]
  simp only [List.all_append, mokL0, mokL1, mokL2, mokL3, mokL4, mokL5, mokL6, mokL7, mokL8, mokL9, mokL10, mokL11, mokL12, mokL13, mokL14, mokL15, Bool.and_self]
set_option maxRecDepth 100000 in
theorem mow274 : mC274.all (mown 18) = true := by decide +kernel
theorem mcode_all : ∀ y, y < 275 → (mCd y).all (mchk (mB y)) = true ∧ (mCd y).all (mown (mCno y)) = true := by
  intro y hy
  match y, hy with
  | 0, _ => exact ⟨mok0, mow0⟩
  | 1, _ => exact ⟨mok1, mow1⟩
  | 2, _ => exact ⟨mok2, mow2⟩
  | 3, _ => exact ⟨mok3, mow3⟩
  | 4, _ => exact ⟨mok4, mow4⟩
  | 5, _ => exact ⟨mok5, mow5⟩
  | 6, _ => exact ⟨mok6, mow6⟩
  | 7, _ => exact ⟨mok7, mow7⟩
  | 8, _ => exact ⟨mok8, mow8⟩
  | 9, _ => exact ⟨mok9, mow9⟩
  | 10, _ => exact ⟨mok10, mow10⟩
  | 11, _ => exact ⟨mok11, mow11⟩
  | 12, _ => exact ⟨mok12, mow12⟩
  | 13, _ => exact ⟨mok13, mow13⟩
  | 14, _ => exact ⟨mok14, mow14⟩
  | 15, _ => exact ⟨mok15, mow15⟩
  | 16, _ => exact ⟨mok16, mow16⟩
  | 17, _ => exact ⟨mok17, mow17⟩
  | 18, _ => exact ⟨mok18, mow18⟩
  | 19, _ => exact ⟨mok19, mow19⟩
  | 20, _ => exact ⟨mok20, mow20⟩
  | 21, _ => exact ⟨mok21, mow21⟩
  | 22, _ => exact ⟨mok22, mow22⟩
  | 23, _ => exact ⟨mok23, mow23⟩
  | 24, _ => exact ⟨mok24, mow24⟩
  | 25, _ => exact ⟨mok25, mow25⟩
  | 26, _ => exact ⟨mok26, mow26⟩
  | 27, _ => exact ⟨mok27, mow27⟩
  | 28, _ => exact ⟨mok28, mow28⟩
  | 29, _ => exact ⟨mok29, mow29⟩
  | 30, _ => exact ⟨mok30, mow30⟩
  | 31, _ => exact ⟨mok31, mow31⟩
  | 32, _ => exact ⟨mok32, mow32⟩
  | 33, _ => exact ⟨mok33, mow33⟩
  | 34, _ => exact ⟨mok34, mow34⟩
  | 35, _ => exact ⟨mok35, mow35⟩
  | 36, _ => exact ⟨mok36, mow36⟩
  | 37, _ => exact ⟨mok37, mow37⟩
  | 38, _ => exact ⟨mok38, mow38⟩
  | 39, _ => exact ⟨mok39, mow39⟩
  | 40, _ => exact ⟨mok40, mow40⟩
  | 41, _ => exact ⟨mok41, mow41⟩
  | 42, _ => exact ⟨mok42, mow42⟩
  | 43, _ => exact ⟨mok43, mow43⟩
  | 44, _ => exact ⟨mok44, mow44⟩
  | 45, _ => exact ⟨mok45, mow45⟩
  | 46, _ => exact ⟨mok46, mow46⟩
  | 47, _ => exact ⟨mok47, mow47⟩
  | 48, _ => exact ⟨mok48, mow48⟩
  | 49, _ => exact ⟨mok49, mow49⟩
  | 50, _ => exact ⟨mok50, mow50⟩
  | 51, _ => exact ⟨mok51, mow51⟩
  | 52, _ => exact ⟨mok52, mow52⟩
  | 53, _ => exact ⟨mok53, mow53⟩
  | 54, _ => exact ⟨mok54, mow54⟩
  | 55, _ => exact ⟨mok55, mow55⟩
  | 56, _ => exact ⟨mok56, mow56⟩
  | 57, _ => exact ⟨mok57, mow57⟩
  | 58, _ => exact ⟨mok58, mow58⟩
  | 59, _ => exact ⟨mok59, mow59⟩
  | 60, _ => exact ⟨mok60, mow60⟩
  | 61, _ => exact ⟨mok61, mow61⟩
  | 62, _ => exact ⟨mok62, mow62⟩
  | 63, _ => exact ⟨mok63, mow63⟩
  | 64, _ => exact ⟨mok64, mow64⟩
  | 65, _ => exact ⟨mok65, mow65⟩
  | 66, _ => exact ⟨mok66, mow66⟩
  | 67, _ => exact ⟨mok67, mow67⟩
  | 68, _ => exact ⟨mok68, mow68⟩
  | 69, _ => exact ⟨mok69, mow69⟩
  | 70, _ => exact ⟨mok70, mow70⟩
  | 71, _ => exact ⟨mok71, mow71⟩
  | 72, _ => exact ⟨mok72, mow72⟩
  | 73, _ => exact ⟨mok73, mow73⟩
  | 74, _ => exact ⟨mok74, mow74⟩
  | 75, _ => exact ⟨mok75, mow75⟩
  | 76, _ => exact ⟨mok76, mow76⟩
  | 77, _ => exact ⟨mok77, mow77⟩
  | 78, _ => exact ⟨mok78, mow78⟩
  | 79, _ => exact ⟨mok79, mow79⟩
  | 80, _ => exact ⟨mok80, mow80⟩
  | 81, _ => exact ⟨mok81, mow81⟩
  | 82, _ => exact ⟨mok82, mow82⟩
  | 83, _ => exact ⟨mok83, mow83⟩
  | 84, _ => exact ⟨mok84, mow84⟩
  | 85, _ => exact ⟨mok85, mow85⟩
  | 86, _ => exact ⟨mok86, mow86⟩
  | 87, _ => exact ⟨mok87, mow87⟩
  | 88, _ => exact ⟨mok88, mow88⟩
  | 89, _ => exact ⟨mok89, mow89⟩
  | 90, _ => exact ⟨mok90, mow90⟩
  | 91, _ => exact ⟨mok91, mow91⟩
  | 92, _ => exact ⟨mok92, mow92⟩
  | 93, _ => exact ⟨mok93, mow93⟩
  | 94, _ => exact ⟨mok94, mow94⟩
  | 95, _ => exact ⟨mok95, mow95⟩
  | 96, _ => exact ⟨mok96, mow96⟩
  | 97, _ => exact ⟨mok97, mow97⟩
  | 98, _ => exact ⟨mok98, mow98⟩
  | 99, _ => exact ⟨mok99, mow99⟩
  | 100, _ => exact ⟨mok100, mow100⟩
  | 101, _ => exact ⟨mok101, mow101⟩
  | 102, _ => exact ⟨mok102, mow102⟩
  | 103, _ => exact ⟨mok103, mow103⟩
  | 104, _ => exact ⟨mok104, mow104⟩
  | 105, _ => exact ⟨mok105, mow105⟩
  | 106, _ => exact ⟨mok106, mow106⟩
  | 107, _ => exact ⟨mok107, mow107⟩
  | 108, _ => exact ⟨mok108, mow108⟩
  | 109, _ => exact ⟨mok109, mow109⟩
  | 110, _ => exact ⟨mok110, mow110⟩
  | 111, _ => exact ⟨mok111, mow111⟩
  | 112, _ => exact ⟨mok112, mow112⟩
  | 113, _ => exact ⟨mok113, mow113⟩
  | 114, _ => exact ⟨mok114, mow114⟩
  | 115, _ => exact ⟨mok115, mow115⟩
  | 116, _ => exact ⟨mok116, mow116⟩
  | 117, _ => exact ⟨mok117, mow117⟩
  | 118, _ => exact ⟨mok118, mow118⟩
  | 119, _ => exact ⟨mok119, mow119⟩
  | 120, _ => exact ⟨mok120, mow120⟩
  | 121, _ => exact ⟨mok121, mow121⟩
  | 122, _ => exact ⟨mok122, mow122⟩
  | 123, _ => exact ⟨mok123, mow123⟩
  | 124, _ => exact ⟨mok124, mow124⟩
  | 125, _ => exact ⟨mok125, mow125⟩
  | 126, _ => exact ⟨mok126, mow126⟩
  | 127, _ => exact ⟨mok127, mow127⟩
  | 128, _ => exact ⟨mok128, mow128⟩
  | 129, _ => exact ⟨mok129, mow129⟩
  | 130, _ => exact ⟨mok130, mow130⟩
  | 131, _ => exact ⟨mok131, mow131⟩
  | 132, _ => exact ⟨mok132, mow132⟩
  | 133, _ => exact ⟨mok133, mow133⟩
  | 134, _ => exact ⟨mok134, mow134⟩
  | 135, _ => exact ⟨mok135, mow135⟩
  | 136, _ => exact ⟨mok136, mow136⟩
  | 137, _ => exact ⟨mok137, mow137⟩
  | 138, _ => exact ⟨mok138, mow138⟩
  | 139, _ => exact ⟨mok139, mow139⟩
  | 140, _ => exact ⟨mok140, mow140⟩
  | 141, _ => exact ⟨mok141, mow141⟩
  | 142, _ => exact ⟨mok142, mow142⟩
  | 143, _ => exact ⟨mok143, mow143⟩
  | 144, _ => exact ⟨mok144, mow144⟩
  | 145, _ => exact ⟨mok145, mow145⟩
  | 146, _ => exact ⟨mok146, mow146⟩
  | 147, _ => exact ⟨mok147, mow147⟩
  | 148, _ => exact ⟨mok148, mow148⟩
  | 149, _ => exact ⟨mok149, mow149⟩
  | 150, _ => exact ⟨mok150, mow150⟩
  | 151, _ => exact ⟨mok151, mow151⟩
  | 152, _ => exact ⟨mok152, mow152⟩
  | 153, _ => exact ⟨mok153, mow153⟩
  | 154, _ => exact ⟨mok154, mow154⟩
  | 155, _ => exact ⟨mok155, mow155⟩
  | 156, _ => exact ⟨mok156, mow156⟩
  | 157, _ => exact ⟨mok157, mow157⟩
  | 158, _ => exact ⟨mok158, mow158⟩
  | 159, _ => exact ⟨mok159, mow159⟩
  | 160, _ => exact ⟨mok160, mow160⟩
  | 161, _ => exact ⟨mok161, mow161⟩
  | 162, _ => exact ⟨mok162, mow162⟩
  | 163, _ => exact ⟨mok163, mow163⟩
  | 164, _ => exact ⟨mok164, mow164⟩
  | 165, _ => exact ⟨mok165, mow165⟩
  | 166, _ => exact ⟨mok166, mow166⟩
  | 167, _ => exact ⟨mok167, mow167⟩
  | 168, _ => exact ⟨mok168, mow168⟩
  | 169, _ => exact ⟨mok169, mow169⟩
  | 170, _ => exact ⟨mok170, mow170⟩
  | 171, _ => exact ⟨mok171, mow171⟩
  | 172, _ => exact ⟨mok172, mow172⟩
  | 173, _ => exact ⟨mok173, mow173⟩
  | 174, _ => exact ⟨mok174, mow174⟩
  | 175, _ => exact ⟨mok175, mow175⟩
  | 176, _ => exact ⟨mok176, mow176⟩
  | 177, _ => exact ⟨mok177, mow177⟩
  | 178, _ => exact ⟨mok178, mow178⟩
  | 179, _ => exact ⟨mok179, mow179⟩
  | 180, _ => exact ⟨mok180, mow180⟩
  | 181, _ => exact ⟨mok181, mow181⟩
  | 182, _ => exact ⟨mok182, mow182⟩
  | 183, _ => exact ⟨mok183, mow183⟩
  | 184, _ => exact ⟨mok184, mow184⟩
  | 185, _ => exact ⟨mok185, mow185⟩
  | 186, _ => exact ⟨mok186, mow186⟩
  | 187, _ => exact ⟨mok187, mow187⟩
  | 188, _ => exact ⟨mok188, mow188⟩
  | 189, _ => exact ⟨mok189, mow189⟩
  | 190, _ => exact ⟨mok190, mow190⟩
  | 191, _ => exact ⟨mok191, mow191⟩
  | 192, _ => exact ⟨mok192, mow192⟩
  | 193, _ => exact ⟨mok193, mow193⟩
  | 194, _ => exact ⟨mok194, mow194⟩
  | 195, _ => exact ⟨mok195, mow195⟩
  | 196, _ => exact ⟨mok196, mow196⟩
  | 197, _ => exact ⟨mok197, mow197⟩
  | 198, _ => exact ⟨mok198, mow198⟩
  | 199, _ => exact ⟨mok199, mow199⟩
  | 200, _ => exact ⟨mok200, mow200⟩
  | 201, _ => exact ⟨mok201, mow201⟩
  | 202, _ => exact ⟨mok202, mow202⟩
  | 203, _ => exact ⟨mok203, mow203⟩
  | 204, _ => exact ⟨mok204, mow204⟩
  | 205, _ => exact ⟨mok205, mow205⟩
  | 206, _ => exact ⟨mok206, mow206⟩
  | 207, _ => exact ⟨mok207, mow207⟩
  | 208, _ => exact ⟨mok208, mow208⟩
  | 209, _ => exact ⟨mok209, mow209⟩
  | 210, _ => exact ⟨mok210, mow210⟩
  | 211, _ => exact ⟨mok211, mow211⟩
  | 212, _ => exact ⟨mok212, mow212⟩
  | 213, _ => exact ⟨mok213, mow213⟩
  | 214, _ => exact ⟨mok214, mow214⟩
  | 215, _ => exact ⟨mok215, mow215⟩
  | 216, _ => exact ⟨mok216, mow216⟩
  | 217, _ => exact ⟨mok217, mow217⟩
  | 218, _ => exact ⟨mok218, mow218⟩
  | 219, _ => exact ⟨mok219, mow219⟩
  | 220, _ => exact ⟨mok220, mow220⟩
  | 221, _ => exact ⟨mok221, mow221⟩
  | 222, _ => exact ⟨mok222, mow222⟩
  | 223, _ => exact ⟨mok223, mow223⟩
  | 224, _ => exact ⟨mok224, mow224⟩
  | 225, _ => exact ⟨mok225, mow225⟩
  | 226, _ => exact ⟨mok226, mow226⟩
  | 227, _ => exact ⟨mok227, mow227⟩
  | 228, _ => exact ⟨mok228, mow228⟩
  | 229, _ => exact ⟨mok229, mow229⟩
  | 230, _ => exact ⟨mok230, mow230⟩
  | 231, _ => exact ⟨mok231, mow231⟩
  | 232, _ => exact ⟨mok232, mow232⟩
  | 233, _ => exact ⟨mok233, mow233⟩
  | 234, _ => exact ⟨mok234, mow234⟩
  | 235, _ => exact ⟨mok235, mow235⟩
  | 236, _ => exact ⟨mok236, mow236⟩
  | 237, _ => exact ⟨mok237, mow237⟩
  | 238, _ => exact ⟨mok238, mow238⟩
  | 239, _ => exact ⟨mok239, mow239⟩
  | 240, _ => exact ⟨mok240, mow240⟩
  | 241, _ => exact ⟨mok241, mow241⟩
  | 242, _ => exact ⟨mok242, mow242⟩
  | 243, _ => exact ⟨mok243, mow243⟩
  | 244, _ => exact ⟨mok244, mow244⟩
  | 245, _ => exact ⟨mok245, mow245⟩
  | 246, _ => exact ⟨mok246, mow246⟩
  | 247, _ => exact ⟨mok247, mow247⟩
  | 248, _ => exact ⟨mok248, mow248⟩
  | 249, _ => exact ⟨mok249, mow249⟩
  | 250, _ => exact ⟨mok250, mow250⟩
  | 251, _ => exact ⟨mok251, mow251⟩
  | 252, _ => exact ⟨mok252, mow252⟩
  | 253, _ => exact ⟨mok253, mow253⟩
  | 254, _ => exact ⟨mok254, mow254⟩
  | 255, _ => exact ⟨mok255, mow255⟩
  | 256, _ => exact ⟨mok256, mow256⟩
  | 257, _ => exact ⟨mok257, mow257⟩
  | 258, _ => exact ⟨mok258, mow258⟩
  | 259, _ => exact ⟨mok259, mow259⟩
  | 260, _ => exact ⟨mok260, mow260⟩
  | 261, _ => exact ⟨mok261, mow261⟩
  | 262, _ => exact ⟨mok262, mow262⟩
  | 263, _ => exact ⟨mok263, mow263⟩
  | 264, _ => exact ⟨mok264, mow264⟩
  | 265, _ => exact ⟨mok265, mow265⟩
  | 266, _ => exact ⟨mok266, mow266⟩
  | 267, _ => exact ⟨mok267, mow267⟩
  | 268, _ => exact ⟨mok268, mow268⟩
  | 269, _ => exact ⟨mok269, mow269⟩
  | 270, _ => exact ⟨mok270, mow270⟩
  | 271, _ => exact ⟨mok271, mow271⟩
  | 272, _ => exact ⟨mok272, mow272⟩
  | 273, _ => exact ⟨mok273, mow273⟩
  | 274, _ => exact ⟨mok274, mow274⟩
  | n + 275, h => exact absurd h (by omega)

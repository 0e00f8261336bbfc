def mmv (w : Cond) : Bool := goodWord w || (match w with | .fieldLinkNest .. => true | .methodLinkNest .. => true | .declares _ => true | .arrayOver _ => true | _ => false)
def mTL : List Cond := lw_tbl.filter mmv
theorem mtb1 {w : Cond} (h : w ∈ tables_1_1) (hm : mmv w = true) : w ∈ mTL := List.mem_filter.mpr ⟨List.mem_append_right _ (List.mem_append_left _ h), hm⟩
theorem mtb2 {w : Cond} (h : w ∈ tables_1_2) (hm : mmv w = true) : w ∈ mTL := List.mem_filter.mpr ⟨List.mem_append_right _ (List.mem_append_right _ (List.mem_append_left _ h)), hm⟩
theorem mtb3 {w : Cond} (h : w ∈ tables_1_3) (hm : mmv w = true) : w ∈ mTL := List.mem_filter.mpr ⟨List.mem_append_right _ (List.mem_append_right _ (List.mem_append_right _ (List.mem_append_left _ h))), hm⟩
theorem mtb4 {w : Cond} (h : w ∈ tables_1_4) (hm : mmv w = true) : w ∈ mTL := List.mem_filter.mpr ⟨List.mem_append_right _ (List.mem_append_right _ (List.mem_append_right _ (List.mem_append_right _ (List.mem_append_left _ h)))), hm⟩
theorem mtb5 {w : Cond} (h : w ∈ tables_1_5) (hm : mmv w = true) : w ∈ mTL := List.mem_filter.mpr ⟨List.mem_append_right _ (List.mem_append_right _ (List.mem_append_right _ (List.mem_append_right _ (List.mem_append_right _ (List.mem_append_left _ h))))), hm⟩
theorem mtb6 {w : Cond} (h : w ∈ tables_1_6) (hm : mmv w = true) : w ∈ mTL := List.mem_filter.mpr ⟨List.mem_append_right _ (List.mem_append_right _ (List.mem_append_right _ (List.mem_append_right _ (List.mem_append_right _ (List.mem_append_right _ (List.mem_append_left _ h)))))), hm⟩
theorem mtb7 {w : Cond} (h : w ∈ tables_1_7) (hm : mmv w = true) : w ∈ mTL := List.mem_filter.mpr ⟨List.mem_append_right _ (List.mem_append_right _ (List.mem_append_right _ (List.mem_append_right _ (List.mem_append_right _ (List.mem_append_right _ (List.mem_append_right _ (h))))))), hm⟩
theorem mpv1 {w : Cond} (h : w ∈ k2_sels lw_privs_1) (hm : mmv w = true) : w ∈ mTL := by
  obtain ⟨q, hq, rfl⟩ := List.mem_map.mp h
  exact List.mem_filter.mpr ⟨List.mem_append_left _ (List.mem_map.mpr ⟨q, by have h := hq; exact (List.mem_append_left _ h : q ∈ lw_privs), rfl⟩), hm⟩
theorem mpv2 {w : Cond} (h : w ∈ k2_sels lw_privs_2) (hm : mmv w = true) : w ∈ mTL := by
  obtain ⟨q, hq, rfl⟩ := List.mem_map.mp h
  exact List.mem_filter.mpr ⟨List.mem_append_left _ (List.mem_map.mpr ⟨q, by have h := hq; exact (List.mem_append_right _ (List.mem_append_left _ h) : q ∈ lw_privs), rfl⟩), hm⟩
theorem mpv3 {w : Cond} (h : w ∈ k2_sels lw_privs_3) (hm : mmv w = true) : w ∈ mTL := by
  obtain ⟨q, hq, rfl⟩ := List.mem_map.mp h
  exact List.mem_filter.mpr ⟨List.mem_append_left _ (List.mem_map.mpr ⟨q, by have h := hq; exact (List.mem_append_right _ (List.mem_append_right _ (List.mem_append_left _ h)) : q ∈ lw_privs), rfl⟩), hm⟩
theorem mpv4 {w : Cond} (h : w ∈ k2_sels lw_privs_4) (hm : mmv w = true) : w ∈ mTL := by
  obtain ⟨q, hq, rfl⟩ := List.mem_map.mp h
  exact List.mem_filter.mpr ⟨List.mem_append_left _ (List.mem_map.mpr ⟨q, by have h := hq; exact (List.mem_append_right _ (List.mem_append_right _ (List.mem_append_right _ (List.mem_append_left _ h))) : q ∈ lw_privs), rfl⟩), hm⟩
theorem mpv5 {w : Cond} (h : w ∈ k2_sels lw_privs_5) (hm : mmv w = true) : w ∈ mTL := by
  obtain ⟨q, hq, rfl⟩ := List.mem_map.mp h
  exact List.mem_filter.mpr ⟨List.mem_append_left _ (List.mem_map.mpr ⟨q, by have h := hq; exact (List.mem_append_right _ (List.mem_append_right _ (List.mem_append_right _ (List.mem_append_right _ (List.mem_append_left _ h)))) : q ∈ lw_privs), rfl⟩), hm⟩
theorem mpv6 {w : Cond} (h : w ∈ k2_sels lw_privs_6) (hm : mmv w = true) : w ∈ mTL := by
  obtain ⟨q, hq, rfl⟩ := List.mem_map.mp h
  exact List.mem_filter.mpr ⟨List.mem_append_left _ (List.mem_map.mpr ⟨q, by have h := hq; exact (List.mem_append_right _ (List.mem_append_right _ (List.mem_append_right _ (List.mem_append_right _ (List.mem_append_right _ (h))))) : q ∈ lw_privs), rfl⟩), hm⟩
set_option maxRecDepth 10000 in
theorem wd0 : (.selects RX11 yX11_refuse yX11_refuse : Cond) ∈ mTL := mpv1 (List.mem_of_getElem? (i := 0) rfl) rfl
set_option maxRecDepth 10000 in
theorem wd1 : (.selects RX11 yX11_readTown yX11_readTown : Cond) ∈ mTL := mpv1 (List.mem_of_getElem? (i := 1) rfl) rfl
set_option maxRecDepth 10000 in
theorem wd2 : (.selects RX11 yX11_comesTrue yX11_comesTrue : Cond) ∈ mTL := mpv1 (List.mem_of_getElem? (i := 2) rfl) rfl
set_option maxRecDepth 10000 in
theorem wd3 : (.selects RX11 yX11_birdComes yX11_birdComes : Cond) ∈ mTL := mpv1 (List.mem_of_getElem? (i := 3) rfl) rfl
set_option maxRecDepth 10000 in
theorem wd4 : (.selects RX11 yX11_weightComes yX11_weightComes : Cond) ∈ mTL := mpv1 (List.mem_of_getElem? (i := 4) rfl) rfl
set_option maxRecDepth 10000 in
theorem wd5 : (.selects RX11 yX11_hoursCome yX11_hoursCome : Cond) ∈ mTL := mpv1 (List.mem_of_getElem? (i := 5) rfl) rfl
set_option maxRecDepth 10000 in
theorem wd6 : (.selects RX2 yX2_wanted yX2_wanted : Cond) ∈ mTL := mpv1 (List.mem_of_getElem? (i := 6) rfl) rfl
set_option maxRecDepth 10000 in
theorem wd7 : (.selects RX2 yX2_wantedYoung yX2_wantedYoung : Cond) ∈ mTL := mpv1 (List.mem_of_getElem? (i := 7) rfl) rfl
set_option maxRecDepth 10000 in
theorem wd8 : (.selects RX2 yX2_reaches yX2_reaches : Cond) ∈ mTL := mpv1 (List.mem_of_getElem? (i := 8) rfl) rfl
set_option maxRecDepth 10000 in
theorem wd9 : (.selects RX2 yX2_go yX2_go : Cond) ∈ mTL := mpv1 (List.mem_of_getElem? (i := 9) rfl) rfl
set_option maxRecDepth 10000 in
theorem wd10 : (.selects RX11 yX11_catComes yX11_catComes : Cond) ∈ mTL := mpv1 (List.mem_of_getElem? (i := 10) rfl) rfl
set_option maxRecDepth 10000 in
theorem wd11 : (.selects RX2 yX2_refuge yX2_refuge : Cond) ∈ mTL := mpv1 (List.mem_of_getElem? (i := 11) rfl) rfl
set_option maxRecDepth 10000 in
theorem wd12 : (.selects RX11 yX11_noBird yX11_noBird : Cond) ∈ mTL := mpv1 (List.mem_of_getElem? (i := 12) rfl) rfl
set_option maxRecDepth 10000 in
theorem wd13 : (.selects RX11 yX11_noWire yX11_noWire : Cond) ∈ mTL := mpv1 (List.mem_of_getElem? (i := 13) rfl) rfl
set_option maxRecDepth 10000 in
theorem wd14 : (.selects RX11 yX11_thinkBehind yX11_thinkBehind : Cond) ∈ mTL := mpv1 (List.mem_of_getElem? (i := 14) rfl) rfl
set_option maxRecDepth 10000 in
theorem wd15 : (.selects RX11 yX11_think yX11_think : Cond) ∈ mTL := mpv1 (List.mem_of_getElem? (i := 15) rfl) rfl
set_option maxRecDepth 10000 in
theorem wd16 : (.selects RX11 yX11_trainsLooked yX11_trainsLooked : Cond) ∈ mTL := mpv2 (List.mem_of_getElem? (i := 0) rfl) rfl
set_option maxRecDepth 10000 in
theorem wd17 : (.selects RX11 yX11_firstUnlike yX11_firstUnlike : Cond) ∈ mTL := mpv2 (List.mem_of_getElem? (i := 1) rfl) rfl
set_option maxRecDepth 10000 in
theorem wd18 : (.selects RX11 yX11_noteShown yX11_noteShown : Cond) ∈ mTL := mpv2 (List.mem_of_getElem? (i := 2) rfl) rfl
set_option maxRecDepth 10000 in
theorem wd19 : (.selects RX11 yX11_thinkFed yX11_thinkFed : Cond) ∈ mTL := mpv2 (List.mem_of_getElem? (i := 3) rfl) rfl
set_option maxRecDepth 10000 in
theorem wd20 : (.selects RX11 yX11_nextChords yX11_nextChords : Cond) ∈ mTL := mpv2 (List.mem_of_getElem? (i := 4) rfl) rfl
set_option maxRecDepth 10000 in
theorem wd21 : (.selects RX11 yX11_rivalSure yX11_rivalSure : Cond) ∈ mTL := mpv2 (List.mem_of_getElem? (i := 5) rfl) rfl
set_option maxRecDepth 10000 in
theorem wd22 : (.selects RX11 yX11_mostWrong yX11_mostWrong : Cond) ∈ mTL := mpv2 (List.mem_of_getElem? (i := 6) rfl) rfl
set_option maxRecDepth 10000 in
theorem wd23 : (.selects RX11 yX11_seekFromNow yX11_seekFromNow : Cond) ∈ mTL := mpv2 (List.mem_of_getElem? (i := 7) rfl) rfl
set_option maxRecDepth 10000 in
theorem wd24 : (.selects RX6 yX6_note yX6_note : Cond) ∈ mTL := mpv2 (List.mem_of_getElem? (i := 8) rfl) rfl
set_option maxRecDepth 10000 in
theorem wd25 : (.selects RX11 yX11_unfitRow yX11_unfitRow : Cond) ∈ mTL := mpv2 (List.mem_of_getElem? (i := 9) rfl) rfl
set_option maxRecDepth 10000 in
theorem wd26 : (.selects RX11 yX11_addErrsByWeight yX11_addErrsByWeight : Cond) ∈ mTL := mpv2 (List.mem_of_getElem? (i := 10) rfl) rfl
set_option maxRecDepth 10000 in
theorem wd27 : (.selects RX11 yX11_errsWithout yX11_errsWithout : Cond) ∈ mTL := mpv2 (List.mem_of_getElem? (i := 11) rfl) rfl
set_option maxRecDepth 10000 in
theorem wd28 : (.selects RX11 yX11_movesToEven yX11_movesToEven : Cond) ∈ mTL := mpv2 (List.mem_of_getElem? (i := 12) rfl) rfl
set_option maxRecDepth 10000 in
theorem wd29 : (.selects RX11 yX11_movesToFill yX11_movesToFill : Cond) ∈ mTL := mpv2 (List.mem_of_getElem? (i := 13) rfl) rfl
set_option maxRecDepth 10000 in
theorem wd30 : (.selects RX9 yX9_thinkOver yX9_thinkOver : Cond) ∈ mTL := mpv2 (List.mem_of_getElem? (i := 14) rfl) rfl
set_option maxRecDepth 10000 in
theorem wd31 : (.selects RX12 yX12_no yX12_no : Cond) ∈ mTL := mpv2 (List.mem_of_getElem? (i := 15) rfl) rfl
set_option maxRecDepth 10000 in
theorem wd32 : (.selects RX12 yX12_statement yX12_statement : Cond) ∈ mTL := mpv3 (List.mem_of_getElem? (i := 0) rfl) rfl
set_option maxRecDepth 10000 in
theorem wd33 : (.selects RX12 yX12_next yX12_next : Cond) ∈ mTL := mpv3 (List.mem_of_getElem? (i := 1) rfl) rfl
set_option maxRecDepth 10000 in
theorem wd34 : (.selects RX12 yX12_readsAll yX12_readsAll : Cond) ∈ mTL := mpv3 (List.mem_of_getElem? (i := 2) rfl) rfl
set_option maxRecDepth 10000 in
theorem wd35 : (.selects RX12 yX12_readsDigits yX12_readsDigits : Cond) ∈ mTL := mpv3 (List.mem_of_getElem? (i := 3) rfl) rfl
set_option maxRecDepth 10000 in
theorem wd36 : (.selects RX12 yX12_passesAll yX12_passesAll : Cond) ∈ mTL := mpv3 (List.mem_of_getElem? (i := 4) rfl) rfl
set_option maxRecDepth 10000 in
theorem wd37 : (.selects RX12 yX12_passes yX12_passes : Cond) ∈ mTL := mpv3 (List.mem_of_getElem? (i := 5) rfl) rfl
set_option maxRecDepth 10000 in
theorem wd38 : (.selects RX12 yX12_passOne yX12_passOne : Cond) ∈ mTL := mpv3 (List.mem_of_getElem? (i := 6) rfl) rfl
set_option maxRecDepth 10000 in
theorem wd39 : (.selects RX12 yX12_comes yX12_comes : Cond) ∈ mTL := mpv3 (List.mem_of_getElem? (i := 7) rfl) rfl
set_option maxRecDepth 10000 in
theorem wd40 : (.selects RX12 yX12_comesBird yX12_comesBird : Cond) ∈ mTL := mpv3 (List.mem_of_getElem? (i := 8) rfl) rfl
set_option maxRecDepth 10000 in
theorem wd41 : (.selects RX12 yX12_isWire yX12_isWire : Cond) ∈ mTL := mpv3 (List.mem_of_getElem? (i := 9) rfl) rfl
set_option maxRecDepth 10000 in
theorem wd42 : (.selects RX12 yX12_hasRoom yX12_hasRoom : Cond) ∈ mTL := mpv3 (List.mem_of_getElem? (i := 10) rfl) rfl
set_option maxRecDepth 10000 in
theorem wd43 : (.selects RX12 yX12_manyOn yX12_manyOn : Cond) ∈ mTL := mpv3 (List.mem_of_getElem? (i := 11) rfl) rfl
set_option maxRecDepth 10000 in
theorem wd44 : (.selects RX12 yX12_adds yX12_adds : Cond) ∈ mTL := mpv3 (List.mem_of_getElem? (i := 12) rfl) rfl
set_option maxRecDepth 10000 in
theorem wd45 : (.selects RX12 yX12_comesHours yX12_comesHours : Cond) ∈ mTL := mpv3 (List.mem_of_getElem? (i := 13) rfl) rfl
set_option maxRecDepth 10000 in
theorem wd46 : (.selects RX12 yX12_goes yX12_goes : Cond) ∈ mTL := mpv3 (List.mem_of_getElem? (i := 14) rfl) rfl
set_option maxRecDepth 10000 in
theorem wd47 : (.selects RX12 yX12_goesOne yX12_goesOne : Cond) ∈ mTL := mpv3 (List.mem_of_getElem? (i := 15) rfl) rfl
set_option maxRecDepth 10000 in
theorem wd48 : (.selects RX12 yX12_wants yX12_wants : Cond) ∈ mTL := mpv4 (List.mem_of_getElem? (i := 0) rfl) rfl
set_option maxRecDepth 10000 in
theorem wd49 : (.selects RX12 yX12_wantsYoung yX12_wantsYoung : Cond) ∈ mTL := mpv4 (List.mem_of_getElem? (i := 1) rfl) rfl
set_option maxRecDepth 10000 in
theorem wd50 : (.selects RX12 yX12_wantsOld yX12_wantsOld : Cond) ∈ mTL := mpv4 (List.mem_of_getElem? (i := 2) rfl) rfl
set_option maxRecDepth 10000 in
theorem wd51 : (.selects RX12 yX12_cats yX12_cats : Cond) ∈ mTL := mpv4 (List.mem_of_getElem? (i := 3) rfl) rfl
set_option maxRecDepth 10000 in
theorem wd52 : (.selects RX12 yX12_fromCat yX12_fromCat : Cond) ∈ mTL := mpv4 (List.mem_of_getElem? (i := 4) rfl) rfl
set_option maxRecDepth 10000 in
theorem wd53 : (.selects RX12 yX12_fliesTo yX12_fliesTo : Cond) ∈ mTL := mpv4 (List.mem_of_getElem? (i := 5) rfl) rfl
set_option maxRecDepth 10000 in
theorem wd54 : (.selects RX12 yX12_outermost yX12_outermost : Cond) ∈ mTL := mpv4 (List.mem_of_getElem? (i := 6) rfl) rfl
set_option maxRecDepth 10000 in
theorem wd55 : (.selects RX12 yX12_hangs yX12_hangs : Cond) ∈ mTL := mpv4 (List.mem_of_getElem? (i := 7) rfl) rfl
set_option maxRecDepth 10000 in
theorem wd56 : (.selects RX12 yX12_isBird yX12_isBird : Cond) ∈ mTL := mpv4 (List.mem_of_getElem? (i := 8) rfl) rfl
set_option maxRecDepth 10000 in
theorem wd57 : (.selects RX12 yX12_keepsBack yX12_keepsBack : Cond) ∈ mTL := mpv4 (List.mem_of_getElem? (i := 9) rfl) rfl
set_option maxRecDepth 10000 in
theorem wd58 : (.selects RX12 yX12_shown yX12_shown : Cond) ∈ mTL := mpv4 (List.mem_of_getElem? (i := 10) rfl) rfl
set_option maxRecDepth 10000 in
theorem wd59 : (.selects RX12 yX12_findHours yX12_findHours : Cond) ∈ mTL := mpv4 (List.mem_of_getElem? (i := 11) rfl) rfl
set_option maxRecDepth 10000 in
theorem wd60 : (.selects RX12 yX12_thinks yX12_thinks : Cond) ∈ mTL := mpv4 (List.mem_of_getElem? (i := 12) rfl) rfl
set_option maxRecDepth 10000 in
theorem wd61 : (.selects RX12 yX12_wrong yX12_wrong : Cond) ∈ mTL := mpv4 (List.mem_of_getElem? (i := 13) rfl) rfl
set_option maxRecDepth 10000 in
theorem wd62 : (.selects RX12 yX12_forgets yX12_forgets : Cond) ∈ mTL := mpv4 (List.mem_of_getElem? (i := 14) rfl) rfl
set_option maxRecDepth 10000 in
theorem wd63 : (.selects RX12 yX12_wrongTo yX12_wrongTo : Cond) ∈ mTL := mpv4 (List.mem_of_getElem? (i := 15) rfl) rfl
set_option maxRecDepth 10000 in
theorem wd64 : (.selects RX12 yX12_waysOf yX12_waysOf : Cond) ∈ mTL := mpv5 (List.mem_of_getElem? (i := 0) rfl) rfl
set_option maxRecDepth 10000 in
theorem wd65 : (.selects RX12 yX12_laysWay yX12_laysWay : Cond) ∈ mTL := mpv5 (List.mem_of_getElem? (i := 1) rfl) rfl
set_option maxRecDepth 10000 in
theorem wd66 : (.selects RX12 yX12_fliesIn yX12_fliesIn : Cond) ∈ mTL := mpv5 (List.mem_of_getElem? (i := 2) rfl) rfl
set_option maxRecDepth 10000 in
theorem wd67 : (.selects RX12 yX12_goesAs yX12_goesAs : Cond) ∈ mTL := mpv5 (List.mem_of_getElem? (i := 3) rfl) rfl
set_option maxRecDepth 10000 in
theorem wd68 : (.selects RX12 yX12_chordNow yX12_chordNow : Cond) ∈ mTL := mpv5 (List.mem_of_getElem? (i := 4) rfl) rfl
set_option maxRecDepth 10000 in
theorem wd69 : (.selects RX12 yX12_keepsWay yX12_keepsWay : Cond) ∈ mTL := mpv5 (List.mem_of_getElem? (i := 5) rfl) rfl
set_option maxRecDepth 10000 in
theorem wd70 : (.selects RX12 yX12_wrongBy yX12_wrongBy : Cond) ∈ mTL := mpv5 (List.mem_of_getElem? (i := 6) rfl) rfl
set_option maxRecDepth 10000 in
theorem wd71 : (.selects RX12 yX12_findThings yX12_findThings : Cond) ∈ mTL := mpv5 (List.mem_of_getElem? (i := 7) rfl) rfl
set_option maxRecDepth 10000 in
theorem wd72 : (.selects RX12 yX12_happens yX12_happens : Cond) ∈ mTL := mpv5 (List.mem_of_getElem? (i := 8) rfl) rfl
set_option maxRecDepth 10000 in
theorem wd73 : (.selects RX12 yX12_unlikeThings yX12_unlikeThings : Cond) ∈ mTL := mpv5 (List.mem_of_getElem? (i := 9) rfl) rfl
set_option maxRecDepth 10000 in
theorem wd74 : (.selects RX12 yX12_canMove yX12_canMove : Cond) ∈ mTL := mpv5 (List.mem_of_getElem? (i := 10) rfl) rfl
set_option maxRecDepth 10000 in
theorem wd75 : (.selects RX12 yX12_isNear yX12_isNear : Cond) ∈ mTL := mpv5 (List.mem_of_getElem? (i := 11) rfl) rfl
set_option maxRecDepth 10000 in
theorem wd76 : (.selects RX12 yX12_makesMoves yX12_makesMoves : Cond) ∈ mTL := mpv5 (List.mem_of_getElem? (i := 12) rfl) rfl
set_option maxRecDepth 10000 in
theorem wd77 : (.selects RX12 yX12_findSittings yX12_findSittings : Cond) ∈ mTL := mpv5 (List.mem_of_getElem? (i := 13) rfl) rfl
set_option maxRecDepth 10000 in
theorem wd78 : (.selects RX12 yX12_wrongOn yX12_wrongOn : Cond) ∈ mTL := mpv5 (List.mem_of_getElem? (i := 14) rfl) rfl
set_option maxRecDepth 10000 in
theorem wd79 : (.selects RX12 yX12_nextChords yX12_nextChords : Cond) ∈ mTL := mpv5 (List.mem_of_getElem? (i := 15) rfl) rfl
set_option maxRecDepth 10000 in
theorem wd80 : (.selects RX12 yX12_chordBy yX12_chordBy : Cond) ∈ mTL := mpv6 (List.mem_of_getElem? (i := 0) rfl) rfl
set_option maxRecDepth 10000 in
theorem wd81 : (.selects RX12 yX12_isRowUpTo yX12_isRowUpTo : Cond) ∈ mTL := mpv6 (List.mem_of_getElem? (i := 1) rfl) rfl
set_option maxRecDepth 10000 in
theorem wd82 : (.selects RX12 yX12_mostAgainst yX12_mostAgainst : Cond) ∈ mTL := mpv6 (List.mem_of_getElem? (i := 2) rfl) rfl
set_option maxRecDepth 10000 in
theorem wd83 : (.selects RX12 yX12_watched yX12_watched : Cond) ∈ mTL := mpv6 (List.mem_of_getElem? (i := 3) rfl) rfl
set_option maxRecDepth 10000 in
theorem wd84 : (.selects RX12 yX12_leastAgainst yX12_leastAgainst : Cond) ∈ mTL := mpv6 (List.mem_of_getElem? (i := 4) rfl) rfl
set_option maxRecDepth 10000 in
theorem wd85 : (.selects RX12 yX12_thinksOn yX12_thinksOn : Cond) ∈ mTL := mpv6 (List.mem_of_getElem? (i := 5) rfl) rfl
set_option maxRecDepth 10000 in
theorem wd86 : (.selects RX12 yX12_sitAsThen yX12_sitAsThen : Cond) ∈ mTL := mpv6 (List.mem_of_getElem? (i := 6) rfl) rfl
set_option maxRecDepth 10000 in
theorem wd87 : (.selects RX12 yX12_evenBy yX12_evenBy : Cond) ∈ mTL := mpv6 (List.mem_of_getElem? (i := 7) rfl) rfl
set_option maxRecDepth 10000 in
theorem wd88 : (.selects RX12 yX12_movesTo yX12_movesTo : Cond) ∈ mTL := mpv6 (List.mem_of_getElem? (i := 8) rfl) rfl
set_option maxRecDepth 10000 in
theorem wd89 : (.selects RX12 yX12_hoursTill yX12_hoursTill : Cond) ∈ mTL := mpv6 (List.mem_of_getElem? (i := 9) rfl) rfl
set_option maxRecDepth 10000 in
theorem wd90 : (.selects RX12 yX12_endsAs yX12_endsAs : Cond) ∈ mTL := mpv6 (List.mem_of_getElem? (i := 10) rfl) rfl
set_option maxRecDepth 10000 in
theorem wd92 : (.initialized RX11 : Cond) ∈ mTL := mtb1 (List.mem_of_getElem? (i := 1) rfl) rfl
set_option maxRecDepth 10000 in
theorem wd93 : (.initialized RX2 : Cond) ∈ mTL := mtb1 (List.mem_of_getElem? (i := 2) rfl) rfl
set_option maxRecDepth 10000 in
theorem wd94 : (.initialized RX7 : Cond) ∈ mTL := mtb1 (List.mem_of_getElem? (i := 3) rfl) rfl
set_option maxRecDepth 10000 in
theorem wd95 : (.initialized RX10 : Cond) ∈ mTL := mtb1 (List.mem_of_getElem? (i := 4) rfl) rfl
set_option maxRecDepth 10000 in
theorem wd96 : (.initialized RX9 : Cond) ∈ mTL := mtb1 (List.mem_of_getElem? (i := 5) rfl) rfl
set_option maxRecDepth 10000 in
theorem wd97 : (.initialized RX8 : Cond) ∈ mTL := mtb1 (List.mem_of_getElem? (i := 6) rfl) rfl
set_option maxRecDepth 10000 in
theorem wd98 : (.initialized RX1 : Cond) ∈ mTL := mtb1 (List.mem_of_getElem? (i := 7) rfl) rfl
set_option maxRecDepth 10000 in
theorem wd99 : (.initialized RX4 : Cond) ∈ mTL := mtb1 (List.mem_of_getElem? (i := 8) rfl) rfl
set_option maxRecDepth 10000 in
theorem wd100 : (.initialized RX0 : Cond) ∈ mTL := mtb1 (List.mem_of_getElem? (i := 9) rfl) rfl
set_option maxRecDepth 10000 in
theorem wd101 : (.initialized RX6 : Cond) ∈ mTL := mtb1 (List.mem_of_getElem? (i := 10) rfl) rfl
set_option maxRecDepth 10000 in
theorem wd102 : (.initialized RX5 : Cond) ∈ mTL := mtb1 (List.mem_of_getElem? (i := 11) rfl) rfl
set_option maxRecDepth 10000 in
theorem wd103 : (.initialized RX3 : Cond) ∈ mTL := mtb1 (List.mem_of_getElem? (i := 12) rfl) rfl
set_option maxRecDepth 10000 in
theorem wd104 : (.initialized RX12 : Cond) ∈ mTL := mtb1 (List.mem_of_getElem? (i := 13) rfl) rfl
set_option maxRecDepth 10000 in
theorem wd105 : (.initialized "java/lang/System" : Cond) ∈ mTL := mtb1 (List.mem_of_getElem? (i := 14) rfl) rfl
set_option maxRecDepth 10000 in
theorem wd106 : (.initialized RJ9 : Cond) ∈ mTL := mtb1 (List.mem_of_getElem? (i := 15) rfl) rfl
set_option maxRecDepth 10000 in
theorem wd107 : (.initialized RJ6 : Cond) ∈ mTL := mtb1 (List.mem_of_getElem? (i := 16) rfl) rfl
set_option maxRecDepth 10000 in
theorem wd108 : (.initialized RJ7 : Cond) ∈ mTL := mtb1 (List.mem_of_getElem? (i := 17) rfl) rfl
set_option maxRecDepth 10000 in
theorem wd109 : (.initialized RJ13 : Cond) ∈ mTL := mtb1 (List.mem_of_getElem? (i := 18) rfl) rfl
set_option maxRecDepth 10000 in
theorem wd110 : (.classLink RL 7 RX11 : Cond) ∈ mTL := mtb1 (List.mem_of_getElem? (i := 19) rfl) rfl
set_option maxRecDepth 10000 in
theorem wd111 : (.instantiable RX11 18 : Cond) ∈ mTL := mtb1 (List.mem_of_getElem? (i := 20) rfl) rfl
set_option maxRecDepth 10000 in
theorem wd112 : (.methodLink RL 9 yX11_init : Cond) ∈ mTL := mtb1 (List.mem_of_getElem? (i := 21) rfl) rfl
set_option maxRecDepth 10000 in
theorem wd113 : (.instanceMethod yX11_init : Cond) ∈ mTL := mtb1 (List.mem_of_getElem? (i := 22) rfl) rfl
set_option maxRecDepth 10000 in
theorem wd114 : (.code yX11_init cX11_init 2 none : Cond) ∈ mTL := mtb1 (List.mem_of_getElem? (i := 23) rfl) rfl
set_option maxRecDepth 10000 in
theorem wd115 : (.methodLink RX11 1 Lib.objectInit : Cond) ∈ mTL := mtb1 (List.mem_of_getElem? (i := 24) rfl) rfl
set_option maxRecDepth 10000 in
theorem wd116 : (.instanceMethod Lib.objectInit : Cond) ∈ mTL := mtb1 (List.mem_of_getElem? (i := 25) rfl) rfl
set_option maxRecDepth 10000 in
theorem wd117 : (.code Lib.objectInit ⟨#[0xb1]⟩ 1 none : Cond) ∈ mTL := mtb1 (List.mem_of_getElem? (i := 26) rfl) rfl
set_option maxRecDepth 10000 in
theorem wd118 : (.classLink RX11 7 RX2 : Cond) ∈ mTL := mtb1 (List.mem_of_getElem? (i := 27) rfl) rfl
set_option maxRecDepth 10000 in
theorem wd119 : (.instantiable RX2 8 : Cond) ∈ mTL := mtb1 (List.mem_of_getElem? (i := 28) rfl) rfl
set_option maxRecDepth 10000 in
theorem wd120 : (.methodLink RX11 9 yX2_init : Cond) ∈ mTL := mtb1 (List.mem_of_getElem? (i := 29) rfl) rfl
set_option maxRecDepth 10000 in
theorem wd121 : (.instanceMethod yX2_init : Cond) ∈ mTL := mtb1 (List.mem_of_getElem? (i := 30) rfl) rfl
set_option maxRecDepth 10000 in
theorem wd122 : (.code yX2_init cX2_init 2 none : Cond) ∈ mTL := mtb1 (List.mem_of_getElem? (i := 31) rfl) rfl
set_option maxRecDepth 10000 in
theorem wd123 : (.methodLink RX2 3 Lib.objectInit : Cond) ∈ mTL := mtb1 (List.mem_of_getElem? (i := 32) rfl) rfl
set_option maxRecDepth 10000 in
theorem wd124 : (.fieldLink RX2 9 RX2 "kinds" "[I" : Cond) ∈ mTL := mtb1 (List.mem_of_getElem? (i := 33) rfl) rfl
set_option maxRecDepth 10000 in
theorem wd125 : (.fieldLinkNest RX11 217 RX2 "kinds" "[I" RX11 : Cond) ∈ mTL := mtb1 (List.mem_of_getElem? (i := 34) rfl) rfl
set_option maxRecDepth 10000 in
theorem wd126 : (.fieldLink RX2 15 RX2 "figures" "[I" : Cond) ∈ mTL := mtb1 (List.mem_of_getElem? (i := 35) rfl) rfl
set_option maxRecDepth 10000 in
theorem wd127 : (.fieldLinkNest RX11 220 RX2 "figures" "[I" RX11 : Cond) ∈ mTL := mtb1 (List.mem_of_getElem? (i := 36) rfl) rfl
set_option maxRecDepth 10000 in
theorem wd128 : (.fieldLink RX2 18 RX2 "places" "[I" : Cond) ∈ mTL := mtb1 (List.mem_of_getElem? (i := 37) rfl) rfl
set_option maxRecDepth 10000 in
theorem wd129 : (.fieldLinkNest RX5 13 RX2 "places" "[I" RX11 : Cond) ∈ mTL := mtb1 (List.mem_of_getElem? (i := 38) rfl) rfl
set_option maxRecDepth 10000 in
theorem wd130 : (.fieldLinkNest RX7 24 RX2 "places" "[I" RX11 : Cond) ∈ mTL := mtb1 (List.mem_of_getElem? (i := 39) rfl) rfl
set_option maxRecDepth 10000 in
theorem wd131 : (.fieldLinkNest RX11 223 RX2 "places" "[I" RX11 : Cond) ∈ mTL := mtb1 (List.mem_of_getElem? (i := 40) rfl) rfl
set_option maxRecDepth 10000 in
theorem wd132 : (.fieldLink RX2 21 RX2 "seated" "[I" : Cond) ∈ mTL := mtb1 (List.mem_of_getElem? (i := 41) rfl) rfl
set_option maxRecDepth 10000 in
theorem wd133 : (.fieldLinkNest RX4 27 RX2 "seated" "[I" RX11 : Cond) ∈ mTL := mtb1 (List.mem_of_getElem? (i := 42) rfl) rfl
set_option maxRecDepth 10000 in
theorem wd134 : (.fieldLinkNest RX11 229 RX2 "seated" "[I" RX11 : Cond) ∈ mTL := mtb1 (List.mem_of_getElem? (i := 43) rfl) rfl
set_option maxRecDepth 10000 in
theorem wd135 : (.fieldLink RX2 24 RX2 "weights" "[I" : Cond) ∈ mTL := mtb1 (List.mem_of_getElem? (i := 44) rfl) rfl
set_option maxRecDepth 10000 in
theorem wd136 : (.fieldLinkNest RX11 196 RX2 "weights" "[I" RX11 : Cond) ∈ mTL := mtb1 (List.mem_of_getElem? (i := 45) rfl) rfl
set_option maxRecDepth 10000 in
theorem wd137 : (.fieldLink RX2 37 RX2 "birds" "I" : Cond) ∈ mTL := mtb1 (List.mem_of_getElem? (i := 46) rfl) rfl
set_option maxRecDepth 10000 in
theorem wd138 : (.fieldLinkNest RX4 37 RX2 "birds" "I" RX11 : Cond) ∈ mTL := mtb1 (List.mem_of_getElem? (i := 47) rfl) rfl
set_option maxRecDepth 10000 in
theorem wd139 : (.fieldLinkNest RX7 50 RX2 "birds" "I" RX11 : Cond) ∈ mTL := mtb1 (List.mem_of_getElem? (i := 48) rfl) rfl
set_option maxRecDepth 10000 in
theorem wd140 : (.fieldLinkNest RX11 187 RX2 "birds" "I" RX11 : Cond) ∈ mTL := mtb1 (List.mem_of_getElem? (i := 49) rfl) rfl
set_option maxRecDepth 10000 in
theorem wd141 : (.fieldLink RX2 27 RX2 "wires" "I" : Cond) ∈ mTL := mtb1 (List.mem_of_getElem? (i := 50) rfl) rfl
set_option maxRecDepth 10000 in
theorem wd142 : (.fieldLinkNest RX4 9 RX2 "wires" "I" RX11 : Cond) ∈ mTL := mtb1 (List.mem_of_getElem? (i := 51) rfl) rfl
set_option maxRecDepth 10000 in
theorem wd143 : (.fieldLinkNest RX11 180 RX2 "wires" "I" RX11 : Cond) ∈ mTL := mtb1 (List.mem_of_getElem? (i := 52) rfl) rfl
set_option maxRecDepth 10000 in
theorem wd144 : (.fieldLinkNest RX7 38 RX2 "hour" "I" RX11 : Cond) ∈ mTL := mtb1 (List.mem_of_getElem? (i := 53) rfl) rfl
set_option maxRecDepth 10000 in
theorem wd145 : (.fieldLink RX2 44 RX2 "hour" "I" : Cond) ∈ mTL := mtb1 (List.mem_of_getElem? (i := 54) rfl) rfl
set_option maxRecDepth 10000 in
theorem wd146 : (.fieldLinkNest RX11 199 RX2 "hour" "I" RX11 : Cond) ∈ mTL := mtb1 (List.mem_of_getElem? (i := 55) rfl) rfl
set_option maxRecDepth 10000 in
theorem wd147 : (.laysFinal RX2 RX2 "kinds" "[I" : Cond) ∈ mTL := mtb1 (List.mem_of_getElem? (i := 56) rfl) rfl
set_option maxRecDepth 10000 in
theorem wd149 : (.laysFinal RX2 RX2 "figures" "[I" : Cond) ∈ mTL := mtb1 (List.mem_of_getElem? (i := 58) rfl) rfl
set_option maxRecDepth 10000 in
theorem wd151 : (.laysFinal RX2 RX2 "places" "[I" : Cond) ∈ mTL := mtb1 (List.mem_of_getElem? (i := 60) rfl) rfl
set_option maxRecDepth 10000 in
theorem wd153 : (.laysFinal RX2 RX2 "seated" "[I" : Cond) ∈ mTL := mtb1 (List.mem_of_getElem? (i := 62) rfl) rfl
set_option maxRecDepth 10000 in
theorem wd155 : (.laysFinal RX2 RX2 "weights" "[I" : Cond) ∈ mTL := mtb1 (List.mem_of_getElem? (i := 64) rfl) rfl
set_option maxRecDepth 10000 in
theorem wd157 : (.lays RX2 RX2 "birds" "I" : Cond) ∈ mTL := mtb1 (List.mem_of_getElem? (i := 66) rfl) rfl
set_option maxRecDepth 10000 in
theorem wd159 : (.lays RX2 RX2 "wires" "I" : Cond) ∈ mTL := mtb1 (List.mem_of_getElem? (i := 68) rfl) rfl
set_option maxRecDepth 10000 in
theorem wd161 : (.lays RX2 RX2 "hour" "I" : Cond) ∈ mTL := mtb1 (List.mem_of_getElem? (i := 70) rfl) rfl
set_option maxRecDepth 10000 in
theorem wd164 : (.arrayClass .int : Cond) ∈ mTL := mtb1 (List.mem_of_getElem? (i := 73) rfl) rfl
set_option maxRecDepth 10000 in
theorem wd165 : (.arrayOver (.object RX2) : Cond) ∈ mTL := mtb1 (List.mem_of_getElem? (i := 74) rfl) rfl
set_option maxRecDepth 10000 in
theorem wd166 : (.classLink RX11 29 RX7 : Cond) ∈ mTL := mtb1 (List.mem_of_getElem? (i := 75) rfl) rfl
set_option maxRecDepth 10000 in
theorem wd167 : (.instantiable RX7 4 : Cond) ∈ mTL := mtb1 (List.mem_of_getElem? (i := 76) rfl) rfl
set_option maxRecDepth 10000 in
theorem wd168 : (.methodLinkNest RX11 31 yX7_init RX11 : Cond) ∈ mTL := mtb1 (List.mem_of_getElem? (i := 77) rfl) rfl
set_option maxRecDepth 10000 in
theorem wd169 : (.instanceMethod yX7_init : Cond) ∈ mTL := mtb1 (List.mem_of_getElem? (i := 78) rfl) rfl
set_option maxRecDepth 10000 in
theorem wd170 : (.code yX7_init cX7_init 1 none : Cond) ∈ mTL := mtb1 (List.mem_of_getElem? (i := 79) rfl) rfl
set_option maxRecDepth 10000 in
theorem wd171 : (.methodLink RX7 3 Lib.objectInit : Cond) ∈ mTL := mtb1 (List.mem_of_getElem? (i := 80) rfl) rfl
set_option maxRecDepth 10000 in
theorem wd172 : (.classLink RX7 9 "[[I" : Cond) ∈ mTL := mtb1 (List.mem_of_getElem? (i := 81) rfl) rfl
set_option maxRecDepth 10000 in
theorem wd173 : (.arrayOver (.array .int) : Cond) ∈ mTL := mtb1 (List.mem_of_getElem? (i := 82) rfl) rfl
set_option maxRecDepth 10000 in
theorem wd174 : (.fieldLink RX7 11 RX7 "seats" "[[I" : Cond) ∈ mTL := mtb1 (List.mem_of_getElem? (i := 83) rfl) rfl
set_option maxRecDepth 10000 in
theorem wd175 : (.fieldLink RX7 16 RX7 "hours" "[I" : Cond) ∈ mTL := mtb1 (List.mem_of_getElem? (i := 84) rfl) rfl
set_option maxRecDepth 10000 in
theorem wd176 : (.fieldLink RX7 29 RX7 "next" "I" : Cond) ∈ mTL := mtb1 (List.mem_of_getElem? (i := 85) rfl) rfl
set_option maxRecDepth 10000 in
theorem wd177 : (.fieldLink RX7 20 RX7 "kept" "I" : Cond) ∈ mTL := mtb1 (List.mem_of_getElem? (i := 86) rfl) rfl
set_option maxRecDepth 10000 in
theorem wd178 : (.fieldLinkNest RX11 238 RX7 "kept" "I" RX11 : Cond) ∈ mTL := mtb1 (List.mem_of_getElem? (i := 87) rfl) rfl
set_option maxRecDepth 10000 in
theorem wd179 : (.laysFinal RX7 RX7 "seats" "[[I" : Cond) ∈ mTL := mtb1 (List.mem_of_getElem? (i := 88) rfl) rfl
set_option maxRecDepth 10000 in
theorem wd181 : (.laysFinal RX7 RX7 "hours" "[I" : Cond) ∈ mTL := mtb1 (List.mem_of_getElem? (i := 90) rfl) rfl
set_option maxRecDepth 10000 in
theorem wd183 : (.lays RX7 RX7 "next" "I" : Cond) ∈ mTL := mtb1 (List.mem_of_getElem? (i := 92) rfl) rfl
set_option maxRecDepth 10000 in
theorem wd185 : (.lays RX7 RX7 "kept" "I" : Cond) ∈ mTL := mtb1 (List.mem_of_getElem? (i := 94) rfl) rfl
set_option maxRecDepth 10000 in
theorem wd188 : (.classLink RX11 36 RX10 : Cond) ∈ mTL := mtb1 (List.mem_of_getElem? (i := 97) rfl) rfl
set_option maxRecDepth 10000 in
theorem wd189 : (.instantiable RX10 2 : Cond) ∈ mTL := mtb1 (List.mem_of_getElem? (i := 98) rfl) rfl
set_option maxRecDepth 10000 in
theorem wd190 : (.methodLinkNest RX11 38 yX10_init RX11 : Cond) ∈ mTL := mtb1 (List.mem_of_getElem? (i := 99) rfl) rfl
set_option maxRecDepth 10000 in
theorem wd191 : (.instanceMethod yX10_init : Cond) ∈ mTL := mtb1 (List.mem_of_getElem? (i := 100) rfl) rfl
set_option maxRecDepth 10000 in
theorem wd192 : (.code yX10_init cX10_init 1 none : Cond) ∈ mTL := mtb1 (List.mem_of_getElem? (i := 101) rfl) rfl
set_option maxRecDepth 10000 in
theorem wd193 : (.methodLink RX10 3 Lib.objectInit : Cond) ∈ mTL := mtb1 (List.mem_of_getElem? (i := 102) rfl) rfl
set_option maxRecDepth 10000 in
theorem wd194 : (.fieldLink RX10 9 RX10 "letters" "[I" : Cond) ∈ mTL := mtb1 (List.mem_of_getElem? (i := 103) rfl) rfl
set_option maxRecDepth 10000 in
theorem wd195 : (.fieldLink RX10 15 RX10 "length" "I" : Cond) ∈ mTL := mtb1 (List.mem_of_getElem? (i := 104) rfl) rfl
set_option maxRecDepth 10000 in
theorem wd196 : (.fieldLinkNest RX11 121 RX10 "length" "I" RX11 : Cond) ∈ mTL := mtb1 (List.mem_of_getElem? (i := 105) rfl) rfl
set_option maxRecDepth 10000 in
theorem wd197 : (.laysFinal RX10 RX10 "letters" "[I" : Cond) ∈ mTL := mtb1 (List.mem_of_getElem? (i := 106) rfl) rfl
set_option maxRecDepth 10000 in
theorem wd199 : (.lays RX10 RX10 "length" "I" : Cond) ∈ mTL := mtb1 (List.mem_of_getElem? (i := 108) rfl) rfl
set_option maxRecDepth 10000 in
theorem wd202 : (.classLink RX11 43 RX9 : Cond) ∈ mTL := mtb1 (List.mem_of_getElem? (i := 111) rfl) rfl
set_option maxRecDepth 10000 in
theorem wd203 : (.instantiable RX9 4 : Cond) ∈ mTL := mtb1 (List.mem_of_getElem? (i := 112) rfl) rfl
set_option maxRecDepth 10000 in
theorem wd204 : (.methodLinkNest RX11 45 yX9_init RX11 : Cond) ∈ mTL := mtb1 (List.mem_of_getElem? (i := 113) rfl) rfl
set_option maxRecDepth 10000 in
theorem wd205 : (.instanceMethod yX9_init : Cond) ∈ mTL := mtb1 (List.mem_of_getElem? (i := 114) rfl) rfl
set_option maxRecDepth 10000 in
theorem wd206 : (.code yX9_init cX9_init 1 none : Cond) ∈ mTL := mtb1 (List.mem_of_getElem? (i := 115) rfl) rfl
set_option maxRecDepth 10000 in
theorem wd207 : (.methodLink RX9 3 Lib.objectInit : Cond) ∈ mTL := mtb1 (List.mem_of_getElem? (i := 116) rfl) rfl
set_option maxRecDepth 10000 in
theorem wd208 : (.fieldLink RX9 9 RX9 "numbers" "[I" : Cond) ∈ mTL := mtb1 (List.mem_of_getElem? (i := 117) rfl) rfl
set_option maxRecDepth 10000 in
theorem wd209 : (.fieldLinkNest RX8 32 RX9 "numbers" "[I" RX11 : Cond) ∈ mTL := mtb1 (List.mem_of_getElem? (i := 118) rfl) rfl
set_option maxRecDepth 10000 in
theorem wd210 : (.fieldLinkNest RX11 274 RX9 "numbers" "[I" RX11 : Cond) ∈ mTL := mtb1 (List.mem_of_getElem? (i := 119) rfl) rfl
set_option maxRecDepth 10000 in
theorem wd211 : (.fieldLink RX9 15 RX9 "thoughts" "[I" : Cond) ∈ mTL := mtb1 (List.mem_of_getElem? (i := 120) rfl) rfl
set_option maxRecDepth 10000 in
theorem wd212 : (.fieldLink RX9 18 RX9 "nextThoughts" "[I" : Cond) ∈ mTL := mtb1 (List.mem_of_getElem? (i := 121) rfl) rfl
set_option maxRecDepth 10000 in
theorem wd213 : (.fieldLink RX9 21 RX9 "length" "I" : Cond) ∈ mTL := mtb1 (List.mem_of_getElem? (i := 122) rfl) rfl
set_option maxRecDepth 10000 in
theorem wd214 : (.fieldLinkNest RX11 109 RX9 "length" "I" RX11 : Cond) ∈ mTL := mtb1 (List.mem_of_getElem? (i := 123) rfl) rfl
set_option maxRecDepth 10000 in
theorem wd215 : (.laysFinal RX9 RX9 "numbers" "[I" : Cond) ∈ mTL := mtb1 (List.mem_of_getElem? (i := 124) rfl) rfl
set_option maxRecDepth 10000 in
theorem wd217 : (.laysFinal RX9 RX9 "thoughts" "[I" : Cond) ∈ mTL := mtb1 (List.mem_of_getElem? (i := 126) rfl) rfl
set_option maxRecDepth 10000 in
theorem wd219 : (.laysFinal RX9 RX9 "nextThoughts" "[I" : Cond) ∈ mTL := mtb1 (List.mem_of_getElem? (i := 128) rfl) rfl
set_option maxRecDepth 10000 in
theorem wd221 : (.lays RX9 RX9 "length" "I" : Cond) ∈ mTL := mtb1 (List.mem_of_getElem? (i := 130) rfl) rfl
set_option maxRecDepth 10000 in
theorem wd224 : (.classLink RX11 60 RX1 : Cond) ∈ mTL := mtb1 (List.mem_of_getElem? (i := 133) rfl) rfl
set_option maxRecDepth 10000 in
theorem wd225 : (.instantiable RX1 6 : Cond) ∈ mTL := mtb1 (List.mem_of_getElem? (i := 134) rfl) rfl
set_option maxRecDepth 10000 in
theorem wd226 : (.methodLinkNest RX11 62 yX1_init RX11 : Cond) ∈ mTL := mtb1 (List.mem_of_getElem? (i := 135) rfl) rfl
set_option maxRecDepth 10000 in
theorem wd227 : (.instanceMethod yX1_init : Cond) ∈ mTL := mtb1 (List.mem_of_getElem? (i := 136) rfl) rfl
set_option maxRecDepth 10000 in
theorem wd228 : (.code yX1_init cX1_init 1 none : Cond) ∈ mTL := mtb1 (List.mem_of_getElem? (i := 137) rfl) rfl
set_option maxRecDepth 10000 in
theorem wd229 : (.methodLinkNest RX1 1 yX8_init RX11 : Cond) ∈ mTL := mtb1 (List.mem_of_getElem? (i := 138) rfl) rfl
set_option maxRecDepth 10000 in
theorem wd230 : (.instanceMethod yX8_init : Cond) ∈ mTL := mtb1 (List.mem_of_getElem? (i := 139) rfl) rfl
set_option maxRecDepth 10000 in
theorem wd231 : (.code yX8_init cX8_init 1 none : Cond) ∈ mTL := mtb1 (List.mem_of_getElem? (i := 140) rfl) rfl
set_option maxRecDepth 10000 in
theorem wd232 : (.methodLink RX8 3 Lib.objectInit : Cond) ∈ mTL := mtb1 (List.mem_of_getElem? (i := 141) rfl) rfl
set_option maxRecDepth 10000 in
theorem wd233 : (.fieldLink RX8 9 RX8 "way" "[I" : Cond) ∈ mTL := mtb1 (List.mem_of_getElem? (i := 142) rfl) rfl
set_option maxRecDepth 10000 in
theorem wd234 : (.fieldLink RX6 48 RX6 "way" "[I" : Cond) ∈ mTL := mtb1 (List.mem_of_getElem? (i := 143) rfl) rfl
set_option maxRecDepth 10000 in
theorem wd235 : (.sameField RX6 RX8 "way" "[I" : Cond) ∈ mTL := mtb1 (List.mem_of_getElem? (i := 144) rfl) rfl
set_option maxRecDepth 10000 in
theorem wd236 : (.fieldLink RX11 324 RX8 "way" "[I" : Cond) ∈ mTL := mtb1 (List.mem_of_getElem? (i := 145) rfl) rfl
set_option maxRecDepth 10000 in
theorem wd237 : (.fieldLink RX8 15 RX8 "found" "[I" : Cond) ∈ mTL := mtb1 (List.mem_of_getElem? (i := 146) rfl) rfl
set_option maxRecDepth 10000 in
theorem wd238 : (.fieldLink RX8 18 RX8 "told" "[I" : Cond) ∈ mTL := mtb1 (List.mem_of_getElem? (i := 147) rfl) rfl
set_option maxRecDepth 10000 in
theorem wd239 : (.fieldLink RX8 21 RX8 "asked" "I" : Cond) ∈ mTL := mtb1 (List.mem_of_getElem? (i := 148) rfl) rfl
set_option maxRecDepth 10000 in
theorem wd240 : (.fieldLink RX4 20 RX4 "asked" "I" : Cond) ∈ mTL := mtb1 (List.mem_of_getElem? (i := 149) rfl) rfl
set_option maxRecDepth 10000 in
theorem wd241 : (.sameField RX4 RX8 "asked" "I" : Cond) ∈ mTL := mtb1 (List.mem_of_getElem? (i := 150) rfl) rfl
set_option maxRecDepth 10000 in
theorem wd242 : (.fieldLink RX0 26 RX0 "asked" "I" : Cond) ∈ mTL := mtb1 (List.mem_of_getElem? (i := 151) rfl) rfl
set_option maxRecDepth 10000 in
theorem wd243 : (.sameField RX0 RX8 "asked" "I" : Cond) ∈ mTL := mtb1 (List.mem_of_getElem? (i := 152) rfl) rfl
set_option maxRecDepth 10000 in
theorem wd244 : (.fieldLink RX1 23 RX1 "asked" "I" : Cond) ∈ mTL := mtb1 (List.mem_of_getElem? (i := 153) rfl) rfl
set_option maxRecDepth 10000 in
theorem wd245 : (.sameField RX1 RX8 "asked" "I" : Cond) ∈ mTL := mtb1 (List.mem_of_getElem? (i := 154) rfl) rfl
set_option maxRecDepth 10000 in
theorem wd246 : (.fieldLink RX6 28 RX6 "asked" "I" : Cond) ∈ mTL := mtb1 (List.mem_of_getElem? (i := 155) rfl) rfl
set_option maxRecDepth 10000 in
theorem wd247 : (.sameField RX6 RX8 "asked" "I" : Cond) ∈ mTL := mtb1 (List.mem_of_getElem? (i := 156) rfl) rfl
set_option maxRecDepth 10000 in
theorem wd248 : (.fieldLink RX3 32 RX3 "asked" "I" : Cond) ∈ mTL := mtb1 (List.mem_of_getElem? (i := 157) rfl) rfl
set_option maxRecDepth 10000 in
theorem wd249 : (.sameField RX3 RX8 "asked" "I" : Cond) ∈ mTL := mtb1 (List.mem_of_getElem? (i := 158) rfl) rfl
set_option maxRecDepth 10000 in
theorem wd250 : (.fieldLink RX5 29 RX5 "asked" "I" : Cond) ∈ mTL := mtb1 (List.mem_of_getElem? (i := 159) rfl) rfl
set_option maxRecDepth 10000 in
theorem wd251 : (.sameField RX5 RX8 "asked" "I" : Cond) ∈ mTL := mtb1 (List.mem_of_getElem? (i := 160) rfl) rfl
set_option maxRecDepth 10000 in
theorem wd252 : (.fieldLink RX0 9 RX0 "best" "I" : Cond) ∈ mTL := mtb1 (List.mem_of_getElem? (i := 161) rfl) rfl
set_option maxRecDepth 10000 in
theorem wd253 : (.sameField RX0 RX8 "best" "I" : Cond) ∈ mTL := mtb1 (List.mem_of_getElem? (i := 162) rfl) rfl
set_option maxRecDepth 10000 in
theorem wd254 : (.fieldLink RX3 7 RX3 "best" "I" : Cond) ∈ mTL := mtb1 (List.mem_of_getElem? (i := 163) rfl) rfl
set_option maxRecDepth 10000 in
theorem wd255 : (.sameField RX3 RX8 "best" "I" : Cond) ∈ mTL := mtb1 (List.mem_of_getElem? (i := 164) rfl) rfl
set_option maxRecDepth 10000 in
theorem wd256 : (.fieldLink RX5 7 RX5 "best" "I" : Cond) ∈ mTL := mtb1 (List.mem_of_getElem? (i := 165) rfl) rfl
set_option maxRecDepth 10000 in
theorem wd257 : (.sameField RX5 RX8 "best" "I" : Cond) ∈ mTL := mtb1 (List.mem_of_getElem? (i := 166) rfl) rfl
set_option maxRecDepth 10000 in
theorem wd258 : (.fieldLink RX8 26 RX8 "best" "I" : Cond) ∈ mTL := mtb1 (List.mem_of_getElem? (i := 167) rfl) rfl
set_option maxRecDepth 10000 in
theorem wd259 : (.fieldLink RX1 13 RX1 "best" "I" : Cond) ∈ mTL := mtb1 (List.mem_of_getElem? (i := 168) rfl) rfl
set_option maxRecDepth 10000 in
theorem wd260 : (.sameField RX1 RX8 "best" "I" : Cond) ∈ mTL := mtb1 (List.mem_of_getElem? (i := 169) rfl) rfl
set_option maxRecDepth 10000 in
theorem wd261 : (.fieldLink RX6 35 RX6 "best" "I" : Cond) ∈ mTL := mtb1 (List.mem_of_getElem? (i := 170) rfl) rfl
set_option maxRecDepth 10000 in
theorem wd262 : (.sameField RX6 RX8 "best" "I" : Cond) ∈ mTL := mtb1 (List.mem_of_getElem? (i := 171) rfl) rfl
set_option maxRecDepth 10000 in
theorem wd263 : (.fieldLink RX11 362 RX0 "best" "I" : Cond) ∈ mTL := mtb1 (List.mem_of_getElem? (i := 172) rfl) rfl
set_option maxRecDepth 10000 in
theorem wd264 : (.fieldLink RX8 29 RX8 "foundHours" "I" : Cond) ∈ mTL := mtb1 (List.mem_of_getElem? (i := 173) rfl) rfl
set_option maxRecDepth 10000 in
theorem wd265 : (.laysFinal RX1 RX8 "way" "[I" : Cond) ∈ mTL := mtb1 (List.mem_of_getElem? (i := 174) rfl) rfl
set_option maxRecDepth 10000 in
theorem wd267 : (.laysFinal RX1 RX8 "found" "[I" : Cond) ∈ mTL := mtb1 (List.mem_of_getElem? (i := 176) rfl) rfl
set_option maxRecDepth 10000 in
theorem wd269 : (.laysFinal RX1 RX8 "told" "[I" : Cond) ∈ mTL := mtb1 (List.mem_of_getElem? (i := 178) rfl) rfl
set_option maxRecDepth 10000 in
theorem wd271 : (.lays RX1 RX8 "asked" "I" : Cond) ∈ mTL := mtb1 (List.mem_of_getElem? (i := 180) rfl) rfl
set_option maxRecDepth 10000 in
theorem wd273 : (.lays RX1 RX8 "best" "I" : Cond) ∈ mTL := mtb1 (List.mem_of_getElem? (i := 182) rfl) rfl
set_option maxRecDepth 10000 in
theorem wd275 : (.lays RX1 RX8 "foundHours" "I" : Cond) ∈ mTL := mtb1 (List.mem_of_getElem? (i := 184) rfl) rfl
set_option maxRecDepth 10000 in
theorem wd278 : (.classLink RX11 67 RX4 : Cond) ∈ mTL := mtb1 (List.mem_of_getElem? (i := 187) rfl) rfl
set_option maxRecDepth 10000 in
theorem wd279 : (.instantiable RX4 7 : Cond) ∈ mTL := mtb1 (List.mem_of_getElem? (i := 188) rfl) rfl
set_option maxRecDepth 10000 in
theorem wd280 : (.methodLinkNest RX11 69 yX4_init RX11 : Cond) ∈ mTL := mtb1 (List.mem_of_getElem? (i := 189) rfl) rfl
set_option maxRecDepth 10000 in
theorem wd281 : (.instanceMethod yX4_init : Cond) ∈ mTL := mtb1 (List.mem_of_getElem? (i := 190) rfl) rfl
set_option maxRecDepth 10000 in
theorem wd282 : (.code yX4_init cX4_init 1 none : Cond) ∈ mTL := mtb1 (List.mem_of_getElem? (i := 191) rfl) rfl
set_option maxRecDepth 10000 in
theorem wd283 : (.methodLinkNest RX4 3 yX8_init RX11 : Cond) ∈ mTL := mtb1 (List.mem_of_getElem? (i := 192) rfl) rfl
set_option maxRecDepth 10000 in
theorem wd284 : (.fieldLink RX4 15 RX4 "most" "I" : Cond) ∈ mTL := mtb1 (List.mem_of_getElem? (i := 193) rfl) rfl
set_option maxRecDepth 10000 in
theorem wd285 : (.fieldLinkNest RX11 351 RX4 "most" "I" RX11 : Cond) ∈ mTL := mtb1 (List.mem_of_getElem? (i := 194) rfl) rfl
set_option maxRecDepth 10000 in
theorem wd286 : (.lays RX4 RX4 "most" "I" : Cond) ∈ mTL := mtb1 (List.mem_of_getElem? (i := 195) rfl) rfl
set_option maxRecDepth 10000 in
theorem wd288 : (.laysFinal RX4 RX8 "way" "[I" : Cond) ∈ mTL := mtb1 (List.mem_of_getElem? (i := 197) rfl) rfl
set_option maxRecDepth 10000 in
theorem wd289 : (.laysFinal RX4 RX8 "found" "[I" : Cond) ∈ mTL := mtb1 (List.mem_of_getElem? (i := 198) rfl) rfl
set_option maxRecDepth 10000 in
theorem wd290 : (.laysFinal RX4 RX8 "told" "[I" : Cond) ∈ mTL := mtb1 (List.mem_of_getElem? (i := 199) rfl) rfl
set_option maxRecDepth 10000 in
theorem wd291 : (.lays RX4 RX8 "asked" "I" : Cond) ∈ mTL := mtb1 (List.mem_of_getElem? (i := 200) rfl) rfl
set_option maxRecDepth 10000 in
theorem wd292 : (.lays RX4 RX8 "best" "I" : Cond) ∈ mTL := mtb1 (List.mem_of_getElem? (i := 201) rfl) rfl
set_option maxRecDepth 10000 in
theorem wd293 : (.lays RX4 RX8 "foundHours" "I" : Cond) ∈ mTL := mtb1 (List.mem_of_getElem? (i := 202) rfl) rfl
set_option maxRecDepth 10000 in
theorem wd295 : (.classLink RX11 74 RX0 : Cond) ∈ mTL := mtb1 (List.mem_of_getElem? (i := 204) rfl) rfl
set_option maxRecDepth 10000 in
theorem wd296 : (.instantiable RX0 6 : Cond) ∈ mTL := mtb1 (List.mem_of_getElem? (i := 205) rfl) rfl
set_option maxRecDepth 10000 in
theorem wd297 : (.methodLinkNest RX11 76 yX0_init RX11 : Cond) ∈ mTL := mtb1 (List.mem_of_getElem? (i := 206) rfl) rfl
set_option maxRecDepth 10000 in
theorem wd298 : (.instanceMethod yX0_init : Cond) ∈ mTL := mtb1 (List.mem_of_getElem? (i := 207) rfl) rfl
set_option maxRecDepth 10000 in
theorem wd299 : (.code yX0_init cX0_init 1 none : Cond) ∈ mTL := mtb1 (List.mem_of_getElem? (i := 208) rfl) rfl
set_option maxRecDepth 10000 in
theorem wd300 : (.methodLinkNest RX0 3 yX8_init RX11 : Cond) ∈ mTL := mtb1 (List.mem_of_getElem? (i := 209) rfl) rfl
set_option maxRecDepth 10000 in
theorem wd301 : (.laysFinal RX0 RX8 "way" "[I" : Cond) ∈ mTL := mtb1 (List.mem_of_getElem? (i := 210) rfl) rfl
set_option maxRecDepth 10000 in
theorem wd302 : (.laysFinal RX0 RX8 "found" "[I" : Cond) ∈ mTL := mtb1 (List.mem_of_getElem? (i := 211) rfl) rfl
set_option maxRecDepth 10000 in
theorem wd303 : (.laysFinal RX0 RX8 "told" "[I" : Cond) ∈ mTL := mtb1 (List.mem_of_getElem? (i := 212) rfl) rfl
set_option maxRecDepth 10000 in
theorem wd304 : (.lays RX0 RX8 "asked" "I" : Cond) ∈ mTL := mtb1 (List.mem_of_getElem? (i := 213) rfl) rfl
set_option maxRecDepth 10000 in
theorem wd305 : (.lays RX0 RX8 "best" "I" : Cond) ∈ mTL := mtb1 (List.mem_of_getElem? (i := 214) rfl) rfl
set_option maxRecDepth 10000 in
theorem wd306 : (.lays RX0 RX8 "foundHours" "I" : Cond) ∈ mTL := mtb1 (List.mem_of_getElem? (i := 215) rfl) rfl
set_option maxRecDepth 10000 in
theorem wd308 : (.classLink RX11 81 RX6 : Cond) ∈ mTL := mtb1 (List.mem_of_getElem? (i := 217) rfl) rfl
set_option maxRecDepth 10000 in
theorem wd309 : (.instantiable RX6 8 : Cond) ∈ mTL := mtb1 (List.mem_of_getElem? (i := 218) rfl) rfl
set_option maxRecDepth 10000 in
theorem wd310 : (.methodLinkNest RX11 83 yX6_init RX11 : Cond) ∈ mTL := mtb1 (List.mem_of_getElem? (i := 219) rfl) rfl
set_option maxRecDepth 10000 in
theorem wd311 : (.instanceMethod yX6_init : Cond) ∈ mTL := mtb1 (List.mem_of_getElem? (i := 220) rfl) rfl
set_option maxRecDepth 10000 in
theorem wd312 : (.code yX6_init cX6_init 1 none : Cond) ∈ mTL := mtb1 (List.mem_of_getElem? (i := 221) rfl) rfl
set_option maxRecDepth 10000 in
theorem wd313 : (.methodLinkNest RX6 3 yX8_init RX11 : Cond) ∈ mTL := mtb1 (List.mem_of_getElem? (i := 222) rfl) rfl
set_option maxRecDepth 10000 in
theorem wd314 : (.fieldLink RX6 9 RX6 "ways" "I" : Cond) ∈ mTL := mtb1 (List.mem_of_getElem? (i := 223) rfl) rfl
set_option maxRecDepth 10000 in
theorem wd315 : (.fieldLinkNest RX11 368 RX6 "ways" "I" RX11 : Cond) ∈ mTL := mtb1 (List.mem_of_getElem? (i := 224) rfl) rfl
set_option maxRecDepth 10000 in
theorem wd316 : (.fieldLink RX6 15 RX6 "fed" "I" : Cond) ∈ mTL := mtb1 (List.mem_of_getElem? (i := 225) rfl) rfl
set_option maxRecDepth 10000 in
theorem wd317 : (.fieldLinkNest RX11 371 RX6 "fed" "I" RX11 : Cond) ∈ mTL := mtb1 (List.mem_of_getElem? (i := 226) rfl) rfl
set_option maxRecDepth 10000 in
theorem wd318 : (.lays RX6 RX6 "ways" "I" : Cond) ∈ mTL := mtb1 (List.mem_of_getElem? (i := 227) rfl) rfl
set_option maxRecDepth 10000 in
theorem wd320 : (.lays RX6 RX6 "fed" "I" : Cond) ∈ mTL := mtb1 (List.mem_of_getElem? (i := 229) rfl) rfl
set_option maxRecDepth 10000 in
theorem wd322 : (.laysFinal RX6 RX8 "way" "[I" : Cond) ∈ mTL := mtb1 (List.mem_of_getElem? (i := 231) rfl) rfl
set_option maxRecDepth 10000 in
theorem wd323 : (.laysFinal RX6 RX8 "found" "[I" : Cond) ∈ mTL := mtb1 (List.mem_of_getElem? (i := 232) rfl) rfl
set_option maxRecDepth 10000 in
theorem wd324 : (.laysFinal RX6 RX8 "told" "[I" : Cond) ∈ mTL := mtb1 (List.mem_of_getElem? (i := 233) rfl) rfl
set_option maxRecDepth 10000 in
theorem wd325 : (.lays RX6 RX8 "asked" "I" : Cond) ∈ mTL := mtb1 (List.mem_of_getElem? (i := 234) rfl) rfl
set_option maxRecDepth 10000 in
theorem wd326 : (.lays RX6 RX8 "best" "I" : Cond) ∈ mTL := mtb1 (List.mem_of_getElem? (i := 235) rfl) rfl
set_option maxRecDepth 10000 in
theorem wd327 : (.lays RX6 RX8 "foundHours" "I" : Cond) ∈ mTL := mtb1 (List.mem_of_getElem? (i := 236) rfl) rfl
set_option maxRecDepth 10000 in
theorem wd329 : (.classLink RX11 88 RX5 : Cond) ∈ mTL := mtb1 (List.mem_of_getElem? (i := 238) rfl) rfl
set_option maxRecDepth 10000 in
theorem wd330 : (.instantiable RX5 8 : Cond) ∈ mTL := mtb1 (List.mem_of_getElem? (i := 239) rfl) rfl
set_option maxRecDepth 10000 in
theorem wd331 : (.methodLinkNest RX11 90 yX5_init RX11 : Cond) ∈ mTL := mtb2 (List.mem_of_getElem? (i := 0) rfl) rfl
set_option maxRecDepth 10000 in
theorem wd332 : (.instanceMethod yX5_init : Cond) ∈ mTL := mtb2 (List.mem_of_getElem? (i := 1) rfl) rfl
set_option maxRecDepth 10000 in
theorem wd333 : (.code yX5_init cX5_init 1 none : Cond) ∈ mTL := mtb2 (List.mem_of_getElem? (i := 2) rfl) rfl
set_option maxRecDepth 10000 in
theorem wd334 : (.methodLinkNest RX5 1 yX8_init RX11 : Cond) ∈ mTL := mtb2 (List.mem_of_getElem? (i := 3) rfl) rfl
set_option maxRecDepth 10000 in
theorem wd335 : (.fieldLink RX5 19 RX5 "bird" "I" : Cond) ∈ mTL := mtb2 (List.mem_of_getElem? (i := 4) rfl) rfl
set_option maxRecDepth 10000 in
theorem wd336 : (.fieldLinkNest RX11 376 RX5 "bird" "I" RX11 : Cond) ∈ mTL := mtb2 (List.mem_of_getElem? (i := 5) rfl) rfl
set_option maxRecDepth 10000 in
theorem wd337 : (.fieldLink RX5 22 RX5 "wire" "I" : Cond) ∈ mTL := mtb2 (List.mem_of_getElem? (i := 6) rfl) rfl
set_option maxRecDepth 10000 in
theorem wd338 : (.fieldLinkNest RX11 379 RX5 "wire" "I" RX11 : Cond) ∈ mTL := mtb2 (List.mem_of_getElem? (i := 7) rfl) rfl
set_option maxRecDepth 10000 in
theorem wd339 : (.lays RX5 RX5 "bird" "I" : Cond) ∈ mTL := mtb2 (List.mem_of_getElem? (i := 8) rfl) rfl
set_option maxRecDepth 10000 in
theorem wd341 : (.lays RX5 RX5 "wire" "I" : Cond) ∈ mTL := mtb2 (List.mem_of_getElem? (i := 10) rfl) rfl
set_option maxRecDepth 10000 in
theorem wd343 : (.laysFinal RX5 RX8 "way" "[I" : Cond) ∈ mTL := mtb2 (List.mem_of_getElem? (i := 12) rfl) rfl
set_option maxRecDepth 10000 in
theorem wd344 : (.laysFinal RX5 RX8 "found" "[I" : Cond) ∈ mTL := mtb2 (List.mem_of_getElem? (i := 13) rfl) rfl
set_option maxRecDepth 10000 in
theorem wd345 : (.laysFinal RX5 RX8 "told" "[I" : Cond) ∈ mTL := mtb2 (List.mem_of_getElem? (i := 14) rfl) rfl
set_option maxRecDepth 10000 in
theorem wd346 : (.lays RX5 RX8 "asked" "I" : Cond) ∈ mTL := mtb2 (List.mem_of_getElem? (i := 15) rfl) rfl
set_option maxRecDepth 10000 in
theorem wd347 : (.lays RX5 RX8 "best" "I" : Cond) ∈ mTL := mtb2 (List.mem_of_getElem? (i := 16) rfl) rfl
set_option maxRecDepth 10000 in
theorem wd348 : (.lays RX5 RX8 "foundHours" "I" : Cond) ∈ mTL := mtb2 (List.mem_of_getElem? (i := 17) rfl) rfl
set_option maxRecDepth 10000 in
theorem wd350 : (.classLink RX11 95 RX3 : Cond) ∈ mTL := mtb2 (List.mem_of_getElem? (i := 19) rfl) rfl
set_option maxRecDepth 10000 in
theorem wd351 : (.instantiable RX3 7 : Cond) ∈ mTL := mtb2 (List.mem_of_getElem? (i := 20) rfl) rfl
set_option maxRecDepth 10000 in
theorem wd352 : (.methodLinkNest RX11 97 yX3_init RX11 : Cond) ∈ mTL := mtb2 (List.mem_of_getElem? (i := 21) rfl) rfl
set_option maxRecDepth 10000 in
theorem wd353 : (.instanceMethod yX3_init : Cond) ∈ mTL := mtb2 (List.mem_of_getElem? (i := 22) rfl) rfl
set_option maxRecDepth 10000 in
theorem wd354 : (.code yX3_init cX3_init 1 none : Cond) ∈ mTL := mtb2 (List.mem_of_getElem? (i := 23) rfl) rfl
set_option maxRecDepth 10000 in
theorem wd355 : (.methodLinkNest RX3 1 yX8_init RX11 : Cond) ∈ mTL := mtb2 (List.mem_of_getElem? (i := 24) rfl) rfl
set_option maxRecDepth 10000 in
theorem wd356 : (.fieldLink RX3 25 RX3 "wires" "I" : Cond) ∈ mTL := mtb2 (List.mem_of_getElem? (i := 25) rfl) rfl
set_option maxRecDepth 10000 in
theorem wd357 : (.fieldLinkNest RX11 385 RX3 "wires" "I" RX11 : Cond) ∈ mTL := mtb2 (List.mem_of_getElem? (i := 26) rfl) rfl
set_option maxRecDepth 10000 in
theorem wd358 : (.lays RX3 RX3 "wires" "I" : Cond) ∈ mTL := mtb2 (List.mem_of_getElem? (i := 27) rfl) rfl
set_option maxRecDepth 10000 in
theorem wd360 : (.laysFinal RX3 RX8 "way" "[I" : Cond) ∈ mTL := mtb2 (List.mem_of_getElem? (i := 29) rfl) rfl
set_option maxRecDepth 10000 in
theorem wd361 : (.laysFinal RX3 RX8 "found" "[I" : Cond) ∈ mTL := mtb2 (List.mem_of_getElem? (i := 30) rfl) rfl
set_option maxRecDepth 10000 in
theorem wd362 : (.laysFinal RX3 RX8 "told" "[I" : Cond) ∈ mTL := mtb2 (List.mem_of_getElem? (i := 31) rfl) rfl
set_option maxRecDepth 10000 in
theorem wd363 : (.lays RX3 RX8 "asked" "I" : Cond) ∈ mTL := mtb2 (List.mem_of_getElem? (i := 32) rfl) rfl
set_option maxRecDepth 10000 in
theorem wd364 : (.lays RX3 RX8 "best" "I" : Cond) ∈ mTL := mtb2 (List.mem_of_getElem? (i := 33) rfl) rfl
set_option maxRecDepth 10000 in
theorem wd365 : (.lays RX3 RX8 "foundHours" "I" : Cond) ∈ mTL := mtb2 (List.mem_of_getElem? (i := 34) rfl) rfl
set_option maxRecDepth 10000 in
theorem wd367 : (.fieldLink RX11 10 RX11 "now" "LClockOfSwallows$Flock;" : Cond) ∈ mTL := mtb2 (List.mem_of_getElem? (i := 36) rfl) rfl
set_option maxRecDepth 10000 in
theorem wd368 : (.fieldLink RX11 16 RX11 "imaged" "LClockOfSwallows$Flock;" : Cond) ∈ mTL := mtb2 (List.mem_of_getElem? (i := 37) rfl) rfl
set_option maxRecDepth 10000 in
theorem wd369 : (.fieldLink RX11 19 RX11 "draft" "LClockOfSwallows$Flock;" : Cond) ∈ mTL := mtb2 (List.mem_of_getElem? (i := 38) rfl) rfl
set_option maxRecDepth 10000 in
theorem wd370 : (.fieldLink RX11 22 RX11 "mind" "LClockOfSwallows$Flock;" : Cond) ∈ mTL := mtb2 (List.mem_of_getElem? (i := 39) rfl) rfl
set_option maxRecDepth 10000 in
theorem wd371 : (.fieldLink RX11 25 RX11 "steps" "[LClockOfSwallows$Flock;" : Cond) ∈ mTL := mtb2 (List.mem_of_getElem? (i := 40) rfl) rfl
set_option maxRecDepth 10000 in
theorem wd372 : (.fieldLink RX11 32 RX11 "past" "LClockOfSwallows$Past;" : Cond) ∈ mTL := mtb2 (List.mem_of_getElem? (i := 41) rfl) rfl
set_option maxRecDepth 10000 in
theorem wd373 : (.fieldLink RX11 39 RX11 "text" "LClockOfSwallows$Text;" : Cond) ∈ mTL := mtb2 (List.mem_of_getElem? (i := 42) rfl) rfl
set_option maxRecDepth 10000 in
theorem wd374 : (.fieldLink RX11 46 RX11 "row" "LClockOfSwallows$Row;" : Cond) ∈ mTL := mtb2 (List.mem_of_getElem? (i := 43) rfl) rfl
set_option maxRecDepth 10000 in
theorem wd375 : (.fieldLink RX11 50 RX11 "refused" "[I" : Cond) ∈ mTL := mtb2 (List.mem_of_getElem? (i := 44) rfl) rfl
set_option maxRecDepth 10000 in
theorem wd376 : (.fieldLink RX11 54 RX11 "tally" "[I" : Cond) ∈ mTL := mtb2 (List.mem_of_getElem? (i := 45) rfl) rfl
set_option maxRecDepth 10000 in
theorem wd377 : (.fieldLink RX11 57 RX11 "totals" "[I" : Cond) ∈ mTL := mtb2 (List.mem_of_getElem? (i := 46) rfl) rfl
set_option maxRecDepth 10000 in
theorem wd378 : (.fieldLink RX11 63 RX11 "feedingQuest" "LClockOfSwallows$FeedingQuest;" : Cond) ∈ mTL := mtb2 (List.mem_of_getElem? (i := 47) rfl) rfl
set_option maxRecDepth 10000 in
theorem wd379 : (.fieldLink RX11 70 RX11 "highestQuest" "LClockOfSwallows$HighestQuest;" : Cond) ∈ mTL := mtb2 (List.mem_of_getElem? (i := 48) rfl) rfl
set_option maxRecDepth 10000 in
theorem wd380 : (.fieldLink RX11 77 RX11 "chordQuest" "LClockOfSwallows$ChordQuest;" : Cond) ∈ mTL := mtb2 (List.mem_of_getElem? (i := 49) rfl) rfl
set_option maxRecDepth 10000 in
theorem wd381 : (.fieldLink RX11 84 RX11 "movedQuest" "LClockOfSwallows$MovedQuest;" : Cond) ∈ mTL := mtb2 (List.mem_of_getElem? (i := 50) rfl) rfl
set_option maxRecDepth 10000 in
theorem wd382 : (.fieldLink RX11 91 RX11 "lureQuest" "LClockOfSwallows$LureQuest;" : Cond) ∈ mTL := mtb2 (List.mem_of_getElem? (i := 51) rfl) rfl
set_option maxRecDepth 10000 in
theorem wd383 : (.fieldLink RX11 98 RX11 "gatherQuest" "LClockOfSwallows$GatherQuest;" : Cond) ∈ mTL := mtb2 (List.mem_of_getElem? (i := 52) rfl) rfl
set_option maxRecDepth 10000 in
theorem wd384 : (.fieldLink RX11 424 RX11 "hasImage" "Z" : Cond) ∈ mTL := mtb2 (List.mem_of_getElem? (i := 53) rfl) rfl
set_option maxRecDepth 10000 in
theorem wd385 : (.laysFinal RX11 RX11 "now" "LClockOfSwallows$Flock;" : Cond) ∈ mTL := mtb2 (List.mem_of_getElem? (i := 54) rfl) rfl
set_option maxRecDepth 10000 in
theorem wd387 : (.laysFinal RX11 RX11 "imaged" "LClockOfSwallows$Flock;" : Cond) ∈ mTL := mtb2 (List.mem_of_getElem? (i := 56) rfl) rfl
set_option maxRecDepth 10000 in
theorem wd389 : (.laysFinal RX11 RX11 "draft" "LClockOfSwallows$Flock;" : Cond) ∈ mTL := mtb2 (List.mem_of_getElem? (i := 58) rfl) rfl
set_option maxRecDepth 10000 in
theorem wd391 : (.laysFinal RX11 RX11 "mind" "LClockOfSwallows$Flock;" : Cond) ∈ mTL := mtb2 (List.mem_of_getElem? (i := 60) rfl) rfl
set_option maxRecDepth 10000 in
theorem wd393 : (.laysFinal RX11 RX11 "steps" "[LClockOfSwallows$Flock;" : Cond) ∈ mTL := mtb2 (List.mem_of_getElem? (i := 62) rfl) rfl
set_option maxRecDepth 10000 in
theorem wd395 : (.laysFinal RX11 RX11 "past" "LClockOfSwallows$Past;" : Cond) ∈ mTL := mtb2 (List.mem_of_getElem? (i := 64) rfl) rfl
set_option maxRecDepth 10000 in
theorem wd397 : (.laysFinal RX11 RX11 "text" "LClockOfSwallows$Text;" : Cond) ∈ mTL := mtb2 (List.mem_of_getElem? (i := 66) rfl) rfl
set_option maxRecDepth 10000 in
theorem wd399 : (.laysFinal RX11 RX11 "row" "LClockOfSwallows$Row;" : Cond) ∈ mTL := mtb2 (List.mem_of_getElem? (i := 68) rfl) rfl
set_option maxRecDepth 10000 in
theorem wd401 : (.laysFinal RX11 RX11 "refused" "[I" : Cond) ∈ mTL := mtb2 (List.mem_of_getElem? (i := 70) rfl) rfl
set_option maxRecDepth 10000 in
theorem wd403 : (.laysFinal RX11 RX11 "tally" "[I" : Cond) ∈ mTL := mtb2 (List.mem_of_getElem? (i := 72) rfl) rfl
set_option maxRecDepth 10000 in
theorem wd405 : (.laysFinal RX11 RX11 "totals" "[I" : Cond) ∈ mTL := mtb2 (List.mem_of_getElem? (i := 74) rfl) rfl
set_option maxRecDepth 10000 in
theorem wd407 : (.laysFinal RX11 RX11 "feedingQuest" "LClockOfSwallows$FeedingQuest;" : Cond) ∈ mTL := mtb2 (List.mem_of_getElem? (i := 76) rfl) rfl
set_option maxRecDepth 10000 in
theorem wd409 : (.laysFinal RX11 RX11 "highestQuest" "LClockOfSwallows$HighestQuest;" : Cond) ∈ mTL := mtb2 (List.mem_of_getElem? (i := 78) rfl) rfl
set_option maxRecDepth 10000 in
theorem wd411 : (.laysFinal RX11 RX11 "chordQuest" "LClockOfSwallows$ChordQuest;" : Cond) ∈ mTL := mtb2 (List.mem_of_getElem? (i := 80) rfl) rfl
set_option maxRecDepth 10000 in
theorem wd413 : (.laysFinal RX11 RX11 "movedQuest" "LClockOfSwallows$MovedQuest;" : Cond) ∈ mTL := mtb2 (List.mem_of_getElem? (i := 82) rfl) rfl
set_option maxRecDepth 10000 in
theorem wd415 : (.laysFinal RX11 RX11 "lureQuest" "LClockOfSwallows$LureQuest;" : Cond) ∈ mTL := mtb2 (List.mem_of_getElem? (i := 84) rfl) rfl
set_option maxRecDepth 10000 in
theorem wd417 : (.laysFinal RX11 RX11 "gatherQuest" "LClockOfSwallows$GatherQuest;" : Cond) ∈ mTL := mtb2 (List.mem_of_getElem? (i := 86) rfl) rfl
set_option maxRecDepth 10000 in
theorem wd419 : (.lays RX11 RX11 "hasImage" "Z" : Cond) ∈ mTL := mtb2 (List.mem_of_getElem? (i := 88) rfl) rfl
set_option maxRecDepth 10000 in
theorem wd422 : (.methodLink RL 13 yX11_feed : Cond) ∈ mTL := mtb2 (List.mem_of_getElem? (i := 91) rfl) rfl
set_option maxRecDepth 10000 in
theorem wd423 : (.instanceMethod yX11_feed : Cond) ∈ mTL := mtb2 (List.mem_of_getElem? (i := 92) rfl) rfl
set_option maxRecDepth 10000 in
theorem wd424 : (.selects RX11 yX11_feed yX11_feed : Cond) ∈ mTL := mtb2 (List.mem_of_getElem? (i := 93) rfl) rfl
set_option maxRecDepth 10000 in
theorem wd425 : (.code yX11_feed cX11_feed 3 (some .int) : Cond) ∈ mTL := mtb2 (List.mem_of_getElem? (i := 94) rfl) rfl
set_option maxRecDepth 10000 in
theorem wd426 : (.methodLink RX11 117 yX11_outside : Cond) ∈ mTL := mtb2 (List.mem_of_getElem? (i := 95) rfl) rfl
set_option maxRecDepth 10000 in
theorem wd427 : (.static yX11_outside : Cond) ∈ mTL := mtb2 (List.mem_of_getElem? (i := 96) rfl) rfl
set_option maxRecDepth 10000 in
theorem wd428 : (.code yX11_outside cX11_outside 3 (some .int) : Cond) ∈ mTL := mtb2 (List.mem_of_getElem? (i := 97) rfl) rfl
set_option maxRecDepth 10000 in
theorem wd429 : (.methodLink RX11 122 yX11_refuse : Cond) ∈ mTL := mtb2 (List.mem_of_getElem? (i := 98) rfl) rfl
set_option maxRecDepth 10000 in
theorem wd431 : (.instanceMethod yX11_refuse : Cond) ∈ mTL := mtb2 (List.mem_of_getElem? (i := 100) rfl) rfl
set_option maxRecDepth 10000 in
theorem wd432 : (.code yX11_refuse cX11_refuse 3 (some .int) : Cond) ∈ mTL := mtb2 (List.mem_of_getElem? (i := 101) rfl) rfl
set_option maxRecDepth 10000 in
theorem wd433 : (.methodLink RX11 126 yX10_put : Cond) ∈ mTL := mtb2 (List.mem_of_getElem? (i := 102) rfl) rfl
set_option maxRecDepth 10000 in
theorem wd434 : (.instanceMethod yX10_put : Cond) ∈ mTL := mtb2 (List.mem_of_getElem? (i := 103) rfl) rfl
set_option maxRecDepth 10000 in
theorem wd435 : (.selects RX10 yX10_put yX10_put : Cond) ∈ mTL := mtb2 (List.mem_of_getElem? (i := 104) rfl) rfl
set_option maxRecDepth 10000 in
theorem wd436 : (.code yX10_put cX10_put 2 (some .int) : Cond) ∈ mTL := mtb2 (List.mem_of_getElem? (i := 105) rfl) rfl
set_option maxRecDepth 10000 in
theorem wd437 : (.methodLink RL 18 yX11_town : Cond) ∈ mTL := mtb2 (List.mem_of_getElem? (i := 106) rfl) rfl
set_option maxRecDepth 10000 in
theorem wd438 : (.instanceMethod yX11_town : Cond) ∈ mTL := mtb2 (List.mem_of_getElem? (i := 107) rfl) rfl
set_option maxRecDepth 10000 in
theorem wd439 : (.selects RX11 yX11_town yX11_town : Cond) ∈ mTL := mtb2 (List.mem_of_getElem? (i := 108) rfl) rfl
set_option maxRecDepth 10000 in
theorem wd440 : (.code yX11_town cX11_town 3 (some .int) : Cond) ∈ mTL := mtb2 (List.mem_of_getElem? (i := 109) rfl) rfl
set_option maxRecDepth 10000 in
theorem wd441 : (.methodLink RX11 129 yX10_oddPlace : Cond) ∈ mTL := mtb2 (List.mem_of_getElem? (i := 110) rfl) rfl
set_option maxRecDepth 10000 in
theorem wd442 : (.instanceMethod yX10_oddPlace : Cond) ∈ mTL := mtb2 (List.mem_of_getElem? (i := 111) rfl) rfl
set_option maxRecDepth 10000 in
theorem wd443 : (.selects RX10 yX10_oddPlace yX10_oddPlace : Cond) ∈ mTL := mtb2 (List.mem_of_getElem? (i := 112) rfl) rfl
set_option maxRecDepth 10000 in
theorem wd444 : (.code yX10_oddPlace cX10_oddPlace 4 (some .int) : Cond) ∈ mTL := mtb2 (List.mem_of_getElem? (i := 113) rfl) rfl
set_option maxRecDepth 10000 in
theorem wd445 : (.methodLink RX10 19 yX10_letterAt : Cond) ∈ mTL := mtb2 (List.mem_of_getElem? (i := 114) rfl) rfl
set_option maxRecDepth 10000 in
theorem wd446 : (.instanceMethod yX10_letterAt : Cond) ∈ mTL := mtb2 (List.mem_of_getElem? (i := 115) rfl) rfl
set_option maxRecDepth 10000 in
theorem wd447 : (.selects RX10 yX10_letterAt yX10_letterAt : Cond) ∈ mTL := mtb2 (List.mem_of_getElem? (i := 116) rfl) rfl
set_option maxRecDepth 10000 in
theorem wd448 : (.code yX10_letterAt cX10_letterAt 2 (some .int) : Cond) ∈ mTL := mtb2 (List.mem_of_getElem? (i := 117) rfl) rfl
set_option maxRecDepth 10000 in
theorem wd449 : (.methodLink RX10 23 yX10_digitsBehind : Cond) ∈ mTL := mtb2 (List.mem_of_getElem? (i := 118) rfl) rfl
set_option maxRecDepth 10000 in
theorem wd450 : (.static yX10_digitsBehind : Cond) ∈ mTL := mtb2 (List.mem_of_getElem? (i := 119) rfl) rfl
set_option maxRecDepth 10000 in
theorem wd451 : (.code yX10_digitsBehind cX10_digitsBehind 1 (some .int) : Cond) ∈ mTL := mtb2 (List.mem_of_getElem? (i := 120) rfl) rfl
set_option maxRecDepth 10000 in
theorem wd452 : (.methodLink RX10 26 yX10_digitAt : Cond) ∈ mTL := mtb2 (List.mem_of_getElem? (i := 121) rfl) rfl
set_option maxRecDepth 10000 in
theorem wd453 : (.instanceMethod yX10_digitAt : Cond) ∈ mTL := mtb2 (List.mem_of_getElem? (i := 122) rfl) rfl
set_option maxRecDepth 10000 in
theorem wd454 : (.selects RX10 yX10_digitAt yX10_digitAt : Cond) ∈ mTL := mtb2 (List.mem_of_getElem? (i := 123) rfl) rfl
set_option maxRecDepth 10000 in
theorem wd455 : (.code yX10_digitAt cX10_digitAt 3 (some .int) : Cond) ∈ mTL := mtb2 (List.mem_of_getElem? (i := 124) rfl) rfl
set_option maxRecDepth 10000 in
theorem wd456 : (.methodLink RX11 132 yX11_readTown : Cond) ∈ mTL := mtb2 (List.mem_of_getElem? (i := 125) rfl) rfl
set_option maxRecDepth 10000 in
theorem wd458 : (.instanceMethod yX11_readTown : Cond) ∈ mTL := mtb2 (List.mem_of_getElem? (i := 127) rfl) rfl
set_option maxRecDepth 10000 in
theorem wd459 : (.code yX11_readTown cX11_readTown 3 (some .int) : Cond) ∈ mTL := mtb2 (List.mem_of_getElem? (i := 128) rfl) rfl
set_option maxRecDepth 10000 in
theorem wd460 : (.methodLink RX11 135 yX2_become : Cond) ∈ mTL := mtb2 (List.mem_of_getElem? (i := 129) rfl) rfl
set_option maxRecDepth 10000 in
theorem wd461 : (.instanceMethod yX2_become : Cond) ∈ mTL := mtb2 (List.mem_of_getElem? (i := 130) rfl) rfl
set_option maxRecDepth 10000 in
theorem wd462 : (.selects RX2 yX2_become yX2_become : Cond) ∈ mTL := mtb2 (List.mem_of_getElem? (i := 131) rfl) rfl
set_option maxRecDepth 10000 in
theorem wd463 : (.code yX2_become cX2_become 2 none : Cond) ∈ mTL := mtb2 (List.mem_of_getElem? (i := 132) rfl) rfl
set_option maxRecDepth 10000 in
theorem wd464 : (.methodLink RX2 31 arraycopyName : Cond) ∈ mTL := mtb2 (List.mem_of_getElem? (i := 133) rfl) rfl
set_option maxRecDepth 10000 in
theorem wd465 : (.static arraycopyName : Cond) ∈ mTL := mtb2 (List.mem_of_getElem? (i := 134) rfl) rfl
set_option maxRecDepth 10000 in
theorem wd466 : (.native arraycopyName : Cond) ∈ mTL := mtb2 (List.mem_of_getElem? (i := 135) rfl) rfl
set_option maxRecDepth 10000 in
theorem wd467 : (.methodLink RX2 40 yX2_sitAs : Cond) ∈ mTL := mtb2 (List.mem_of_getElem? (i := 136) rfl) rfl
set_option maxRecDepth 10000 in
theorem wd468 : (.instanceMethod yX2_sitAs : Cond) ∈ mTL := mtb2 (List.mem_of_getElem? (i := 137) rfl) rfl
set_option maxRecDepth 10000 in
theorem wd469 : (.selects RX2 yX2_sitAs yX2_sitAs : Cond) ∈ mTL := mtb2 (List.mem_of_getElem? (i := 138) rfl) rfl
set_option maxRecDepth 10000 in
theorem wd470 : (.code yX2_sitAs cX2_sitAs 2 none : Cond) ∈ mTL := mtb2 (List.mem_of_getElem? (i := 139) rfl) rfl
set_option maxRecDepth 10000 in
theorem wd471 : (.methodLink RX11 139 yX11_comesTrue : Cond) ∈ mTL := mtb2 (List.mem_of_getElem? (i := 140) rfl) rfl
set_option maxRecDepth 10000 in
theorem wd473 : (.instanceMethod yX11_comesTrue : Cond) ∈ mTL := mtb2 (List.mem_of_getElem? (i := 142) rfl) rfl
set_option maxRecDepth 10000 in
theorem wd474 : (.code yX11_comesTrue cX11_comesTrue 3 (some .boolean) : Cond) ∈ mTL := mtb2 (List.mem_of_getElem? (i := 143) rfl) rfl
set_option maxRecDepth 10000 in
theorem wd475 : (.methodLink RX11 157 yX10_digitAt : Cond) ∈ mTL := mtb2 (List.mem_of_getElem? (i := 144) rfl) rfl
set_option maxRecDepth 10000 in
theorem wd476 : (.methodLink RX11 142 yX10_letterAt : Cond) ∈ mTL := mtb2 (List.mem_of_getElem? (i := 145) rfl) rfl
set_option maxRecDepth 10000 in
theorem wd477 : (.methodLink RX11 160 yX11_birdComes : Cond) ∈ mTL := mtb2 (List.mem_of_getElem? (i := 146) rfl) rfl
set_option maxRecDepth 10000 in
theorem wd479 : (.instanceMethod yX11_birdComes : Cond) ∈ mTL := mtb2 (List.mem_of_getElem? (i := 148) rfl) rfl
set_option maxRecDepth 10000 in
theorem wd480 : (.code yX11_birdComes cX11_birdComes 4 (some .boolean) : Cond) ∈ mTL := mtb2 (List.mem_of_getElem? (i := 149) rfl) rfl
set_option maxRecDepth 10000 in
theorem wd481 : (.methodLink RX11 190 yX2_hasRoom : Cond) ∈ mTL := mtb2 (List.mem_of_getElem? (i := 150) rfl) rfl
set_option maxRecDepth 10000 in
theorem wd482 : (.instanceMethod yX2_hasRoom : Cond) ∈ mTL := mtb2 (List.mem_of_getElem? (i := 151) rfl) rfl
set_option maxRecDepth 10000 in
theorem wd483 : (.selects RX2 yX2_hasRoom yX2_hasRoom : Cond) ∈ mTL := mtb2 (List.mem_of_getElem? (i := 152) rfl) rfl
set_option maxRecDepth 10000 in
theorem wd484 : (.code yX2_hasRoom cX2_hasRoom 2 (some .boolean) : Cond) ∈ mTL := mtb2 (List.mem_of_getElem? (i := 153) rfl) rfl
set_option maxRecDepth 10000 in
theorem wd485 : (.methodLink RX11 193 yX2_add : Cond) ∈ mTL := mtb2 (List.mem_of_getElem? (i := 154) rfl) rfl
set_option maxRecDepth 10000 in
theorem wd486 : (.instanceMethod yX2_add : Cond) ∈ mTL := mtb2 (List.mem_of_getElem? (i := 155) rfl) rfl
set_option maxRecDepth 10000 in
theorem wd487 : (.selects RX2 yX2_add yX2_add : Cond) ∈ mTL := mtb2 (List.mem_of_getElem? (i := 156) rfl) rfl
set_option maxRecDepth 10000 in
theorem wd488 : (.code yX2_add cX2_add 5 (some .int) : Cond) ∈ mTL := mtb2 (List.mem_of_getElem? (i := 157) rfl) rfl
set_option maxRecDepth 10000 in
theorem wd489 : (.methodLink RX2 47 yX2_hasRoom : Cond) ∈ mTL := mtb2 (List.mem_of_getElem? (i := 158) rfl) rfl
set_option maxRecDepth 10000 in
theorem wd490 : (.methodLink RX11 164 yX11_weightComes : Cond) ∈ mTL := mtb2 (List.mem_of_getElem? (i := 159) rfl) rfl
set_option maxRecDepth 10000 in
theorem wd492 : (.instanceMethod yX11_weightComes : Cond) ∈ mTL := mtb2 (List.mem_of_getElem? (i := 161) rfl) rfl
set_option maxRecDepth 10000 in
theorem wd493 : (.code yX11_weightComes cX11_weightComes 3 (some .boolean) : Cond) ∈ mTL := mtb2 (List.mem_of_getElem? (i := 162) rfl) rfl
set_option maxRecDepth 10000 in
theorem wd494 : (.methodLink RX11 102 yX2_isWire : Cond) ∈ mTL := mtb2 (List.mem_of_getElem? (i := 163) rfl) rfl
set_option maxRecDepth 10000 in
theorem wd495 : (.instanceMethod yX2_isWire : Cond) ∈ mTL := mtb2 (List.mem_of_getElem? (i := 164) rfl) rfl
set_option maxRecDepth 10000 in
theorem wd496 : (.selects RX2 yX2_isWire yX2_isWire : Cond) ∈ mTL := mtb2 (List.mem_of_getElem? (i := 165) rfl) rfl
set_option maxRecDepth 10000 in
theorem wd497 : (.code yX2_isWire cX2_isWire 2 (some .boolean) : Cond) ∈ mTL := mtb2 (List.mem_of_getElem? (i := 166) rfl) rfl
set_option maxRecDepth 10000 in
theorem wd498 : (.methodLink RX11 168 yX11_hoursCome : Cond) ∈ mTL := mtb2 (List.mem_of_getElem? (i := 167) rfl) rfl
set_option maxRecDepth 10000 in
theorem wd500 : (.instanceMethod yX11_hoursCome : Cond) ∈ mTL := mtb2 (List.mem_of_getElem? (i := 169) rfl) rfl
set_option maxRecDepth 10000 in
theorem wd501 : (.code yX11_hoursCome cX11_hoursCome 4 (some .boolean) : Cond) ∈ mTL := mtb2 (List.mem_of_getElem? (i := 170) rfl) rfl
set_option maxRecDepth 10000 in
theorem wd502 : (.methodLink RX11 202 yX2_pass : Cond) ∈ mTL := mtb2 (List.mem_of_getElem? (i := 171) rfl) rfl
set_option maxRecDepth 10000 in
theorem wd503 : (.instanceMethod yX2_pass : Cond) ∈ mTL := mtb2 (List.mem_of_getElem? (i := 172) rfl) rfl
set_option maxRecDepth 10000 in
theorem wd504 : (.selects RX2 yX2_pass yX2_pass : Cond) ∈ mTL := mtb2 (List.mem_of_getElem? (i := 173) rfl) rfl
set_option maxRecDepth 10000 in
theorem wd505 : (.code yX2_pass cX2_pass 5 (some .int) : Cond) ∈ mTL := mtb2 (List.mem_of_getElem? (i := 174) rfl) rfl
set_option maxRecDepth 10000 in
theorem wd506 : (.methodLink RX2 67 yX2_wanted : Cond) ∈ mTL := mtb2 (List.mem_of_getElem? (i := 175) rfl) rfl
set_option maxRecDepth 10000 in
theorem wd508 : (.instanceMethod yX2_wanted : Cond) ∈ mTL := mtb2 (List.mem_of_getElem? (i := 177) rfl) rfl
set_option maxRecDepth 10000 in
theorem wd509 : (.code yX2_wanted cX2_wanted 5 (some .int) : Cond) ∈ mTL := mtb2 (List.mem_of_getElem? (i := 178) rfl) rfl
set_option maxRecDepth 10000 in
theorem wd510 : (.methodLink RX2 73 yX2_nearer : Cond) ∈ mTL := mtb2 (List.mem_of_getElem? (i := 179) rfl) rfl
set_option maxRecDepth 10000 in
theorem wd511 : (.static yX2_nearer : Cond) ∈ mTL := mtb2 (List.mem_of_getElem? (i := 180) rfl) rfl
set_option maxRecDepth 10000 in
theorem wd512 : (.code yX2_nearer cX2_nearer 2 (some .int) : Cond) ∈ mTL := mtb2 (List.mem_of_getElem? (i := 181) rfl) rfl
set_option maxRecDepth 10000 in
theorem wd513 : (.methodLink RX2 76 yX2_wantedYoung : Cond) ∈ mTL := mtb2 (List.mem_of_getElem? (i := 182) rfl) rfl
set_option maxRecDepth 10000 in
theorem wd515 : (.instanceMethod yX2_wantedYoung : Cond) ∈ mTL := mtb2 (List.mem_of_getElem? (i := 184) rfl) rfl
set_option maxRecDepth 10000 in
theorem wd516 : (.code yX2_wantedYoung cX2_wantedYoung 4 (some .int) : Cond) ∈ mTL := mtb2 (List.mem_of_getElem? (i := 185) rfl) rfl
set_option maxRecDepth 10000 in
theorem wd517 : (.methodLink RX2 92 Lib.Math.max.name : Cond) ∈ mTL := mtb2 (List.mem_of_getElem? (i := 186) rfl) rfl
set_option maxRecDepth 10000 in
theorem wd518 : (.static Lib.Math.max.name : Cond) ∈ mTL := mtb2 (List.mem_of_getElem? (i := 187) rfl) rfl
set_option maxRecDepth 10000 in
theorem wd519 : (.code Lib.Math.max.name Lib.Math.max.code 2 (some .int) : Cond) ∈ mTL := mtb2 (List.mem_of_getElem? (i := 188) rfl) rfl
set_option maxRecDepth 10000 in
theorem wd520 : (.methodLink RX2 79 yX2_wantedOld : Cond) ∈ mTL := mtb2 (List.mem_of_getElem? (i := 189) rfl) rfl
set_option maxRecDepth 10000 in
theorem wd521 : (.static yX2_wantedOld : Cond) ∈ mTL := mtb2 (List.mem_of_getElem? (i := 190) rfl) rfl
set_option maxRecDepth 10000 in
theorem wd522 : (.code yX2_wantedOld cX2_wantedOld 4 (some .int) : Cond) ∈ mTL := mtb2 (List.mem_of_getElem? (i := 191) rfl) rfl
set_option maxRecDepth 10000 in
theorem wd523 : (.methodLink RX2 95 Lib.Math.abs.name : Cond) ∈ mTL := mtb2 (List.mem_of_getElem? (i := 192) rfl) rfl
set_option maxRecDepth 10000 in
theorem wd524 : (.static Lib.Math.abs.name : Cond) ∈ mTL := mtb2 (List.mem_of_getElem? (i := 193) rfl) rfl
set_option maxRecDepth 10000 in
theorem wd525 : (.code Lib.Math.abs.name Lib.Math.abs.code 1 (some .int) : Cond) ∈ mTL := mtb2 (List.mem_of_getElem? (i := 194) rfl) rfl
set_option maxRecDepth 10000 in
theorem wd526 : (.methodLink RX2 83 yX2_reaches : Cond) ∈ mTL := mtb2 (List.mem_of_getElem? (i := 195) rfl) rfl
set_option maxRecDepth 10000 in
theorem wd528 : (.instanceMethod yX2_reaches : Cond) ∈ mTL := mtb2 (List.mem_of_getElem? (i := 197) rfl) rfl
set_option maxRecDepth 10000 in
theorem wd529 : (.code yX2_reaches cX2_reaches 3 (some .boolean) : Cond) ∈ mTL := mtb2 (List.mem_of_getElem? (i := 198) rfl) rfl
set_option maxRecDepth 10000 in
theorem wd530 : (.methodLink RX2 87 Lib.Math.min.name : Cond) ∈ mTL := mtb2 (List.mem_of_getElem? (i := 199) rfl) rfl
set_option maxRecDepth 10000 in
theorem wd531 : (.static Lib.Math.min.name : Cond) ∈ mTL := mtb2 (List.mem_of_getElem? (i := 200) rfl) rfl
set_option maxRecDepth 10000 in
theorem wd532 : (.code Lib.Math.min.name Lib.Math.min.code 2 (some .int) : Cond) ∈ mTL := mtb2 (List.mem_of_getElem? (i := 201) rfl) rfl
set_option maxRecDepth 10000 in
theorem wd533 : (.methodLink RX2 70 yX2_go : Cond) ∈ mTL := mtb2 (List.mem_of_getElem? (i := 202) rfl) rfl
set_option maxRecDepth 10000 in
theorem wd535 : (.instanceMethod yX2_go : Cond) ∈ mTL := mtb2 (List.mem_of_getElem? (i := 204) rfl) rfl
set_option maxRecDepth 10000 in
theorem wd536 : (.code yX2_go cX2_go 3 none : Cond) ∈ mTL := mtb2 (List.mem_of_getElem? (i := 205) rfl) rfl
set_option maxRecDepth 10000 in
theorem wd537 : (.methodLink RX2 51 yX2_shift : Cond) ∈ mTL := mtb2 (List.mem_of_getElem? (i := 206) rfl) rfl
set_option maxRecDepth 10000 in
theorem wd538 : (.instanceMethod yX2_shift : Cond) ∈ mTL := mtb2 (List.mem_of_getElem? (i := 207) rfl) rfl
set_option maxRecDepth 10000 in
theorem wd539 : (.selects RX2 yX2_shift yX2_shift : Cond) ∈ mTL := mtb2 (List.mem_of_getElem? (i := 208) rfl) rfl
set_option maxRecDepth 10000 in
theorem wd540 : (.code yX2_shift cX2_shift 3 none : Cond) ∈ mTL := mtb2 (List.mem_of_getElem? (i := 209) rfl) rfl
set_option maxRecDepth 10000 in
theorem wd541 : (.methodLink RX11 171 yX11_catComes : Cond) ∈ mTL := mtb2 (List.mem_of_getElem? (i := 210) rfl) rfl
set_option maxRecDepth 10000 in
theorem wd543 : (.instanceMethod yX11_catComes : Cond) ∈ mTL := mtb2 (List.mem_of_getElem? (i := 212) rfl) rfl
set_option maxRecDepth 10000 in
theorem wd544 : (.code yX11_catComes cX11_catComes 2 (some .boolean) : Cond) ∈ mTL := mtb2 (List.mem_of_getElem? (i := 213) rfl) rfl
set_option maxRecDepth 10000 in
theorem wd545 : (.methodLink RX11 205 yX2_scare : Cond) ∈ mTL := mtb2 (List.mem_of_getElem? (i := 214) rfl) rfl
set_option maxRecDepth 10000 in
theorem wd546 : (.instanceMethod yX2_scare : Cond) ∈ mTL := mtb2 (List.mem_of_getElem? (i := 215) rfl) rfl
set_option maxRecDepth 10000 in
theorem wd547 : (.selects RX2 yX2_scare yX2_scare : Cond) ∈ mTL := mtb2 (List.mem_of_getElem? (i := 216) rfl) rfl
set_option maxRecDepth 10000 in
theorem wd548 : (.code yX2_scare cX2_scare 5 (some .int) : Cond) ∈ mTL := mtb2 (List.mem_of_getElem? (i := 217) rfl) rfl
set_option maxRecDepth 10000 in
theorem wd549 : (.methodLink RX2 104 yX2_refuge : Cond) ∈ mTL := mtb2 (List.mem_of_getElem? (i := 218) rfl) rfl
set_option maxRecDepth 10000 in
theorem wd551 : (.instanceMethod yX2_refuge : Cond) ∈ mTL := mtb2 (List.mem_of_getElem? (i := 220) rfl) rfl
set_option maxRecDepth 10000 in
theorem wd552 : (.code yX2_refuge cX2_refuge 3 (some .int) : Cond) ∈ mTL := mtb2 (List.mem_of_getElem? (i := 221) rfl) rfl
set_option maxRecDepth 10000 in
theorem wd553 : (.methodLink RX11 174 yX2_driveUp : Cond) ∈ mTL := mtb2 (List.mem_of_getElem? (i := 222) rfl) rfl
set_option maxRecDepth 10000 in
theorem wd554 : (.instanceMethod yX2_driveUp : Cond) ∈ mTL := mtb2 (List.mem_of_getElem? (i := 223) rfl) rfl
set_option maxRecDepth 10000 in
theorem wd555 : (.selects RX2 yX2_driveUp yX2_driveUp : Cond) ∈ mTL := mtb2 (List.mem_of_getElem? (i := 224) rfl) rfl
set_option maxRecDepth 10000 in
theorem wd556 : (.code yX2_driveUp cX2_driveUp 6 (some .int) : Cond) ∈ mTL := mtb2 (List.mem_of_getElem? (i := 225) rfl) rfl
set_option maxRecDepth 10000 in
theorem wd557 : (.methodLink RX11 177 yX2_driveDown : Cond) ∈ mTL := mtb2 (List.mem_of_getElem? (i := 226) rfl) rfl
set_option maxRecDepth 10000 in
theorem wd558 : (.instanceMethod yX2_driveDown : Cond) ∈ mTL := mtb2 (List.mem_of_getElem? (i := 227) rfl) rfl
set_option maxRecDepth 10000 in
theorem wd559 : (.selects RX2 yX2_driveDown yX2_driveDown : Cond) ∈ mTL := mtb2 (List.mem_of_getElem? (i := 228) rfl) rfl
set_option maxRecDepth 10000 in
theorem wd560 : (.code yX2_driveDown cX2_driveDown 6 (some .int) : Cond) ∈ mTL := mtb2 (List.mem_of_getElem? (i := 229) rfl) rfl
set_option maxRecDepth 10000 in
theorem wd561 : (.methodLink RX11 183 yX2_hang : Cond) ∈ mTL := mtb2 (List.mem_of_getElem? (i := 230) rfl) rfl
set_option maxRecDepth 10000 in
theorem wd562 : (.instanceMethod yX2_hang : Cond) ∈ mTL := mtb2 (List.mem_of_getElem? (i := 231) rfl) rfl
set_option maxRecDepth 10000 in
theorem wd563 : (.selects RX2 yX2_hang yX2_hang : Cond) ∈ mTL := mtb2 (List.mem_of_getElem? (i := 232) rfl) rfl
set_option maxRecDepth 10000 in
theorem wd564 : (.code yX2_hang cX2_hang 2 none : Cond) ∈ mTL := mtb2 (List.mem_of_getElem? (i := 233) rfl) rfl
set_option maxRecDepth 10000 in
theorem wd565 : (.methodLink RX2 55 yX2_scare : Cond) ∈ mTL := mtb2 (List.mem_of_getElem? (i := 234) rfl) rfl
set_option maxRecDepth 10000 in
theorem wd566 : (.methodLink RX11 145 yX10_digitsBehind : Cond) ∈ mTL := mtb2 (List.mem_of_getElem? (i := 235) rfl) rfl
set_option maxRecDepth 10000 in
theorem wd567 : (.methodLink RX11 148 Lib.Math.max.name : Cond) ∈ mTL := mtb2 (List.mem_of_getElem? (i := 236) rfl) rfl
set_option maxRecDepth 10000 in
theorem wd568 : (.methodLink RX11 154 yX7_forget : Cond) ∈ mTL := mtb2 (List.mem_of_getElem? (i := 237) rfl) rfl
set_option maxRecDepth 10000 in
theorem wd569 : (.instanceMethod yX7_forget : Cond) ∈ mTL := mtb2 (List.mem_of_getElem? (i := 238) rfl) rfl
set_option maxRecDepth 10000 in
theorem wd570 : (.selects RX7 yX7_forget yX7_forget : Cond) ∈ mTL := mtb2 (List.mem_of_getElem? (i := 239) rfl) rfl
set_option maxRecDepth 10000 in
theorem wd571 : (.code yX7_forget cX7_forget 1 none : Cond) ∈ mTL := mtb3 (List.mem_of_getElem? (i := 0) rfl) rfl
set_option maxRecDepth 10000 in
theorem wd572 : (.methodLink RL 23 yX11_bird : Cond) ∈ mTL := mtb3 (List.mem_of_getElem? (i := 1) rfl) rfl
set_option maxRecDepth 10000 in
theorem wd573 : (.instanceMethod yX11_bird : Cond) ∈ mTL := mtb3 (List.mem_of_getElem? (i := 2) rfl) rfl
set_option maxRecDepth 10000 in
theorem wd574 : (.selects RX11 yX11_bird yX11_bird : Cond) ∈ mTL := mtb3 (List.mem_of_getElem? (i := 3) rfl) rfl
set_option maxRecDepth 10000 in
theorem wd575 : (.code yX11_bird cX11_bird 4 (some .int) : Cond) ∈ mTL := mtb3 (List.mem_of_getElem? (i := 4) rfl) rfl
set_option maxRecDepth 10000 in
theorem wd576 : (.methodLink RX11 208 yX11_noBird : Cond) ∈ mTL := mtb3 (List.mem_of_getElem? (i := 5) rfl) rfl
set_option maxRecDepth 10000 in
theorem wd578 : (.instanceMethod yX11_noBird : Cond) ∈ mTL := mtb3 (List.mem_of_getElem? (i := 7) rfl) rfl
set_option maxRecDepth 10000 in
theorem wd579 : (.code yX11_noBird cX11_noBird 2 (some .int) : Cond) ∈ mTL := mtb3 (List.mem_of_getElem? (i := 8) rfl) rfl
set_option maxRecDepth 10000 in
theorem wd580 : (.methodLink RX11 106 yX2_isBird : Cond) ∈ mTL := mtb3 (List.mem_of_getElem? (i := 9) rfl) rfl
set_option maxRecDepth 10000 in
theorem wd581 : (.instanceMethod yX2_isBird : Cond) ∈ mTL := mtb3 (List.mem_of_getElem? (i := 10) rfl) rfl
set_option maxRecDepth 10000 in
theorem wd582 : (.selects RX2 yX2_isBird yX2_isBird : Cond) ∈ mTL := mtb3 (List.mem_of_getElem? (i := 11) rfl) rfl
set_option maxRecDepth 10000 in
theorem wd583 : (.code yX2_isBird cX2_isBird 2 (some .boolean) : Cond) ∈ mTL := mtb3 (List.mem_of_getElem? (i := 12) rfl) rfl
set_option maxRecDepth 10000 in
theorem wd584 : (.methodLink RX11 211 yX11_unknown : Cond) ∈ mTL := mtb3 (List.mem_of_getElem? (i := 13) rfl) rfl
set_option maxRecDepth 10000 in
theorem wd585 : (.static yX11_unknown : Cond) ∈ mTL := mtb3 (List.mem_of_getElem? (i := 14) rfl) rfl
set_option maxRecDepth 10000 in
theorem wd586 : (.code yX11_unknown cX11_unknown 2 (some .int) : Cond) ∈ mTL := mtb3 (List.mem_of_getElem? (i := 15) rfl) rfl
set_option maxRecDepth 10000 in
theorem wd587 : (.methodLink RX11 214 yX11_either : Cond) ∈ mTL := mtb3 (List.mem_of_getElem? (i := 16) rfl) rfl
set_option maxRecDepth 10000 in
theorem wd588 : (.static yX11_either : Cond) ∈ mTL := mtb3 (List.mem_of_getElem? (i := 17) rfl) rfl
set_option maxRecDepth 10000 in
theorem wd589 : (.code yX11_either cX11_either 2 (some .int) : Cond) ∈ mTL := mtb3 (List.mem_of_getElem? (i := 18) rfl) rfl
set_option maxRecDepth 10000 in
theorem wd590 : (.methodLink RL 28 yX11_comes : Cond) ∈ mTL := mtb3 (List.mem_of_getElem? (i := 19) rfl) rfl
set_option maxRecDepth 10000 in
theorem wd591 : (.instanceMethod yX11_comes : Cond) ∈ mTL := mtb3 (List.mem_of_getElem? (i := 20) rfl) rfl
set_option maxRecDepth 10000 in
theorem wd592 : (.selects RX11 yX11_comes yX11_comes : Cond) ∈ mTL := mtb3 (List.mem_of_getElem? (i := 21) rfl) rfl
set_option maxRecDepth 10000 in
theorem wd593 : (.code yX11_comes cX11_comes 5 (some .int) : Cond) ∈ mTL := mtb3 (List.mem_of_getElem? (i := 22) rfl) rfl
set_option maxRecDepth 10000 in
theorem wd594 : (.methodLink RX11 226 yX11_noWire : Cond) ∈ mTL := mtb3 (List.mem_of_getElem? (i := 23) rfl) rfl
set_option maxRecDepth 10000 in
theorem wd596 : (.instanceMethod yX11_noWire : Cond) ∈ mTL := mtb3 (List.mem_of_getElem? (i := 25) rfl) rfl
set_option maxRecDepth 10000 in
theorem wd597 : (.code yX11_noWire cX11_noWire 2 (some .int) : Cond) ∈ mTL := mtb3 (List.mem_of_getElem? (i := 26) rfl) rfl
set_option maxRecDepth 10000 in
theorem wd598 : (.methodLink RL 33 yX11_wire : Cond) ∈ mTL := mtb3 (List.mem_of_getElem? (i := 27) rfl) rfl
set_option maxRecDepth 10000 in
theorem wd599 : (.instanceMethod yX11_wire : Cond) ∈ mTL := mtb3 (List.mem_of_getElem? (i := 28) rfl) rfl
set_option maxRecDepth 10000 in
theorem wd600 : (.selects RX11 yX11_wire yX11_wire : Cond) ∈ mTL := mtb3 (List.mem_of_getElem? (i := 29) rfl) rfl
set_option maxRecDepth 10000 in
theorem wd601 : (.code yX11_wire cX11_wire 4 (some .int) : Cond) ∈ mTL := mtb3 (List.mem_of_getElem? (i := 30) rfl) rfl
set_option maxRecDepth 10000 in
theorem wd602 : (.methodLink RL 37 yX11_weight : Cond) ∈ mTL := mtb3 (List.mem_of_getElem? (i := 31) rfl) rfl
set_option maxRecDepth 10000 in
theorem wd603 : (.instanceMethod yX11_weight : Cond) ∈ mTL := mtb3 (List.mem_of_getElem? (i := 32) rfl) rfl
set_option maxRecDepth 10000 in
theorem wd604 : (.selects RX11 yX11_weight yX11_weight : Cond) ∈ mTL := mtb3 (List.mem_of_getElem? (i := 33) rfl) rfl
set_option maxRecDepth 10000 in
theorem wd605 : (.code yX11_weight cX11_weight 5 (some .int) : Cond) ∈ mTL := mtb3 (List.mem_of_getElem? (i := 34) rfl) rfl
set_option maxRecDepth 10000 in
theorem wd606 : (.methodLink RL 41 yX11_sixth : Cond) ∈ mTL := mtb3 (List.mem_of_getElem? (i := 35) rfl) rfl
set_option maxRecDepth 10000 in
theorem wd607 : (.instanceMethod yX11_sixth : Cond) ∈ mTL := mtb3 (List.mem_of_getElem? (i := 36) rfl) rfl
set_option maxRecDepth 10000 in
theorem wd608 : (.selects RX11 yX11_sixth yX11_sixth : Cond) ∈ mTL := mtb3 (List.mem_of_getElem? (i := 37) rfl) rfl
set_option maxRecDepth 10000 in
theorem wd609 : (.code yX11_sixth cX11_sixth 4 (some .int) : Cond) ∈ mTL := mtb3 (List.mem_of_getElem? (i := 38) rfl) rfl
set_option maxRecDepth 10000 in
theorem wd610 : (.methodLink RL 45 yX11_feeds : Cond) ∈ mTL := mtb3 (List.mem_of_getElem? (i := 39) rfl) rfl
set_option maxRecDepth 10000 in
theorem wd611 : (.instanceMethod yX11_feeds : Cond) ∈ mTL := mtb3 (List.mem_of_getElem? (i := 40) rfl) rfl
set_option maxRecDepth 10000 in
theorem wd612 : (.selects RX11 yX11_feeds yX11_feeds : Cond) ∈ mTL := mtb3 (List.mem_of_getElem? (i := 41) rfl) rfl
set_option maxRecDepth 10000 in
theorem wd613 : (.code yX11_feeds cX11_feeds 3 (some .int) : Cond) ∈ mTL := mtb3 (List.mem_of_getElem? (i := 42) rfl) rfl
set_option maxRecDepth 10000 in
theorem wd614 : (.methodLink RX11 232 yX7_keep : Cond) ∈ mTL := mtb3 (List.mem_of_getElem? (i := 43) rfl) rfl
set_option maxRecDepth 10000 in
theorem wd615 : (.instanceMethod yX7_keep : Cond) ∈ mTL := mtb3 (List.mem_of_getElem? (i := 44) rfl) rfl
set_option maxRecDepth 10000 in
theorem wd616 : (.selects RX7 yX7_keep yX7_keep : Cond) ∈ mTL := mtb3 (List.mem_of_getElem? (i := 45) rfl) rfl
set_option maxRecDepth 10000 in
theorem wd617 : (.code yX7_keep cX7_keep 2 none : Cond) ∈ mTL := mtb3 (List.mem_of_getElem? (i := 46) rfl) rfl
set_option maxRecDepth 10000 in
theorem wd618 : (.methodLink RX7 32 arraycopyName : Cond) ∈ mTL := mtb3 (List.mem_of_getElem? (i := 47) rfl) rfl
set_option maxRecDepth 10000 in
theorem wd619 : (.methodLink RX7 41 Lib.Math.min.name : Cond) ∈ mTL := mtb3 (List.mem_of_getElem? (i := 48) rfl) rfl
set_option maxRecDepth 10000 in
theorem wd620 : (.methodLink RX11 235 yX2_shows : Cond) ∈ mTL := mtb3 (List.mem_of_getElem? (i := 49) rfl) rfl
set_option maxRecDepth 10000 in
theorem wd621 : (.instanceMethod yX2_shows : Cond) ∈ mTL := mtb3 (List.mem_of_getElem? (i := 50) rfl) rfl
set_option maxRecDepth 10000 in
theorem wd622 : (.selects RX2 yX2_shows yX2_shows : Cond) ∈ mTL := mtb3 (List.mem_of_getElem? (i := 51) rfl) rfl
set_option maxRecDepth 10000 in
theorem wd623 : (.code yX2_shows cX2_shows 3 (some .int) : Cond) ∈ mTL := mtb3 (List.mem_of_getElem? (i := 52) rfl) rfl
set_option maxRecDepth 10000 in
theorem wd624 : (.methodLink RL 49 yX11_cat : Cond) ∈ mTL := mtb3 (List.mem_of_getElem? (i := 53) rfl) rfl
set_option maxRecDepth 10000 in
theorem wd625 : (.instanceMethod yX11_cat : Cond) ∈ mTL := mtb3 (List.mem_of_getElem? (i := 54) rfl) rfl
set_option maxRecDepth 10000 in
theorem wd626 : (.selects RX11 yX11_cat yX11_cat : Cond) ∈ mTL := mtb3 (List.mem_of_getElem? (i := 55) rfl) rfl
set_option maxRecDepth 10000 in
theorem wd627 : (.code yX11_cat cX11_cat 3 (some .int) : Cond) ∈ mTL := mtb3 (List.mem_of_getElem? (i := 56) rfl) rfl
set_option maxRecDepth 10000 in
theorem wd628 : (.methodLink RL 53 yX11_hawk : Cond) ∈ mTL := mtb3 (List.mem_of_getElem? (i := 57) rfl) rfl
set_option maxRecDepth 10000 in
theorem wd629 : (.instanceMethod yX11_hawk : Cond) ∈ mTL := mtb3 (List.mem_of_getElem? (i := 58) rfl) rfl
set_option maxRecDepth 10000 in
theorem wd630 : (.selects RX11 yX11_hawk yX11_hawk : Cond) ∈ mTL := mtb3 (List.mem_of_getElem? (i := 59) rfl) rfl
set_option maxRecDepth 10000 in
theorem wd631 : (.code yX11_hawk cX11_hawk 1 (some .int) : Cond) ∈ mTL := mtb3 (List.mem_of_getElem? (i := 60) rfl) rfl
set_option maxRecDepth 10000 in
theorem wd632 : (.methodLink RL 57 yX11_rain : Cond) ∈ mTL := mtb3 (List.mem_of_getElem? (i := 61) rfl) rfl
set_option maxRecDepth 10000 in
theorem wd633 : (.instanceMethod yX11_rain : Cond) ∈ mTL := mtb3 (List.mem_of_getElem? (i := 62) rfl) rfl
set_option maxRecDepth 10000 in
theorem wd634 : (.selects RX11 yX11_rain yX11_rain : Cond) ∈ mTL := mtb3 (List.mem_of_getElem? (i := 63) rfl) rfl
set_option maxRecDepth 10000 in
theorem wd635 : (.code yX11_rain cX11_rain 1 (some .int) : Cond) ∈ mTL := mtb3 (List.mem_of_getElem? (i := 64) rfl) rfl
set_option maxRecDepth 10000 in
theorem wd636 : (.methodLink RL 61 yX11_back : Cond) ∈ mTL := mtb3 (List.mem_of_getElem? (i := 65) rfl) rfl
set_option maxRecDepth 10000 in
theorem wd637 : (.instanceMethod yX11_back : Cond) ∈ mTL := mtb3 (List.mem_of_getElem? (i := 66) rfl) rfl
set_option maxRecDepth 10000 in
theorem wd638 : (.selects RX11 yX11_back yX11_back : Cond) ∈ mTL := mtb3 (List.mem_of_getElem? (i := 67) rfl) rfl
set_option maxRecDepth 10000 in
theorem wd639 : (.code yX11_back cX11_back 1 (some .int) : Cond) ∈ mTL := mtb3 (List.mem_of_getElem? (i := 68) rfl) rfl
set_option maxRecDepth 10000 in
theorem wd640 : (.methodLink RX11 241 yX7_takeBack : Cond) ∈ mTL := mtb3 (List.mem_of_getElem? (i := 69) rfl) rfl
set_option maxRecDepth 10000 in
theorem wd641 : (.instanceMethod yX7_takeBack : Cond) ∈ mTL := mtb3 (List.mem_of_getElem? (i := 70) rfl) rfl
set_option maxRecDepth 10000 in
theorem wd642 : (.selects RX7 yX7_takeBack yX7_takeBack : Cond) ∈ mTL := mtb3 (List.mem_of_getElem? (i := 71) rfl) rfl
set_option maxRecDepth 10000 in
theorem wd643 : (.code yX7_takeBack cX7_takeBack 3 none : Cond) ∈ mTL := mtb3 (List.mem_of_getElem? (i := 72) rfl) rfl
set_option maxRecDepth 10000 in
theorem wd644 : (.methodLink RX7 47 Lib.Math.max.name : Cond) ∈ mTL := mtb3 (List.mem_of_getElem? (i := 73) rfl) rfl
set_option maxRecDepth 10000 in
theorem wd645 : (.methodLinkNest RX7 53 yX2_go RX11 : Cond) ∈ mTL := mtb3 (List.mem_of_getElem? (i := 74) rfl) rfl
set_option maxRecDepth 10000 in
theorem wd646 : (.methodLink RL 65 yX11_behind : Cond) ∈ mTL := mtb3 (List.mem_of_getElem? (i := 75) rfl) rfl
set_option maxRecDepth 10000 in
theorem wd647 : (.instanceMethod yX11_behind : Cond) ∈ mTL := mtb3 (List.mem_of_getElem? (i := 76) rfl) rfl
set_option maxRecDepth 10000 in
theorem wd648 : (.selects RX11 yX11_behind yX11_behind : Cond) ∈ mTL := mtb3 (List.mem_of_getElem? (i := 77) rfl) rfl
set_option maxRecDepth 10000 in
theorem wd649 : (.code yX11_behind cX11_behind 5 (some .int) : Cond) ∈ mTL := mtb3 (List.mem_of_getElem? (i := 78) rfl) rfl
set_option maxRecDepth 10000 in
theorem wd650 : (.methodLink RX11 248 yX11_thinkBehind : Cond) ∈ mTL := mtb3 (List.mem_of_getElem? (i := 79) rfl) rfl
set_option maxRecDepth 10000 in
theorem wd652 : (.instanceMethod yX11_thinkBehind : Cond) ∈ mTL := mtb3 (List.mem_of_getElem? (i := 81) rfl) rfl
set_option maxRecDepth 10000 in
theorem wd653 : (.code yX11_thinkBehind cX11_thinkBehind 4 (some (.object "ClockOfSwallows$Flock")) : Cond) ∈ mTL := mtb3 (List.mem_of_getElem? (i := 82) rfl) rfl
set_option maxRecDepth 10000 in
theorem wd654 : (.methodLink RX11 244 yX11_think : Cond) ∈ mTL := mtb3 (List.mem_of_getElem? (i := 83) rfl) rfl
set_option maxRecDepth 10000 in
theorem wd656 : (.instanceMethod yX11_think : Cond) ∈ mTL := mtb3 (List.mem_of_getElem? (i := 85) rfl) rfl
set_option maxRecDepth 10000 in
theorem wd657 : (.code yX11_think cX11_think 1 (some (.object "ClockOfSwallows$Flock")) : Cond) ∈ mTL := mtb3 (List.mem_of_getElem? (i := 86) rfl) rfl
set_option maxRecDepth 10000 in
theorem wd658 : (.methodLink RX11 252 yX2_errs : Cond) ∈ mTL := mtb3 (List.mem_of_getElem? (i := 87) rfl) rfl
set_option maxRecDepth 10000 in
theorem wd659 : (.instanceMethod yX2_errs : Cond) ∈ mTL := mtb3 (List.mem_of_getElem? (i := 88) rfl) rfl
set_option maxRecDepth 10000 in
theorem wd660 : (.selects RX2 yX2_errs yX2_errs : Cond) ∈ mTL := mtb3 (List.mem_of_getElem? (i := 89) rfl) rfl
set_option maxRecDepth 10000 in
theorem wd661 : (.code yX2_errs cX2_errs 1 (some .int) : Cond) ∈ mTL := mtb3 (List.mem_of_getElem? (i := 90) rfl) rfl
set_option maxRecDepth 10000 in
theorem wd662 : (.methodLink RX2 59 yX2_shows : Cond) ∈ mTL := mtb3 (List.mem_of_getElem? (i := 91) rfl) rfl
set_option maxRecDepth 10000 in
theorem wd663 : (.methodLinkNest RX2 63 yX11_apart RX11 : Cond) ∈ mTL := mtb3 (List.mem_of_getElem? (i := 92) rfl) rfl
set_option maxRecDepth 10000 in
theorem wd664 : (.static yX11_apart : Cond) ∈ mTL := mtb3 (List.mem_of_getElem? (i := 93) rfl) rfl
set_option maxRecDepth 10000 in
theorem wd665 : (.code yX11_apart cX11_apart 3 (some .int) : Cond) ∈ mTL := mtb3 (List.mem_of_getElem? (i := 94) rfl) rfl
set_option maxRecDepth 10000 in
theorem wd666 : (.methodLink RX11 255 yJ9_floorMod_7cf53 : Cond) ∈ mTL := mtb3 (List.mem_of_getElem? (i := 95) rfl) rfl
set_option maxRecDepth 10000 in
theorem wd667 : (.static yJ9_floorMod_7cf53 : Cond) ∈ mTL := mtb3 (List.mem_of_getElem? (i := 96) rfl) rfl
set_option maxRecDepth 10000 in
theorem wd668 : (.code yJ9_floorMod_7cf53 cJ9_floorMod_7cf53 3 (some .int) : Cond) ∈ mTL := mtb3 (List.mem_of_getElem? (i := 97) rfl) rfl
set_option maxRecDepth 10000 in
theorem wd669 : (.methodLink RX11 315 Lib.Math.min.name : Cond) ∈ mTL := mtb3 (List.mem_of_getElem? (i := 98) rfl) rfl
set_option maxRecDepth 10000 in
theorem wd670 : (.methodLink RL 69 yX11_where : Cond) ∈ mTL := mtb3 (List.mem_of_getElem? (i := 99) rfl) rfl
set_option maxRecDepth 10000 in
theorem wd671 : (.instanceMethod yX11_where : Cond) ∈ mTL := mtb3 (List.mem_of_getElem? (i := 100) rfl) rfl
set_option maxRecDepth 10000 in
theorem wd672 : (.selects RX11 yX11_where yX11_where : Cond) ∈ mTL := mtb3 (List.mem_of_getElem? (i := 101) rfl) rfl
set_option maxRecDepth 10000 in
theorem wd673 : (.code yX11_where cX11_where 4 (some .int) : Cond) ∈ mTL := mtb3 (List.mem_of_getElem? (i := 102) rfl) rfl
set_option maxRecDepth 10000 in
theorem wd674 : (.methodLink RL 73 yX11_firstWrong : Cond) ∈ mTL := mtb3 (List.mem_of_getElem? (i := 103) rfl) rfl
set_option maxRecDepth 10000 in
theorem wd675 : (.instanceMethod yX11_firstWrong : Cond) ∈ mTL := mtb3 (List.mem_of_getElem? (i := 104) rfl) rfl
set_option maxRecDepth 10000 in
theorem wd676 : (.selects RX11 yX11_firstWrong yX11_firstWrong : Cond) ∈ mTL := mtb3 (List.mem_of_getElem? (i := 105) rfl) rfl
set_option maxRecDepth 10000 in
theorem wd677 : (.code yX11_firstWrong cX11_firstWrong 3 (some .int) : Cond) ∈ mTL := mtb3 (List.mem_of_getElem? (i := 106) rfl) rfl
set_option maxRecDepth 10000 in
theorem wd678 : (.methodLink RL 77 yX11_allWrong : Cond) ∈ mTL := mtb3 (List.mem_of_getElem? (i := 107) rfl) rfl
set_option maxRecDepth 10000 in
theorem wd679 : (.instanceMethod yX11_allWrong : Cond) ∈ mTL := mtb3 (List.mem_of_getElem? (i := 108) rfl) rfl
set_option maxRecDepth 10000 in
theorem wd680 : (.selects RX11 yX11_allWrong yX11_allWrong : Cond) ∈ mTL := mtb3 (List.mem_of_getElem? (i := 109) rfl) rfl
set_option maxRecDepth 10000 in
theorem wd681 : (.code yX11_allWrong cX11_allWrong 6 (some .int) : Cond) ∈ mTL := mtb3 (List.mem_of_getElem? (i := 110) rfl) rfl
set_option maxRecDepth 10000 in
theorem wd682 : (.methodLink RL 178 yX11_right : Cond) ∈ mTL := mtb3 (List.mem_of_getElem? (i := 111) rfl) rfl
set_option maxRecDepth 10000 in
theorem wd683 : (.instanceMethod yX11_right : Cond) ∈ mTL := mtb3 (List.mem_of_getElem? (i := 112) rfl) rfl
set_option maxRecDepth 10000 in
theorem wd684 : (.selects RX11 yX11_right yX11_right : Cond) ∈ mTL := mtb3 (List.mem_of_getElem? (i := 113) rfl) rfl
set_option maxRecDepth 10000 in
theorem wd685 : (.code yX11_right cX11_right 10 (some .int) : Cond) ∈ mTL := mtb3 (List.mem_of_getElem? (i := 114) rfl) rfl
set_option maxRecDepth 10000 in
theorem wd686 : (.methodLink RL 166 yX11_later : Cond) ∈ mTL := mtb3 (List.mem_of_getElem? (i := 115) rfl) rfl
set_option maxRecDepth 10000 in
theorem wd687 : (.instanceMethod yX11_later : Cond) ∈ mTL := mtb3 (List.mem_of_getElem? (i := 116) rfl) rfl
set_option maxRecDepth 10000 in
theorem wd688 : (.selects RX11 yX11_later yX11_later : Cond) ∈ mTL := mtb3 (List.mem_of_getElem? (i := 117) rfl) rfl
set_option maxRecDepth 10000 in
theorem wd689 : (.code yX11_later cX11_later 6 (some .int) : Cond) ∈ mTL := mtb3 (List.mem_of_getElem? (i := 118) rfl) rfl
set_option maxRecDepth 10000 in
theorem wd690 : (.methodLink RL 170 yX11_stayed : Cond) ∈ mTL := mtb3 (List.mem_of_getElem? (i := 119) rfl) rfl
set_option maxRecDepth 10000 in
theorem wd691 : (.instanceMethod yX11_stayed : Cond) ∈ mTL := mtb3 (List.mem_of_getElem? (i := 120) rfl) rfl
set_option maxRecDepth 10000 in
theorem wd692 : (.selects RX11 yX11_stayed yX11_stayed : Cond) ∈ mTL := mtb3 (List.mem_of_getElem? (i := 121) rfl) rfl
set_option maxRecDepth 10000 in
theorem wd693 : (.code yX11_stayed cX11_stayed 6 (some .int) : Cond) ∈ mTL := mtb3 (List.mem_of_getElem? (i := 122) rfl) rfl
set_option maxRecDepth 10000 in
theorem wd694 : (.methodLink RL 146 yX11_settled : Cond) ∈ mTL := mtb3 (List.mem_of_getElem? (i := 123) rfl) rfl
set_option maxRecDepth 10000 in
theorem wd695 : (.instanceMethod yX11_settled : Cond) ∈ mTL := mtb3 (List.mem_of_getElem? (i := 124) rfl) rfl
set_option maxRecDepth 10000 in
theorem wd696 : (.selects RX11 yX11_settled yX11_settled : Cond) ∈ mTL := mtb3 (List.mem_of_getElem? (i := 125) rfl) rfl
set_option maxRecDepth 10000 in
theorem wd697 : (.code yX11_settled cX11_settled 4 (some .int) : Cond) ∈ mTL := mtb3 (List.mem_of_getElem? (i := 126) rfl) rfl
set_option maxRecDepth 10000 in
theorem wd698 : (.methodLink RL 150 yX11_round : Cond) ∈ mTL := mtb3 (List.mem_of_getElem? (i := 127) rfl) rfl
set_option maxRecDepth 10000 in
theorem wd699 : (.instanceMethod yX11_round : Cond) ∈ mTL := mtb3 (List.mem_of_getElem? (i := 128) rfl) rfl
set_option maxRecDepth 10000 in
theorem wd700 : (.selects RX11 yX11_round yX11_round : Cond) ∈ mTL := mtb3 (List.mem_of_getElem? (i := 129) rfl) rfl
set_option maxRecDepth 10000 in
theorem wd701 : (.code yX11_round cX11_round 3 (some .int) : Cond) ∈ mTL := mtb3 (List.mem_of_getElem? (i := 130) rfl) rfl
set_option maxRecDepth 10000 in
theorem wd702 : (.methodLink RX11 258 yX2_sitsAs : Cond) ∈ mTL := mtb3 (List.mem_of_getElem? (i := 131) rfl) rfl
set_option maxRecDepth 10000 in
theorem wd703 : (.instanceMethod yX2_sitsAs : Cond) ∈ mTL := mtb3 (List.mem_of_getElem? (i := 132) rfl) rfl
set_option maxRecDepth 10000 in
theorem wd704 : (.selects RX2 yX2_sitsAs yX2_sitsAs : Cond) ∈ mTL := mtb3 (List.mem_of_getElem? (i := 133) rfl) rfl
set_option maxRecDepth 10000 in
theorem wd705 : (.code yX2_sitsAs cX2_sitsAs 3 (some .boolean) : Cond) ∈ mTL := mtb3 (List.mem_of_getElem? (i := 134) rfl) rfl
set_option maxRecDepth 10000 in
theorem wd706 : (.methodLink RL 129 yX11_trains : Cond) ∈ mTL := mtb3 (List.mem_of_getElem? (i := 135) rfl) rfl
set_option maxRecDepth 10000 in
theorem wd707 : (.instanceMethod yX11_trains : Cond) ∈ mTL := mtb3 (List.mem_of_getElem? (i := 136) rfl) rfl
set_option maxRecDepth 10000 in
theorem wd708 : (.selects RX11 yX11_trains yX11_trains : Cond) ∈ mTL := mtb3 (List.mem_of_getElem? (i := 137) rfl) rfl
set_option maxRecDepth 10000 in
theorem wd709 : (.code yX11_trains cX11_trains 8 (some .int) : Cond) ∈ mTL := mtb3 (List.mem_of_getElem? (i := 138) rfl) rfl
set_option maxRecDepth 10000 in
theorem wd710 : (.methodLink RX11 262 yX11_trainsLooked : Cond) ∈ mTL := mtb3 (List.mem_of_getElem? (i := 139) rfl) rfl
set_option maxRecDepth 10000 in
theorem wd712 : (.instanceMethod yX11_trainsLooked : Cond) ∈ mTL := mtb3 (List.mem_of_getElem? (i := 141) rfl) rfl
set_option maxRecDepth 10000 in
theorem wd713 : (.code yX11_trainsLooked cX11_trainsLooked 9 (some .int) : Cond) ∈ mTL := mtb3 (List.mem_of_getElem? (i := 142) rfl) rfl
set_option maxRecDepth 10000 in
theorem wd714 : (.methodLink RL 93 yX11_happened : Cond) ∈ mTL := mtb3 (List.mem_of_getElem? (i := 143) rfl) rfl
set_option maxRecDepth 10000 in
theorem wd715 : (.instanceMethod yX11_happened : Cond) ∈ mTL := mtb3 (List.mem_of_getElem? (i := 144) rfl) rfl
set_option maxRecDepth 10000 in
theorem wd716 : (.selects RX11 yX11_happened yX11_happened : Cond) ∈ mTL := mtb3 (List.mem_of_getElem? (i := 145) rfl) rfl
set_option maxRecDepth 10000 in
theorem wd717 : (.code yX11_happened cX11_happened 4 (some .int) : Cond) ∈ mTL := mtb3 (List.mem_of_getElem? (i := 146) rfl) rfl
set_option maxRecDepth 10000 in
theorem wd718 : (.methodLink RX11 266 yX2_undergo : Cond) ∈ mTL := mtb3 (List.mem_of_getElem? (i := 147) rfl) rfl
set_option maxRecDepth 10000 in
theorem wd719 : (.instanceMethod yX2_undergo : Cond) ∈ mTL := mtb3 (List.mem_of_getElem? (i := 148) rfl) rfl
set_option maxRecDepth 10000 in
theorem wd720 : (.selects RX2 yX2_undergo yX2_undergo : Cond) ∈ mTL := mtb3 (List.mem_of_getElem? (i := 149) rfl) rfl
set_option maxRecDepth 10000 in
theorem wd721 : (.code yX2_undergo cX2_undergo 2 none : Cond) ∈ mTL := mtb3 (List.mem_of_getElem? (i := 150) rfl) rfl
set_option maxRecDepth 10000 in
theorem wd722 : (.methodLink RX2 98 yX2_driveUp : Cond) ∈ mTL := mtb3 (List.mem_of_getElem? (i := 151) rfl) rfl
set_option maxRecDepth 10000 in
theorem wd723 : (.methodLink RX2 101 yX2_driveDown : Cond) ∈ mTL := mtb3 (List.mem_of_getElem? (i := 152) rfl) rfl
set_option maxRecDepth 10000 in
theorem wd724 : (.methodLink RX11 270 yX11_firstUnlike : Cond) ∈ mTL := mtb3 (List.mem_of_getElem? (i := 153) rfl) rfl
set_option maxRecDepth 10000 in
theorem wd726 : (.instanceMethod yX11_firstUnlike : Cond) ∈ mTL := mtb3 (List.mem_of_getElem? (i := 155) rfl) rfl
set_option maxRecDepth 10000 in
theorem wd727 : (.code yX11_firstUnlike cX11_firstUnlike 3 (some .int) : Cond) ∈ mTL := mtb3 (List.mem_of_getElem? (i := 156) rfl) rfl
set_option maxRecDepth 10000 in
theorem wd728 : (.methodLink RL 97 yX11_tellsMost : Cond) ∈ mTL := mtb3 (List.mem_of_getElem? (i := 157) rfl) rfl
set_option maxRecDepth 10000 in
theorem wd729 : (.instanceMethod yX11_tellsMost : Cond) ∈ mTL := mtb3 (List.mem_of_getElem? (i := 158) rfl) rfl
set_option maxRecDepth 10000 in
theorem wd730 : (.selects RX11 yX11_tellsMost yX11_tellsMost : Cond) ∈ mTL := mtb3 (List.mem_of_getElem? (i := 159) rfl) rfl
set_option maxRecDepth 10000 in
theorem wd731 : (.code yX11_tellsMost cX11_tellsMost 7 (some .int) : Cond) ∈ mTL := mtb3 (List.mem_of_getElem? (i := 160) rfl) rfl
set_option maxRecDepth 10000 in
theorem wd732 : (.methodLink RX11 277 yJ7_fill_53178 : Cond) ∈ mTL := mtb3 (List.mem_of_getElem? (i := 161) rfl) rfl
set_option maxRecDepth 10000 in
theorem wd733 : (.static yJ7_fill_53178 : Cond) ∈ mTL := mtb3 (List.mem_of_getElem? (i := 162) rfl) rfl
set_option maxRecDepth 10000 in
theorem wd734 : (.code yJ7_fill_53178 cJ7_fill_53178 4 none : Cond) ∈ mTL := mtb3 (List.mem_of_getElem? (i := 163) rfl) rfl
set_option maxRecDepth 10000 in
theorem wd735 : (.methodLink RX11 283 yX11_noteShown : Cond) ∈ mTL := mtb3 (List.mem_of_getElem? (i := 164) rfl) rfl
set_option maxRecDepth 10000 in
theorem wd737 : (.instanceMethod yX11_noteShown : Cond) ∈ mTL := mtb3 (List.mem_of_getElem? (i := 166) rfl) rfl
set_option maxRecDepth 10000 in
theorem wd738 : (.code yX11_noteShown cX11_noteShown 4 none : Cond) ∈ mTL := mtb3 (List.mem_of_getElem? (i := 167) rfl) rfl
set_option maxRecDepth 10000 in
theorem wd739 : (.methodLink RX11 286 yJ6_bitCount_0f7a4 : Cond) ∈ mTL := mtb3 (List.mem_of_getElem? (i := 168) rfl) rfl
set_option maxRecDepth 10000 in
theorem wd740 : (.static yJ6_bitCount_0f7a4 : Cond) ∈ mTL := mtb3 (List.mem_of_getElem? (i := 169) rfl) rfl
set_option maxRecDepth 10000 in
theorem wd741 : (.code yJ6_bitCount_0f7a4 cJ6_bitCount_0f7a4 1 (some .int) : Cond) ∈ mTL := mtb3 (List.mem_of_getElem? (i := 170) rfl) rfl
set_option maxRecDepth 10000 in
theorem wd742 : (.constant RJ6 265 1431655765 : Cond) ∈ mTL := mtb3 (List.mem_of_getElem? (i := 171) rfl) rfl
set_option maxRecDepth 10000 in
theorem wd743 : (.constant RJ6 266 858993459 : Cond) ∈ mTL := mtb3 (List.mem_of_getElem? (i := 172) rfl) rfl
set_option maxRecDepth 10000 in
theorem wd744 : (.constant RJ6 267 252645135 : Cond) ∈ mTL := mtb3 (List.mem_of_getElem? (i := 173) rfl) rfl
set_option maxRecDepth 10000 in
theorem wd745 : (.methodLink RL 158 yX11_catWorth : Cond) ∈ mTL := mtb3 (List.mem_of_getElem? (i := 174) rfl) rfl
set_option maxRecDepth 10000 in
theorem wd746 : (.instanceMethod yX11_catWorth : Cond) ∈ mTL := mtb3 (List.mem_of_getElem? (i := 175) rfl) rfl
set_option maxRecDepth 10000 in
theorem wd747 : (.selects RX11 yX11_catWorth yX11_catWorth : Cond) ∈ mTL := mtb3 (List.mem_of_getElem? (i := 176) rfl) rfl
set_option maxRecDepth 10000 in
theorem wd748 : (.code yX11_catWorth cX11_catWorth 5 (some .int) : Cond) ∈ mTL := mtb3 (List.mem_of_getElem? (i := 177) rfl) rfl
set_option maxRecDepth 10000 in
theorem wd749 : (.methodLink RL 202 yX11_lots : Cond) ∈ mTL := mtb3 (List.mem_of_getElem? (i := 178) rfl) rfl
set_option maxRecDepth 10000 in
theorem wd750 : (.instanceMethod yX11_lots : Cond) ∈ mTL := mtb3 (List.mem_of_getElem? (i := 179) rfl) rfl
set_option maxRecDepth 10000 in
theorem wd751 : (.selects RX11 yX11_lots yX11_lots : Cond) ∈ mTL := mtb3 (List.mem_of_getElem? (i := 180) rfl) rfl
set_option maxRecDepth 10000 in
theorem wd752 : (.code yX11_lots cX11_lots 10 (some .int) : Cond) ∈ mTL := mtb3 (List.mem_of_getElem? (i := 181) rfl) rfl
set_option maxRecDepth 10000 in
theorem wd753 : (.constant RX11 291 1103515245 : Cond) ∈ mTL := mtb3 (List.mem_of_getElem? (i := 182) rfl) rfl
set_option maxRecDepth 10000 in
theorem wd754 : (.constant RX11 292 2147483647 : Cond) ∈ mTL := mtb3 (List.mem_of_getElem? (i := 183) rfl) rfl
set_option maxRecDepth 10000 in
theorem wd755 : (.constant RX11 293 65536 : Cond) ∈ mTL := mtb3 (List.mem_of_getElem? (i := 184) rfl) rfl
set_option maxRecDepth 10000 in
theorem wd756 : (.methodLink RL 85 yX11_closest : Cond) ∈ mTL := mtb3 (List.mem_of_getElem? (i := 185) rfl) rfl
set_option maxRecDepth 10000 in
theorem wd757 : (.instanceMethod yX11_closest : Cond) ∈ mTL := mtb3 (List.mem_of_getElem? (i := 186) rfl) rfl
set_option maxRecDepth 10000 in
theorem wd758 : (.selects RX11 yX11_closest yX11_closest : Cond) ∈ mTL := mtb3 (List.mem_of_getElem? (i := 187) rfl) rfl
set_option maxRecDepth 10000 in
theorem wd759 : (.code yX11_closest cX11_closest 7 (some .int) : Cond) ∈ mTL := mtb3 (List.mem_of_getElem? (i := 188) rfl) rfl
set_option maxRecDepth 10000 in
theorem wd760 : (.constant RX11 294 1000000 : Cond) ∈ mTL := mtb3 (List.mem_of_getElem? (i := 189) rfl) rfl
set_option maxRecDepth 10000 in
theorem wd761 : (.methodLink RX11 295 yX11_thinkFed : Cond) ∈ mTL := mtb3 (List.mem_of_getElem? (i := 190) rfl) rfl
set_option maxRecDepth 10000 in
theorem wd763 : (.instanceMethod yX11_thinkFed : Cond) ∈ mTL := mtb3 (List.mem_of_getElem? (i := 192) rfl) rfl
set_option maxRecDepth 10000 in
theorem wd764 : (.code yX11_thinkFed cX11_thinkFed 3 (some (.object "ClockOfSwallows$Flock")) : Cond) ∈ mTL := mtb3 (List.mem_of_getElem? (i := 193) rfl) rfl
set_option maxRecDepth 10000 in
theorem wd765 : (.methodLink RL 121 yX11_chord : Cond) ∈ mTL := mtb3 (List.mem_of_getElem? (i := 194) rfl) rfl
set_option maxRecDepth 10000 in
theorem wd766 : (.instanceMethod yX11_chord : Cond) ∈ mTL := mtb3 (List.mem_of_getElem? (i := 195) rfl) rfl
set_option maxRecDepth 10000 in
theorem wd767 : (.selects RX11 yX11_chord yX11_chord : Cond) ∈ mTL := mtb3 (List.mem_of_getElem? (i := 196) rfl) rfl
set_option maxRecDepth 10000 in
theorem wd768 : (.code yX11_chord cX11_chord 3 (some .int) : Cond) ∈ mTL := mtb3 (List.mem_of_getElem? (i := 197) rfl) rfl
set_option maxRecDepth 10000 in
theorem wd769 : (.methodLink RX11 298 yX2_satOn : Cond) ∈ mTL := mtb3 (List.mem_of_getElem? (i := 198) rfl) rfl
set_option maxRecDepth 10000 in
theorem wd770 : (.instanceMethod yX2_satOn : Cond) ∈ mTL := mtb3 (List.mem_of_getElem? (i := 199) rfl) rfl
set_option maxRecDepth 10000 in
theorem wd771 : (.selects RX2 yX2_satOn yX2_satOn : Cond) ∈ mTL := mtb3 (List.mem_of_getElem? (i := 200) rfl) rfl
set_option maxRecDepth 10000 in
theorem wd772 : (.code yX2_satOn cX2_satOn 3 (some .int) : Cond) ∈ mTL := mtb3 (List.mem_of_getElem? (i := 201) rfl) rfl
set_option maxRecDepth 10000 in
theorem wd773 : (.methodLink RX11 301 yX11_nextChords : Cond) ∈ mTL := mtb3 (List.mem_of_getElem? (i := 202) rfl) rfl
set_option maxRecDepth 10000 in
theorem wd775 : (.instanceMethod yX11_nextChords : Cond) ∈ mTL := mtb3 (List.mem_of_getElem? (i := 204) rfl) rfl
set_option maxRecDepth 10000 in
theorem wd776 : (.code yX11_nextChords cX11_nextChords 4 (some .int) : Cond) ∈ mTL := mtb3 (List.mem_of_getElem? (i := 205) rfl) rfl
set_option maxRecDepth 10000 in
theorem wd777 : (.methodLink RX11 304 yJ13_bitCount_95d88 : Cond) ∈ mTL := mtb3 (List.mem_of_getElem? (i := 206) rfl) rfl
set_option maxRecDepth 10000 in
theorem wd778 : (.static yJ13_bitCount_95d88 : Cond) ∈ mTL := mtb3 (List.mem_of_getElem? (i := 207) rfl) rfl
set_option maxRecDepth 10000 in
theorem wd779 : (.code yJ13_bitCount_95d88 cJ13_bitCount_95d88 2 (some .int) : Cond) ∈ mTL := mtb3 (List.mem_of_getElem? (i := 208) rfl) rfl
set_option maxRecDepth 10000 in
theorem wd780 : (.constantLong RJ13 314 6148914691236517205 : Cond) ∈ mTL := mtb3 (List.mem_of_getElem? (i := 209) rfl) rfl
set_option maxRecDepth 10000 in
theorem wd781 : (.constantLong RJ13 316 3689348814741910323 : Cond) ∈ mTL := mtb3 (List.mem_of_getElem? (i := 210) rfl) rfl
set_option maxRecDepth 10000 in
theorem wd782 : (.constantLong RJ13 318 1085102592571150095 : Cond) ∈ mTL := mtb3 (List.mem_of_getElem? (i := 211) rfl) rfl
set_option maxRecDepth 10000 in
theorem wd783 : (.methodLink RL 138 yX11_watch : Cond) ∈ mTL := mtb3 (List.mem_of_getElem? (i := 212) rfl) rfl
set_option maxRecDepth 10000 in
theorem wd784 : (.instanceMethod yX11_watch : Cond) ∈ mTL := mtb3 (List.mem_of_getElem? (i := 213) rfl) rfl
set_option maxRecDepth 10000 in
theorem wd785 : (.selects RX11 yX11_watch yX11_watch : Cond) ∈ mTL := mtb3 (List.mem_of_getElem? (i := 214) rfl) rfl
set_option maxRecDepth 10000 in
theorem wd786 : (.code yX11_watch cX11_watch 8 (some .int) : Cond) ∈ mTL := mtb3 (List.mem_of_getElem? (i := 215) rfl) rfl
set_option maxRecDepth 10000 in
theorem wd787 : (.methodLink RX11 309 yX11_rivalSure : Cond) ∈ mTL := mtb3 (List.mem_of_getElem? (i := 216) rfl) rfl
set_option maxRecDepth 10000 in
theorem wd789 : (.instanceMethod yX11_rivalSure : Cond) ∈ mTL := mtb3 (List.mem_of_getElem? (i := 218) rfl) rfl
set_option maxRecDepth 10000 in
theorem wd790 : (.code yX11_rivalSure cX11_rivalSure 4 (some .int) : Cond) ∈ mTL := mtb3 (List.mem_of_getElem? (i := 219) rfl) rfl
set_option maxRecDepth 10000 in
theorem wd791 : (.methodLink RX11 312 yX11_mostWrong : Cond) ∈ mTL := mtb3 (List.mem_of_getElem? (i := 220) rfl) rfl
set_option maxRecDepth 10000 in
theorem wd793 : (.instanceMethod yX11_mostWrong : Cond) ∈ mTL := mtb3 (List.mem_of_getElem? (i := 222) rfl) rfl
set_option maxRecDepth 10000 in
theorem wd794 : (.code yX11_mostWrong cX11_mostWrong 5 (some .int) : Cond) ∈ mTL := mtb3 (List.mem_of_getElem? (i := 223) rfl) rfl
set_option maxRecDepth 10000 in
theorem wd795 : (.methodLink RL 154 yX11_always : Cond) ∈ mTL := mtb3 (List.mem_of_getElem? (i := 224) rfl) rfl
set_option maxRecDepth 10000 in
theorem wd796 : (.instanceMethod yX11_always : Cond) ∈ mTL := mtb3 (List.mem_of_getElem? (i := 225) rfl) rfl
set_option maxRecDepth 10000 in
theorem wd797 : (.selects RX11 yX11_always yX11_always : Cond) ∈ mTL := mtb3 (List.mem_of_getElem? (i := 226) rfl) rfl
set_option maxRecDepth 10000 in
theorem wd798 : (.code yX11_always cX11_always 8 (some .int) : Cond) ∈ mTL := mtb3 (List.mem_of_getElem? (i := 227) rfl) rfl
set_option maxRecDepth 10000 in
theorem wd799 : (.methodLink RL 81 yX11_feeding : Cond) ∈ mTL := mtb3 (List.mem_of_getElem? (i := 228) rfl) rfl
set_option maxRecDepth 10000 in
theorem wd800 : (.instanceMethod yX11_feeding : Cond) ∈ mTL := mtb3 (List.mem_of_getElem? (i := 229) rfl) rfl
set_option maxRecDepth 10000 in
theorem wd801 : (.selects RX11 yX11_feeding yX11_feeding : Cond) ∈ mTL := mtb3 (List.mem_of_getElem? (i := 230) rfl) rfl
set_option maxRecDepth 10000 in
theorem wd802 : (.code yX11_feeding cX11_feeding 4 (some .int) : Cond) ∈ mTL := mtb3 (List.mem_of_getElem? (i := 231) rfl) rfl
set_option maxRecDepth 10000 in
theorem wd803 : (.methodLink RX11 334 yX11_under : Cond) ∈ mTL := mtb3 (List.mem_of_getElem? (i := 232) rfl) rfl
set_option maxRecDepth 10000 in
theorem wd804 : (.static yX11_under : Cond) ∈ mTL := mtb3 (List.mem_of_getElem? (i := 233) rfl) rfl
set_option maxRecDepth 10000 in
theorem wd805 : (.code yX11_under cX11_under 2 (some .int) : Cond) ∈ mTL := mtb3 (List.mem_of_getElem? (i := 234) rfl) rfl
set_option maxRecDepth 10000 in
theorem wd806 : (.methodLink RX11 337 ⟨"ClockOfSwallows$FeedingQuest", "begin", "(I)V"⟩ : Cond) ∈ mTL := mtb3 (List.mem_of_getElem? (i := 235) rfl) rfl
set_option maxRecDepth 10000 in
theorem wd807 : (.sameMethod RX1 RX8 "begin" "(I)V" : Cond) ∈ mTL := mtb3 (List.mem_of_getElem? (i := 236) rfl) rfl
set_option maxRecDepth 10000 in
theorem wd809 : (.selects RX1 ⟨"ClockOfSwallows$FeedingQuest", "begin", "(I)V"⟩ yX8_begin : Cond) ∈ mTL := mtb3 (List.mem_of_getElem? (i := 238) rfl) rfl
set_option maxRecDepth 10000 in
theorem wd810 : (.instanceMethod yX8_begin : Cond) ∈ mTL := mtb3 (List.mem_of_getElem? (i := 239) rfl) rfl
set_option maxRecDepth 10000 in
theorem wd811 : (.code yX8_begin cX8_begin 2 none : Cond) ∈ mTL := mtb4 (List.mem_of_getElem? (i := 0) rfl) rfl
set_option maxRecDepth 10000 in
theorem wd812 : (.constant RX8 25 1000000 : Cond) ∈ mTL := mtb4 (List.mem_of_getElem? (i := 1) rfl) rfl
set_option maxRecDepth 10000 in
theorem wd813 : (.methodLink RX11 340 yX11_seekFromNow : Cond) ∈ mTL := mtb4 (List.mem_of_getElem? (i := 2) rfl) rfl
set_option maxRecDepth 10000 in
theorem wd815 : (.instanceMethod yX11_seekFromNow : Cond) ∈ mTL := mtb4 (List.mem_of_getElem? (i := 4) rfl) rfl
set_option maxRecDepth 10000 in
theorem wd816 : (.code yX11_seekFromNow cX11_seekFromNow 3 none : Cond) ∈ mTL := mtb4 (List.mem_of_getElem? (i := 5) rfl) rfl
set_option maxRecDepth 10000 in
theorem wd817 : (.methodLink RX11 330 yX11_seek : Cond) ∈ mTL := mtb4 (List.mem_of_getElem? (i := 6) rfl) rfl
set_option maxRecDepth 10000 in
theorem wd818 : (.static yX11_seek : Cond) ∈ mTL := mtb4 (List.mem_of_getElem? (i := 7) rfl) rfl
set_option maxRecDepth 10000 in
theorem wd819 : (.code yX11_seek cX11_seek 6 none : Cond) ∈ mTL := mtb4 (List.mem_of_getElem? (i := 8) rfl) rfl
set_option maxRecDepth 10000 in
theorem wd820 : (.methodLink RX11 318 ⟨"ClockOfSwallows$Quest", "opens", "(LClockOfSwallows$Flock;I)Z"⟩ : Cond) ∈ mTL := mtb4 (List.mem_of_getElem? (i := 9) rfl) rfl
set_option maxRecDepth 10000 in
theorem wd821 : (.declares ⟨"ClockOfSwallows$Quest", "opens", "(LClockOfSwallows$Flock;I)Z"⟩ : Cond) ∈ mTL := mtb4 (List.mem_of_getElem? (i := 10) rfl) rfl
set_option maxRecDepth 10000 in
theorem wd822 : (.sameMethod RX8 RX8 "opens" "(LClockOfSwallows$Flock;I)Z" : Cond) ∈ mTL := mtb4 (List.mem_of_getElem? (i := 11) rfl) rfl
set_option maxRecDepth 10000 in
theorem wd823 : (.selects RX0 ⟨"ClockOfSwallows$Quest", "opens", "(LClockOfSwallows$Flock;I)Z"⟩ yX0_opens : Cond) ∈ mTL := mtb4 (List.mem_of_getElem? (i := 12) rfl) rfl
set_option maxRecDepth 10000 in
theorem wd824 : (.instanceMethod yX0_opens : Cond) ∈ mTL := mtb4 (List.mem_of_getElem? (i := 13) rfl) rfl
set_option maxRecDepth 10000 in
theorem wd825 : (.code yX0_opens cX0_opens 3 (some .boolean) : Cond) ∈ mTL := mtb4 (List.mem_of_getElem? (i := 14) rfl) rfl
set_option maxRecDepth 10000 in
theorem wd826 : (.constant RX0 15 1000000 : Cond) ∈ mTL := mtb4 (List.mem_of_getElem? (i := 15) rfl) rfl
set_option maxRecDepth 10000 in
theorem wd827 : (.methodLink RX0 16 yX2_satOn : Cond) ∈ mTL := mtb4 (List.mem_of_getElem? (i := 16) rfl) rfl
set_option maxRecDepth 10000 in
theorem wd828 : (.methodLink RX0 22 ⟨"ClockOfSwallows$ChordQuest", "isAsTold", "(II)Z"⟩ : Cond) ∈ mTL := mtb4 (List.mem_of_getElem? (i := 17) rfl) rfl
set_option maxRecDepth 10000 in
theorem wd829 : (.sameMethod RX0 RX8 "isAsTold" "(II)Z" : Cond) ∈ mTL := mtb4 (List.mem_of_getElem? (i := 18) rfl) rfl
set_option maxRecDepth 10000 in
theorem wd831 : (.selects RX0 ⟨"ClockOfSwallows$ChordQuest", "isAsTold", "(II)Z"⟩ yX8_isAsTold : Cond) ∈ mTL := mtb4 (List.mem_of_getElem? (i := 20) rfl) rfl
set_option maxRecDepth 10000 in
theorem wd832 : (.instanceMethod yX8_isAsTold : Cond) ∈ mTL := mtb4 (List.mem_of_getElem? (i := 21) rfl) rfl
set_option maxRecDepth 10000 in
theorem wd833 : (.code yX8_isAsTold cX8_isAsTold 3 (some .boolean) : Cond) ∈ mTL := mtb4 (List.mem_of_getElem? (i := 22) rfl) rfl
set_option maxRecDepth 10000 in
theorem wd834 : (.methodLink RX0 29 ⟨"ClockOfSwallows$ChordQuest", "keep", "(II)V"⟩ : Cond) ∈ mTL := mtb4 (List.mem_of_getElem? (i := 23) rfl) rfl
set_option maxRecDepth 10000 in
theorem wd835 : (.sameMethod RX0 RX8 "keep" "(II)V" : Cond) ∈ mTL := mtb4 (List.mem_of_getElem? (i := 24) rfl) rfl
set_option maxRecDepth 10000 in
theorem wd837 : (.selects RX0 ⟨"ClockOfSwallows$ChordQuest", "keep", "(II)V"⟩ yX8_keep : Cond) ∈ mTL := mtb4 (List.mem_of_getElem? (i := 26) rfl) rfl
set_option maxRecDepth 10000 in
theorem wd838 : (.instanceMethod yX8_keep : Cond) ∈ mTL := mtb4 (List.mem_of_getElem? (i := 27) rfl) rfl
set_option maxRecDepth 10000 in
theorem wd839 : (.code yX8_keep cX8_keep 3 none : Cond) ∈ mTL := mtb4 (List.mem_of_getElem? (i := 28) rfl) rfl
set_option maxRecDepth 10000 in
theorem wd840 : (.methodLink RX8 43 Lib.Math.min.name : Cond) ∈ mTL := mtb4 (List.mem_of_getElem? (i := 29) rfl) rfl
set_option maxRecDepth 10000 in
theorem wd841 : (.methodLink RX8 37 arraycopyName : Cond) ∈ mTL := mtb4 (List.mem_of_getElem? (i := 30) rfl) rfl
set_option maxRecDepth 10000 in
theorem wd842 : (.selects RX1 ⟨"ClockOfSwallows$Quest", "opens", "(LClockOfSwallows$Flock;I)Z"⟩ yX1_opens : Cond) ∈ mTL := mtb4 (List.mem_of_getElem? (i := 31) rfl) rfl
set_option maxRecDepth 10000 in
theorem wd843 : (.instanceMethod yX1_opens : Cond) ∈ mTL := mtb4 (List.mem_of_getElem? (i := 32) rfl) rfl
set_option maxRecDepth 10000 in
theorem wd844 : (.code yX1_opens cX1_opens 4 (some .boolean) : Cond) ∈ mTL := mtb4 (List.mem_of_getElem? (i := 33) rfl) rfl
set_option maxRecDepth 10000 in
theorem wd845 : (.methodLink RX1 7 ⟨"ClockOfSwallows$FeedingQuest", "fliesPut", "(I)I"⟩ : Cond) ∈ mTL := mtb4 (List.mem_of_getElem? (i := 34) rfl) rfl
set_option maxRecDepth 10000 in
theorem wd846 : (.sameMethod RX1 RX8 "fliesPut" "(I)I" : Cond) ∈ mTL := mtb4 (List.mem_of_getElem? (i := 35) rfl) rfl
set_option maxRecDepth 10000 in
theorem wd848 : (.selects RX1 ⟨"ClockOfSwallows$FeedingQuest", "fliesPut", "(I)I"⟩ yX8_fliesPut : Cond) ∈ mTL := mtb4 (List.mem_of_getElem? (i := 37) rfl) rfl
set_option maxRecDepth 10000 in
theorem wd849 : (.instanceMethod yX8_fliesPut : Cond) ∈ mTL := mtb4 (List.mem_of_getElem? (i := 38) rfl) rfl
set_option maxRecDepth 10000 in
theorem wd850 : (.code yX8_fliesPut cX8_fliesPut 4 (some .int) : Cond) ∈ mTL := mtb4 (List.mem_of_getElem? (i := 39) rfl) rfl
set_option maxRecDepth 10000 in
theorem wd851 : (.methodLink RX1 17 yX2_errs : Cond) ∈ mTL := mtb4 (List.mem_of_getElem? (i := 40) rfl) rfl
set_option maxRecDepth 10000 in
theorem wd852 : (.methodLink RX1 26 ⟨"ClockOfSwallows$FeedingQuest", "keep", "(II)V"⟩ : Cond) ∈ mTL := mtb4 (List.mem_of_getElem? (i := 41) rfl) rfl
set_option maxRecDepth 10000 in
theorem wd853 : (.sameMethod RX1 RX8 "keep" "(II)V" : Cond) ∈ mTL := mtb4 (List.mem_of_getElem? (i := 42) rfl) rfl
set_option maxRecDepth 10000 in
theorem wd854 : (.selects RX1 ⟨"ClockOfSwallows$FeedingQuest", "keep", "(II)V"⟩ yX8_keep : Cond) ∈ mTL := mtb4 (List.mem_of_getElem? (i := 43) rfl) rfl
set_option maxRecDepth 10000 in
theorem wd855 : (.selects RX3 ⟨"ClockOfSwallows$Quest", "opens", "(LClockOfSwallows$Flock;I)Z"⟩ yX3_opens : Cond) ∈ mTL := mtb4 (List.mem_of_getElem? (i := 44) rfl) rfl
set_option maxRecDepth 10000 in
theorem wd856 : (.instanceMethod yX3_opens : Cond) ∈ mTL := mtb4 (List.mem_of_getElem? (i := 45) rfl) rfl
set_option maxRecDepth 10000 in
theorem wd857 : (.code yX3_opens cX3_opens 3 (some .boolean) : Cond) ∈ mTL := mtb4 (List.mem_of_getElem? (i := 46) rfl) rfl
set_option maxRecDepth 10000 in
theorem wd858 : (.methodLink RX3 13 yX2_satOn : Cond) ∈ mTL := mtb4 (List.mem_of_getElem? (i := 47) rfl) rfl
set_option maxRecDepth 10000 in
theorem wd859 : (.methodLink RX3 19 yJ6_bitCount_0f7a4 : Cond) ∈ mTL := mtb4 (List.mem_of_getElem? (i := 48) rfl) rfl
set_option maxRecDepth 10000 in
theorem wd860 : (.methodLink RX3 28 ⟨"ClockOfSwallows$GatherQuest", "keep", "(II)V"⟩ : Cond) ∈ mTL := mtb4 (List.mem_of_getElem? (i := 49) rfl) rfl
set_option maxRecDepth 10000 in
theorem wd861 : (.sameMethod RX3 RX8 "keep" "(II)V" : Cond) ∈ mTL := mtb4 (List.mem_of_getElem? (i := 50) rfl) rfl
set_option maxRecDepth 10000 in
theorem wd862 : (.selects RX3 ⟨"ClockOfSwallows$GatherQuest", "keep", "(II)V"⟩ yX8_keep : Cond) ∈ mTL := mtb4 (List.mem_of_getElem? (i := 51) rfl) rfl
set_option maxRecDepth 10000 in
theorem wd863 : (.selects RX4 ⟨"ClockOfSwallows$Quest", "opens", "(LClockOfSwallows$Flock;I)Z"⟩ yX4_opens : Cond) ∈ mTL := mtb4 (List.mem_of_getElem? (i := 52) rfl) rfl
set_option maxRecDepth 10000 in
theorem wd864 : (.instanceMethod yX4_opens : Cond) ∈ mTL := mtb4 (List.mem_of_getElem? (i := 53) rfl) rfl
set_option maxRecDepth 10000 in
theorem wd865 : (.code yX4_opens cX4_opens 4 (some .boolean) : Cond) ∈ mTL := mtb4 (List.mem_of_getElem? (i := 54) rfl) rfl
set_option maxRecDepth 10000 in
theorem wd866 : (.methodLink RX4 23 yX2_isWire : Cond) ∈ mTL := mtb4 (List.mem_of_getElem? (i := 55) rfl) rfl
set_option maxRecDepth 10000 in
theorem wd867 : (.methodLink RX4 31 Lib.Math.max.name : Cond) ∈ mTL := mtb4 (List.mem_of_getElem? (i := 56) rfl) rfl
set_option maxRecDepth 10000 in
theorem wd868 : (.methodLink RX4 40 Lib.Math.min.name : Cond) ∈ mTL := mtb4 (List.mem_of_getElem? (i := 57) rfl) rfl
set_option maxRecDepth 10000 in
theorem wd869 : (.selects RX5 ⟨"ClockOfSwallows$Quest", "opens", "(LClockOfSwallows$Flock;I)Z"⟩ yX5_opens : Cond) ∈ mTL := mtb4 (List.mem_of_getElem? (i := 58) rfl) rfl
set_option maxRecDepth 10000 in
theorem wd870 : (.instanceMethod yX5_opens : Cond) ∈ mTL := mtb4 (List.mem_of_getElem? (i := 59) rfl) rfl
set_option maxRecDepth 10000 in
theorem wd871 : (.code yX5_opens cX5_opens 3 (some .boolean) : Cond) ∈ mTL := mtb4 (List.mem_of_getElem? (i := 60) rfl) rfl
set_option maxRecDepth 10000 in
theorem wd872 : (.methodLink RX5 25 ⟨"ClockOfSwallows$LureQuest", "keep", "(II)V"⟩ : Cond) ∈ mTL := mtb4 (List.mem_of_getElem? (i := 61) rfl) rfl
set_option maxRecDepth 10000 in
theorem wd873 : (.sameMethod RX5 RX8 "keep" "(II)V" : Cond) ∈ mTL := mtb4 (List.mem_of_getElem? (i := 62) rfl) rfl
set_option maxRecDepth 10000 in
theorem wd874 : (.selects RX5 ⟨"ClockOfSwallows$LureQuest", "keep", "(II)V"⟩ yX8_keep : Cond) ∈ mTL := mtb4 (List.mem_of_getElem? (i := 63) rfl) rfl
set_option maxRecDepth 10000 in
theorem wd875 : (.selects RX6 ⟨"ClockOfSwallows$Quest", "opens", "(LClockOfSwallows$Flock;I)Z"⟩ yX6_opens : Cond) ∈ mTL := mtb4 (List.mem_of_getElem? (i := 64) rfl) rfl
set_option maxRecDepth 10000 in
theorem wd876 : (.instanceMethod yX6_opens : Cond) ∈ mTL := mtb4 (List.mem_of_getElem? (i := 65) rfl) rfl
set_option maxRecDepth 10000 in
theorem wd877 : (.code yX6_opens cX6_opens 3 (some .boolean) : Cond) ∈ mTL := mtb4 (List.mem_of_getElem? (i := 66) rfl) rfl
set_option maxRecDepth 10000 in
theorem wd878 : (.methodLink RX6 18 yX2_errs : Cond) ∈ mTL := mtb4 (List.mem_of_getElem? (i := 67) rfl) rfl
set_option maxRecDepth 10000 in
theorem wd879 : (.methodLink RX6 24 ⟨"ClockOfSwallows$MovedQuest", "isAsTold", "(II)Z"⟩ : Cond) ∈ mTL := mtb4 (List.mem_of_getElem? (i := 68) rfl) rfl
set_option maxRecDepth 10000 in
theorem wd880 : (.sameMethod RX6 RX8 "isAsTold" "(II)Z" : Cond) ∈ mTL := mtb4 (List.mem_of_getElem? (i := 69) rfl) rfl
set_option maxRecDepth 10000 in
theorem wd881 : (.selects RX6 ⟨"ClockOfSwallows$MovedQuest", "isAsTold", "(II)Z"⟩ yX8_isAsTold : Cond) ∈ mTL := mtb4 (List.mem_of_getElem? (i := 70) rfl) rfl
set_option maxRecDepth 10000 in
theorem wd882 : (.methodLink RX6 31 yX6_note : Cond) ∈ mTL := mtb4 (List.mem_of_getElem? (i := 71) rfl) rfl
set_option maxRecDepth 10000 in
theorem wd884 : (.instanceMethod yX6_note : Cond) ∈ mTL := mtb4 (List.mem_of_getElem? (i := 73) rfl) rfl
set_option maxRecDepth 10000 in
theorem wd885 : (.code yX6_note cX6_note 3 none : Cond) ∈ mTL := mtb4 (List.mem_of_getElem? (i := 74) rfl) rfl
set_option maxRecDepth 10000 in
theorem wd886 : (.methodLink RX6 38 ⟨"ClockOfSwallows$MovedQuest", "fliesPut", "(I)I"⟩ : Cond) ∈ mTL := mtb4 (List.mem_of_getElem? (i := 75) rfl) rfl
set_option maxRecDepth 10000 in
theorem wd887 : (.sameMethod RX6 RX8 "fliesPut" "(I)I" : Cond) ∈ mTL := mtb4 (List.mem_of_getElem? (i := 76) rfl) rfl
set_option maxRecDepth 10000 in
theorem wd888 : (.selects RX6 ⟨"ClockOfSwallows$MovedQuest", "fliesPut", "(I)I"⟩ yX8_fliesPut : Cond) ∈ mTL := mtb4 (List.mem_of_getElem? (i := 77) rfl) rfl
set_option maxRecDepth 10000 in
theorem wd889 : (.methodLink RX6 42 Lib.Math.min.name : Cond) ∈ mTL := mtb4 (List.mem_of_getElem? (i := 78) rfl) rfl
set_option maxRecDepth 10000 in
theorem wd890 : (.methodLink RX11 327 yX2_sitAs : Cond) ∈ mTL := mtb4 (List.mem_of_getElem? (i := 79) rfl) rfl
set_option maxRecDepth 10000 in
theorem wd891 : (.methodLink RX11 344 ⟨"ClockOfSwallows$FeedingQuest", "bestOrNone", "()I"⟩ : Cond) ∈ mTL := mtb4 (List.mem_of_getElem? (i := 80) rfl) rfl
set_option maxRecDepth 10000 in
theorem wd892 : (.sameMethod RX1 RX8 "bestOrNone" "()I" : Cond) ∈ mTL := mtb4 (List.mem_of_getElem? (i := 81) rfl) rfl
set_option maxRecDepth 10000 in
theorem wd894 : (.selects RX1 ⟨"ClockOfSwallows$FeedingQuest", "bestOrNone", "()I"⟩ yX8_bestOrNone : Cond) ∈ mTL := mtb4 (List.mem_of_getElem? (i := 83) rfl) rfl
set_option maxRecDepth 10000 in
theorem wd895 : (.instanceMethod yX8_bestOrNone : Cond) ∈ mTL := mtb4 (List.mem_of_getElem? (i := 84) rfl) rfl
set_option maxRecDepth 10000 in
theorem wd896 : (.code yX8_bestOrNone cX8_bestOrNone 1 (some .int) : Cond) ∈ mTL := mtb4 (List.mem_of_getElem? (i := 85) rfl) rfl
set_option maxRecDepth 10000 in
theorem wd897 : (.methodLink RX11 347 ⟨"ClockOfSwallows$FeedingQuest", "fliesAt", "(I)I"⟩ : Cond) ∈ mTL := mtb4 (List.mem_of_getElem? (i := 86) rfl) rfl
set_option maxRecDepth 10000 in
theorem wd898 : (.sameMethod RX1 RX8 "fliesAt" "(I)I" : Cond) ∈ mTL := mtb4 (List.mem_of_getElem? (i := 87) rfl) rfl
set_option maxRecDepth 10000 in
theorem wd900 : (.selects RX1 ⟨"ClockOfSwallows$FeedingQuest", "fliesAt", "(I)I"⟩ yX8_fliesAt : Cond) ∈ mTL := mtb4 (List.mem_of_getElem? (i := 89) rfl) rfl
set_option maxRecDepth 10000 in
theorem wd901 : (.instanceMethod yX8_fliesAt : Cond) ∈ mTL := mtb4 (List.mem_of_getElem? (i := 90) rfl) rfl
set_option maxRecDepth 10000 in
theorem wd902 : (.code yX8_fliesAt cX8_fliesAt 2 (some .int) : Cond) ∈ mTL := mtb4 (List.mem_of_getElem? (i := 91) rfl) rfl
set_option maxRecDepth 10000 in
theorem wd903 : (.methodLink RL 89 yX11_highest : Cond) ∈ mTL := mtb4 (List.mem_of_getElem? (i := 92) rfl) rfl
set_option maxRecDepth 10000 in
theorem wd904 : (.instanceMethod yX11_highest : Cond) ∈ mTL := mtb4 (List.mem_of_getElem? (i := 93) rfl) rfl
set_option maxRecDepth 10000 in
theorem wd905 : (.selects RX11 yX11_highest yX11_highest : Cond) ∈ mTL := mtb4 (List.mem_of_getElem? (i := 94) rfl) rfl
set_option maxRecDepth 10000 in
theorem wd906 : (.code yX11_highest cX11_highest 3 (some .int) : Cond) ∈ mTL := mtb4 (List.mem_of_getElem? (i := 95) rfl) rfl
set_option maxRecDepth 10000 in
theorem wd907 : (.methodLink RX11 350 ⟨"ClockOfSwallows$HighestQuest", "begin", "(I)V"⟩ : Cond) ∈ mTL := mtb4 (List.mem_of_getElem? (i := 96) rfl) rfl
set_option maxRecDepth 10000 in
theorem wd908 : (.sameMethod RX4 RX8 "begin" "(I)V" : Cond) ∈ mTL := mtb4 (List.mem_of_getElem? (i := 97) rfl) rfl
set_option maxRecDepth 10000 in
theorem wd909 : (.selects RX4 ⟨"ClockOfSwallows$HighestQuest", "begin", "(I)V"⟩ yX8_begin : Cond) ∈ mTL := mtb4 (List.mem_of_getElem? (i := 98) rfl) rfl
set_option maxRecDepth 10000 in
theorem wd910 : (.methodLink RL 125 yX11_plays : Cond) ∈ mTL := mtb4 (List.mem_of_getElem? (i := 99) rfl) rfl
set_option maxRecDepth 10000 in
theorem wd911 : (.instanceMethod yX11_plays : Cond) ∈ mTL := mtb4 (List.mem_of_getElem? (i := 100) rfl) rfl
set_option maxRecDepth 10000 in
theorem wd912 : (.selects RX11 yX11_plays yX11_plays : Cond) ∈ mTL := mtb4 (List.mem_of_getElem? (i := 101) rfl) rfl
set_option maxRecDepth 10000 in
theorem wd913 : (.code yX11_plays cX11_plays 3 (some .int) : Cond) ∈ mTL := mtb4 (List.mem_of_getElem? (i := 102) rfl) rfl
set_option maxRecDepth 10000 in
theorem wd914 : (.methodLink RX11 354 yX11_unfitRow : Cond) ∈ mTL := mtb4 (List.mem_of_getElem? (i := 103) rfl) rfl
set_option maxRecDepth 10000 in
theorem wd916 : (.instanceMethod yX11_unfitRow : Cond) ∈ mTL := mtb4 (List.mem_of_getElem? (i := 105) rfl) rfl
set_option maxRecDepth 10000 in
theorem wd917 : (.code yX11_unfitRow cX11_unfitRow 2 (some .int) : Cond) ∈ mTL := mtb4 (List.mem_of_getElem? (i := 106) rfl) rfl
set_option maxRecDepth 10000 in
theorem wd918 : (.methodLink RX11 113 yX9_greatest : Cond) ∈ mTL := mtb4 (List.mem_of_getElem? (i := 107) rfl) rfl
set_option maxRecDepth 10000 in
theorem wd919 : (.instanceMethod yX9_greatest : Cond) ∈ mTL := mtb4 (List.mem_of_getElem? (i := 108) rfl) rfl
set_option maxRecDepth 10000 in
theorem wd920 : (.selects RX9 yX9_greatest yX9_greatest : Cond) ∈ mTL := mtb4 (List.mem_of_getElem? (i := 109) rfl) rfl
set_option maxRecDepth 10000 in
theorem wd921 : (.code yX9_greatest cX9_greatest 3 (some .int) : Cond) ∈ mTL := mtb4 (List.mem_of_getElem? (i := 110) rfl) rfl
set_option maxRecDepth 10000 in
theorem wd922 : (.methodLink RX9 25 Lib.Math.max.name : Cond) ∈ mTL := mtb4 (List.mem_of_getElem? (i := 111) rfl) rfl
set_option maxRecDepth 10000 in
theorem wd923 : (.methodLink RX11 357 ⟨"ClockOfSwallows$ChordQuest", "begin", "(I)V"⟩ : Cond) ∈ mTL := mtb4 (List.mem_of_getElem? (i := 112) rfl) rfl
set_option maxRecDepth 10000 in
theorem wd924 : (.sameMethod RX0 RX8 "begin" "(I)V" : Cond) ∈ mTL := mtb4 (List.mem_of_getElem? (i := 113) rfl) rfl
set_option maxRecDepth 10000 in
theorem wd925 : (.selects RX0 ⟨"ClockOfSwallows$ChordQuest", "begin", "(I)V"⟩ yX8_begin : Cond) ∈ mTL := mtb4 (List.mem_of_getElem? (i := 114) rfl) rfl
set_option maxRecDepth 10000 in
theorem wd926 : (.methodLink RX11 358 ⟨"ClockOfSwallows$ChordQuest", "hear", "(LClockOfSwallows$Row;)V"⟩ : Cond) ∈ mTL := mtb4 (List.mem_of_getElem? (i := 115) rfl) rfl
set_option maxRecDepth 10000 in
theorem wd927 : (.sameMethod RX0 RX8 "hear" "(LClockOfSwallows$Row;)V" : Cond) ∈ mTL := mtb4 (List.mem_of_getElem? (i := 116) rfl) rfl
set_option maxRecDepth 10000 in
theorem wd929 : (.selects RX0 ⟨"ClockOfSwallows$ChordQuest", "hear", "(LClockOfSwallows$Row;)V"⟩ yX8_hear : Cond) ∈ mTL := mtb4 (List.mem_of_getElem? (i := 118) rfl) rfl
set_option maxRecDepth 10000 in
theorem wd930 : (.instanceMethod yX8_hear : Cond) ∈ mTL := mtb4 (List.mem_of_getElem? (i := 119) rfl) rfl
set_option maxRecDepth 10000 in
theorem wd931 : (.code yX8_hear cX8_hear 2 none : Cond) ∈ mTL := mtb4 (List.mem_of_getElem? (i := 120) rfl) rfl
set_option maxRecDepth 10000 in
theorem wd932 : (.methodLink RX11 365 ⟨"ClockOfSwallows$ChordQuest", "fliesAt", "(I)I"⟩ : Cond) ∈ mTL := mtb4 (List.mem_of_getElem? (i := 121) rfl) rfl
set_option maxRecDepth 10000 in
theorem wd933 : (.sameMethod RX0 RX8 "fliesAt" "(I)I" : Cond) ∈ mTL := mtb4 (List.mem_of_getElem? (i := 122) rfl) rfl
set_option maxRecDepth 10000 in
theorem wd934 : (.selects RX0 ⟨"ClockOfSwallows$ChordQuest", "fliesAt", "(I)I"⟩ yX8_fliesAt : Cond) ∈ mTL := mtb4 (List.mem_of_getElem? (i := 123) rfl) rfl
set_option maxRecDepth 10000 in
theorem wd935 : (.methodLink RL 134 yX11_whoMoved : Cond) ∈ mTL := mtb4 (List.mem_of_getElem? (i := 124) rfl) rfl
set_option maxRecDepth 10000 in
theorem wd936 : (.instanceMethod yX11_whoMoved : Cond) ∈ mTL := mtb4 (List.mem_of_getElem? (i := 125) rfl) rfl
set_option maxRecDepth 10000 in
theorem wd937 : (.selects RX11 yX11_whoMoved yX11_whoMoved : Cond) ∈ mTL := mtb4 (List.mem_of_getElem? (i := 126) rfl) rfl
set_option maxRecDepth 10000 in
theorem wd938 : (.code yX11_whoMoved cX11_whoMoved 3 (some .int) : Cond) ∈ mTL := mtb4 (List.mem_of_getElem? (i := 127) rfl) rfl
set_option maxRecDepth 10000 in
theorem wd939 : (.methodLink RX11 366 ⟨"ClockOfSwallows$MovedQuest", "begin", "(I)V"⟩ : Cond) ∈ mTL := mtb4 (List.mem_of_getElem? (i := 128) rfl) rfl
set_option maxRecDepth 10000 in
theorem wd940 : (.sameMethod RX6 RX8 "begin" "(I)V" : Cond) ∈ mTL := mtb4 (List.mem_of_getElem? (i := 129) rfl) rfl
set_option maxRecDepth 10000 in
theorem wd941 : (.selects RX6 ⟨"ClockOfSwallows$MovedQuest", "begin", "(I)V"⟩ yX8_begin : Cond) ∈ mTL := mtb4 (List.mem_of_getElem? (i := 130) rfl) rfl
set_option maxRecDepth 10000 in
theorem wd942 : (.methodLink RX11 367 ⟨"ClockOfSwallows$MovedQuest", "hear", "(LClockOfSwallows$Row;)V"⟩ : Cond) ∈ mTL := mtb4 (List.mem_of_getElem? (i := 131) rfl) rfl
set_option maxRecDepth 10000 in
theorem wd943 : (.sameMethod RX6 RX8 "hear" "(LClockOfSwallows$Row;)V" : Cond) ∈ mTL := mtb4 (List.mem_of_getElem? (i := 132) rfl) rfl
set_option maxRecDepth 10000 in
theorem wd944 : (.selects RX6 ⟨"ClockOfSwallows$MovedQuest", "hear", "(LClockOfSwallows$Row;)V"⟩ yX8_hear : Cond) ∈ mTL := mtb4 (List.mem_of_getElem? (i := 133) rfl) rfl
set_option maxRecDepth 10000 in
theorem wd945 : (.methodLink RX11 374 ⟨"ClockOfSwallows$MovedQuest", "bestOrNone", "()I"⟩ : Cond) ∈ mTL := mtb4 (List.mem_of_getElem? (i := 134) rfl) rfl
set_option maxRecDepth 10000 in
theorem wd946 : (.sameMethod RX6 RX8 "bestOrNone" "()I" : Cond) ∈ mTL := mtb4 (List.mem_of_getElem? (i := 135) rfl) rfl
set_option maxRecDepth 10000 in
theorem wd947 : (.selects RX6 ⟨"ClockOfSwallows$MovedQuest", "bestOrNone", "()I"⟩ yX8_bestOrNone : Cond) ∈ mTL := mtb4 (List.mem_of_getElem? (i := 136) rfl) rfl
set_option maxRecDepth 10000 in
theorem wd948 : (.methodLink RL 174 yX11_lured : Cond) ∈ mTL := mtb4 (List.mem_of_getElem? (i := 137) rfl) rfl
set_option maxRecDepth 10000 in
theorem wd949 : (.instanceMethod yX11_lured : Cond) ∈ mTL := mtb4 (List.mem_of_getElem? (i := 138) rfl) rfl
set_option maxRecDepth 10000 in
theorem wd950 : (.selects RX11 yX11_lured yX11_lured : Cond) ∈ mTL := mtb4 (List.mem_of_getElem? (i := 139) rfl) rfl
set_option maxRecDepth 10000 in
theorem wd951 : (.code yX11_lured cX11_lured 5 (some .int) : Cond) ∈ mTL := mtb4 (List.mem_of_getElem? (i := 140) rfl) rfl
set_option maxRecDepth 10000 in
theorem wd952 : (.methodLink RX11 375 ⟨"ClockOfSwallows$LureQuest", "begin", "(I)V"⟩ : Cond) ∈ mTL := mtb4 (List.mem_of_getElem? (i := 141) rfl) rfl
set_option maxRecDepth 10000 in
theorem wd953 : (.sameMethod RX5 RX8 "begin" "(I)V" : Cond) ∈ mTL := mtb4 (List.mem_of_getElem? (i := 142) rfl) rfl
set_option maxRecDepth 10000 in
theorem wd954 : (.selects RX5 ⟨"ClockOfSwallows$LureQuest", "begin", "(I)V"⟩ yX8_begin : Cond) ∈ mTL := mtb4 (List.mem_of_getElem? (i := 143) rfl) rfl
set_option maxRecDepth 10000 in
theorem wd955 : (.methodLink RX11 382 ⟨"ClockOfSwallows$LureQuest", "bestOrNone", "()I"⟩ : Cond) ∈ mTL := mtb4 (List.mem_of_getElem? (i := 144) rfl) rfl
set_option maxRecDepth 10000 in
theorem wd956 : (.sameMethod RX5 RX8 "bestOrNone" "()I" : Cond) ∈ mTL := mtb4 (List.mem_of_getElem? (i := 145) rfl) rfl
set_option maxRecDepth 10000 in
theorem wd957 : (.selects RX5 ⟨"ClockOfSwallows$LureQuest", "bestOrNone", "()I"⟩ yX8_bestOrNone : Cond) ∈ mTL := mtb4 (List.mem_of_getElem? (i := 146) rfl) rfl
set_option maxRecDepth 10000 in
theorem wd958 : (.methodLink RX11 383 ⟨"ClockOfSwallows$LureQuest", "fliesAt", "(I)I"⟩ : Cond) ∈ mTL := mtb4 (List.mem_of_getElem? (i := 147) rfl) rfl
set_option maxRecDepth 10000 in
theorem wd959 : (.sameMethod RX5 RX8 "fliesAt" "(I)I" : Cond) ∈ mTL := mtb4 (List.mem_of_getElem? (i := 148) rfl) rfl
set_option maxRecDepth 10000 in
theorem wd960 : (.selects RX5 ⟨"ClockOfSwallows$LureQuest", "fliesAt", "(I)I"⟩ yX8_fliesAt : Cond) ∈ mTL := mtb4 (List.mem_of_getElem? (i := 149) rfl) rfl
set_option maxRecDepth 10000 in
theorem wd961 : (.methodLink RL 186 yX11_gather : Cond) ∈ mTL := mtb4 (List.mem_of_getElem? (i := 150) rfl) rfl
set_option maxRecDepth 10000 in
theorem wd962 : (.instanceMethod yX11_gather : Cond) ∈ mTL := mtb4 (List.mem_of_getElem? (i := 151) rfl) rfl
set_option maxRecDepth 10000 in
theorem wd963 : (.selects RX11 yX11_gather yX11_gather : Cond) ∈ mTL := mtb4 (List.mem_of_getElem? (i := 152) rfl) rfl
set_option maxRecDepth 10000 in
theorem wd964 : (.code yX11_gather cX11_gather 3 (some .int) : Cond) ∈ mTL := mtb4 (List.mem_of_getElem? (i := 153) rfl) rfl
set_option maxRecDepth 10000 in
theorem wd965 : (.methodLink RX11 384 ⟨"ClockOfSwallows$GatherQuest", "begin", "(I)V"⟩ : Cond) ∈ mTL := mtb4 (List.mem_of_getElem? (i := 154) rfl) rfl
set_option maxRecDepth 10000 in
theorem wd966 : (.sameMethod RX3 RX8 "begin" "(I)V" : Cond) ∈ mTL := mtb4 (List.mem_of_getElem? (i := 155) rfl) rfl
set_option maxRecDepth 10000 in
theorem wd967 : (.selects RX3 ⟨"ClockOfSwallows$GatherQuest", "begin", "(I)V"⟩ yX8_begin : Cond) ∈ mTL := mtb4 (List.mem_of_getElem? (i := 156) rfl) rfl
set_option maxRecDepth 10000 in
theorem wd968 : (.methodLink RX11 386 ⟨"ClockOfSwallows$GatherQuest", "bestOrNone", "()I"⟩ : Cond) ∈ mTL := mtb4 (List.mem_of_getElem? (i := 157) rfl) rfl
set_option maxRecDepth 10000 in
theorem wd969 : (.sameMethod RX3 RX8 "bestOrNone" "()I" : Cond) ∈ mTL := mtb4 (List.mem_of_getElem? (i := 158) rfl) rfl
set_option maxRecDepth 10000 in
theorem wd970 : (.selects RX3 ⟨"ClockOfSwallows$GatherQuest", "bestOrNone", "()I"⟩ yX8_bestOrNone : Cond) ∈ mTL := mtb4 (List.mem_of_getElem? (i := 159) rfl) rfl
set_option maxRecDepth 10000 in
theorem wd971 : (.methodLink RL 101 yX11_mixed : Cond) ∈ mTL := mtb4 (List.mem_of_getElem? (i := 160) rfl) rfl
set_option maxRecDepth 10000 in
theorem wd972 : (.instanceMethod yX11_mixed : Cond) ∈ mTL := mtb4 (List.mem_of_getElem? (i := 161) rfl) rfl
set_option maxRecDepth 10000 in
theorem wd973 : (.selects RX11 yX11_mixed yX11_mixed : Cond) ∈ mTL := mtb4 (List.mem_of_getElem? (i := 162) rfl) rfl
set_option maxRecDepth 10000 in
theorem wd974 : (.code yX11_mixed cX11_mixed 4 (some .int) : Cond) ∈ mTL := mtb4 (List.mem_of_getElem? (i := 163) rfl) rfl
set_option maxRecDepth 10000 in
theorem wd975 : (.methodLink RL 105 yX11_near : Cond) ∈ mTL := mtb4 (List.mem_of_getElem? (i := 164) rfl) rfl
set_option maxRecDepth 10000 in
theorem wd976 : (.instanceMethod yX11_near : Cond) ∈ mTL := mtb4 (List.mem_of_getElem? (i := 165) rfl) rfl
set_option maxRecDepth 10000 in
theorem wd977 : (.selects RX11 yX11_near yX11_near : Cond) ∈ mTL := mtb4 (List.mem_of_getElem? (i := 166) rfl) rfl
set_option maxRecDepth 10000 in
theorem wd978 : (.code yX11_near cX11_near 4 (some .int) : Cond) ∈ mTL := mtb4 (List.mem_of_getElem? (i := 167) rfl) rfl
set_option maxRecDepth 10000 in
theorem wd979 : (.methodLink RX11 387 yX11_movesTo : Cond) ∈ mTL := mtb4 (List.mem_of_getElem? (i := 168) rfl) rfl
set_option maxRecDepth 10000 in
theorem wd980 : (.static yX11_movesTo : Cond) ∈ mTL := mtb4 (List.mem_of_getElem? (i := 169) rfl) rfl
set_option maxRecDepth 10000 in
theorem wd981 : (.code yX11_movesTo cX11_movesTo 6 (some .int) : Cond) ∈ mTL := mtb4 (List.mem_of_getElem? (i := 170) rfl) rfl
set_option maxRecDepth 10000 in
theorem wd982 : (.methodLink RX11 391 yX2_shift : Cond) ∈ mTL := mtb4 (List.mem_of_getElem? (i := 171) rfl) rfl
set_option maxRecDepth 10000 in
theorem wd983 : (.methodLink RL 109 yX11_read : Cond) ∈ mTL := mtb4 (List.mem_of_getElem? (i := 172) rfl) rfl
set_option maxRecDepth 10000 in
theorem wd984 : (.instanceMethod yX11_read : Cond) ∈ mTL := mtb4 (List.mem_of_getElem? (i := 173) rfl) rfl
set_option maxRecDepth 10000 in
theorem wd985 : (.selects RX11 yX11_read yX11_read : Cond) ∈ mTL := mtb4 (List.mem_of_getElem? (i := 174) rfl) rfl
set_option maxRecDepth 10000 in
theorem wd986 : (.code yX11_read cX11_read 5 (some .int) : Cond) ∈ mTL := mtb4 (List.mem_of_getElem? (i := 175) rfl) rfl
set_option maxRecDepth 10000 in
theorem wd987 : (.methodLink RX11 395 yX11_tallySeats : Cond) ∈ mTL := mtb4 (List.mem_of_getElem? (i := 176) rfl) rfl
set_option maxRecDepth 10000 in
theorem wd988 : (.static yX11_tallySeats : Cond) ∈ mTL := mtb4 (List.mem_of_getElem? (i := 177) rfl) rfl
set_option maxRecDepth 10000 in
theorem wd989 : (.code yX11_tallySeats cX11_tallySeats 6 none : Cond) ∈ mTL := mtb4 (List.mem_of_getElem? (i := 178) rfl) rfl
set_option maxRecDepth 10000 in
theorem wd990 : (.methodLink RL 113 yX11_bestWeight : Cond) ∈ mTL := mtb4 (List.mem_of_getElem? (i := 179) rfl) rfl
set_option maxRecDepth 10000 in
theorem wd991 : (.instanceMethod yX11_bestWeight : Cond) ∈ mTL := mtb4 (List.mem_of_getElem? (i := 180) rfl) rfl
set_option maxRecDepth 10000 in
theorem wd992 : (.selects RX11 yX11_bestWeight yX11_bestWeight : Cond) ∈ mTL := mtb4 (List.mem_of_getElem? (i := 181) rfl) rfl
set_option maxRecDepth 10000 in
theorem wd993 : (.code yX11_bestWeight cX11_bestWeight 7 (some .int) : Cond) ∈ mTL := mtb4 (List.mem_of_getElem? (i := 182) rfl) rfl
set_option maxRecDepth 10000 in
theorem wd994 : (.methodLink RX11 399 yX11_addErrsByWeight : Cond) ∈ mTL := mtb4 (List.mem_of_getElem? (i := 183) rfl) rfl
set_option maxRecDepth 10000 in
theorem wd996 : (.instanceMethod yX11_addErrsByWeight : Cond) ∈ mTL := mtb4 (List.mem_of_getElem? (i := 185) rfl) rfl
set_option maxRecDepth 10000 in
theorem wd997 : (.code yX11_addErrsByWeight cX11_addErrsByWeight 6 none : Cond) ∈ mTL := mtb4 (List.mem_of_getElem? (i := 186) rfl) rfl
set_option maxRecDepth 10000 in
theorem wd998 : (.methodLink RX11 402 yX11_apart : Cond) ∈ mTL := mtb4 (List.mem_of_getElem? (i := 187) rfl) rfl
set_option maxRecDepth 10000 in
theorem wd999 : (.methodLink RL 117 yX11_bestWire : Cond) ∈ mTL := mtb4 (List.mem_of_getElem? (i := 188) rfl) rfl
set_option maxRecDepth 10000 in
theorem wd1000 : (.instanceMethod yX11_bestWire : Cond) ∈ mTL := mtb4 (List.mem_of_getElem? (i := 189) rfl) rfl
set_option maxRecDepth 10000 in
theorem wd1001 : (.selects RX11 yX11_bestWire yX11_bestWire : Cond) ∈ mTL := mtb4 (List.mem_of_getElem? (i := 190) rfl) rfl
set_option maxRecDepth 10000 in
theorem wd1002 : (.code yX11_bestWire cX11_bestWire 9 (some .int) : Cond) ∈ mTL := mtb4 (List.mem_of_getElem? (i := 191) rfl) rfl
set_option maxRecDepth 10000 in
theorem wd1003 : (.methodLink RX11 405 yX11_errsWithout : Cond) ∈ mTL := mtb4 (List.mem_of_getElem? (i := 192) rfl) rfl
set_option maxRecDepth 10000 in
theorem wd1005 : (.instanceMethod yX11_errsWithout : Cond) ∈ mTL := mtb4 (List.mem_of_getElem? (i := 194) rfl) rfl
set_option maxRecDepth 10000 in
theorem wd1006 : (.code yX11_errsWithout cX11_errsWithout 2 (some .int) : Cond) ∈ mTL := mtb4 (List.mem_of_getElem? (i := 195) rfl) rfl
set_option maxRecDepth 10000 in
theorem wd1007 : (.methodLink RL 182 yX11_worstBird : Cond) ∈ mTL := mtb4 (List.mem_of_getElem? (i := 196) rfl) rfl
set_option maxRecDepth 10000 in
theorem wd1008 : (.instanceMethod yX11_worstBird : Cond) ∈ mTL := mtb4 (List.mem_of_getElem? (i := 197) rfl) rfl
set_option maxRecDepth 10000 in
theorem wd1009 : (.selects RX11 yX11_worstBird yX11_worstBird : Cond) ∈ mTL := mtb4 (List.mem_of_getElem? (i := 198) rfl) rfl
set_option maxRecDepth 10000 in
theorem wd1010 : (.code yX11_worstBird cX11_worstBird 5 (some .int) : Cond) ∈ mTL := mtb4 (List.mem_of_getElem? (i := 199) rfl) rfl
set_option maxRecDepth 10000 in
theorem wd1011 : (.methodLink RL 162 yX11_spread : Cond) ∈ mTL := mtb4 (List.mem_of_getElem? (i := 200) rfl) rfl
set_option maxRecDepth 10000 in
theorem wd1012 : (.instanceMethod yX11_spread : Cond) ∈ mTL := mtb4 (List.mem_of_getElem? (i := 201) rfl) rfl
set_option maxRecDepth 10000 in
theorem wd1013 : (.selects RX11 yX11_spread yX11_spread : Cond) ∈ mTL := mtb4 (List.mem_of_getElem? (i := 202) rfl) rfl
set_option maxRecDepth 10000 in
theorem wd1014 : (.code yX11_spread cX11_spread 5 (some .int) : Cond) ∈ mTL := mtb4 (List.mem_of_getElem? (i := 203) rfl) rfl
set_option maxRecDepth 10000 in
theorem wd1015 : (.methodLink RX11 408 yX11_movesToEven : Cond) ∈ mTL := mtb4 (List.mem_of_getElem? (i := 204) rfl) rfl
set_option maxRecDepth 10000 in
theorem wd1017 : (.instanceMethod yX11_movesToEven : Cond) ∈ mTL := mtb4 (List.mem_of_getElem? (i := 206) rfl) rfl
set_option maxRecDepth 10000 in
theorem wd1018 : (.code yX11_movesToEven cX11_movesToEven 4 (some .int) : Cond) ∈ mTL := mtb4 (List.mem_of_getElem? (i := 207) rfl) rfl
set_option maxRecDepth 10000 in
theorem wd1019 : (.methodLink RX11 411 yX11_movesToFill : Cond) ∈ mTL := mtb4 (List.mem_of_getElem? (i := 208) rfl) rfl
set_option maxRecDepth 10000 in
theorem wd1021 : (.instanceMethod yX11_movesToFill : Cond) ∈ mTL := mtb4 (List.mem_of_getElem? (i := 210) rfl) rfl
set_option maxRecDepth 10000 in
theorem wd1022 : (.code yX11_movesToFill cX11_movesToFill 6 (some .int) : Cond) ∈ mTL := mtb4 (List.mem_of_getElem? (i := 211) rfl) rfl
set_option maxRecDepth 10000 in
theorem wd1023 : (.methodLink RX11 414 Lib.Math.abs.name : Cond) ∈ mTL := mtb4 (List.mem_of_getElem? (i := 212) rfl) rfl
set_option maxRecDepth 10000 in
theorem wd1024 : (.methodLink RL 190 yX11_row : Cond) ∈ mTL := mtb4 (List.mem_of_getElem? (i := 213) rfl) rfl
set_option maxRecDepth 10000 in
theorem wd1025 : (.instanceMethod yX11_row : Cond) ∈ mTL := mtb4 (List.mem_of_getElem? (i := 214) rfl) rfl
set_option maxRecDepth 10000 in
theorem wd1026 : (.selects RX11 yX11_row yX11_row : Cond) ∈ mTL := mtb4 (List.mem_of_getElem? (i := 215) rfl) rfl
set_option maxRecDepth 10000 in
theorem wd1027 : (.code yX11_row cX11_row 3 (some .int) : Cond) ∈ mTL := mtb4 (List.mem_of_getElem? (i := 216) rfl) rfl
set_option maxRecDepth 10000 in
theorem wd1028 : (.methodLink RX11 417 yX9_put : Cond) ∈ mTL := mtb4 (List.mem_of_getElem? (i := 217) rfl) rfl
set_option maxRecDepth 10000 in
theorem wd1029 : (.instanceMethod yX9_put : Cond) ∈ mTL := mtb4 (List.mem_of_getElem? (i := 218) rfl) rfl
set_option maxRecDepth 10000 in
theorem wd1030 : (.selects RX9 yX9_put yX9_put : Cond) ∈ mTL := mtb4 (List.mem_of_getElem? (i := 219) rfl) rfl
set_option maxRecDepth 10000 in
theorem wd1031 : (.code yX9_put cX9_put 2 (some .int) : Cond) ∈ mTL := mtb4 (List.mem_of_getElem? (i := 220) rfl) rfl
set_option maxRecDepth 10000 in
theorem wd1032 : (.methodLink RL 194 yX11_judge : Cond) ∈ mTL := mtb4 (List.mem_of_getElem? (i := 221) rfl) rfl
set_option maxRecDepth 10000 in
theorem wd1033 : (.instanceMethod yX11_judge : Cond) ∈ mTL := mtb4 (List.mem_of_getElem? (i := 222) rfl) rfl
set_option maxRecDepth 10000 in
theorem wd1034 : (.selects RX11 yX11_judge yX11_judge : Cond) ∈ mTL := mtb4 (List.mem_of_getElem? (i := 223) rfl) rfl
set_option maxRecDepth 10000 in
theorem wd1035 : (.code yX11_judge cX11_judge 2 (some .int) : Cond) ∈ mTL := mtb4 (List.mem_of_getElem? (i := 224) rfl) rfl
set_option maxRecDepth 10000 in
theorem wd1036 : (.methodLink RL 198 yX11_clear : Cond) ∈ mTL := mtb4 (List.mem_of_getElem? (i := 225) rfl) rfl
set_option maxRecDepth 10000 in
theorem wd1037 : (.instanceMethod yX11_clear : Cond) ∈ mTL := mtb4 (List.mem_of_getElem? (i := 226) rfl) rfl
set_option maxRecDepth 10000 in
theorem wd1038 : (.selects RX11 yX11_clear yX11_clear : Cond) ∈ mTL := mtb4 (List.mem_of_getElem? (i := 227) rfl) rfl
set_option maxRecDepth 10000 in
theorem wd1039 : (.code yX11_clear cX11_clear 2 (some .int) : Cond) ∈ mTL := mtb4 (List.mem_of_getElem? (i := 228) rfl) rfl
set_option maxRecDepth 10000 in
theorem wd1040 : (.methodLink RL 142 yX11_winter : Cond) ∈ mTL := mtb4 (List.mem_of_getElem? (i := 229) rfl) rfl
set_option maxRecDepth 10000 in
theorem wd1041 : (.instanceMethod yX11_winter : Cond) ∈ mTL := mtb4 (List.mem_of_getElem? (i := 230) rfl) rfl
set_option maxRecDepth 10000 in
theorem wd1042 : (.selects RX11 yX11_winter yX11_winter : Cond) ∈ mTL := mtb4 (List.mem_of_getElem? (i := 231) rfl) rfl
set_option maxRecDepth 10000 in
theorem wd1043 : (.code yX11_winter cX11_winter 4 (some .int) : Cond) ∈ mTL := mtb4 (List.mem_of_getElem? (i := 232) rfl) rfl
set_option maxRecDepth 10000 in
theorem wd1044 : (.methodLink RX11 418 yX9_agree : Cond) ∈ mTL := mtb4 (List.mem_of_getElem? (i := 233) rfl) rfl
set_option maxRecDepth 10000 in
theorem wd1045 : (.instanceMethod yX9_agree : Cond) ∈ mTL := mtb4 (List.mem_of_getElem? (i := 234) rfl) rfl
set_option maxRecDepth 10000 in
theorem wd1046 : (.selects RX9 yX9_agree yX9_agree : Cond) ∈ mTL := mtb4 (List.mem_of_getElem? (i := 235) rfl) rfl
set_option maxRecDepth 10000 in
theorem wd1047 : (.code yX9_agree cX9_agree 3 (some .int) : Cond) ∈ mTL := mtb4 (List.mem_of_getElem? (i := 236) rfl) rfl
set_option maxRecDepth 10000 in
theorem wd1048 : (.methodLink RX9 31 yX9_thinkOver : Cond) ∈ mTL := mtb4 (List.mem_of_getElem? (i := 237) rfl) rfl
set_option maxRecDepth 10000 in
theorem wd1050 : (.instanceMethod yX9_thinkOver : Cond) ∈ mTL := mtb4 (List.mem_of_getElem? (i := 239) rfl) rfl
set_option maxRecDepth 10000 in
theorem wd1051 : (.code yX9_thinkOver cX9_thinkOver 5 (some .boolean) : Cond) ∈ mTL := mtb5 (List.mem_of_getElem? (i := 0) rfl) rfl
set_option maxRecDepth 10000 in
theorem wd1052 : (.methodLink RX9 41 yX9_middle : Cond) ∈ mTL := mtb5 (List.mem_of_getElem? (i := 1) rfl) rfl
set_option maxRecDepth 10000 in
theorem wd1053 : (.static yX9_middle : Cond) ∈ mTL := mtb5 (List.mem_of_getElem? (i := 2) rfl) rfl
set_option maxRecDepth 10000 in
theorem wd1054 : (.code yX9_middle cX9_middle 3 (some .int) : Cond) ∈ mTL := mtb5 (List.mem_of_getElem? (i := 3) rfl) rfl
set_option maxRecDepth 10000 in
theorem wd1055 : (.methodLink RX9 45 Lib.Math.min.name : Cond) ∈ mTL := mtb5 (List.mem_of_getElem? (i := 4) rfl) rfl
set_option maxRecDepth 10000 in
theorem wd1056 : (.methodLink RX9 35 arraycopyName : Cond) ∈ mTL := mtb5 (List.mem_of_getElem? (i := 5) rfl) rfl
set_option maxRecDepth 10000 in
theorem wd1057 : (.methodLink RX11 421 yX9_unlikeThoughts : Cond) ∈ mTL := mtb5 (List.mem_of_getElem? (i := 6) rfl) rfl
set_option maxRecDepth 10000 in
theorem wd1058 : (.instanceMethod yX9_unlikeThoughts : Cond) ∈ mTL := mtb5 (List.mem_of_getElem? (i := 7) rfl) rfl
set_option maxRecDepth 10000 in
theorem wd1059 : (.selects RX9 yX9_unlikeThoughts yX9_unlikeThoughts : Cond) ∈ mTL := mtb5 (List.mem_of_getElem? (i := 8) rfl) rfl
set_option maxRecDepth 10000 in
theorem wd1060 : (.code yX9_unlikeThoughts cX9_unlikeThoughts 3 (some .int) : Cond) ∈ mTL := mtb5 (List.mem_of_getElem? (i := 9) rfl) rfl
set_option maxRecDepth 10000 in
theorem wd1061 : (.methodLink RX9 48 yJ6_bitCount_0f7a4 : Cond) ∈ mTL := mtb5 (List.mem_of_getElem? (i := 10) rfl) rfl
set_option maxRecDepth 10000 in
theorem wd1062 : (.methodLink RL 206 yX11_image : Cond) ∈ mTL := mtb5 (List.mem_of_getElem? (i := 11) rfl) rfl
set_option maxRecDepth 10000 in
theorem wd1063 : (.instanceMethod yX11_image : Cond) ∈ mTL := mtb5 (List.mem_of_getElem? (i := 12) rfl) rfl
set_option maxRecDepth 10000 in
theorem wd1064 : (.selects RX11 yX11_image yX11_image : Cond) ∈ mTL := mtb5 (List.mem_of_getElem? (i := 13) rfl) rfl
set_option maxRecDepth 10000 in
theorem wd1065 : (.code yX11_image cX11_image 1 (some .int) : Cond) ∈ mTL := mtb5 (List.mem_of_getElem? (i := 14) rfl) rfl
set_option maxRecDepth 10000 in
theorem wd1066 : (.methodLink RL 210 yX11_restore : Cond) ∈ mTL := mtb5 (List.mem_of_getElem? (i := 15) rfl) rfl
set_option maxRecDepth 10000 in
theorem wd1067 : (.instanceMethod yX11_restore : Cond) ∈ mTL := mtb5 (List.mem_of_getElem? (i := 16) rfl) rfl
set_option maxRecDepth 10000 in
theorem wd1068 : (.selects RX11 yX11_restore yX11_restore : Cond) ∈ mTL := mtb5 (List.mem_of_getElem? (i := 17) rfl) rfl
set_option maxRecDepth 10000 in
theorem wd1069 : (.code yX11_restore cX11_restore 1 (some .int) : Cond) ∈ mTL := mtb5 (List.mem_of_getElem? (i := 18) rfl) rfl
set_option maxRecDepth 10000 in
theorem wd1070 : (.methodLink RL 214 yX11_count : Cond) ∈ mTL := mtb5 (List.mem_of_getElem? (i := 19) rfl) rfl
set_option maxRecDepth 10000 in
theorem wd1071 : (.instanceMethod yX11_count : Cond) ∈ mTL := mtb5 (List.mem_of_getElem? (i := 20) rfl) rfl
set_option maxRecDepth 10000 in
theorem wd1072 : (.selects RX11 yX11_count yX11_count : Cond) ∈ mTL := mtb5 (List.mem_of_getElem? (i := 21) rfl) rfl
set_option maxRecDepth 10000 in
theorem wd1073 : (.code yX11_count cX11_count 2 (some .int) : Cond) ∈ mTL := mtb5 (List.mem_of_getElem? (i := 22) rfl) rfl
set_option maxRecDepth 10000 in
theorem wd1074 : (.classLink RL 10 RX12 : Cond) ∈ mTL := mtb5 (List.mem_of_getElem? (i := 23) rfl) rfl
set_option maxRecDepth 10000 in
theorem wd1075 : (.instantiable RX12 33 : Cond) ∈ mTL := mtb5 (List.mem_of_getElem? (i := 24) rfl) rfl
set_option maxRecDepth 10000 in
theorem wd1076 : (.methodLink RL 12 yX12_init : Cond) ∈ mTL := mtb5 (List.mem_of_getElem? (i := 25) rfl) rfl
set_option maxRecDepth 10000 in
theorem wd1077 : (.instanceMethod yX12_init : Cond) ∈ mTL := mtb5 (List.mem_of_getElem? (i := 26) rfl) rfl
set_option maxRecDepth 10000 in
theorem wd1078 : (.code yX12_init cX12_init 2 none : Cond) ∈ mTL := mtb5 (List.mem_of_getElem? (i := 27) rfl) rfl
set_option maxRecDepth 10000 in
theorem wd1079 : (.methodLink RX12 1 Lib.objectInit : Cond) ∈ mTL := mtb5 (List.mem_of_getElem? (i := 28) rfl) rfl
set_option maxRecDepth 10000 in
theorem wd1080 : (.fieldLink RX12 7 RX12 "refused" "[I" : Cond) ∈ mTL := mtb5 (List.mem_of_getElem? (i := 29) rfl) rfl
set_option maxRecDepth 10000 in
theorem wd1081 : (.fieldLink RX12 13 RX12 "weight" "[I" : Cond) ∈ mTL := mtb5 (List.mem_of_getElem? (i := 30) rfl) rfl
set_option maxRecDepth 10000 in
theorem wd1082 : (.fieldLink RX12 16 RX12 "kind" "[I" : Cond) ∈ mTL := mtb5 (List.mem_of_getElem? (i := 31) rfl) rfl
set_option maxRecDepth 10000 in
theorem wd1083 : (.fieldLink RX12 19 RX12 "figure" "[I" : Cond) ∈ mTL := mtb5 (List.mem_of_getElem? (i := 32) rfl) rfl
set_option maxRecDepth 10000 in
theorem wd1084 : (.fieldLink RX12 22 RX12 "sits" "[I" : Cond) ∈ mTL := mtb5 (List.mem_of_getElem? (i := 33) rfl) rfl
set_option maxRecDepth 10000 in
theorem wd1085 : (.fieldLink RX12 80 RX12 "birds" "I" : Cond) ∈ mTL := mtb5 (List.mem_of_getElem? (i := 34) rfl) rfl
set_option maxRecDepth 10000 in
theorem wd1086 : (.fieldLink RX12 76 RX12 "wires" "I" : Cond) ∈ mTL := mtb5 (List.mem_of_getElem? (i := 35) rfl) rfl
set_option maxRecDepth 10000 in
theorem wd1087 : (.fieldLink RX12 91 RX12 "hour" "I" : Cond) ∈ mTL := mtb5 (List.mem_of_getElem? (i := 36) rfl) rfl
set_option maxRecDepth 10000 in
theorem wd1088 : (.fieldLink RX12 25 RX12 "tape" "[I" : Cond) ∈ mTL := mtb5 (List.mem_of_getElem? (i := 37) rfl) rfl
set_option maxRecDepth 10000 in
theorem wd1089 : (.fieldLink RX12 28 RX12 "letter" "[I" : Cond) ∈ mTL := mtb5 (List.mem_of_getElem? (i := 38) rfl) rfl
set_option maxRecDepth 10000 in
theorem wd1090 : (.fieldLink RX12 31 RX12 "letterAt" "[I" : Cond) ∈ mTL := mtb5 (List.mem_of_getElem? (i := 39) rfl) rfl
set_option maxRecDepth 10000 in
theorem wd1091 : (.fieldLink RX12 34 RX12 "told" "[I" : Cond) ∈ mTL := mtb5 (List.mem_of_getElem? (i := 40) rfl) rfl
set_option maxRecDepth 10000 in
theorem wd1092 : (.fieldLink RX12 98 RX12 "taped" "I" : Cond) ∈ mTL := mtb5 (List.mem_of_getElem? (i := 41) rfl) rfl
set_option maxRecDepth 10000 in
theorem wd1093 : (.fieldLink RX12 104 RX12 "at" "I" : Cond) ∈ mTL := mtb5 (List.mem_of_getElem? (i := 42) rfl) rfl
set_option maxRecDepth 10000 in
theorem wd1094 : (.fieldLink RX12 118 RX12 "statements" "I" : Cond) ∈ mTL := mtb5 (List.mem_of_getElem? (i := 43) rfl) rfl
set_option maxRecDepth 10000 in
theorem wd1095 : (.fieldLink RX12 37 RX12 "kept" "[I" : Cond) ∈ mTL := mtb5 (List.mem_of_getElem? (i := 44) rfl) rfl
set_option maxRecDepth 10000 in
theorem wd1096 : (.fieldLink RX12 183 RX12 "hasImage" "Z" : Cond) ∈ mTL := mtb5 (List.mem_of_getElem? (i := 45) rfl) rfl
set_option maxRecDepth 10000 in
theorem wd1097 : (.fieldLink RX12 169 RX12 "isKeeping" "Z" : Cond) ∈ mTL := mtb5 (List.mem_of_getElem? (i := 46) rfl) rfl
set_option maxRecDepth 10000 in
theorem wd1098 : (.fieldLink RX12 173 RX12 "cursor" "I" : Cond) ∈ mTL := mtb5 (List.mem_of_getElem? (i := 47) rfl) rfl
set_option maxRecDepth 10000 in
theorem wd1099 : (.fieldLink RX12 166 RX12 "backs" "I" : Cond) ∈ mTL := mtb5 (List.mem_of_getElem? (i := 48) rfl) rfl
set_option maxRecDepth 10000 in
theorem wd1100 : (.fieldLink RX12 40 RX12 "shownAt" "[I" : Cond) ∈ mTL := mtb5 (List.mem_of_getElem? (i := 49) rfl) rfl
set_option maxRecDepth 10000 in
theorem wd1101 : (.fieldLink RX12 43 RX12 "wrongAt" "[I" : Cond) ∈ mTL := mtb5 (List.mem_of_getElem? (i := 50) rfl) rfl
set_option maxRecDepth 10000 in
theorem wd1102 : (.fieldLink RX12 46 RX12 "goneIn" "[I" : Cond) ∈ mTL := mtb5 (List.mem_of_getElem? (i := 51) rfl) rfl
set_option maxRecDepth 10000 in
theorem wd1103 : (.fieldLink RX12 49 RX12 "way" "[I" : Cond) ∈ mTL := mtb5 (List.mem_of_getElem? (i := 52) rfl) rfl
set_option maxRecDepth 10000 in
theorem wd1104 : (.fieldLink RX12 52 RX12 "found" "[I" : Cond) ∈ mTL := mtb5 (List.mem_of_getElem? (i := 53) rfl) rfl
set_option maxRecDepth 10000 in
theorem wd1105 : (.fieldLink RX12 55 RX12 "row" "[I" : Cond) ∈ mTL := mtb5 (List.mem_of_getElem? (i := 54) rfl) rfl
set_option maxRecDepth 10000 in
theorem wd1106 : (.fieldLink RX12 266 RX12 "rowMany" "I" : Cond) ∈ mTL := mtb5 (List.mem_of_getElem? (i := 55) rfl) rfl
set_option maxRecDepth 10000 in
theorem wd1107 : (.fieldLink RX12 58 RX12 "shownBy" "[I" : Cond) ∈ mTL := mtb5 (List.mem_of_getElem? (i := 56) rfl) rfl
set_option maxRecDepth 10000 in
theorem wd1108 : (.fieldLink RX12 61 RX12 "sitWays" "[I" : Cond) ∈ mTL := mtb5 (List.mem_of_getElem? (i := 57) rfl) rfl
set_option maxRecDepth 10000 in
theorem wd1109 : (.fieldLink RX12 64 RX12 "sitNext" "[I" : Cond) ∈ mTL := mtb5 (List.mem_of_getElem? (i := 58) rfl) rfl
set_option maxRecDepth 10000 in
theorem wd1110 : (.fieldLink RX12 67 RX12 "thinksIt" "[I" : Cond) ∈ mTL := mtb5 (List.mem_of_getElem? (i := 59) rfl) rfl
set_option maxRecDepth 10000 in
theorem wd1111 : (.fieldLink RX12 70 RX12 "thought" "[I" : Cond) ∈ mTL := mtb5 (List.mem_of_getElem? (i := 60) rfl) rfl
set_option maxRecDepth 10000 in
theorem wd1112 : (.fieldLink RX12 73 RX12 "satAt" "[I" : Cond) ∈ mTL := mtb5 (List.mem_of_getElem? (i := 61) rfl) rfl
set_option maxRecDepth 10000 in
theorem wd1113 : (.laysFinal RX12 RX12 "refused" "[I" : Cond) ∈ mTL := mtb5 (List.mem_of_getElem? (i := 62) rfl) rfl
set_option maxRecDepth 10000 in
theorem wd1115 : (.laysFinal RX12 RX12 "weight" "[I" : Cond) ∈ mTL := mtb5 (List.mem_of_getElem? (i := 64) rfl) rfl
set_option maxRecDepth 10000 in
theorem wd1117 : (.laysFinal RX12 RX12 "kind" "[I" : Cond) ∈ mTL := mtb5 (List.mem_of_getElem? (i := 66) rfl) rfl
set_option maxRecDepth 10000 in
theorem wd1119 : (.laysFinal RX12 RX12 "figure" "[I" : Cond) ∈ mTL := mtb5 (List.mem_of_getElem? (i := 68) rfl) rfl
set_option maxRecDepth 10000 in
theorem wd1121 : (.laysFinal RX12 RX12 "sits" "[I" : Cond) ∈ mTL := mtb5 (List.mem_of_getElem? (i := 70) rfl) rfl
set_option maxRecDepth 10000 in
theorem wd1123 : (.lays RX12 RX12 "birds" "I" : Cond) ∈ mTL := mtb5 (List.mem_of_getElem? (i := 72) rfl) rfl
set_option maxRecDepth 10000 in
theorem wd1125 : (.lays RX12 RX12 "wires" "I" : Cond) ∈ mTL := mtb5 (List.mem_of_getElem? (i := 74) rfl) rfl
set_option maxRecDepth 10000 in
theorem wd1127 : (.lays RX12 RX12 "hour" "I" : Cond) ∈ mTL := mtb5 (List.mem_of_getElem? (i := 76) rfl) rfl
set_option maxRecDepth 10000 in
theorem wd1129 : (.laysFinal RX12 RX12 "tape" "[I" : Cond) ∈ mTL := mtb5 (List.mem_of_getElem? (i := 78) rfl) rfl
set_option maxRecDepth 10000 in
theorem wd1131 : (.laysFinal RX12 RX12 "letter" "[I" : Cond) ∈ mTL := mtb5 (List.mem_of_getElem? (i := 80) rfl) rfl
set_option maxRecDepth 10000 in
theorem wd1133 : (.laysFinal RX12 RX12 "letterAt" "[I" : Cond) ∈ mTL := mtb5 (List.mem_of_getElem? (i := 82) rfl) rfl
set_option maxRecDepth 10000 in
theorem wd1135 : (.laysFinal RX12 RX12 "told" "[I" : Cond) ∈ mTL := mtb5 (List.mem_of_getElem? (i := 84) rfl) rfl
set_option maxRecDepth 10000 in
theorem wd1137 : (.lays RX12 RX12 "taped" "I" : Cond) ∈ mTL := mtb5 (List.mem_of_getElem? (i := 86) rfl) rfl
set_option maxRecDepth 10000 in
theorem wd1139 : (.lays RX12 RX12 "at" "I" : Cond) ∈ mTL := mtb5 (List.mem_of_getElem? (i := 88) rfl) rfl
set_option maxRecDepth 10000 in
theorem wd1141 : (.lays RX12 RX12 "statements" "I" : Cond) ∈ mTL := mtb5 (List.mem_of_getElem? (i := 90) rfl) rfl
set_option maxRecDepth 10000 in
theorem wd1143 : (.laysFinal RX12 RX12 "kept" "[I" : Cond) ∈ mTL := mtb5 (List.mem_of_getElem? (i := 92) rfl) rfl
set_option maxRecDepth 10000 in
theorem wd1145 : (.lays RX12 RX12 "hasImage" "Z" : Cond) ∈ mTL := mtb5 (List.mem_of_getElem? (i := 94) rfl) rfl
set_option maxRecDepth 10000 in
theorem wd1147 : (.lays RX12 RX12 "isKeeping" "Z" : Cond) ∈ mTL := mtb5 (List.mem_of_getElem? (i := 96) rfl) rfl
set_option maxRecDepth 10000 in
theorem wd1149 : (.lays RX12 RX12 "cursor" "I" : Cond) ∈ mTL := mtb5 (List.mem_of_getElem? (i := 98) rfl) rfl
set_option maxRecDepth 10000 in
theorem wd1151 : (.lays RX12 RX12 "backs" "I" : Cond) ∈ mTL := mtb5 (List.mem_of_getElem? (i := 100) rfl) rfl
set_option maxRecDepth 10000 in
theorem wd1153 : (.laysFinal RX12 RX12 "shownAt" "[I" : Cond) ∈ mTL := mtb5 (List.mem_of_getElem? (i := 102) rfl) rfl
set_option maxRecDepth 10000 in
theorem wd1155 : (.laysFinal RX12 RX12 "wrongAt" "[I" : Cond) ∈ mTL := mtb5 (List.mem_of_getElem? (i := 104) rfl) rfl
set_option maxRecDepth 10000 in
theorem wd1157 : (.laysFinal RX12 RX12 "goneIn" "[I" : Cond) ∈ mTL := mtb5 (List.mem_of_getElem? (i := 106) rfl) rfl
set_option maxRecDepth 10000 in
theorem wd1159 : (.laysFinal RX12 RX12 "way" "[I" : Cond) ∈ mTL := mtb5 (List.mem_of_getElem? (i := 108) rfl) rfl
set_option maxRecDepth 10000 in
theorem wd1161 : (.laysFinal RX12 RX12 "found" "[I" : Cond) ∈ mTL := mtb5 (List.mem_of_getElem? (i := 110) rfl) rfl
set_option maxRecDepth 10000 in
theorem wd1163 : (.laysFinal RX12 RX12 "row" "[I" : Cond) ∈ mTL := mtb5 (List.mem_of_getElem? (i := 112) rfl) rfl
set_option maxRecDepth 10000 in
theorem wd1165 : (.lays RX12 RX12 "rowMany" "I" : Cond) ∈ mTL := mtb5 (List.mem_of_getElem? (i := 114) rfl) rfl
set_option maxRecDepth 10000 in
theorem wd1167 : (.laysFinal RX12 RX12 "shownBy" "[I" : Cond) ∈ mTL := mtb5 (List.mem_of_getElem? (i := 116) rfl) rfl
set_option maxRecDepth 10000 in
theorem wd1169 : (.laysFinal RX12 RX12 "sitWays" "[I" : Cond) ∈ mTL := mtb5 (List.mem_of_getElem? (i := 118) rfl) rfl
set_option maxRecDepth 10000 in
theorem wd1171 : (.laysFinal RX12 RX12 "sitNext" "[I" : Cond) ∈ mTL := mtb5 (List.mem_of_getElem? (i := 120) rfl) rfl
set_option maxRecDepth 10000 in
theorem wd1173 : (.laysFinal RX12 RX12 "thinksIt" "[I" : Cond) ∈ mTL := mtb5 (List.mem_of_getElem? (i := 122) rfl) rfl
set_option maxRecDepth 10000 in
theorem wd1175 : (.laysFinal RX12 RX12 "thought" "[I" : Cond) ∈ mTL := mtb5 (List.mem_of_getElem? (i := 124) rfl) rfl
set_option maxRecDepth 10000 in
theorem wd1177 : (.laysFinal RX12 RX12 "satAt" "[I" : Cond) ∈ mTL := mtb5 (List.mem_of_getElem? (i := 126) rfl) rfl
set_option maxRecDepth 10000 in
theorem wd1180 : (.methodLink RL 17 yX12_feed : Cond) ∈ mTL := mtb5 (List.mem_of_getElem? (i := 129) rfl) rfl
set_option maxRecDepth 10000 in
theorem wd1181 : (.instanceMethod yX12_feed : Cond) ∈ mTL := mtb5 (List.mem_of_getElem? (i := 130) rfl) rfl
set_option maxRecDepth 10000 in
theorem wd1182 : (.selects RX12 yX12_feed yX12_feed : Cond) ∈ mTL := mtb5 (List.mem_of_getElem? (i := 131) rfl) rfl
set_option maxRecDepth 10000 in
theorem wd1183 : (.code yX12_feed cX12_feed 3 (some .int) : Cond) ∈ mTL := mtb5 (List.mem_of_getElem? (i := 132) rfl) rfl
set_option maxRecDepth 10000 in
theorem wd1184 : (.methodLink RX12 94 yX12_bound : Cond) ∈ mTL := mtb5 (List.mem_of_getElem? (i := 133) rfl) rfl
set_option maxRecDepth 10000 in
theorem wd1185 : (.static yX12_bound : Cond) ∈ mTL := mtb5 (List.mem_of_getElem? (i := 134) rfl) rfl
set_option maxRecDepth 10000 in
theorem wd1186 : (.code yX12_bound cX12_bound 3 (some .int) : Cond) ∈ mTL := mtb5 (List.mem_of_getElem? (i := 135) rfl) rfl
set_option maxRecDepth 10000 in
theorem wd1187 : (.methodLink RX12 101 yX12_no : Cond) ∈ mTL := mtb5 (List.mem_of_getElem? (i := 136) rfl) rfl
set_option maxRecDepth 10000 in
theorem wd1189 : (.instanceMethod yX12_no : Cond) ∈ mTL := mtb5 (List.mem_of_getElem? (i := 138) rfl) rfl
set_option maxRecDepth 10000 in
theorem wd1190 : (.code yX12_no cX12_no 2 (some .int) : Cond) ∈ mTL := mtb5 (List.mem_of_getElem? (i := 139) rfl) rfl
set_option maxRecDepth 10000 in
theorem wd1191 : (.methodLink RL 22 yX12_town : Cond) ∈ mTL := mtb5 (List.mem_of_getElem? (i := 140) rfl) rfl
set_option maxRecDepth 10000 in
theorem wd1192 : (.instanceMethod yX12_town : Cond) ∈ mTL := mtb5 (List.mem_of_getElem? (i := 141) rfl) rfl
set_option maxRecDepth 10000 in
theorem wd1193 : (.selects RX12 yX12_town yX12_town : Cond) ∈ mTL := mtb5 (List.mem_of_getElem? (i := 142) rfl) rfl
set_option maxRecDepth 10000 in
theorem wd1194 : (.code yX12_town cX12_town 3 (some .int) : Cond) ∈ mTL := mtb5 (List.mem_of_getElem? (i := 143) rfl) rfl
set_option maxRecDepth 10000 in
theorem wd1195 : (.methodLink RX12 155 yX12_statement : Cond) ∈ mTL := mtb5 (List.mem_of_getElem? (i := 144) rfl) rfl
set_option maxRecDepth 10000 in
theorem wd1197 : (.instanceMethod yX12_statement : Cond) ∈ mTL := mtb5 (List.mem_of_getElem? (i := 146) rfl) rfl
set_option maxRecDepth 10000 in
theorem wd1198 : (.code yX12_statement cX12_statement 2 (some .boolean) : Cond) ∈ mTL := mtb5 (List.mem_of_getElem? (i := 147) rfl) rfl
set_option maxRecDepth 10000 in
theorem wd1199 : (.methodLink RX12 107 yX12_next : Cond) ∈ mTL := mtb5 (List.mem_of_getElem? (i := 148) rfl) rfl
set_option maxRecDepth 10000 in
theorem wd1201 : (.instanceMethod yX12_next : Cond) ∈ mTL := mtb5 (List.mem_of_getElem? (i := 150) rfl) rfl
set_option maxRecDepth 10000 in
theorem wd1202 : (.code yX12_next cX12_next 1 (some .int) : Cond) ∈ mTL := mtb5 (List.mem_of_getElem? (i := 151) rfl) rfl
set_option maxRecDepth 10000 in
theorem wd1203 : (.methodLink RX12 121 yX12_readsAll : Cond) ∈ mTL := mtb5 (List.mem_of_getElem? (i := 152) rfl) rfl
set_option maxRecDepth 10000 in
theorem wd1205 : (.instanceMethod yX12_readsAll : Cond) ∈ mTL := mtb5 (List.mem_of_getElem? (i := 154) rfl) rfl
set_option maxRecDepth 10000 in
theorem wd1206 : (.code yX12_readsAll cX12_readsAll 3 (some .boolean) : Cond) ∈ mTL := mtb5 (List.mem_of_getElem? (i := 155) rfl) rfl
set_option maxRecDepth 10000 in
theorem wd1207 : (.methodLink RX12 114 yX12_readsDigits : Cond) ∈ mTL := mtb5 (List.mem_of_getElem? (i := 156) rfl) rfl
set_option maxRecDepth 10000 in
theorem wd1209 : (.instanceMethod yX12_readsDigits : Cond) ∈ mTL := mtb5 (List.mem_of_getElem? (i := 158) rfl) rfl
set_option maxRecDepth 10000 in
theorem wd1210 : (.code yX12_readsDigits cX12_readsDigits 5 (some .boolean) : Cond) ∈ mTL := mtb5 (List.mem_of_getElem? (i := 159) rfl) rfl
set_option maxRecDepth 10000 in
theorem wd1211 : (.methodLink RX12 110 yX12_isIn : Cond) ∈ mTL := mtb5 (List.mem_of_getElem? (i := 160) rfl) rfl
set_option maxRecDepth 10000 in
theorem wd1212 : (.static yX12_isIn : Cond) ∈ mTL := mtb5 (List.mem_of_getElem? (i := 161) rfl) rfl
set_option maxRecDepth 10000 in
theorem wd1213 : (.code yX12_isIn cX12_isIn 3 (some .boolean) : Cond) ∈ mTL := mtb5 (List.mem_of_getElem? (i := 162) rfl) rfl
set_option maxRecDepth 10000 in
theorem wd1214 : (.methodLink RX12 159 yX12_passesAll : Cond) ∈ mTL := mtb5 (List.mem_of_getElem? (i := 163) rfl) rfl
set_option maxRecDepth 10000 in
theorem wd1216 : (.instanceMethod yX12_passesAll : Cond) ∈ mTL := mtb5 (List.mem_of_getElem? (i := 165) rfl) rfl
set_option maxRecDepth 10000 in
theorem wd1217 : (.code yX12_passesAll cX12_passesAll 3 none : Cond) ∈ mTL := mtb5 (List.mem_of_getElem? (i := 166) rfl) rfl
set_option maxRecDepth 10000 in
theorem wd1218 : (.methodLink RX12 176 yX12_passes : Cond) ∈ mTL := mtb5 (List.mem_of_getElem? (i := 167) rfl) rfl
set_option maxRecDepth 10000 in
theorem wd1220 : (.instanceMethod yX12_passes : Cond) ∈ mTL := mtb5 (List.mem_of_getElem? (i := 169) rfl) rfl
set_option maxRecDepth 10000 in
theorem wd1221 : (.code yX12_passes cX12_passes 3 none : Cond) ∈ mTL := mtb5 (List.mem_of_getElem? (i := 170) rfl) rfl
set_option maxRecDepth 10000 in
theorem wd1222 : (.methodLink RX12 180 yX12_passOne : Cond) ∈ mTL := mtb5 (List.mem_of_getElem? (i := 171) rfl) rfl
set_option maxRecDepth 10000 in
theorem wd1224 : (.instanceMethod yX12_passOne : Cond) ∈ mTL := mtb5 (List.mem_of_getElem? (i := 173) rfl) rfl
set_option maxRecDepth 10000 in
theorem wd1225 : (.code yX12_passOne cX12_passOne 3 (some .int) : Cond) ∈ mTL := mtb5 (List.mem_of_getElem? (i := 174) rfl) rfl
set_option maxRecDepth 10000 in
theorem wd1226 : (.methodLink RX12 163 yX12_comes : Cond) ∈ mTL := mtb5 (List.mem_of_getElem? (i := 175) rfl) rfl
set_option maxRecDepth 10000 in
theorem wd1228 : (.instanceMethod yX12_comes : Cond) ∈ mTL := mtb5 (List.mem_of_getElem? (i := 177) rfl) rfl
set_option maxRecDepth 10000 in
theorem wd1229 : (.code yX12_comes cX12_comes 3 (some .boolean) : Cond) ∈ mTL := mtb5 (List.mem_of_getElem? (i := 178) rfl) rfl
set_option maxRecDepth 10000 in
theorem wd1230 : (.methodLink RX12 139 yX12_comesBird : Cond) ∈ mTL := mtb5 (List.mem_of_getElem? (i := 179) rfl) rfl
set_option maxRecDepth 10000 in
theorem wd1232 : (.instanceMethod yX12_comesBird : Cond) ∈ mTL := mtb5 (List.mem_of_getElem? (i := 181) rfl) rfl
set_option maxRecDepth 10000 in
theorem wd1233 : (.code yX12_comesBird cX12_comesBird 2 (some .boolean) : Cond) ∈ mTL := mtb5 (List.mem_of_getElem? (i := 182) rfl) rfl
set_option maxRecDepth 10000 in
theorem wd1234 : (.methodLink RX12 124 yX12_isWire : Cond) ∈ mTL := mtb5 (List.mem_of_getElem? (i := 183) rfl) rfl
set_option maxRecDepth 10000 in
theorem wd1236 : (.instanceMethod yX12_isWire : Cond) ∈ mTL := mtb5 (List.mem_of_getElem? (i := 185) rfl) rfl
set_option maxRecDepth 10000 in
theorem wd1237 : (.code yX12_isWire cX12_isWire 2 (some .boolean) : Cond) ∈ mTL := mtb5 (List.mem_of_getElem? (i := 186) rfl) rfl
set_option maxRecDepth 10000 in
theorem wd1238 : (.methodLink RX12 128 yX12_hasRoom : Cond) ∈ mTL := mtb5 (List.mem_of_getElem? (i := 187) rfl) rfl
set_option maxRecDepth 10000 in
theorem wd1240 : (.instanceMethod yX12_hasRoom : Cond) ∈ mTL := mtb5 (List.mem_of_getElem? (i := 189) rfl) rfl
set_option maxRecDepth 10000 in
theorem wd1241 : (.code yX12_hasRoom cX12_hasRoom 2 (some .boolean) : Cond) ∈ mTL := mtb5 (List.mem_of_getElem? (i := 190) rfl) rfl
set_option maxRecDepth 10000 in
theorem wd1242 : (.methodLink RX12 83 yX12_manyOn : Cond) ∈ mTL := mtb5 (List.mem_of_getElem? (i := 191) rfl) rfl
set_option maxRecDepth 10000 in
theorem wd1244 : (.instanceMethod yX12_manyOn : Cond) ∈ mTL := mtb5 (List.mem_of_getElem? (i := 193) rfl) rfl
set_option maxRecDepth 10000 in
theorem wd1245 : (.code yX12_manyOn cX12_manyOn 4 (some .int) : Cond) ∈ mTL := mtb5 (List.mem_of_getElem? (i := 194) rfl) rfl
set_option maxRecDepth 10000 in
theorem wd1246 : (.methodLink RX12 131 yX12_adds : Cond) ∈ mTL := mtb5 (List.mem_of_getElem? (i := 195) rfl) rfl
set_option maxRecDepth 10000 in
theorem wd1248 : (.instanceMethod yX12_adds : Cond) ∈ mTL := mtb5 (List.mem_of_getElem? (i := 197) rfl) rfl
set_option maxRecDepth 10000 in
theorem wd1249 : (.code yX12_adds cX12_adds 4 none : Cond) ∈ mTL := mtb5 (List.mem_of_getElem? (i := 198) rfl) rfl
set_option maxRecDepth 10000 in
theorem wd1250 : (.methodLink RX12 142 yX12_comesHours : Cond) ∈ mTL := mtb5 (List.mem_of_getElem? (i := 199) rfl) rfl
set_option maxRecDepth 10000 in
theorem wd1252 : (.instanceMethod yX12_comesHours : Cond) ∈ mTL := mtb5 (List.mem_of_getElem? (i := 201) rfl) rfl
set_option maxRecDepth 10000 in
theorem wd1253 : (.code yX12_comesHours cX12_comesHours 3 (some .boolean) : Cond) ∈ mTL := mtb5 (List.mem_of_getElem? (i := 202) rfl) rfl
set_option maxRecDepth 10000 in
theorem wd1254 : (.methodLink RX12 135 yX12_goes : Cond) ∈ mTL := mtb5 (List.mem_of_getElem? (i := 203) rfl) rfl
set_option maxRecDepth 10000 in
theorem wd1256 : (.instanceMethod yX12_goes : Cond) ∈ mTL := mtb5 (List.mem_of_getElem? (i := 205) rfl) rfl
set_option maxRecDepth 10000 in
theorem wd1257 : (.code yX12_goes cX12_goes 4 none : Cond) ∈ mTL := mtb5 (List.mem_of_getElem? (i := 206) rfl) rfl
set_option maxRecDepth 10000 in
theorem wd1258 : (.methodLink RX12 205 yX12_goesOne : Cond) ∈ mTL := mtb5 (List.mem_of_getElem? (i := 207) rfl) rfl
set_option maxRecDepth 10000 in
theorem wd1260 : (.instanceMethod yX12_goesOne : Cond) ∈ mTL := mtb5 (List.mem_of_getElem? (i := 209) rfl) rfl
set_option maxRecDepth 10000 in
theorem wd1261 : (.code yX12_goesOne cX12_goesOne 5 (some .int) : Cond) ∈ mTL := mtb5 (List.mem_of_getElem? (i := 210) rfl) rfl
set_option maxRecDepth 10000 in
theorem wd1262 : (.methodLink RX12 202 yX12_wants : Cond) ∈ mTL := mtb5 (List.mem_of_getElem? (i := 211) rfl) rfl
set_option maxRecDepth 10000 in
theorem wd1264 : (.instanceMethod yX12_wants : Cond) ∈ mTL := mtb5 (List.mem_of_getElem? (i := 213) rfl) rfl
set_option maxRecDepth 10000 in
theorem wd1265 : (.code yX12_wants cX12_wants 3 (some .int) : Cond) ∈ mTL := mtb5 (List.mem_of_getElem? (i := 214) rfl) rfl
set_option maxRecDepth 10000 in
theorem wd1266 : (.methodLink RX12 193 yX12_wantsYoung : Cond) ∈ mTL := mtb5 (List.mem_of_getElem? (i := 215) rfl) rfl
set_option maxRecDepth 10000 in
theorem wd1268 : (.instanceMethod yX12_wantsYoung : Cond) ∈ mTL := mtb5 (List.mem_of_getElem? (i := 217) rfl) rfl
set_option maxRecDepth 10000 in
theorem wd1269 : (.code yX12_wantsYoung cX12_wantsYoung 4 (some .int) : Cond) ∈ mTL := mtb5 (List.mem_of_getElem? (i := 218) rfl) rfl
set_option maxRecDepth 10000 in
theorem wd1270 : (.methodLink RX12 186 yX12_nearer : Cond) ∈ mTL := mtb5 (List.mem_of_getElem? (i := 219) rfl) rfl
set_option maxRecDepth 10000 in
theorem wd1271 : (.static yX12_nearer : Cond) ∈ mTL := mtb5 (List.mem_of_getElem? (i := 220) rfl) rfl
set_option maxRecDepth 10000 in
theorem wd1272 : (.code yX12_nearer cX12_nearer 2 (some .int) : Cond) ∈ mTL := mtb5 (List.mem_of_getElem? (i := 221) rfl) rfl
set_option maxRecDepth 10000 in
theorem wd1273 : (.methodLink RX12 196 yX12_wantsOld : Cond) ∈ mTL := mtb5 (List.mem_of_getElem? (i := 222) rfl) rfl
set_option maxRecDepth 10000 in
theorem wd1275 : (.instanceMethod yX12_wantsOld : Cond) ∈ mTL := mtb5 (List.mem_of_getElem? (i := 224) rfl) rfl
set_option maxRecDepth 10000 in
theorem wd1276 : (.code yX12_wantsOld cX12_wantsOld 3 (some .int) : Cond) ∈ mTL := mtb5 (List.mem_of_getElem? (i := 225) rfl) rfl
set_option maxRecDepth 10000 in
theorem wd1277 : (.methodLink RX12 190 yX12_far : Cond) ∈ mTL := mtb5 (List.mem_of_getElem? (i := 226) rfl) rfl
set_option maxRecDepth 10000 in
theorem wd1278 : (.static yX12_far : Cond) ∈ mTL := mtb5 (List.mem_of_getElem? (i := 227) rfl) rfl
set_option maxRecDepth 10000 in
theorem wd1279 : (.code yX12_far cX12_far 2 (some .int) : Cond) ∈ mTL := mtb5 (List.mem_of_getElem? (i := 228) rfl) rfl
set_option maxRecDepth 10000 in
theorem wd1280 : (.methodLink RX12 199 yX12_lesser : Cond) ∈ mTL := mtb5 (List.mem_of_getElem? (i := 229) rfl) rfl
set_option maxRecDepth 10000 in
theorem wd1281 : (.static yX12_lesser : Cond) ∈ mTL := mtb5 (List.mem_of_getElem? (i := 230) rfl) rfl
set_option maxRecDepth 10000 in
theorem wd1282 : (.code yX12_lesser cX12_lesser 2 (some .int) : Cond) ∈ mTL := mtb5 (List.mem_of_getElem? (i := 231) rfl) rfl
set_option maxRecDepth 10000 in
theorem wd1283 : (.methodLink RX12 145 yX12_cats : Cond) ∈ mTL := mtb5 (List.mem_of_getElem? (i := 232) rfl) rfl
set_option maxRecDepth 10000 in
theorem wd1285 : (.instanceMethod yX12_cats : Cond) ∈ mTL := mtb5 (List.mem_of_getElem? (i := 234) rfl) rfl
set_option maxRecDepth 10000 in
theorem wd1286 : (.code yX12_cats cX12_cats 4 (some .int) : Cond) ∈ mTL := mtb5 (List.mem_of_getElem? (i := 235) rfl) rfl
set_option maxRecDepth 10000 in
theorem wd1287 : (.methodLink RX12 208 yX12_fromCat : Cond) ∈ mTL := mtb5 (List.mem_of_getElem? (i := 236) rfl) rfl
set_option maxRecDepth 10000 in
theorem wd1289 : (.instanceMethod yX12_fromCat : Cond) ∈ mTL := mtb5 (List.mem_of_getElem? (i := 238) rfl) rfl
set_option maxRecDepth 10000 in
theorem wd1290 : (.code yX12_fromCat cX12_fromCat 3 (some .int) : Cond) ∈ mTL := mtb5 (List.mem_of_getElem? (i := 239) rfl) rfl
set_option maxRecDepth 10000 in
theorem wd1291 : (.methodLink RX12 148 yX12_fliesTo : Cond) ∈ mTL := mtb6 (List.mem_of_getElem? (i := 0) rfl) rfl
set_option maxRecDepth 10000 in
theorem wd1293 : (.instanceMethod yX12_fliesTo : Cond) ∈ mTL := mtb6 (List.mem_of_getElem? (i := 2) rfl) rfl
set_option maxRecDepth 10000 in
theorem wd1294 : (.code yX12_fliesTo cX12_fliesTo 5 (some .int) : Cond) ∈ mTL := mtb6 (List.mem_of_getElem? (i := 3) rfl) rfl
set_option maxRecDepth 10000 in
theorem wd1295 : (.methodLink RX12 211 yX12_outermost : Cond) ∈ mTL := mtb6 (List.mem_of_getElem? (i := 4) rfl) rfl
set_option maxRecDepth 10000 in
theorem wd1297 : (.instanceMethod yX12_outermost : Cond) ∈ mTL := mtb6 (List.mem_of_getElem? (i := 6) rfl) rfl
set_option maxRecDepth 10000 in
theorem wd1298 : (.code yX12_outermost cX12_outermost 3 (some .int) : Cond) ∈ mTL := mtb6 (List.mem_of_getElem? (i := 7) rfl) rfl
set_option maxRecDepth 10000 in
theorem wd1299 : (.methodLink RX12 152 yX12_hangs : Cond) ∈ mTL := mtb6 (List.mem_of_getElem? (i := 8) rfl) rfl
set_option maxRecDepth 10000 in
theorem wd1301 : (.instanceMethod yX12_hangs : Cond) ∈ mTL := mtb6 (List.mem_of_getElem? (i := 10) rfl) rfl
set_option maxRecDepth 10000 in
theorem wd1302 : (.code yX12_hangs cX12_hangs 1 none : Cond) ∈ mTL := mtb6 (List.mem_of_getElem? (i := 11) rfl) rfl
set_option maxRecDepth 10000 in
theorem wd1303 : (.methodLink RL 64 yX12_back : Cond) ∈ mTL := mtb6 (List.mem_of_getElem? (i := 12) rfl) rfl
set_option maxRecDepth 10000 in
theorem wd1304 : (.instanceMethod yX12_back : Cond) ∈ mTL := mtb6 (List.mem_of_getElem? (i := 13) rfl) rfl
set_option maxRecDepth 10000 in
theorem wd1305 : (.selects RX12 yX12_back yX12_back : Cond) ∈ mTL := mtb6 (List.mem_of_getElem? (i := 14) rfl) rfl
set_option maxRecDepth 10000 in
theorem wd1306 : (.code yX12_back cX12_back 1 (some .int) : Cond) ∈ mTL := mtb6 (List.mem_of_getElem? (i := 15) rfl) rfl
set_option maxRecDepth 10000 in
theorem wd1307 : (.methodLink RL 209 yX12_image : Cond) ∈ mTL := mtb6 (List.mem_of_getElem? (i := 16) rfl) rfl
set_option maxRecDepth 10000 in
theorem wd1308 : (.instanceMethod yX12_image : Cond) ∈ mTL := mtb6 (List.mem_of_getElem? (i := 17) rfl) rfl
set_option maxRecDepth 10000 in
theorem wd1309 : (.selects RX12 yX12_image yX12_image : Cond) ∈ mTL := mtb6 (List.mem_of_getElem? (i := 18) rfl) rfl
set_option maxRecDepth 10000 in
theorem wd1310 : (.code yX12_image cX12_image 1 (some .int) : Cond) ∈ mTL := mtb6 (List.mem_of_getElem? (i := 19) rfl) rfl
set_option maxRecDepth 10000 in
theorem wd1311 : (.methodLink RL 213 yX12_restore : Cond) ∈ mTL := mtb6 (List.mem_of_getElem? (i := 20) rfl) rfl
set_option maxRecDepth 10000 in
theorem wd1312 : (.instanceMethod yX12_restore : Cond) ∈ mTL := mtb6 (List.mem_of_getElem? (i := 21) rfl) rfl
set_option maxRecDepth 10000 in
theorem wd1313 : (.selects RX12 yX12_restore yX12_restore : Cond) ∈ mTL := mtb6 (List.mem_of_getElem? (i := 22) rfl) rfl
set_option maxRecDepth 10000 in
theorem wd1314 : (.code yX12_restore cX12_restore 1 (some .int) : Cond) ∈ mTL := mtb6 (List.mem_of_getElem? (i := 23) rfl) rfl
set_option maxRecDepth 10000 in
theorem wd1315 : (.methodLink RL 27 yX12_bird : Cond) ∈ mTL := mtb6 (List.mem_of_getElem? (i := 24) rfl) rfl
set_option maxRecDepth 10000 in
theorem wd1316 : (.instanceMethod yX12_bird : Cond) ∈ mTL := mtb6 (List.mem_of_getElem? (i := 25) rfl) rfl
set_option maxRecDepth 10000 in
theorem wd1317 : (.selects RX12 yX12_bird yX12_bird : Cond) ∈ mTL := mtb6 (List.mem_of_getElem? (i := 26) rfl) rfl
set_option maxRecDepth 10000 in
theorem wd1318 : (.code yX12_bird cX12_bird 3 (some .int) : Cond) ∈ mTL := mtb6 (List.mem_of_getElem? (i := 27) rfl) rfl
set_option maxRecDepth 10000 in
theorem wd1319 : (.methodLink RX12 214 yX12_isBird : Cond) ∈ mTL := mtb6 (List.mem_of_getElem? (i := 28) rfl) rfl
set_option maxRecDepth 10000 in
theorem wd1321 : (.instanceMethod yX12_isBird : Cond) ∈ mTL := mtb6 (List.mem_of_getElem? (i := 30) rfl) rfl
set_option maxRecDepth 10000 in
theorem wd1322 : (.code yX12_isBird cX12_isBird 2 (some .boolean) : Cond) ∈ mTL := mtb6 (List.mem_of_getElem? (i := 31) rfl) rfl
set_option maxRecDepth 10000 in
theorem wd1323 : (.methodLink RL 32 yX12_comes_ : Cond) ∈ mTL := mtb6 (List.mem_of_getElem? (i := 32) rfl) rfl
set_option maxRecDepth 10000 in
theorem wd1324 : (.instanceMethod yX12_comes_ : Cond) ∈ mTL := mtb6 (List.mem_of_getElem? (i := 33) rfl) rfl
set_option maxRecDepth 10000 in
theorem wd1325 : (.selects RX12 yX12_comes_ yX12_comes_ : Cond) ∈ mTL := mtb6 (List.mem_of_getElem? (i := 34) rfl) rfl
set_option maxRecDepth 10000 in
theorem wd1326 : (.code yX12_comes_ cX12_comes_ 5 (some .int) : Cond) ∈ mTL := mtb6 (List.mem_of_getElem? (i := 35) rfl) rfl
set_option maxRecDepth 10000 in
theorem wd1327 : (.methodLink RL 36 yX12_wire : Cond) ∈ mTL := mtb6 (List.mem_of_getElem? (i := 36) rfl) rfl
set_option maxRecDepth 10000 in
theorem wd1328 : (.instanceMethod yX12_wire : Cond) ∈ mTL := mtb6 (List.mem_of_getElem? (i := 37) rfl) rfl
set_option maxRecDepth 10000 in
theorem wd1329 : (.selects RX12 yX12_wire yX12_wire : Cond) ∈ mTL := mtb6 (List.mem_of_getElem? (i := 38) rfl) rfl
set_option maxRecDepth 10000 in
theorem wd1330 : (.code yX12_wire cX12_wire 3 (some .int) : Cond) ∈ mTL := mtb6 (List.mem_of_getElem? (i := 39) rfl) rfl
set_option maxRecDepth 10000 in
theorem wd1331 : (.methodLink RL 40 yX12_weight : Cond) ∈ mTL := mtb6 (List.mem_of_getElem? (i := 40) rfl) rfl
set_option maxRecDepth 10000 in
theorem wd1332 : (.instanceMethod yX12_weight : Cond) ∈ mTL := mtb6 (List.mem_of_getElem? (i := 41) rfl) rfl
set_option maxRecDepth 10000 in
theorem wd1333 : (.selects RX12 yX12_weight yX12_weight : Cond) ∈ mTL := mtb6 (List.mem_of_getElem? (i := 42) rfl) rfl
set_option maxRecDepth 10000 in
theorem wd1334 : (.code yX12_weight cX12_weight 5 (some .int) : Cond) ∈ mTL := mtb6 (List.mem_of_getElem? (i := 43) rfl) rfl
set_option maxRecDepth 10000 in
theorem wd1335 : (.methodLink RL 44 yX12_sixth : Cond) ∈ mTL := mtb6 (List.mem_of_getElem? (i := 44) rfl) rfl
set_option maxRecDepth 10000 in
theorem wd1336 : (.instanceMethod yX12_sixth : Cond) ∈ mTL := mtb6 (List.mem_of_getElem? (i := 45) rfl) rfl
set_option maxRecDepth 10000 in
theorem wd1337 : (.selects RX12 yX12_sixth yX12_sixth : Cond) ∈ mTL := mtb6 (List.mem_of_getElem? (i := 46) rfl) rfl
set_option maxRecDepth 10000 in
theorem wd1338 : (.code yX12_sixth cX12_sixth 3 (some .int) : Cond) ∈ mTL := mtb6 (List.mem_of_getElem? (i := 47) rfl) rfl
set_option maxRecDepth 10000 in
theorem wd1339 : (.methodLink RL 48 yX12_feeds : Cond) ∈ mTL := mtb6 (List.mem_of_getElem? (i := 48) rfl) rfl
set_option maxRecDepth 10000 in
theorem wd1340 : (.instanceMethod yX12_feeds : Cond) ∈ mTL := mtb6 (List.mem_of_getElem? (i := 49) rfl) rfl
set_option maxRecDepth 10000 in
theorem wd1341 : (.selects RX12 yX12_feeds yX12_feeds : Cond) ∈ mTL := mtb6 (List.mem_of_getElem? (i := 50) rfl) rfl
set_option maxRecDepth 10000 in
theorem wd1342 : (.code yX12_feeds cX12_feeds 3 (some .int) : Cond) ∈ mTL := mtb6 (List.mem_of_getElem? (i := 51) rfl) rfl
set_option maxRecDepth 10000 in
theorem wd1343 : (.methodLink RX12 217 yX12_keepsBack : Cond) ∈ mTL := mtb6 (List.mem_of_getElem? (i := 52) rfl) rfl
set_option maxRecDepth 10000 in
theorem wd1345 : (.instanceMethod yX12_keepsBack : Cond) ∈ mTL := mtb6 (List.mem_of_getElem? (i := 54) rfl) rfl
set_option maxRecDepth 10000 in
theorem wd1346 : (.code yX12_keepsBack cX12_keepsBack 2 none : Cond) ∈ mTL := mtb6 (List.mem_of_getElem? (i := 55) rfl) rfl
set_option maxRecDepth 10000 in
theorem wd1347 : (.methodLink RX12 87 yX12_shown : Cond) ∈ mTL := mtb6 (List.mem_of_getElem? (i := 56) rfl) rfl
set_option maxRecDepth 10000 in
theorem wd1349 : (.instanceMethod yX12_shown : Cond) ∈ mTL := mtb6 (List.mem_of_getElem? (i := 58) rfl) rfl
set_option maxRecDepth 10000 in
theorem wd1350 : (.code yX12_shown cX12_shown 3 (some .int) : Cond) ∈ mTL := mtb6 (List.mem_of_getElem? (i := 59) rfl) rfl
set_option maxRecDepth 10000 in
theorem wd1351 : (.methodLink RL 52 yX12_cat : Cond) ∈ mTL := mtb6 (List.mem_of_getElem? (i := 60) rfl) rfl
set_option maxRecDepth 10000 in
theorem wd1352 : (.instanceMethod yX12_cat : Cond) ∈ mTL := mtb6 (List.mem_of_getElem? (i := 61) rfl) rfl
set_option maxRecDepth 10000 in
theorem wd1353 : (.selects RX12 yX12_cat yX12_cat : Cond) ∈ mTL := mtb6 (List.mem_of_getElem? (i := 62) rfl) rfl
set_option maxRecDepth 10000 in
theorem wd1354 : (.code yX12_cat cX12_cat 2 (some .int) : Cond) ∈ mTL := mtb6 (List.mem_of_getElem? (i := 63) rfl) rfl
set_option maxRecDepth 10000 in
theorem wd1355 : (.methodLink RL 56 yX12_hawk : Cond) ∈ mTL := mtb6 (List.mem_of_getElem? (i := 64) rfl) rfl
set_option maxRecDepth 10000 in
theorem wd1356 : (.instanceMethod yX12_hawk : Cond) ∈ mTL := mtb6 (List.mem_of_getElem? (i := 65) rfl) rfl
set_option maxRecDepth 10000 in
theorem wd1357 : (.selects RX12 yX12_hawk yX12_hawk : Cond) ∈ mTL := mtb6 (List.mem_of_getElem? (i := 66) rfl) rfl
set_option maxRecDepth 10000 in
theorem wd1358 : (.code yX12_hawk cX12_hawk 1 (some .int) : Cond) ∈ mTL := mtb6 (List.mem_of_getElem? (i := 67) rfl) rfl
set_option maxRecDepth 10000 in
theorem wd1359 : (.methodLink RL 60 yX12_rain : Cond) ∈ mTL := mtb6 (List.mem_of_getElem? (i := 68) rfl) rfl
set_option maxRecDepth 10000 in
theorem wd1360 : (.instanceMethod yX12_rain : Cond) ∈ mTL := mtb6 (List.mem_of_getElem? (i := 69) rfl) rfl
set_option maxRecDepth 10000 in
theorem wd1361 : (.selects RX12 yX12_rain yX12_rain : Cond) ∈ mTL := mtb6 (List.mem_of_getElem? (i := 70) rfl) rfl
set_option maxRecDepth 10000 in
theorem wd1362 : (.code yX12_rain cX12_rain 1 (some .int) : Cond) ∈ mTL := mtb6 (List.mem_of_getElem? (i := 71) rfl) rfl
set_option maxRecDepth 10000 in
theorem wd1363 : (.methodLink RL 68 yX12_behind : Cond) ∈ mTL := mtb6 (List.mem_of_getElem? (i := 72) rfl) rfl
set_option maxRecDepth 10000 in
theorem wd1364 : (.instanceMethod yX12_behind : Cond) ∈ mTL := mtb6 (List.mem_of_getElem? (i := 73) rfl) rfl
set_option maxRecDepth 10000 in
theorem wd1365 : (.selects RX12 yX12_behind yX12_behind : Cond) ∈ mTL := mtb6 (List.mem_of_getElem? (i := 74) rfl) rfl
set_option maxRecDepth 10000 in
theorem wd1366 : (.code yX12_behind cX12_behind 4 (some .int) : Cond) ∈ mTL := mtb6 (List.mem_of_getElem? (i := 75) rfl) rfl
set_option maxRecDepth 10000 in
theorem wd1367 : (.methodLink RX12 229 yX12_notHours : Cond) ∈ mTL := mtb6 (List.mem_of_getElem? (i := 76) rfl) rfl
set_option maxRecDepth 10000 in
theorem wd1368 : (.static yX12_notHours : Cond) ∈ mTL := mtb6 (List.mem_of_getElem? (i := 77) rfl) rfl
set_option maxRecDepth 10000 in
theorem wd1369 : (.code yX12_notHours cX12_notHours 1 (some .int) : Cond) ∈ mTL := mtb6 (List.mem_of_getElem? (i := 78) rfl) rfl
set_option maxRecDepth 10000 in
theorem wd1370 : (.methodLink RX12 232 yX12_findHours : Cond) ∈ mTL := mtb6 (List.mem_of_getElem? (i := 79) rfl) rfl
set_option maxRecDepth 10000 in
theorem wd1372 : (.instanceMethod yX12_findHours : Cond) ∈ mTL := mtb6 (List.mem_of_getElem? (i := 81) rfl) rfl
set_option maxRecDepth 10000 in
theorem wd1373 : (.code yX12_findHours cX12_findHours 3 none : Cond) ∈ mTL := mtb6 (List.mem_of_getElem? (i := 82) rfl) rfl
set_option maxRecDepth 10000 in
theorem wd1374 : (.methodLink RX12 220 yX12_thinks : Cond) ∈ mTL := mtb6 (List.mem_of_getElem? (i := 83) rfl) rfl
set_option maxRecDepth 10000 in
theorem wd1376 : (.instanceMethod yX12_thinks : Cond) ∈ mTL := mtb6 (List.mem_of_getElem? (i := 85) rfl) rfl
set_option maxRecDepth 10000 in
theorem wd1377 : (.code yX12_thinks cX12_thinks 1 none : Cond) ∈ mTL := mtb6 (List.mem_of_getElem? (i := 86) rfl) rfl
set_option maxRecDepth 10000 in
theorem wd1378 : (.methodLink RX12 223 yX12_wrong : Cond) ∈ mTL := mtb6 (List.mem_of_getElem? (i := 87) rfl) rfl
set_option maxRecDepth 10000 in
theorem wd1380 : (.instanceMethod yX12_wrong : Cond) ∈ mTL := mtb6 (List.mem_of_getElem? (i := 89) rfl) rfl
set_option maxRecDepth 10000 in
theorem wd1381 : (.code yX12_wrong cX12_wrong 2 (some .int) : Cond) ∈ mTL := mtb6 (List.mem_of_getElem? (i := 90) rfl) rfl
set_option maxRecDepth 10000 in
theorem wd1382 : (.methodLink RX12 226 yX12_forgets : Cond) ∈ mTL := mtb6 (List.mem_of_getElem? (i := 91) rfl) rfl
set_option maxRecDepth 10000 in
theorem wd1384 : (.instanceMethod yX12_forgets : Cond) ∈ mTL := mtb6 (List.mem_of_getElem? (i := 93) rfl) rfl
set_option maxRecDepth 10000 in
theorem wd1385 : (.code yX12_forgets cX12_forgets 1 none : Cond) ∈ mTL := mtb6 (List.mem_of_getElem? (i := 94) rfl) rfl
set_option maxRecDepth 10000 in
theorem wd1386 : (.methodLink RL 72 yX12_where : Cond) ∈ mTL := mtb6 (List.mem_of_getElem? (i := 95) rfl) rfl
set_option maxRecDepth 10000 in
theorem wd1387 : (.instanceMethod yX12_where : Cond) ∈ mTL := mtb6 (List.mem_of_getElem? (i := 96) rfl) rfl
set_option maxRecDepth 10000 in
theorem wd1388 : (.selects RX12 yX12_where yX12_where : Cond) ∈ mTL := mtb6 (List.mem_of_getElem? (i := 97) rfl) rfl
set_option maxRecDepth 10000 in
theorem wd1389 : (.code yX12_where cX12_where 5 (some .int) : Cond) ∈ mTL := mtb6 (List.mem_of_getElem? (i := 98) rfl) rfl
set_option maxRecDepth 10000 in
theorem wd1390 : (.methodLink RL 76 yX12_firstWrong : Cond) ∈ mTL := mtb6 (List.mem_of_getElem? (i := 99) rfl) rfl
set_option maxRecDepth 10000 in
theorem wd1391 : (.instanceMethod yX12_firstWrong : Cond) ∈ mTL := mtb6 (List.mem_of_getElem? (i := 100) rfl) rfl
set_option maxRecDepth 10000 in
theorem wd1392 : (.selects RX12 yX12_firstWrong yX12_firstWrong : Cond) ∈ mTL := mtb6 (List.mem_of_getElem? (i := 101) rfl) rfl
set_option maxRecDepth 10000 in
theorem wd1393 : (.code yX12_firstWrong cX12_firstWrong 2 (some .int) : Cond) ∈ mTL := mtb6 (List.mem_of_getElem? (i := 102) rfl) rfl
set_option maxRecDepth 10000 in
theorem wd1394 : (.methodLink RL 80 yX12_allWrong : Cond) ∈ mTL := mtb6 (List.mem_of_getElem? (i := 103) rfl) rfl
set_option maxRecDepth 10000 in
theorem wd1395 : (.instanceMethod yX12_allWrong : Cond) ∈ mTL := mtb6 (List.mem_of_getElem? (i := 104) rfl) rfl
set_option maxRecDepth 10000 in
theorem wd1396 : (.selects RX12 yX12_allWrong yX12_allWrong : Cond) ∈ mTL := mtb6 (List.mem_of_getElem? (i := 105) rfl) rfl
set_option maxRecDepth 10000 in
theorem wd1397 : (.code yX12_allWrong cX12_allWrong 3 (some .int) : Cond) ∈ mTL := mtb6 (List.mem_of_getElem? (i := 106) rfl) rfl
set_option maxRecDepth 10000 in
theorem wd1398 : (.methodLink RX12 236 yX12_wrongTo : Cond) ∈ mTL := mtb6 (List.mem_of_getElem? (i := 107) rfl) rfl
set_option maxRecDepth 10000 in
theorem wd1400 : (.instanceMethod yX12_wrongTo : Cond) ∈ mTL := mtb6 (List.mem_of_getElem? (i := 109) rfl) rfl
set_option maxRecDepth 10000 in
theorem wd1401 : (.code yX12_wrongTo cX12_wrongTo 4 (some .int) : Cond) ∈ mTL := mtb6 (List.mem_of_getElem? (i := 110) rfl) rfl
set_option maxRecDepth 10000 in
theorem wd1402 : (.methodLink RL 84 yX12_feeding : Cond) ∈ mTL := mtb6 (List.mem_of_getElem? (i := 111) rfl) rfl
set_option maxRecDepth 10000 in
theorem wd1403 : (.instanceMethod yX12_feeding : Cond) ∈ mTL := mtb6 (List.mem_of_getElem? (i := 112) rfl) rfl
set_option maxRecDepth 10000 in
theorem wd1404 : (.selects RX12 yX12_feeding yX12_feeding : Cond) ∈ mTL := mtb6 (List.mem_of_getElem? (i := 113) rfl) rfl
set_option maxRecDepth 10000 in
theorem wd1405 : (.code yX12_feeding cX12_feeding 6 (some .int) : Cond) ∈ mTL := mtb6 (List.mem_of_getElem? (i := 114) rfl) rfl
set_option maxRecDepth 10000 in
theorem wd1406 : (.methodLink RX12 245 yX12_waysOf : Cond) ∈ mTL := mtb6 (List.mem_of_getElem? (i := 115) rfl) rfl
set_option maxRecDepth 10000 in
theorem wd1408 : (.instanceMethod yX12_waysOf : Cond) ∈ mTL := mtb6 (List.mem_of_getElem? (i := 117) rfl) rfl
set_option maxRecDepth 10000 in
theorem wd1409 : (.code yX12_waysOf cX12_waysOf 4 (some .int) : Cond) ∈ mTL := mtb6 (List.mem_of_getElem? (i := 118) rfl) rfl
set_option maxRecDepth 10000 in
theorem wd1410 : (.methodLink RX12 248 yX12_laysWay : Cond) ∈ mTL := mtb6 (List.mem_of_getElem? (i := 119) rfl) rfl
set_option maxRecDepth 10000 in
theorem wd1412 : (.instanceMethod yX12_laysWay : Cond) ∈ mTL := mtb6 (List.mem_of_getElem? (i := 121) rfl) rfl
set_option maxRecDepth 10000 in
theorem wd1413 : (.code yX12_laysWay cX12_laysWay 5 none : Cond) ∈ mTL := mtb6 (List.mem_of_getElem? (i := 122) rfl) rfl
set_option maxRecDepth 10000 in
theorem wd1414 : (.methodLink RX12 251 yX12_fliesIn : Cond) ∈ mTL := mtb6 (List.mem_of_getElem? (i := 123) rfl) rfl
set_option maxRecDepth 10000 in
theorem wd1416 : (.instanceMethod yX12_fliesIn : Cond) ∈ mTL := mtb6 (List.mem_of_getElem? (i := 125) rfl) rfl
set_option maxRecDepth 10000 in
theorem wd1417 : (.code yX12_fliesIn cX12_fliesIn 4 (some .int) : Cond) ∈ mTL := mtb6 (List.mem_of_getElem? (i := 126) rfl) rfl
set_option maxRecDepth 10000 in
theorem wd1418 : (.methodLink RX12 254 yX12_goesAs : Cond) ∈ mTL := mtb6 (List.mem_of_getElem? (i := 127) rfl) rfl
set_option maxRecDepth 10000 in
theorem wd1420 : (.instanceMethod yX12_goesAs : Cond) ∈ mTL := mtb6 (List.mem_of_getElem? (i := 129) rfl) rfl
set_option maxRecDepth 10000 in
theorem wd1421 : (.code yX12_goesAs cX12_goesAs 5 (some .boolean) : Cond) ∈ mTL := mtb6 (List.mem_of_getElem? (i := 130) rfl) rfl
set_option maxRecDepth 10000 in
theorem wd1422 : (.methodLink RX12 239 yX12_chordNow : Cond) ∈ mTL := mtb6 (List.mem_of_getElem? (i := 131) rfl) rfl
set_option maxRecDepth 10000 in
theorem wd1424 : (.instanceMethod yX12_chordNow : Cond) ∈ mTL := mtb6 (List.mem_of_getElem? (i := 133) rfl) rfl
set_option maxRecDepth 10000 in
theorem wd1425 : (.code yX12_chordNow cX12_chordNow 3 (some .int) : Cond) ∈ mTL := mtb6 (List.mem_of_getElem? (i := 134) rfl) rfl
set_option maxRecDepth 10000 in
theorem wd1426 : (.methodLink RX12 242 yX12_tellsAs : Cond) ∈ mTL := mtb6 (List.mem_of_getElem? (i := 135) rfl) rfl
set_option maxRecDepth 10000 in
theorem wd1427 : (.static yX12_tellsAs : Cond) ∈ mTL := mtb6 (List.mem_of_getElem? (i := 136) rfl) rfl
set_option maxRecDepth 10000 in
theorem wd1428 : (.code yX12_tellsAs cX12_tellsAs 3 (some .int) : Cond) ∈ mTL := mtb6 (List.mem_of_getElem? (i := 137) rfl) rfl
set_option maxRecDepth 10000 in
theorem wd1429 : (.methodLink RX12 257 yX12_keepsWay : Cond) ∈ mTL := mtb6 (List.mem_of_getElem? (i := 138) rfl) rfl
set_option maxRecDepth 10000 in
theorem wd1431 : (.instanceMethod yX12_keepsWay : Cond) ∈ mTL := mtb6 (List.mem_of_getElem? (i := 140) rfl) rfl
set_option maxRecDepth 10000 in
theorem wd1432 : (.code yX12_keepsWay cX12_keepsWay 3 none : Cond) ∈ mTL := mtb6 (List.mem_of_getElem? (i := 141) rfl) rfl
set_option maxRecDepth 10000 in
theorem wd1433 : (.methodLink RL 88 yX12_closest : Cond) ∈ mTL := mtb6 (List.mem_of_getElem? (i := 142) rfl) rfl
set_option maxRecDepth 10000 in
theorem wd1434 : (.instanceMethod yX12_closest : Cond) ∈ mTL := mtb6 (List.mem_of_getElem? (i := 143) rfl) rfl
set_option maxRecDepth 10000 in
theorem wd1435 : (.selects RX12 yX12_closest yX12_closest : Cond) ∈ mTL := mtb6 (List.mem_of_getElem? (i := 144) rfl) rfl
set_option maxRecDepth 10000 in
theorem wd1436 : (.code yX12_closest cX12_closest 4 (some .int) : Cond) ∈ mTL := mtb6 (List.mem_of_getElem? (i := 145) rfl) rfl
set_option maxRecDepth 10000 in
theorem wd1437 : (.methodLink RX12 260 yX12_wrongBy : Cond) ∈ mTL := mtb6 (List.mem_of_getElem? (i := 146) rfl) rfl
set_option maxRecDepth 10000 in
theorem wd1439 : (.instanceMethod yX12_wrongBy : Cond) ∈ mTL := mtb6 (List.mem_of_getElem? (i := 148) rfl) rfl
set_option maxRecDepth 10000 in
theorem wd1440 : (.code yX12_wrongBy cX12_wrongBy 3 (some .int) : Cond) ∈ mTL := mtb6 (List.mem_of_getElem? (i := 149) rfl) rfl
set_option maxRecDepth 10000 in
theorem wd1441 : (.methodLink RL 92 yX12_highest : Cond) ∈ mTL := mtb6 (List.mem_of_getElem? (i := 150) rfl) rfl
set_option maxRecDepth 10000 in
theorem wd1442 : (.instanceMethod yX12_highest : Cond) ∈ mTL := mtb6 (List.mem_of_getElem? (i := 151) rfl) rfl
set_option maxRecDepth 10000 in
theorem wd1443 : (.selects RX12 yX12_highest yX12_highest : Cond) ∈ mTL := mtb6 (List.mem_of_getElem? (i := 152) rfl) rfl
set_option maxRecDepth 10000 in
theorem wd1444 : (.code yX12_highest cX12_highest 6 (some .int) : Cond) ∈ mTL := mtb6 (List.mem_of_getElem? (i := 153) rfl) rfl
set_option maxRecDepth 10000 in
theorem wd1445 : (.methodLink RL 96 yX12_happened : Cond) ∈ mTL := mtb6 (List.mem_of_getElem? (i := 154) rfl) rfl
set_option maxRecDepth 10000 in
theorem wd1446 : (.instanceMethod yX12_happened : Cond) ∈ mTL := mtb6 (List.mem_of_getElem? (i := 155) rfl) rfl
set_option maxRecDepth 10000 in
theorem wd1447 : (.selects RX12 yX12_happened yX12_happened : Cond) ∈ mTL := mtb6 (List.mem_of_getElem? (i := 156) rfl) rfl
set_option maxRecDepth 10000 in
theorem wd1448 : (.code yX12_happened cX12_happened 4 (some .int) : Cond) ∈ mTL := mtb6 (List.mem_of_getElem? (i := 157) rfl) rfl
set_option maxRecDepth 10000 in
theorem wd1449 : (.methodLink RX12 269 yX12_findThings : Cond) ∈ mTL := mtb6 (List.mem_of_getElem? (i := 158) rfl) rfl
set_option maxRecDepth 10000 in
theorem wd1451 : (.instanceMethod yX12_findThings : Cond) ∈ mTL := mtb6 (List.mem_of_getElem? (i := 160) rfl) rfl
set_option maxRecDepth 10000 in
theorem wd1452 : (.code yX12_findThings cX12_findThings 3 none : Cond) ∈ mTL := mtb6 (List.mem_of_getElem? (i := 161) rfl) rfl
set_option maxRecDepth 10000 in
theorem wd1453 : (.methodLink RX12 263 yX12_happens : Cond) ∈ mTL := mtb6 (List.mem_of_getElem? (i := 162) rfl) rfl
set_option maxRecDepth 10000 in
theorem wd1455 : (.instanceMethod yX12_happens : Cond) ∈ mTL := mtb6 (List.mem_of_getElem? (i := 164) rfl) rfl
set_option maxRecDepth 10000 in
theorem wd1456 : (.code yX12_happens cX12_happens 2 none : Cond) ∈ mTL := mtb6 (List.mem_of_getElem? (i := 165) rfl) rfl
set_option maxRecDepth 10000 in
theorem wd1457 : (.methodLink RL 100 yX12_tellsMost : Cond) ∈ mTL := mtb6 (List.mem_of_getElem? (i := 166) rfl) rfl
set_option maxRecDepth 10000 in
theorem wd1458 : (.instanceMethod yX12_tellsMost : Cond) ∈ mTL := mtb6 (List.mem_of_getElem? (i := 167) rfl) rfl
set_option maxRecDepth 10000 in
theorem wd1459 : (.selects RX12 yX12_tellsMost yX12_tellsMost : Cond) ∈ mTL := mtb6 (List.mem_of_getElem? (i := 168) rfl) rfl
set_option maxRecDepth 10000 in
theorem wd1460 : (.code yX12_tellsMost cX12_tellsMost 4 (some .int) : Cond) ∈ mTL := mtb6 (List.mem_of_getElem? (i := 169) rfl) rfl
set_option maxRecDepth 10000 in
theorem wd1461 : (.methodLink RX12 272 yX12_unlikeThings : Cond) ∈ mTL := mtb6 (List.mem_of_getElem? (i := 170) rfl) rfl
set_option maxRecDepth 10000 in
theorem wd1463 : (.instanceMethod yX12_unlikeThings : Cond) ∈ mTL := mtb6 (List.mem_of_getElem? (i := 172) rfl) rfl
set_option maxRecDepth 10000 in
theorem wd1464 : (.code yX12_unlikeThings cX12_unlikeThings 5 (some .int) : Cond) ∈ mTL := mtb6 (List.mem_of_getElem? (i := 173) rfl) rfl
set_option maxRecDepth 10000 in
theorem wd1465 : (.methodLink RL 104 yX12_mixed : Cond) ∈ mTL := mtb6 (List.mem_of_getElem? (i := 174) rfl) rfl
set_option maxRecDepth 10000 in
theorem wd1466 : (.instanceMethod yX12_mixed : Cond) ∈ mTL := mtb6 (List.mem_of_getElem? (i := 175) rfl) rfl
set_option maxRecDepth 10000 in
theorem wd1467 : (.selects RX12 yX12_mixed yX12_mixed : Cond) ∈ mTL := mtb6 (List.mem_of_getElem? (i := 176) rfl) rfl
set_option maxRecDepth 10000 in
theorem wd1468 : (.code yX12_mixed cX12_mixed 6 (some .int) : Cond) ∈ mTL := mtb6 (List.mem_of_getElem? (i := 177) rfl) rfl
set_option maxRecDepth 10000 in
theorem wd1469 : (.methodLink RX12 275 yX12_canMove : Cond) ∈ mTL := mtb6 (List.mem_of_getElem? (i := 178) rfl) rfl
set_option maxRecDepth 10000 in
theorem wd1471 : (.instanceMethod yX12_canMove : Cond) ∈ mTL := mtb6 (List.mem_of_getElem? (i := 180) rfl) rfl
set_option maxRecDepth 10000 in
theorem wd1472 : (.code yX12_canMove cX12_canMove 3 (some .boolean) : Cond) ∈ mTL := mtb6 (List.mem_of_getElem? (i := 181) rfl) rfl
set_option maxRecDepth 10000 in
theorem wd1473 : (.methodLink RL 108 yX12_near : Cond) ∈ mTL := mtb6 (List.mem_of_getElem? (i := 182) rfl) rfl
set_option maxRecDepth 10000 in
theorem wd1474 : (.instanceMethod yX12_near : Cond) ∈ mTL := mtb6 (List.mem_of_getElem? (i := 183) rfl) rfl
set_option maxRecDepth 10000 in
theorem wd1475 : (.selects RX12 yX12_near yX12_near : Cond) ∈ mTL := mtb6 (List.mem_of_getElem? (i := 184) rfl) rfl
set_option maxRecDepth 10000 in
theorem wd1476 : (.code yX12_near cX12_near 4 (some .int) : Cond) ∈ mTL := mtb6 (List.mem_of_getElem? (i := 185) rfl) rfl
set_option maxRecDepth 10000 in
theorem wd1477 : (.methodLink RX12 281 yX12_isNear : Cond) ∈ mTL := mtb6 (List.mem_of_getElem? (i := 186) rfl) rfl
set_option maxRecDepth 10000 in
theorem wd1479 : (.instanceMethod yX12_isNear : Cond) ∈ mTL := mtb6 (List.mem_of_getElem? (i := 188) rfl) rfl
set_option maxRecDepth 10000 in
theorem wd1480 : (.code yX12_isNear cX12_isNear 6 (some .boolean) : Cond) ∈ mTL := mtb6 (List.mem_of_getElem? (i := 189) rfl) rfl
set_option maxRecDepth 10000 in
theorem wd1481 : (.methodLink RX12 278 yX12_makesMoves : Cond) ∈ mTL := mtb6 (List.mem_of_getElem? (i := 190) rfl) rfl
set_option maxRecDepth 10000 in
theorem wd1483 : (.instanceMethod yX12_makesMoves : Cond) ∈ mTL := mtb6 (List.mem_of_getElem? (i := 192) rfl) rfl
set_option maxRecDepth 10000 in
theorem wd1484 : (.code yX12_makesMoves cX12_makesMoves 7 (some .boolean) : Cond) ∈ mTL := mtb6 (List.mem_of_getElem? (i := 193) rfl) rfl
set_option maxRecDepth 10000 in
theorem wd1485 : (.methodLink RL 112 yX12_read : Cond) ∈ mTL := mtb6 (List.mem_of_getElem? (i := 194) rfl) rfl
set_option maxRecDepth 10000 in
theorem wd1486 : (.instanceMethod yX12_read : Cond) ∈ mTL := mtb6 (List.mem_of_getElem? (i := 195) rfl) rfl
set_option maxRecDepth 10000 in
theorem wd1487 : (.selects RX12 yX12_read yX12_read : Cond) ∈ mTL := mtb6 (List.mem_of_getElem? (i := 196) rfl) rfl
set_option maxRecDepth 10000 in
theorem wd1488 : (.code yX12_read cX12_read 4 (some .int) : Cond) ∈ mTL := mtb6 (List.mem_of_getElem? (i := 197) rfl) rfl
set_option maxRecDepth 10000 in
theorem wd1489 : (.methodLink RX12 284 yX12_findSittings : Cond) ∈ mTL := mtb6 (List.mem_of_getElem? (i := 198) rfl) rfl
set_option maxRecDepth 10000 in
theorem wd1491 : (.instanceMethod yX12_findSittings : Cond) ∈ mTL := mtb6 (List.mem_of_getElem? (i := 200) rfl) rfl
set_option maxRecDepth 10000 in
theorem wd1492 : (.code yX12_findSittings cX12_findSittings 4 none : Cond) ∈ mTL := mtb6 (List.mem_of_getElem? (i := 201) rfl) rfl
set_option maxRecDepth 10000 in
theorem wd1493 : (.methodLink RL 116 yX12_bestWeight : Cond) ∈ mTL := mtb6 (List.mem_of_getElem? (i := 202) rfl) rfl
set_option maxRecDepth 10000 in
theorem wd1494 : (.instanceMethod yX12_bestWeight : Cond) ∈ mTL := mtb6 (List.mem_of_getElem? (i := 203) rfl) rfl
set_option maxRecDepth 10000 in
theorem wd1495 : (.selects RX12 yX12_bestWeight yX12_bestWeight : Cond) ∈ mTL := mtb6 (List.mem_of_getElem? (i := 204) rfl) rfl
set_option maxRecDepth 10000 in
theorem wd1496 : (.code yX12_bestWeight cX12_bestWeight 9 (some .int) : Cond) ∈ mTL := mtb6 (List.mem_of_getElem? (i := 205) rfl) rfl
set_option maxRecDepth 10000 in
theorem wd1497 : (.methodLink RL 120 yX12_bestWire : Cond) ∈ mTL := mtb6 (List.mem_of_getElem? (i := 206) rfl) rfl
set_option maxRecDepth 10000 in
theorem wd1498 : (.instanceMethod yX12_bestWire : Cond) ∈ mTL := mtb6 (List.mem_of_getElem? (i := 207) rfl) rfl
set_option maxRecDepth 10000 in
theorem wd1499 : (.selects RX12 yX12_bestWire yX12_bestWire : Cond) ∈ mTL := mtb6 (List.mem_of_getElem? (i := 208) rfl) rfl
set_option maxRecDepth 10000 in
theorem wd1500 : (.code yX12_bestWire cX12_bestWire 6 (some .int) : Cond) ∈ mTL := mtb6 (List.mem_of_getElem? (i := 209) rfl) rfl
set_option maxRecDepth 10000 in
theorem wd1501 : (.methodLink RX12 287 yX12_wrongOn : Cond) ∈ mTL := mtb6 (List.mem_of_getElem? (i := 210) rfl) rfl
set_option maxRecDepth 10000 in
theorem wd1503 : (.instanceMethod yX12_wrongOn : Cond) ∈ mTL := mtb6 (List.mem_of_getElem? (i := 212) rfl) rfl
set_option maxRecDepth 10000 in
theorem wd1504 : (.code yX12_wrongOn cX12_wrongOn 5 (some .int) : Cond) ∈ mTL := mtb6 (List.mem_of_getElem? (i := 213) rfl) rfl
set_option maxRecDepth 10000 in
theorem wd1505 : (.methodLink RL 124 yX12_chord : Cond) ∈ mTL := mtb6 (List.mem_of_getElem? (i := 214) rfl) rfl
set_option maxRecDepth 10000 in
theorem wd1506 : (.instanceMethod yX12_chord : Cond) ∈ mTL := mtb6 (List.mem_of_getElem? (i := 215) rfl) rfl
set_option maxRecDepth 10000 in
theorem wd1507 : (.selects RX12 yX12_chord yX12_chord : Cond) ∈ mTL := mtb6 (List.mem_of_getElem? (i := 216) rfl) rfl
set_option maxRecDepth 10000 in
theorem wd1508 : (.code yX12_chord cX12_chord 2 (some .int) : Cond) ∈ mTL := mtb6 (List.mem_of_getElem? (i := 217) rfl) rfl
set_option maxRecDepth 10000 in
theorem wd1509 : (.methodLink RX12 293 yX12_nextChords : Cond) ∈ mTL := mtb6 (List.mem_of_getElem? (i := 218) rfl) rfl
set_option maxRecDepth 10000 in
theorem wd1511 : (.instanceMethod yX12_nextChords : Cond) ∈ mTL := mtb6 (List.mem_of_getElem? (i := 220) rfl) rfl
set_option maxRecDepth 10000 in
theorem wd1512 : (.code yX12_nextChords cX12_nextChords 5 (some .int) : Cond) ∈ mTL := mtb6 (List.mem_of_getElem? (i := 221) rfl) rfl
set_option maxRecDepth 10000 in
theorem wd1513 : (.methodLink RX12 290 yX12_chordBy : Cond) ∈ mTL := mtb6 (List.mem_of_getElem? (i := 222) rfl) rfl
set_option maxRecDepth 10000 in
theorem wd1515 : (.instanceMethod yX12_chordBy : Cond) ∈ mTL := mtb6 (List.mem_of_getElem? (i := 224) rfl) rfl
set_option maxRecDepth 10000 in
theorem wd1516 : (.code yX12_chordBy cX12_chordBy 3 (some .int) : Cond) ∈ mTL := mtb6 (List.mem_of_getElem? (i := 225) rfl) rfl
set_option maxRecDepth 10000 in
theorem wd1517 : (.methodLink RL 128 yX12_plays : Cond) ∈ mTL := mtb6 (List.mem_of_getElem? (i := 226) rfl) rfl
set_option maxRecDepth 10000 in
theorem wd1518 : (.instanceMethod yX12_plays : Cond) ∈ mTL := mtb6 (List.mem_of_getElem? (i := 227) rfl) rfl
set_option maxRecDepth 10000 in
theorem wd1519 : (.selects RX12 yX12_plays yX12_plays : Cond) ∈ mTL := mtb6 (List.mem_of_getElem? (i := 228) rfl) rfl
set_option maxRecDepth 10000 in
theorem wd1520 : (.code yX12_plays cX12_plays 4 (some .int) : Cond) ∈ mTL := mtb6 (List.mem_of_getElem? (i := 229) rfl) rfl
set_option maxRecDepth 10000 in
theorem wd1521 : (.methodLink RX12 296 yX12_isRowUpTo : Cond) ∈ mTL := mtb6 (List.mem_of_getElem? (i := 230) rfl) rfl
set_option maxRecDepth 10000 in
theorem wd1523 : (.instanceMethod yX12_isRowUpTo : Cond) ∈ mTL := mtb6 (List.mem_of_getElem? (i := 232) rfl) rfl
set_option maxRecDepth 10000 in
theorem wd1524 : (.code yX12_isRowUpTo cX12_isRowUpTo 3 (some .boolean) : Cond) ∈ mTL := mtb6 (List.mem_of_getElem? (i := 233) rfl) rfl
set_option maxRecDepth 10000 in
theorem wd1525 : (.methodLink RL 133 yX12_trains : Cond) ∈ mTL := mtb6 (List.mem_of_getElem? (i := 234) rfl) rfl
set_option maxRecDepth 10000 in
theorem wd1526 : (.instanceMethod yX12_trains : Cond) ∈ mTL := mtb6 (List.mem_of_getElem? (i := 235) rfl) rfl
set_option maxRecDepth 10000 in
theorem wd1527 : (.selects RX12 yX12_trains yX12_trains : Cond) ∈ mTL := mtb6 (List.mem_of_getElem? (i := 236) rfl) rfl
set_option maxRecDepth 10000 in
theorem wd1528 : (.code yX12_trains cX12_trains 10 (some .int) : Cond) ∈ mTL := mtb6 (List.mem_of_getElem? (i := 237) rfl) rfl
set_option maxRecDepth 10000 in
theorem wd1529 : (.methodLink RX12 299 yX12_isTrain : Cond) ∈ mTL := mtb6 (List.mem_of_getElem? (i := 238) rfl) rfl
set_option maxRecDepth 10000 in
theorem wd1530 : (.static yX12_isTrain : Cond) ∈ mTL := mtb6 (List.mem_of_getElem? (i := 239) rfl) rfl
set_option maxRecDepth 10000 in
theorem wd1531 : (.code yX12_isTrain cX12_isTrain 3 (some .boolean) : Cond) ∈ mTL := mtb7 (List.mem_of_getElem? (i := 0) rfl) rfl
set_option maxRecDepth 10000 in
theorem wd1532 : (.methodLink RL 137 yX12_whoMoved : Cond) ∈ mTL := mtb7 (List.mem_of_getElem? (i := 1) rfl) rfl
set_option maxRecDepth 10000 in
theorem wd1533 : (.instanceMethod yX12_whoMoved : Cond) ∈ mTL := mtb7 (List.mem_of_getElem? (i := 2) rfl) rfl
set_option maxRecDepth 10000 in
theorem wd1534 : (.selects RX12 yX12_whoMoved yX12_whoMoved : Cond) ∈ mTL := mtb7 (List.mem_of_getElem? (i := 3) rfl) rfl
set_option maxRecDepth 10000 in
theorem wd1535 : (.code yX12_whoMoved cX12_whoMoved 8 (some .int) : Cond) ∈ mTL := mtb7 (List.mem_of_getElem? (i := 4) rfl) rfl
set_option maxRecDepth 10000 in
theorem wd1536 : (.methodLink RL 141 yX12_watch : Cond) ∈ mTL := mtb7 (List.mem_of_getElem? (i := 5) rfl) rfl
set_option maxRecDepth 10000 in
theorem wd1537 : (.instanceMethod yX12_watch : Cond) ∈ mTL := mtb7 (List.mem_of_getElem? (i := 6) rfl) rfl
set_option maxRecDepth 10000 in
theorem wd1538 : (.selects RX12 yX12_watch yX12_watch : Cond) ∈ mTL := mtb7 (List.mem_of_getElem? (i := 7) rfl) rfl
set_option maxRecDepth 10000 in
theorem wd1539 : (.code yX12_watch cX12_watch 5 (some .int) : Cond) ∈ mTL := mtb7 (List.mem_of_getElem? (i := 8) rfl) rfl
set_option maxRecDepth 10000 in
theorem wd1540 : (.methodLink RX12 305 yX12_mostAgainst : Cond) ∈ mTL := mtb7 (List.mem_of_getElem? (i := 9) rfl) rfl
set_option maxRecDepth 10000 in
theorem wd1542 : (.instanceMethod yX12_mostAgainst : Cond) ∈ mTL := mtb7 (List.mem_of_getElem? (i := 11) rfl) rfl
set_option maxRecDepth 10000 in
theorem wd1543 : (.code yX12_mostAgainst cX12_mostAgainst 4 (some .int) : Cond) ∈ mTL := mtb7 (List.mem_of_getElem? (i := 12) rfl) rfl
set_option maxRecDepth 10000 in
theorem wd1544 : (.methodLink RX12 302 yX12_watched : Cond) ∈ mTL := mtb7 (List.mem_of_getElem? (i := 13) rfl) rfl
set_option maxRecDepth 10000 in
theorem wd1546 : (.instanceMethod yX12_watched : Cond) ∈ mTL := mtb7 (List.mem_of_getElem? (i := 15) rfl) rfl
set_option maxRecDepth 10000 in
theorem wd1547 : (.code yX12_watched cX12_watched 3 (some .int) : Cond) ∈ mTL := mtb7 (List.mem_of_getElem? (i := 16) rfl) rfl
set_option maxRecDepth 10000 in
theorem wd1548 : (.methodLink RX12 308 yX12_leastAgainst : Cond) ∈ mTL := mtb7 (List.mem_of_getElem? (i := 17) rfl) rfl
set_option maxRecDepth 10000 in
theorem wd1550 : (.instanceMethod yX12_leastAgainst : Cond) ∈ mTL := mtb7 (List.mem_of_getElem? (i := 19) rfl) rfl
set_option maxRecDepth 10000 in
theorem wd1551 : (.code yX12_leastAgainst cX12_leastAgainst 4 (some .int) : Cond) ∈ mTL := mtb7 (List.mem_of_getElem? (i := 20) rfl) rfl
set_option maxRecDepth 10000 in
theorem wd1552 : (.methodLink RL 145 yX12_winter : Cond) ∈ mTL := mtb7 (List.mem_of_getElem? (i := 21) rfl) rfl
set_option maxRecDepth 10000 in
theorem wd1553 : (.instanceMethod yX12_winter : Cond) ∈ mTL := mtb7 (List.mem_of_getElem? (i := 22) rfl) rfl
set_option maxRecDepth 10000 in
theorem wd1554 : (.selects RX12 yX12_winter yX12_winter : Cond) ∈ mTL := mtb7 (List.mem_of_getElem? (i := 23) rfl) rfl
set_option maxRecDepth 10000 in
theorem wd1555 : (.code yX12_winter cX12_winter 7 (some .int) : Cond) ∈ mTL := mtb7 (List.mem_of_getElem? (i := 24) rfl) rfl
set_option maxRecDepth 10000 in
theorem wd1556 : (.methodLink RX12 314 yX12_thinksOn : Cond) ∈ mTL := mtb7 (List.mem_of_getElem? (i := 25) rfl) rfl
set_option maxRecDepth 10000 in
theorem wd1558 : (.instanceMethod yX12_thinksOn : Cond) ∈ mTL := mtb7 (List.mem_of_getElem? (i := 27) rfl) rfl
set_option maxRecDepth 10000 in
theorem wd1559 : (.code yX12_thinksOn cX12_thinksOn 3 (some .boolean) : Cond) ∈ mTL := mtb7 (List.mem_of_getElem? (i := 28) rfl) rfl
set_option maxRecDepth 10000 in
theorem wd1560 : (.methodLink RX12 311 yX12_middleOf : Cond) ∈ mTL := mtb7 (List.mem_of_getElem? (i := 29) rfl) rfl
set_option maxRecDepth 10000 in
theorem wd1561 : (.static yX12_middleOf : Cond) ∈ mTL := mtb7 (List.mem_of_getElem? (i := 30) rfl) rfl
set_option maxRecDepth 10000 in
theorem wd1562 : (.code yX12_middleOf cX12_middleOf 5 (some .int) : Cond) ∈ mTL := mtb7 (List.mem_of_getElem? (i := 31) rfl) rfl
set_option maxRecDepth 10000 in
theorem wd1563 : (.methodLink RL 149 yX12_settled : Cond) ∈ mTL := mtb7 (List.mem_of_getElem? (i := 32) rfl) rfl
set_option maxRecDepth 10000 in
theorem wd1564 : (.instanceMethod yX12_settled : Cond) ∈ mTL := mtb7 (List.mem_of_getElem? (i := 33) rfl) rfl
set_option maxRecDepth 10000 in
theorem wd1565 : (.selects RX12 yX12_settled yX12_settled : Cond) ∈ mTL := mtb7 (List.mem_of_getElem? (i := 34) rfl) rfl
set_option maxRecDepth 10000 in
theorem wd1566 : (.code yX12_settled cX12_settled 2 (some .int) : Cond) ∈ mTL := mtb7 (List.mem_of_getElem? (i := 35) rfl) rfl
set_option maxRecDepth 10000 in
theorem wd1567 : (.methodLink RL 153 yX12_round : Cond) ∈ mTL := mtb7 (List.mem_of_getElem? (i := 36) rfl) rfl
set_option maxRecDepth 10000 in
theorem wd1568 : (.instanceMethod yX12_round : Cond) ∈ mTL := mtb7 (List.mem_of_getElem? (i := 37) rfl) rfl
set_option maxRecDepth 10000 in
theorem wd1569 : (.selects RX12 yX12_round yX12_round : Cond) ∈ mTL := mtb7 (List.mem_of_getElem? (i := 38) rfl) rfl
set_option maxRecDepth 10000 in
theorem wd1570 : (.code yX12_round cX12_round 3 (some .int) : Cond) ∈ mTL := mtb7 (List.mem_of_getElem? (i := 39) rfl) rfl
set_option maxRecDepth 10000 in
theorem wd1571 : (.methodLink RX12 317 yX12_sitAsThen : Cond) ∈ mTL := mtb7 (List.mem_of_getElem? (i := 40) rfl) rfl
set_option maxRecDepth 10000 in
theorem wd1573 : (.instanceMethod yX12_sitAsThen : Cond) ∈ mTL := mtb7 (List.mem_of_getElem? (i := 42) rfl) rfl
set_option maxRecDepth 10000 in
theorem wd1574 : (.code yX12_sitAsThen cX12_sitAsThen 2 (some .boolean) : Cond) ∈ mTL := mtb7 (List.mem_of_getElem? (i := 43) rfl) rfl
set_option maxRecDepth 10000 in
theorem wd1575 : (.methodLink RL 157 yX12_always : Cond) ∈ mTL := mtb7 (List.mem_of_getElem? (i := 44) rfl) rfl
set_option maxRecDepth 10000 in
theorem wd1576 : (.instanceMethod yX12_always : Cond) ∈ mTL := mtb7 (List.mem_of_getElem? (i := 45) rfl) rfl
set_option maxRecDepth 10000 in
theorem wd1577 : (.selects RX12 yX12_always yX12_always : Cond) ∈ mTL := mtb7 (List.mem_of_getElem? (i := 46) rfl) rfl
set_option maxRecDepth 10000 in
theorem wd1578 : (.code yX12_always cX12_always 7 (some .int) : Cond) ∈ mTL := mtb7 (List.mem_of_getElem? (i := 47) rfl) rfl
set_option maxRecDepth 10000 in
theorem wd1579 : (.methodLink RL 161 yX12_catWorth : Cond) ∈ mTL := mtb7 (List.mem_of_getElem? (i := 48) rfl) rfl
set_option maxRecDepth 10000 in
theorem wd1580 : (.instanceMethod yX12_catWorth : Cond) ∈ mTL := mtb7 (List.mem_of_getElem? (i := 49) rfl) rfl
set_option maxRecDepth 10000 in
theorem wd1581 : (.selects RX12 yX12_catWorth yX12_catWorth : Cond) ∈ mTL := mtb7 (List.mem_of_getElem? (i := 50) rfl) rfl
set_option maxRecDepth 10000 in
theorem wd1582 : (.code yX12_catWorth cX12_catWorth 5 (some .int) : Cond) ∈ mTL := mtb7 (List.mem_of_getElem? (i := 51) rfl) rfl
set_option maxRecDepth 10000 in
theorem wd1583 : (.methodLink RL 165 yX12_spread : Cond) ∈ mTL := mtb7 (List.mem_of_getElem? (i := 52) rfl) rfl
set_option maxRecDepth 10000 in
theorem wd1584 : (.instanceMethod yX12_spread : Cond) ∈ mTL := mtb7 (List.mem_of_getElem? (i := 53) rfl) rfl
set_option maxRecDepth 10000 in
theorem wd1585 : (.selects RX12 yX12_spread yX12_spread : Cond) ∈ mTL := mtb7 (List.mem_of_getElem? (i := 54) rfl) rfl
set_option maxRecDepth 10000 in
theorem wd1586 : (.code yX12_spread cX12_spread 4 (some .int) : Cond) ∈ mTL := mtb7 (List.mem_of_getElem? (i := 55) rfl) rfl
set_option maxRecDepth 10000 in
theorem wd1587 : (.methodLink RX12 320 yX12_bits : Cond) ∈ mTL := mtb7 (List.mem_of_getElem? (i := 56) rfl) rfl
set_option maxRecDepth 10000 in
theorem wd1588 : (.static yX12_bits : Cond) ∈ mTL := mtb7 (List.mem_of_getElem? (i := 57) rfl) rfl
set_option maxRecDepth 10000 in
theorem wd1589 : (.code yX12_bits cX12_bits 3 (some .int) : Cond) ∈ mTL := mtb7 (List.mem_of_getElem? (i := 58) rfl) rfl
set_option maxRecDepth 10000 in
theorem wd1590 : (.methodLink RX12 326 yX12_evenBy : Cond) ∈ mTL := mtb7 (List.mem_of_getElem? (i := 59) rfl) rfl
set_option maxRecDepth 10000 in
theorem wd1592 : (.instanceMethod yX12_evenBy : Cond) ∈ mTL := mtb7 (List.mem_of_getElem? (i := 61) rfl) rfl
set_option maxRecDepth 10000 in
theorem wd1593 : (.code yX12_evenBy cX12_evenBy 3 (some .int) : Cond) ∈ mTL := mtb7 (List.mem_of_getElem? (i := 62) rfl) rfl
set_option maxRecDepth 10000 in
theorem wd1594 : (.methodLink RX12 323 yX12_movesTo : Cond) ∈ mTL := mtb7 (List.mem_of_getElem? (i := 63) rfl) rfl
set_option maxRecDepth 10000 in
theorem wd1596 : (.instanceMethod yX12_movesTo : Cond) ∈ mTL := mtb7 (List.mem_of_getElem? (i := 65) rfl) rfl
set_option maxRecDepth 10000 in
theorem wd1597 : (.code yX12_movesTo cX12_movesTo 5 (some .int) : Cond) ∈ mTL := mtb7 (List.mem_of_getElem? (i := 66) rfl) rfl
set_option maxRecDepth 10000 in
theorem wd1598 : (.methodLink RL 169 yX12_later : Cond) ∈ mTL := mtb7 (List.mem_of_getElem? (i := 67) rfl) rfl
set_option maxRecDepth 10000 in
theorem wd1599 : (.instanceMethod yX12_later : Cond) ∈ mTL := mtb7 (List.mem_of_getElem? (i := 68) rfl) rfl
set_option maxRecDepth 10000 in
theorem wd1600 : (.selects RX12 yX12_later yX12_later : Cond) ∈ mTL := mtb7 (List.mem_of_getElem? (i := 69) rfl) rfl
set_option maxRecDepth 10000 in
theorem wd1601 : (.code yX12_later cX12_later 5 (some .int) : Cond) ∈ mTL := mtb7 (List.mem_of_getElem? (i := 70) rfl) rfl
set_option maxRecDepth 10000 in
theorem wd1602 : (.methodLink RL 173 yX12_stayed : Cond) ∈ mTL := mtb7 (List.mem_of_getElem? (i := 71) rfl) rfl
set_option maxRecDepth 10000 in
theorem wd1603 : (.instanceMethod yX12_stayed : Cond) ∈ mTL := mtb7 (List.mem_of_getElem? (i := 72) rfl) rfl
set_option maxRecDepth 10000 in
theorem wd1604 : (.selects RX12 yX12_stayed yX12_stayed : Cond) ∈ mTL := mtb7 (List.mem_of_getElem? (i := 73) rfl) rfl
set_option maxRecDepth 10000 in
theorem wd1605 : (.code yX12_stayed cX12_stayed 5 (some .int) : Cond) ∈ mTL := mtb7 (List.mem_of_getElem? (i := 74) rfl) rfl
set_option maxRecDepth 10000 in
theorem wd1606 : (.methodLink RL 177 yX12_lured : Cond) ∈ mTL := mtb7 (List.mem_of_getElem? (i := 75) rfl) rfl
set_option maxRecDepth 10000 in
theorem wd1607 : (.instanceMethod yX12_lured : Cond) ∈ mTL := mtb7 (List.mem_of_getElem? (i := 76) rfl) rfl
set_option maxRecDepth 10000 in
theorem wd1608 : (.selects RX12 yX12_lured yX12_lured : Cond) ∈ mTL := mtb7 (List.mem_of_getElem? (i := 77) rfl) rfl
set_option maxRecDepth 10000 in
theorem wd1609 : (.code yX12_lured cX12_lured 6 (some .int) : Cond) ∈ mTL := mtb7 (List.mem_of_getElem? (i := 78) rfl) rfl
set_option maxRecDepth 10000 in
theorem wd1610 : (.methodLink RX12 332 yX12_hoursTill : Cond) ∈ mTL := mtb7 (List.mem_of_getElem? (i := 79) rfl) rfl
set_option maxRecDepth 10000 in
theorem wd1612 : (.instanceMethod yX12_hoursTill : Cond) ∈ mTL := mtb7 (List.mem_of_getElem? (i := 81) rfl) rfl
set_option maxRecDepth 10000 in
theorem wd1613 : (.code yX12_hoursTill cX12_hoursTill 5 (some .int) : Cond) ∈ mTL := mtb7 (List.mem_of_getElem? (i := 82) rfl) rfl
set_option maxRecDepth 10000 in
theorem wd1614 : (.methodLink RX12 329 yX12_endsAs : Cond) ∈ mTL := mtb7 (List.mem_of_getElem? (i := 83) rfl) rfl
set_option maxRecDepth 10000 in
theorem wd1616 : (.instanceMethod yX12_endsAs : Cond) ∈ mTL := mtb7 (List.mem_of_getElem? (i := 85) rfl) rfl
set_option maxRecDepth 10000 in
theorem wd1617 : (.code yX12_endsAs cX12_endsAs 5 (some .boolean) : Cond) ∈ mTL := mtb7 (List.mem_of_getElem? (i := 86) rfl) rfl
set_option maxRecDepth 10000 in
theorem wd1618 : (.methodLink RL 181 yX12_right : Cond) ∈ mTL := mtb7 (List.mem_of_getElem? (i := 87) rfl) rfl
set_option maxRecDepth 10000 in
theorem wd1619 : (.instanceMethod yX12_right : Cond) ∈ mTL := mtb7 (List.mem_of_getElem? (i := 88) rfl) rfl
set_option maxRecDepth 10000 in
theorem wd1620 : (.selects RX12 yX12_right yX12_right : Cond) ∈ mTL := mtb7 (List.mem_of_getElem? (i := 89) rfl) rfl
set_option maxRecDepth 10000 in
theorem wd1621 : (.code yX12_right cX12_right 8 (some .int) : Cond) ∈ mTL := mtb7 (List.mem_of_getElem? (i := 90) rfl) rfl
set_option maxRecDepth 10000 in
theorem wd1622 : (.methodLink RL 185 yX12_worstBird : Cond) ∈ mTL := mtb7 (List.mem_of_getElem? (i := 91) rfl) rfl
set_option maxRecDepth 10000 in
theorem wd1623 : (.instanceMethod yX12_worstBird : Cond) ∈ mTL := mtb7 (List.mem_of_getElem? (i := 92) rfl) rfl
set_option maxRecDepth 10000 in
theorem wd1624 : (.selects RX12 yX12_worstBird yX12_worstBird : Cond) ∈ mTL := mtb7 (List.mem_of_getElem? (i := 93) rfl) rfl
set_option maxRecDepth 10000 in
theorem wd1625 : (.code yX12_worstBird cX12_worstBird 5 (some .int) : Cond) ∈ mTL := mtb7 (List.mem_of_getElem? (i := 94) rfl) rfl
set_option maxRecDepth 10000 in
theorem wd1626 : (.methodLink RL 189 yX12_gather : Cond) ∈ mTL := mtb7 (List.mem_of_getElem? (i := 95) rfl) rfl
set_option maxRecDepth 10000 in
theorem wd1627 : (.instanceMethod yX12_gather : Cond) ∈ mTL := mtb7 (List.mem_of_getElem? (i := 96) rfl) rfl
set_option maxRecDepth 10000 in
theorem wd1628 : (.selects RX12 yX12_gather yX12_gather : Cond) ∈ mTL := mtb7 (List.mem_of_getElem? (i := 97) rfl) rfl
set_option maxRecDepth 10000 in
theorem wd1629 : (.code yX12_gather cX12_gather 3 (some .int) : Cond) ∈ mTL := mtb7 (List.mem_of_getElem? (i := 98) rfl) rfl
set_option maxRecDepth 10000 in
theorem wd1630 : (.methodLink RL 193 yX12_row : Cond) ∈ mTL := mtb7 (List.mem_of_getElem? (i := 99) rfl) rfl
set_option maxRecDepth 10000 in
theorem wd1631 : (.instanceMethod yX12_row : Cond) ∈ mTL := mtb7 (List.mem_of_getElem? (i := 100) rfl) rfl
set_option maxRecDepth 10000 in
theorem wd1632 : (.selects RX12 yX12_row yX12_row : Cond) ∈ mTL := mtb7 (List.mem_of_getElem? (i := 101) rfl) rfl
set_option maxRecDepth 10000 in
theorem wd1633 : (.code yX12_row cX12_row 3 (some .int) : Cond) ∈ mTL := mtb7 (List.mem_of_getElem? (i := 102) rfl) rfl
set_option maxRecDepth 10000 in
theorem wd1634 : (.methodLink RL 197 yX12_judge : Cond) ∈ mTL := mtb7 (List.mem_of_getElem? (i := 103) rfl) rfl
set_option maxRecDepth 10000 in
theorem wd1635 : (.instanceMethod yX12_judge : Cond) ∈ mTL := mtb7 (List.mem_of_getElem? (i := 104) rfl) rfl
set_option maxRecDepth 10000 in
theorem wd1636 : (.selects RX12 yX12_judge yX12_judge : Cond) ∈ mTL := mtb7 (List.mem_of_getElem? (i := 105) rfl) rfl
set_option maxRecDepth 10000 in
theorem wd1637 : (.code yX12_judge cX12_judge 3 (some .int) : Cond) ∈ mTL := mtb7 (List.mem_of_getElem? (i := 106) rfl) rfl
set_option maxRecDepth 10000 in
theorem wd1638 : (.methodLink RL 201 yX12_clear : Cond) ∈ mTL := mtb7 (List.mem_of_getElem? (i := 107) rfl) rfl
set_option maxRecDepth 10000 in
theorem wd1639 : (.instanceMethod yX12_clear : Cond) ∈ mTL := mtb7 (List.mem_of_getElem? (i := 108) rfl) rfl
set_option maxRecDepth 10000 in
theorem wd1640 : (.selects RX12 yX12_clear yX12_clear : Cond) ∈ mTL := mtb7 (List.mem_of_getElem? (i := 109) rfl) rfl
set_option maxRecDepth 10000 in
theorem wd1641 : (.code yX12_clear cX12_clear 2 (some .int) : Cond) ∈ mTL := mtb7 (List.mem_of_getElem? (i := 110) rfl) rfl
set_option maxRecDepth 10000 in
theorem wd1642 : (.methodLink RL 205 yX12_lots : Cond) ∈ mTL := mtb7 (List.mem_of_getElem? (i := 111) rfl) rfl
set_option maxRecDepth 10000 in
theorem wd1643 : (.instanceMethod yX12_lots : Cond) ∈ mTL := mtb7 (List.mem_of_getElem? (i := 112) rfl) rfl
set_option maxRecDepth 10000 in
theorem wd1644 : (.selects RX12 yX12_lots yX12_lots : Cond) ∈ mTL := mtb7 (List.mem_of_getElem? (i := 113) rfl) rfl
set_option maxRecDepth 10000 in
theorem wd1645 : (.code yX12_lots cX12_lots 10 (some .int) : Cond) ∈ mTL := mtb7 (List.mem_of_getElem? (i := 114) rfl) rfl
set_option maxRecDepth 10000 in
theorem wd1646 : (.constant RX12 335 1103515245 : Cond) ∈ mTL := mtb7 (List.mem_of_getElem? (i := 115) rfl) rfl
set_option maxRecDepth 10000 in
theorem wd1647 : (.constant RX12 336 2147483647 : Cond) ∈ mTL := mtb7 (List.mem_of_getElem? (i := 116) rfl) rfl
set_option maxRecDepth 10000 in
theorem wd1648 : (.constant RX12 337 65536 : Cond) ∈ mTL := mtb7 (List.mem_of_getElem? (i := 117) rfl) rfl
set_option maxRecDepth 10000 in
theorem wd1649 : (.methodLink RL 217 yX12_count : Cond) ∈ mTL := mtb7 (List.mem_of_getElem? (i := 118) rfl) rfl
set_option maxRecDepth 10000 in
theorem wd1650 : (.instanceMethod yX12_count : Cond) ∈ mTL := mtb7 (List.mem_of_getElem? (i := 119) rfl) rfl
set_option maxRecDepth 10000 in
theorem wd1651 : (.selects RX12 yX12_count yX12_count : Cond) ∈ mTL := mtb7 (List.mem_of_getElem? (i := 120) rfl) rfl
set_option maxRecDepth 10000 in
theorem wd1652 : (.code yX12_count cX12_count 2 (some .int) : Cond) ∈ mTL := mtb7 (List.mem_of_getElem? (i := 121) rfl) rfl
